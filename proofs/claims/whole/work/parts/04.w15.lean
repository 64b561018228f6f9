/-! WALKS 15: X8_readItem X8_read X8_rests X8_served X8_sure X8_told X8_type X8_unline X8_wise X8_write -/
theorem dX8_readItem_0 : decode cX8_readItem 0 = .ok (.aload_n 0, 1) := by decide +kernel
theorem dX8_readItem_1 : decode cX8_readItem 1 = .ok (.getfield 218, 3) := by decide +kernel
theorem dX8_readItem_4 : decode cX8_readItem 4 = .ok (.iconst 2, 1) := by decide +kernel
theorem dX8_readItem_5 : decode cX8_readItem 5 = .ok (.if_icmp .eq 5, 3) := by decide +kernel
theorem dX8_readItem_8 : decode cX8_readItem 8 = .ok (.iconst 0, 1) := by decide +kernel
theorem dX8_readItem_9 : decode cX8_readItem 9 = .ok (.ireturn, 1) := by decide +kernel
theorem dX8_readItem_10 : decode cX8_readItem 10 = .ok (.aload_n 0, 1) := by decide +kernel
theorem dX8_readItem_11 : decode cX8_readItem 11 = .ok (.aload_n 0, 1) := by decide +kernel
theorem dX8_readItem_12 : decode cX8_readItem 12 = .ok (.getfield 215, 3) := by decide +kernel
theorem dX8_readItem_15 : decode cX8_readItem 15 = .ok (.putfield 240, 3) := by decide +kernel
theorem dX8_readItem_18 : decode cX8_readItem 18 = .ok (.aload_n 0, 1) := by decide +kernel
theorem dX8_readItem_19 : decode cX8_readItem 19 = .ok (.invokevirtual 243, 3) := by decide +kernel
theorem dX8_readItem_22 : decode cX8_readItem 22 = .ok (.aload_n 0, 1) := by decide +kernel
theorem dX8_readItem_23 : decode cX8_readItem 23 = .ok (.aload_n 0, 1) := by decide +kernel
theorem dX8_readItem_24 : decode cX8_readItem 24 = .ok (.invokevirtual 246, 3) := by decide +kernel
theorem dX8_readItem_27 : decode cX8_readItem 27 = .ok (.putfield 249, 3) := by decide +kernel
theorem dX8_readItem_30 : decode cX8_readItem 30 = .ok (.aload_n 0, 1) := by decide +kernel
theorem dX8_readItem_31 : decode cX8_readItem 31 = .ok (.getfield 249, 3) := by decide +kernel
theorem dX8_readItem_34 : decode cX8_readItem 34 = .ok (.iconst (-1), 1) := by decide +kernel
theorem dX8_readItem_35 : decode cX8_readItem 35 = .ok (.if_icmp .ne 5, 3) := by decide +kernel
theorem dX8_readItem_38 : decode cX8_readItem 38 = .ok (.iconst 0, 1) := by decide +kernel
theorem dX8_readItem_39 : decode cX8_readItem 39 = .ok (.ireturn, 1) := by decide +kernel
theorem dX8_readItem_40 : decode cX8_readItem 40 = .ok (.aload_n 0, 1) := by decide +kernel
theorem dX8_readItem_41 : decode cX8_readItem 41 = .ok (.invokevirtual 243, 3) := by decide +kernel
theorem dX8_readItem_44 : decode cX8_readItem 44 = .ok (.aload_n 0, 1) := by decide +kernel
theorem dX8_readItem_45 : decode cX8_readItem 45 = .ok (.getfield 218, 3) := by decide +kernel
theorem dX8_readItem_48 : decode cX8_readItem 48 = .ok (.iconst 2, 1) := by decide +kernel
theorem dX8_readItem_49 : decode cX8_readItem 49 = .ok (.if_icmp .eq 5, 3) := by decide +kernel
theorem dX8_readItem_52 : decode cX8_readItem 52 = .ok (.iconst 0, 1) := by decide +kernel
theorem dX8_readItem_53 : decode cX8_readItem 53 = .ok (.ireturn, 1) := by decide +kernel
theorem dX8_readItem_54 : decode cX8_readItem 54 = .ok (.aload_n 0, 1) := by decide +kernel
theorem dX8_readItem_55 : decode cX8_readItem 55 = .ok (.aload_n 0, 1) := by decide +kernel
theorem dX8_readItem_56 : decode cX8_readItem 56 = .ok (.getfield 215, 3) := by decide +kernel
theorem dX8_readItem_59 : decode cX8_readItem 59 = .ok (.putfield 252, 3) := by decide +kernel
theorem dX8_readItem_62 : decode cX8_readItem 62 = .ok (.aload_n 0, 1) := by decide +kernel
theorem dX8_readItem_63 : decode cX8_readItem 63 = .ok (.invokevirtual 243, 3) := by decide +kernel
theorem dX8_readItem_66 : decode cX8_readItem 66 = .ok (.aload_n 0, 1) := by decide +kernel
theorem dX8_readItem_67 : decode cX8_readItem 67 = .ok (.iconst 0, 1) := by decide +kernel
theorem dX8_readItem_68 : decode cX8_readItem 68 = .ok (.putfield 255, 3) := by decide +kernel
theorem dX8_readItem_71 : decode cX8_readItem 71 = .ok (.aload_n 0, 1) := by decide +kernel
theorem dX8_readItem_72 : decode cX8_readItem 72 = .ok (.iconst 0, 1) := by decide +kernel
theorem dX8_readItem_73 : decode cX8_readItem 73 = .ok (.putfield 258, 3) := by decide +kernel
theorem dX8_readItem_76 : decode cX8_readItem 76 = .ok (.aload_n 0, 1) := by decide +kernel
theorem dX8_readItem_77 : decode cX8_readItem 77 = .ok (.getfield 249, 3) := by decide +kernel
theorem dX8_readItem_80 : decode cX8_readItem 80 = .ok (.invokestatic 185, 3) := by decide +kernel
theorem dX8_readItem_83 : decode cX8_readItem 83 = .ok (.ifCond .eq 52, 3) := by decide +kernel
theorem dX8_readItem_86 : decode cX8_readItem 86 = .ok (.aload_n 0, 1) := by decide +kernel
theorem dX8_readItem_87 : decode cX8_readItem 87 = .ok (.getfield 218, 3) := by decide +kernel
theorem dX8_readItem_90 : decode cX8_readItem 90 = .ok (.iconst 2, 1) := by decide +kernel
theorem dX8_readItem_91 : decode cX8_readItem 91 = .ok (.if_icmp .eq 20, 3) := by decide +kernel
theorem dX8_readItem_94 : decode cX8_readItem 94 = .ok (.aload_n 0, 1) := by decide +kernel
theorem dX8_readItem_95 : decode cX8_readItem 95 = .ok (.getfield 218, 3) := by decide +kernel
theorem dX8_readItem_98 : decode cX8_readItem 98 = .ok (.iconst 3, 1) := by decide +kernel
theorem dX8_readItem_99 : decode cX8_readItem 99 = .ok (.if_icmp .ne 10, 3) := by decide +kernel
theorem dX8_readItem_102 : decode cX8_readItem 102 = .ok (.aload_n 0, 1) := by decide +kernel
theorem dX8_readItem_103 : decode cX8_readItem 103 = .ok (.getfield 249, 3) := by decide +kernel
theorem dX8_readItem_106 : decode cX8_readItem 106 = .ok (.ifCond .eq 5, 3) := by decide +kernel
theorem dX8_readItem_109 : decode cX8_readItem 109 = .ok (.iconst 0, 1) := by decide +kernel
theorem dX8_readItem_110 : decode cX8_readItem 110 = .ok (.ireturn, 1) := by decide +kernel
theorem dX8_readItem_111 : decode cX8_readItem 111 = .ok (.aload_n 0, 1) := by decide +kernel
theorem dX8_readItem_112 : decode cX8_readItem 112 = .ok (.aload_n 0, 1) := by decide +kernel
theorem dX8_readItem_113 : decode cX8_readItem 113 = .ok (.getfield 218, 3) := by decide +kernel
theorem dX8_readItem_116 : decode cX8_readItem 116 = .ok (.iconst 3, 1) := by decide +kernel
theorem dX8_readItem_117 : decode cX8_readItem 117 = .ok (.if_icmp .ne 7, 3) := by decide +kernel
theorem dX8_readItem_120 : decode cX8_readItem 120 = .ok (.iconst (-1), 1) := by decide +kernel
theorem dX8_readItem_121 : decode cX8_readItem 121 = .ok (.goto 7, 3) := by decide +kernel
theorem dX8_readItem_124 : decode cX8_readItem 124 = .ok (.aload_n 0, 1) := by decide +kernel
theorem dX8_readItem_125 : decode cX8_readItem 125 = .ok (.getfield 215, 3) := by decide +kernel
theorem dX8_readItem_128 : decode cX8_readItem 128 = .ok (.putfield 255, 3) := by decide +kernel
theorem dX8_readItem_131 : decode cX8_readItem 131 = .ok (.aload_n 0, 1) := by decide +kernel
theorem dX8_readItem_132 : decode cX8_readItem 132 = .ok (.invokevirtual 243, 3) := by decide +kernel
theorem dX8_readItem_135 : decode cX8_readItem 135 = .ok (.aload_n 0, 1) := by decide +kernel
theorem dX8_readItem_136 : decode cX8_readItem 136 = .ok (.getfield 249, 3) := by decide +kernel
theorem dX8_readItem_139 : decode cX8_readItem 139 = .ok (.invokestatic 188, 3) := by decide +kernel
theorem dX8_readItem_142 : decode cX8_readItem 142 = .ok (.ifCond .eq 25, 3) := by decide +kernel
theorem dX8_readItem_145 : decode cX8_readItem 145 = .ok (.aload_n 0, 1) := by decide +kernel
theorem dX8_readItem_146 : decode cX8_readItem 146 = .ok (.getfield 218, 3) := by decide +kernel
theorem dX8_readItem_149 : decode cX8_readItem 149 = .ok (.iconst 2, 1) := by decide +kernel
theorem dX8_readItem_150 : decode cX8_readItem 150 = .ok (.if_icmp .eq 5, 3) := by decide +kernel
theorem dX8_readItem_153 : decode cX8_readItem 153 = .ok (.iconst 0, 1) := by decide +kernel
theorem dX8_readItem_154 : decode cX8_readItem 154 = .ok (.ireturn, 1) := by decide +kernel
theorem dX8_readItem_155 : decode cX8_readItem 155 = .ok (.aload_n 0, 1) := by decide +kernel
theorem dX8_readItem_156 : decode cX8_readItem 156 = .ok (.aload_n 0, 1) := by decide +kernel
theorem dX8_readItem_157 : decode cX8_readItem 157 = .ok (.getfield 215, 3) := by decide +kernel
theorem dX8_readItem_160 : decode cX8_readItem 160 = .ok (.putfield 258, 3) := by decide +kernel
theorem dX8_readItem_163 : decode cX8_readItem 163 = .ok (.aload_n 0, 1) := by decide +kernel
theorem dX8_readItem_164 : decode cX8_readItem 164 = .ok (.invokevirtual 243, 3) := by decide +kernel
theorem dX8_readItem_167 : decode cX8_readItem 167 = .ok (.aload_n 0, 1) := by decide +kernel
theorem dX8_readItem_168 : decode cX8_readItem 168 = .ok (.getfield 218, 3) := by decide +kernel
theorem dX8_readItem_171 : decode cX8_readItem 171 = .ok (.iconst 4, 1) := by decide +kernel
theorem dX8_readItem_172 : decode cX8_readItem 172 = .ok (.if_icmp .eq 5, 3) := by decide +kernel
theorem dX8_readItem_175 : decode cX8_readItem 175 = .ok (.iconst 0, 1) := by decide +kernel
theorem dX8_readItem_176 : decode cX8_readItem 176 = .ok (.ireturn, 1) := by decide +kernel
theorem dX8_readItem_177 : decode cX8_readItem 177 = .ok (.aload_n 0, 1) := by decide +kernel
theorem dX8_readItem_178 : decode cX8_readItem 178 = .ok (.invokevirtual 243, 3) := by decide +kernel
theorem dX8_readItem_181 : decode cX8_readItem 181 = .ok (.iconst 1, 1) := by decide +kernel
theorem dX8_readItem_182 : decode cX8_readItem 182 = .ok (.ireturn, 1) := by decide +kernel
def f_X8_readItem_b167 (n : Nat) (M : m_M) : Option (Int32 × m_M) :=
  if (M.1 172 29) = 4 then
  m_ob (f_X8_next n M) fun M2 =>
  some (1, M2)
  else
  some (0, M)
def f_X8_readItem_b135 (n : Nat) (M : m_M) : Option (Int32 × m_M) :=
  m_bd (f_X8_namesV (M.1 172 32)) fun r3 =>
  if r3 = 0 then
  f_X8_readItem_b167 n M
  else
  if (M.1 172 29) = 2 then
  m_bd (m_sI M 172 35 (M.1 172 30)) fun M7 =>
  m_ob (f_X8_next n M7) fun M8 =>
  f_X8_readItem_b167 n M8
  else
  some (0, M)
def f_X8_readItem_b111 (n : Nat) (M : m_M) : Option (Int32 × m_M) :=
  if (M.1 172 29) = 3 then
  m_bd (m_sI M 172 34 (-1)) fun M12 =>
  m_ob (f_X8_next n M12) fun M13 =>
  f_X8_readItem_b135 n M13
  else
  m_bd (m_sI M 172 34 (M.1 172 30)) fun M10 =>
  m_ob (f_X8_next n M10) fun M11 =>
  f_X8_readItem_b135 n M11
def f_X8_readItem (n : Nat) (M : m_M) : Option (Int32 × m_M) :=
  if (M.1 172 29) = 2 then
  m_bd (m_sI M 172 31 (M.1 172 30)) fun M15 =>
  m_ob (f_X8_next n M15) fun M16 =>
  m_ob (f_X8_verb n M16) fun r17 =>
  m_bd (m_sI M16 172 32 r17) fun M18 =>
  if (M18.1 172 32) = (-1) then
  some (0, M18)
  else
  m_ob (f_X8_next n M18) fun M20 =>
  if (M20.1 172 29) = 2 then
  m_bd (m_sI M20 172 33 (M20.1 172 30)) fun M22 =>
  m_ob (f_X8_next n M22) fun M23 =>
  m_bd (m_sI M23 172 34 0) fun M24 =>
  m_bd (m_sI M24 172 35 0) fun M25 =>
  m_bd (f_X8_namesB (M25.1 172 32)) fun r26 =>
  if r26 = 0 then
  f_X8_readItem_b135 n M25
  else
  if (M25.1 172 29) = 2 then
  f_X8_readItem_b111 n M25
  else
  if (M25.1 172 29) = 3 then
  if (M25.1 172 32) = 0 then
  f_X8_readItem_b111 n M25
  else
  some (0, M25)
  else
  some (0, M25)
  else
  some (0, M20)
  else
  some (0, M)
set_option maxHeartbeats 4000000 in
set_option maxRecDepth 100000 in
theorem c_X8_readItem (l : Launch) (G : m_G) {n : Nat} {M : m_M} {r0 : Int32} {M0 : m_M}  (hres : f_X8_readItem n M = some (r0, M0)) : Met l yX8_readItem (m_U yX8_readItem cX8_readItem 1 (some .boolean)) (m_R 4 88) (m_Pc G [.ref (m_ad G 172)] M) (m_Qz G r0 M0) 0 0 (m_A G) := by
  refine m_i0 (n := 1) RX8 rfl (by decide) (Nat.le_of_ble_eq_true rfl) ?_
  intro p e s m args below meth c X hr hlk hSt hP hS ls hl
  have hl : lv_has ls 1 [(0, .ref (m_ad G 172))] := hl
  have B167 : ∀  (M : m_M) (H : Heap) (locs : List Loc) (ls : Array Slot), m_P G M H → va_S (m_A G) s.heap H locs → lv_has ls 1 [(0, .ref (m_ad G 172))] → f_X8_readItem_b167 n M = some (r0, M0) → W p l e (m_R 4 88) s m args below meth c H locs 0 0 (MQ below (m_Qz G r0 M0) args s 0 0 (m_A G)) (F0 m 167 ls []) := by
    intro M H locs ls hP hS hl hres
    unfold f_X8_readItem_b167 at hres
    refine lv_aload_n X.1 X.2.1 dX8_readItem_167 rfl (lv_at hl 0 rfl) ?_
    refine m_g8 (v := .int (M.1 172 29)) X hSt hP m_z_172 29 (by decide) rfl k_f_X8_218 dX8_readItem_168 ?_
    refine lv_iconst (v := 4) X.1 X.2.1 dX8_readItem_171 (by decide) ?_
    refine lv_icmp_eq (tgt := 177) X.1 X.2.1 dX8_readItem_172 (by decide) (fun hc1 => ?_) (fun hc1 => ?_)
    · have hres := m_it hres hc1
      refine lv_aload_n X.1 X.2.1 dX8_readItem_177 rfl (lv_at hl 0 rfl) ?_
      obtain ⟨M2, eM2, hres⟩ := m_ob_e hres
      refine m_bv (m_cV (n := 0) (As := []) (rest := []) X hSt hP hS hl.1 (c_X8_next l G  eM2) k_c_yX8_next k_m_X8_243 k_i_yX8_next k_s_yX8_next k_n_X8 (by decide +kernel) (m_rc8 hSt hP m_z_172) rfl rfl ⟨Nat.le_of_ble_eq_true rfl, Nat.le_of_ble_eq_true rfl⟩ (Nat.le_of_ble_eq_true rfl) ⟨Nat.zero_le _, Nat.zero_le _⟩ dX8_readItem_178) hS (fun H locs hP hS => ?_)
      refine lv_iconst (v := 1) X.1 X.2.1 dX8_readItem_181 (by decide) ?_
      exact m_rz X hr hlk hP hS (Prod.mk.inj (Option.some.inj hres)).1 (Prod.mk.inj (Option.some.inj hres)).2 (by decide) dX8_readItem_182
    · have hres := m_if hres hc1
      refine lv_iconst (v := 0) X.1 X.2.1 dX8_readItem_175 (by decide) ?_
      exact m_rz X hr hlk hP hS (Prod.mk.inj (Option.some.inj hres)).1 (Prod.mk.inj (Option.some.inj hres)).2 (by decide) dX8_readItem_176
  have B135 : ∀  (M : m_M) (H : Heap) (locs : List Loc) (ls : Array Slot), m_P G M H → va_S (m_A G) s.heap H locs → lv_has ls 1 [(0, .ref (m_ad G 172))] → f_X8_readItem_b135 n M = some (r0, M0) → W p l e (m_R 4 88) s m args below meth c H locs 0 0 (MQ below (m_Qz G r0 M0) args s 0 0 (m_A G)) (F0 m 135 ls []) := by
    intro M H locs ls hP hS hl hres
    unfold f_X8_readItem_b135 at hres
    refine lv_aload_n X.1 X.2.1 dX8_readItem_135 rfl (lv_at hl 0 rfl) ?_
    refine m_g8 (v := .int (M.1 172 32)) X hSt hP m_z_172 32 (by decide) rfl k_f_X8_249 dX8_readItem_136 ?_
    obtain ⟨r3, err3, hres⟩ := m_bd_e hres
    refine m_bz (m_cS (n := 1) (As := [.int (M.1 172 32)]) (rest := []) X hSt hP hS hl.1 (c_X8_namesV l G (M := M)  err3) k_c_yX8_namesV k_m_X8_188 k_t_yX8_namesV k_n_X8 (by decide +kernel) rfl rfl ⟨Nat.le_of_ble_eq_true rfl, Nat.le_of_ble_eq_true rfl⟩ (Nat.le_of_ble_eq_true rfl) ⟨Nat.zero_le _, Nat.zero_le _⟩ dX8_readItem_139) hS (fun H locs hP hS hz4 => ?_)
    refine lv_if_eq (tgt := 167) X.1 X.2.1 dX8_readItem_142 (by decide) (fun hc5 => ?_) (fun hc5 => ?_)
    · have hres := m_it hres hc5
      exact B167 M _ _ _ hP hS (lv_sub hl [0] rfl) hres
    · have hres := m_if hres hc5
      refine lv_aload_n X.1 X.2.1 dX8_readItem_145 rfl (lv_at hl 0 rfl) ?_
      refine m_g8 (v := .int (M.1 172 29)) X hSt hP m_z_172 29 (by decide) rfl k_f_X8_218 dX8_readItem_146 ?_
      refine lv_iconst (v := 2) X.1 X.2.1 dX8_readItem_149 (by decide) ?_
      refine lv_icmp_eq (tgt := 155) X.1 X.2.1 dX8_readItem_150 (by decide) (fun hc6 => ?_) (fun hc6 => ?_)
      · have hres := m_it hres hc6
        refine lv_aload_n X.1 X.2.1 dX8_readItem_155 rfl (lv_at hl 0 rfl) ?_
        refine lv_aload_n X.1 X.2.1 dX8_readItem_156 rfl (lv_at hl 0 rfl) ?_
        refine m_g8 (v := .int (M.1 172 30)) X hSt hP m_z_172 30 (by decide) rfl k_f_X8_215 dX8_readItem_157 ?_
        obtain ⟨M7, eM7, hres⟩ := m_bd_e hres
        refine m_pi8 X hSt hP hS m_z_172 35 (by decide) eM7 rfl rfl (by decide) k_f_X8_258 dX8_readItem_160 (fun H locs hP hS => ?_)
        refine lv_aload_n X.1 X.2.1 dX8_readItem_163 rfl (lv_at hl 0 rfl) ?_
        obtain ⟨M8, eM8, hres⟩ := m_ob_e hres
        refine m_bv (m_cV (n := 0) (As := []) (rest := []) X hSt hP hS hl.1 (c_X8_next l G  eM8) k_c_yX8_next k_m_X8_243 k_i_yX8_next k_s_yX8_next k_n_X8 (by decide +kernel) (m_rc8 hSt hP m_z_172) rfl rfl ⟨Nat.le_of_ble_eq_true rfl, Nat.le_of_ble_eq_true rfl⟩ (Nat.le_of_ble_eq_true rfl) ⟨Nat.zero_le _, Nat.zero_le _⟩ dX8_readItem_164) hS (fun H locs hP hS => ?_)
        exact B167 M8 _ _ _ hP hS (lv_sub hl [0] rfl) hres
      · have hres := m_if hres hc6
        refine lv_iconst (v := 0) X.1 X.2.1 dX8_readItem_153 (by decide) ?_
        exact m_rz X hr hlk hP hS (Prod.mk.inj (Option.some.inj hres)).1 (Prod.mk.inj (Option.some.inj hres)).2 (by decide) dX8_readItem_154
  have B111 : ∀  (M : m_M) (H : Heap) (locs : List Loc) (ls : Array Slot), m_P G M H → va_S (m_A G) s.heap H locs → lv_has ls 1 [(0, .ref (m_ad G 172))] → f_X8_readItem_b111 n M = some (r0, M0) → W p l e (m_R 4 88) s m args below meth c H locs 0 0 (MQ below (m_Qz G r0 M0) args s 0 0 (m_A G)) (F0 m 111 ls []) := by
    intro M H locs ls hP hS hl hres
    unfold f_X8_readItem_b111 at hres
    refine lv_aload_n X.1 X.2.1 dX8_readItem_111 rfl (lv_at hl 0 rfl) ?_
    refine lv_aload_n X.1 X.2.1 dX8_readItem_112 rfl (lv_at hl 0 rfl) ?_
    refine m_g8 (v := .int (M.1 172 29)) X hSt hP m_z_172 29 (by decide) rfl k_f_X8_218 dX8_readItem_113 ?_
    refine lv_iconst (v := 3) X.1 X.2.1 dX8_readItem_116 (by decide) ?_
    refine lv_icmp_ne (tgt := 124) X.1 X.2.1 dX8_readItem_117 (by decide) (fun hc9 => ?_) (fun hc9 => ?_)
    · have hres := m_if hres hc9
      refine lv_aload_n X.1 X.2.1 dX8_readItem_124 rfl (lv_at hl 0 rfl) ?_
      refine m_g8 (v := .int (M.1 172 30)) X hSt hP m_z_172 30 (by decide) rfl k_f_X8_215 dX8_readItem_125 ?_
      obtain ⟨M10, eM10, hres⟩ := m_bd_e hres
      refine m_pi8 X hSt hP hS m_z_172 34 (by decide) eM10 rfl rfl (by decide) k_f_X8_255 dX8_readItem_128 (fun H locs hP hS => ?_)
      refine lv_aload_n X.1 X.2.1 dX8_readItem_131 rfl (lv_at hl 0 rfl) ?_
      obtain ⟨M11, eM11, hres⟩ := m_ob_e hres
      refine m_bv (m_cV (n := 0) (As := []) (rest := []) X hSt hP hS hl.1 (c_X8_next l G  eM11) k_c_yX8_next k_m_X8_243 k_i_yX8_next k_s_yX8_next k_n_X8 (by decide +kernel) (m_rc8 hSt hP m_z_172) rfl rfl ⟨Nat.le_of_ble_eq_true rfl, Nat.le_of_ble_eq_true rfl⟩ (Nat.le_of_ble_eq_true rfl) ⟨Nat.zero_le _, Nat.zero_le _⟩ dX8_readItem_132) hS (fun H locs hP hS => ?_)
      exact B135 M11 _ _ _ hP hS (lv_sub hl [0] rfl) hres
    · have hres := m_it hres hc9
      refine lv_iconst (v := (-1)) X.1 X.2.1 dX8_readItem_120 (by decide) ?_
      refine lv_goto (tgt := 128) X.1 X.2.1 dX8_readItem_121 (by decide) ?_
      obtain ⟨M12, eM12, hres⟩ := m_bd_e hres
      refine m_pi8 X hSt hP hS m_z_172 34 (by decide) eM12 rfl rfl (by decide) k_f_X8_255 dX8_readItem_128 (fun H locs hP hS => ?_)
      refine lv_aload_n X.1 X.2.1 dX8_readItem_131 rfl (lv_at hl 0 rfl) ?_
      obtain ⟨M13, eM13, hres⟩ := m_ob_e hres
      refine m_bv (m_cV (n := 0) (As := []) (rest := []) X hSt hP hS hl.1 (c_X8_next l G  eM13) k_c_yX8_next k_m_X8_243 k_i_yX8_next k_s_yX8_next k_n_X8 (by decide +kernel) (m_rc8 hSt hP m_z_172) rfl rfl ⟨Nat.le_of_ble_eq_true rfl, Nat.le_of_ble_eq_true rfl⟩ (Nat.le_of_ble_eq_true rfl) ⟨Nat.zero_le _, Nat.zero_le _⟩ dX8_readItem_132) hS (fun H locs hP hS => ?_)
      exact B135 M13 _ _ _ hP hS (lv_sub hl [0] rfl) hres
  unfold f_X8_readItem at hres
  refine lv_aload_n X.1 X.2.1 dX8_readItem_0 rfl (lv_at hl 0 rfl) ?_
  refine m_g8 (v := .int (M.1 172 29)) X hSt hP m_z_172 29 (by decide) rfl k_f_X8_218 dX8_readItem_1 ?_
  refine lv_iconst (v := 2) X.1 X.2.1 dX8_readItem_4 (by decide) ?_
  refine lv_icmp_eq (tgt := 10) X.1 X.2.1 dX8_readItem_5 (by decide) (fun hc14 => ?_) (fun hc14 => ?_)
  · have hres := m_it hres hc14
    refine lv_aload_n X.1 X.2.1 dX8_readItem_10 rfl (lv_at hl 0 rfl) ?_
    refine lv_aload_n X.1 X.2.1 dX8_readItem_11 rfl (lv_at hl 0 rfl) ?_
    refine m_g8 (v := .int (M.1 172 30)) X hSt hP m_z_172 30 (by decide) rfl k_f_X8_215 dX8_readItem_12 ?_
    obtain ⟨M15, eM15, hres⟩ := m_bd_e hres
    refine m_pi8 X hSt hP hS m_z_172 31 (by decide) eM15 rfl rfl (by decide) k_f_X8_240 dX8_readItem_15 (fun H locs hP hS => ?_)
    refine lv_aload_n X.1 X.2.1 dX8_readItem_18 rfl (lv_at hl 0 rfl) ?_
    obtain ⟨M16, eM16, hres⟩ := m_ob_e hres
    refine m_bv (m_cV (n := 0) (As := []) (rest := []) X hSt hP hS hl.1 (c_X8_next l G  eM16) k_c_yX8_next k_m_X8_243 k_i_yX8_next k_s_yX8_next k_n_X8 (by decide +kernel) (m_rc8 hSt hP m_z_172) rfl rfl ⟨Nat.le_of_ble_eq_true rfl, Nat.le_of_ble_eq_true rfl⟩ (Nat.le_of_ble_eq_true rfl) ⟨Nat.zero_le _, Nat.zero_le _⟩ dX8_readItem_19) hS (fun H locs hP hS => ?_)
    refine lv_aload_n X.1 X.2.1 dX8_readItem_22 rfl (lv_at hl 0 rfl) ?_
    refine lv_aload_n X.1 X.2.1 dX8_readItem_23 rfl (lv_at hl 0 rfl) ?_
    obtain ⟨r17, err17, hres⟩ := m_ob_e hres
    refine m_bi (m_cV (n := 0) (As := []) (rest := [.ref (m_ad G 172)]) X hSt hP hS hl.1 (c_X8_verb l G  err17) k_c_yX8_verb k_m_X8_246 k_i_yX8_verb k_s_yX8_verb k_n_X8 (by decide +kernel) (m_rc8 hSt hP m_z_172) rfl rfl ⟨Nat.le_of_ble_eq_true rfl, Nat.le_of_ble_eq_true rfl⟩ (Nat.le_of_ble_eq_true rfl) ⟨Nat.zero_le _, Nat.zero_le _⟩ dX8_readItem_24) hS (fun H locs hP hS => ?_)
    obtain ⟨M18, eM18, hres⟩ := m_bd_e hres
    refine m_pi8 X hSt hP hS m_z_172 32 (by decide) eM18 rfl rfl (by decide) k_f_X8_249 dX8_readItem_27 (fun H locs hP hS => ?_)
    refine lv_aload_n X.1 X.2.1 dX8_readItem_30 rfl (lv_at hl 0 rfl) ?_
    refine m_g8 (v := .int (M18.1 172 32)) X hSt hP m_z_172 32 (by decide) rfl k_f_X8_249 dX8_readItem_31 ?_
    refine lv_iconst (v := (-1)) X.1 X.2.1 dX8_readItem_34 (by decide) ?_
    refine lv_icmp_ne (tgt := 40) X.1 X.2.1 dX8_readItem_35 (by decide) (fun hc19 => ?_) (fun hc19 => ?_)
    · have hres := m_if hres hc19
      refine lv_aload_n X.1 X.2.1 dX8_readItem_40 rfl (lv_at hl 0 rfl) ?_
      obtain ⟨M20, eM20, hres⟩ := m_ob_e hres
      refine m_bv (m_cV (n := 0) (As := []) (rest := []) X hSt hP hS hl.1 (c_X8_next l G  eM20) k_c_yX8_next k_m_X8_243 k_i_yX8_next k_s_yX8_next k_n_X8 (by decide +kernel) (m_rc8 hSt hP m_z_172) rfl rfl ⟨Nat.le_of_ble_eq_true rfl, Nat.le_of_ble_eq_true rfl⟩ (Nat.le_of_ble_eq_true rfl) ⟨Nat.zero_le _, Nat.zero_le _⟩ dX8_readItem_41) hS (fun H locs hP hS => ?_)
      refine lv_aload_n X.1 X.2.1 dX8_readItem_44 rfl (lv_at hl 0 rfl) ?_
      refine m_g8 (v := .int (M20.1 172 29)) X hSt hP m_z_172 29 (by decide) rfl k_f_X8_218 dX8_readItem_45 ?_
      refine lv_iconst (v := 2) X.1 X.2.1 dX8_readItem_48 (by decide) ?_
      refine lv_icmp_eq (tgt := 54) X.1 X.2.1 dX8_readItem_49 (by decide) (fun hc21 => ?_) (fun hc21 => ?_)
      · have hres := m_it hres hc21
        refine lv_aload_n X.1 X.2.1 dX8_readItem_54 rfl (lv_at hl 0 rfl) ?_
        refine lv_aload_n X.1 X.2.1 dX8_readItem_55 rfl (lv_at hl 0 rfl) ?_
        refine m_g8 (v := .int (M20.1 172 30)) X hSt hP m_z_172 30 (by decide) rfl k_f_X8_215 dX8_readItem_56 ?_
        obtain ⟨M22, eM22, hres⟩ := m_bd_e hres
        refine m_pi8 X hSt hP hS m_z_172 33 (by decide) eM22 rfl rfl (by decide) k_f_X8_252 dX8_readItem_59 (fun H locs hP hS => ?_)
        refine lv_aload_n X.1 X.2.1 dX8_readItem_62 rfl (lv_at hl 0 rfl) ?_
        obtain ⟨M23, eM23, hres⟩ := m_ob_e hres
        refine m_bv (m_cV (n := 0) (As := []) (rest := []) X hSt hP hS hl.1 (c_X8_next l G  eM23) k_c_yX8_next k_m_X8_243 k_i_yX8_next k_s_yX8_next k_n_X8 (by decide +kernel) (m_rc8 hSt hP m_z_172) rfl rfl ⟨Nat.le_of_ble_eq_true rfl, Nat.le_of_ble_eq_true rfl⟩ (Nat.le_of_ble_eq_true rfl) ⟨Nat.zero_le _, Nat.zero_le _⟩ dX8_readItem_63) hS (fun H locs hP hS => ?_)
        refine lv_aload_n X.1 X.2.1 dX8_readItem_66 rfl (lv_at hl 0 rfl) ?_
        refine lv_iconst (v := 0) X.1 X.2.1 dX8_readItem_67 (by decide) ?_
        obtain ⟨M24, eM24, hres⟩ := m_bd_e hres
        refine m_pi8 X hSt hP hS m_z_172 34 (by decide) eM24 rfl rfl (by decide) k_f_X8_255 dX8_readItem_68 (fun H locs hP hS => ?_)
        refine lv_aload_n X.1 X.2.1 dX8_readItem_71 rfl (lv_at hl 0 rfl) ?_
        refine lv_iconst (v := 0) X.1 X.2.1 dX8_readItem_72 (by decide) ?_
        obtain ⟨M25, eM25, hres⟩ := m_bd_e hres
        refine m_pi8 X hSt hP hS m_z_172 35 (by decide) eM25 rfl rfl (by decide) k_f_X8_258 dX8_readItem_73 (fun H locs hP hS => ?_)
        refine lv_aload_n X.1 X.2.1 dX8_readItem_76 rfl (lv_at hl 0 rfl) ?_
        refine m_g8 (v := .int (M25.1 172 32)) X hSt hP m_z_172 32 (by decide) rfl k_f_X8_249 dX8_readItem_77 ?_
        obtain ⟨r26, err26, hres⟩ := m_bd_e hres
        refine m_bz (m_cS (n := 1) (As := [.int (M25.1 172 32)]) (rest := []) X hSt hP hS hl.1 (c_X8_namesB l G (M := M25)  err26) k_c_yX8_namesB k_m_X8_185 k_t_yX8_namesB k_n_X8 (by decide +kernel) rfl rfl ⟨Nat.le_of_ble_eq_true rfl, Nat.le_of_ble_eq_true rfl⟩ (Nat.le_of_ble_eq_true rfl) ⟨Nat.zero_le _, Nat.zero_le _⟩ dX8_readItem_80) hS (fun H locs hP hS hz27 => ?_)
        refine lv_if_eq (tgt := 135) X.1 X.2.1 dX8_readItem_83 (by decide) (fun hc28 => ?_) (fun hc28 => ?_)
        · have hres := m_it hres hc28
          exact B135 M25 _ _ _ hP hS (lv_sub hl [0] rfl) hres
        · have hres := m_if hres hc28
          refine lv_aload_n X.1 X.2.1 dX8_readItem_86 rfl (lv_at hl 0 rfl) ?_
          refine m_g8 (v := .int (M25.1 172 29)) X hSt hP m_z_172 29 (by decide) rfl k_f_X8_218 dX8_readItem_87 ?_
          refine lv_iconst (v := 2) X.1 X.2.1 dX8_readItem_90 (by decide) ?_
          refine lv_icmp_eq (tgt := 111) X.1 X.2.1 dX8_readItem_91 (by decide) (fun hc29 => ?_) (fun hc29 => ?_)
          · have hres := m_it hres hc29
            exact B111 M25 _ _ _ hP hS (lv_sub hl [0] rfl) hres
          · have hres := m_if hres hc29
            refine lv_aload_n X.1 X.2.1 dX8_readItem_94 rfl (lv_at hl 0 rfl) ?_
            refine m_g8 (v := .int (M25.1 172 29)) X hSt hP m_z_172 29 (by decide) rfl k_f_X8_218 dX8_readItem_95 ?_
            refine lv_iconst (v := 3) X.1 X.2.1 dX8_readItem_98 (by decide) ?_
            refine lv_icmp_ne (tgt := 109) X.1 X.2.1 dX8_readItem_99 (by decide) (fun hc30 => ?_) (fun hc30 => ?_)
            · have hres := m_if hres hc30
              refine lv_iconst (v := 0) X.1 X.2.1 dX8_readItem_109 (by decide) ?_
              exact m_rz X hr hlk hP hS (Prod.mk.inj (Option.some.inj hres)).1 (Prod.mk.inj (Option.some.inj hres)).2 (by decide) dX8_readItem_110
            · have hres := m_it hres hc30
              refine lv_aload_n X.1 X.2.1 dX8_readItem_102 rfl (lv_at hl 0 rfl) ?_
              refine m_g8 (v := .int (M25.1 172 32)) X hSt hP m_z_172 32 (by decide) rfl k_f_X8_249 dX8_readItem_103 ?_
              refine lv_if_eq (tgt := 111) X.1 X.2.1 dX8_readItem_106 (by decide) (fun hc31 => ?_) (fun hc31 => ?_)
              · have hres := m_it hres hc31
                exact B111 M25 _ _ _ hP hS (lv_sub hl [0] rfl) hres
              · have hres := m_if hres hc31
                refine lv_iconst (v := 0) X.1 X.2.1 dX8_readItem_109 (by decide) ?_
                exact m_rz X hr hlk hP hS (Prod.mk.inj (Option.some.inj hres)).1 (Prod.mk.inj (Option.some.inj hres)).2 (by decide) dX8_readItem_110
      · have hres := m_if hres hc21
        refine lv_iconst (v := 0) X.1 X.2.1 dX8_readItem_52 (by decide) ?_
        exact m_rz X hr hlk hP hS (Prod.mk.inj (Option.some.inj hres)).1 (Prod.mk.inj (Option.some.inj hres)).2 (by decide) dX8_readItem_53
    · have hres := m_it hres hc19
      refine lv_iconst (v := 0) X.1 X.2.1 dX8_readItem_38 (by decide) ?_
      exact m_rz X hr hlk hP hS (Prod.mk.inj (Option.some.inj hres)).1 (Prod.mk.inj (Option.some.inj hres)).2 (by decide) dX8_readItem_39
  · have hres := m_if hres hc14
    refine lv_iconst (v := 0) X.1 X.2.1 dX8_readItem_8 (by decide) ?_
    exact m_rz X hr hlk hP hS (Prod.mk.inj (Option.some.inj hres)).1 (Prod.mk.inj (Option.some.inj hres)).2 (by decide) dX8_readItem_9
theorem dX8_read_0 : decode cX8_read 0 = .ok (.aload_n 0, 1) := by decide +kernel
theorem dX8_read_1 : decode cX8_read 1 = .ok (.iconst 0, 1) := by decide +kernel
theorem dX8_read_2 : decode cX8_read 2 = .ok (.invokevirtual 227, 3) := by decide +kernel
theorem dX8_read_5 : decode cX8_read 5 = .ok (.aload_n 0, 1) := by decide +kernel
theorem dX8_read_6 : decode cX8_read 6 = .ok (.getfield 218, 3) := by decide +kernel
theorem dX8_read_9 : decode cX8_read 9 = .ok (.ifCond .eq 18, 3) := by decide +kernel
theorem dX8_read_12 : decode cX8_read 12 = .ok (.aload_n 0, 1) := by decide +kernel
theorem dX8_read_13 : decode cX8_read 13 = .ok (.invokevirtual 261, 3) := by decide +kernel
theorem dX8_read_16 : decode cX8_read 16 = .ok (.ifCond .ne (-11), 3) := by decide +kernel
theorem dX8_read_19 : decode cX8_read 19 = .ok (.bipush (-10), 2) := by decide +kernel
theorem dX8_read_21 : decode cX8_read 21 = .ok (.aload_n 0, 1) := by decide +kernel
theorem dX8_read_22 : decode cX8_read 22 = .ok (.getfield 209, 3) := by decide +kernel
theorem dX8_read_25 : decode cX8_read 25 = .ok (.isub, 1) := by decide +kernel
theorem dX8_read_26 : decode cX8_read 26 = .ok (.ireturn, 1) := by decide +kernel
theorem dX8_read_27 : decode cX8_read 27 = .ok (.aload_n 0, 1) := by decide +kernel
theorem dX8_read_28 : decode cX8_read 28 = .ok (.invokevirtual 133, 3) := by decide +kernel
theorem dX8_read_31 : decode cX8_read 31 = .ok (.istore_n 1, 1) := by decide +kernel
theorem dX8_read_32 : decode cX8_read 32 = .ok (.iconst 0, 1) := by decide +kernel
theorem dX8_read_33 : decode cX8_read 33 = .ok (.istore_n 2, 1) := by decide +kernel
theorem dX8_read_34 : decode cX8_read 34 = .ok (.aload_n 0, 1) := by decide +kernel
theorem dX8_read_35 : decode cX8_read 35 = .ok (.iconst 0, 1) := by decide +kernel
theorem dX8_read_36 : decode cX8_read 36 = .ok (.invokevirtual 227, 3) := by decide +kernel
theorem dX8_read_39 : decode cX8_read 39 = .ok (.aload_n 0, 1) := by decide +kernel
theorem dX8_read_40 : decode cX8_read 40 = .ok (.getfield 218, 3) := by decide +kernel
theorem dX8_read_43 : decode cX8_read 43 = .ok (.ifCond .eq 56, 3) := by decide +kernel
theorem dX8_read_46 : decode cX8_read 46 = .ok (.aload_n 0, 1) := by decide +kernel
theorem dX8_read_47 : decode cX8_read 47 = .ok (.invokevirtual 261, 3) := by decide +kernel
theorem dX8_read_50 : decode cX8_read 50 = .ok (.istore_n 3, 1) := by decide +kernel
theorem dX8_read_51 : decode cX8_read 51 = .ok (.aload_n 0, 1) := by decide +kernel
theorem dX8_read_52 : decode cX8_read 52 = .ok (.aload_n 0, 1) := by decide +kernel
theorem dX8_read_53 : decode cX8_read 53 = .ok (.getfield 240, 3) := by decide +kernel
theorem dX8_read_56 : decode cX8_read 56 = .ok (.aload_n 0, 1) := by decide +kernel
theorem dX8_read_57 : decode cX8_read 57 = .ok (.getfield 249, 3) := by decide +kernel
theorem dX8_read_60 : decode cX8_read 60 = .ok (.aload_n 0, 1) := by decide +kernel
theorem dX8_read_61 : decode cX8_read 61 = .ok (.getfield 252, 3) := by decide +kernel
theorem dX8_read_64 : decode cX8_read 64 = .ok (.aload_n 0, 1) := by decide +kernel
theorem dX8_read_65 : decode cX8_read 65 = .ok (.getfield 255, 3) := by decide +kernel
theorem dX8_read_68 : decode cX8_read 68 = .ok (.aload_n 0, 1) := by decide +kernel
theorem dX8_read_69 : decode cX8_read 69 = .ok (.getfield 258, 3) := by decide +kernel
theorem dX8_read_72 : decode cX8_read 72 = .ok (.invokevirtual 265, 3) := by decide +kernel
theorem dX8_read_75 : decode cX8_read 75 = .ok (.ifCond .ge 18, 3) := by decide +kernel
theorem dX8_read_78 : decode cX8_read 78 = .ok (.aload_n 0, 1) := by decide +kernel
theorem dX8_read_79 : decode cX8_read 79 = .ok (.getfield 7, 3) := by decide +kernel
theorem dX8_read_82 : decode cX8_read 82 = .ok (.sipush 469, 3) := by decide +kernel
theorem dX8_read_85 : decode cX8_read 85 = .ok (.iload_n 1, 1) := by decide +kernel
theorem dX8_read_86 : decode cX8_read 86 = .ok (.iastore, 1) := by decide +kernel
theorem dX8_read_87 : decode cX8_read 87 = .ok (.sipush (-1000), 3) := by decide +kernel
theorem dX8_read_90 : decode cX8_read 90 = .ok (.iload_n 2, 1) := by decide +kernel
theorem dX8_read_91 : decode cX8_read 91 = .ok (.isub, 1) := by decide +kernel
theorem dX8_read_92 : decode cX8_read 92 = .ok (.ireturn, 1) := by decide +kernel
theorem dX8_read_93 : decode cX8_read 93 = .ok (.iinc 2 1, 3) := by decide +kernel
theorem dX8_read_96 : decode cX8_read 96 = .ok (.goto (-57), 3) := by decide +kernel
theorem dX8_read_99 : decode cX8_read 99 = .ok (.aload_n 0, 1) := by decide +kernel
theorem dX8_read_100 : decode cX8_read 100 = .ok (.iconst 0, 1) := by decide +kernel
theorem dX8_read_101 : decode cX8_read 101 = .ok (.putfield 196, 3) := by decide +kernel
theorem dX8_read_104 : decode cX8_read 104 = .ok (.iload_n 2, 1) := by decide +kernel
theorem dX8_read_105 : decode cX8_read 105 = .ok (.ireturn, 1) := by decide +kernel
def f_X8_read_b39 (n : Nat) : Nat → Int32 → Int32 → m_M → Option (Int32 × m_M)
  | 0, _, _, _ => none
  | u + 1, x1, x2, M =>
    if (M.1 172 29) = 0 then
  m_bd (m_sI M 172 4 0) fun M2 =>
  some (x2, M2)
  else
  m_o2 (f_X8_readItem n M) fun r3 M4 =>
  m_o2 (f_X8_note n (M4.1 172 31) (M4.1 172 32) (M4.1 172 33) (M4.1 172 34) (M4.1 172 35) M4) fun r6 M7 =>
  if (0 : Int32) ≤ r6 then
  f_X8_read_b39 n u x1 (x2 + 1) M7
  else
  m_bd (m_sI M7 173 469 x1) fun M9 =>
  some (((-1000 : Int32) - x2), M9)
def f_X8_read_b5 (n : Nat) : Nat → m_M → Option (Int32 × m_M)
  | 0, _ => none
  | u + 1, M =>
    if (M.1 172 29) = 0 then
  m_bd (f_X8_notes M) fun r11 =>
  m_ob (f_X8_look n 0 M) fun M12 =>
  f_X8_read_b39 n n r11 0 M12
  else
  m_o2 (f_X8_readItem n M) fun r13 M14 =>
  if r13 = 0 then
  some (((-10 : Int32) - (M14.1 172 27)), M14)
  else
  f_X8_read_b5 n u M14
def f_X8_read (n : Nat) (M : m_M) : Option (Int32 × m_M) :=
  m_ob (f_X8_look n 0 M) fun M17 =>
  f_X8_read_b5 n n M17
set_option maxHeartbeats 4000000 in
set_option maxRecDepth 100000 in
theorem c_X8_read (l : Launch) (G : m_G) {n : Nat} {M : m_M} {r0 : Int32} {M0 : m_M}  (hres : f_X8_read n M = some (r0, M0)) : Met l yX8_read (m_U yX8_read cX8_read 4 (some .int)) (m_R 5 108) (m_Pc G [.ref (m_ad G 172)] M) (m_Qi G r0 M0) 0 0 (m_A G) := by
  refine m_i0 (n := 4) RX8 rfl (by decide) (Nat.le_of_ble_eq_true rfl) ?_
  intro p e s m args below meth c X hr hlk hSt hP hS ls hl
  have hl : lv_has ls 4 [(0, .ref (m_ad G 172))] := hl
  have B39 : ∀ (u : Nat) (x1 : Int32) (x2 : Int32) (M : m_M) (H : Heap) (locs : List Loc) (ls : Array Slot), m_P G M H → va_S (m_A G) s.heap H locs → lv_has ls 4 [(0, .ref (m_ad G 172)), (1, .int x1), (2, .int x2)] → f_X8_read_b39 n u x1 x2 M = some (r0, M0) → W p l e (m_R 5 108) s m args below meth c H locs 0 0 (MQ below (m_Qi G r0 M0) args s 0 0 (m_A G)) (F0 m 39 ls []) := by
    intro u
    induction u with
    | zero =>
      intro x1 x2 M H locs ls hP hS hl hres
      cases hres
    | succ u ih =>
      intro x1 x2 M H locs ls hP hS hl hres
      rw [f_X8_read_b39] at hres
      refine lv_aload_n X.1 X.2.1 dX8_read_39 rfl (lv_at hl 0 rfl) ?_
      refine m_g8 (v := .int (M.1 172 29)) X hSt hP m_z_172 29 (by decide) rfl k_f_X8_218 dX8_read_40 ?_
      refine lv_if_eq (tgt := 99) X.1 X.2.1 dX8_read_43 (by decide) (fun hc1 => ?_) (fun hc1 => ?_)
      · have hres := m_it hres hc1
        refine lv_aload_n X.1 X.2.1 dX8_read_99 rfl (lv_at hl 0 rfl) ?_
        refine lv_iconst (v := 0) X.1 X.2.1 dX8_read_100 (by decide) ?_
        obtain ⟨M2, eM2, hres⟩ := m_bd_e hres
        refine m_pi8 X hSt hP hS m_z_172 4 (by decide) eM2 rfl rfl (by decide) k_f_X8_196 dX8_read_101 (fun H locs hP hS => ?_)
        refine lv_iload_n X.1 X.2.1 dX8_read_104 rfl (lv_at hl 2 rfl) ?_
        exact m_ri X hr hlk hP hS (Prod.mk.inj (Option.some.inj hres)).1 (Prod.mk.inj (Option.some.inj hres)).2 dX8_read_105
      · have hres := m_if hres hc1
        refine lv_aload_n X.1 X.2.1 dX8_read_46 rfl (lv_at hl 0 rfl) ?_
        obtain ⟨r3, M4, err3, hres⟩ := m_o2_e hres
        refine m_bz (m_cV (n := 0) (As := []) (rest := []) X hSt hP hS hl.1 (c_X8_readItem l G  err3) k_c_yX8_readItem k_m_X8_261 k_i_yX8_readItem k_s_yX8_readItem k_n_X8 (by decide +kernel) (m_rc8 hSt hP m_z_172) rfl rfl ⟨Nat.le_of_ble_eq_true rfl, Nat.le_of_ble_eq_true rfl⟩ (Nat.le_of_ble_eq_true rfl) ⟨Nat.zero_le _, Nat.zero_le _⟩ dX8_read_47) hS (fun H locs hP hS hz5 => ?_)
        refine lv_istore_n (lv' := [(3, .int r3), (0, .ref (m_ad G 172)), (1, .int x1), (2, .int x2)]) X.1 X.2.1 dX8_read_50 rfl hl (by decide) rfl (fun ls hl => ?_)
        refine lv_aload_n X.1 X.2.1 dX8_read_51 rfl (lv_at hl 1 rfl) ?_
        refine lv_aload_n X.1 X.2.1 dX8_read_52 rfl (lv_at hl 1 rfl) ?_
        refine m_g8 (v := .int (M4.1 172 31)) X hSt hP m_z_172 31 (by decide) rfl k_f_X8_240 dX8_read_53 ?_
        refine lv_aload_n X.1 X.2.1 dX8_read_56 rfl (lv_at hl 1 rfl) ?_
        refine m_g8 (v := .int (M4.1 172 32)) X hSt hP m_z_172 32 (by decide) rfl k_f_X8_249 dX8_read_57 ?_
        refine lv_aload_n X.1 X.2.1 dX8_read_60 rfl (lv_at hl 1 rfl) ?_
        refine m_g8 (v := .int (M4.1 172 33)) X hSt hP m_z_172 33 (by decide) rfl k_f_X8_252 dX8_read_61 ?_
        refine lv_aload_n X.1 X.2.1 dX8_read_64 rfl (lv_at hl 1 rfl) ?_
        refine m_g8 (v := .int (M4.1 172 34)) X hSt hP m_z_172 34 (by decide) rfl k_f_X8_255 dX8_read_65 ?_
        refine lv_aload_n X.1 X.2.1 dX8_read_68 rfl (lv_at hl 1 rfl) ?_
        refine m_g8 (v := .int (M4.1 172 35)) X hSt hP m_z_172 35 (by decide) rfl k_f_X8_258 dX8_read_69 ?_
        obtain ⟨r6, M7, err6, hres⟩ := m_o2_e hres
        refine m_bi (m_cV (n := 5) (As := [.int (M4.1 172 31), .int (M4.1 172 32), .int (M4.1 172 33), .int (M4.1 172 34), .int (M4.1 172 35)]) (rest := []) X hSt hP hS hl.1 (c_X8_note l G  err6) k_c_yX8_note k_m_X8_265 k_i_yX8_note k_s_yX8_note k_n_X8 (by decide +kernel) (m_rc8 hSt hP m_z_172) rfl rfl ⟨Nat.le_of_ble_eq_true rfl, Nat.le_of_ble_eq_true rfl⟩ (Nat.le_of_ble_eq_true rfl) ⟨Nat.zero_le _, Nat.zero_le _⟩ dX8_read_72) hS (fun H locs hP hS => ?_)
        refine lv_if_ge (tgt := 93) X.1 X.2.1 dX8_read_75 (by decide) (fun hc8 => ?_) (fun hc8 => ?_)
        · have hres := m_it hres hc8
          refine lv_iinc (v := (x2 + 1)) (lv' := [(2, .int (x2 + 1)), (3, .int r3), (0, .ref (m_ad G 172)), (1, .int x1)]) X.1 X.2.1 dX8_read_93 hl (k := 3) rfl rfl (by decide) rfl (fun ls hl => ?_)
          refine lv_goto (tgt := 39) X.1 X.2.1 dX8_read_96 (by decide) ?_
          exact ih x1 (x2 + 1) M7 _ _ _ hP hS (lv_sub hl [2, 3, 0] rfl) hres
        · have hres := m_if hres hc8
          refine lv_aload_n X.1 X.2.1 dX8_read_78 rfl (lv_at hl 1 rfl) ?_
          refine m_g8 (v := .ref (m_ad G 173)) X hSt hP m_z_172 0 (by decide) rfl k_f_X8_7 dX8_read_79 ?_
          refine lv_sipush (v := 469) X.1 X.2.1 dX8_read_82 (by decide) ?_
          refine lv_iload_n X.1 X.2.1 dX8_read_85 rfl (lv_at hl 2 rfl) ?_
          obtain ⟨M9, eM9, hres⟩ := m_bd_e hres
          refine m_is (j := 469) X hSt hP hS m_z_173 (by decide +kernel) (by decide +kernel) dX8_read_86 eM9 (fun H locs hP hS => ?_)
          refine lv_sipush (v := (-1000)) X.1 X.2.1 dX8_read_87 (by decide) ?_
          refine lv_iload_n X.1 X.2.1 dX8_read_90 rfl (lv_at hl 3 rfl) ?_
          refine lv_isub X.1 X.2.1 dX8_read_91 ?_
          exact m_ri X hr hlk hP hS (Prod.mk.inj (Option.some.inj hres)).1 (Prod.mk.inj (Option.some.inj hres)).2 dX8_read_92
  have B5 : ∀ (u : Nat) (M : m_M) (H : Heap) (locs : List Loc) (ls : Array Slot), m_P G M H → va_S (m_A G) s.heap H locs → lv_has ls 4 [(0, .ref (m_ad G 172))] → f_X8_read_b5 n u M = some (r0, M0) → W p l e (m_R 5 108) s m args below meth c H locs 0 0 (MQ below (m_Qi G r0 M0) args s 0 0 (m_A G)) (F0 m 5 ls []) := by
    intro u
    induction u with
    | zero =>
      intro M H locs ls hP hS hl hres
      cases hres
    | succ u ih =>
      intro M H locs ls hP hS hl hres
      rw [f_X8_read_b5] at hres
      refine lv_aload_n X.1 X.2.1 dX8_read_5 rfl (lv_at hl 0 rfl) ?_
      refine m_g8 (v := .int (M.1 172 29)) X hSt hP m_z_172 29 (by decide) rfl k_f_X8_218 dX8_read_6 ?_
      refine lv_if_eq (tgt := 27) X.1 X.2.1 dX8_read_9 (by decide) (fun hc10 => ?_) (fun hc10 => ?_)
      · have hres := m_it hres hc10
        refine lv_aload_n X.1 X.2.1 dX8_read_27 rfl (lv_at hl 0 rfl) ?_
        obtain ⟨r11, err11, hres⟩ := m_bd_e hres
        refine m_bi (m_cV (n := 0) (As := []) (rest := []) X hSt hP hS hl.1 (c_X8_notes l G  err11) k_c_yX8_notes k_m_X8_133 k_i_yX8_notes k_s_yX8_notes k_n_X8 (by decide +kernel) (m_rc8 hSt hP m_z_172) rfl rfl ⟨Nat.le_of_ble_eq_true rfl, Nat.le_of_ble_eq_true rfl⟩ (Nat.le_of_ble_eq_true rfl) ⟨Nat.zero_le _, Nat.zero_le _⟩ dX8_read_28) hS (fun H locs hP hS => ?_)
        refine lv_istore_n (lv' := [(1, .int r11), (0, .ref (m_ad G 172))]) X.1 X.2.1 dX8_read_31 rfl hl (by decide) rfl (fun ls hl => ?_)
        refine lv_iconst (v := 0) X.1 X.2.1 dX8_read_32 (by decide) ?_
        refine lv_istore_n (lv' := [(2, .int 0), (1, .int r11), (0, .ref (m_ad G 172))]) X.1 X.2.1 dX8_read_33 rfl hl (by decide) rfl (fun ls hl => ?_)
        refine lv_aload_n X.1 X.2.1 dX8_read_34 rfl (lv_at hl 2 rfl) ?_
        refine lv_iconst (v := 0) X.1 X.2.1 dX8_read_35 (by decide) ?_
        obtain ⟨M12, eM12, hres⟩ := m_ob_e hres
        refine m_bv (m_cV (n := 1) (As := [.int 0]) (rest := []) X hSt hP hS hl.1 (c_X8_look l G  eM12) k_c_yX8_look k_m_X8_227 k_i_yX8_look k_s_yX8_look k_n_X8 (by decide +kernel) (m_rc8 hSt hP m_z_172) rfl rfl ⟨Nat.le_of_ble_eq_true rfl, Nat.le_of_ble_eq_true rfl⟩ (Nat.le_of_ble_eq_true rfl) ⟨Nat.zero_le _, Nat.zero_le _⟩ dX8_read_36) hS (fun H locs hP hS => ?_)
        exact B39 n r11 0 M12 _ _ _ hP hS (lv_sub hl [2, 1, 0] rfl) hres
      · have hres := m_if hres hc10
        refine lv_aload_n X.1 X.2.1 dX8_read_12 rfl (lv_at hl 0 rfl) ?_
        obtain ⟨r13, M14, err13, hres⟩ := m_o2_e hres
        refine m_bz (m_cV (n := 0) (As := []) (rest := []) X hSt hP hS hl.1 (c_X8_readItem l G  err13) k_c_yX8_readItem k_m_X8_261 k_i_yX8_readItem k_s_yX8_readItem k_n_X8 (by decide +kernel) (m_rc8 hSt hP m_z_172) rfl rfl ⟨Nat.le_of_ble_eq_true rfl, Nat.le_of_ble_eq_true rfl⟩ (Nat.le_of_ble_eq_true rfl) ⟨Nat.zero_le _, Nat.zero_le _⟩ dX8_read_13) hS (fun H locs hP hS hz15 => ?_)
        refine lv_if_ne (tgt := 5) X.1 X.2.1 dX8_read_16 (by decide) (fun hc16 => ?_) (fun hc16 => ?_)
        · have hres := m_if hres hc16
          exact ih M14 _ _ _ hP hS (lv_sub hl [0] rfl) hres
        · have hres := m_it hres hc16
          refine lv_bipush (v := (-10)) X.1 X.2.1 dX8_read_19 (by decide) ?_
          refine lv_aload_n X.1 X.2.1 dX8_read_21 rfl (lv_at hl 0 rfl) ?_
          refine m_g8 (v := .int (M14.1 172 27)) X hSt hP m_z_172 27 (by decide) rfl k_f_X8_209 dX8_read_22 ?_
          refine lv_isub X.1 X.2.1 dX8_read_25 ?_
          exact m_ri X hr hlk hP hS (Prod.mk.inj (Option.some.inj hres)).1 (Prod.mk.inj (Option.some.inj hres)).2 dX8_read_26
  unfold f_X8_read at hres
  refine lv_aload_n X.1 X.2.1 dX8_read_0 rfl (lv_at hl 0 rfl) ?_
  refine lv_iconst (v := 0) X.1 X.2.1 dX8_read_1 (by decide) ?_
  obtain ⟨M17, eM17, hres⟩ := m_ob_e hres
  refine m_bv (m_cV (n := 1) (As := [.int 0]) (rest := []) X hSt hP hS hl.1 (c_X8_look l G  eM17) k_c_yX8_look k_m_X8_227 k_i_yX8_look k_s_yX8_look k_n_X8 (by decide +kernel) (m_rc8 hSt hP m_z_172) rfl rfl ⟨Nat.le_of_ble_eq_true rfl, Nat.le_of_ble_eq_true rfl⟩ (Nat.le_of_ble_eq_true rfl) ⟨Nat.zero_le _, Nat.zero_le _⟩ dX8_read_2) hS (fun H locs hP hS => ?_)
  exact B5 n M17 _ _ _ hP hS (lv_sub hl [0] rfl) hres
theorem dX8_rests_0 : decode cX8_rests 0 = .ok (.iload_n 1, 1) := by decide +kernel
theorem dX8_rests_1 : decode cX8_rests 1 = .ok (.iconst (-1), 1) := by decide +kernel
theorem dX8_rests_2 : decode cX8_rests 2 = .ok (.if_icmp .lt 10, 3) := by decide +kernel
theorem dX8_rests_5 : decode cX8_rests 5 = .ok (.iload_n 2, 1) := by decide +kernel
theorem dX8_rests_6 : decode cX8_rests 6 = .ok (.invokestatic 347, 3) := by decide +kernel
theorem dX8_rests_9 : decode cX8_rests 9 = .ok (.ifCond .ne 6, 3) := by decide +kernel
theorem dX8_rests_12 : decode cX8_rests 12 = .ok (.bipush (-10), 2) := by decide +kernel
theorem dX8_rests_14 : decode cX8_rests 14 = .ok (.ireturn, 1) := by decide +kernel
theorem dX8_rests_15 : decode cX8_rests 15 = .ok (.aload_n 0, 1) := by decide +kernel
theorem dX8_rests_16 : decode cX8_rests 16 = .ok (.iload_n 2, 1) := by decide +kernel
theorem dX8_rests_17 : decode cX8_rests 17 = .ok (.invokevirtual 412, 3) := by decide +kernel
theorem dX8_rests_20 : decode cX8_rests 20 = .ok (.iconst 0, 1) := by decide +kernel
theorem dX8_rests_21 : decode cX8_rests 21 = .ok (.istore_n 3, 1) := by decide +kernel
theorem dX8_rests_22 : decode cX8_rests 22 = .ok (.iconst 0, 1) := by decide +kernel
theorem dX8_rests_23 : decode cX8_rests 23 = .ok (.istore 4, 2) := by decide +kernel
theorem dX8_rests_25 : decode cX8_rests 25 = .ok (.iload 4, 2) := by decide +kernel
theorem dX8_rests_27 : decode cX8_rests 27 = .ok (.iconst 1, 1) := by decide +kernel
theorem dX8_rests_28 : decode cX8_rests 28 = .ok (.aload_n 0, 1) := by decide +kernel
theorem dX8_rests_29 : decode cX8_rests 29 = .ok (.invokevirtual 400, 3) := by decide +kernel
theorem dX8_rests_32 : decode cX8_rests 32 = .ok (.ishl, 1) := by decide +kernel
theorem dX8_rests_33 : decode cX8_rests 33 = .ok (.if_icmp .ge 29, 3) := by decide +kernel
theorem dX8_rests_36 : decode cX8_rests 36 = .ok (.aload_n 0, 1) := by decide +kernel
theorem dX8_rests_37 : decode cX8_rests 37 = .ok (.iload 4, 2) := by decide +kernel
theorem dX8_rests_39 : decode cX8_rests 39 = .ok (.invokevirtual 430, 3) := by decide +kernel
theorem dX8_rests_42 : decode cX8_rests 42 = .ok (.ifCond .eq 14, 3) := by decide +kernel
theorem dX8_rests_45 : decode cX8_rests 45 = .ok (.iload_n 3, 1) := by decide +kernel
theorem dX8_rests_46 : decode cX8_rests 46 = .ok (.iload_n 1, 1) := by decide +kernel
theorem dX8_rests_47 : decode cX8_rests 47 = .ok (.if_icmp .ne 6, 3) := by decide +kernel
theorem dX8_rests_50 : decode cX8_rests 50 = .ok (.iload 4, 2) := by decide +kernel
theorem dX8_rests_52 : decode cX8_rests 52 = .ok (.ireturn, 1) := by decide +kernel
theorem dX8_rests_53 : decode cX8_rests 53 = .ok (.iinc 3 1, 3) := by decide +kernel
theorem dX8_rests_56 : decode cX8_rests 56 = .ok (.iinc 4 1, 3) := by decide +kernel
theorem dX8_rests_59 : decode cX8_rests 59 = .ok (.goto (-34), 3) := by decide +kernel
theorem dX8_rests_62 : decode cX8_rests 62 = .ok (.iload_n 1, 1) := by decide +kernel
theorem dX8_rests_63 : decode cX8_rests 63 = .ok (.iconst (-1), 1) := by decide +kernel
theorem dX8_rests_64 : decode cX8_rests 64 = .ok (.if_icmp .ne 7, 3) := by decide +kernel
theorem dX8_rests_67 : decode cX8_rests 67 = .ok (.iload_n 3, 1) := by decide +kernel
theorem dX8_rests_68 : decode cX8_rests 68 = .ok (.goto 5, 3) := by decide +kernel
theorem dX8_rests_71 : decode cX8_rests 71 = .ok (.bipush (-5), 2) := by decide +kernel
theorem dX8_rests_73 : decode cX8_rests 73 = .ok (.ireturn, 1) := by decide +kernel
def f_X8_rests_b25 (n : Nat) (x1 : Int32) (x2 : Int32) : Nat → Int32 → Int32 → m_M → Option (Int32 × m_M)
  | 0, _, _, _ => none
  | u + 1, x3, x4, M =>
    m_bd (f_X8_lined M) fun r1 =>
  if ((1 : Int32) <<< (r1 &&& 31)) ≤ x4 then
  if x1 = (-1) then
  some (x3, M)
  else
  some ((-5), M)
  else
  m_o2 (f_X8_isRest n x4 M) fun r4 M5 =>
  if r4 = 0 then
  f_X8_rests_b25 n x1 x2 u x3 (x4 + 1) M5
  else
  if x3 = x1 then
  some (x4, M5)
  else
  f_X8_rests_b25 n x1 x2 u (x3 + 1) (x4 + 1) M5
def f_X8_rests (n : Nat) (x1 : Int32) (x2 : Int32) (M : m_M) : Option (Int32 × m_M) :=
  if x1 < (-1) then
  some ((-10), M)
  else
  m_bd (f_X8_isDay x2) fun r10 =>
  if r10 = 0 then
  some ((-10), M)
  else
  m_ob (f_X8_layLine n x2 M) fun M13 =>
  f_X8_rests_b25 n x1 x2 n 0 0 M13
set_option maxHeartbeats 4000000 in
set_option maxRecDepth 100000 in
theorem c_X8_rests (l : Launch) (G : m_G) {n : Nat} {x1 : Int32} {x2 : Int32} {M : m_M} {r0 : Int32} {M0 : m_M}  (hres : f_X8_rests n x1 x2 M = some (r0, M0)) : Met l yX8_rests (m_U yX8_rests cX8_rests 5 (some .int)) (m_R 9 206) (m_Pc G [.ref (m_ad G 172), .int x1, .int x2] M) (m_Qi G r0 M0) 0 0 (m_A G) := by
  refine m_i0 (n := 5) RX8 rfl (by decide) (Nat.le_of_ble_eq_true rfl) ?_
  intro p e s m args below meth c X hr hlk hSt hP hS ls hl
  have hl : lv_has ls 5 [(0, .ref (m_ad G 172)), (1, .int x1), (2, .int x2)] := hl
  have B25 : ∀ (u : Nat) (x3 : Int32) (x4 : Int32) (M : m_M) (H : Heap) (locs : List Loc) (ls : Array Slot), m_P G M H → va_S (m_A G) s.heap H locs → lv_has ls 5 [(0, .ref (m_ad G 172)), (1, .int x1), (3, .int x3), (4, .int x4)] → f_X8_rests_b25 n x1 x2 u x3 x4 M = some (r0, M0) → W p l e (m_R 9 206) s m args below meth c H locs 0 0 (MQ below (m_Qi G r0 M0) args s 0 0 (m_A G)) (F0 m 25 ls []) := by
    intro u
    induction u with
    | zero =>
      intro x3 x4 M H locs ls hP hS hl hres
      cases hres
    | succ u ih =>
      intro x3 x4 M H locs ls hP hS hl hres
      rw [f_X8_rests_b25] at hres
      refine lv_iload X.1 X.2.1 dX8_rests_25 (lv_at hl 3 rfl) ?_
      refine lv_iconst (v := 1) X.1 X.2.1 dX8_rests_27 (by decide) ?_
      refine lv_aload_n X.1 X.2.1 dX8_rests_28 rfl (lv_at hl 0 rfl) ?_
      obtain ⟨r1, err1, hres⟩ := m_bd_e hres
      refine m_bi (m_cV (n := 0) (As := []) (rest := [.int 1, .int x4]) X hSt hP hS hl.1 (c_X8_lined l G  err1) k_c_yX8_lined k_m_X8_400 k_i_yX8_lined k_s_yX8_lined k_n_X8 (by decide +kernel) (m_rc8 hSt hP m_z_172) rfl rfl ⟨Nat.le_of_ble_eq_true rfl, Nat.le_of_ble_eq_true rfl⟩ (Nat.le_of_ble_eq_true rfl) ⟨Nat.zero_le _, Nat.zero_le _⟩ dX8_rests_29) hS (fun H locs hP hS => ?_)
      refine lv_ishl X.1 X.2.1 dX8_rests_32 ?_
      refine lv_icmp_ge (tgt := 62) X.1 X.2.1 dX8_rests_33 (by decide) (fun hc2 => ?_) (fun hc2 => ?_)
      · have hres := m_it hres hc2
        refine lv_iload_n X.1 X.2.1 dX8_rests_62 rfl (lv_at hl 1 rfl) ?_
        refine lv_iconst (v := (-1)) X.1 X.2.1 dX8_rests_63 (by decide) ?_
        refine lv_icmp_ne (tgt := 71) X.1 X.2.1 dX8_rests_64 (by decide) (fun hc3 => ?_) (fun hc3 => ?_)
        · have hres := m_if hres hc3
          refine lv_bipush (v := (-5)) X.1 X.2.1 dX8_rests_71 (by decide) ?_
          exact m_ri X hr hlk hP hS (Prod.mk.inj (Option.some.inj hres)).1 (Prod.mk.inj (Option.some.inj hres)).2 dX8_rests_73
        · have hres := m_it hres hc3
          refine lv_iload_n X.1 X.2.1 dX8_rests_67 rfl (lv_at hl 2 rfl) ?_
          refine lv_goto (tgt := 73) X.1 X.2.1 dX8_rests_68 (by decide) ?_
          exact m_ri X hr hlk hP hS (Prod.mk.inj (Option.some.inj hres)).1 (Prod.mk.inj (Option.some.inj hres)).2 dX8_rests_73
      · have hres := m_if hres hc2
        refine lv_aload_n X.1 X.2.1 dX8_rests_36 rfl (lv_at hl 0 rfl) ?_
        refine lv_iload X.1 X.2.1 dX8_rests_37 (lv_at hl 3 rfl) ?_
        obtain ⟨r4, M5, err4, hres⟩ := m_o2_e hres
        refine m_bz (m_cV (n := 1) (As := [.int x4]) (rest := []) X hSt hP hS hl.1 (c_X8_isRest l G  err4) k_c_yX8_isRest k_m_X8_430 k_i_yX8_isRest k_s_yX8_isRest k_n_X8 (by decide +kernel) (m_rc8 hSt hP m_z_172) rfl rfl ⟨Nat.le_of_ble_eq_true rfl, Nat.le_of_ble_eq_true rfl⟩ (Nat.le_of_ble_eq_true rfl) ⟨Nat.zero_le _, Nat.zero_le _⟩ dX8_rests_39) hS (fun H locs hP hS hz6 => ?_)
        refine lv_if_eq (tgt := 56) X.1 X.2.1 dX8_rests_42 (by decide) (fun hc7 => ?_) (fun hc7 => ?_)
        · have hres := m_it hres hc7
          refine lv_iinc (v := (x4 + 1)) (lv' := [(4, .int (x4 + 1)), (0, .ref (m_ad G 172)), (1, .int x1), (3, .int x3)]) X.1 X.2.1 dX8_rests_56 hl (k := 3) rfl rfl (by decide) rfl (fun ls hl => ?_)
          refine lv_goto (tgt := 25) X.1 X.2.1 dX8_rests_59 (by decide) ?_
          exact ih x3 (x4 + 1) M5 _ _ _ hP hS (lv_sub hl [1, 2, 3, 0] rfl) hres
        · have hres := m_if hres hc7
          refine lv_iload_n X.1 X.2.1 dX8_rests_45 rfl (lv_at hl 2 rfl) ?_
          refine lv_iload_n X.1 X.2.1 dX8_rests_46 rfl (lv_at hl 1 rfl) ?_
          refine lv_icmp_ne (tgt := 53) X.1 X.2.1 dX8_rests_47 (by decide) (fun hc8 => ?_) (fun hc8 => ?_)
          · have hres := m_if hres hc8
            refine lv_iinc (v := (x3 + 1)) (lv' := [(3, .int (x3 + 1)), (0, .ref (m_ad G 172)), (1, .int x1), (4, .int x4)]) X.1 X.2.1 dX8_rests_53 hl (k := 2) rfl rfl (by decide) rfl (fun ls hl => ?_)
            refine lv_iinc (v := (x4 + 1)) (lv' := [(4, .int (x4 + 1)), (3, .int (x3 + 1)), (0, .ref (m_ad G 172)), (1, .int x1)]) X.1 X.2.1 dX8_rests_56 hl (k := 3) rfl rfl (by decide) rfl (fun ls hl => ?_)
            refine lv_goto (tgt := 25) X.1 X.2.1 dX8_rests_59 (by decide) ?_
            exact ih (x3 + 1) (x4 + 1) M5 _ _ _ hP hS (lv_sub hl [2, 3, 1, 0] rfl) hres
          · have hres := m_it hres hc8
            refine lv_iload X.1 X.2.1 dX8_rests_50 (lv_at hl 3 rfl) ?_
            exact m_ri X hr hlk hP hS (Prod.mk.inj (Option.some.inj hres)).1 (Prod.mk.inj (Option.some.inj hres)).2 dX8_rests_52
  unfold f_X8_rests at hres
  refine lv_iload_n X.1 X.2.1 dX8_rests_0 rfl (lv_at hl 1 rfl) ?_
  refine lv_iconst (v := (-1)) X.1 X.2.1 dX8_rests_1 (by decide) ?_
  refine lv_icmp_lt (tgt := 12) X.1 X.2.1 dX8_rests_2 (by decide) (fun hc9 => ?_) (fun hc9 => ?_)
  · have hres := m_it hres hc9
    refine lv_bipush (v := (-10)) X.1 X.2.1 dX8_rests_12 (by decide) ?_
    exact m_ri X hr hlk hP hS (Prod.mk.inj (Option.some.inj hres)).1 (Prod.mk.inj (Option.some.inj hres)).2 dX8_rests_14
  · have hres := m_if hres hc9
    refine lv_iload_n X.1 X.2.1 dX8_rests_5 rfl (lv_at hl 2 rfl) ?_
    obtain ⟨r10, err10, hres⟩ := m_bd_e hres
    refine m_bz (m_cS (n := 1) (As := [.int x2]) (rest := []) X hSt hP hS hl.1 (c_X8_isDay l G (M := M)  err10) k_c_yX8_isDay k_m_X8_347 k_t_yX8_isDay k_n_X8 (by decide +kernel) rfl rfl ⟨Nat.le_of_ble_eq_true rfl, Nat.le_of_ble_eq_true rfl⟩ (Nat.le_of_ble_eq_true rfl) ⟨Nat.zero_le _, Nat.zero_le _⟩ dX8_rests_6) hS (fun H locs hP hS hz11 => ?_)
    refine lv_if_ne (tgt := 15) X.1 X.2.1 dX8_rests_9 (by decide) (fun hc12 => ?_) (fun hc12 => ?_)
    · have hres := m_if hres hc12
      refine lv_aload_n X.1 X.2.1 dX8_rests_15 rfl (lv_at hl 0 rfl) ?_
      refine lv_iload_n X.1 X.2.1 dX8_rests_16 rfl (lv_at hl 2 rfl) ?_
      obtain ⟨M13, eM13, hres⟩ := m_ob_e hres
      refine m_bv (m_cV (n := 1) (As := [.int x2]) (rest := []) X hSt hP hS hl.1 (c_X8_layLine l G  eM13) k_c_yX8_layLine k_m_X8_412 k_i_yX8_layLine k_s_yX8_layLine k_n_X8 (by decide +kernel) (m_rc8 hSt hP m_z_172) rfl rfl ⟨Nat.le_of_ble_eq_true rfl, Nat.le_of_ble_eq_true rfl⟩ (Nat.le_of_ble_eq_true rfl) ⟨Nat.zero_le _, Nat.zero_le _⟩ dX8_rests_17) hS (fun H locs hP hS => ?_)
      refine lv_iconst (v := 0) X.1 X.2.1 dX8_rests_20 (by decide) ?_
      refine lv_istore_n (lv' := [(3, .int 0), (0, .ref (m_ad G 172)), (1, .int x1), (2, .int x2)]) X.1 X.2.1 dX8_rests_21 rfl hl (by decide) rfl (fun ls hl => ?_)
      refine lv_iconst (v := 0) X.1 X.2.1 dX8_rests_22 (by decide) ?_
      refine lv_istore (lv' := [(4, .int 0), (3, .int 0), (0, .ref (m_ad G 172)), (1, .int x1), (2, .int x2)]) X.1 X.2.1 dX8_rests_23 hl (by decide) rfl (fun ls hl => ?_)
      exact B25 n 0 0 M13 _ _ _ hP hS (lv_sub hl [2, 3, 1, 0] rfl) hres
    · have hres := m_it hres hc12
      refine lv_bipush (v := (-10)) X.1 X.2.1 dX8_rests_12 (by decide) ?_
      exact m_ri X hr hlk hP hS (Prod.mk.inj (Option.some.inj hres)).1 (Prod.mk.inj (Option.some.inj hres)).2 dX8_rests_14
theorem dX8_served_0 : decode cX8_served 0 = .ok (.aload_n 0, 1) := by decide +kernel
theorem dX8_served_1 : decode cX8_served 1 = .ok (.iload_n 1, 1) := by decide +kernel
theorem dX8_served_2 : decode cX8_served 2 = .ok (.invokevirtual 409, 3) := by decide +kernel
theorem dX8_served_5 : decode cX8_served 5 = .ok (.ifCond .eq 10, 3) := by decide +kernel
theorem dX8_served_8 : decode cX8_served 8 = .ok (.iload_n 2, 1) := by decide +kernel
theorem dX8_served_9 : decode cX8_served 9 = .ok (.invokestatic 347, 3) := by decide +kernel
theorem dX8_served_12 : decode cX8_served 12 = .ok (.ifCond .ne 6, 3) := by decide +kernel
theorem dX8_served_15 : decode cX8_served 15 = .ok (.bipush (-2), 2) := by decide +kernel
theorem dX8_served_17 : decode cX8_served 17 = .ok (.ireturn, 1) := by decide +kernel
theorem dX8_served_18 : decode cX8_served 18 = .ok (.aload_n 0, 1) := by decide +kernel
theorem dX8_served_19 : decode cX8_served 19 = .ok (.iload_n 2, 1) := by decide +kernel
theorem dX8_served_20 : decode cX8_served 20 = .ok (.invokevirtual 412, 3) := by decide +kernel
theorem dX8_served_23 : decode cX8_served 23 = .ok (.aload_n 0, 1) := by decide +kernel
theorem dX8_served_24 : decode cX8_served 24 = .ok (.iconst 0, 1) := by decide +kernel
theorem dX8_served_25 : decode cX8_served 25 = .ok (.invokevirtual 415, 3) := by decide +kernel
theorem dX8_served_28 : decode cX8_served 28 = .ok (.aload_n 0, 1) := by decide +kernel
theorem dX8_served_29 : decode cX8_served 29 = .ok (.getfield 95, 3) := by decide +kernel
theorem dX8_served_32 : decode cX8_served 32 = .ok (.iload_n 1, 1) := by decide +kernel
theorem dX8_served_33 : decode cX8_served 33 = .ok (.iaload, 1) := by decide +kernel
theorem dX8_served_34 : decode cX8_served 34 = .ok (.ireturn, 1) := by decide +kernel
def f_X8_served (n : Nat) (x1 : Int32) (x2 : Int32) (M : m_M) : Option (Int32 × m_M) :=
  m_bd (f_X8_isPlace x1 M) fun r1 =>
  if r1 = 0 then
  some ((-2), M)
  else
  m_bd (f_X8_isDay x2) fun r4 =>
  if r4 = 0 then
  some ((-2), M)
  else
  m_ob (f_X8_layLine n x2 M) fun M7 =>
  m_ob (f_X8_serve n 0 M7) fun M8 =>
  m_gd (m_in x1 6) (
  some ((M8.1 198 x1.toNatClampNeg), M8))
set_option maxHeartbeats 4000000 in
set_option maxRecDepth 100000 in
theorem c_X8_served (l : Launch) (G : m_G) {n : Nat} {x1 : Int32} {x2 : Int32} {M : m_M} {r0 : Int32} {M0 : m_M}  (hres : f_X8_served n x1 x2 M = some (r0, M0)) : Met l yX8_served (m_U yX8_served cX8_served 3 (some .int)) (m_R 9 206) (m_Pc G [.ref (m_ad G 172), .int x1, .int x2] M) (m_Qi G r0 M0) 0 0 (m_A G) := by
  refine m_i0 (n := 3) RX8 rfl (by decide) (Nat.le_of_ble_eq_true rfl) ?_
  intro p e s m args below meth c X hr hlk hSt hP hS ls hl
  have hl : lv_has ls 3 [(0, .ref (m_ad G 172)), (1, .int x1), (2, .int x2)] := hl
  unfold f_X8_served at hres
  refine lv_aload_n X.1 X.2.1 dX8_served_0 rfl (lv_at hl 0 rfl) ?_
  refine lv_iload_n X.1 X.2.1 dX8_served_1 rfl (lv_at hl 1 rfl) ?_
  obtain ⟨r1, err1, hres⟩ := m_bd_e hres
  refine m_bz (m_cV (n := 1) (As := [.int x1]) (rest := []) X hSt hP hS hl.1 (c_X8_isPlace l G  err1) k_c_yX8_isPlace k_m_X8_409 k_i_yX8_isPlace k_s_yX8_isPlace k_n_X8 (by decide +kernel) (m_rc8 hSt hP m_z_172) rfl rfl ⟨Nat.le_of_ble_eq_true rfl, Nat.le_of_ble_eq_true rfl⟩ (Nat.le_of_ble_eq_true rfl) ⟨Nat.zero_le _, Nat.zero_le _⟩ dX8_served_2) hS (fun H locs hP hS hz2 => ?_)
  refine lv_if_eq (tgt := 15) X.1 X.2.1 dX8_served_5 (by decide) (fun hc3 => ?_) (fun hc3 => ?_)
  · have hres := m_it hres hc3
    refine lv_bipush (v := (-2)) X.1 X.2.1 dX8_served_15 (by decide) ?_
    exact m_ri X hr hlk hP hS (Prod.mk.inj (Option.some.inj hres)).1 (Prod.mk.inj (Option.some.inj hres)).2 dX8_served_17
  · have hres := m_if hres hc3
    refine lv_iload_n X.1 X.2.1 dX8_served_8 rfl (lv_at hl 2 rfl) ?_
    obtain ⟨r4, err4, hres⟩ := m_bd_e hres
    refine m_bz (m_cS (n := 1) (As := [.int x2]) (rest := []) X hSt hP hS hl.1 (c_X8_isDay l G (M := M)  err4) k_c_yX8_isDay k_m_X8_347 k_t_yX8_isDay k_n_X8 (by decide +kernel) rfl rfl ⟨Nat.le_of_ble_eq_true rfl, Nat.le_of_ble_eq_true rfl⟩ (Nat.le_of_ble_eq_true rfl) ⟨Nat.zero_le _, Nat.zero_le _⟩ dX8_served_9) hS (fun H locs hP hS hz5 => ?_)
    refine lv_if_ne (tgt := 18) X.1 X.2.1 dX8_served_12 (by decide) (fun hc6 => ?_) (fun hc6 => ?_)
    · have hres := m_if hres hc6
      refine lv_aload_n X.1 X.2.1 dX8_served_18 rfl (lv_at hl 0 rfl) ?_
      refine lv_iload_n X.1 X.2.1 dX8_served_19 rfl (lv_at hl 2 rfl) ?_
      obtain ⟨M7, eM7, hres⟩ := m_ob_e hres
      refine m_bv (m_cV (n := 1) (As := [.int x2]) (rest := []) X hSt hP hS hl.1 (c_X8_layLine l G  eM7) k_c_yX8_layLine k_m_X8_412 k_i_yX8_layLine k_s_yX8_layLine k_n_X8 (by decide +kernel) (m_rc8 hSt hP m_z_172) rfl rfl ⟨Nat.le_of_ble_eq_true rfl, Nat.le_of_ble_eq_true rfl⟩ (Nat.le_of_ble_eq_true rfl) ⟨Nat.zero_le _, Nat.zero_le _⟩ dX8_served_20) hS (fun H locs hP hS => ?_)
      refine lv_aload_n X.1 X.2.1 dX8_served_23 rfl (lv_at hl 0 rfl) ?_
      refine lv_iconst (v := 0) X.1 X.2.1 dX8_served_24 (by decide) ?_
      obtain ⟨M8, eM8, hres⟩ := m_ob_e hres
      refine m_bv (m_cV (n := 1) (As := [.int 0]) (rest := []) X hSt hP hS hl.1 (c_X8_serve l G  eM8) k_c_yX8_serve k_m_X8_415 k_i_yX8_serve k_s_yX8_serve k_n_X8 (by decide +kernel) (m_rc8 hSt hP m_z_172) rfl rfl ⟨Nat.le_of_ble_eq_true rfl, Nat.le_of_ble_eq_true rfl⟩ (Nat.le_of_ble_eq_true rfl) ⟨Nat.zero_le _, Nat.zero_le _⟩ dX8_served_25) hS (fun H locs hP hS => ?_)
      refine lv_aload_n X.1 X.2.1 dX8_served_28 rfl (lv_at hl 0 rfl) ?_
      refine m_g8 (v := .ref (m_ad G 198)) X hSt hP m_z_172 50 (by decide) rfl k_f_X8_95 dX8_served_29 ?_
      refine lv_iload_n X.1 X.2.1 dX8_served_32 rfl (lv_at hl 1 rfl) ?_
      obtain ⟨hg9, hres⟩ := m_gd_e hres
      refine m_ia (j := x1.toNatClampNeg) X hSt hP m_z_198 hg9 rfl dX8_served_33 ?_
      exact m_ri X hr hlk hP hS (Prod.mk.inj (Option.some.inj hres)).1 (Prod.mk.inj (Option.some.inj hres)).2 dX8_served_34
    · have hres := m_it hres hc6
      refine lv_bipush (v := (-2)) X.1 X.2.1 dX8_served_15 (by decide) ?_
      exact m_ri X hr hlk hP hS (Prod.mk.inj (Option.some.inj hres)).1 (Prod.mk.inj (Option.some.inj hres)).2 dX8_served_17
theorem dX8_sure_0 : decode cX8_sure 0 = .ok (.aload_n 0, 1) := by decide +kernel
theorem dX8_sure_1 : decode cX8_sure 1 = .ok (.iload_n 1, 1) := by decide +kernel
theorem dX8_sure_2 : decode cX8_sure 2 = .ok (.iload 4, 2) := by decide +kernel
theorem dX8_sure_4 : decode cX8_sure 4 = .ok (.invokevirtual 355, 3) := by decide +kernel
theorem dX8_sure_7 : decode cX8_sure 7 = .ok (.ifCond .eq 20, 3) := by decide +kernel
theorem dX8_sure_10 : decode cX8_sure 10 = .ok (.iload_n 2, 1) := by decide +kernel
theorem dX8_sure_11 : decode cX8_sure 11 = .ok (.invokestatic 389, 3) := by decide +kernel
theorem dX8_sure_14 : decode cX8_sure 14 = .ok (.ifCond .eq 13, 3) := by decide +kernel
theorem dX8_sure_17 : decode cX8_sure 17 = .ok (.iload_n 3, 1) := by decide +kernel
theorem dX8_sure_18 : decode cX8_sure 18 = .ok (.i2l, 1) := by decide +kernel
theorem dX8_sure_19 : decode cX8_sure 19 = .ok (.lconst 0, 1) := by decide +kernel
theorem dX8_sure_20 : decode cX8_sure 20 = .ok (.lconst 1, 1) := by decide +kernel
theorem dX8_sure_21 : decode cX8_sure 21 = .ok (.invokestatic 111, 3) := by decide +kernel
theorem dX8_sure_24 : decode cX8_sure 24 = .ok (.ifCond .ne 6, 3) := by decide +kernel
theorem dX8_sure_27 : decode cX8_sure 27 = .ok (.bipush (-2), 2) := by decide +kernel
theorem dX8_sure_29 : decode cX8_sure 29 = .ok (.ireturn, 1) := by decide +kernel
theorem dX8_sure_30 : decode cX8_sure 30 = .ok (.aload_n 0, 1) := by decide +kernel
theorem dX8_sure_31 : decode cX8_sure 31 = .ok (.iload_n 1, 1) := by decide +kernel
theorem dX8_sure_32 : decode cX8_sure 32 = .ok (.iload 4, 2) := by decide +kernel
theorem dX8_sure_34 : decode cX8_sure 34 = .ok (.invokevirtual 358, 3) := by decide +kernel
theorem dX8_sure_37 : decode cX8_sure 37 = .ok (.ifCond .eq 6, 3) := by decide +kernel
theorem dX8_sure_40 : decode cX8_sure 40 = .ok (.bipush (-3), 2) := by decide +kernel
theorem dX8_sure_42 : decode cX8_sure 42 = .ok (.ireturn, 1) := by decide +kernel
theorem dX8_sure_43 : decode cX8_sure 43 = .ok (.aload_n 0, 1) := by decide +kernel
theorem dX8_sure_44 : decode cX8_sure 44 = .ok (.iload_n 1, 1) := by decide +kernel
theorem dX8_sure_45 : decode cX8_sure 45 = .ok (.iload_n 2, 1) := by decide +kernel
theorem dX8_sure_46 : decode cX8_sure 46 = .ok (.iload 4, 2) := by decide +kernel
theorem dX8_sure_48 : decode cX8_sure 48 = .ok (.invokevirtual 433, 3) := by decide +kernel
theorem dX8_sure_51 : decode cX8_sure 51 = .ok (.istore 5, 2) := by decide +kernel
theorem dX8_sure_53 : decode cX8_sure 53 = .ok (.iconst 0, 1) := by decide +kernel
theorem dX8_sure_54 : decode cX8_sure 54 = .ok (.istore 6, 2) := by decide +kernel
theorem dX8_sure_56 : decode cX8_sure 56 = .ok (.iconst 1, 1) := by decide +kernel
theorem dX8_sure_57 : decode cX8_sure 57 = .ok (.istore 7, 2) := by decide +kernel
theorem dX8_sure_59 : decode cX8_sure 59 = .ok (.iload 7, 2) := by decide +kernel
theorem dX8_sure_61 : decode cX8_sure 61 = .ok (.iload 5, 2) := by decide +kernel
theorem dX8_sure_63 : decode cX8_sure 63 = .ok (.if_icmp .ge 74, 3) := by decide +kernel
theorem dX8_sure_66 : decode cX8_sure 66 = .ok (.aload_n 0, 1) := by decide +kernel
theorem dX8_sure_67 : decode cX8_sure 67 = .ok (.getfield 101, 3) := by decide +kernel
theorem dX8_sure_70 : decode cX8_sure 70 = .ok (.iload 7, 2) := by decide +kernel
theorem dX8_sure_72 : decode cX8_sure 72 = .ok (.laload, 1) := by decide +kernel
theorem dX8_sure_73 : decode cX8_sure 73 = .ok (.aload_n 0, 1) := by decide +kernel
theorem dX8_sure_74 : decode cX8_sure 74 = .ok (.getfield 104, 3) := by decide +kernel
theorem dX8_sure_77 : decode cX8_sure 77 = .ok (.iload 6, 2) := by decide +kernel
theorem dX8_sure_79 : decode cX8_sure 79 = .ok (.laload, 1) := by decide +kernel
theorem dX8_sure_80 : decode cX8_sure 80 = .ok (.lmul, 1) := by decide +kernel
theorem dX8_sure_81 : decode cX8_sure 81 = .ok (.aload_n 0, 1) := by decide +kernel
theorem dX8_sure_82 : decode cX8_sure 82 = .ok (.getfield 101, 3) := by decide +kernel
theorem dX8_sure_85 : decode cX8_sure 85 = .ok (.iload 6, 2) := by decide +kernel
theorem dX8_sure_87 : decode cX8_sure 87 = .ok (.laload, 1) := by decide +kernel
theorem dX8_sure_88 : decode cX8_sure 88 = .ok (.aload_n 0, 1) := by decide +kernel
theorem dX8_sure_89 : decode cX8_sure 89 = .ok (.getfield 104, 3) := by decide +kernel
theorem dX8_sure_92 : decode cX8_sure 92 = .ok (.iload 7, 2) := by decide +kernel
theorem dX8_sure_94 : decode cX8_sure 94 = .ok (.laload, 1) := by decide +kernel
theorem dX8_sure_95 : decode cX8_sure 95 = .ok (.lmul, 1) := by decide +kernel
theorem dX8_sure_96 : decode cX8_sure 96 = .ok (.lsub, 1) := by decide +kernel
theorem dX8_sure_97 : decode cX8_sure 97 = .ok (.lstore 8, 2) := by decide +kernel
theorem dX8_sure_99 : decode cX8_sure 99 = .ok (.iload_n 3, 1) := by decide +kernel
theorem dX8_sure_100 : decode cX8_sure 100 = .ok (.ifCond .ne 10, 3) := by decide +kernel
theorem dX8_sure_103 : decode cX8_sure 103 = .ok (.lload 8, 2) := by decide +kernel
theorem dX8_sure_105 : decode cX8_sure 105 = .ok (.lconst 0, 1) := by decide +kernel
theorem dX8_sure_106 : decode cX8_sure 106 = .ok (.lcmp, 1) := by decide +kernel
theorem dX8_sure_107 : decode cX8_sure 107 = .ok (.ifCond .lt 15, 3) := by decide +kernel
theorem dX8_sure_110 : decode cX8_sure 110 = .ok (.iload_n 3, 1) := by decide +kernel
theorem dX8_sure_111 : decode cX8_sure 111 = .ok (.iconst 1, 1) := by decide +kernel
theorem dX8_sure_112 : decode cX8_sure 112 = .ok (.if_icmp .ne 15, 3) := by decide +kernel
theorem dX8_sure_115 : decode cX8_sure 115 = .ok (.lload 8, 2) := by decide +kernel
theorem dX8_sure_117 : decode cX8_sure 117 = .ok (.lconst 0, 1) := by decide +kernel
theorem dX8_sure_118 : decode cX8_sure 118 = .ok (.lcmp, 1) := by decide +kernel
theorem dX8_sure_119 : decode cX8_sure 119 = .ok (.ifCond .le 8, 3) := by decide +kernel
theorem dX8_sure_122 : decode cX8_sure 122 = .ok (.iload 7, 2) := by decide +kernel
theorem dX8_sure_124 : decode cX8_sure 124 = .ok (.goto 5, 3) := by decide +kernel
theorem dX8_sure_127 : decode cX8_sure 127 = .ok (.iload 6, 2) := by decide +kernel
theorem dX8_sure_129 : decode cX8_sure 129 = .ok (.istore 6, 2) := by decide +kernel
theorem dX8_sure_131 : decode cX8_sure 131 = .ok (.iinc 7 1, 3) := by decide +kernel
theorem dX8_sure_134 : decode cX8_sure 134 = .ok (.goto (-75), 3) := by decide +kernel
theorem dX8_sure_137 : decode cX8_sure 137 = .ok (.aload_n 0, 1) := by decide +kernel
theorem dX8_sure_138 : decode cX8_sure 138 = .ok (.aload_n 0, 1) := by decide +kernel
theorem dX8_sure_139 : decode cX8_sure 139 = .ok (.getfield 101, 3) := by decide +kernel
theorem dX8_sure_142 : decode cX8_sure 142 = .ok (.iload 6, 2) := by decide +kernel
theorem dX8_sure_144 : decode cX8_sure 144 = .ok (.laload, 1) := by decide +kernel
theorem dX8_sure_145 : decode cX8_sure 145 = .ok (.aload_n 0, 1) := by decide +kernel
theorem dX8_sure_146 : decode cX8_sure 146 = .ok (.getfield 104, 3) := by decide +kernel
theorem dX8_sure_149 : decode cX8_sure 149 = .ok (.iload 6, 2) := by decide +kernel
theorem dX8_sure_151 : decode cX8_sure 151 = .ok (.laload, 1) := by decide +kernel
theorem dX8_sure_152 : decode cX8_sure 152 = .ok (.invokevirtual 396, 3) := by decide +kernel
theorem dX8_sure_155 : decode cX8_sure 155 = .ok (.iconst 1, 1) := by decide +kernel
theorem dX8_sure_156 : decode cX8_sure 156 = .ok (.ireturn, 1) := by decide +kernel
def f_X8_sure_b110 (n : Nat) (x1 : Int32) (x2 : Int32) (x3 : Int32) (x4 : Int32) (q59 : Int32 → Int32 → Int32 → m_M → Option (Int32 × m_M)) (x5 : Int32) (x6 : Int32) (x7 : Int32) (x8 : Int64) (M : m_M) : Option (Int32 × m_M) :=
  if x3 = 1 then
  if x8 ≤ 0 then
  q59 x5 x6 (x7 + 1) M
  else
  q59 x5 x7 (x7 + 1) M
  else
  q59 x5 x6 (x7 + 1) M
def f_X8_sure_b59 (n : Nat) (x1 : Int32) (x2 : Int32) (x3 : Int32) (x4 : Int32) : Nat → Int32 → Int32 → Int32 → m_M → Option (Int32 × m_M)
  | 0, _, _, _, _ => none
  | u + 1, x5, x6, x7, M =>
    if x5 ≤ x7 then
  m_gd (m_in x6 32) (
  m_ob (f_X8_tell n (M.2 200 x6.toNatClampNeg) (M.2 201 x6.toNatClampNeg) M) fun M5 =>
  some (1, M5))
  else
  m_gd (m_in x7 32) (
  m_gd (m_in x6 32) (
  m_bd (((M.2 200 x7.toNatClampNeg) * (M.2 201 x6.toNatClampNeg)) - ((M.2 200 x6.toNatClampNeg) * (M.2 201 x7.toNatClampNeg))) fun t8 =>
  if x3 = 0 then
  if t8 < 0 then
  f_X8_sure_b59 n x1 x2 x3 x4 u x5 x7 (x7 + 1) M
  else
  f_X8_sure_b110 n x1 x2 x3 x4 (f_X8_sure_b59 n x1 x2 x3 x4 u) x5 x6 x7 t8 M
  else
  f_X8_sure_b110 n x1 x2 x3 x4 (f_X8_sure_b59 n x1 x2 x3 x4 u) x5 x6 x7 t8 M))
def f_X8_sure (n : Nat) (x1 : Int32) (x2 : Int32) (x3 : Int32) (x4 : Int32) (M : m_M) : Option (Int32 × m_M) :=
  m_o2 (f_X8_isAsked n x1 x4 M) fun r11 M12 =>
  if r11 = 0 then
  some ((-2), M12)
  else
  m_bd (f_X8_isAsk x2) fun r15 =>
  if r15 = 0 then
  some ((-2), M12)
  else
  m_bd (f_X8_isIn x3.toInt64 0 1) fun r18 =>
  if r18 = 0 then
  some ((-2), M12)
  else
  m_ob (f_X8_isEarly x1 x4 M12) fun r21 =>
  if r21 = 0 then
  m_o2 (f_X8_layWays n x1 x2 x4 M12) fun r24 M25 =>
  f_X8_sure_b59 n x1 x2 x3 x4 n r24 0 1 M25
  else
  some ((-3), M12)
set_option maxHeartbeats 4000000 in
set_option maxRecDepth 100000 in
theorem c_X8_sure (l : Launch) (G : m_G) {n : Nat} {x1 : Int32} {x2 : Int32} {x3 : Int32} {x4 : Int32} {M : m_M} {r0 : Int32} {M0 : m_M}  (hres : f_X8_sure n x1 x2 x3 x4 M = some (r0, M0)) : Met l yX8_sure (m_U yX8_sure cX8_sure 10 (some .int)) (m_R 8 186) (m_Pc G [.ref (m_ad G 172), .int x1, .int x2, .int x3, .int x4] M) (m_Qi G r0 M0) 0 0 (m_A G) := by
  refine m_i0 (n := 10) RX8 rfl (by decide) (Nat.le_of_ble_eq_true rfl) ?_
  intro p e s m args below meth c X hr hlk hSt hP hS ls hl
  have hl : lv_has ls 10 [(0, .ref (m_ad G 172)), (1, .int x1), (2, .int x2), (3, .int x3), (4, .int x4)] := hl
  have B110 : ∀ (q59 : Int32 → Int32 → Int32 → m_M → Option (Int32 × m_M)) (hq59 : ∀ (x5 : Int32) (x6 : Int32) (x7 : Int32) (M : m_M) (H : Heap) (locs : List Loc) (ls : Array Slot), m_P G M H → va_S (m_A G) s.heap H locs → lv_has ls 10 [(0, .ref (m_ad G 172)), (3, .int x3), (5, .int x5), (6, .int x6), (7, .int x7)] → q59 x5 x6 x7 M = some (r0, M0) → W p l e (m_R 8 186) s m args below meth c H locs 0 0 (MQ below (m_Qi G r0 M0) args s 0 0 (m_A G)) (F0 m 59 ls [])) (x5 : Int32) (x6 : Int32) (x7 : Int32) (x8 : Int64) (M : m_M) (H : Heap) (locs : List Loc) (ls : Array Slot), m_P G M H → va_S (m_A G) s.heap H locs → lv_has ls 10 [(0, .ref (m_ad G 172)), (3, .int x3), (5, .int x5), (6, .int x6), (7, .int x7), (8, .long x8)] → f_X8_sure_b110 n x1 x2 x3 x4 q59 x5 x6 x7 x8 M = some (r0, M0) → W p l e (m_R 8 186) s m args below meth c H locs 0 0 (MQ below (m_Qi G r0 M0) args s 0 0 (m_A G)) (F0 m 110 ls []) := by
    intro q59 hq59 x5 x6 x7 x8 M H locs ls hP hS hl hres
    unfold f_X8_sure_b110 at hres
    refine lv_iload_n X.1 X.2.1 dX8_sure_110 rfl (lv_at hl 1 rfl) ?_
    refine lv_iconst (v := 1) X.1 X.2.1 dX8_sure_111 (by decide) ?_
    refine lv_icmp_ne (tgt := 127) X.1 X.2.1 dX8_sure_112 (by decide) (fun hc1 => ?_) (fun hc1 => ?_)
    · have hres := m_if hres hc1
      refine lv_iload X.1 X.2.1 dX8_sure_127 (lv_at hl 3 rfl) ?_
      refine lv_istore (lv' := [(6, .int x6), (0, .ref (m_ad G 172)), (3, .int x3), (5, .int x5), (7, .int x7), (8, .long x8)]) X.1 X.2.1 dX8_sure_129 hl (by decide) rfl (fun ls hl => ?_)
      refine lv_iinc (v := (x7 + 1)) (lv' := [(7, .int (x7 + 1)), (6, .int x6), (0, .ref (m_ad G 172)), (3, .int x3), (5, .int x5), (8, .long x8)]) X.1 X.2.1 dX8_sure_131 hl (k := 4) rfl rfl (by decide) rfl (fun ls hl => ?_)
      refine lv_goto (tgt := 59) X.1 X.2.1 dX8_sure_134 (by decide) ?_
      exact hq59 x5 x6 (x7 + 1) M _ _ _ hP hS (lv_sub hl [2, 3, 4, 1, 0] rfl) hres
    · have hres := m_it hres hc1
      refine lv_lload X.1 X.2.1 dX8_sure_115 (lv_at hl 5 rfl) ?_
      refine lv_lconst (v := 0) X.1 X.2.1 dX8_sure_117 (by decide) ?_
      refine m_lle (tgt := 127) X dX8_sure_118 dX8_sure_119 (by decide) (fun hc2 => ?_) (fun hc2 => ?_)
      · have hres := m_it hres hc2
        refine lv_iload X.1 X.2.1 dX8_sure_127 (lv_at hl 3 rfl) ?_
        refine lv_istore (lv' := [(6, .int x6), (0, .ref (m_ad G 172)), (3, .int x3), (5, .int x5), (7, .int x7), (8, .long x8)]) X.1 X.2.1 dX8_sure_129 hl (by decide) rfl (fun ls hl => ?_)
        refine lv_iinc (v := (x7 + 1)) (lv' := [(7, .int (x7 + 1)), (6, .int x6), (0, .ref (m_ad G 172)), (3, .int x3), (5, .int x5), (8, .long x8)]) X.1 X.2.1 dX8_sure_131 hl (k := 4) rfl rfl (by decide) rfl (fun ls hl => ?_)
        refine lv_goto (tgt := 59) X.1 X.2.1 dX8_sure_134 (by decide) ?_
        exact hq59 x5 x6 (x7 + 1) M _ _ _ hP hS (lv_sub hl [2, 3, 4, 1, 0] rfl) hres
      · have hres := m_if hres hc2
        refine lv_iload X.1 X.2.1 dX8_sure_122 (lv_at hl 4 rfl) ?_
        refine lv_goto (tgt := 129) X.1 X.2.1 dX8_sure_124 (by decide) ?_
        refine lv_istore (lv' := [(6, .int x7), (0, .ref (m_ad G 172)), (3, .int x3), (5, .int x5), (7, .int x7), (8, .long x8)]) X.1 X.2.1 dX8_sure_129 hl (by decide) rfl (fun ls hl => ?_)
        refine lv_iinc (v := (x7 + 1)) (lv' := [(7, .int (x7 + 1)), (6, .int x7), (0, .ref (m_ad G 172)), (3, .int x3), (5, .int x5), (8, .long x8)]) X.1 X.2.1 dX8_sure_131 hl (k := 4) rfl rfl (by decide) rfl (fun ls hl => ?_)
        refine lv_goto (tgt := 59) X.1 X.2.1 dX8_sure_134 (by decide) ?_
        exact hq59 x5 x7 (x7 + 1) M _ _ _ hP hS (lv_sub hl [2, 3, 4, 1, 0] rfl) hres
  have B59 : ∀ (u : Nat) (x5 : Int32) (x6 : Int32) (x7 : Int32) (M : m_M) (H : Heap) (locs : List Loc) (ls : Array Slot), m_P G M H → va_S (m_A G) s.heap H locs → lv_has ls 10 [(0, .ref (m_ad G 172)), (3, .int x3), (5, .int x5), (6, .int x6), (7, .int x7)] → f_X8_sure_b59 n x1 x2 x3 x4 u x5 x6 x7 M = some (r0, M0) → W p l e (m_R 8 186) s m args below meth c H locs 0 0 (MQ below (m_Qi G r0 M0) args s 0 0 (m_A G)) (F0 m 59 ls []) := by
    intro u
    induction u with
    | zero =>
      intro x5 x6 x7 M H locs ls hP hS hl hres
      cases hres
    | succ u ih =>
      intro x5 x6 x7 M H locs ls hP hS hl hres
      rw [f_X8_sure_b59] at hres
      refine lv_iload X.1 X.2.1 dX8_sure_59 (lv_at hl 4 rfl) ?_
      refine lv_iload X.1 X.2.1 dX8_sure_61 (lv_at hl 2 rfl) ?_
      refine lv_icmp_ge (tgt := 137) X.1 X.2.1 dX8_sure_63 (by decide) (fun hc3 => ?_) (fun hc3 => ?_)
      · have hres := m_it hres hc3
        refine lv_aload_n X.1 X.2.1 dX8_sure_137 rfl (lv_at hl 0 rfl) ?_
        refine lv_aload_n X.1 X.2.1 dX8_sure_138 rfl (lv_at hl 0 rfl) ?_
        refine m_g8 (v := .ref (m_ad G 200)) X hSt hP m_z_172 52 (by decide) rfl k_f_X8_101 dX8_sure_139 ?_
        refine lv_iload X.1 X.2.1 dX8_sure_142 (lv_at hl 3 rfl) ?_
        obtain ⟨hg4, hres⟩ := m_gd_e hres
        refine m_la (j := x6.toNatClampNeg) X hSt hP m_z_200 hg4 rfl dX8_sure_144 ?_
        refine lv_aload_n X.1 X.2.1 dX8_sure_145 rfl (lv_at hl 0 rfl) ?_
        refine m_g8 (v := .ref (m_ad G 201)) X hSt hP m_z_172 53 (by decide) rfl k_f_X8_104 dX8_sure_146 ?_
        refine lv_iload X.1 X.2.1 dX8_sure_149 (lv_at hl 3 rfl) ?_
        refine m_la (j := x6.toNatClampNeg) X hSt hP m_z_201 hg4 rfl dX8_sure_151 ?_
        obtain ⟨M5, eM5, hres⟩ := m_ob_e hres
        refine m_bv (m_cV (n := 2) (As := [.long (M.2 200 x6.toNatClampNeg), .long (M.2 201 x6.toNatClampNeg)]) (rest := []) X hSt hP hS hl.1 (c_X8_tell l G  eM5) k_c_yX8_tell k_m_X8_396 k_i_yX8_tell k_s_yX8_tell k_n_X8 (by decide +kernel) (m_rc8 hSt hP m_z_172) rfl rfl ⟨Nat.le_of_ble_eq_true rfl, Nat.le_of_ble_eq_true rfl⟩ (Nat.le_of_ble_eq_true rfl) ⟨Nat.zero_le _, Nat.zero_le _⟩ dX8_sure_152) hS (fun H locs hP hS => ?_)
        refine lv_iconst (v := 1) X.1 X.2.1 dX8_sure_155 (by decide) ?_
        exact m_ri X hr hlk hP hS (Prod.mk.inj (Option.some.inj hres)).1 (Prod.mk.inj (Option.some.inj hres)).2 dX8_sure_156
      · have hres := m_if hres hc3
        refine lv_aload_n X.1 X.2.1 dX8_sure_66 rfl (lv_at hl 0 rfl) ?_
        refine m_g8 (v := .ref (m_ad G 200)) X hSt hP m_z_172 52 (by decide) rfl k_f_X8_101 dX8_sure_67 ?_
        refine lv_iload X.1 X.2.1 dX8_sure_70 (lv_at hl 4 rfl) ?_
        obtain ⟨hg6, hres⟩ := m_gd_e hres
        refine m_la (j := x7.toNatClampNeg) X hSt hP m_z_200 hg6 rfl dX8_sure_72 ?_
        refine lv_aload_n X.1 X.2.1 dX8_sure_73 rfl (lv_at hl 0 rfl) ?_
        refine m_g8 (v := .ref (m_ad G 201)) X hSt hP m_z_172 53 (by decide) rfl k_f_X8_104 dX8_sure_74 ?_
        refine lv_iload X.1 X.2.1 dX8_sure_77 (lv_at hl 3 rfl) ?_
        obtain ⟨hg7, hres⟩ := m_gd_e hres
        refine m_la (j := x6.toNatClampNeg) X hSt hP m_z_201 hg7 rfl dX8_sure_79 ?_
        refine lv_lmul X.1 X.2.1 dX8_sure_80 ?_
        refine lv_aload_n X.1 X.2.1 dX8_sure_81 rfl (lv_at hl 0 rfl) ?_
        refine m_g8 (v := .ref (m_ad G 200)) X hSt hP m_z_172 52 (by decide) rfl k_f_X8_101 dX8_sure_82 ?_
        refine lv_iload X.1 X.2.1 dX8_sure_85 (lv_at hl 3 rfl) ?_
        refine m_la (j := x6.toNatClampNeg) X hSt hP m_z_200 hg7 rfl dX8_sure_87 ?_
        refine lv_aload_n X.1 X.2.1 dX8_sure_88 rfl (lv_at hl 0 rfl) ?_
        refine m_g8 (v := .ref (m_ad G 201)) X hSt hP m_z_172 53 (by decide) rfl k_f_X8_104 dX8_sure_89 ?_
        refine lv_iload X.1 X.2.1 dX8_sure_92 (lv_at hl 4 rfl) ?_
        refine m_la (j := x7.toNatClampNeg) X hSt hP m_z_201 hg6 rfl dX8_sure_94 ?_
        refine lv_lmul X.1 X.2.1 dX8_sure_95 ?_
        refine lv_lsub X.1 X.2.1 dX8_sure_96 ?_
        obtain ⟨t8, et8, hres⟩ := m_bd_e hres
        refine m_tl et8 ?_
        refine lv_lstore (lv' := [(8, .long t8), (0, .ref (m_ad G 172)), (3, .int x3), (5, .int x5), (6, .int x6), (7, .int x7)]) X.1 X.2.1 dX8_sure_97 hl (by decide) rfl (fun ls hl => ?_)
        refine lv_iload_n X.1 X.2.1 dX8_sure_99 rfl (lv_at hl 2 rfl) ?_
        refine lv_if_ne (tgt := 110) X.1 X.2.1 dX8_sure_100 (by decide) (fun hc9 => ?_) (fun hc9 => ?_)
        · have hres := m_if hres hc9
          exact B110 (f_X8_sure_b59 n x1 x2 x3 x4 u) ih x5 x6 x7 t8 M _ _ _ hP hS (lv_sub hl [1, 2, 3, 4, 5, 0] rfl) hres
        · have hres := m_it hres hc9
          refine lv_lload X.1 X.2.1 dX8_sure_103 (lv_at hl 0 rfl) ?_
          refine lv_lconst (v := 0) X.1 X.2.1 dX8_sure_105 (by decide) ?_
          refine m_llt (tgt := 122) X dX8_sure_106 dX8_sure_107 (by decide) (fun hc10 => ?_) (fun hc10 => ?_)
          · have hres := m_it hres hc10
            refine lv_iload X.1 X.2.1 dX8_sure_122 (lv_at hl 5 rfl) ?_
            refine lv_goto (tgt := 129) X.1 X.2.1 dX8_sure_124 (by decide) ?_
            refine lv_istore (lv' := [(6, .int x7), (8, .long t8), (0, .ref (m_ad G 172)), (3, .int x3), (5, .int x5), (7, .int x7)]) X.1 X.2.1 dX8_sure_129 hl (by decide) rfl (fun ls hl => ?_)
            refine lv_iinc (v := (x7 + 1)) (lv' := [(7, .int (x7 + 1)), (6, .int x7), (8, .long t8), (0, .ref (m_ad G 172)), (3, .int x3), (5, .int x5)]) X.1 X.2.1 dX8_sure_131 hl (k := 5) rfl rfl (by decide) rfl (fun ls hl => ?_)
            refine lv_goto (tgt := 59) X.1 X.2.1 dX8_sure_134 (by decide) ?_
            exact ih x5 x7 (x7 + 1) M _ _ _ hP hS (lv_sub hl [3, 4, 5, 1, 0] rfl) hres
          · have hres := m_if hres hc10
            exact B110 (f_X8_sure_b59 n x1 x2 x3 x4 u) ih x5 x6 x7 t8 M _ _ _ hP hS (lv_sub hl [1, 2, 3, 4, 5, 0] rfl) hres
  unfold f_X8_sure at hres
  refine lv_aload_n X.1 X.2.1 dX8_sure_0 rfl (lv_at hl 0 rfl) ?_
  refine lv_iload_n X.1 X.2.1 dX8_sure_1 rfl (lv_at hl 1 rfl) ?_
  refine lv_iload X.1 X.2.1 dX8_sure_2 (lv_at hl 4 rfl) ?_
  obtain ⟨r11, M12, err11, hres⟩ := m_o2_e hres
  refine m_bz (m_cV (n := 2) (As := [.int x1, .int x4]) (rest := []) X hSt hP hS hl.1 (c_X8_isAsked l G  err11) k_c_yX8_isAsked k_m_X8_355 k_i_yX8_isAsked k_s_yX8_isAsked k_n_X8 (by decide +kernel) (m_rc8 hSt hP m_z_172) rfl rfl ⟨Nat.le_of_ble_eq_true rfl, Nat.le_of_ble_eq_true rfl⟩ (Nat.le_of_ble_eq_true rfl) ⟨Nat.zero_le _, Nat.zero_le _⟩ dX8_sure_4) hS (fun H locs hP hS hz13 => ?_)
  refine lv_if_eq (tgt := 27) X.1 X.2.1 dX8_sure_7 (by decide) (fun hc14 => ?_) (fun hc14 => ?_)
  · have hres := m_it hres hc14
    refine lv_bipush (v := (-2)) X.1 X.2.1 dX8_sure_27 (by decide) ?_
    exact m_ri X hr hlk hP hS (Prod.mk.inj (Option.some.inj hres)).1 (Prod.mk.inj (Option.some.inj hres)).2 dX8_sure_29
  · have hres := m_if hres hc14
    refine lv_iload_n X.1 X.2.1 dX8_sure_10 rfl (lv_at hl 2 rfl) ?_
    obtain ⟨r15, err15, hres⟩ := m_bd_e hres
    refine m_bz (m_cS (n := 1) (As := [.int x2]) (rest := []) X hSt hP hS hl.1 (c_X8_isAsk l G (M := M12)  err15) k_c_yX8_isAsk k_m_X8_389 k_t_yX8_isAsk k_n_X8 (by decide +kernel) rfl rfl ⟨Nat.le_of_ble_eq_true rfl, Nat.le_of_ble_eq_true rfl⟩ (Nat.le_of_ble_eq_true rfl) ⟨Nat.zero_le _, Nat.zero_le _⟩ dX8_sure_11) hS (fun H locs hP hS hz16 => ?_)
    refine lv_if_eq (tgt := 27) X.1 X.2.1 dX8_sure_14 (by decide) (fun hc17 => ?_) (fun hc17 => ?_)
    · have hres := m_it hres hc17
      refine lv_bipush (v := (-2)) X.1 X.2.1 dX8_sure_27 (by decide) ?_
      exact m_ri X hr hlk hP hS (Prod.mk.inj (Option.some.inj hres)).1 (Prod.mk.inj (Option.some.inj hres)).2 dX8_sure_29
    · have hres := m_if hres hc17
      refine lv_iload_n X.1 X.2.1 dX8_sure_17 rfl (lv_at hl 3 rfl) ?_
      refine lv_i2l (v := x3.toInt64) X.1 X.2.1 dX8_sure_18 rfl ?_
      refine lv_lconst (v := 0) X.1 X.2.1 dX8_sure_19 (by decide) ?_
      refine lv_lconst (v := 1) X.1 X.2.1 dX8_sure_20 (by decide) ?_
      obtain ⟨r18, err18, hres⟩ := m_bd_e hres
      refine m_bz (m_cS (n := 3) (As := [.long x3.toInt64, .long 0, .long 1]) (rest := []) X hSt hP hS hl.1 (c_X8_isIn l G (M := M12)  err18) k_c_yX8_isIn k_m_X8_111 k_t_yX8_isIn k_n_X8 (by decide +kernel) rfl rfl ⟨Nat.le_of_ble_eq_true rfl, Nat.le_of_ble_eq_true rfl⟩ (Nat.le_of_ble_eq_true rfl) ⟨Nat.zero_le _, Nat.zero_le _⟩ dX8_sure_21) hS (fun H locs hP hS hz19 => ?_)
      refine lv_if_ne (tgt := 30) X.1 X.2.1 dX8_sure_24 (by decide) (fun hc20 => ?_) (fun hc20 => ?_)
      · have hres := m_if hres hc20
        refine lv_aload_n X.1 X.2.1 dX8_sure_30 rfl (lv_at hl 0 rfl) ?_
        refine lv_iload_n X.1 X.2.1 dX8_sure_31 rfl (lv_at hl 1 rfl) ?_
        refine lv_iload X.1 X.2.1 dX8_sure_32 (lv_at hl 4 rfl) ?_
        obtain ⟨r21, err21, hres⟩ := m_ob_e hres
        refine m_bz (m_cV (n := 2) (As := [.int x1, .int x4]) (rest := []) X hSt hP hS hl.1 (c_X8_isEarly l G  err21) k_c_yX8_isEarly k_m_X8_358 k_i_yX8_isEarly k_s_yX8_isEarly k_n_X8 (by decide +kernel) (m_rc8 hSt hP m_z_172) rfl rfl ⟨Nat.le_of_ble_eq_true rfl, Nat.le_of_ble_eq_true rfl⟩ (Nat.le_of_ble_eq_true rfl) ⟨Nat.zero_le _, Nat.zero_le _⟩ dX8_sure_34) hS (fun H locs hP hS hz22 => ?_)
        refine lv_if_eq (tgt := 43) X.1 X.2.1 dX8_sure_37 (by decide) (fun hc23 => ?_) (fun hc23 => ?_)
        · have hres := m_it hres hc23
          refine lv_aload_n X.1 X.2.1 dX8_sure_43 rfl (lv_at hl 0 rfl) ?_
          refine lv_iload_n X.1 X.2.1 dX8_sure_44 rfl (lv_at hl 1 rfl) ?_
          refine lv_iload_n X.1 X.2.1 dX8_sure_45 rfl (lv_at hl 2 rfl) ?_
          refine lv_iload X.1 X.2.1 dX8_sure_46 (lv_at hl 4 rfl) ?_
          obtain ⟨r24, M25, err24, hres⟩ := m_o2_e hres
          refine m_bi (m_cV (n := 3) (As := [.int x1, .int x2, .int x4]) (rest := []) X hSt hP hS hl.1 (c_X8_layWays l G  err24) k_c_yX8_layWays k_m_X8_433 k_i_yX8_layWays k_s_yX8_layWays k_n_X8 (by decide +kernel) (m_rc8 hSt hP m_z_172) rfl rfl ⟨Nat.le_of_ble_eq_true rfl, Nat.le_of_ble_eq_true rfl⟩ (Nat.le_of_ble_eq_true rfl) ⟨Nat.zero_le _, Nat.zero_le _⟩ dX8_sure_48) hS (fun H locs hP hS => ?_)
          refine lv_istore (lv' := [(5, .int r24), (0, .ref (m_ad G 172)), (1, .int x1), (2, .int x2), (3, .int x3), (4, .int x4)]) X.1 X.2.1 dX8_sure_51 hl (by decide) rfl (fun ls hl => ?_)
          refine lv_iconst (v := 0) X.1 X.2.1 dX8_sure_53 (by decide) ?_
          refine lv_istore (lv' := [(6, .int 0), (5, .int r24), (0, .ref (m_ad G 172)), (1, .int x1), (2, .int x2), (3, .int x3), (4, .int x4)]) X.1 X.2.1 dX8_sure_54 hl (by decide) rfl (fun ls hl => ?_)
          refine lv_iconst (v := 1) X.1 X.2.1 dX8_sure_56 (by decide) ?_
          refine lv_istore (lv' := [(7, .int 1), (6, .int 0), (5, .int r24), (0, .ref (m_ad G 172)), (1, .int x1), (2, .int x2), (3, .int x3), (4, .int x4)]) X.1 X.2.1 dX8_sure_57 hl (by decide) rfl (fun ls hl => ?_)
          exact B59 n r24 0 1 M25 _ _ _ hP hS (lv_sub hl [3, 6, 2, 1, 0] rfl) hres
        · have hres := m_if hres hc23
          refine lv_bipush (v := (-3)) X.1 X.2.1 dX8_sure_40 (by decide) ?_
          exact m_ri X hr hlk hP hS (Prod.mk.inj (Option.some.inj hres)).1 (Prod.mk.inj (Option.some.inj hres)).2 dX8_sure_42
      · have hres := m_it hres hc20
        refine lv_bipush (v := (-2)) X.1 X.2.1 dX8_sure_27 (by decide) ?_
        exact m_ri X hr hlk hP hS (Prod.mk.inj (Option.some.inj hres)).1 (Prod.mk.inj (Option.some.inj hres)).2 dX8_sure_29
theorem dX8_told_0 : decode cX8_told 0 = .ok (.iload_n 1, 1) := by decide +kernel
theorem dX8_told_1 : decode cX8_told 1 = .ok (.i2l, 1) := by decide +kernel
theorem dX8_told_2 : decode cX8_told 2 = .ok (.lconst 0, 1) := by decide +kernel
theorem dX8_told_3 : decode cX8_told 3 = .ok (.aload_n 0, 1) := by decide +kernel
theorem dX8_told_4 : decode cX8_told 4 = .ok (.invokevirtual 133, 3) := by decide +kernel
theorem dX8_told_7 : decode cX8_told 7 = .ok (.i2l, 1) := by decide +kernel
theorem dX8_told_8 : decode cX8_told 8 = .ok (.lconst 1, 1) := by decide +kernel
theorem dX8_told_9 : decode cX8_told 9 = .ok (.lsub, 1) := by decide +kernel
theorem dX8_told_10 : decode cX8_told 10 = .ok (.invokestatic 111, 3) := by decide +kernel
theorem dX8_told_13 : decode cX8_told 13 = .ok (.ifCond .eq 24, 3) := by decide +kernel
theorem dX8_told_16 : decode cX8_told 16 = .ok (.iload_n 2, 1) := by decide +kernel
theorem dX8_told_17 : decode cX8_told 17 = .ok (.i2l, 1) := by decide +kernel
theorem dX8_told_18 : decode cX8_told 18 = .ok (.lconst 0, 1) := by decide +kernel
theorem dX8_told_19 : decode cX8_told 19 = .ok (.ldc2_w 439, 3) := by decide +kernel
theorem dX8_told_22 : decode cX8_told 22 = .ok (.invokestatic 111, 3) := by decide +kernel
theorem dX8_told_25 : decode cX8_told 25 = .ok (.ifCond .eq 12, 3) := by decide +kernel
theorem dX8_told_28 : decode cX8_told 28 = .ok (.aload_n 0, 1) := by decide +kernel
theorem dX8_told_29 : decode cX8_told 29 = .ok (.iload_n 1, 1) := by decide +kernel
theorem dX8_told_30 : decode cX8_told 30 = .ok (.iload_n 2, 1) := by decide +kernel
theorem dX8_told_31 : decode cX8_told 31 = .ok (.invokevirtual 136, 3) := by decide +kernel
theorem dX8_told_34 : decode cX8_told 34 = .ok (.goto 5, 3) := by decide +kernel
theorem dX8_told_37 : decode cX8_told 37 = .ok (.bipush (-10), 2) := by decide +kernel
theorem dX8_told_39 : decode cX8_told 39 = .ok (.ireturn, 1) := by decide +kernel
def f_X8_told (x1 : Int32) (x2 : Int32) (M : m_M) : Option Int32 :=
  m_bd (f_X8_notes M) fun r1 =>
  m_bd (f_X8_isIn x1.toInt64 0 (r1.toInt64 - (1 : Int64))) fun r2 =>
  if r2 = 0 then
  some (-10)
  else
  m_bd (f_X8_isIn x2.toInt64 0 5) fun r5 =>
  if r5 = 0 then
  some (-10)
  else
  m_ob (f_X8_of x1 x2 M) fun r8 =>
  some r8
set_option maxHeartbeats 4000000 in
set_option maxRecDepth 100000 in
theorem c_X8_told (l : Launch) (G : m_G) {x1 : Int32} {x2 : Int32} {M : m_M} {r0 : Int32}  (hres : f_X8_told x1 x2 M = some r0) : Met l yX8_told (m_U yX8_told cX8_told 3 (some .int)) (m_R 1 25) (m_Pc G [.ref (m_ad G 172), .int x1, .int x2] M) (m_Qi G r0 M) 0 0 (m_A G) := by
  refine m_i0 (n := 3) RX8 rfl (by decide) (Nat.le_of_ble_eq_true rfl) ?_
  intro p e s m args below meth c X hr hlk hSt hP hS ls hl
  have hl : lv_has ls 3 [(0, .ref (m_ad G 172)), (1, .int x1), (2, .int x2)] := hl
  unfold f_X8_told at hres
  refine lv_iload_n X.1 X.2.1 dX8_told_0 rfl (lv_at hl 1 rfl) ?_
  refine lv_i2l (v := x1.toInt64) X.1 X.2.1 dX8_told_1 rfl ?_
  refine lv_lconst (v := 0) X.1 X.2.1 dX8_told_2 (by decide) ?_
  refine lv_aload_n X.1 X.2.1 dX8_told_3 rfl (lv_at hl 0 rfl) ?_
  obtain ⟨r1, err1, hres⟩ := m_bd_e hres
  refine m_bi (m_cV (n := 0) (As := []) (rest := [.long 0, .long x1.toInt64]) X hSt hP hS hl.1 (c_X8_notes l G  err1) k_c_yX8_notes k_m_X8_133 k_i_yX8_notes k_s_yX8_notes k_n_X8 (by decide +kernel) (m_rc8 hSt hP m_z_172) rfl rfl ⟨Nat.le_of_ble_eq_true rfl, Nat.le_of_ble_eq_true rfl⟩ (Nat.le_of_ble_eq_true rfl) ⟨Nat.zero_le _, Nat.zero_le _⟩ dX8_told_4) hS (fun H locs hP hS => ?_)
  refine lv_i2l (v := r1.toInt64) X.1 X.2.1 dX8_told_7 rfl ?_
  refine lv_lconst (v := 1) X.1 X.2.1 dX8_told_8 (by decide) ?_
  refine lv_lsub X.1 X.2.1 dX8_told_9 ?_
  obtain ⟨r2, err2, hres⟩ := m_bd_e hres
  refine m_bz (m_cS (n := 3) (As := [.long x1.toInt64, .long 0, .long (r1.toInt64 - (1 : Int64))]) (rest := []) X hSt hP hS hl.1 (c_X8_isIn l G (M := M)  err2) k_c_yX8_isIn k_m_X8_111 k_t_yX8_isIn k_n_X8 (by decide +kernel) rfl rfl ⟨Nat.le_of_ble_eq_true rfl, Nat.le_of_ble_eq_true rfl⟩ (Nat.le_of_ble_eq_true rfl) ⟨Nat.zero_le _, Nat.zero_le _⟩ dX8_told_10) hS (fun H locs hP hS hz3 => ?_)
  refine lv_if_eq (tgt := 37) X.1 X.2.1 dX8_told_13 (by decide) (fun hc4 => ?_) (fun hc4 => ?_)
  · have hres := m_it hres hc4
    refine lv_bipush (v := (-10)) X.1 X.2.1 dX8_told_37 (by decide) ?_
    exact m_ri X hr hlk hP hS (Option.some.inj hres) rfl dX8_told_39
  · have hres := m_if hres hc4
    refine lv_iload_n X.1 X.2.1 dX8_told_16 rfl (lv_at hl 2 rfl) ?_
    refine lv_i2l (v := x2.toInt64) X.1 X.2.1 dX8_told_17 rfl ?_
    refine lv_lconst (v := 0) X.1 X.2.1 dX8_told_18 (by decide) ?_
    refine lv_ldc2 (v := 5) X.1 X.2.1 X.2.2.2.1 (X.2.2.2.2 _ k_l_X8_439) dX8_told_19 ?_
    obtain ⟨r5, err5, hres⟩ := m_bd_e hres
    refine m_bz (m_cS (n := 3) (As := [.long x2.toInt64, .long 0, .long 5]) (rest := []) X hSt hP hS hl.1 (c_X8_isIn l G (M := M)  err5) k_c_yX8_isIn k_m_X8_111 k_t_yX8_isIn k_n_X8 (by decide +kernel) rfl rfl ⟨Nat.le_of_ble_eq_true rfl, Nat.le_of_ble_eq_true rfl⟩ (Nat.le_of_ble_eq_true rfl) ⟨Nat.zero_le _, Nat.zero_le _⟩ dX8_told_22) hS (fun H locs hP hS hz6 => ?_)
    refine lv_if_eq (tgt := 37) X.1 X.2.1 dX8_told_25 (by decide) (fun hc7 => ?_) (fun hc7 => ?_)
    · have hres := m_it hres hc7
      refine lv_bipush (v := (-10)) X.1 X.2.1 dX8_told_37 (by decide) ?_
      exact m_ri X hr hlk hP hS (Option.some.inj hres) rfl dX8_told_39
    · have hres := m_if hres hc7
      refine lv_aload_n X.1 X.2.1 dX8_told_28 rfl (lv_at hl 0 rfl) ?_
      refine lv_iload_n X.1 X.2.1 dX8_told_29 rfl (lv_at hl 1 rfl) ?_
      refine lv_iload_n X.1 X.2.1 dX8_told_30 rfl (lv_at hl 2 rfl) ?_
      obtain ⟨r8, err8, hres⟩ := m_ob_e hres
      refine m_bi (m_cV (n := 2) (As := [.int x1, .int x2]) (rest := []) X hSt hP hS hl.1 (c_X8_of l G  err8) k_c_yX8_of k_m_X8_136 k_i_yX8_of k_s_yX8_of k_n_X8 (by decide +kernel) (m_rc8 hSt hP m_z_172) rfl rfl ⟨Nat.le_of_ble_eq_true rfl, Nat.le_of_ble_eq_true rfl⟩ (Nat.le_of_ble_eq_true rfl) ⟨Nat.zero_le _, Nat.zero_le _⟩ dX8_told_31) hS (fun H locs hP hS => ?_)
      refine lv_goto (tgt := 39) X.1 X.2.1 dX8_told_34 (by decide) ?_
      exact m_ri X hr hlk hP hS (Option.some.inj hres) rfl dX8_told_39
theorem dX8_type_0 : decode cX8_type 0 = .ok (.iload_n 3, 1) := by decide +kernel
theorem dX8_type_1 : decode cX8_type 1 = .ok (.i2l, 1) := by decide +kernel
theorem dX8_type_2 : decode cX8_type 2 = .ok (.lconst 1, 1) := by decide +kernel
theorem dX8_type_3 : decode cX8_type 3 = .ok (.ldc2_w 194, 3) := by decide +kernel
theorem dX8_type_6 : decode cX8_type 6 = .ok (.invokestatic 111, 3) := by decide +kernel
theorem dX8_type_9 : decode cX8_type 9 = .ok (.ifCond .ne 6, 3) := by decide +kernel
theorem dX8_type_12 : decode cX8_type 12 = .ok (.bipush (-2), 2) := by decide +kernel
theorem dX8_type_14 : decode cX8_type 14 = .ok (.ireturn, 1) := by decide +kernel
theorem dX8_type_15 : decode cX8_type 15 = .ok (.aload_n 0, 1) := by decide +kernel
theorem dX8_type_16 : decode cX8_type 16 = .ok (.getfield 196, 3) := by decide +kernel
theorem dX8_type_19 : decode cX8_type 19 = .ok (.iload_n 3, 1) := by decide +kernel
theorem dX8_type_20 : decode cX8_type 20 = .ok (.iadd, 1) := by decide +kernel
theorem dX8_type_21 : decode cX8_type 21 = .ok (.sipush 300, 3) := by decide +kernel
theorem dX8_type_24 : decode cX8_type 24 = .ok (.if_icmp .le 6, 3) := by decide +kernel
theorem dX8_type_27 : decode cX8_type 27 = .ok (.bipush (-4), 2) := by decide +kernel
theorem dX8_type_29 : decode cX8_type 29 = .ok (.ireturn, 1) := by decide +kernel
theorem dX8_type_30 : decode cX8_type 30 = .ok (.iload_n 3, 1) := by decide +kernel
theorem dX8_type_31 : decode cX8_type 31 = .ok (.iconst 1, 1) := by decide +kernel
theorem dX8_type_32 : decode cX8_type 32 = .ok (.isub, 1) := by decide +kernel
theorem dX8_type_33 : decode cX8_type 33 = .ok (.istore 4, 2) := by decide +kernel
theorem dX8_type_35 : decode cX8_type 35 = .ok (.iload 4, 2) := by decide +kernel
theorem dX8_type_37 : decode cX8_type 37 = .ok (.ifCond .lt 40, 3) := by decide +kernel
theorem dX8_type_40 : decode cX8_type 40 = .ok (.aload_n 0, 1) := by decide +kernel
theorem dX8_type_41 : decode cX8_type 41 = .ok (.getfield 20, 3) := by decide +kernel
theorem dX8_type_44 : decode cX8_type 44 = .ok (.aload_n 0, 1) := by decide +kernel
theorem dX8_type_45 : decode cX8_type 45 = .ok (.getfield 196, 3) := by decide +kernel
theorem dX8_type_48 : decode cX8_type 48 = .ok (.lload_n 1, 1) := by decide +kernel
theorem dX8_type_49 : decode cX8_type 49 = .ok (.bipush 8, 2) := by decide +kernel
theorem dX8_type_51 : decode cX8_type 51 = .ok (.iload 4, 2) := by decide +kernel
theorem dX8_type_53 : decode cX8_type 53 = .ok (.imul, 1) := by decide +kernel
theorem dX8_type_54 : decode cX8_type 54 = .ok (.lushr, 1) := by decide +kernel
theorem dX8_type_55 : decode cX8_type 55 = .ok (.ldc2_w 199, 3) := by decide +kernel
theorem dX8_type_58 : decode cX8_type 58 = .ok (.land, 1) := by decide +kernel
theorem dX8_type_59 : decode cX8_type 59 = .ok (.l2i, 1) := by decide +kernel
theorem dX8_type_60 : decode cX8_type 60 = .ok (.iastore, 1) := by decide +kernel
theorem dX8_type_61 : decode cX8_type 61 = .ok (.aload_n 0, 1) := by decide +kernel
theorem dX8_type_62 : decode cX8_type 62 = .ok (.dup, 1) := by decide +kernel
theorem dX8_type_63 : decode cX8_type 63 = .ok (.getfield 196, 3) := by decide +kernel
theorem dX8_type_66 : decode cX8_type 66 = .ok (.iconst 1, 1) := by decide +kernel
theorem dX8_type_67 : decode cX8_type 67 = .ok (.iadd, 1) := by decide +kernel
theorem dX8_type_68 : decode cX8_type 68 = .ok (.putfield 196, 3) := by decide +kernel
theorem dX8_type_71 : decode cX8_type 71 = .ok (.iinc 4 (-1), 3) := by decide +kernel
theorem dX8_type_74 : decode cX8_type 74 = .ok (.goto (-39), 3) := by decide +kernel
theorem dX8_type_77 : decode cX8_type 77 = .ok (.aload_n 0, 1) := by decide +kernel
theorem dX8_type_78 : decode cX8_type 78 = .ok (.getfield 196, 3) := by decide +kernel
theorem dX8_type_81 : decode cX8_type 81 = .ok (.ireturn, 1) := by decide +kernel
def f_X8_type_b35 (n : Nat) (x1 : Int64) (x3 : Int32) : Nat → Int32 → m_M → Option (Int32 × m_M)
  | 0, _, _ => none
  | u + 1, x4, M =>
    if x4 < 0 then
  some ((M.1 172 4), M)
  else
  m_gd (m_in (M.1 172 4) 300) (
  m_bd (m_sI M 176 ((M.1 172 4).toNatClampNeg) ((((x1.toUInt64 >>> (((8 : Int32) * x4).toInt64.toUInt64 &&& Int64.toUInt64 63)).toInt64) &&& (255 : Int64)).toInt32)) fun M3 =>
  m_bd (m_sI M3 172 4 ((M3.1 172 4) + (1 : Int32))) fun M4 =>
  f_X8_type_b35 n x1 x3 u (x4 + (-1)) M4)
def f_X8_type (n : Nat) (x1 : Int64) (x3 : Int32) (M : m_M) : Option (Int32 × m_M) :=
  m_bd (f_X8_isIn x3.toInt64 1 8) fun r5 =>
  if r5 = 0 then
  some ((-2), M)
  else
  if ((M.1 172 4) + x3) ≤ 300 then
  f_X8_type_b35 n x1 x3 n (x3 - (1 : Int32)) M
  else
  some ((-4), M)
set_option maxHeartbeats 4000000 in
set_option maxRecDepth 100000 in
theorem c_X8_type (l : Launch) (G : m_G) {n : Nat} {x1 : Int64} {x3 : Int32} {M : m_M} {r0 : Int32} {M0 : m_M}  (hres : f_X8_type n x1 x3 M = some (r0, M0)) : Met l yX8_type (m_U yX8_type cX8_type 5 (some .int)) (m_R 1 25) (m_Pc G [.ref (m_ad G 172), .long x1, .int x3] M) (m_Qi G r0 M0) 0 0 (m_A G) := by
  refine m_i0 (n := 5) RX8 rfl (by decide) (Nat.le_of_ble_eq_true rfl) ?_
  intro p e s m args below meth c X hr hlk hSt hP hS ls hl
  have hl : lv_has ls 5 [(0, .ref (m_ad G 172)), (1, .long x1), (3, .int x3)] := hl
  have B35 : ∀ (u : Nat) (x4 : Int32) (M : m_M) (H : Heap) (locs : List Loc) (ls : Array Slot), m_P G M H → va_S (m_A G) s.heap H locs → lv_has ls 5 [(0, .ref (m_ad G 172)), (1, .long x1), (4, .int x4)] → f_X8_type_b35 n x1 x3 u x4 M = some (r0, M0) → W p l e (m_R 1 25) s m args below meth c H locs 0 0 (MQ below (m_Qi G r0 M0) args s 0 0 (m_A G)) (F0 m 35 ls []) := by
    intro u
    induction u with
    | zero =>
      intro x4 M H locs ls hP hS hl hres
      cases hres
    | succ u ih =>
      intro x4 M H locs ls hP hS hl hres
      rw [f_X8_type_b35] at hres
      refine lv_iload X.1 X.2.1 dX8_type_35 (lv_at hl 2 rfl) ?_
      refine lv_if_lt (tgt := 77) X.1 X.2.1 dX8_type_37 (by decide) (fun hc1 => ?_) (fun hc1 => ?_)
      · have hres := m_it hres hc1
        refine lv_aload_n X.1 X.2.1 dX8_type_77 rfl (lv_at hl 0 rfl) ?_
        refine m_g8 (v := .int (M.1 172 4)) X hSt hP m_z_172 4 (by decide) rfl k_f_X8_196 dX8_type_78 ?_
        exact m_ri X hr hlk hP hS (Prod.mk.inj (Option.some.inj hres)).1 (Prod.mk.inj (Option.some.inj hres)).2 dX8_type_81
      · have hres := m_if hres hc1
        refine lv_aload_n X.1 X.2.1 dX8_type_40 rfl (lv_at hl 0 rfl) ?_
        refine m_g8 (v := .ref (m_ad G 176)) X hSt hP m_z_172 3 (by decide) rfl k_f_X8_20 dX8_type_41 ?_
        refine lv_aload_n X.1 X.2.1 dX8_type_44 rfl (lv_at hl 0 rfl) ?_
        refine m_g8 (v := .int (M.1 172 4)) X hSt hP m_z_172 4 (by decide) rfl k_f_X8_196 dX8_type_45 ?_
        refine lv_lload_n X.1 X.2.1 dX8_type_48 rfl (lv_at hl 1 rfl) ?_
        refine lv_bipush (v := 8) X.1 X.2.1 dX8_type_49 (by decide) ?_
        refine lv_iload X.1 X.2.1 dX8_type_51 (lv_at hl 2 rfl) ?_
        refine lv_imul X.1 X.2.1 dX8_type_53 ?_
        refine lv_lushr (v := (x1.toUInt64 >>> (((8 : Int32) * x4).toInt64.toUInt64 &&& Int64.toUInt64 63)).toInt64) X.1 X.2.1 dX8_type_54 rfl ?_
        refine lv_ldc2 (v := 255) X.1 X.2.1 X.2.2.2.1 (X.2.2.2.2 _ k_l_X8_199) dX8_type_55 ?_
        refine lv_land X.1 X.2.1 dX8_type_58 ?_
        refine lv_l2i (v := (((x1.toUInt64 >>> (((8 : Int32) * x4).toInt64.toUInt64 &&& Int64.toUInt64 63)).toInt64) &&& (255 : Int64)).toInt32) X.1 X.2.1 dX8_type_59 rfl ?_
        obtain ⟨hg2, hres⟩ := m_gd_e hres
        obtain ⟨M3, eM3, hres⟩ := m_bd_e hres
        refine m_is (j := ((M.1 172 4).toNatClampNeg)) X hSt hP hS m_z_176 hg2 rfl dX8_type_60 eM3 (fun H locs hP hS => ?_)
        refine lv_aload_n X.1 X.2.1 dX8_type_61 rfl (lv_at hl 0 rfl) ?_
        refine lv_dup X.1 X.2.1 dX8_type_62 rfl ?_
        refine m_g8 (v := .int (M3.1 172 4)) X hSt hP m_z_172 4 (by decide) rfl k_f_X8_196 dX8_type_63 ?_
        refine lv_iconst (v := 1) X.1 X.2.1 dX8_type_66 (by decide) ?_
        refine lv_iadd X.1 X.2.1 dX8_type_67 ?_
        obtain ⟨M4, eM4, hres⟩ := m_bd_e hres
        refine m_pi8 X hSt hP hS m_z_172 4 (by decide) eM4 rfl rfl (by decide) k_f_X8_196 dX8_type_68 (fun H locs hP hS => ?_)
        refine lv_iinc (v := (x4 + (-1))) (lv' := [(4, .int (x4 + (-1))), (0, .ref (m_ad G 172)), (1, .long x1)]) X.1 X.2.1 dX8_type_71 hl (k := 2) rfl rfl (by decide) rfl (fun ls hl => ?_)
        refine lv_goto (tgt := 35) X.1 X.2.1 dX8_type_74 (by decide) ?_
        exact ih (x4 + (-1)) M4 _ _ _ hP hS (lv_sub hl [1, 2, 0] rfl) hres
  unfold f_X8_type at hres
  refine lv_iload_n X.1 X.2.1 dX8_type_0 rfl (lv_at hl 2 rfl) ?_
  refine lv_i2l (v := x3.toInt64) X.1 X.2.1 dX8_type_1 rfl ?_
  refine lv_lconst (v := 1) X.1 X.2.1 dX8_type_2 (by decide) ?_
  refine lv_ldc2 (v := 8) X.1 X.2.1 X.2.2.2.1 (X.2.2.2.2 _ k_l_X8_194) dX8_type_3 ?_
  obtain ⟨r5, err5, hres⟩ := m_bd_e hres
  refine m_bz (m_cS (n := 3) (As := [.long x3.toInt64, .long 1, .long 8]) (rest := []) X hSt hP hS hl.1 (c_X8_isIn l G (M := M)  err5) k_c_yX8_isIn k_m_X8_111 k_t_yX8_isIn k_n_X8 (by decide +kernel) rfl rfl ⟨Nat.le_of_ble_eq_true rfl, Nat.le_of_ble_eq_true rfl⟩ (Nat.le_of_ble_eq_true rfl) ⟨Nat.zero_le _, Nat.zero_le _⟩ dX8_type_6) hS (fun H locs hP hS hz6 => ?_)
  refine lv_if_ne (tgt := 15) X.1 X.2.1 dX8_type_9 (by decide) (fun hc7 => ?_) (fun hc7 => ?_)
  · have hres := m_if hres hc7
    refine lv_aload_n X.1 X.2.1 dX8_type_15 rfl (lv_at hl 0 rfl) ?_
    refine m_g8 (v := .int (M.1 172 4)) X hSt hP m_z_172 4 (by decide) rfl k_f_X8_196 dX8_type_16 ?_
    refine lv_iload_n X.1 X.2.1 dX8_type_19 rfl (lv_at hl 2 rfl) ?_
    refine lv_iadd X.1 X.2.1 dX8_type_20 ?_
    refine lv_sipush (v := 300) X.1 X.2.1 dX8_type_21 (by decide) ?_
    refine lv_icmp_le (tgt := 30) X.1 X.2.1 dX8_type_24 (by decide) (fun hc8 => ?_) (fun hc8 => ?_)
    · have hres := m_it hres hc8
      refine lv_iload_n X.1 X.2.1 dX8_type_30 rfl (lv_at hl 2 rfl) ?_
      refine lv_iconst (v := 1) X.1 X.2.1 dX8_type_31 (by decide) ?_
      refine lv_isub X.1 X.2.1 dX8_type_32 ?_
      refine lv_istore (lv' := [(4, .int (x3 - (1 : Int32))), (0, .ref (m_ad G 172)), (1, .long x1), (3, .int x3)]) X.1 X.2.1 dX8_type_33 hl (by decide) rfl (fun ls hl => ?_)
      exact B35 n (x3 - (1 : Int32)) M _ _ _ hP hS (lv_sub hl [1, 2, 0] rfl) hres
    · have hres := m_if hres hc8
      refine lv_bipush (v := (-4)) X.1 X.2.1 dX8_type_27 (by decide) ?_
      exact m_ri X hr hlk hP hS (Prod.mk.inj (Option.some.inj hres)).1 (Prod.mk.inj (Option.some.inj hres)).2 dX8_type_29
  · have hres := m_it hres hc7
    refine lv_bipush (v := (-2)) X.1 X.2.1 dX8_type_12 (by decide) ?_
    exact m_ri X hr hlk hP hS (Prod.mk.inj (Option.some.inj hres)).1 (Prod.mk.inj (Option.some.inj hres)).2 dX8_type_14
theorem dX8_unline_0 : decode cX8_unline 0 = .ok (.aload_n 0, 1) := by decide +kernel
theorem dX8_unline_1 : decode cX8_unline 1 = .ok (.invokevirtual 400, 3) := by decide +kernel
theorem dX8_unline_4 : decode cX8_unline 4 = .ok (.istore_n 1, 1) := by decide +kernel
theorem dX8_unline_5 : decode cX8_unline 5 = .ok (.aload_n 0, 1) := by decide +kernel
theorem dX8_unline_6 : decode cX8_unline 6 = .ok (.getfield 7, 3) := by decide +kernel
theorem dX8_unline_9 : decode cX8_unline 9 = .ok (.sipush 470, 3) := by decide +kernel
theorem dX8_unline_12 : decode cX8_unline 12 = .ok (.iconst 0, 1) := by decide +kernel
theorem dX8_unline_13 : decode cX8_unline 13 = .ok (.iastore, 1) := by decide +kernel
theorem dX8_unline_14 : decode cX8_unline 14 = .ok (.iload_n 1, 1) := by decide +kernel
theorem dX8_unline_15 : decode cX8_unline 15 = .ok (.ireturn, 1) := by decide +kernel
def f_X8_unline (M : m_M) : Int32 × m_M :=
  m_bd (f_X8_lined M) fun r1 =>
  m_bd (m_sI M 173 470 0) fun M2 =>
  (r1, M2)
set_option maxHeartbeats 4000000 in
set_option maxRecDepth 100000 in
theorem c_X8_unline (l : Launch) (G : m_G) {M : m_M} {r0 : Int32} {M0 : m_M}  (hres : f_X8_unline M = (r0, M0)) : Met l yX8_unline (m_U yX8_unline cX8_unline 2 (some .int)) (m_R 1 20) (m_Pc G [.ref (m_ad G 172)] M) (m_Qi G r0 M0) 0 0 (m_A G) := by
  refine m_i0 (n := 2) RX8 rfl (by decide) (Nat.le_of_ble_eq_true rfl) ?_
  intro p e s m args below meth c X hr hlk hSt hP hS ls hl
  have hl : lv_has ls 2 [(0, .ref (m_ad G 172))] := hl
  unfold f_X8_unline at hres
  refine lv_aload_n X.1 X.2.1 dX8_unline_0 rfl (lv_at hl 0 rfl) ?_
  obtain ⟨r1, err1, hres⟩ := m_bd_e hres
  refine m_bi (m_cV (n := 0) (As := []) (rest := []) X hSt hP hS hl.1 (c_X8_lined l G  err1) k_c_yX8_lined k_m_X8_400 k_i_yX8_lined k_s_yX8_lined k_n_X8 (by decide +kernel) (m_rc8 hSt hP m_z_172) rfl rfl ⟨Nat.le_of_ble_eq_true rfl, Nat.le_of_ble_eq_true rfl⟩ (Nat.le_of_ble_eq_true rfl) ⟨Nat.zero_le _, Nat.zero_le _⟩ dX8_unline_1) hS (fun H locs hP hS => ?_)
  refine lv_istore_n (lv' := [(1, .int r1), (0, .ref (m_ad G 172))]) X.1 X.2.1 dX8_unline_4 rfl hl (by decide) rfl (fun ls hl => ?_)
  refine lv_aload_n X.1 X.2.1 dX8_unline_5 rfl (lv_at hl 1 rfl) ?_
  refine m_g8 (v := .ref (m_ad G 173)) X hSt hP m_z_172 0 (by decide) rfl k_f_X8_7 dX8_unline_6 ?_
  refine lv_sipush (v := 470) X.1 X.2.1 dX8_unline_9 (by decide) ?_
  refine lv_iconst (v := 0) X.1 X.2.1 dX8_unline_12 (by decide) ?_
  obtain ⟨M2, eM2, hres⟩ := m_bd_e hres
  refine m_is (j := 470) X hSt hP hS m_z_173 (by decide +kernel) (by decide +kernel) dX8_unline_13 eM2 (fun H locs hP hS => ?_)
  refine lv_iload_n X.1 X.2.1 dX8_unline_14 rfl (lv_at hl 0 rfl) ?_
  exact m_ri X hr hlk hP hS (Prod.mk.inj hres).1 (Prod.mk.inj hres).2 dX8_unline_15
theorem dX8_wise_0 : decode cX8_wise 0 = .ok (.aload_n 0, 1) := by decide +kernel
theorem dX8_wise_1 : decode cX8_wise 1 = .ok (.iload_n 1, 1) := by decide +kernel
theorem dX8_wise_2 : decode cX8_wise 2 = .ok (.invokevirtual 148, 3) := by decide +kernel
theorem dX8_wise_5 : decode cX8_wise 5 = .ok (.ifCond .eq 22, 3) := by decide +kernel
theorem dX8_wise_8 : decode cX8_wise 8 = .ok (.iload_n 2, 1) := by decide +kernel
theorem dX8_wise_9 : decode cX8_wise 9 = .ok (.i2l, 1) := by decide +kernel
theorem dX8_wise_10 : decode cX8_wise 10 = .ok (.lconst 1, 1) := by decide +kernel
theorem dX8_wise_11 : decode cX8_wise 11 = .ok (.ldc2_w 335, 3) := by decide +kernel
theorem dX8_wise_14 : decode cX8_wise 14 = .ok (.invokestatic 111, 3) := by decide +kernel
theorem dX8_wise_17 : decode cX8_wise 17 = .ok (.ifCond .eq 10, 3) := by decide +kernel
theorem dX8_wise_20 : decode cX8_wise 20 = .ok (.iload_n 3, 1) := by decide +kernel
theorem dX8_wise_21 : decode cX8_wise 21 = .ok (.invokestatic 347, 3) := by decide +kernel
theorem dX8_wise_24 : decode cX8_wise 24 = .ok (.ifCond .ne 6, 3) := by decide +kernel
theorem dX8_wise_27 : decode cX8_wise 27 = .ok (.bipush (-10), 2) := by decide +kernel
theorem dX8_wise_29 : decode cX8_wise 29 = .ok (.ireturn, 1) := by decide +kernel
theorem dX8_wise_30 : decode cX8_wise 30 = .ok (.aload_n 0, 1) := by decide +kernel
theorem dX8_wise_31 : decode cX8_wise 31 = .ok (.iload_n 3, 1) := by decide +kernel
theorem dX8_wise_32 : decode cX8_wise 32 = .ok (.invokevirtual 350, 3) := by decide +kernel
theorem dX8_wise_35 : decode cX8_wise 35 = .ok (.iconst 0, 1) := by decide +kernel
theorem dX8_wise_36 : decode cX8_wise 36 = .ok (.istore 4, 2) := by decide +kernel
theorem dX8_wise_38 : decode cX8_wise 38 = .ok (.iload 4, 2) := by decide +kernel
theorem dX8_wise_40 : decode cX8_wise 40 = .ok (.sipush 2000, 3) := by decide +kernel
theorem dX8_wise_43 : decode cX8_wise 43 = .ok (.if_icmp .gt 25, 3) := by decide +kernel
theorem dX8_wise_46 : decode cX8_wise 46 = .ok (.aload_n 0, 1) := by decide +kernel
theorem dX8_wise_47 : decode cX8_wise 47 = .ok (.iload_n 1, 1) := by decide +kernel
theorem dX8_wise_48 : decode cX8_wise 48 = .ok (.iconst 0, 1) := by decide +kernel
theorem dX8_wise_49 : decode cX8_wise 49 = .ok (.iload 4, 2) := by decide +kernel
theorem dX8_wise_51 : decode cX8_wise 51 = .ok (.iconst 0, 1) := by decide +kernel
theorem dX8_wise_52 : decode cX8_wise 52 = .ok (.invokevirtual 337, 3) := by decide +kernel
theorem dX8_wise_55 : decode cX8_wise 55 = .ok (.iload_n 2, 1) := by decide +kernel
theorem dX8_wise_56 : decode cX8_wise 56 = .ok (.if_icmp .lt 6, 3) := by decide +kernel
theorem dX8_wise_59 : decode cX8_wise 59 = .ok (.iload 4, 2) := by decide +kernel
theorem dX8_wise_61 : decode cX8_wise 61 = .ok (.ireturn, 1) := by decide +kernel
theorem dX8_wise_62 : decode cX8_wise 62 = .ok (.iinc 4 1, 3) := by decide +kernel
theorem dX8_wise_65 : decode cX8_wise 65 = .ok (.goto (-27), 3) := by decide +kernel
theorem dX8_wise_68 : decode cX8_wise 68 = .ok (.iconst (-1), 1) := by decide +kernel
theorem dX8_wise_69 : decode cX8_wise 69 = .ok (.ireturn, 1) := by decide +kernel
def f_X8_wise_b38 (n : Nat) (x1 : Int32) (x2 : Int32) (x3 : Int32) : Nat → Int32 → m_M → Option (Int32 × m_M)
  | 0, _, _ => none
  | u + 1, x4, M =>
    if (2000 : Int32) < x4 then
  some ((-1), M)
  else
  m_o2 (f_X8_netOf n x1 0 x4 0 M) fun r2 M3 =>
  if r2 < x2 then
  f_X8_wise_b38 n x1 x2 x3 u (x4 + 1) M3
  else
  some (x4, M3)
def f_X8_wise (n : Nat) (x1 : Int32) (x2 : Int32) (x3 : Int32) (M : m_M) : Option (Int32 × m_M) :=
  m_bd (f_X8_isPerson x1 M) fun r5 =>
  if r5 = 0 then
  some ((-10), M)
  else
  m_bd (f_X8_isIn x2.toInt64 1 1000000) fun r8 =>
  if r8 = 0 then
  some ((-10), M)
  else
  m_bd (f_X8_isDay x3) fun r11 =>
  if r11 = 0 then
  some ((-10), M)
  else
  m_ob (f_X8_layToday n x3 M) fun M14 =>
  f_X8_wise_b38 n x1 x2 x3 n 0 M14
set_option maxHeartbeats 4000000 in
set_option maxRecDepth 100000 in
theorem c_X8_wise (l : Launch) (G : m_G) {n : Nat} {x1 : Int32} {x2 : Int32} {x3 : Int32} {M : m_M} {r0 : Int32} {M0 : m_M}  (hres : f_X8_wise n x1 x2 x3 M = some (r0, M0)) : Met l yX8_wise (m_U yX8_wise cX8_wise 5 (some .int)) (m_R 8 182) (m_Pc G [.ref (m_ad G 172), .int x1, .int x2, .int x3] M) (m_Qi G r0 M0) 0 0 (m_A G) := by
  refine m_i0 (n := 5) RX8 rfl (by decide) (Nat.le_of_ble_eq_true rfl) ?_
  intro p e s m args below meth c X hr hlk hSt hP hS ls hl
  have hl : lv_has ls 5 [(0, .ref (m_ad G 172)), (1, .int x1), (2, .int x2), (3, .int x3)] := hl
  have B38 : ∀ (u : Nat) (x4 : Int32) (M : m_M) (H : Heap) (locs : List Loc) (ls : Array Slot), m_P G M H → va_S (m_A G) s.heap H locs → lv_has ls 5 [(0, .ref (m_ad G 172)), (1, .int x1), (2, .int x2), (4, .int x4)] → f_X8_wise_b38 n x1 x2 x3 u x4 M = some (r0, M0) → W p l e (m_R 8 182) s m args below meth c H locs 0 0 (MQ below (m_Qi G r0 M0) args s 0 0 (m_A G)) (F0 m 38 ls []) := by
    intro u
    induction u with
    | zero =>
      intro x4 M H locs ls hP hS hl hres
      cases hres
    | succ u ih =>
      intro x4 M H locs ls hP hS hl hres
      rw [f_X8_wise_b38] at hres
      refine lv_iload X.1 X.2.1 dX8_wise_38 (lv_at hl 3 rfl) ?_
      refine lv_sipush (v := 2000) X.1 X.2.1 dX8_wise_40 (by decide) ?_
      refine lv_icmp_gt (tgt := 68) X.1 X.2.1 dX8_wise_43 (by decide) (fun hc1 => ?_) (fun hc1 => ?_)
      · have hres := m_it hres hc1
        refine lv_iconst (v := (-1)) X.1 X.2.1 dX8_wise_68 (by decide) ?_
        exact m_ri X hr hlk hP hS (Prod.mk.inj (Option.some.inj hres)).1 (Prod.mk.inj (Option.some.inj hres)).2 dX8_wise_69
      · have hres := m_if hres hc1
        refine lv_aload_n X.1 X.2.1 dX8_wise_46 rfl (lv_at hl 0 rfl) ?_
        refine lv_iload_n X.1 X.2.1 dX8_wise_47 rfl (lv_at hl 1 rfl) ?_
        refine lv_iconst (v := 0) X.1 X.2.1 dX8_wise_48 (by decide) ?_
        refine lv_iload X.1 X.2.1 dX8_wise_49 (lv_at hl 3 rfl) ?_
        refine lv_iconst (v := 0) X.1 X.2.1 dX8_wise_51 (by decide) ?_
        obtain ⟨r2, M3, err2, hres⟩ := m_o2_e hres
        refine m_bi (m_cV (n := 4) (As := [.int x1, .int 0, .int x4, .int 0]) (rest := []) X hSt hP hS hl.1 (c_X8_netOf l G  err2) k_c_yX8_netOf k_m_X8_337 k_i_yX8_netOf k_s_yX8_netOf k_n_X8 (by decide +kernel) (m_rc8 hSt hP m_z_172) rfl rfl ⟨Nat.le_of_ble_eq_true rfl, Nat.le_of_ble_eq_true rfl⟩ (Nat.le_of_ble_eq_true rfl) ⟨Nat.zero_le _, Nat.zero_le _⟩ dX8_wise_52) hS (fun H locs hP hS => ?_)
        refine lv_iload_n X.1 X.2.1 dX8_wise_55 rfl (lv_at hl 2 rfl) ?_
        refine lv_icmp_lt (tgt := 62) X.1 X.2.1 dX8_wise_56 (by decide) (fun hc4 => ?_) (fun hc4 => ?_)
        · have hres := m_it hres hc4
          refine lv_iinc (v := (x4 + 1)) (lv' := [(4, .int (x4 + 1)), (0, .ref (m_ad G 172)), (1, .int x1), (2, .int x2)]) X.1 X.2.1 dX8_wise_62 hl (k := 3) rfl rfl (by decide) rfl (fun ls hl => ?_)
          refine lv_goto (tgt := 38) X.1 X.2.1 dX8_wise_65 (by decide) ?_
          exact ih (x4 + 1) M3 _ _ _ hP hS (lv_sub hl [1, 2, 3, 0] rfl) hres
        · have hres := m_if hres hc4
          refine lv_iload X.1 X.2.1 dX8_wise_59 (lv_at hl 3 rfl) ?_
          exact m_ri X hr hlk hP hS (Prod.mk.inj (Option.some.inj hres)).1 (Prod.mk.inj (Option.some.inj hres)).2 dX8_wise_61
  unfold f_X8_wise at hres
  refine lv_aload_n X.1 X.2.1 dX8_wise_0 rfl (lv_at hl 0 rfl) ?_
  refine lv_iload_n X.1 X.2.1 dX8_wise_1 rfl (lv_at hl 1 rfl) ?_
  obtain ⟨r5, err5, hres⟩ := m_bd_e hres
  refine m_bz (m_cV (n := 1) (As := [.int x1]) (rest := []) X hSt hP hS hl.1 (c_X8_isPerson l G  err5) k_c_yX8_isPerson k_m_X8_148 k_i_yX8_isPerson k_s_yX8_isPerson k_n_X8 (by decide +kernel) (m_rc8 hSt hP m_z_172) rfl rfl ⟨Nat.le_of_ble_eq_true rfl, Nat.le_of_ble_eq_true rfl⟩ (Nat.le_of_ble_eq_true rfl) ⟨Nat.zero_le _, Nat.zero_le _⟩ dX8_wise_2) hS (fun H locs hP hS hz6 => ?_)
  refine lv_if_eq (tgt := 27) X.1 X.2.1 dX8_wise_5 (by decide) (fun hc7 => ?_) (fun hc7 => ?_)
  · have hres := m_it hres hc7
    refine lv_bipush (v := (-10)) X.1 X.2.1 dX8_wise_27 (by decide) ?_
    exact m_ri X hr hlk hP hS (Prod.mk.inj (Option.some.inj hres)).1 (Prod.mk.inj (Option.some.inj hres)).2 dX8_wise_29
  · have hres := m_if hres hc7
    refine lv_iload_n X.1 X.2.1 dX8_wise_8 rfl (lv_at hl 2 rfl) ?_
    refine lv_i2l (v := x2.toInt64) X.1 X.2.1 dX8_wise_9 rfl ?_
    refine lv_lconst (v := 1) X.1 X.2.1 dX8_wise_10 (by decide) ?_
    refine lv_ldc2 (v := 1000000) X.1 X.2.1 X.2.2.2.1 (X.2.2.2.2 _ k_l_X8_335) dX8_wise_11 ?_
    obtain ⟨r8, err8, hres⟩ := m_bd_e hres
    refine m_bz (m_cS (n := 3) (As := [.long x2.toInt64, .long 1, .long 1000000]) (rest := []) X hSt hP hS hl.1 (c_X8_isIn l G (M := M)  err8) k_c_yX8_isIn k_m_X8_111 k_t_yX8_isIn k_n_X8 (by decide +kernel) rfl rfl ⟨Nat.le_of_ble_eq_true rfl, Nat.le_of_ble_eq_true rfl⟩ (Nat.le_of_ble_eq_true rfl) ⟨Nat.zero_le _, Nat.zero_le _⟩ dX8_wise_14) hS (fun H locs hP hS hz9 => ?_)
    refine lv_if_eq (tgt := 27) X.1 X.2.1 dX8_wise_17 (by decide) (fun hc10 => ?_) (fun hc10 => ?_)
    · have hres := m_it hres hc10
      refine lv_bipush (v := (-10)) X.1 X.2.1 dX8_wise_27 (by decide) ?_
      exact m_ri X hr hlk hP hS (Prod.mk.inj (Option.some.inj hres)).1 (Prod.mk.inj (Option.some.inj hres)).2 dX8_wise_29
    · have hres := m_if hres hc10
      refine lv_iload_n X.1 X.2.1 dX8_wise_20 rfl (lv_at hl 3 rfl) ?_
      obtain ⟨r11, err11, hres⟩ := m_bd_e hres
      refine m_bz (m_cS (n := 1) (As := [.int x3]) (rest := []) X hSt hP hS hl.1 (c_X8_isDay l G (M := M)  err11) k_c_yX8_isDay k_m_X8_347 k_t_yX8_isDay k_n_X8 (by decide +kernel) rfl rfl ⟨Nat.le_of_ble_eq_true rfl, Nat.le_of_ble_eq_true rfl⟩ (Nat.le_of_ble_eq_true rfl) ⟨Nat.zero_le _, Nat.zero_le _⟩ dX8_wise_21) hS (fun H locs hP hS hz12 => ?_)
      refine lv_if_ne (tgt := 30) X.1 X.2.1 dX8_wise_24 (by decide) (fun hc13 => ?_) (fun hc13 => ?_)
      · have hres := m_if hres hc13
        refine lv_aload_n X.1 X.2.1 dX8_wise_30 rfl (lv_at hl 0 rfl) ?_
        refine lv_iload_n X.1 X.2.1 dX8_wise_31 rfl (lv_at hl 3 rfl) ?_
        obtain ⟨M14, eM14, hres⟩ := m_ob_e hres
        refine m_bv (m_cV (n := 1) (As := [.int x3]) (rest := []) X hSt hP hS hl.1 (c_X8_layToday l G  eM14) k_c_yX8_layToday k_m_X8_350 k_i_yX8_layToday k_s_yX8_layToday k_n_X8 (by decide +kernel) (m_rc8 hSt hP m_z_172) rfl rfl ⟨Nat.le_of_ble_eq_true rfl, Nat.le_of_ble_eq_true rfl⟩ (Nat.le_of_ble_eq_true rfl) ⟨Nat.zero_le _, Nat.zero_le _⟩ dX8_wise_32) hS (fun H locs hP hS => ?_)
        refine lv_iconst (v := 0) X.1 X.2.1 dX8_wise_35 (by decide) ?_
        refine lv_istore (lv' := [(4, .int 0), (0, .ref (m_ad G 172)), (1, .int x1), (2, .int x2), (3, .int x3)]) X.1 X.2.1 dX8_wise_36 hl (by decide) rfl (fun ls hl => ?_)
        exact B38 n 0 M14 _ _ _ hP hS (lv_sub hl [1, 2, 3, 0] rfl) hres
      · have hres := m_it hres hc13
        refine lv_bipush (v := (-10)) X.1 X.2.1 dX8_wise_27 (by decide) ?_
        exact m_ri X hr hlk hP hS (Prod.mk.inj (Option.some.inj hres)).1 (Prod.mk.inj (Option.some.inj hres)).2 dX8_wise_29
theorem dX8_write_0 : decode cX8_write 0 = .ok (.iload_n 1, 1) := by decide +kernel
theorem dX8_write_1 : decode cX8_write 1 = .ok (.invokestatic 269, 3) := by decide +kernel
theorem dX8_write_4 : decode cX8_write 4 = .ok (.ifCond .eq 15, 3) := by decide +kernel
theorem dX8_write_7 : decode cX8_write 7 = .ok (.iload_n 2, 1) := by decide +kernel
theorem dX8_write_8 : decode cX8_write 8 = .ok (.i2l, 1) := by decide +kernel
theorem dX8_write_9 : decode cX8_write 9 = .ok (.lconst 0, 1) := by decide +kernel
theorem dX8_write_10 : decode cX8_write 10 = .ok (.ldc2_w 272, 3) := by decide +kernel
theorem dX8_write_13 : decode cX8_write 13 = .ok (.invokestatic 111, 3) := by decide +kernel
theorem dX8_write_16 : decode cX8_write 16 = .ok (.ifCond .ne 6, 3) := by decide +kernel
theorem dX8_write_19 : decode cX8_write 19 = .ok (.bipush (-2), 2) := by decide +kernel
theorem dX8_write_21 : decode cX8_write 21 = .ok (.ireturn, 1) := by decide +kernel
theorem dX8_write_22 : decode cX8_write 22 = .ok (.aload_n 0, 1) := by decide +kernel
theorem dX8_write_23 : decode cX8_write 23 = .ok (.getfield 7, 3) := by decide +kernel
theorem dX8_write_26 : decode cX8_write 26 = .ok (.sipush 360, 3) := by decide +kernel
theorem dX8_write_29 : decode cX8_write 29 = .ok (.bipush 51, 2) := by decide +kernel
theorem dX8_write_31 : decode cX8_write 31 = .ok (.iload_n 1, 1) := by decide +kernel
theorem dX8_write_32 : decode cX8_write 32 = .ok (.imul, 1) := by decide +kernel
theorem dX8_write_33 : decode cX8_write 33 = .ok (.iadd, 1) := by decide +kernel
theorem dX8_write_34 : decode cX8_write 34 = .ok (.iaload, 1) := by decide +kernel
theorem dX8_write_35 : decode cX8_write 35 = .ok (.istore_n 3, 1) := by decide +kernel
theorem dX8_write_36 : decode cX8_write 36 = .ok (.iload_n 3, 1) := by decide +kernel
theorem dX8_write_37 : decode cX8_write 37 = .ok (.bipush 50, 2) := by decide +kernel
theorem dX8_write_39 : decode cX8_write 39 = .ok (.if_icmp .ne 6, 3) := by decide +kernel
theorem dX8_write_42 : decode cX8_write 42 = .ok (.bipush (-4), 2) := by decide +kernel
theorem dX8_write_44 : decode cX8_write 44 = .ok (.ireturn, 1) := by decide +kernel
theorem dX8_write_45 : decode cX8_write 45 = .ok (.aload_n 0, 1) := by decide +kernel
theorem dX8_write_46 : decode cX8_write 46 = .ok (.getfield 7, 3) := by decide +kernel
theorem dX8_write_49 : decode cX8_write 49 = .ok (.sipush 360, 3) := by decide +kernel
theorem dX8_write_52 : decode cX8_write 52 = .ok (.bipush 51, 2) := by decide +kernel
theorem dX8_write_54 : decode cX8_write 54 = .ok (.iload_n 1, 1) := by decide +kernel
theorem dX8_write_55 : decode cX8_write 55 = .ok (.imul, 1) := by decide +kernel
theorem dX8_write_56 : decode cX8_write 56 = .ok (.iadd, 1) := by decide +kernel
theorem dX8_write_57 : decode cX8_write 57 = .ok (.iconst 1, 1) := by decide +kernel
theorem dX8_write_58 : decode cX8_write 58 = .ok (.iadd, 1) := by decide +kernel
theorem dX8_write_59 : decode cX8_write 59 = .ok (.iload_n 3, 1) := by decide +kernel
theorem dX8_write_60 : decode cX8_write 60 = .ok (.iadd, 1) := by decide +kernel
theorem dX8_write_61 : decode cX8_write 61 = .ok (.iload_n 2, 1) := by decide +kernel
theorem dX8_write_62 : decode cX8_write 62 = .ok (.iastore, 1) := by decide +kernel
theorem dX8_write_63 : decode cX8_write 63 = .ok (.aload_n 0, 1) := by decide +kernel
theorem dX8_write_64 : decode cX8_write 64 = .ok (.getfield 7, 3) := by decide +kernel
theorem dX8_write_67 : decode cX8_write 67 = .ok (.sipush 360, 3) := by decide +kernel
theorem dX8_write_70 : decode cX8_write 70 = .ok (.bipush 51, 2) := by decide +kernel
theorem dX8_write_72 : decode cX8_write 72 = .ok (.iload_n 1, 1) := by decide +kernel
theorem dX8_write_73 : decode cX8_write 73 = .ok (.imul, 1) := by decide +kernel
theorem dX8_write_74 : decode cX8_write 74 = .ok (.iadd, 1) := by decide +kernel
theorem dX8_write_75 : decode cX8_write 75 = .ok (.dup2, 1) := by decide +kernel
theorem dX8_write_76 : decode cX8_write 76 = .ok (.iaload, 1) := by decide +kernel
theorem dX8_write_77 : decode cX8_write 77 = .ok (.iconst 1, 1) := by decide +kernel
theorem dX8_write_78 : decode cX8_write 78 = .ok (.iadd, 1) := by decide +kernel
theorem dX8_write_79 : decode cX8_write 79 = .ok (.iastore, 1) := by decide +kernel
theorem dX8_write_80 : decode cX8_write 80 = .ok (.iload_n 3, 1) := by decide +kernel
theorem dX8_write_81 : decode cX8_write 81 = .ok (.iconst 1, 1) := by decide +kernel
theorem dX8_write_82 : decode cX8_write 82 = .ok (.iadd, 1) := by decide +kernel
theorem dX8_write_83 : decode cX8_write 83 = .ok (.ireturn, 1) := by decide +kernel
def f_X8_write (x1 : Int32) (x2 : Int32) (M : m_M) : Option (Int32 × m_M) :=
  m_bd (f_X8_isLaw x1) fun r1 =>
  if r1 = 0 then
  some ((-2), M)
  else
  m_bd (f_X8_isIn x2.toInt64 0 127) fun r4 =>
  if r4 = 0 then
  some ((-2), M)
  else
  m_gd (m_in ((360 : Int32) + ((51 : Int32) * x1)) 471) (
  m_bd (M.1 173 (((360 : Int32) + ((51 : Int32) * x1)).toNatClampNeg)) fun t8 =>
  if t8 = 50 then
  some ((-4), M)
  else
  m_gd (m_in ((((360 : Int32) + ((51 : Int32) * x1)) + (1 : Int32)) + t8) 471) (
  m_bd (m_sI M 173 (((((360 : Int32) + ((51 : Int32) * x1)) + (1 : Int32)) + t8).toNatClampNeg) x2) fun M11 =>
  m_bd (m_sI M11 173 (((360 : Int32) + ((51 : Int32) * x1)).toNatClampNeg) ((M11.1 173 (((360 : Int32) + ((51 : Int32) * x1)).toNatClampNeg)) + (1 : Int32))) fun M12 =>
  some ((t8 + (1 : Int32)), M12)))
set_option maxHeartbeats 4000000 in
set_option maxRecDepth 100000 in
theorem c_X8_write (l : Launch) (G : m_G) {x1 : Int32} {x2 : Int32} {M : m_M} {r0 : Int32} {M0 : m_M}  (hres : f_X8_write x1 x2 M = some (r0, M0)) : Met l yX8_write (m_U yX8_write cX8_write 4 (some .int)) (m_R 2 45) (m_Pc G [.ref (m_ad G 172), .int x1, .int x2] M) (m_Qi G r0 M0) 0 0 (m_A G) := by
  refine m_i0 (n := 4) RX8 rfl (by decide) (Nat.le_of_ble_eq_true rfl) ?_
  intro p e s m args below meth c X hr hlk hSt hP hS ls hl
  have hl : lv_has ls 4 [(0, .ref (m_ad G 172)), (1, .int x1), (2, .int x2)] := hl
  unfold f_X8_write at hres
  refine lv_iload_n X.1 X.2.1 dX8_write_0 rfl (lv_at hl 1 rfl) ?_
  obtain ⟨r1, err1, hres⟩ := m_bd_e hres
  refine m_bz (m_cS (n := 1) (As := [.int x1]) (rest := []) X hSt hP hS hl.1 (c_X8_isLaw l G (M := M)  err1) k_c_yX8_isLaw k_m_X8_269 k_t_yX8_isLaw k_n_X8 (by decide +kernel) rfl rfl ⟨Nat.le_of_ble_eq_true rfl, Nat.le_of_ble_eq_true rfl⟩ (Nat.le_of_ble_eq_true rfl) ⟨Nat.zero_le _, Nat.zero_le _⟩ dX8_write_1) hS (fun H locs hP hS hz2 => ?_)
  refine lv_if_eq (tgt := 19) X.1 X.2.1 dX8_write_4 (by decide) (fun hc3 => ?_) (fun hc3 => ?_)
  · have hres := m_it hres hc3
    refine lv_bipush (v := (-2)) X.1 X.2.1 dX8_write_19 (by decide) ?_
    exact m_ri X hr hlk hP hS (Prod.mk.inj (Option.some.inj hres)).1 (Prod.mk.inj (Option.some.inj hres)).2 dX8_write_21
  · have hres := m_if hres hc3
    refine lv_iload_n X.1 X.2.1 dX8_write_7 rfl (lv_at hl 2 rfl) ?_
    refine lv_i2l (v := x2.toInt64) X.1 X.2.1 dX8_write_8 rfl ?_
    refine lv_lconst (v := 0) X.1 X.2.1 dX8_write_9 (by decide) ?_
    refine lv_ldc2 (v := 127) X.1 X.2.1 X.2.2.2.1 (X.2.2.2.2 _ k_l_X8_272) dX8_write_10 ?_
    obtain ⟨r4, err4, hres⟩ := m_bd_e hres
    refine m_bz (m_cS (n := 3) (As := [.long x2.toInt64, .long 0, .long 127]) (rest := []) X hSt hP hS hl.1 (c_X8_isIn l G (M := M)  err4) k_c_yX8_isIn k_m_X8_111 k_t_yX8_isIn k_n_X8 (by decide +kernel) rfl rfl ⟨Nat.le_of_ble_eq_true rfl, Nat.le_of_ble_eq_true rfl⟩ (Nat.le_of_ble_eq_true rfl) ⟨Nat.zero_le _, Nat.zero_le _⟩ dX8_write_13) hS (fun H locs hP hS hz5 => ?_)
    refine lv_if_ne (tgt := 22) X.1 X.2.1 dX8_write_16 (by decide) (fun hc6 => ?_) (fun hc6 => ?_)
    · have hres := m_if hres hc6
      refine lv_aload_n X.1 X.2.1 dX8_write_22 rfl (lv_at hl 0 rfl) ?_
      refine m_g8 (v := .ref (m_ad G 173)) X hSt hP m_z_172 0 (by decide) rfl k_f_X8_7 dX8_write_23 ?_
      refine lv_sipush (v := 360) X.1 X.2.1 dX8_write_26 (by decide) ?_
      refine lv_bipush (v := 51) X.1 X.2.1 dX8_write_29 (by decide) ?_
      refine lv_iload_n X.1 X.2.1 dX8_write_31 rfl (lv_at hl 1 rfl) ?_
      refine lv_imul X.1 X.2.1 dX8_write_32 ?_
      refine lv_iadd X.1 X.2.1 dX8_write_33 ?_
      obtain ⟨hg7, hres⟩ := m_gd_e hres
      refine m_ia (j := (((360 : Int32) + ((51 : Int32) * x1)).toNatClampNeg)) X hSt hP m_z_173 hg7 rfl dX8_write_34 ?_
      obtain ⟨t8, et8, hres⟩ := m_bd_e hres
      refine m_ti et8 ?_
      refine lv_istore_n (lv' := [(3, .int t8), (0, .ref (m_ad G 172)), (1, .int x1), (2, .int x2)]) X.1 X.2.1 dX8_write_35 rfl hl (by decide) rfl (fun ls hl => ?_)
      refine lv_iload_n X.1 X.2.1 dX8_write_36 rfl (lv_at hl 0 rfl) ?_
      refine lv_bipush (v := 50) X.1 X.2.1 dX8_write_37 (by decide) ?_
      refine lv_icmp_ne (tgt := 45) X.1 X.2.1 dX8_write_39 (by decide) (fun hc9 => ?_) (fun hc9 => ?_)
      · have hres := m_if hres hc9
        refine lv_aload_n X.1 X.2.1 dX8_write_45 rfl (lv_at hl 1 rfl) ?_
        refine m_g8 (v := .ref (m_ad G 173)) X hSt hP m_z_172 0 (by decide) rfl k_f_X8_7 dX8_write_46 ?_
        refine lv_sipush (v := 360) X.1 X.2.1 dX8_write_49 (by decide) ?_
        refine lv_bipush (v := 51) X.1 X.2.1 dX8_write_52 (by decide) ?_
        refine lv_iload_n X.1 X.2.1 dX8_write_54 rfl (lv_at hl 2 rfl) ?_
        refine lv_imul X.1 X.2.1 dX8_write_55 ?_
        refine lv_iadd X.1 X.2.1 dX8_write_56 ?_
        refine lv_iconst (v := 1) X.1 X.2.1 dX8_write_57 (by decide) ?_
        refine lv_iadd X.1 X.2.1 dX8_write_58 ?_
        refine lv_iload_n X.1 X.2.1 dX8_write_59 rfl (lv_at hl 0 rfl) ?_
        refine lv_iadd X.1 X.2.1 dX8_write_60 ?_
        refine lv_iload_n X.1 X.2.1 dX8_write_61 rfl (lv_at hl 3 rfl) ?_
        obtain ⟨hg10, hres⟩ := m_gd_e hres
        obtain ⟨M11, eM11, hres⟩ := m_bd_e hres
        refine m_is (j := (((((360 : Int32) + ((51 : Int32) * x1)) + (1 : Int32)) + t8).toNatClampNeg)) X hSt hP hS m_z_173 hg10 rfl dX8_write_62 eM11 (fun H locs hP hS => ?_)
        refine lv_aload_n X.1 X.2.1 dX8_write_63 rfl (lv_at hl 1 rfl) ?_
        refine m_g8 (v := .ref (m_ad G 173)) X hSt hP m_z_172 0 (by decide) rfl k_f_X8_7 dX8_write_64 ?_
        refine lv_sipush (v := 360) X.1 X.2.1 dX8_write_67 (by decide) ?_
        refine lv_bipush (v := 51) X.1 X.2.1 dX8_write_70 (by decide) ?_
        refine lv_iload_n X.1 X.2.1 dX8_write_72 rfl (lv_at hl 2 rfl) ?_
        refine lv_imul X.1 X.2.1 dX8_write_73 ?_
        refine lv_iadd X.1 X.2.1 dX8_write_74 ?_
        refine lv_dup2_11 X.1 X.2.1 dX8_write_75 rfl rfl ?_
        refine m_ia (j := (((360 : Int32) + ((51 : Int32) * x1)).toNatClampNeg)) X hSt hP m_z_173 hg7 rfl dX8_write_76 ?_
        refine lv_iconst (v := 1) X.1 X.2.1 dX8_write_77 (by decide) ?_
        refine lv_iadd X.1 X.2.1 dX8_write_78 ?_
        obtain ⟨M12, eM12, hres⟩ := m_bd_e hres
        refine m_is (j := (((360 : Int32) + ((51 : Int32) * x1)).toNatClampNeg)) X hSt hP hS m_z_173 hg7 rfl dX8_write_79 eM12 (fun H locs hP hS => ?_)
        refine lv_iload_n X.1 X.2.1 dX8_write_80 rfl (lv_at hl 0 rfl) ?_
        refine lv_iconst (v := 1) X.1 X.2.1 dX8_write_81 (by decide) ?_
        refine lv_iadd X.1 X.2.1 dX8_write_82 ?_
        exact m_ri X hr hlk hP hS (Prod.mk.inj (Option.some.inj hres)).1 (Prod.mk.inj (Option.some.inj hres)).2 dX8_write_83
      · have hres := m_it hres hc9
        refine lv_bipush (v := (-4)) X.1 X.2.1 dX8_write_42 (by decide) ?_
        exact m_ri X hr hlk hP hS (Prod.mk.inj (Option.some.inj hres)).1 (Prod.mk.inj (Option.some.inj hres)).2 dX8_write_44
    · have hres := m_it hres hc6
      refine lv_bipush (v := (-2)) X.1 X.2.1 dX8_write_19 (by decide) ?_
      exact m_ri X hr hlk hP hS (Prod.mk.inj (Option.some.inj hres)).1 (Prod.mk.inj (Option.some.inj hres)).2 dX8_write_21
