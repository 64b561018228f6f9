/-! WALKS 5: X7_digest X7_isNote X3_mayBeDoubted X3_markDoubt X7_doubt X7_isLaw X4_parse X4_empty X7_erase X7_fault X4_takeAll X3_takeAll X7_from X7_isTooEarly X7_hangs X7_isPerson X7_holder X7_image X7_in X7_isLined X7_line X6_leaveOut -/
theorem dX7_digest_0 : decode cX7_digest 0 = .ok (.ldc2_w 279, 3) := by decide +kernel
theorem dX7_digest_3 : decode cX7_digest 3 = .ok (.lstore_n 1, 1) := by decide +kernel
theorem dX7_digest_4 : decode cX7_digest 4 = .ok (.iconst 0, 1) := by decide +kernel
theorem dX7_digest_5 : decode cX7_digest 5 = .ok (.istore_n 3, 1) := by decide +kernel
theorem dX7_digest_6 : decode cX7_digest 6 = .ok (.iload_n 3, 1) := by decide +kernel
theorem dX7_digest_7 : decode cX7_digest 7 = .ok (.iconst 5, 1) := by decide +kernel
theorem dX7_digest_8 : decode cX7_digest 8 = .ok (.if_icmp .ge 25, 3) := by decide +kernel
theorem dX7_digest_11 : decode cX7_digest 11 = .ok (.ldc2_w 281, 3) := by decide +kernel
theorem dX7_digest_14 : decode cX7_digest 14 = .ok (.lload_n 1, 1) := by decide +kernel
theorem dX7_digest_15 : decode cX7_digest 15 = .ok (.lmul, 1) := by decide +kernel
theorem dX7_digest_16 : decode cX7_digest 16 = .ok (.aload_n 0, 1) := by decide +kernel
theorem dX7_digest_17 : decode cX7_digest 17 = .ok (.getfield 10, 3) := by decide +kernel
theorem dX7_digest_20 : decode cX7_digest 20 = .ok (.iload_n 3, 1) := by decide +kernel
theorem dX7_digest_21 : decode cX7_digest 21 = .ok (.invokevirtual 276, 3) := by decide +kernel
theorem dX7_digest_24 : decode cX7_digest 24 = .ok (.i2l, 1) := by decide +kernel
theorem dX7_digest_25 : decode cX7_digest 25 = .ok (.ladd, 1) := by decide +kernel
theorem dX7_digest_26 : decode cX7_digest 26 = .ok (.lstore_n 1, 1) := by decide +kernel
theorem dX7_digest_27 : decode cX7_digest 27 = .ok (.iinc 3 1, 3) := by decide +kernel
theorem dX7_digest_30 : decode cX7_digest 30 = .ok (.goto (-24), 3) := by decide +kernel
theorem dX7_digest_33 : decode cX7_digest 33 = .ok (.iconst 0, 1) := by decide +kernel
theorem dX7_digest_34 : decode cX7_digest 34 = .ok (.istore_n 3, 1) := by decide +kernel
theorem dX7_digest_35 : decode cX7_digest 35 = .ok (.iload_n 3, 1) := by decide +kernel
theorem dX7_digest_36 : decode cX7_digest 36 = .ok (.bipush 6, 2) := by decide +kernel
theorem dX7_digest_38 : decode cX7_digest 38 = .ok (.aload_n 0, 1) := by decide +kernel
theorem dX7_digest_39 : decode cX7_digest 39 = .ok (.getfield 10, 3) := by decide +kernel
theorem dX7_digest_42 : decode cX7_digest 42 = .ok (.getfield 97, 3) := by decide +kernel
theorem dX7_digest_45 : decode cX7_digest 45 = .ok (.imul, 1) := by decide +kernel
theorem dX7_digest_46 : decode cX7_digest 46 = .ok (.if_icmp .ge 26, 3) := by decide +kernel
theorem dX7_digest_49 : decode cX7_digest 49 = .ok (.ldc2_w 281, 3) := by decide +kernel
theorem dX7_digest_52 : decode cX7_digest 52 = .ok (.lload_n 1, 1) := by decide +kernel
theorem dX7_digest_53 : decode cX7_digest 53 = .ok (.lmul, 1) := by decide +kernel
theorem dX7_digest_54 : decode cX7_digest 54 = .ok (.aload_n 0, 1) := by decide +kernel
theorem dX7_digest_55 : decode cX7_digest 55 = .ok (.getfield 10, 3) := by decide +kernel
theorem dX7_digest_58 : decode cX7_digest 58 = .ok (.getfield 270, 3) := by decide +kernel
theorem dX7_digest_61 : decode cX7_digest 61 = .ok (.iload_n 3, 1) := by decide +kernel
theorem dX7_digest_62 : decode cX7_digest 62 = .ok (.iaload, 1) := by decide +kernel
theorem dX7_digest_63 : decode cX7_digest 63 = .ok (.i2l, 1) := by decide +kernel
theorem dX7_digest_64 : decode cX7_digest 64 = .ok (.ladd, 1) := by decide +kernel
theorem dX7_digest_65 : decode cX7_digest 65 = .ok (.lstore_n 1, 1) := by decide +kernel
theorem dX7_digest_66 : decode cX7_digest 66 = .ok (.iinc 3 1, 3) := by decide +kernel
theorem dX7_digest_69 : decode cX7_digest 69 = .ok (.goto (-34), 3) := by decide +kernel
theorem dX7_digest_72 : decode cX7_digest 72 = .ok (.iconst 0, 1) := by decide +kernel
theorem dX7_digest_73 : decode cX7_digest 73 = .ok (.istore_n 3, 1) := by decide +kernel
theorem dX7_digest_74 : decode cX7_digest 74 = .ok (.iload_n 3, 1) := by decide +kernel
theorem dX7_digest_75 : decode cX7_digest 75 = .ok (.iconst 2, 1) := by decide +kernel
theorem dX7_digest_76 : decode cX7_digest 76 = .ok (.if_icmp .ge 23, 3) := by decide +kernel
theorem dX7_digest_79 : decode cX7_digest 79 = .ok (.aload_n 0, 1) := by decide +kernel
theorem dX7_digest_80 : decode cX7_digest 80 = .ok (.getfield 10, 3) := by decide +kernel
theorem dX7_digest_83 : decode cX7_digest 83 = .ok (.getfield 128, 3) := by decide +kernel
theorem dX7_digest_86 : decode cX7_digest 86 = .ok (.iload_n 3, 1) := by decide +kernel
theorem dX7_digest_87 : decode cX7_digest 87 = .ok (.aaload, 1) := by decide +kernel
theorem dX7_digest_88 : decode cX7_digest 88 = .ok (.lload_n 1, 1) := by decide +kernel
theorem dX7_digest_89 : decode cX7_digest 89 = .ok (.invokevirtual 283, 3) := by decide +kernel
theorem dX7_digest_92 : decode cX7_digest 92 = .ok (.lstore_n 1, 1) := by decide +kernel
theorem dX7_digest_93 : decode cX7_digest 93 = .ok (.iinc 3 1, 3) := by decide +kernel
theorem dX7_digest_96 : decode cX7_digest 96 = .ok (.goto (-22), 3) := by decide +kernel
theorem dX7_digest_99 : decode cX7_digest 99 = .ok (.iconst 0, 1) := by decide +kernel
theorem dX7_digest_100 : decode cX7_digest 100 = .ok (.istore_n 3, 1) := by decide +kernel
theorem dX7_digest_101 : decode cX7_digest 101 = .ok (.iload_n 3, 1) := by decide +kernel
theorem dX7_digest_102 : decode cX7_digest 102 = .ok (.aload_n 0, 1) := by decide +kernel
theorem dX7_digest_103 : decode cX7_digest 103 = .ok (.getfield 10, 3) := by decide +kernel
theorem dX7_digest_106 : decode cX7_digest 106 = .ok (.getfield 220, 3) := by decide +kernel
theorem dX7_digest_109 : decode cX7_digest 109 = .ok (.if_icmp .ge 26, 3) := by decide +kernel
theorem dX7_digest_112 : decode cX7_digest 112 = .ok (.ldc2_w 281, 3) := by decide +kernel
theorem dX7_digest_115 : decode cX7_digest 115 = .ok (.lload_n 1, 1) := by decide +kernel
theorem dX7_digest_116 : decode cX7_digest 116 = .ok (.lmul, 1) := by decide +kernel
theorem dX7_digest_117 : decode cX7_digest 117 = .ok (.aload_n 0, 1) := by decide +kernel
theorem dX7_digest_118 : decode cX7_digest 118 = .ok (.getfield 10, 3) := by decide +kernel
theorem dX7_digest_121 : decode cX7_digest 121 = .ok (.getfield 223, 3) := by decide +kernel
theorem dX7_digest_124 : decode cX7_digest 124 = .ok (.iload_n 3, 1) := by decide +kernel
theorem dX7_digest_125 : decode cX7_digest 125 = .ok (.iaload, 1) := by decide +kernel
theorem dX7_digest_126 : decode cX7_digest 126 = .ok (.i2l, 1) := by decide +kernel
theorem dX7_digest_127 : decode cX7_digest 127 = .ok (.ladd, 1) := by decide +kernel
theorem dX7_digest_128 : decode cX7_digest 128 = .ok (.lstore_n 1, 1) := by decide +kernel
theorem dX7_digest_129 : decode cX7_digest 129 = .ok (.iinc 3 1, 3) := by decide +kernel
theorem dX7_digest_132 : decode cX7_digest 132 = .ok (.goto (-31), 3) := by decide +kernel
theorem dX7_digest_135 : decode cX7_digest 135 = .ok (.aload_n 0, 1) := by decide +kernel
theorem dX7_digest_136 : decode cX7_digest 136 = .ok (.lload_n 1, 1) := by decide +kernel
theorem dX7_digest_137 : decode cX7_digest 137 = .ok (.invokevirtual 287, 3) := by decide +kernel
theorem dX7_digest_140 : decode cX7_digest 140 = .ok (.lstore_n 1, 1) := by decide +kernel
theorem dX7_digest_141 : decode cX7_digest 141 = .ok (.ldc2_w 281, 3) := by decide +kernel
theorem dX7_digest_144 : decode cX7_digest 144 = .ok (.lload_n 1, 1) := by decide +kernel
theorem dX7_digest_145 : decode cX7_digest 145 = .ok (.lmul, 1) := by decide +kernel
theorem dX7_digest_146 : decode cX7_digest 146 = .ok (.aload_n 0, 1) := by decide +kernel
theorem dX7_digest_147 : decode cX7_digest 147 = .ok (.getfield 54, 3) := by decide +kernel
theorem dX7_digest_150 : decode cX7_digest 150 = .ok (.ladd, 1) := by decide +kernel
theorem dX7_digest_151 : decode cX7_digest 151 = .ok (.lstore_n 1, 1) := by decide +kernel
theorem dX7_digest_152 : decode cX7_digest 152 = .ok (.ldc2_w 281, 3) := by decide +kernel
theorem dX7_digest_155 : decode cX7_digest 155 = .ok (.lload_n 1, 1) := by decide +kernel
theorem dX7_digest_156 : decode cX7_digest 156 = .ok (.lmul, 1) := by decide +kernel
theorem dX7_digest_157 : decode cX7_digest 157 = .ok (.aload_n 0, 1) := by decide +kernel
theorem dX7_digest_158 : decode cX7_digest 158 = .ok (.getfield 58, 3) := by decide +kernel
theorem dX7_digest_161 : decode cX7_digest 161 = .ok (.ladd, 1) := by decide +kernel
theorem dX7_digest_162 : decode cX7_digest 162 = .ok (.lreturn, 1) := by decide +kernel
def f_X7_digest_b101 (n : Nat) : Nat → Int64 → Int32 → m_M → Option (Int64 × m_M)
  | 0, _, _, _ => none
  | u + 1, x1, x3, M =>
    if (M.1 1 4) ≤ x3 then
  m_o2 (f_X7_digestOfPersons n x1 M) fun r2 M3 =>
  some ((((31 : Int64) * (((31 : Int64) * r2) + (M3.2 0 8))) + (M3.2 0 9)), M3)
  else
  m_gd (m_in x3 6) (
  m_bd (((31 : Int64) * x1) + ((M.1 (1 + 2) x3.toNatClampNeg).toInt64)) fun t5 =>
  f_X7_digest_b101 n u t5 (x3 + 1) M)
def f_X7_digest_b74 (n : Nat) : Nat → Int64 → Int32 → m_M → Option (Int64 × m_M)
  | 0, _, _, _ => none
  | u + 1, x1, x3, M =>
    if (2 : Int32) ≤ x3 then
  f_X7_digest_b101 n n x1 0 M
  else
  m_gd (m_in x3 2) (
  m_ob (f_X4_digestFrom n ((1 + 3) + 1 + 5 * x3.toNatClampNeg) x1 M) fun r8 =>
  f_X7_digest_b74 n u r8 (x3 + 1) M)
def f_X7_digest_b35 (n : Nat) : Nat → Int64 → Int32 → m_M → Option (Int64 × m_M)
  | 0, _, _, _ => none
  | u + 1, x1, x3, M =>
    if ((6 : Int32) * (M.1 1 1)) ≤ x3 then
  f_X7_digest_b74 n n x1 0 M
  else
  m_gd (m_in x3 360) (
  m_bd (((31 : Int64) * x1) + ((M.1 (1 + 1) x3.toNatClampNeg).toInt64)) fun t11 =>
  f_X7_digest_b35 n u t11 (x3 + 1) M)
def f_X7_digest_b6 (n : Nat) : Nat → Int64 → Int32 → m_M → Option (Int64 × m_M)
  | 0, _, _, _ => none
  | u + 1, x1, x3, M =>
    if (5 : Int32) ≤ x3 then
  f_X7_digest_b35 n n x1 0 M
  else
  m_bd (f_X3_howMany 1 x3 M) fun r13 =>
  m_bd (((31 : Int64) * x1) + r13.toInt64) fun t14 =>
  f_X7_digest_b6 n u t14 (x3 + 1) M
def f_X7_digest (n : Nat) (M : m_M) : Option (Int64 × m_M) :=
  f_X7_digest_b6 n n 491 0 M
set_option maxHeartbeats 4000000 in
set_option maxRecDepth 100000 in
theorem c_X7_digest (l : Launch) (G : m_G) {n : Nat} {M : m_M} {r0 : Int64} {M0 : m_M}  (hres : f_X7_digest n M = some (r0, M0)) : Met l yX7_digest (m_U yX7_digest cX7_digest 4 (some .long)) (m_R 8 182) (m_Pc G [.ref (m_ad G 0)] M) (m_Ql G r0 M0) 0 0 (m_A G) := by
  refine m_i0 (n := 4) RX7 rfl (by decide) (Nat.le_of_ble_eq_true rfl) ?_
  intro p e s m args below meth c X hr hlk hSt hP hS ls hl
  have hl : lv_has ls 4 [(0, .ref (m_ad G 0))] := hl
  have B101 : ∀ (u : Nat) (x1 : Int64) (x3 : Int32) (M : m_M) (H : Heap) (locs : List Loc) (ls : Array Slot), m_P G M H → va_S (m_A G) s.heap H locs → lv_has ls 4 [(0, .ref (m_ad G 0)), (1, .long x1), (3, .int x3)] → f_X7_digest_b101 n u x1 x3 M = some (r0, M0) → W p l e (m_R 8 182) s m args below meth c H locs 0 0 (MQ below (m_Ql G r0 M0) args s 0 0 (m_A G)) (F0 m 101 ls []) := by
    intro u
    induction u with
    | zero =>
      intro x1 x3 M H locs ls hP hS hl hres
      cases hres
    | succ u ih =>
      intro x1 x3 M H locs ls hP hS hl hres
      rw [f_X7_digest_b101] at hres
      refine lv_iload_n X.1 X.2.1 dX7_digest_101 rfl (lv_at hl 2 rfl) ?_
      refine lv_aload_n X.1 X.2.1 dX7_digest_102 rfl (lv_at hl 0 rfl) ?_
      refine m_g7 (v := .ref (m_ad G 1)) X hSt hP m_z_0 0 (by decide) rfl k_f_X7_10 dX7_digest_103 ?_
      refine m_g3 (v := .int (M.1 1 4)) X hSt hP m_kept_0.1 4 (by decide) rfl k_f_X7_220 dX7_digest_106 ?_
      refine lv_icmp_ge (tgt := 135) X.1 X.2.1 dX7_digest_109 (by decide) (fun hc1 => ?_) (fun hc1 => ?_)
      · have hres := m_it hres hc1
        refine lv_aload_n X.1 X.2.1 dX7_digest_135 rfl (lv_at hl 0 rfl) ?_
        refine lv_lload_n X.1 X.2.1 dX7_digest_136 rfl (lv_at hl 1 rfl) ?_
        obtain ⟨r2, M3, err2, hres⟩ := m_o2_e hres
        refine m_bl (m_cV (n := 1) (As := [.long x1]) (rest := []) X hSt hP hS hl.1 (c_X7_digestOfPersons l G  err2) k_c_yX7_digestOfPersons k_m_X7_287 k_i_yX7_digestOfPersons k_s_yX7_digestOfPersons k_n_X7 (by decide +kernel) (m_rc7 hSt hP m_z_0) rfl rfl ⟨Nat.le_of_ble_eq_true rfl, Nat.le_of_ble_eq_true rfl⟩ (Nat.le_of_ble_eq_true rfl) ⟨Nat.zero_le _, Nat.zero_le _⟩ dX7_digest_137) hS (fun H locs hP hS => ?_)
        refine lv_lstore_n (lv' := [(1, .long r2), (0, .ref (m_ad G 0)), (3, .int x3)]) X.1 X.2.1 dX7_digest_140 rfl hl (by decide) rfl (fun ls hl => ?_)
        refine lv_ldc2 (v := 31) X.1 X.2.1 X.2.2.2.1 (X.2.2.2.2 _ k_l_X7_281) dX7_digest_141 ?_
        refine lv_lload_n X.1 X.2.1 dX7_digest_144 rfl (lv_at hl 0 rfl) ?_
        refine lv_lmul X.1 X.2.1 dX7_digest_145 ?_
        refine lv_aload_n X.1 X.2.1 dX7_digest_146 rfl (lv_at hl 1 rfl) ?_
        refine m_g7 (v := .long (M3.2 0 8)) X hSt hP m_z_0 8 (by decide) rfl k_f_X7_54 dX7_digest_147 ?_
        refine lv_ladd X.1 X.2.1 dX7_digest_150 ?_
        refine lv_lstore_n (lv' := [(1, .long (((31 : Int64) * r2) + (M3.2 0 8))), (0, .ref (m_ad G 0)), (3, .int x3)]) X.1 X.2.1 dX7_digest_151 rfl hl (by decide) rfl (fun ls hl => ?_)
        refine lv_ldc2 (v := 31) X.1 X.2.1 X.2.2.2.1 (X.2.2.2.2 _ k_l_X7_281) dX7_digest_152 ?_
        refine lv_lload_n X.1 X.2.1 dX7_digest_155 rfl (lv_at hl 0 rfl) ?_
        refine lv_lmul X.1 X.2.1 dX7_digest_156 ?_
        refine lv_aload_n X.1 X.2.1 dX7_digest_157 rfl (lv_at hl 1 rfl) ?_
        refine m_g7 (v := .long (M3.2 0 9)) X hSt hP m_z_0 9 (by decide) rfl k_f_X7_58 dX7_digest_158 ?_
        refine lv_ladd X.1 X.2.1 dX7_digest_161 ?_
        exact m_rl X hr hlk hP hS (Prod.mk.inj (Option.some.inj hres)).1 (Prod.mk.inj (Option.some.inj hres)).2 dX7_digest_162
      · have hres := m_if hres hc1
        refine lv_ldc2 (v := 31) X.1 X.2.1 X.2.2.2.1 (X.2.2.2.2 _ k_l_X7_281) dX7_digest_112 ?_
        refine lv_lload_n X.1 X.2.1 dX7_digest_115 rfl (lv_at hl 1 rfl) ?_
        refine lv_lmul X.1 X.2.1 dX7_digest_116 ?_
        refine lv_aload_n X.1 X.2.1 dX7_digest_117 rfl (lv_at hl 0 rfl) ?_
        refine m_g7 (v := .ref (m_ad G 1)) X hSt hP m_z_0 0 (by decide) rfl k_f_X7_10 dX7_digest_118 ?_
        refine m_g3 (v := .ref (m_ad G (1 + 2))) X hSt hP m_kept_0.1 6 (by decide) rfl k_f_X7_223 dX7_digest_121 ?_
        refine lv_iload_n X.1 X.2.1 dX7_digest_124 rfl (lv_at hl 2 rfl) ?_
        obtain ⟨hg4, hres⟩ := m_gd_e hres
        refine m_ia (j := x3.toNatClampNeg) X hSt hP m_kept_0.2.2.1 hg4 rfl dX7_digest_125 ?_
        refine lv_i2l (v := (M.1 (1 + 2) x3.toNatClampNeg).toInt64) X.1 X.2.1 dX7_digest_126 rfl ?_
        refine lv_ladd X.1 X.2.1 dX7_digest_127 ?_
        obtain ⟨t5, et5, hres⟩ := m_bd_e hres
        refine m_tl et5 ?_
        refine lv_lstore_n (lv' := [(1, .long t5), (0, .ref (m_ad G 0)), (3, .int x3)]) X.1 X.2.1 dX7_digest_128 rfl hl (by decide) rfl (fun ls hl => ?_)
        refine lv_iinc (v := (x3 + 1)) (lv' := [(3, .int (x3 + 1)), (1, .long t5), (0, .ref (m_ad G 0))]) X.1 X.2.1 dX7_digest_129 hl (k := 2) rfl rfl (by decide) rfl (fun ls hl => ?_)
        refine lv_goto (tgt := 101) X.1 X.2.1 dX7_digest_132 (by decide) ?_
        exact ih t5 (x3 + 1) M _ _ _ hP hS (lv_sub hl [2, 1, 0] rfl) hres
  have B74 : ∀ (u : Nat) (x1 : Int64) (x3 : Int32) (M : m_M) (H : Heap) (locs : List Loc) (ls : Array Slot), m_P G M H → va_S (m_A G) s.heap H locs → lv_has ls 4 [(0, .ref (m_ad G 0)), (1, .long x1), (3, .int x3)] → f_X7_digest_b74 n u x1 x3 M = some (r0, M0) → W p l e (m_R 8 182) s m args below meth c H locs 0 0 (MQ below (m_Ql G r0 M0) args s 0 0 (m_A G)) (F0 m 74 ls []) := by
    intro u
    induction u with
    | zero =>
      intro x1 x3 M H locs ls hP hS hl hres
      cases hres
    | succ u ih =>
      intro x1 x3 M H locs ls hP hS hl hres
      rw [f_X7_digest_b74] at hres
      refine lv_iload_n X.1 X.2.1 dX7_digest_74 rfl (lv_at hl 2 rfl) ?_
      refine lv_iconst (v := 2) X.1 X.2.1 dX7_digest_75 (by decide) ?_
      refine lv_icmp_ge (tgt := 99) X.1 X.2.1 dX7_digest_76 (by decide) (fun hc6 => ?_) (fun hc6 => ?_)
      · have hres := m_it hres hc6
        refine lv_iconst (v := 0) X.1 X.2.1 dX7_digest_99 (by decide) ?_
        refine lv_istore_n (lv' := [(3, .int 0), (0, .ref (m_ad G 0)), (1, .long x1)]) X.1 X.2.1 dX7_digest_100 rfl hl (by decide) rfl (fun ls hl => ?_)
        exact B101 n x1 0 M _ _ _ hP hS (lv_sub hl [1, 2, 0] rfl) hres
      · have hres := m_if hres hc6
        refine lv_aload_n X.1 X.2.1 dX7_digest_79 rfl (lv_at hl 0 rfl) ?_
        refine m_g7 (v := .ref (m_ad G 1)) X hSt hP m_z_0 0 (by decide) rfl k_f_X7_10 dX7_digest_80 ?_
        refine m_g3 (v := .ref (m_ad G (1 + 3))) X hSt hP m_kept_0.1 7 (by decide) rfl k_f_X7_128 dX7_digest_83 ?_
        refine lv_iload_n X.1 X.2.1 dX7_digest_86 rfl (lv_at hl 2 rfl) ?_
        obtain ⟨hg7, hres⟩ := m_gd_e hres
        refine m_qa5 (j := x3.toNatClampNeg) X hSt hP m_kept_0.2.2.2.1 hg7 rfl dX7_digest_87 ?_
        refine lv_lload_n X.1 X.2.1 dX7_digest_88 rfl (lv_at hl 1 rfl) ?_
        obtain ⟨r8, err8, hres⟩ := m_ob_e hres
        refine m_bl (m_cV (n := 1) (As := [.long x1]) (rest := []) X hSt hP hS hl.1 (c_X4_digestFrom l G (m_law_of m_kept_0 hg7) err8) k_c_yX4_digestFrom k_m_X7_283 k_i_yX4_digestFrom k_s_yX4_digestFrom k_n_X4 (by decide +kernel) (m_rc4 hSt hP (m_law_of m_kept_0 hg7).1) rfl rfl ⟨Nat.le_of_ble_eq_true rfl, Nat.le_of_ble_eq_true rfl⟩ (Nat.le_of_ble_eq_true rfl) ⟨Nat.zero_le _, Nat.zero_le _⟩ dX7_digest_89) hS (fun H locs hP hS => ?_)
        refine lv_lstore_n (lv' := [(1, .long r8), (0, .ref (m_ad G 0)), (3, .int x3)]) X.1 X.2.1 dX7_digest_92 rfl hl (by decide) rfl (fun ls hl => ?_)
        refine lv_iinc (v := (x3 + 1)) (lv' := [(3, .int (x3 + 1)), (1, .long r8), (0, .ref (m_ad G 0))]) X.1 X.2.1 dX7_digest_93 hl (k := 2) rfl rfl (by decide) rfl (fun ls hl => ?_)
        refine lv_goto (tgt := 74) X.1 X.2.1 dX7_digest_96 (by decide) ?_
        exact ih r8 (x3 + 1) M _ _ _ hP hS (lv_sub hl [2, 1, 0] rfl) hres
  have B35 : ∀ (u : Nat) (x1 : Int64) (x3 : Int32) (M : m_M) (H : Heap) (locs : List Loc) (ls : Array Slot), m_P G M H → va_S (m_A G) s.heap H locs → lv_has ls 4 [(0, .ref (m_ad G 0)), (1, .long x1), (3, .int x3)] → f_X7_digest_b35 n u x1 x3 M = some (r0, M0) → W p l e (m_R 8 182) s m args below meth c H locs 0 0 (MQ below (m_Ql G r0 M0) args s 0 0 (m_A G)) (F0 m 35 ls []) := by
    intro u
    induction u with
    | zero =>
      intro x1 x3 M H locs ls hP hS hl hres
      cases hres
    | succ u ih =>
      intro x1 x3 M H locs ls hP hS hl hres
      rw [f_X7_digest_b35] at hres
      refine lv_iload_n X.1 X.2.1 dX7_digest_35 rfl (lv_at hl 2 rfl) ?_
      refine lv_bipush (v := 6) X.1 X.2.1 dX7_digest_36 (by decide) ?_
      refine lv_aload_n X.1 X.2.1 dX7_digest_38 rfl (lv_at hl 0 rfl) ?_
      refine m_g7 (v := .ref (m_ad G 1)) X hSt hP m_z_0 0 (by decide) rfl k_f_X7_10 dX7_digest_39 ?_
      refine m_g3 (v := .int (M.1 1 1)) X hSt hP m_kept_0.1 1 (by decide) rfl k_f_X7_97 dX7_digest_42 ?_
      refine lv_imul X.1 X.2.1 dX7_digest_45 ?_
      refine lv_icmp_ge (tgt := 72) X.1 X.2.1 dX7_digest_46 (by decide) (fun hc9 => ?_) (fun hc9 => ?_)
      · have hres := m_it hres hc9
        refine lv_iconst (v := 0) X.1 X.2.1 dX7_digest_72 (by decide) ?_
        refine lv_istore_n (lv' := [(3, .int 0), (0, .ref (m_ad G 0)), (1, .long x1)]) X.1 X.2.1 dX7_digest_73 rfl hl (by decide) rfl (fun ls hl => ?_)
        exact B74 n x1 0 M _ _ _ hP hS (lv_sub hl [1, 2, 0] rfl) hres
      · have hres := m_if hres hc9
        refine lv_ldc2 (v := 31) X.1 X.2.1 X.2.2.2.1 (X.2.2.2.2 _ k_l_X7_281) dX7_digest_49 ?_
        refine lv_lload_n X.1 X.2.1 dX7_digest_52 rfl (lv_at hl 1 rfl) ?_
        refine lv_lmul X.1 X.2.1 dX7_digest_53 ?_
        refine lv_aload_n X.1 X.2.1 dX7_digest_54 rfl (lv_at hl 0 rfl) ?_
        refine m_g7 (v := .ref (m_ad G 1)) X hSt hP m_z_0 0 (by decide) rfl k_f_X7_10 dX7_digest_55 ?_
        refine m_g3 (v := .ref (m_ad G (1 + 1))) X hSt hP m_kept_0.1 5 (by decide) rfl k_f_X7_270 dX7_digest_58 ?_
        refine lv_iload_n X.1 X.2.1 dX7_digest_61 rfl (lv_at hl 2 rfl) ?_
        obtain ⟨hg10, hres⟩ := m_gd_e hres
        refine m_ia (j := x3.toNatClampNeg) X hSt hP m_kept_0.2.1 hg10 rfl dX7_digest_62 ?_
        refine lv_i2l (v := (M.1 (1 + 1) x3.toNatClampNeg).toInt64) X.1 X.2.1 dX7_digest_63 rfl ?_
        refine lv_ladd X.1 X.2.1 dX7_digest_64 ?_
        obtain ⟨t11, et11, hres⟩ := m_bd_e hres
        refine m_tl et11 ?_
        refine lv_lstore_n (lv' := [(1, .long t11), (0, .ref (m_ad G 0)), (3, .int x3)]) X.1 X.2.1 dX7_digest_65 rfl hl (by decide) rfl (fun ls hl => ?_)
        refine lv_iinc (v := (x3 + 1)) (lv' := [(3, .int (x3 + 1)), (1, .long t11), (0, .ref (m_ad G 0))]) X.1 X.2.1 dX7_digest_66 hl (k := 2) rfl rfl (by decide) rfl (fun ls hl => ?_)
        refine lv_goto (tgt := 35) X.1 X.2.1 dX7_digest_69 (by decide) ?_
        exact ih t11 (x3 + 1) M _ _ _ hP hS (lv_sub hl [2, 1, 0] rfl) hres
  have B6 : ∀ (u : Nat) (x1 : Int64) (x3 : Int32) (M : m_M) (H : Heap) (locs : List Loc) (ls : Array Slot), m_P G M H → va_S (m_A G) s.heap H locs → lv_has ls 4 [(0, .ref (m_ad G 0)), (1, .long x1), (3, .int x3)] → f_X7_digest_b6 n u x1 x3 M = some (r0, M0) → W p l e (m_R 8 182) s m args below meth c H locs 0 0 (MQ below (m_Ql G r0 M0) args s 0 0 (m_A G)) (F0 m 6 ls []) := by
    intro u
    induction u with
    | zero =>
      intro x1 x3 M H locs ls hP hS hl hres
      cases hres
    | succ u ih =>
      intro x1 x3 M H locs ls hP hS hl hres
      rw [f_X7_digest_b6] at hres
      refine lv_iload_n X.1 X.2.1 dX7_digest_6 rfl (lv_at hl 2 rfl) ?_
      refine lv_iconst (v := 5) X.1 X.2.1 dX7_digest_7 (by decide) ?_
      refine lv_icmp_ge (tgt := 33) X.1 X.2.1 dX7_digest_8 (by decide) (fun hc12 => ?_) (fun hc12 => ?_)
      · have hres := m_it hres hc12
        refine lv_iconst (v := 0) X.1 X.2.1 dX7_digest_33 (by decide) ?_
        refine lv_istore_n (lv' := [(3, .int 0), (0, .ref (m_ad G 0)), (1, .long x1)]) X.1 X.2.1 dX7_digest_34 rfl hl (by decide) rfl (fun ls hl => ?_)
        exact B35 n x1 0 M _ _ _ hP hS (lv_sub hl [1, 2, 0] rfl) hres
      · have hres := m_if hres hc12
        refine lv_ldc2 (v := 31) X.1 X.2.1 X.2.2.2.1 (X.2.2.2.2 _ k_l_X7_281) dX7_digest_11 ?_
        refine lv_lload_n X.1 X.2.1 dX7_digest_14 rfl (lv_at hl 1 rfl) ?_
        refine lv_lmul X.1 X.2.1 dX7_digest_15 ?_
        refine lv_aload_n X.1 X.2.1 dX7_digest_16 rfl (lv_at hl 0 rfl) ?_
        refine m_g7 (v := .ref (m_ad G 1)) X hSt hP m_z_0 0 (by decide) rfl k_f_X7_10 dX7_digest_17 ?_
        refine lv_iload_n X.1 X.2.1 dX7_digest_20 rfl (lv_at hl 2 rfl) ?_
        obtain ⟨r13, err13, hres⟩ := m_bd_e hres
        refine m_bi (m_cV (n := 1) (As := [.int x3]) (rest := [.long ((31 : Int64) * x1)]) X hSt hP hS hl.1 (c_X3_howMany l G m_kept_0 err13) k_c_yX3_howMany k_m_X7_276 k_i_yX3_howMany k_s_yX3_howMany k_n_X3 (by decide +kernel) (m_rc3 hSt hP m_kept_0.1) rfl rfl ⟨Nat.le_of_ble_eq_true rfl, Nat.le_of_ble_eq_true rfl⟩ (Nat.le_of_ble_eq_true rfl) ⟨Nat.zero_le _, Nat.zero_le _⟩ dX7_digest_21) hS (fun H locs hP hS => ?_)
        refine lv_i2l (v := r13.toInt64) X.1 X.2.1 dX7_digest_24 rfl ?_
        refine lv_ladd X.1 X.2.1 dX7_digest_25 ?_
        obtain ⟨t14, et14, hres⟩ := m_bd_e hres
        refine m_tl et14 ?_
        refine lv_lstore_n (lv' := [(1, .long t14), (0, .ref (m_ad G 0)), (3, .int x3)]) X.1 X.2.1 dX7_digest_26 rfl hl (by decide) rfl (fun ls hl => ?_)
        refine lv_iinc (v := (x3 + 1)) (lv' := [(3, .int (x3 + 1)), (1, .long t14), (0, .ref (m_ad G 0))]) X.1 X.2.1 dX7_digest_27 hl (k := 2) rfl rfl (by decide) rfl (fun ls hl => ?_)
        refine lv_goto (tgt := 6) X.1 X.2.1 dX7_digest_30 (by decide) ?_
        exact ih t14 (x3 + 1) M _ _ _ hP hS (lv_sub hl [2, 1, 0] rfl) hres
  unfold f_X7_digest at hres
  refine lv_ldc2 (v := 491) X.1 X.2.1 X.2.2.2.1 (X.2.2.2.2 _ k_l_X7_279) dX7_digest_0 ?_
  refine lv_lstore_n (lv' := [(1, .long 491), (0, .ref (m_ad G 0))]) X.1 X.2.1 dX7_digest_3 rfl hl (by decide) rfl (fun ls hl => ?_)
  refine lv_iconst (v := 0) X.1 X.2.1 dX7_digest_4 (by decide) ?_
  refine lv_istore_n (lv' := [(3, .int 0), (1, .long 491), (0, .ref (m_ad G 0))]) X.1 X.2.1 dX7_digest_5 rfl hl (by decide) rfl (fun ls hl => ?_)
  exact B6 n 491 0 M _ _ _ hP hS (lv_sub hl [2, 1, 0] rfl) hres
theorem dX7_isNote_0 : decode cX7_isNote 0 = .ok (.iload_n 1, 1) := by decide +kernel
theorem dX7_isNote_1 : decode cX7_isNote 1 = .ok (.ifCond .lt 18, 3) := by decide +kernel
theorem dX7_isNote_4 : decode cX7_isNote 4 = .ok (.iload_n 1, 1) := by decide +kernel
theorem dX7_isNote_5 : decode cX7_isNote 5 = .ok (.aload_n 0, 1) := by decide +kernel
theorem dX7_isNote_6 : decode cX7_isNote 6 = .ok (.getfield 10, 3) := by decide +kernel
theorem dX7_isNote_9 : decode cX7_isNote 9 = .ok (.getfield 97, 3) := by decide +kernel
theorem dX7_isNote_12 : decode cX7_isNote 12 = .ok (.if_icmp .ge 7, 3) := by decide +kernel
theorem dX7_isNote_15 : decode cX7_isNote 15 = .ok (.iconst 1, 1) := by decide +kernel
theorem dX7_isNote_16 : decode cX7_isNote 16 = .ok (.goto 4, 3) := by decide +kernel
theorem dX7_isNote_19 : decode cX7_isNote 19 = .ok (.iconst 0, 1) := by decide +kernel
theorem dX7_isNote_20 : decode cX7_isNote 20 = .ok (.ireturn, 1) := by decide +kernel
def f_X7_isNote (x1 : Int32) (M : m_M) : Int32 :=
  if x1 < 0 then
  0
  else
  if (M.1 1 1) ≤ x1 then
  0
  else
  1
set_option maxHeartbeats 4000000 in
set_option maxRecDepth 100000 in
theorem c_X7_isNote (l : Launch) (G : m_G) {x1 : Int32} {M : m_M} {r0 : Int32}  (hres : f_X7_isNote x1 M = r0) : Met l yX7_isNote (m_U yX7_isNote cX7_isNote 2 (some .boolean)) (m_R 0 0) (m_Pc G [.ref (m_ad G 0), .int x1] M) (m_Qz G r0 M) 0 0 (m_A G) := by
  refine m_i0 (n := 2) RX7 rfl (by decide) (Nat.le_of_ble_eq_true rfl) ?_
  intro p e s m args below meth c X hr hlk hSt hP hS ls hl
  have hl : lv_has ls 2 [(0, .ref (m_ad G 0)), (1, .int x1)] := hl
  unfold f_X7_isNote at hres
  refine lv_iload_n X.1 X.2.1 dX7_isNote_0 rfl (lv_at hl 1 rfl) ?_
  refine lv_if_lt (tgt := 19) X.1 X.2.1 dX7_isNote_1 (by decide) (fun hc1 => ?_) (fun hc1 => ?_)
  · have hres := m_it hres hc1
    refine lv_iconst (v := 0) X.1 X.2.1 dX7_isNote_19 (by decide) ?_
    exact m_rz X hr hlk hP hS hres rfl (by decide) dX7_isNote_20
  · have hres := m_if hres hc1
    refine lv_iload_n X.1 X.2.1 dX7_isNote_4 rfl (lv_at hl 1 rfl) ?_
    refine lv_aload_n X.1 X.2.1 dX7_isNote_5 rfl (lv_at hl 0 rfl) ?_
    refine m_g7 (v := .ref (m_ad G 1)) X hSt hP m_z_0 0 (by decide) rfl k_f_X7_10 dX7_isNote_6 ?_
    refine m_g3 (v := .int (M.1 1 1)) X hSt hP m_kept_0.1 1 (by decide) rfl k_f_X7_97 dX7_isNote_9 ?_
    refine lv_icmp_ge (tgt := 19) X.1 X.2.1 dX7_isNote_12 (by decide) (fun hc2 => ?_) (fun hc2 => ?_)
    · have hres := m_it hres hc2
      refine lv_iconst (v := 0) X.1 X.2.1 dX7_isNote_19 (by decide) ?_
      exact m_rz X hr hlk hP hS hres rfl (by decide) dX7_isNote_20
    · have hres := m_if hres hc2
      refine lv_iconst (v := 1) X.1 X.2.1 dX7_isNote_15 (by decide) ?_
      refine lv_goto (tgt := 20) X.1 X.2.1 dX7_isNote_16 (by decide) ?_
      exact m_rz X hr hlk hP hS hres rfl (by decide) dX7_isNote_20
theorem dX3_mayBeDoubted_0 : decode cX3_mayBeDoubted 0 = .ok (.ldc 75, 2) := by decide +kernel
theorem dX3_mayBeDoubted_2 : decode cX3_mayBeDoubted 2 = .ok (.aload_n 0, 1) := by decide +kernel
theorem dX3_mayBeDoubted_3 : decode cX3_mayBeDoubted 3 = .ok (.getfield 9, 3) := by decide +kernel
theorem dX3_mayBeDoubted_6 : decode cX3_mayBeDoubted 6 = .ok (.bipush 6, 2) := by decide +kernel
theorem dX3_mayBeDoubted_8 : decode cX3_mayBeDoubted 8 = .ok (.iload_n 1, 1) := by decide +kernel
theorem dX3_mayBeDoubted_9 : decode cX3_mayBeDoubted 9 = .ok (.imul, 1) := by decide +kernel
theorem dX3_mayBeDoubted_10 : decode cX3_mayBeDoubted 10 = .ok (.iconst 1, 1) := by decide +kernel
theorem dX3_mayBeDoubted_11 : decode cX3_mayBeDoubted 11 = .ok (.iadd, 1) := by decide +kernel
theorem dX3_mayBeDoubted_12 : decode cX3_mayBeDoubted 12 = .ok (.iaload, 1) := by decide +kernel
theorem dX3_mayBeDoubted_13 : decode cX3_mayBeDoubted 13 = .ok (.invokevirtual 61, 3) := by decide +kernel
theorem dX3_mayBeDoubted_16 : decode cX3_mayBeDoubted 16 = .ok (.bipush 63, 2) := by decide +kernel
theorem dX3_mayBeDoubted_18 : decode cX3_mayBeDoubted 18 = .ok (.if_icmp .ne 7, 3) := by decide +kernel
theorem dX3_mayBeDoubted_21 : decode cX3_mayBeDoubted 21 = .ok (.iconst 1, 1) := by decide +kernel
theorem dX3_mayBeDoubted_22 : decode cX3_mayBeDoubted 22 = .ok (.goto 4, 3) := by decide +kernel
theorem dX3_mayBeDoubted_25 : decode cX3_mayBeDoubted 25 = .ok (.iconst 0, 1) := by decide +kernel
theorem dX3_mayBeDoubted_26 : decode cX3_mayBeDoubted 26 = .ok (.ireturn, 1) := by decide +kernel
def f_X3_mayBeDoubted (k0 : Nat) (x1 : Int32) (M : m_M) : Option Int32 :=
  m_gd (m_in (((6 : Int32) * x1) + (1 : Int32)) 360) (
  m_ob (f_J0_charAt_5068e 3 (M.1 (k0 + 1) ((((6 : Int32) * x1) + (1 : Int32)).toNatClampNeg))) fun r2 =>
  if r2 = 63 then
  some 1
  else
  some 0)
set_option maxHeartbeats 4000000 in
set_option maxRecDepth 100000 in
theorem c_X3_mayBeDoubted (l : Launch) (G : m_G) {k0 : Nat} {x1 : Int32} {M : m_M} {r0 : Int32} (hk0 : m_isKept k0) (hres : f_X3_mayBeDoubted k0 x1 M = some r0) : Met l yX3_mayBeDoubted (m_U yX3_mayBeDoubted cX3_mayBeDoubted 2 (some .boolean)) (m_R 4 85) (m_Pc G [.ref (m_ad G k0), .int x1] M) (m_Qz G r0 M) 0 0 (m_A G) := by
  refine m_i0 (n := 2) RX3 rfl (by decide) (Nat.le_of_ble_eq_true rfl) ?_
  intro p e s m args below meth c X hr hlk hSt hP hS ls hl
  have hl : lv_has ls 2 [(0, .ref (m_ad G k0)), (1, .int x1)] := hl
  unfold f_X3_mayBeDoubted at hres
  refine m_ld3 X hSt dX3_mayBeDoubted_0 ?_
  refine lv_aload_n X.1 X.2.1 dX3_mayBeDoubted_2 rfl (lv_at hl 0 rfl) ?_
  refine m_g3 (v := .ref (m_ad G (k0 + 1))) X hSt hP hk0.1 5 (by decide) rfl k_f_X3_9 dX3_mayBeDoubted_3 ?_
  refine lv_bipush (v := 6) X.1 X.2.1 dX3_mayBeDoubted_6 (by decide) ?_
  refine lv_iload_n X.1 X.2.1 dX3_mayBeDoubted_8 rfl (lv_at hl 1 rfl) ?_
  refine lv_imul X.1 X.2.1 dX3_mayBeDoubted_9 ?_
  refine lv_iconst (v := 1) X.1 X.2.1 dX3_mayBeDoubted_10 (by decide) ?_
  refine lv_iadd X.1 X.2.1 dX3_mayBeDoubted_11 ?_
  obtain ⟨hg1, hres⟩ := m_gd_e hres
  refine m_ia (j := ((((6 : Int32) * x1) + (1 : Int32)).toNatClampNeg)) X hSt hP hk0.2.1 hg1 rfl dX3_mayBeDoubted_12 ?_
  obtain ⟨r2, err2, hres⟩ := m_ob_e hres
  refine m_bn (m_cV (n := 1) (As := [.int (M.1 (k0 + 1) ((((6 : Int32) * x1) + (1 : Int32)).toNatClampNeg))]) (rest := []) X hSt hP hS hl.1 (c_J0_charAt_5068e l G (M := M) (by decide) err2) k_c_yJ0_charAt_5068e k_m_X3_61 k_i_yJ0_charAt_5068e k_s_yJ0_charAt_5068e k_n_J0 (by decide +kernel) (m_rcS hSt hS (by decide)) rfl rfl ⟨Nat.le_of_ble_eq_true rfl, Nat.le_of_ble_eq_true rfl⟩ (Nat.le_of_ble_eq_true rfl) ⟨Nat.zero_le _, Nat.zero_le _⟩ dX3_mayBeDoubted_13) hS (fun H locs hP hS hz3 => ?_)
  refine lv_bipush (v := 63) X.1 X.2.1 dX3_mayBeDoubted_16 (by decide) ?_
  refine lv_icmp_ne (tgt := 25) X.1 X.2.1 dX3_mayBeDoubted_18 (by decide) (fun hc4 => ?_) (fun hc4 => ?_)
  · have hres := m_if hres hc4
    refine lv_iconst (v := 0) X.1 X.2.1 dX3_mayBeDoubted_25 (by decide) ?_
    exact m_rz X hr hlk hP hS (Option.some.inj hres) rfl (by decide) dX3_mayBeDoubted_26
  · have hres := m_it hres hc4
    refine lv_iconst (v := 1) X.1 X.2.1 dX3_mayBeDoubted_21 (by decide) ?_
    refine lv_goto (tgt := 26) X.1 X.2.1 dX3_mayBeDoubted_22 (by decide) ?_
    exact m_rz X hr hlk hP hS (Option.some.inj hres) rfl (by decide) dX3_mayBeDoubted_26
theorem dX3_markDoubt_0 : decode cX3_markDoubt 0 = .ok (.aload_n 0, 1) := by decide +kernel
theorem dX3_markDoubt_1 : decode cX3_markDoubt 1 = .ok (.getfield 9, 3) := by decide +kernel
theorem dX3_markDoubt_4 : decode cX3_markDoubt 4 = .ok (.bipush 6, 2) := by decide +kernel
theorem dX3_markDoubt_6 : decode cX3_markDoubt 6 = .ok (.iload_n 1, 1) := by decide +kernel
theorem dX3_markDoubt_7 : decode cX3_markDoubt 7 = .ok (.imul, 1) := by decide +kernel
theorem dX3_markDoubt_8 : decode cX3_markDoubt 8 = .ok (.iconst 5, 1) := by decide +kernel
theorem dX3_markDoubt_9 : decode cX3_markDoubt 9 = .ok (.iadd, 1) := by decide +kernel
theorem dX3_markDoubt_10 : decode cX3_markDoubt 10 = .ok (.iload_n 2, 1) := by decide +kernel
theorem dX3_markDoubt_11 : decode cX3_markDoubt 11 = .ok (.ifCond .eq 7, 3) := by decide +kernel
theorem dX3_markDoubt_14 : decode cX3_markDoubt 14 = .ok (.iconst 1, 1) := by decide +kernel
theorem dX3_markDoubt_15 : decode cX3_markDoubt 15 = .ok (.goto 4, 3) := by decide +kernel
theorem dX3_markDoubt_18 : decode cX3_markDoubt 18 = .ok (.iconst 0, 1) := by decide +kernel
theorem dX3_markDoubt_19 : decode cX3_markDoubt 19 = .ok (.iastore, 1) := by decide +kernel
theorem dX3_markDoubt_20 : decode cX3_markDoubt 20 = .ok (.aload_n 0, 1) := by decide +kernel
theorem dX3_markDoubt_21 : decode cX3_markDoubt 21 = .ok (.dup, 1) := by decide +kernel
theorem dX3_markDoubt_22 : decode cX3_markDoubt 22 = .ok (.getfield 35, 3) := by decide +kernel
theorem dX3_markDoubt_25 : decode cX3_markDoubt 25 = .ok (.iload_n 2, 1) := by decide +kernel
theorem dX3_markDoubt_26 : decode cX3_markDoubt 26 = .ok (.ifCond .eq 7, 3) := by decide +kernel
theorem dX3_markDoubt_29 : decode cX3_markDoubt 29 = .ok (.iconst 1, 1) := by decide +kernel
theorem dX3_markDoubt_30 : decode cX3_markDoubt 30 = .ok (.goto 4, 3) := by decide +kernel
theorem dX3_markDoubt_33 : decode cX3_markDoubt 33 = .ok (.iconst (-1), 1) := by decide +kernel
theorem dX3_markDoubt_34 : decode cX3_markDoubt 34 = .ok (.iadd, 1) := by decide +kernel
theorem dX3_markDoubt_35 : decode cX3_markDoubt 35 = .ok (.putfield 35, 3) := by decide +kernel
theorem dX3_markDoubt_38 : decode cX3_markDoubt 38 = .ok (.return_, 1) := by decide +kernel
def f_X3_markDoubt_b19 (k0 : Nat) (x1 : Int32) (x2 : Int32) (s1 : Int32) (s2 : Int32) (M : m_M) : Option m_M :=
  m_gd (m_in s1 360) (
  m_bd (m_sI M (k0 + 1) s1.toNatClampNeg s2) fun M2 =>
  if x2 = 0 then
  m_bd (m_sI M2 k0 3 ((M2.1 k0 3) + (-1 : Int32))) fun M4 =>
  some M4
  else
  m_bd (m_sI M2 k0 3 ((M2.1 k0 3) + (1 : Int32))) fun M5 =>
  some M5)
def f_X3_markDoubt (k0 : Nat) (x1 : Int32) (x2 : Int32) (M : m_M) : Option m_M :=
  if x2 = 0 then
  f_X3_markDoubt_b19 k0 x1 x2 (((6 : Int32) * x1) + (5 : Int32)) 0 M
  else
  f_X3_markDoubt_b19 k0 x1 x2 (((6 : Int32) * x1) + (5 : Int32)) 1 M
set_option maxHeartbeats 4000000 in
set_option maxRecDepth 100000 in
theorem c_X3_markDoubt (l : Launch) (G : m_G) {k0 : Nat} {x1 : Int32} {x2 : Int32} {M : m_M} {M0 : m_M} (hk0 : m_isKept k0) (hres : f_X3_markDoubt k0 x1 x2 M = some M0) : Met l yX3_markDoubt (m_U yX3_markDoubt cX3_markDoubt 3 none) (m_R 0 0) (m_Pc G [.ref (m_ad G k0), .int x1, .int x2] M) (m_Qv G M0) 0 0 (m_A G) := by
  refine m_i0 (n := 3) RX3 rfl (by decide) (Nat.le_of_ble_eq_true rfl) ?_
  intro p e s m args below meth c X hr hlk hSt hP hS ls hl
  have hl : lv_has ls 3 [(0, .ref (m_ad G k0)), (1, .int x1), (2, .int x2)] := hl
  have B19 : ∀  (s1 : Int32) (s2 : Int32) (M : m_M) (H : Heap) (locs : List Loc) (ls : Array Slot), m_P G M H → va_S (m_A G) s.heap H locs → lv_has ls 3 [(0, .ref (m_ad G k0)), (2, .int x2)] → f_X3_markDoubt_b19 k0 x1 x2 s1 s2 M = some M0 → W p l e (m_R 0 0) s m args below meth c H locs 0 0 (MQ below (m_Qv G M0) args s 0 0 (m_A G)) (F0 m 19 ls [.int s2, .int s1, .ref (m_ad G (k0 + 1))]) := by
    intro s1 s2 M H locs ls hP hS hl hres
    unfold f_X3_markDoubt_b19 at hres
    obtain ⟨hg1, hres⟩ := m_gd_e hres
    obtain ⟨M2, eM2, hres⟩ := m_bd_e hres
    refine m_is (j := s1.toNatClampNeg) X hSt hP hS hk0.2.1 hg1 rfl dX3_markDoubt_19 eM2 (fun H locs hP hS => ?_)
    refine lv_aload_n X.1 X.2.1 dX3_markDoubt_20 rfl (lv_at hl 0 rfl) ?_
    refine lv_dup X.1 X.2.1 dX3_markDoubt_21 rfl ?_
    refine m_g3 (v := .int (M2.1 k0 3)) X hSt hP hk0.1 3 (by decide) rfl k_f_X3_35 dX3_markDoubt_22 ?_
    refine lv_iload_n X.1 X.2.1 dX3_markDoubt_25 rfl (lv_at hl 1 rfl) ?_
    refine lv_if_eq (tgt := 33) X.1 X.2.1 dX3_markDoubt_26 (by decide) (fun hc3 => ?_) (fun hc3 => ?_)
    · have hres := m_it hres hc3
      refine lv_iconst (v := (-1)) X.1 X.2.1 dX3_markDoubt_33 (by decide) ?_
      refine lv_iadd X.1 X.2.1 dX3_markDoubt_34 ?_
      obtain ⟨M4, eM4, hres⟩ := m_bd_e hres
      refine m_pi3 X hSt hP hS hk0.1 3 (by decide) eM4 rfl rfl (by decide) k_f_X3_35 dX3_markDoubt_35 (fun H locs hP hS => ?_)
      exact m_rv X hr hlk hP hS (Option.some.inj hres) dX3_markDoubt_38
    · have hres := m_if hres hc3
      refine lv_iconst (v := 1) X.1 X.2.1 dX3_markDoubt_29 (by decide) ?_
      refine lv_goto (tgt := 34) X.1 X.2.1 dX3_markDoubt_30 (by decide) ?_
      refine lv_iadd X.1 X.2.1 dX3_markDoubt_34 ?_
      obtain ⟨M5, eM5, hres⟩ := m_bd_e hres
      refine m_pi3 X hSt hP hS hk0.1 3 (by decide) eM5 rfl rfl (by decide) k_f_X3_35 dX3_markDoubt_35 (fun H locs hP hS => ?_)
      exact m_rv X hr hlk hP hS (Option.some.inj hres) dX3_markDoubt_38
  unfold f_X3_markDoubt at hres
  refine lv_aload_n X.1 X.2.1 dX3_markDoubt_0 rfl (lv_at hl 0 rfl) ?_
  refine m_g3 (v := .ref (m_ad G (k0 + 1))) X hSt hP hk0.1 5 (by decide) rfl k_f_X3_9 dX3_markDoubt_1 ?_
  refine lv_bipush (v := 6) X.1 X.2.1 dX3_markDoubt_4 (by decide) ?_
  refine lv_iload_n X.1 X.2.1 dX3_markDoubt_6 rfl (lv_at hl 1 rfl) ?_
  refine lv_imul X.1 X.2.1 dX3_markDoubt_7 ?_
  refine lv_iconst (v := 5) X.1 X.2.1 dX3_markDoubt_8 (by decide) ?_
  refine lv_iadd X.1 X.2.1 dX3_markDoubt_9 ?_
  refine lv_iload_n X.1 X.2.1 dX3_markDoubt_10 rfl (lv_at hl 2 rfl) ?_
  refine lv_if_eq (tgt := 18) X.1 X.2.1 dX3_markDoubt_11 (by decide) (fun hc6 => ?_) (fun hc6 => ?_)
  · have hres := m_it hres hc6
    refine lv_iconst (v := 0) X.1 X.2.1 dX3_markDoubt_18 (by decide) ?_
    exact B19 (((6 : Int32) * x1) + (5 : Int32)) 0 M _ _ _ hP hS (lv_sub hl [0, 2] rfl) hres
  · have hres := m_if hres hc6
    refine lv_iconst (v := 1) X.1 X.2.1 dX3_markDoubt_14 (by decide) ?_
    refine lv_goto (tgt := 19) X.1 X.2.1 dX3_markDoubt_15 (by decide) ?_
    exact B19 (((6 : Int32) * x1) + (5 : Int32)) 1 M _ _ _ hP hS (lv_sub hl [0, 2] rfl) hres
theorem dX7_doubt_0 : decode cX7_doubt 0 = .ok (.aload_n 0, 1) := by decide +kernel
theorem dX7_doubt_1 : decode cX7_doubt 1 = .ok (.iload_n 1, 1) := by decide +kernel
theorem dX7_doubt_2 : decode cX7_doubt 2 = .ok (.invokevirtual 69, 3) := by decide +kernel
theorem dX7_doubt_5 : decode cX7_doubt 5 = .ok (.ifCond .eq 14, 3) := by decide +kernel
theorem dX7_doubt_8 : decode cX7_doubt 8 = .ok (.aload_n 0, 1) := by decide +kernel
theorem dX7_doubt_9 : decode cX7_doubt 9 = .ok (.getfield 10, 3) := by decide +kernel
theorem dX7_doubt_12 : decode cX7_doubt 12 = .ok (.iload_n 1, 1) := by decide +kernel
theorem dX7_doubt_13 : decode cX7_doubt 13 = .ok (.invokevirtual 73, 3) := by decide +kernel
theorem dX7_doubt_16 : decode cX7_doubt 16 = .ok (.ifCond .ne 6, 3) := by decide +kernel
theorem dX7_doubt_19 : decode cX7_doubt 19 = .ok (.bipush (-2), 2) := by decide +kernel
theorem dX7_doubt_21 : decode cX7_doubt 21 = .ok (.ireturn, 1) := by decide +kernel
theorem dX7_doubt_22 : decode cX7_doubt 22 = .ok (.aload_n 0, 1) := by decide +kernel
theorem dX7_doubt_23 : decode cX7_doubt 23 = .ok (.getfield 10, 3) := by decide +kernel
theorem dX7_doubt_26 : decode cX7_doubt 26 = .ok (.iload_n 1, 1) := by decide +kernel
theorem dX7_doubt_27 : decode cX7_doubt 27 = .ok (.invokevirtual 76, 3) := by decide +kernel
theorem dX7_doubt_30 : decode cX7_doubt 30 = .ok (.iload_n 2, 1) := by decide +kernel
theorem dX7_doubt_31 : decode cX7_doubt 31 = .ok (.if_icmp .ne 6, 3) := by decide +kernel
theorem dX7_doubt_34 : decode cX7_doubt 34 = .ok (.bipush (-3), 2) := by decide +kernel
theorem dX7_doubt_36 : decode cX7_doubt 36 = .ok (.ireturn, 1) := by decide +kernel
theorem dX7_doubt_37 : decode cX7_doubt 37 = .ok (.iload_n 2, 1) := by decide +kernel
theorem dX7_doubt_38 : decode cX7_doubt 38 = .ok (.ifCond .eq 17, 3) := by decide +kernel
theorem dX7_doubt_41 : decode cX7_doubt 41 = .ok (.aload_n 0, 1) := by decide +kernel
theorem dX7_doubt_42 : decode cX7_doubt 42 = .ok (.getfield 10, 3) := by decide +kernel
theorem dX7_doubt_45 : decode cX7_doubt 45 = .ok (.getfield 79, 3) := by decide +kernel
theorem dX7_doubt_48 : decode cX7_doubt 48 = .ok (.iconst 5, 1) := by decide +kernel
theorem dX7_doubt_49 : decode cX7_doubt 49 = .ok (.if_icmp .lt 6, 3) := by decide +kernel
theorem dX7_doubt_52 : decode cX7_doubt 52 = .ok (.bipush (-4), 2) := by decide +kernel
theorem dX7_doubt_54 : decode cX7_doubt 54 = .ok (.ireturn, 1) := by decide +kernel
theorem dX7_doubt_55 : decode cX7_doubt 55 = .ok (.aload_n 0, 1) := by decide +kernel
theorem dX7_doubt_56 : decode cX7_doubt 56 = .ok (.getfield 10, 3) := by decide +kernel
theorem dX7_doubt_59 : decode cX7_doubt 59 = .ok (.iload_n 1, 1) := by decide +kernel
theorem dX7_doubt_60 : decode cX7_doubt 60 = .ok (.iload_n 2, 1) := by decide +kernel
theorem dX7_doubt_61 : decode cX7_doubt 61 = .ok (.invokevirtual 82, 3) := by decide +kernel
theorem dX7_doubt_64 : decode cX7_doubt 64 = .ok (.iconst 1, 1) := by decide +kernel
theorem dX7_doubt_65 : decode cX7_doubt 65 = .ok (.ireturn, 1) := by decide +kernel
def f_X7_doubt_b55 (x1 : Int32) (x2 : Int32) (M : m_M) : Option (Int32 × m_M) :=
  m_ob (f_X3_markDoubt 1 x1 x2 M) fun M1 =>
  some (1, M1)
def f_X7_doubt (x1 : Int32) (x2 : Int32) (M : m_M) : Option (Int32 × m_M) :=
  m_bd (f_X7_isNote x1 M) fun r2 =>
  if r2 = 0 then
  some ((-2), M)
  else
  m_ob (f_X3_mayBeDoubted 1 x1 M) fun r5 =>
  if r5 = 0 then
  some ((-2), M)
  else
  m_ob (f_X3_isDoubted 1 x1 M) fun r8 =>
  if r8 = x2 then
  some ((-3), M)
  else
  if x2 = 0 then
  f_X7_doubt_b55 x1 x2 M
  else
  if (M.1 1 3) < 5 then
  f_X7_doubt_b55 x1 x2 M
  else
  some ((-4), M)
set_option maxHeartbeats 4000000 in
set_option maxRecDepth 100000 in
theorem c_X7_doubt (l : Launch) (G : m_G) {x1 : Int32} {x2 : Int32} {M : m_M} {r0 : Int32} {M0 : m_M}  (hres : f_X7_doubt x1 x2 M = some (r0, M0)) : Met l yX7_doubt (m_U yX7_doubt cX7_doubt 3 (some .int)) (m_R 5 106) (m_Pc G [.ref (m_ad G 0), .int x1, .int x2] M) (m_Qi G r0 M0) 0 0 (m_A G) := by
  refine m_i0 (n := 3) RX7 rfl (by decide) (Nat.le_of_ble_eq_true rfl) ?_
  intro p e s m args below meth c X hr hlk hSt hP hS ls hl
  have hl : lv_has ls 3 [(0, .ref (m_ad G 0)), (1, .int x1), (2, .int x2)] := hl
  have B55 : ∀  (M : m_M) (H : Heap) (locs : List Loc) (ls : Array Slot), m_P G M H → va_S (m_A G) s.heap H locs → lv_has ls 3 [(0, .ref (m_ad G 0)), (1, .int x1), (2, .int x2)] → f_X7_doubt_b55 x1 x2 M = some (r0, M0) → W p l e (m_R 5 106) s m args below meth c H locs 0 0 (MQ below (m_Qi G r0 M0) args s 0 0 (m_A G)) (F0 m 55 ls []) := by
    intro M H locs ls hP hS hl hres
    unfold f_X7_doubt_b55 at hres
    refine lv_aload_n X.1 X.2.1 dX7_doubt_55 rfl (lv_at hl 0 rfl) ?_
    refine m_g7 (v := .ref (m_ad G 1)) X hSt hP m_z_0 0 (by decide) rfl k_f_X7_10 dX7_doubt_56 ?_
    refine lv_iload_n X.1 X.2.1 dX7_doubt_59 rfl (lv_at hl 1 rfl) ?_
    refine lv_iload_n X.1 X.2.1 dX7_doubt_60 rfl (lv_at hl 2 rfl) ?_
    obtain ⟨M1, eM1, hres⟩ := m_ob_e hres
    refine m_bv (m_cV (n := 2) (As := [.int x1, .int x2]) (rest := []) X hSt hP hS hl.1 (c_X3_markDoubt l G m_kept_0 eM1) k_c_yX3_markDoubt k_m_X7_82 k_i_yX3_markDoubt k_s_yX3_markDoubt k_n_X3 (by decide +kernel) (m_rc3 hSt hP m_kept_0.1) rfl rfl ⟨Nat.le_of_ble_eq_true rfl, Nat.le_of_ble_eq_true rfl⟩ (Nat.le_of_ble_eq_true rfl) ⟨Nat.zero_le _, Nat.zero_le _⟩ dX7_doubt_61) hS (fun H locs hP hS => ?_)
    refine lv_iconst (v := 1) X.1 X.2.1 dX7_doubt_64 (by decide) ?_
    exact m_ri X hr hlk hP hS (Prod.mk.inj (Option.some.inj hres)).1 (Prod.mk.inj (Option.some.inj hres)).2 dX7_doubt_65
  unfold f_X7_doubt at hres
  refine lv_aload_n X.1 X.2.1 dX7_doubt_0 rfl (lv_at hl 0 rfl) ?_
  refine lv_iload_n X.1 X.2.1 dX7_doubt_1 rfl (lv_at hl 1 rfl) ?_
  obtain ⟨r2, err2, hres⟩ := m_bd_e hres
  refine m_bz (m_cV (n := 1) (As := [.int x1]) (rest := []) X hSt hP hS hl.1 (c_X7_isNote l G  err2) k_c_yX7_isNote k_m_X7_69 k_i_yX7_isNote k_s_yX7_isNote k_n_X7 (by decide +kernel) (m_rc7 hSt hP m_z_0) rfl rfl ⟨Nat.le_of_ble_eq_true rfl, Nat.le_of_ble_eq_true rfl⟩ (Nat.le_of_ble_eq_true rfl) ⟨Nat.zero_le _, Nat.zero_le _⟩ dX7_doubt_2) hS (fun H locs hP hS hz3 => ?_)
  refine lv_if_eq (tgt := 19) X.1 X.2.1 dX7_doubt_5 (by decide) (fun hc4 => ?_) (fun hc4 => ?_)
  · have hres := m_it hres hc4
    refine lv_bipush (v := (-2)) X.1 X.2.1 dX7_doubt_19 (by decide) ?_
    exact m_ri X hr hlk hP hS (Prod.mk.inj (Option.some.inj hres)).1 (Prod.mk.inj (Option.some.inj hres)).2 dX7_doubt_21
  · have hres := m_if hres hc4
    refine lv_aload_n X.1 X.2.1 dX7_doubt_8 rfl (lv_at hl 0 rfl) ?_
    refine m_g7 (v := .ref (m_ad G 1)) X hSt hP m_z_0 0 (by decide) rfl k_f_X7_10 dX7_doubt_9 ?_
    refine lv_iload_n X.1 X.2.1 dX7_doubt_12 rfl (lv_at hl 1 rfl) ?_
    obtain ⟨r5, err5, hres⟩ := m_ob_e hres
    refine m_bz (m_cV (n := 1) (As := [.int x1]) (rest := []) X hSt hP hS hl.1 (c_X3_mayBeDoubted l G m_kept_0 err5) k_c_yX3_mayBeDoubted k_m_X7_73 k_i_yX3_mayBeDoubted k_s_yX3_mayBeDoubted k_n_X3 (by decide +kernel) (m_rc3 hSt hP m_kept_0.1) rfl rfl ⟨Nat.le_of_ble_eq_true rfl, Nat.le_of_ble_eq_true rfl⟩ (Nat.le_of_ble_eq_true rfl) ⟨Nat.zero_le _, Nat.zero_le _⟩ dX7_doubt_13) hS (fun H locs hP hS hz6 => ?_)
    refine lv_if_ne (tgt := 22) X.1 X.2.1 dX7_doubt_16 (by decide) (fun hc7 => ?_) (fun hc7 => ?_)
    · have hres := m_if hres hc7
      refine lv_aload_n X.1 X.2.1 dX7_doubt_22 rfl (lv_at hl 0 rfl) ?_
      refine m_g7 (v := .ref (m_ad G 1)) X hSt hP m_z_0 0 (by decide) rfl k_f_X7_10 dX7_doubt_23 ?_
      refine lv_iload_n X.1 X.2.1 dX7_doubt_26 rfl (lv_at hl 1 rfl) ?_
      obtain ⟨r8, err8, hres⟩ := m_ob_e hres
      refine m_bz (m_cV (n := 1) (As := [.int x1]) (rest := []) X hSt hP hS hl.1 (c_X3_isDoubted l G m_kept_0 err8) k_c_yX3_isDoubted k_m_X7_76 k_i_yX3_isDoubted k_s_yX3_isDoubted k_n_X3 (by decide +kernel) (m_rc3 hSt hP m_kept_0.1) rfl rfl ⟨Nat.le_of_ble_eq_true rfl, Nat.le_of_ble_eq_true rfl⟩ (Nat.le_of_ble_eq_true rfl) ⟨Nat.zero_le _, Nat.zero_le _⟩ dX7_doubt_27) hS (fun H locs hP hS hz9 => ?_)
      refine lv_iload_n X.1 X.2.1 dX7_doubt_30 rfl (lv_at hl 2 rfl) ?_
      refine lv_icmp_ne (tgt := 37) X.1 X.2.1 dX7_doubt_31 (by decide) (fun hc10 => ?_) (fun hc10 => ?_)
      · have hres := m_if hres hc10
        refine lv_iload_n X.1 X.2.1 dX7_doubt_37 rfl (lv_at hl 2 rfl) ?_
        refine lv_if_eq (tgt := 55) X.1 X.2.1 dX7_doubt_38 (by decide) (fun hc11 => ?_) (fun hc11 => ?_)
        · have hres := m_it hres hc11
          exact B55 M _ _ _ hP hS (lv_sub hl [0, 1, 2] rfl) hres
        · have hres := m_if hres hc11
          refine lv_aload_n X.1 X.2.1 dX7_doubt_41 rfl (lv_at hl 0 rfl) ?_
          refine m_g7 (v := .ref (m_ad G 1)) X hSt hP m_z_0 0 (by decide) rfl k_f_X7_10 dX7_doubt_42 ?_
          refine m_g3 (v := .int (M.1 1 3)) X hSt hP m_kept_0.1 3 (by decide) rfl k_f_X7_79 dX7_doubt_45 ?_
          refine lv_iconst (v := 5) X.1 X.2.1 dX7_doubt_48 (by decide) ?_
          refine lv_icmp_lt (tgt := 55) X.1 X.2.1 dX7_doubt_49 (by decide) (fun hc12 => ?_) (fun hc12 => ?_)
          · have hres := m_it hres hc12
            exact B55 M _ _ _ hP hS (lv_sub hl [0, 1, 2] rfl) hres
          · have hres := m_if hres hc12
            refine lv_bipush (v := (-4)) X.1 X.2.1 dX7_doubt_52 (by decide) ?_
            exact m_ri X hr hlk hP hS (Prod.mk.inj (Option.some.inj hres)).1 (Prod.mk.inj (Option.some.inj hres)).2 dX7_doubt_54
      · have hres := m_it hres hc10
        refine lv_bipush (v := (-3)) X.1 X.2.1 dX7_doubt_34 (by decide) ?_
        exact m_ri X hr hlk hP hS (Prod.mk.inj (Option.some.inj hres)).1 (Prod.mk.inj (Option.some.inj hres)).2 dX7_doubt_36
    · have hres := m_it hres hc7
      refine lv_bipush (v := (-2)) X.1 X.2.1 dX7_doubt_19 (by decide) ?_
      exact m_ri X hr hlk hP hS (Prod.mk.inj (Option.some.inj hres)).1 (Prod.mk.inj (Option.some.inj hres)).2 dX7_doubt_21
theorem dX7_isLaw_0 : decode cX7_isLaw 0 = .ok (.iload_n 0, 1) := by decide +kernel
theorem dX7_isLaw_1 : decode cX7_isLaw 1 = .ok (.ifCond .lt 12, 3) := by decide +kernel
theorem dX7_isLaw_4 : decode cX7_isLaw 4 = .ok (.iload_n 0, 1) := by decide +kernel
theorem dX7_isLaw_5 : decode cX7_isLaw 5 = .ok (.iconst 2, 1) := by decide +kernel
theorem dX7_isLaw_6 : decode cX7_isLaw 6 = .ok (.if_icmp .ge 7, 3) := by decide +kernel
theorem dX7_isLaw_9 : decode cX7_isLaw 9 = .ok (.iconst 1, 1) := by decide +kernel
theorem dX7_isLaw_10 : decode cX7_isLaw 10 = .ok (.goto 4, 3) := by decide +kernel
theorem dX7_isLaw_13 : decode cX7_isLaw 13 = .ok (.iconst 0, 1) := by decide +kernel
theorem dX7_isLaw_14 : decode cX7_isLaw 14 = .ok (.ireturn, 1) := by decide +kernel
def f_X7_isLaw (x0 : Int32) : Int32 :=
  if x0 < 0 then
  0
  else
  if (2 : Int32) ≤ x0 then
  0
  else
  1
set_option maxHeartbeats 4000000 in
set_option maxRecDepth 100000 in
theorem c_X7_isLaw (l : Launch) (G : m_G) {x0 : Int32} {M : m_M} {r0 : Int32}  (hres : f_X7_isLaw x0 = r0) : Met l yX7_isLaw (m_U yX7_isLaw cX7_isLaw 1 (some .boolean)) (m_R 0 0) (m_Pc G [.int x0] M) (m_Qz G r0 M) 0 0 (m_A G) := by
  refine m_i0 (n := 1) RX7 rfl (by decide) (Nat.le_of_ble_eq_true rfl) ?_
  intro p e s m args below meth c X hr hlk hSt hP hS ls hl
  have hl : lv_has ls 1 [(0, .int x0)] := hl
  unfold f_X7_isLaw at hres
  refine lv_iload_n X.1 X.2.1 dX7_isLaw_0 rfl (lv_at hl 0 rfl) ?_
  refine lv_if_lt (tgt := 13) X.1 X.2.1 dX7_isLaw_1 (by decide) (fun hc1 => ?_) (fun hc1 => ?_)
  · have hres := m_it hres hc1
    refine lv_iconst (v := 0) X.1 X.2.1 dX7_isLaw_13 (by decide) ?_
    exact m_rz X hr hlk hP hS hres rfl (by decide) dX7_isLaw_14
  · have hres := m_if hres hc1
    refine lv_iload_n X.1 X.2.1 dX7_isLaw_4 rfl (lv_at hl 0 rfl) ?_
    refine lv_iconst (v := 2) X.1 X.2.1 dX7_isLaw_5 (by decide) ?_
    refine lv_icmp_ge (tgt := 13) X.1 X.2.1 dX7_isLaw_6 (by decide) (fun hc2 => ?_) (fun hc2 => ?_)
    · have hres := m_it hres hc2
      refine lv_iconst (v := 0) X.1 X.2.1 dX7_isLaw_13 (by decide) ?_
      exact m_rz X hr hlk hP hS hres rfl (by decide) dX7_isLaw_14
    · have hres := m_if hres hc2
      refine lv_iconst (v := 1) X.1 X.2.1 dX7_isLaw_9 (by decide) ?_
      refine lv_goto (tgt := 14) X.1 X.2.1 dX7_isLaw_10 (by decide) ?_
      exact m_rz X hr hlk hP hS hres rfl (by decide) dX7_isLaw_14
theorem dX4_parse_0 : decode cX4_parse 0 = .ok (.aload_n 0, 1) := by decide +kernel
theorem dX4_parse_1 : decode cX4_parse 1 = .ok (.iconst (-1), 1) := by decide +kernel
theorem dX4_parse_2 : decode cX4_parse 2 = .ok (.putfield 25, 3) := by decide +kernel
theorem dX4_parse_5 : decode cX4_parse 5 = .ok (.aload_n 0, 1) := by decide +kernel
theorem dX4_parse_6 : decode cX4_parse 6 = .ok (.iconst 0, 1) := by decide +kernel
theorem dX4_parse_7 : decode cX4_parse 7 = .ok (.putfield 58, 3) := by decide +kernel
theorem dX4_parse_10 : decode cX4_parse 10 = .ok (.aload_n 0, 1) := by decide +kernel
theorem dX4_parse_11 : decode cX4_parse 11 = .ok (.iconst 0, 1) := by decide +kernel
theorem dX4_parse_12 : decode cX4_parse 12 = .ok (.putfield 61, 3) := by decide +kernel
theorem dX4_parse_15 : decode cX4_parse 15 = .ok (.aload_n 0, 1) := by decide +kernel
theorem dX4_parse_16 : decode cX4_parse 16 = .ok (.iconst 0, 1) := by decide +kernel
theorem dX4_parse_17 : decode cX4_parse 17 = .ok (.invokevirtual 64, 3) := by decide +kernel
theorem dX4_parse_20 : decode cX4_parse 20 = .ok (.aload_n 0, 1) := by decide +kernel
theorem dX4_parse_21 : decode cX4_parse 21 = .ok (.invokevirtual 68, 3) := by decide +kernel
theorem dX4_parse_24 : decode cX4_parse 24 = .ok (.iconst (-1), 1) := by decide +kernel
theorem dX4_parse_25 : decode cX4_parse 25 = .ok (.if_icmp .eq 12, 3) := by decide +kernel
theorem dX4_parse_28 : decode cX4_parse 28 = .ok (.aload_n 0, 1) := by decide +kernel
theorem dX4_parse_29 : decode cX4_parse 29 = .ok (.aload_n 0, 1) := by decide +kernel
theorem dX4_parse_30 : decode cX4_parse 30 = .ok (.getfield 58, 3) := by decide +kernel
theorem dX4_parse_33 : decode cX4_parse 33 = .ok (.iconst 1, 1) := by decide +kernel
theorem dX4_parse_34 : decode cX4_parse 34 = .ok (.invokevirtual 72, 3) := by decide +kernel
theorem dX4_parse_37 : decode cX4_parse 37 = .ok (.return_, 1) := by decide +kernel
def f_X4_parse (n : Nat) (k0 : Nat) (M : m_M) : Option m_M :=
  m_bd (m_sI M k0 7 (-1)) fun M1 =>
  m_bd (m_sI M1 k0 6 0) fun M2 =>
  m_bd (m_sI M2 k0 5 0) fun M3 =>
  m_ob (f_X4_value n 12 k0 0 M3) fun M4 =>
  m_o2 (f_X4_peek n k0 M4) fun r5 M6 =>
  if r5 = (-1) then
  some M6
  else
  m_bd (f_X4_blame k0 (M6.1 k0 6) 1 M6) fun M8 =>
  some M8
set_option maxHeartbeats 4000000 in
set_option maxRecDepth 100000 in
theorem c_X4_parse (l : Launch) (G : m_G) {n : Nat} {k0 : Nat} {M : m_M} {M0 : m_M} (hk0 : m_isLaw k0) (hres : f_X4_parse n k0 M = some M0) : Met l yX4_parse (m_U yX4_parse cX4_parse 1 none) (m_R 121 2806) (m_Pc G [.ref (m_ad G k0)] M) (m_Qv G M0) 0 0 (m_A G) := by
  refine m_i0 (n := 1) RX4 rfl (by decide) (Nat.le_of_ble_eq_true rfl) ?_
  intro p e s m args below meth c X hr hlk hSt hP hS ls hl
  have hl : lv_has ls 1 [(0, .ref (m_ad G k0))] := hl
  unfold f_X4_parse at hres
  refine lv_aload_n X.1 X.2.1 dX4_parse_0 rfl (lv_at hl 0 rfl) ?_
  refine lv_iconst (v := (-1)) X.1 X.2.1 dX4_parse_1 (by decide) ?_
  obtain ⟨M1, eM1, hres⟩ := m_bd_e hres
  refine m_pi4 X hSt hP hS hk0.1 7 (by decide) eM1 rfl rfl (by decide) k_f_X4_25 dX4_parse_2 (fun H locs hP hS => ?_)
  refine lv_aload_n X.1 X.2.1 dX4_parse_5 rfl (lv_at hl 0 rfl) ?_
  refine lv_iconst (v := 0) X.1 X.2.1 dX4_parse_6 (by decide) ?_
  obtain ⟨M2, eM2, hres⟩ := m_bd_e hres
  refine m_pi4 X hSt hP hS hk0.1 6 (by decide) eM2 rfl rfl (by decide) k_f_X4_58 dX4_parse_7 (fun H locs hP hS => ?_)
  refine lv_aload_n X.1 X.2.1 dX4_parse_10 rfl (lv_at hl 0 rfl) ?_
  refine lv_iconst (v := 0) X.1 X.2.1 dX4_parse_11 (by decide) ?_
  obtain ⟨M3, eM3, hres⟩ := m_bd_e hres
  refine m_pi4 X hSt hP hS hk0.1 5 (by decide) eM3 rfl rfl (by decide) k_f_X4_61 dX4_parse_12 (fun H locs hP hS => ?_)
  refine lv_aload_n X.1 X.2.1 dX4_parse_15 rfl (lv_at hl 0 rfl) ?_
  refine lv_iconst (v := 0) X.1 X.2.1 dX4_parse_16 (by decide) ?_
  obtain ⟨M4, eM4, hres⟩ := m_ob_e hres
  refine m_bv (m_cV (n := 1) (As := [.int 0]) (rest := []) X hSt hP hS hl.1 (cd_X4_value l G 12 k0 0 M3 _ hk0 eM4) k_c_yX4_value k_m_X4_64 k_i_yX4_value k_s_yX4_value k_n_X4 (by decide +kernel) (m_rc4 hSt hP hk0.1) rfl rfl ⟨Nat.le_of_ble_eq_true rfl, Nat.le_of_ble_eq_true rfl⟩ (Nat.le_of_ble_eq_true rfl) ⟨Nat.zero_le _, Nat.zero_le _⟩ dX4_parse_17) hS (fun H locs hP hS => ?_)
  refine lv_aload_n X.1 X.2.1 dX4_parse_20 rfl (lv_at hl 0 rfl) ?_
  obtain ⟨r5, M6, err5, hres⟩ := m_o2_e hres
  refine m_bi (m_cV (n := 0) (As := []) (rest := []) X hSt hP hS hl.1 (c_X4_peek l G hk0 err5) k_c_yX4_peek k_m_X4_68 k_i_yX4_peek k_s_yX4_peek k_n_X4 (by decide +kernel) (m_rc4 hSt hP hk0.1) rfl rfl ⟨Nat.le_of_ble_eq_true rfl, Nat.le_of_ble_eq_true rfl⟩ (Nat.le_of_ble_eq_true rfl) ⟨Nat.zero_le _, Nat.zero_le _⟩ dX4_parse_21) hS (fun H locs hP hS => ?_)
  refine lv_iconst (v := (-1)) X.1 X.2.1 dX4_parse_24 (by decide) ?_
  refine lv_icmp_eq (tgt := 37) X.1 X.2.1 dX4_parse_25 (by decide) (fun hc7 => ?_) (fun hc7 => ?_)
  · have hres := m_it hres hc7
    exact m_rv X hr hlk hP hS (Option.some.inj hres) dX4_parse_37
  · have hres := m_if hres hc7
    refine lv_aload_n X.1 X.2.1 dX4_parse_28 rfl (lv_at hl 0 rfl) ?_
    refine lv_aload_n X.1 X.2.1 dX4_parse_29 rfl (lv_at hl 0 rfl) ?_
    refine m_g4 (v := .int (M6.1 k0 6)) X hSt hP hk0.1 6 (by decide) rfl k_f_X4_58 dX4_parse_30 ?_
    refine lv_iconst (v := 1) X.1 X.2.1 dX4_parse_33 (by decide) ?_
    obtain ⟨M8, eM8, hres⟩ := m_bd_e hres
    refine m_bv (m_cV (n := 2) (As := [.int (M6.1 k0 6), .int 1]) (rest := []) X hSt hP hS hl.1 (c_X4_blame l G hk0 eM8) k_c_yX4_blame k_m_X4_72 k_i_yX4_blame k_s_yX4_blame k_n_X4 (by decide +kernel) (m_rc4 hSt hP hk0.1) rfl rfl ⟨Nat.le_of_ble_eq_true rfl, Nat.le_of_ble_eq_true rfl⟩ (Nat.le_of_ble_eq_true rfl) ⟨Nat.zero_le _, Nat.zero_le _⟩ dX4_parse_34) hS (fun H locs hP hS => ?_)
    exact m_rv X hr hlk hP hS (Option.some.inj hres) dX4_parse_37
theorem dX4_empty_0 : decode cX4_empty 0 = .ok (.aload_n 0, 1) := by decide +kernel
theorem dX4_empty_1 : decode cX4_empty 1 = .ok (.getfield 29, 3) := by decide +kernel
theorem dX4_empty_4 : decode cX4_empty 4 = .ok (.istore_n 1, 1) := by decide +kernel
theorem dX4_empty_5 : decode cX4_empty 5 = .ok (.aload_n 0, 1) := by decide +kernel
theorem dX4_empty_6 : decode cX4_empty 6 = .ok (.iconst 0, 1) := by decide +kernel
theorem dX4_empty_7 : decode cX4_empty 7 = .ok (.putfield 29, 3) := by decide +kernel
theorem dX4_empty_10 : decode cX4_empty 10 = .ok (.aload_n 0, 1) := by decide +kernel
theorem dX4_empty_11 : decode cX4_empty 11 = .ok (.invokevirtual 32, 3) := by decide +kernel
theorem dX4_empty_14 : decode cX4_empty 14 = .ok (.iload_n 1, 1) := by decide +kernel
theorem dX4_empty_15 : decode cX4_empty 15 = .ok (.ireturn, 1) := by decide +kernel
def f_X4_empty (n : Nat) (k0 : Nat) (M : m_M) : Option (Int32 × m_M) :=
  m_bd (m_sI M k0 1 0) fun M1 =>
  m_ob (f_X4_parse n k0 M1) fun M2 =>
  some ((M.1 k0 1), M2)
set_option maxHeartbeats 4000000 in
set_option maxRecDepth 100000 in
theorem c_X4_empty (l : Launch) (G : m_G) {n : Nat} {k0 : Nat} {M : m_M} {r0 : Int32} {M0 : m_M} (hk0 : m_isLaw k0) (hres : f_X4_empty n k0 M = some (r0, M0)) : Met l yX4_empty (m_U yX4_empty cX4_empty 2 (some .int)) (m_R 122 2826) (m_Pc G [.ref (m_ad G k0)] M) (m_Qi G r0 M0) 0 0 (m_A G) := by
  refine m_i0 (n := 2) RX4 rfl (by decide) (Nat.le_of_ble_eq_true rfl) ?_
  intro p e s m args below meth c X hr hlk hSt hP hS ls hl
  have hl : lv_has ls 2 [(0, .ref (m_ad G k0))] := hl
  unfold f_X4_empty at hres
  refine lv_aload_n X.1 X.2.1 dX4_empty_0 rfl (lv_at hl 0 rfl) ?_
  refine m_g4 (v := .int (M.1 k0 1)) X hSt hP hk0.1 1 (by decide) rfl k_f_X4_29 dX4_empty_1 ?_
  refine lv_istore_n (lv' := [(1, .int (M.1 k0 1)), (0, .ref (m_ad G k0))]) X.1 X.2.1 dX4_empty_4 rfl hl (by decide) rfl (fun ls hl => ?_)
  refine lv_aload_n X.1 X.2.1 dX4_empty_5 rfl (lv_at hl 1 rfl) ?_
  refine lv_iconst (v := 0) X.1 X.2.1 dX4_empty_6 (by decide) ?_
  obtain ⟨M1, eM1, hres⟩ := m_bd_e hres
  refine m_pi4 X hSt hP hS hk0.1 1 (by decide) eM1 rfl rfl (by decide) k_f_X4_29 dX4_empty_7 (fun H locs hP hS => ?_)
  refine lv_aload_n X.1 X.2.1 dX4_empty_10 rfl (lv_at hl 1 rfl) ?_
  obtain ⟨M2, eM2, hres⟩ := m_ob_e hres
  refine m_bv (m_cV (n := 0) (As := []) (rest := []) X hSt hP hS hl.1 (c_X4_parse l G hk0 eM2) k_c_yX4_parse k_m_X4_32 k_i_yX4_parse k_s_yX4_parse k_n_X4 (by decide +kernel) (m_rc4 hSt hP hk0.1) rfl rfl ⟨Nat.le_of_ble_eq_true rfl, Nat.le_of_ble_eq_true rfl⟩ (Nat.le_of_ble_eq_true rfl) ⟨Nat.zero_le _, Nat.zero_le _⟩ dX4_empty_11) hS (fun H locs hP hS => ?_)
  refine lv_iload_n X.1 X.2.1 dX4_empty_14 rfl (lv_at hl 0 rfl) ?_
  exact m_ri X hr hlk hP hS (Prod.mk.inj (Option.some.inj hres)).1 (Prod.mk.inj (Option.some.inj hres)).2 dX4_empty_15
theorem dX7_erase_0 : decode cX7_erase 0 = .ok (.iload_n 1, 1) := by decide +kernel
theorem dX7_erase_1 : decode cX7_erase 1 = .ok (.invokestatic 125, 3) := by decide +kernel
theorem dX7_erase_4 : decode cX7_erase 4 = .ok (.ifCond .ne 6, 3) := by decide +kernel
theorem dX7_erase_7 : decode cX7_erase 7 = .ok (.bipush (-2), 2) := by decide +kernel
theorem dX7_erase_9 : decode cX7_erase 9 = .ok (.ireturn, 1) := by decide +kernel
theorem dX7_erase_10 : decode cX7_erase 10 = .ok (.aload_n 0, 1) := by decide +kernel
theorem dX7_erase_11 : decode cX7_erase 11 = .ok (.getfield 10, 3) := by decide +kernel
theorem dX7_erase_14 : decode cX7_erase 14 = .ok (.getfield 128, 3) := by decide +kernel
theorem dX7_erase_17 : decode cX7_erase 17 = .ok (.iload_n 1, 1) := by decide +kernel
theorem dX7_erase_18 : decode cX7_erase 18 = .ok (.aaload, 1) := by decide +kernel
theorem dX7_erase_19 : decode cX7_erase 19 = .ok (.invokevirtual 136, 3) := by decide +kernel
theorem dX7_erase_22 : decode cX7_erase 22 = .ok (.ireturn, 1) := by decide +kernel
def f_X7_erase (n : Nat) (x1 : Int32) (M : m_M) : Option (Int32 × m_M) :=
  m_bd (f_X7_isLaw x1) fun r1 =>
  if r1 = 0 then
  some ((-2), M)
  else
  m_gd (m_in x1 2) (
  m_o2 (f_X4_empty n ((1 + 3) + 1 + 5 * x1.toNatClampNeg) M) fun r5 M6 =>
  some (r5, M6))
set_option maxHeartbeats 4000000 in
set_option maxRecDepth 100000 in
theorem c_X7_erase (l : Launch) (G : m_G) {n : Nat} {x1 : Int32} {M : m_M} {r0 : Int32} {M0 : m_M}  (hres : f_X7_erase n x1 M = some (r0, M0)) : Met l yX7_erase (m_U yX7_erase cX7_erase 2 (some .int)) (m_R 123 2847) (m_Pc G [.ref (m_ad G 0), .int x1] M) (m_Qi G r0 M0) 0 0 (m_A G) := by
  refine m_i0 (n := 2) RX7 rfl (by decide) (Nat.le_of_ble_eq_true rfl) ?_
  intro p e s m args below meth c X hr hlk hSt hP hS ls hl
  have hl : lv_has ls 2 [(0, .ref (m_ad G 0)), (1, .int x1)] := hl
  unfold f_X7_erase at hres
  refine lv_iload_n X.1 X.2.1 dX7_erase_0 rfl (lv_at hl 1 rfl) ?_
  obtain ⟨r1, err1, hres⟩ := m_bd_e hres
  refine m_bz (m_cS (n := 1) (As := [.int x1]) (rest := []) X hSt hP hS hl.1 (c_X7_isLaw l G (M := M)  err1) k_c_yX7_isLaw k_m_X7_125 k_t_yX7_isLaw k_n_X7 (by decide +kernel) rfl rfl ⟨Nat.le_of_ble_eq_true rfl, Nat.le_of_ble_eq_true rfl⟩ (Nat.le_of_ble_eq_true rfl) ⟨Nat.zero_le _, Nat.zero_le _⟩ dX7_erase_1) hS (fun H locs hP hS hz2 => ?_)
  refine lv_if_ne (tgt := 10) X.1 X.2.1 dX7_erase_4 (by decide) (fun hc3 => ?_) (fun hc3 => ?_)
  · have hres := m_if hres hc3
    refine lv_aload_n X.1 X.2.1 dX7_erase_10 rfl (lv_at hl 0 rfl) ?_
    refine m_g7 (v := .ref (m_ad G 1)) X hSt hP m_z_0 0 (by decide) rfl k_f_X7_10 dX7_erase_11 ?_
    refine m_g3 (v := .ref (m_ad G (1 + 3))) X hSt hP m_kept_0.1 7 (by decide) rfl k_f_X7_128 dX7_erase_14 ?_
    refine lv_iload_n X.1 X.2.1 dX7_erase_17 rfl (lv_at hl 1 rfl) ?_
    obtain ⟨hg4, hres⟩ := m_gd_e hres
    refine m_qa5 (j := x1.toNatClampNeg) X hSt hP m_kept_0.2.2.2.1 hg4 rfl dX7_erase_18 ?_
    obtain ⟨r5, M6, err5, hres⟩ := m_o2_e hres
    refine m_bi (m_cV (n := 0) (As := []) (rest := []) X hSt hP hS hl.1 (c_X4_empty l G (m_law_of m_kept_0 hg4) err5) k_c_yX4_empty k_m_X7_136 k_i_yX4_empty k_s_yX4_empty k_n_X4 (by decide +kernel) (m_rc4 hSt hP (m_law_of m_kept_0 hg4).1) rfl rfl ⟨Nat.le_of_ble_eq_true rfl, Nat.le_of_ble_eq_true rfl⟩ (Nat.le_of_ble_eq_true rfl) ⟨Nat.zero_le _, Nat.zero_le _⟩ dX7_erase_19) hS (fun H locs hP hS => ?_)
    exact m_ri X hr hlk hP hS (Prod.mk.inj (Option.some.inj hres)).1 (Prod.mk.inj (Option.some.inj hres)).2 dX7_erase_22
  · have hres := m_it hres hc3
    refine lv_bipush (v := (-2)) X.1 X.2.1 dX7_erase_7 (by decide) ?_
    exact m_ri X hr hlk hP hS (Prod.mk.inj (Option.some.inj hres)).1 (Prod.mk.inj (Option.some.inj hres)).2 dX7_erase_9
theorem dX7_fault_0 : decode cX7_fault 0 = .ok (.iload_n 1, 1) := by decide +kernel
theorem dX7_fault_1 : decode cX7_fault 1 = .ok (.invokestatic 125, 3) := by decide +kernel
theorem dX7_fault_4 : decode cX7_fault 4 = .ok (.ifCond .ne 6, 3) := by decide +kernel
theorem dX7_fault_7 : decode cX7_fault 7 = .ok (.bipush (-2), 2) := by decide +kernel
theorem dX7_fault_9 : decode cX7_fault 9 = .ok (.ireturn, 1) := by decide +kernel
theorem dX7_fault_10 : decode cX7_fault 10 = .ok (.aload_n 0, 1) := by decide +kernel
theorem dX7_fault_11 : decode cX7_fault 11 = .ok (.getfield 10, 3) := by decide +kernel
theorem dX7_fault_14 : decode cX7_fault 14 = .ok (.getfield 128, 3) := by decide +kernel
theorem dX7_fault_17 : decode cX7_fault 17 = .ok (.iload_n 1, 1) := by decide +kernel
theorem dX7_fault_18 : decode cX7_fault 18 = .ok (.aaload, 1) := by decide +kernel
theorem dX7_fault_19 : decode cX7_fault 19 = .ok (.getfield 139, 3) := by decide +kernel
theorem dX7_fault_22 : decode cX7_fault 22 = .ok (.ireturn, 1) := by decide +kernel
def f_X7_fault (x1 : Int32) (M : m_M) : Option Int32 :=
  m_bd (f_X7_isLaw x1) fun r1 =>
  if r1 = 0 then
  some (-2)
  else
  m_gd (m_in x1 2) (
  some (M.1 ((1 + 3) + 1 + 5 * x1.toNatClampNeg) 7))
set_option maxHeartbeats 4000000 in
set_option maxRecDepth 100000 in
theorem c_X7_fault (l : Launch) (G : m_G) {x1 : Int32} {M : m_M} {r0 : Int32}  (hres : f_X7_fault x1 M = some r0) : Met l yX7_fault (m_U yX7_fault cX7_fault 2 (some .int)) (m_R 1 20) (m_Pc G [.ref (m_ad G 0), .int x1] M) (m_Qi G r0 M) 0 0 (m_A G) := by
  refine m_i0 (n := 2) RX7 rfl (by decide) (Nat.le_of_ble_eq_true rfl) ?_
  intro p e s m args below meth c X hr hlk hSt hP hS ls hl
  have hl : lv_has ls 2 [(0, .ref (m_ad G 0)), (1, .int x1)] := hl
  unfold f_X7_fault at hres
  refine lv_iload_n X.1 X.2.1 dX7_fault_0 rfl (lv_at hl 1 rfl) ?_
  obtain ⟨r1, err1, hres⟩ := m_bd_e hres
  refine m_bz (m_cS (n := 1) (As := [.int x1]) (rest := []) X hSt hP hS hl.1 (c_X7_isLaw l G (M := M)  err1) k_c_yX7_isLaw k_m_X7_125 k_t_yX7_isLaw k_n_X7 (by decide +kernel) rfl rfl ⟨Nat.le_of_ble_eq_true rfl, Nat.le_of_ble_eq_true rfl⟩ (Nat.le_of_ble_eq_true rfl) ⟨Nat.zero_le _, Nat.zero_le _⟩ dX7_fault_1) hS (fun H locs hP hS hz2 => ?_)
  refine lv_if_ne (tgt := 10) X.1 X.2.1 dX7_fault_4 (by decide) (fun hc3 => ?_) (fun hc3 => ?_)
  · have hres := m_if hres hc3
    refine lv_aload_n X.1 X.2.1 dX7_fault_10 rfl (lv_at hl 0 rfl) ?_
    refine m_g7 (v := .ref (m_ad G 1)) X hSt hP m_z_0 0 (by decide) rfl k_f_X7_10 dX7_fault_11 ?_
    refine m_g3 (v := .ref (m_ad G (1 + 3))) X hSt hP m_kept_0.1 7 (by decide) rfl k_f_X7_128 dX7_fault_14 ?_
    refine lv_iload_n X.1 X.2.1 dX7_fault_17 rfl (lv_at hl 1 rfl) ?_
    obtain ⟨hg4, hres⟩ := m_gd_e hres
    refine m_qa5 (j := x1.toNatClampNeg) X hSt hP m_kept_0.2.2.2.1 hg4 rfl dX7_fault_18 ?_
    refine m_g4 (v := .int (M.1 ((1 + 3) + 1 + 5 * x1.toNatClampNeg) 7)) X hSt hP (m_law_of m_kept_0 hg4).1 7 (by decide) rfl k_f_X7_139 dX7_fault_19 ?_
    exact m_ri X hr hlk hP hS (Option.some.inj hres) rfl dX7_fault_22
  · have hres := m_it hres hc3
    refine lv_bipush (v := (-2)) X.1 X.2.1 dX7_fault_7 (by decide) ?_
    exact m_ri X hr hlk hP hS (Option.some.inj hres) rfl dX7_fault_9
theorem dX4_takeAll_0 : decode cX4_takeAll 0 = .ok (.aload_n 1, 1) := by decide +kernel
theorem dX4_takeAll_1 : decode cX4_takeAll 1 = .ok (.getfield 9, 3) := by decide +kernel
theorem dX4_takeAll_4 : decode cX4_takeAll 4 = .ok (.iconst 0, 1) := by decide +kernel
theorem dX4_takeAll_5 : decode cX4_takeAll 5 = .ok (.aload_n 0, 1) := by decide +kernel
theorem dX4_takeAll_6 : decode cX4_takeAll 6 = .ok (.getfield 9, 3) := by decide +kernel
theorem dX4_takeAll_9 : decode cX4_takeAll 9 = .ok (.iconst 0, 1) := by decide +kernel
theorem dX4_takeAll_10 : decode cX4_takeAll 10 = .ok (.bipush 50, 2) := by decide +kernel
theorem dX4_takeAll_12 : decode cX4_takeAll 12 = .ok (.invokestatic 35, 3) := by decide +kernel
theorem dX4_takeAll_15 : decode cX4_takeAll 15 = .ok (.aload_n 0, 1) := by decide +kernel
theorem dX4_takeAll_16 : decode cX4_takeAll 16 = .ok (.aload_n 1, 1) := by decide +kernel
theorem dX4_takeAll_17 : decode cX4_takeAll 17 = .ok (.getfield 29, 3) := by decide +kernel
theorem dX4_takeAll_20 : decode cX4_takeAll 20 = .ok (.putfield 29, 3) := by decide +kernel
theorem dX4_takeAll_23 : decode cX4_takeAll 23 = .ok (.aload_n 0, 1) := by decide +kernel
theorem dX4_takeAll_24 : decode cX4_takeAll 24 = .ok (.invokevirtual 32, 3) := by decide +kernel
theorem dX4_takeAll_27 : decode cX4_takeAll 27 = .ok (.return_, 1) := by decide +kernel
def f_X4_takeAll (n : Nat) (k0 : Nat) (k1 : Nat) (M : m_M) : Option m_M :=
  m_bd (m_sC M (k0 + 1) (va_cpy (M.1 (k1 + 1)) (M.1 (k0 + 1)) 0 0 50)) fun M1 =>
  m_bd (m_sI M1 k0 1 (M1.1 k1 1)) fun M2 =>
  m_ob (f_X4_parse n k0 M2) fun M3 =>
  some M3
set_option maxHeartbeats 4000000 in
set_option maxRecDepth 100000 in
theorem c_X4_takeAll (l : Launch) (G : m_G) {n : Nat} {k0 : Nat} {k1 : Nat} {M : m_M} {M0 : m_M} (hk0 : m_isLaw k0) (hk1 : m_isLaw k1) (hres : f_X4_takeAll n k0 k1 M = some M0) : Met l yX4_takeAll (m_U yX4_takeAll cX4_takeAll 2 none) (m_R 122 2826) (m_Pc G [.ref (m_ad G k0), .ref (m_ad G k1)] M) (m_Qv G M0) 0 0 (m_A G) := by
  refine m_i0 (n := 2) RX4 rfl (by decide) (Nat.le_of_ble_eq_true rfl) ?_
  intro p e s m args below meth c X hr hlk hSt hP hS ls hl
  have hl : lv_has ls 2 [(0, .ref (m_ad G k0)), (1, .ref (m_ad G k1))] := hl
  unfold f_X4_takeAll at hres
  refine lv_aload_n X.1 X.2.1 dX4_takeAll_0 rfl (lv_at hl 1 rfl) ?_
  refine m_g4 (v := .ref (m_ad G (k1 + 1))) X hSt hP hk1.1 0 (by decide) rfl k_f_X4_9 dX4_takeAll_1 ?_
  refine lv_iconst (v := 0) X.1 X.2.1 dX4_takeAll_4 (by decide) ?_
  refine lv_aload_n X.1 X.2.1 dX4_takeAll_5 rfl (lv_at hl 0 rfl) ?_
  refine m_g4 (v := .ref (m_ad G (k0 + 1))) X hSt hP hk0.1 0 (by decide) rfl k_f_X4_9 dX4_takeAll_6 ?_
  refine lv_iconst (v := 0) X.1 X.2.1 dX4_takeAll_9 (by decide) ?_
  refine lv_bipush (v := 50) X.1 X.2.1 dX4_takeAll_10 (by decide) ?_
  obtain ⟨M1, eM1, hres⟩ := m_bd_e hres
  refine m_cp (n := 50) (sp := 0) (dp := 0) (a := 0) (b := 0) (q := 50) X hSt hP hS hl.1 k_m_X4_35 k_v_arraycopyName k_t_arraycopyName k_n_J10 hk1.2.1 hk0.2.1 (by decide) (by decide) (by decide) (by decide +kernel) (by decide +kernel) (by decide +kernel) (Nat.le_of_ble_eq_true rfl) (Nat.le_of_ble_eq_true rfl) (Nat.le_of_ble_eq_true rfl) (Nat.le_of_ble_eq_true rfl) dX4_takeAll_12 eM1 (fun H locs hP hS => ?_)
  refine lv_aload_n X.1 X.2.1 dX4_takeAll_15 rfl (lv_at hl 0 rfl) ?_
  refine lv_aload_n X.1 X.2.1 dX4_takeAll_16 rfl (lv_at hl 1 rfl) ?_
  refine m_g4 (v := .int (M1.1 k1 1)) X hSt hP hk1.1 1 (by decide) rfl k_f_X4_29 dX4_takeAll_17 ?_
  obtain ⟨M2, eM2, hres⟩ := m_bd_e hres
  refine m_pi4 X hSt hP hS hk0.1 1 (by decide) eM2 rfl rfl (by decide) k_f_X4_29 dX4_takeAll_20 (fun H locs hP hS => ?_)
  refine lv_aload_n X.1 X.2.1 dX4_takeAll_23 rfl (lv_at hl 0 rfl) ?_
  obtain ⟨M3, eM3, hres⟩ := m_ob_e hres
  refine m_bv (m_cV (n := 0) (As := []) (rest := []) X hSt hP hS hl.1 (c_X4_parse l G hk0 eM3) k_c_yX4_parse k_m_X4_32 k_i_yX4_parse k_s_yX4_parse k_n_X4 (by decide +kernel) (m_rc4 hSt hP hk0.1) rfl rfl ⟨Nat.le_of_ble_eq_true rfl, Nat.le_of_ble_eq_true rfl⟩ (Nat.le_of_ble_eq_true rfl) ⟨Nat.zero_le _, Nat.zero_le _⟩ dX4_takeAll_24) hS (fun H locs hP hS => ?_)
  exact m_rv X hr hlk hP hS (Option.some.inj hres) dX4_takeAll_27
theorem dX3_takeAll_0 : decode cX3_takeAll 0 = .ok (.aload_n 0, 1) := by decide +kernel
theorem dX3_takeAll_1 : decode cX3_takeAll 1 = .ok (.aload_n 1, 1) := by decide +kernel
theorem dX3_takeAll_2 : decode cX3_takeAll 2 = .ok (.getfield 25, 3) := by decide +kernel
theorem dX3_takeAll_5 : decode cX3_takeAll 5 = .ok (.putfield 25, 3) := by decide +kernel
theorem dX3_takeAll_8 : decode cX3_takeAll 8 = .ok (.aload_n 0, 1) := by decide +kernel
theorem dX3_takeAll_9 : decode cX3_takeAll 9 = .ok (.aload_n 1, 1) := by decide +kernel
theorem dX3_takeAll_10 : decode cX3_takeAll 10 = .ok (.getfield 29, 3) := by decide +kernel
theorem dX3_takeAll_13 : decode cX3_takeAll 13 = .ok (.putfield 29, 3) := by decide +kernel
theorem dX3_takeAll_16 : decode cX3_takeAll 16 = .ok (.aload_n 0, 1) := by decide +kernel
theorem dX3_takeAll_17 : decode cX3_takeAll 17 = .ok (.aload_n 1, 1) := by decide +kernel
theorem dX3_takeAll_18 : decode cX3_takeAll 18 = .ok (.getfield 32, 3) := by decide +kernel
theorem dX3_takeAll_21 : decode cX3_takeAll 21 = .ok (.putfield 32, 3) := by decide +kernel
theorem dX3_takeAll_24 : decode cX3_takeAll 24 = .ok (.aload_n 0, 1) := by decide +kernel
theorem dX3_takeAll_25 : decode cX3_takeAll 25 = .ok (.aload_n 1, 1) := by decide +kernel
theorem dX3_takeAll_26 : decode cX3_takeAll 26 = .ok (.getfield 35, 3) := by decide +kernel
theorem dX3_takeAll_29 : decode cX3_takeAll 29 = .ok (.putfield 35, 3) := by decide +kernel
theorem dX3_takeAll_32 : decode cX3_takeAll 32 = .ok (.aload_n 0, 1) := by decide +kernel
theorem dX3_takeAll_33 : decode cX3_takeAll 33 = .ok (.aload_n 1, 1) := by decide +kernel
theorem dX3_takeAll_34 : decode cX3_takeAll 34 = .ok (.getfield 38, 3) := by decide +kernel
theorem dX3_takeAll_37 : decode cX3_takeAll 37 = .ok (.putfield 38, 3) := by decide +kernel
theorem dX3_takeAll_40 : decode cX3_takeAll 40 = .ok (.aload_n 1, 1) := by decide +kernel
theorem dX3_takeAll_41 : decode cX3_takeAll 41 = .ok (.getfield 9, 3) := by decide +kernel
theorem dX3_takeAll_44 : decode cX3_takeAll 44 = .ok (.iconst 0, 1) := by decide +kernel
theorem dX3_takeAll_45 : decode cX3_takeAll 45 = .ok (.aload_n 0, 1) := by decide +kernel
theorem dX3_takeAll_46 : decode cX3_takeAll 46 = .ok (.getfield 9, 3) := by decide +kernel
theorem dX3_takeAll_49 : decode cX3_takeAll 49 = .ok (.iconst 0, 1) := by decide +kernel
theorem dX3_takeAll_50 : decode cX3_takeAll 50 = .ok (.sipush 360, 3) := by decide +kernel
theorem dX3_takeAll_53 : decode cX3_takeAll 53 = .ok (.invokestatic 41, 3) := by decide +kernel
theorem dX3_takeAll_56 : decode cX3_takeAll 56 = .ok (.aload_n 1, 1) := by decide +kernel
theorem dX3_takeAll_57 : decode cX3_takeAll 57 = .ok (.getfield 15, 3) := by decide +kernel
theorem dX3_takeAll_60 : decode cX3_takeAll 60 = .ok (.iconst 0, 1) := by decide +kernel
theorem dX3_takeAll_61 : decode cX3_takeAll 61 = .ok (.aload_n 0, 1) := by decide +kernel
theorem dX3_takeAll_62 : decode cX3_takeAll 62 = .ok (.getfield 15, 3) := by decide +kernel
theorem dX3_takeAll_65 : decode cX3_takeAll 65 = .ok (.iconst 0, 1) := by decide +kernel
theorem dX3_takeAll_66 : decode cX3_takeAll 66 = .ok (.bipush 6, 2) := by decide +kernel
theorem dX3_takeAll_68 : decode cX3_takeAll 68 = .ok (.invokestatic 41, 3) := by decide +kernel
theorem dX3_takeAll_71 : decode cX3_takeAll 71 = .ok (.iconst 0, 1) := by decide +kernel
theorem dX3_takeAll_72 : decode cX3_takeAll 72 = .ok (.istore_n 2, 1) := by decide +kernel
theorem dX3_takeAll_73 : decode cX3_takeAll 73 = .ok (.iload_n 2, 1) := by decide +kernel
theorem dX3_takeAll_74 : decode cX3_takeAll 74 = .ok (.iconst 2, 1) := by decide +kernel
theorem dX3_takeAll_75 : decode cX3_takeAll 75 = .ok (.if_icmp .ge 24, 3) := by decide +kernel
theorem dX3_takeAll_78 : decode cX3_takeAll 78 = .ok (.aload_n 0, 1) := by decide +kernel
theorem dX3_takeAll_79 : decode cX3_takeAll 79 = .ok (.getfield 21, 3) := by decide +kernel
theorem dX3_takeAll_82 : decode cX3_takeAll 82 = .ok (.iload_n 2, 1) := by decide +kernel
theorem dX3_takeAll_83 : decode cX3_takeAll 83 = .ok (.aaload, 1) := by decide +kernel
theorem dX3_takeAll_84 : decode cX3_takeAll 84 = .ok (.aload_n 1, 1) := by decide +kernel
theorem dX3_takeAll_85 : decode cX3_takeAll 85 = .ok (.getfield 21, 3) := by decide +kernel
theorem dX3_takeAll_88 : decode cX3_takeAll 88 = .ok (.iload_n 2, 1) := by decide +kernel
theorem dX3_takeAll_89 : decode cX3_takeAll 89 = .ok (.aaload, 1) := by decide +kernel
theorem dX3_takeAll_90 : decode cX3_takeAll 90 = .ok (.invokevirtual 47, 3) := by decide +kernel
theorem dX3_takeAll_93 : decode cX3_takeAll 93 = .ok (.iinc 2 1, 3) := by decide +kernel
theorem dX3_takeAll_96 : decode cX3_takeAll 96 = .ok (.goto (-23), 3) := by decide +kernel
theorem dX3_takeAll_99 : decode cX3_takeAll 99 = .ok (.return_, 1) := by decide +kernel
def f_X3_takeAll_b73 (n : Nat) (k0 : Nat) (k1 : Nat) : Nat → Int32 → m_M → Option m_M
  | 0, _, _ => none
  | u + 1, x2, M =>
    if (2 : Int32) ≤ x2 then
  some M
  else
  m_gd (m_in x2 2) (
  m_ob (f_X4_takeAll n ((k0 + 3) + 1 + 5 * x2.toNatClampNeg) ((k1 + 3) + 1 + 5 * x2.toNatClampNeg) M) fun M3 =>
  f_X3_takeAll_b73 n k0 k1 u (x2 + 1) M3)
def f_X3_takeAll (n : Nat) (k0 : Nat) (k1 : Nat) (M : m_M) : Option m_M :=
  m_bd (m_sI M k0 0 (M.1 k1 0)) fun M4 =>
  m_bd (m_sI M4 k0 1 (M4.1 k1 1)) fun M5 =>
  m_bd (m_sI M5 k0 2 (M5.1 k1 2)) fun M6 =>
  m_bd (m_sI M6 k0 3 (M6.1 k1 3)) fun M7 =>
  m_bd (m_sI M7 k0 4 (M7.1 k1 4)) fun M8 =>
  m_bd (m_sC M8 (k0 + 1) (va_cpy (M8.1 (k1 + 1)) (M8.1 (k0 + 1)) 0 0 360)) fun M9 =>
  m_bd (m_sC M9 (k0 + 2) (va_cpy (M9.1 (k1 + 2)) (M9.1 (k0 + 2)) 0 0 6)) fun M10 =>
  f_X3_takeAll_b73 n k0 k1 n 0 M10
set_option maxHeartbeats 4000000 in
set_option maxRecDepth 100000 in
theorem c_X3_takeAll (l : Launch) (G : m_G) {n : Nat} {k0 : Nat} {k1 : Nat} {M : m_M} {M0 : m_M} (hk0 : m_isKept k0) (hk1 : m_isKept k1) (hres : f_X3_takeAll n k0 k1 M = some M0) : Met l yX3_takeAll (m_U yX3_takeAll cX3_takeAll 3 none) (m_R 123 2847) (m_Pc G [.ref (m_ad G k0), .ref (m_ad G k1)] M) (m_Qv G M0) 0 0 (m_A G) := by
  refine m_i0 (n := 3) RX3 rfl (by decide) (Nat.le_of_ble_eq_true rfl) ?_
  intro p e s m args below meth c X hr hlk hSt hP hS ls hl
  have hl : lv_has ls 3 [(0, .ref (m_ad G k0)), (1, .ref (m_ad G k1))] := hl
  have B73 : ∀ (u : Nat) (x2 : Int32) (M : m_M) (H : Heap) (locs : List Loc) (ls : Array Slot), m_P G M H → va_S (m_A G) s.heap H locs → lv_has ls 3 [(0, .ref (m_ad G k0)), (1, .ref (m_ad G k1)), (2, .int x2)] → f_X3_takeAll_b73 n k0 k1 u x2 M = some M0 → W p l e (m_R 123 2847) s m args below meth c H locs 0 0 (MQ below (m_Qv G M0) args s 0 0 (m_A G)) (F0 m 73 ls []) := by
    intro u
    induction u with
    | zero =>
      intro x2 M H locs ls hP hS hl hres
      cases hres
    | succ u ih =>
      intro x2 M H locs ls hP hS hl hres
      rw [f_X3_takeAll_b73] at hres
      refine lv_iload_n X.1 X.2.1 dX3_takeAll_73 rfl (lv_at hl 2 rfl) ?_
      refine lv_iconst (v := 2) X.1 X.2.1 dX3_takeAll_74 (by decide) ?_
      refine lv_icmp_ge (tgt := 99) X.1 X.2.1 dX3_takeAll_75 (by decide) (fun hc1 => ?_) (fun hc1 => ?_)
      · have hres := m_it hres hc1
        exact m_rv X hr hlk hP hS (Option.some.inj hres) dX3_takeAll_99
      · have hres := m_if hres hc1
        refine lv_aload_n X.1 X.2.1 dX3_takeAll_78 rfl (lv_at hl 0 rfl) ?_
        refine m_g3 (v := .ref (m_ad G (k0 + 3))) X hSt hP hk0.1 7 (by decide) rfl k_f_X3_21 dX3_takeAll_79 ?_
        refine lv_iload_n X.1 X.2.1 dX3_takeAll_82 rfl (lv_at hl 2 rfl) ?_
        obtain ⟨hg2, hres⟩ := m_gd_e hres
        refine m_qa5 (j := x2.toNatClampNeg) X hSt hP hk0.2.2.2.1 hg2 rfl dX3_takeAll_83 ?_
        refine lv_aload_n X.1 X.2.1 dX3_takeAll_84 rfl (lv_at hl 1 rfl) ?_
        refine m_g3 (v := .ref (m_ad G (k1 + 3))) X hSt hP hk1.1 7 (by decide) rfl k_f_X3_21 dX3_takeAll_85 ?_
        refine lv_iload_n X.1 X.2.1 dX3_takeAll_88 rfl (lv_at hl 2 rfl) ?_
        refine m_qa5 (j := x2.toNatClampNeg) X hSt hP hk1.2.2.2.1 hg2 rfl dX3_takeAll_89 ?_
        obtain ⟨M3, eM3, hres⟩ := m_ob_e hres
        refine m_bv (m_cV (n := 1) (As := [.ref (m_ad G ((k1 + 3) + 1 + 5 * x2.toNatClampNeg))]) (rest := []) X hSt hP hS hl.1 (c_X4_takeAll l G (m_law_of hk0 hg2) (m_law_of hk1 hg2) eM3) k_c_yX4_takeAll k_m_X3_47 k_i_yX4_takeAll k_s_yX4_takeAll k_n_X4 (by decide +kernel) (m_rc4 hSt hP (m_law_of hk0 hg2).1) rfl rfl ⟨Nat.le_of_ble_eq_true rfl, Nat.le_of_ble_eq_true rfl⟩ (Nat.le_of_ble_eq_true rfl) ⟨Nat.zero_le _, Nat.zero_le _⟩ dX3_takeAll_90) hS (fun H locs hP hS => ?_)
        refine lv_iinc (v := (x2 + 1)) (lv' := [(2, .int (x2 + 1)), (0, .ref (m_ad G k0)), (1, .ref (m_ad G k1))]) X.1 X.2.1 dX3_takeAll_93 hl (k := 2) rfl rfl (by decide) rfl (fun ls hl => ?_)
        refine lv_goto (tgt := 73) X.1 X.2.1 dX3_takeAll_96 (by decide) ?_
        exact ih (x2 + 1) M3 _ _ _ hP hS (lv_sub hl [1, 2, 0] rfl) hres
  unfold f_X3_takeAll at hres
  refine lv_aload_n X.1 X.2.1 dX3_takeAll_0 rfl (lv_at hl 0 rfl) ?_
  refine lv_aload_n X.1 X.2.1 dX3_takeAll_1 rfl (lv_at hl 1 rfl) ?_
  refine m_g3 (v := .int (M.1 k1 0)) X hSt hP hk1.1 0 (by decide) rfl k_f_X3_25 dX3_takeAll_2 ?_
  obtain ⟨M4, eM4, hres⟩ := m_bd_e hres
  refine m_pi3 X hSt hP hS hk0.1 0 (by decide) eM4 rfl rfl (by decide) k_f_X3_25 dX3_takeAll_5 (fun H locs hP hS => ?_)
  refine lv_aload_n X.1 X.2.1 dX3_takeAll_8 rfl (lv_at hl 0 rfl) ?_
  refine lv_aload_n X.1 X.2.1 dX3_takeAll_9 rfl (lv_at hl 1 rfl) ?_
  refine m_g3 (v := .int (M4.1 k1 1)) X hSt hP hk1.1 1 (by decide) rfl k_f_X3_29 dX3_takeAll_10 ?_
  obtain ⟨M5, eM5, hres⟩ := m_bd_e hres
  refine m_pi3 X hSt hP hS hk0.1 1 (by decide) eM5 rfl rfl (by decide) k_f_X3_29 dX3_takeAll_13 (fun H locs hP hS => ?_)
  refine lv_aload_n X.1 X.2.1 dX3_takeAll_16 rfl (lv_at hl 0 rfl) ?_
  refine lv_aload_n X.1 X.2.1 dX3_takeAll_17 rfl (lv_at hl 1 rfl) ?_
  refine m_g3 (v := .int (M5.1 k1 2)) X hSt hP hk1.1 2 (by decide) rfl k_f_X3_32 dX3_takeAll_18 ?_
  obtain ⟨M6, eM6, hres⟩ := m_bd_e hres
  refine m_pi3 X hSt hP hS hk0.1 2 (by decide) eM6 rfl rfl (by decide) k_f_X3_32 dX3_takeAll_21 (fun H locs hP hS => ?_)
  refine lv_aload_n X.1 X.2.1 dX3_takeAll_24 rfl (lv_at hl 0 rfl) ?_
  refine lv_aload_n X.1 X.2.1 dX3_takeAll_25 rfl (lv_at hl 1 rfl) ?_
  refine m_g3 (v := .int (M6.1 k1 3)) X hSt hP hk1.1 3 (by decide) rfl k_f_X3_35 dX3_takeAll_26 ?_
  obtain ⟨M7, eM7, hres⟩ := m_bd_e hres
  refine m_pi3 X hSt hP hS hk0.1 3 (by decide) eM7 rfl rfl (by decide) k_f_X3_35 dX3_takeAll_29 (fun H locs hP hS => ?_)
  refine lv_aload_n X.1 X.2.1 dX3_takeAll_32 rfl (lv_at hl 0 rfl) ?_
  refine lv_aload_n X.1 X.2.1 dX3_takeAll_33 rfl (lv_at hl 1 rfl) ?_
  refine m_g3 (v := .int (M7.1 k1 4)) X hSt hP hk1.1 4 (by decide) rfl k_f_X3_38 dX3_takeAll_34 ?_
  obtain ⟨M8, eM8, hres⟩ := m_bd_e hres
  refine m_pi3 X hSt hP hS hk0.1 4 (by decide) eM8 rfl rfl (by decide) k_f_X3_38 dX3_takeAll_37 (fun H locs hP hS => ?_)
  refine lv_aload_n X.1 X.2.1 dX3_takeAll_40 rfl (lv_at hl 1 rfl) ?_
  refine m_g3 (v := .ref (m_ad G (k1 + 1))) X hSt hP hk1.1 5 (by decide) rfl k_f_X3_9 dX3_takeAll_41 ?_
  refine lv_iconst (v := 0) X.1 X.2.1 dX3_takeAll_44 (by decide) ?_
  refine lv_aload_n X.1 X.2.1 dX3_takeAll_45 rfl (lv_at hl 0 rfl) ?_
  refine m_g3 (v := .ref (m_ad G (k0 + 1))) X hSt hP hk0.1 5 (by decide) rfl k_f_X3_9 dX3_takeAll_46 ?_
  refine lv_iconst (v := 0) X.1 X.2.1 dX3_takeAll_49 (by decide) ?_
  refine lv_sipush (v := 360) X.1 X.2.1 dX3_takeAll_50 (by decide) ?_
  obtain ⟨M9, eM9, hres⟩ := m_bd_e hres
  refine m_cp (n := 360) (sp := 0) (dp := 0) (a := 0) (b := 0) (q := 360) X hSt hP hS hl.1 k_m_X3_41 k_v_arraycopyName k_t_arraycopyName k_n_J10 hk1.2.1 hk0.2.1 (by decide) (by decide) (by decide) (by decide +kernel) (by decide +kernel) (by decide +kernel) (Nat.le_of_ble_eq_true rfl) (Nat.le_of_ble_eq_true rfl) (Nat.le_of_ble_eq_true rfl) (Nat.le_of_ble_eq_true rfl) dX3_takeAll_53 eM9 (fun H locs hP hS => ?_)
  refine lv_aload_n X.1 X.2.1 dX3_takeAll_56 rfl (lv_at hl 1 rfl) ?_
  refine m_g3 (v := .ref (m_ad G (k1 + 2))) X hSt hP hk1.1 6 (by decide) rfl k_f_X3_15 dX3_takeAll_57 ?_
  refine lv_iconst (v := 0) X.1 X.2.1 dX3_takeAll_60 (by decide) ?_
  refine lv_aload_n X.1 X.2.1 dX3_takeAll_61 rfl (lv_at hl 0 rfl) ?_
  refine m_g3 (v := .ref (m_ad G (k0 + 2))) X hSt hP hk0.1 6 (by decide) rfl k_f_X3_15 dX3_takeAll_62 ?_
  refine lv_iconst (v := 0) X.1 X.2.1 dX3_takeAll_65 (by decide) ?_
  refine lv_bipush (v := 6) X.1 X.2.1 dX3_takeAll_66 (by decide) ?_
  obtain ⟨M10, eM10, hres⟩ := m_bd_e hres
  refine m_cp (n := 6) (sp := 0) (dp := 0) (a := 0) (b := 0) (q := 6) X hSt hP hS hl.1 k_m_X3_41 k_v_arraycopyName k_t_arraycopyName k_n_J10 hk1.2.2.1 hk0.2.2.1 (by decide) (by decide) (by decide) (by decide +kernel) (by decide +kernel) (by decide +kernel) (Nat.le_of_ble_eq_true rfl) (Nat.le_of_ble_eq_true rfl) (Nat.le_of_ble_eq_true rfl) (Nat.le_of_ble_eq_true rfl) dX3_takeAll_68 eM10 (fun H locs hP hS => ?_)
  refine lv_iconst (v := 0) X.1 X.2.1 dX3_takeAll_71 (by decide) ?_
  refine lv_istore_n (lv' := [(2, .int 0), (0, .ref (m_ad G k0)), (1, .ref (m_ad G k1))]) X.1 X.2.1 dX3_takeAll_72 rfl hl (by decide) rfl (fun ls hl => ?_)
  exact B73 n 0 M10 _ _ _ hP hS (lv_sub hl [1, 2, 0] rfl) hres
theorem dX7_from_0 : decode cX7_from 0 = .ok (.iload_n 1, 1) := by decide +kernel
theorem dX7_from_1 : decode cX7_from 1 = .ok (.ifCond .lt 8, 3) := by decide +kernel
theorem dX7_from_4 : decode cX7_from 4 = .ok (.iload_n 1, 1) := by decide +kernel
theorem dX7_from_5 : decode cX7_from 5 = .ok (.iconst 2, 1) := by decide +kernel
theorem dX7_from_6 : decode cX7_from 6 = .ok (.if_icmp .lt 6, 3) := by decide +kernel
theorem dX7_from_9 : decode cX7_from 9 = .ok (.bipush (-2), 2) := by decide +kernel
theorem dX7_from_11 : decode cX7_from 11 = .ok (.ireturn, 1) := by decide +kernel
theorem dX7_from_12 : decode cX7_from 12 = .ok (.aload_n 0, 1) := by decide +kernel
theorem dX7_from_13 : decode cX7_from 13 = .ok (.getfield 20, 3) := by decide +kernel
theorem dX7_from_16 : decode cX7_from 16 = .ok (.iload_n 1, 1) := by decide +kernel
theorem dX7_from_17 : decode cX7_from 17 = .ok (.baload, 1) := by decide +kernel
theorem dX7_from_18 : decode cX7_from 18 = .ok (.ifCond .ne 6, 3) := by decide +kernel
theorem dX7_from_21 : decode cX7_from 21 = .ok (.bipush (-3), 2) := by decide +kernel
theorem dX7_from_23 : decode cX7_from 23 = .ok (.ireturn, 1) := by decide +kernel
theorem dX7_from_24 : decode cX7_from 24 = .ok (.aload_n 0, 1) := by decide +kernel
theorem dX7_from_25 : decode cX7_from 25 = .ok (.getfield 10, 3) := by decide +kernel
theorem dX7_from_28 : decode cX7_from 28 = .ok (.aload_n 0, 1) := by decide +kernel
theorem dX7_from_29 : decode cX7_from 29 = .ok (.getfield 16, 3) := by decide +kernel
theorem dX7_from_32 : decode cX7_from 32 = .ok (.iload_n 1, 1) := by decide +kernel
theorem dX7_from_33 : decode cX7_from 33 = .ok (.aaload, 1) := by decide +kernel
theorem dX7_from_34 : decode cX7_from 34 = .ok (.invokevirtual 273, 3) := by decide +kernel
theorem dX7_from_37 : decode cX7_from 37 = .ok (.iconst 1, 1) := by decide +kernel
theorem dX7_from_38 : decode cX7_from 38 = .ok (.ireturn, 1) := by decide +kernel
def f_X7_from (n : Nat) (x1 : Int32) (M : m_M) : Option (Int32 × m_M) :=
  if x1 < 0 then
  some ((-2), M)
  else
  if x1 < 2 then
  m_gd (m_in x1 2) (
  if (M.1 44 x1.toNatClampNeg) = 0 then
  some ((-3), M)
  else
  m_ob (f_X3_takeAll n 1 (16 + 14 * x1.toNatClampNeg) M) fun M5 =>
  some (1, M5))
  else
  some ((-2), M)
set_option maxHeartbeats 4000000 in
set_option maxRecDepth 100000 in
theorem c_X7_from (l : Launch) (G : m_G) {n : Nat} {x1 : Int32} {M : m_M} {r0 : Int32} {M0 : m_M}  (hres : f_X7_from n x1 M = some (r0, M0)) : Met l yX7_from (m_U yX7_from cX7_from 2 (some .int)) (m_R 124 2869) (m_Pc G [.ref (m_ad G 0), .int x1] M) (m_Qi G r0 M0) 0 0 (m_A G) := by
  refine m_i0 (n := 2) RX7 rfl (by decide) (Nat.le_of_ble_eq_true rfl) ?_
  intro p e s m args below meth c X hr hlk hSt hP hS ls hl
  have hl : lv_has ls 2 [(0, .ref (m_ad G 0)), (1, .int x1)] := hl
  unfold f_X7_from at hres
  refine lv_iload_n X.1 X.2.1 dX7_from_0 rfl (lv_at hl 1 rfl) ?_
  refine lv_if_lt (tgt := 9) X.1 X.2.1 dX7_from_1 (by decide) (fun hc1 => ?_) (fun hc1 => ?_)
  · have hres := m_it hres hc1
    refine lv_bipush (v := (-2)) X.1 X.2.1 dX7_from_9 (by decide) ?_
    exact m_ri X hr hlk hP hS (Prod.mk.inj (Option.some.inj hres)).1 (Prod.mk.inj (Option.some.inj hres)).2 dX7_from_11
  · have hres := m_if hres hc1
    refine lv_iload_n X.1 X.2.1 dX7_from_4 rfl (lv_at hl 1 rfl) ?_
    refine lv_iconst (v := 2) X.1 X.2.1 dX7_from_5 (by decide) ?_
    refine lv_icmp_lt (tgt := 12) X.1 X.2.1 dX7_from_6 (by decide) (fun hc2 => ?_) (fun hc2 => ?_)
    · have hres := m_it hres hc2
      refine lv_aload_n X.1 X.2.1 dX7_from_12 rfl (lv_at hl 0 rfl) ?_
      refine m_g7 (v := .ref (m_ad G 44)) X hSt hP m_z_0 2 (by decide) rfl k_f_X7_20 dX7_from_13 ?_
      refine lv_iload_n X.1 X.2.1 dX7_from_16 rfl (lv_at hl 1 rfl) ?_
      obtain ⟨hg3, hres⟩ := m_gd_e hres
      refine m_za (j := x1.toNatClampNeg) X hSt hP m_z_44 hg3 rfl dX7_from_17 ?_
      refine lv_if_ne (tgt := 24) X.1 X.2.1 dX7_from_18 (by decide) (fun hc4 => ?_) (fun hc4 => ?_)
      · have hres := m_if hres hc4
        refine lv_aload_n X.1 X.2.1 dX7_from_24 rfl (lv_at hl 0 rfl) ?_
        refine m_g7 (v := .ref (m_ad G 1)) X hSt hP m_z_0 0 (by decide) rfl k_f_X7_10 dX7_from_25 ?_
        refine lv_aload_n X.1 X.2.1 dX7_from_28 rfl (lv_at hl 0 rfl) ?_
        refine m_g7 (v := .ref (m_ad G 15)) X hSt hP m_z_0 1 (by decide) rfl k_f_X7_16 dX7_from_29 ?_
        refine lv_iload_n X.1 X.2.1 dX7_from_32 rfl (lv_at hl 1 rfl) ?_
        refine m_qa4 (j := x1.toNatClampNeg) X hSt hP m_z_15 hg3 rfl dX7_from_33 ?_
        obtain ⟨M5, eM5, hres⟩ := m_ob_e hres
        refine m_bv (m_cV (n := 1) (As := [.ref (m_ad G (16 + 14 * x1.toNatClampNeg))]) (rest := []) X hSt hP hS hl.1 (c_X3_takeAll l G m_kept_0 (m_kept_of hg3) eM5) k_c_yX3_takeAll k_m_X7_273 k_i_yX3_takeAll k_s_yX3_takeAll k_n_X3 (by decide +kernel) (m_rc3 hSt hP m_kept_0.1) rfl rfl ⟨Nat.le_of_ble_eq_true rfl, Nat.le_of_ble_eq_true rfl⟩ (Nat.le_of_ble_eq_true rfl) ⟨Nat.zero_le _, Nat.zero_le _⟩ dX7_from_34) hS (fun H locs hP hS => ?_)
        refine lv_iconst (v := 1) X.1 X.2.1 dX7_from_37 (by decide) ?_
        exact m_ri X hr hlk hP hS (Prod.mk.inj (Option.some.inj hres)).1 (Prod.mk.inj (Option.some.inj hres)).2 dX7_from_38
      · have hres := m_it hres hc4
        refine lv_bipush (v := (-3)) X.1 X.2.1 dX7_from_21 (by decide) ?_
        exact m_ri X hr hlk hP hS (Prod.mk.inj (Option.some.inj hres)).1 (Prod.mk.inj (Option.some.inj hres)).2 dX7_from_23
    · have hres := m_if hres hc2
      refine lv_bipush (v := (-2)) X.1 X.2.1 dX7_from_9 (by decide) ?_
      exact m_ri X hr hlk hP hS (Prod.mk.inj (Option.some.inj hres)).1 (Prod.mk.inj (Option.some.inj hres)).2 dX7_from_11
theorem dX7_isTooEarly_0 : decode cX7_isTooEarly 0 = .ok (.aload_n 0, 1) := by decide +kernel
theorem dX7_isTooEarly_1 : decode cX7_isTooEarly 1 = .ok (.getfield 29, 3) := by decide +kernel
theorem dX7_isTooEarly_4 : decode cX7_isTooEarly 4 = .ok (.iload_n 2, 1) := by decide +kernel
theorem dX7_isTooEarly_5 : decode cX7_isTooEarly 5 = .ok (.iconst 0, 1) := by decide +kernel
theorem dX7_isTooEarly_6 : decode cX7_isTooEarly 6 = .ok (.invokevirtual 148, 3) := by decide +kernel
theorem dX7_isTooEarly_9 : decode cX7_isTooEarly 9 = .ok (.aload_n 0, 1) := by decide +kernel
theorem dX7_isTooEarly_10 : decode cX7_isTooEarly 10 = .ok (.getfield 29, 3) := by decide +kernel
theorem dX7_isTooEarly_13 : decode cX7_isTooEarly 13 = .ok (.iload_n 1, 1) := by decide +kernel
theorem dX7_isTooEarly_14 : decode cX7_isTooEarly 14 = .ok (.invokevirtual 187, 3) := by decide +kernel
theorem dX7_isTooEarly_17 : decode cX7_isTooEarly 17 = .ok (.ifCond .ne 7, 3) := by decide +kernel
theorem dX7_isTooEarly_20 : decode cX7_isTooEarly 20 = .ok (.iconst 1, 1) := by decide +kernel
theorem dX7_isTooEarly_21 : decode cX7_isTooEarly 21 = .ok (.goto 4, 3) := by decide +kernel
theorem dX7_isTooEarly_24 : decode cX7_isTooEarly 24 = .ok (.iconst 0, 1) := by decide +kernel
theorem dX7_isTooEarly_25 : decode cX7_isTooEarly 25 = .ok (.ireturn, 1) := by decide +kernel
def f_X7_isTooEarly (n : Nat) (x1 : Int32) (x2 : Int32) (M : m_M) : Option (Int32 × m_M) :=
  m_ob (f_X1_replay n x2 0 M) fun M1 =>
  m_bd (f_X1_isThere x1 M1) fun r2 =>
  if r2 = 0 then
  some (1, M1)
  else
  some (0, M1)
set_option maxHeartbeats 4000000 in
set_option maxRecDepth 100000 in
theorem c_X7_isTooEarly (l : Launch) (G : m_G) {n : Nat} {x1 : Int32} {x2 : Int32} {M : m_M} {r0 : Int32} {M0 : m_M}  (hres : f_X7_isTooEarly n x1 x2 M = some (r0, M0)) : Met l yX7_isTooEarly (m_U yX7_isTooEarly cX7_isTooEarly 3 (some .boolean)) (m_R 6 135) (m_Pc G [.ref (m_ad G 0), .int x1, .int x2] M) (m_Qz G r0 M0) 0 0 (m_A G) := by
  refine m_i0 (n := 3) RX7 rfl (by decide) (Nat.le_of_ble_eq_true rfl) ?_
  intro p e s m args below meth c X hr hlk hSt hP hS ls hl
  have hl : lv_has ls 3 [(0, .ref (m_ad G 0)), (1, .int x1), (2, .int x2)] := hl
  unfold f_X7_isTooEarly at hres
  refine lv_aload_n X.1 X.2.1 dX7_isTooEarly_0 rfl (lv_at hl 0 rfl) ?_
  refine m_g7 (v := .ref (m_ad G 45)) X hSt hP m_z_0 3 (by decide) rfl k_f_X7_29 dX7_isTooEarly_1 ?_
  refine lv_iload_n X.1 X.2.1 dX7_isTooEarly_4 rfl (lv_at hl 2 rfl) ?_
  refine lv_iconst (v := 0) X.1 X.2.1 dX7_isTooEarly_5 (by decide) ?_
  obtain ⟨M1, eM1, hres⟩ := m_ob_e hres
  refine m_bv (m_cV (n := 2) (As := [.int x2, .int 0]) (rest := []) X hSt hP hS hl.1 (c_X1_replay l G  eM1) k_c_yX1_replay k_m_X7_148 k_i_yX1_replay k_s_yX1_replay k_n_X1 (by decide +kernel) (m_rc1 hSt hP m_z_45) rfl rfl ⟨Nat.le_of_ble_eq_true rfl, Nat.le_of_ble_eq_true rfl⟩ (Nat.le_of_ble_eq_true rfl) ⟨Nat.zero_le _, Nat.zero_le _⟩ dX7_isTooEarly_6) hS (fun H locs hP hS => ?_)
  refine lv_aload_n X.1 X.2.1 dX7_isTooEarly_9 rfl (lv_at hl 0 rfl) ?_
  refine m_g7 (v := .ref (m_ad G 45)) X hSt hP m_z_0 3 (by decide) rfl k_f_X7_29 dX7_isTooEarly_10 ?_
  refine lv_iload_n X.1 X.2.1 dX7_isTooEarly_13 rfl (lv_at hl 1 rfl) ?_
  obtain ⟨r2, err2, hres⟩ := m_bd_e hres
  refine m_bz (m_cV (n := 1) (As := [.int x1]) (rest := []) X hSt hP hS hl.1 (c_X1_isThere l G  err2) k_c_yX1_isThere k_m_X7_187 k_i_yX1_isThere k_s_yX1_isThere k_n_X1 (by decide +kernel) (m_rc1 hSt hP m_z_45) rfl rfl ⟨Nat.le_of_ble_eq_true rfl, Nat.le_of_ble_eq_true rfl⟩ (Nat.le_of_ble_eq_true rfl) ⟨Nat.zero_le _, Nat.zero_le _⟩ dX7_isTooEarly_14) hS (fun H locs hP hS hz3 => ?_)
  refine lv_if_ne (tgt := 24) X.1 X.2.1 dX7_isTooEarly_17 (by decide) (fun hc4 => ?_) (fun hc4 => ?_)
  · have hres := m_if hres hc4
    refine lv_iconst (v := 0) X.1 X.2.1 dX7_isTooEarly_24 (by decide) ?_
    exact m_rz X hr hlk hP hS (Prod.mk.inj (Option.some.inj hres)).1 (Prod.mk.inj (Option.some.inj hres)).2 (by decide) dX7_isTooEarly_25
  · have hres := m_it hres hc4
    refine lv_iconst (v := 1) X.1 X.2.1 dX7_isTooEarly_20 (by decide) ?_
    refine lv_goto (tgt := 25) X.1 X.2.1 dX7_isTooEarly_21 (by decide) ?_
    exact m_rz X hr hlk hP hS (Prod.mk.inj (Option.some.inj hres)).1 (Prod.mk.inj (Option.some.inj hres)).2 (by decide) dX7_isTooEarly_25
theorem dX7_hangs_0 : decode cX7_hangs 0 = .ok (.aload_n 0, 1) := by decide +kernel
theorem dX7_hangs_1 : decode cX7_hangs 1 = .ok (.iload_n 1, 1) := by decide +kernel
theorem dX7_hangs_2 : decode cX7_hangs 2 = .ok (.invokevirtual 184, 3) := by decide +kernel
theorem dX7_hangs_5 : decode cX7_hangs 5 = .ok (.ifCond .eq 17, 3) := by decide +kernel
theorem dX7_hangs_8 : decode cX7_hangs 8 = .ok (.iload_n 2, 1) := by decide +kernel
theorem dX7_hangs_9 : decode cX7_hangs 9 = .ok (.invokestatic 202, 3) := by decide +kernel
theorem dX7_hangs_12 : decode cX7_hangs 12 = .ok (.ifCond .eq 10, 3) := by decide +kernel
theorem dX7_hangs_15 : decode cX7_hangs 15 = .ok (.iload_n 3, 1) := by decide +kernel
theorem dX7_hangs_16 : decode cX7_hangs 16 = .ok (.invokestatic 145, 3) := by decide +kernel
theorem dX7_hangs_19 : decode cX7_hangs 19 = .ok (.ifCond .ne 6, 3) := by decide +kernel
theorem dX7_hangs_22 : decode cX7_hangs 22 = .ok (.bipush (-2), 2) := by decide +kernel
theorem dX7_hangs_24 : decode cX7_hangs 24 = .ok (.ireturn, 1) := by decide +kernel
theorem dX7_hangs_25 : decode cX7_hangs 25 = .ok (.aload_n 0, 1) := by decide +kernel
theorem dX7_hangs_26 : decode cX7_hangs 26 = .ok (.iload_n 1, 1) := by decide +kernel
theorem dX7_hangs_27 : decode cX7_hangs 27 = .ok (.iload_n 3, 1) := by decide +kernel
theorem dX7_hangs_28 : decode cX7_hangs 28 = .ok (.invokevirtual 249, 3) := by decide +kernel
theorem dX7_hangs_31 : decode cX7_hangs 31 = .ok (.ifCond .eq 6, 3) := by decide +kernel
theorem dX7_hangs_34 : decode cX7_hangs 34 = .ok (.bipush (-3), 2) := by decide +kernel
theorem dX7_hangs_36 : decode cX7_hangs 36 = .ok (.ireturn, 1) := by decide +kernel
theorem dX7_hangs_37 : decode cX7_hangs 37 = .ok (.aload_n 0, 1) := by decide +kernel
theorem dX7_hangs_38 : decode cX7_hangs 38 = .ok (.iload_n 1, 1) := by decide +kernel
theorem dX7_hangs_39 : decode cX7_hangs 39 = .ok (.iload_n 2, 1) := by decide +kernel
theorem dX7_hangs_40 : decode cX7_hangs 40 = .ok (.iload_n 3, 1) := by decide +kernel
theorem dX7_hangs_41 : decode cX7_hangs 41 = .ok (.invokevirtual 253, 3) := by decide +kernel
theorem dX7_hangs_44 : decode cX7_hangs 44 = .ok (.iconst 0, 1) := by decide +kernel
theorem dX7_hangs_45 : decode cX7_hangs 45 = .ok (.istore 4, 2) := by decide +kernel
theorem dX7_hangs_47 : decode cX7_hangs 47 = .ok (.iconst 0, 1) := by decide +kernel
theorem dX7_hangs_48 : decode cX7_hangs 48 = .ok (.istore 5, 2) := by decide +kernel
theorem dX7_hangs_50 : decode cX7_hangs 50 = .ok (.iload 5, 2) := by decide +kernel
theorem dX7_hangs_52 : decode cX7_hangs 52 = .ok (.aload_n 0, 1) := by decide +kernel
theorem dX7_hangs_53 : decode cX7_hangs 53 = .ok (.invokevirtual 257, 3) := by decide +kernel
theorem dX7_hangs_56 : decode cX7_hangs 56 = .ok (.if_icmp .ge 59, 3) := by decide +kernel
theorem dX7_hangs_59 : decode cX7_hangs 59 = .ok (.iconst 0, 1) := by decide +kernel
theorem dX7_hangs_60 : decode cX7_hangs 60 = .ok (.istore 6, 2) := by decide +kernel
theorem dX7_hangs_62 : decode cX7_hangs 62 = .ok (.iload 6, 2) := by decide +kernel
theorem dX7_hangs_64 : decode cX7_hangs 64 = .ok (.aload_n 0, 1) := by decide +kernel
theorem dX7_hangs_65 : decode cX7_hangs 65 = .ok (.getfield 10, 3) := by decide +kernel
theorem dX7_hangs_68 : decode cX7_hangs 68 = .ok (.getfield 79, 3) := by decide +kernel
theorem dX7_hangs_71 : decode cX7_hangs 71 = .ok (.if_icmp .ge 38, 3) := by decide +kernel
theorem dX7_hangs_74 : decode cX7_hangs 74 = .ok (.iload 5, 2) := by decide +kernel
theorem dX7_hangs_76 : decode cX7_hangs 76 = .ok (.iconst 1, 1) := by decide +kernel
theorem dX7_hangs_77 : decode cX7_hangs 77 = .ok (.iload 6, 2) := by decide +kernel
theorem dX7_hangs_79 : decode cX7_hangs 79 = .ok (.ishl, 1) := by decide +kernel
theorem dX7_hangs_80 : decode cX7_hangs 80 = .ok (.ior, 1) := by decide +kernel
theorem dX7_hangs_81 : decode cX7_hangs 81 = .ok (.istore 7, 2) := by decide +kernel
theorem dX7_hangs_83 : decode cX7_hangs 83 = .ok (.aload_n 0, 1) := by decide +kernel
theorem dX7_hangs_84 : decode cX7_hangs 84 = .ok (.iload 5, 2) := by decide +kernel
theorem dX7_hangs_86 : decode cX7_hangs 86 = .ok (.iload 7, 2) := by decide +kernel
theorem dX7_hangs_88 : decode cX7_hangs 88 = .ok (.invokevirtual 260, 3) := by decide +kernel
theorem dX7_hangs_91 : decode cX7_hangs 91 = .ok (.ifCond .eq 12, 3) := by decide +kernel
theorem dX7_hangs_94 : decode cX7_hangs 94 = .ok (.iload 4, 2) := by decide +kernel
theorem dX7_hangs_96 : decode cX7_hangs 96 = .ok (.iconst 1, 1) := by decide +kernel
theorem dX7_hangs_97 : decode cX7_hangs 97 = .ok (.iload 6, 2) := by decide +kernel
theorem dX7_hangs_99 : decode cX7_hangs 99 = .ok (.ishl, 1) := by decide +kernel
theorem dX7_hangs_100 : decode cX7_hangs 100 = .ok (.ior, 1) := by decide +kernel
theorem dX7_hangs_101 : decode cX7_hangs 101 = .ok (.istore 4, 2) := by decide +kernel
theorem dX7_hangs_103 : decode cX7_hangs 103 = .ok (.iinc 6 1, 3) := by decide +kernel
theorem dX7_hangs_106 : decode cX7_hangs 106 = .ok (.goto (-44), 3) := by decide +kernel
theorem dX7_hangs_109 : decode cX7_hangs 109 = .ok (.iinc 5 1, 3) := by decide +kernel
theorem dX7_hangs_112 : decode cX7_hangs 112 = .ok (.goto (-62), 3) := by decide +kernel
theorem dX7_hangs_115 : decode cX7_hangs 115 = .ok (.iload 4, 2) := by decide +kernel
theorem dX7_hangs_117 : decode cX7_hangs 117 = .ok (.ireturn, 1) := by decide +kernel
def f_X7_hangs_b62 (n : Nat) (x1 : Int32) (x2 : Int32) (x3 : Int32) (q50 : Int32 → Int32 → m_M → Option (Int32 × m_M)) : Nat → Int32 → Int32 → Int32 → m_M → Option (Int32 × m_M)
  | 0, _, _, _, _ => none
  | u + 1, x4, x5, x6, M =>
    if (M.1 1 3) ≤ x6 then
  q50 x4 (x5 + 1) M
  else
  m_bd (x5 ||| ((1 : Int32) <<< (x6 &&& 31))) fun t2 =>
  m_ob (f_X7_compareWays x5 t2 M) fun r3 =>
  if r3 = 0 then
  f_X7_hangs_b62 n x1 x2 x3 q50 u x4 x5 (x6 + 1) M
  else
  m_bd (x4 ||| ((1 : Int32) <<< (x6 &&& 31))) fun t5 =>
  f_X7_hangs_b62 n x1 x2 x3 q50 u t5 x5 (x6 + 1) M
def f_X7_hangs_b50 (n : Nat) (x1 : Int32) (x2 : Int32) (x3 : Int32) : Nat → Int32 → Int32 → m_M → Option (Int32 × m_M)
  | 0, _, _, _ => none
  | u + 1, x4, x5, M =>
    m_bd (f_X7_ways M) fun r6 =>
  if r6 ≤ x5 then
  some (x4, M)
  else
  f_X7_hangs_b62 n x1 x2 x3 (f_X7_hangs_b50 n x1 x2 x3 u) n x4 x5 0 M
def f_X7_hangs (n : Nat) (x1 : Int32) (x2 : Int32) (x3 : Int32) (M : m_M) : Option (Int32 × m_M) :=
  m_bd (f_X7_isDeal x1 M) fun r8 =>
  if r8 = 0 then
  some ((-2), M)
  else
  m_bd (f_X7_isAsk x2) fun r11 =>
  if r11 = 0 then
  some ((-2), M)
  else
  m_bd (f_X7_isDay x3) fun r14 =>
  if r14 = 0 then
  some ((-2), M)
  else
  m_o2 (f_X7_isTooEarly n x1 x3 M) fun r17 M18 =>
  if r17 = 0 then
  m_ob (f_X7_askInAllWays n x1 x2 x3 M18) fun M21 =>
  f_X7_hangs_b50 n x1 x2 x3 n 0 0 M21
  else
  some ((-3), M18)
set_option maxHeartbeats 4000000 in
set_option maxRecDepth 100000 in
theorem c_X7_hangs (l : Launch) (G : m_G) {n : Nat} {x1 : Int32} {x2 : Int32} {x3 : Int32} {M : m_M} {r0 : Int32} {M0 : m_M}  (hres : f_X7_hangs n x1 x2 x3 M = some (r0, M0)) : Met l yX7_hangs (m_U yX7_hangs cX7_hangs 8 (some .int)) (m_R 8 181) (m_Pc G [.ref (m_ad G 0), .int x1, .int x2, .int x3] M) (m_Qi G r0 M0) 0 0 (m_A G) := by
  refine m_i0 (n := 8) RX7 rfl (by decide) (Nat.le_of_ble_eq_true rfl) ?_
  intro p e s m args below meth c X hr hlk hSt hP hS ls hl
  have hl : lv_has ls 8 [(0, .ref (m_ad G 0)), (1, .int x1), (2, .int x2), (3, .int x3)] := hl
  have B62 : ∀ (q50 : Int32 → Int32 → m_M → Option (Int32 × m_M)) (hq50 : ∀ (x4 : Int32) (x5 : Int32) (M : m_M) (H : Heap) (locs : List Loc) (ls : Array Slot), m_P G M H → va_S (m_A G) s.heap H locs → lv_has ls 8 [(0, .ref (m_ad G 0)), (4, .int x4), (5, .int x5)] → q50 x4 x5 M = some (r0, M0) → W p l e (m_R 8 181) s m args below meth c H locs 0 0 (MQ below (m_Qi G r0 M0) args s 0 0 (m_A G)) (F0 m 50 ls [])) (u : Nat) (x4 : Int32) (x5 : Int32) (x6 : Int32) (M : m_M) (H : Heap) (locs : List Loc) (ls : Array Slot), m_P G M H → va_S (m_A G) s.heap H locs → lv_has ls 8 [(0, .ref (m_ad G 0)), (4, .int x4), (5, .int x5), (6, .int x6)] → f_X7_hangs_b62 n x1 x2 x3 q50 u x4 x5 x6 M = some (r0, M0) → W p l e (m_R 8 181) s m args below meth c H locs 0 0 (MQ below (m_Qi G r0 M0) args s 0 0 (m_A G)) (F0 m 62 ls []) := by
    intro q50 hq50 u
    induction u with
    | zero =>
      intro x4 x5 x6 M H locs ls hP hS hl hres
      cases hres
    | succ u ih =>
      intro x4 x5 x6 M H locs ls hP hS hl hres
      rw [f_X7_hangs_b62] at hres
      refine lv_iload X.1 X.2.1 dX7_hangs_62 (lv_at hl 3 rfl) ?_
      refine lv_aload_n X.1 X.2.1 dX7_hangs_64 rfl (lv_at hl 0 rfl) ?_
      refine m_g7 (v := .ref (m_ad G 1)) X hSt hP m_z_0 0 (by decide) rfl k_f_X7_10 dX7_hangs_65 ?_
      refine m_g3 (v := .int (M.1 1 3)) X hSt hP m_kept_0.1 3 (by decide) rfl k_f_X7_79 dX7_hangs_68 ?_
      refine lv_icmp_ge (tgt := 109) X.1 X.2.1 dX7_hangs_71 (by decide) (fun hc1 => ?_) (fun hc1 => ?_)
      · have hres := m_it hres hc1
        refine lv_iinc (v := (x5 + 1)) (lv' := [(5, .int (x5 + 1)), (0, .ref (m_ad G 0)), (4, .int x4), (6, .int x6)]) X.1 X.2.1 dX7_hangs_109 hl (k := 2) rfl rfl (by decide) rfl (fun ls hl => ?_)
        refine lv_goto (tgt := 50) X.1 X.2.1 dX7_hangs_112 (by decide) ?_
        exact hq50 x4 (x5 + 1) M _ _ _ hP hS (lv_sub hl [1, 2, 0] rfl) hres
      · have hres := m_if hres hc1
        refine lv_iload X.1 X.2.1 dX7_hangs_74 (lv_at hl 2 rfl) ?_
        refine lv_iconst (v := 1) X.1 X.2.1 dX7_hangs_76 (by decide) ?_
        refine lv_iload X.1 X.2.1 dX7_hangs_77 (lv_at hl 3 rfl) ?_
        refine lv_ishl X.1 X.2.1 dX7_hangs_79 ?_
        refine lv_ior X.1 X.2.1 dX7_hangs_80 ?_
        obtain ⟨t2, et2, hres⟩ := m_bd_e hres
        refine m_ti et2 ?_
        refine lv_istore (lv' := [(7, .int t2), (0, .ref (m_ad G 0)), (4, .int x4), (5, .int x5), (6, .int x6)]) X.1 X.2.1 dX7_hangs_81 hl (by decide) rfl (fun ls hl => ?_)
        refine lv_aload_n X.1 X.2.1 dX7_hangs_83 rfl (lv_at hl 1 rfl) ?_
        refine lv_iload X.1 X.2.1 dX7_hangs_84 (lv_at hl 3 rfl) ?_
        refine lv_iload X.1 X.2.1 dX7_hangs_86 (lv_at hl 0 rfl) ?_
        obtain ⟨r3, err3, hres⟩ := m_ob_e hres
        refine m_bi (m_cV (n := 2) (As := [.int x5, .int t2]) (rest := []) X hSt hP hS hl.1 (c_X7_compareWays l G  err3) k_c_yX7_compareWays k_m_X7_260 k_i_yX7_compareWays k_s_yX7_compareWays k_n_X7 (by decide +kernel) (m_rc7 hSt hP m_z_0) rfl rfl ⟨Nat.le_of_ble_eq_true rfl, Nat.le_of_ble_eq_true rfl⟩ (Nat.le_of_ble_eq_true rfl) ⟨Nat.zero_le _, Nat.zero_le _⟩ dX7_hangs_88) hS (fun H locs hP hS => ?_)
        refine lv_if_eq (tgt := 103) X.1 X.2.1 dX7_hangs_91 (by decide) (fun hc4 => ?_) (fun hc4 => ?_)
        · have hres := m_it hres hc4
          refine lv_iinc (v := (x6 + 1)) (lv' := [(6, .int (x6 + 1)), (7, .int t2), (0, .ref (m_ad G 0)), (4, .int x4), (5, .int x5)]) X.1 X.2.1 dX7_hangs_103 hl (k := 4) rfl rfl (by decide) rfl (fun ls hl => ?_)
          refine lv_goto (tgt := 62) X.1 X.2.1 dX7_hangs_106 (by decide) ?_
          exact ih x4 x5 (x6 + 1) M _ _ _ hP hS (lv_sub hl [2, 3, 4, 0] rfl) hres
        · have hres := m_if hres hc4
          refine lv_iload X.1 X.2.1 dX7_hangs_94 (lv_at hl 2 rfl) ?_
          refine lv_iconst (v := 1) X.1 X.2.1 dX7_hangs_96 (by decide) ?_
          refine lv_iload X.1 X.2.1 dX7_hangs_97 (lv_at hl 4 rfl) ?_
          refine lv_ishl X.1 X.2.1 dX7_hangs_99 ?_
          refine lv_ior X.1 X.2.1 dX7_hangs_100 ?_
          obtain ⟨t5, et5, hres⟩ := m_bd_e hres
          refine m_ti et5 ?_
          refine lv_istore (lv' := [(4, .int t5), (7, .int t2), (0, .ref (m_ad G 0)), (5, .int x5), (6, .int x6)]) X.1 X.2.1 dX7_hangs_101 hl (by decide) rfl (fun ls hl => ?_)
          refine lv_iinc (v := (x6 + 1)) (lv' := [(6, .int (x6 + 1)), (4, .int t5), (7, .int t2), (0, .ref (m_ad G 0)), (5, .int x5)]) X.1 X.2.1 dX7_hangs_103 hl (k := 4) rfl rfl (by decide) rfl (fun ls hl => ?_)
          refine lv_goto (tgt := 62) X.1 X.2.1 dX7_hangs_106 (by decide) ?_
          exact ih t5 x5 (x6 + 1) M _ _ _ hP hS (lv_sub hl [3, 1, 4, 0] rfl) hres
  have B50 : ∀ (u : Nat) (x4 : Int32) (x5 : Int32) (M : m_M) (H : Heap) (locs : List Loc) (ls : Array Slot), m_P G M H → va_S (m_A G) s.heap H locs → lv_has ls 8 [(0, .ref (m_ad G 0)), (4, .int x4), (5, .int x5)] → f_X7_hangs_b50 n x1 x2 x3 u x4 x5 M = some (r0, M0) → W p l e (m_R 8 181) s m args below meth c H locs 0 0 (MQ below (m_Qi G r0 M0) args s 0 0 (m_A G)) (F0 m 50 ls []) := by
    intro u
    induction u with
    | zero =>
      intro x4 x5 M H locs ls hP hS hl hres
      cases hres
    | succ u ih =>
      intro x4 x5 M H locs ls hP hS hl hres
      rw [f_X7_hangs_b50] at hres
      refine lv_iload X.1 X.2.1 dX7_hangs_50 (lv_at hl 2 rfl) ?_
      refine lv_aload_n X.1 X.2.1 dX7_hangs_52 rfl (lv_at hl 0 rfl) ?_
      obtain ⟨r6, err6, hres⟩ := m_bd_e hres
      refine m_bi (m_cV (n := 0) (As := []) (rest := [.int x5]) X hSt hP hS hl.1 (c_X7_ways l G  err6) k_c_yX7_ways k_m_X7_257 k_i_yX7_ways k_s_yX7_ways k_n_X7 (by decide +kernel) (m_rc7 hSt hP m_z_0) rfl rfl ⟨Nat.le_of_ble_eq_true rfl, Nat.le_of_ble_eq_true rfl⟩ (Nat.le_of_ble_eq_true rfl) ⟨Nat.zero_le _, Nat.zero_le _⟩ dX7_hangs_53) hS (fun H locs hP hS => ?_)
      refine lv_icmp_ge (tgt := 115) X.1 X.2.1 dX7_hangs_56 (by decide) (fun hc7 => ?_) (fun hc7 => ?_)
      · have hres := m_it hres hc7
        refine lv_iload X.1 X.2.1 dX7_hangs_115 (lv_at hl 1 rfl) ?_
        exact m_ri X hr hlk hP hS (Prod.mk.inj (Option.some.inj hres)).1 (Prod.mk.inj (Option.some.inj hres)).2 dX7_hangs_117
      · have hres := m_if hres hc7
        refine lv_iconst (v := 0) X.1 X.2.1 dX7_hangs_59 (by decide) ?_
        refine lv_istore (lv' := [(6, .int 0), (0, .ref (m_ad G 0)), (4, .int x4), (5, .int x5)]) X.1 X.2.1 dX7_hangs_60 hl (by decide) rfl (fun ls hl => ?_)
        exact B62 (f_X7_hangs_b50 n x1 x2 x3 u) ih n x4 x5 0 M _ _ _ hP hS (lv_sub hl [1, 2, 3, 0] rfl) hres
  unfold f_X7_hangs at hres
  refine lv_aload_n X.1 X.2.1 dX7_hangs_0 rfl (lv_at hl 0 rfl) ?_
  refine lv_iload_n X.1 X.2.1 dX7_hangs_1 rfl (lv_at hl 1 rfl) ?_
  obtain ⟨r8, err8, hres⟩ := m_bd_e hres
  refine m_bz (m_cV (n := 1) (As := [.int x1]) (rest := []) X hSt hP hS hl.1 (c_X7_isDeal l G  err8) k_c_yX7_isDeal k_m_X7_184 k_i_yX7_isDeal k_s_yX7_isDeal k_n_X7 (by decide +kernel) (m_rc7 hSt hP m_z_0) rfl rfl ⟨Nat.le_of_ble_eq_true rfl, Nat.le_of_ble_eq_true rfl⟩ (Nat.le_of_ble_eq_true rfl) ⟨Nat.zero_le _, Nat.zero_le _⟩ dX7_hangs_2) hS (fun H locs hP hS hz9 => ?_)
  refine lv_if_eq (tgt := 22) X.1 X.2.1 dX7_hangs_5 (by decide) (fun hc10 => ?_) (fun hc10 => ?_)
  · have hres := m_it hres hc10
    refine lv_bipush (v := (-2)) X.1 X.2.1 dX7_hangs_22 (by decide) ?_
    exact m_ri X hr hlk hP hS (Prod.mk.inj (Option.some.inj hres)).1 (Prod.mk.inj (Option.some.inj hres)).2 dX7_hangs_24
  · have hres := m_if hres hc10
    refine lv_iload_n X.1 X.2.1 dX7_hangs_8 rfl (lv_at hl 2 rfl) ?_
    obtain ⟨r11, err11, hres⟩ := m_bd_e hres
    refine m_bz (m_cS (n := 1) (As := [.int x2]) (rest := []) X hSt hP hS hl.1 (c_X7_isAsk l G (M := M)  err11) k_c_yX7_isAsk k_m_X7_202 k_t_yX7_isAsk k_n_X7 (by decide +kernel) rfl rfl ⟨Nat.le_of_ble_eq_true rfl, Nat.le_of_ble_eq_true rfl⟩ (Nat.le_of_ble_eq_true rfl) ⟨Nat.zero_le _, Nat.zero_le _⟩ dX7_hangs_9) hS (fun H locs hP hS hz12 => ?_)
    refine lv_if_eq (tgt := 22) X.1 X.2.1 dX7_hangs_12 (by decide) (fun hc13 => ?_) (fun hc13 => ?_)
    · have hres := m_it hres hc13
      refine lv_bipush (v := (-2)) X.1 X.2.1 dX7_hangs_22 (by decide) ?_
      exact m_ri X hr hlk hP hS (Prod.mk.inj (Option.some.inj hres)).1 (Prod.mk.inj (Option.some.inj hres)).2 dX7_hangs_24
    · have hres := m_if hres hc13
      refine lv_iload_n X.1 X.2.1 dX7_hangs_15 rfl (lv_at hl 3 rfl) ?_
      obtain ⟨r14, err14, hres⟩ := m_bd_e hres
      refine m_bz (m_cS (n := 1) (As := [.int x3]) (rest := []) X hSt hP hS hl.1 (c_X7_isDay l G (M := M)  err14) k_c_yX7_isDay k_m_X7_145 k_t_yX7_isDay k_n_X7 (by decide +kernel) rfl rfl ⟨Nat.le_of_ble_eq_true rfl, Nat.le_of_ble_eq_true rfl⟩ (Nat.le_of_ble_eq_true rfl) ⟨Nat.zero_le _, Nat.zero_le _⟩ dX7_hangs_16) hS (fun H locs hP hS hz15 => ?_)
      refine lv_if_ne (tgt := 25) X.1 X.2.1 dX7_hangs_19 (by decide) (fun hc16 => ?_) (fun hc16 => ?_)
      · have hres := m_if hres hc16
        refine lv_aload_n X.1 X.2.1 dX7_hangs_25 rfl (lv_at hl 0 rfl) ?_
        refine lv_iload_n X.1 X.2.1 dX7_hangs_26 rfl (lv_at hl 1 rfl) ?_
        refine lv_iload_n X.1 X.2.1 dX7_hangs_27 rfl (lv_at hl 3 rfl) ?_
        obtain ⟨r17, M18, err17, hres⟩ := m_o2_e hres
        refine m_bz (m_cV (n := 2) (As := [.int x1, .int x3]) (rest := []) X hSt hP hS hl.1 (c_X7_isTooEarly l G  err17) k_c_yX7_isTooEarly k_m_X7_249 k_i_yX7_isTooEarly k_s_yX7_isTooEarly k_n_X7 (by decide +kernel) (m_rc7 hSt hP m_z_0) rfl rfl ⟨Nat.le_of_ble_eq_true rfl, Nat.le_of_ble_eq_true rfl⟩ (Nat.le_of_ble_eq_true rfl) ⟨Nat.zero_le _, Nat.zero_le _⟩ dX7_hangs_28) hS (fun H locs hP hS hz19 => ?_)
        refine lv_if_eq (tgt := 37) X.1 X.2.1 dX7_hangs_31 (by decide) (fun hc20 => ?_) (fun hc20 => ?_)
        · have hres := m_it hres hc20
          refine lv_aload_n X.1 X.2.1 dX7_hangs_37 rfl (lv_at hl 0 rfl) ?_
          refine lv_iload_n X.1 X.2.1 dX7_hangs_38 rfl (lv_at hl 1 rfl) ?_
          refine lv_iload_n X.1 X.2.1 dX7_hangs_39 rfl (lv_at hl 2 rfl) ?_
          refine lv_iload_n X.1 X.2.1 dX7_hangs_40 rfl (lv_at hl 3 rfl) ?_
          obtain ⟨M21, eM21, hres⟩ := m_ob_e hres
          refine m_bv (m_cV (n := 3) (As := [.int x1, .int x2, .int x3]) (rest := []) X hSt hP hS hl.1 (c_X7_askInAllWays l G  eM21) k_c_yX7_askInAllWays k_m_X7_253 k_i_yX7_askInAllWays k_s_yX7_askInAllWays k_n_X7 (by decide +kernel) (m_rc7 hSt hP m_z_0) rfl rfl ⟨Nat.le_of_ble_eq_true rfl, Nat.le_of_ble_eq_true rfl⟩ (Nat.le_of_ble_eq_true rfl) ⟨Nat.zero_le _, Nat.zero_le _⟩ dX7_hangs_41) hS (fun H locs hP hS => ?_)
          refine lv_iconst (v := 0) X.1 X.2.1 dX7_hangs_44 (by decide) ?_
          refine lv_istore (lv' := [(4, .int 0), (0, .ref (m_ad G 0)), (1, .int x1), (2, .int x2), (3, .int x3)]) X.1 X.2.1 dX7_hangs_45 hl (by decide) rfl (fun ls hl => ?_)
          refine lv_iconst (v := 0) X.1 X.2.1 dX7_hangs_47 (by decide) ?_
          refine lv_istore (lv' := [(5, .int 0), (4, .int 0), (0, .ref (m_ad G 0)), (1, .int x1), (2, .int x2), (3, .int x3)]) X.1 X.2.1 dX7_hangs_48 hl (by decide) rfl (fun ls hl => ?_)
          exact B50 n 0 0 M21 _ _ _ hP hS (lv_sub hl [2, 1, 0] rfl) hres
        · have hres := m_if hres hc20
          refine lv_bipush (v := (-3)) X.1 X.2.1 dX7_hangs_34 (by decide) ?_
          exact m_ri X hr hlk hP hS (Prod.mk.inj (Option.some.inj hres)).1 (Prod.mk.inj (Option.some.inj hres)).2 dX7_hangs_36
      · have hres := m_it hres hc16
        refine lv_bipush (v := (-2)) X.1 X.2.1 dX7_hangs_22 (by decide) ?_
        exact m_ri X hr hlk hP hS (Prod.mk.inj (Option.some.inj hres)).1 (Prod.mk.inj (Option.some.inj hres)).2 dX7_hangs_24
theorem dX7_isPerson_0 : decode cX7_isPerson 0 = .ok (.iload_n 1, 1) := by decide +kernel
theorem dX7_isPerson_1 : decode cX7_isPerson 1 = .ok (.ifCond .lt 18, 3) := by decide +kernel
theorem dX7_isPerson_4 : decode cX7_isPerson 4 = .ok (.iload_n 1, 1) := by decide +kernel
theorem dX7_isPerson_5 : decode cX7_isPerson 5 = .ok (.aload_n 0, 1) := by decide +kernel
theorem dX7_isPerson_6 : decode cX7_isPerson 6 = .ok (.getfield 10, 3) := by decide +kernel
theorem dX7_isPerson_9 : decode cX7_isPerson 9 = .ok (.getfield 61, 3) := by decide +kernel
theorem dX7_isPerson_12 : decode cX7_isPerson 12 = .ok (.if_icmp .ge 7, 3) := by decide +kernel
theorem dX7_isPerson_15 : decode cX7_isPerson 15 = .ok (.iconst 1, 1) := by decide +kernel
theorem dX7_isPerson_16 : decode cX7_isPerson 16 = .ok (.goto 4, 3) := by decide +kernel
theorem dX7_isPerson_19 : decode cX7_isPerson 19 = .ok (.iconst 0, 1) := by decide +kernel
theorem dX7_isPerson_20 : decode cX7_isPerson 20 = .ok (.ireturn, 1) := by decide +kernel
def f_X7_isPerson (x1 : Int32) (M : m_M) : Int32 :=
  if x1 < 0 then
  0
  else
  if (M.1 1 0) ≤ x1 then
  0
  else
  1
set_option maxHeartbeats 4000000 in
set_option maxRecDepth 100000 in
theorem c_X7_isPerson (l : Launch) (G : m_G) {x1 : Int32} {M : m_M} {r0 : Int32}  (hres : f_X7_isPerson x1 M = r0) : Met l yX7_isPerson (m_U yX7_isPerson cX7_isPerson 2 (some .boolean)) (m_R 0 0) (m_Pc G [.ref (m_ad G 0), .int x1] M) (m_Qz G r0 M) 0 0 (m_A G) := by
  refine m_i0 (n := 2) RX7 rfl (by decide) (Nat.le_of_ble_eq_true rfl) ?_
  intro p e s m args below meth c X hr hlk hSt hP hS ls hl
  have hl : lv_has ls 2 [(0, .ref (m_ad G 0)), (1, .int x1)] := hl
  unfold f_X7_isPerson at hres
  refine lv_iload_n X.1 X.2.1 dX7_isPerson_0 rfl (lv_at hl 1 rfl) ?_
  refine lv_if_lt (tgt := 19) X.1 X.2.1 dX7_isPerson_1 (by decide) (fun hc1 => ?_) (fun hc1 => ?_)
  · have hres := m_it hres hc1
    refine lv_iconst (v := 0) X.1 X.2.1 dX7_isPerson_19 (by decide) ?_
    exact m_rz X hr hlk hP hS hres rfl (by decide) dX7_isPerson_20
  · have hres := m_if hres hc1
    refine lv_iload_n X.1 X.2.1 dX7_isPerson_4 rfl (lv_at hl 1 rfl) ?_
    refine lv_aload_n X.1 X.2.1 dX7_isPerson_5 rfl (lv_at hl 0 rfl) ?_
    refine m_g7 (v := .ref (m_ad G 1)) X hSt hP m_z_0 0 (by decide) rfl k_f_X7_10 dX7_isPerson_6 ?_
    refine m_g3 (v := .int (M.1 1 0)) X hSt hP m_kept_0.1 0 (by decide) rfl k_f_X7_61 dX7_isPerson_9 ?_
    refine lv_icmp_ge (tgt := 19) X.1 X.2.1 dX7_isPerson_12 (by decide) (fun hc2 => ?_) (fun hc2 => ?_)
    · have hres := m_it hres hc2
      refine lv_iconst (v := 0) X.1 X.2.1 dX7_isPerson_19 (by decide) ?_
      exact m_rz X hr hlk hP hS hres rfl (by decide) dX7_isPerson_20
    · have hres := m_if hres hc2
      refine lv_iconst (v := 1) X.1 X.2.1 dX7_isPerson_15 (by decide) ?_
      refine lv_goto (tgt := 20) X.1 X.2.1 dX7_isPerson_16 (by decide) ?_
      exact m_rz X hr hlk hP hS hres rfl (by decide) dX7_isPerson_20
theorem dX7_holder_0 : decode cX7_holder 0 = .ok (.aload_n 0, 1) := by decide +kernel
theorem dX7_holder_1 : decode cX7_holder 1 = .ok (.iload_n 1, 1) := by decide +kernel
theorem dX7_holder_2 : decode cX7_holder 2 = .ok (.invokevirtual 142, 3) := by decide +kernel
theorem dX7_holder_5 : decode cX7_holder 5 = .ok (.ifCond .eq 10, 3) := by decide +kernel
theorem dX7_holder_8 : decode cX7_holder 8 = .ok (.iload_n 2, 1) := by decide +kernel
theorem dX7_holder_9 : decode cX7_holder 9 = .ok (.invokestatic 145, 3) := by decide +kernel
theorem dX7_holder_12 : decode cX7_holder 12 = .ok (.ifCond .ne 6, 3) := by decide +kernel
theorem dX7_holder_15 : decode cX7_holder 15 = .ok (.bipush (-10), 2) := by decide +kernel
theorem dX7_holder_17 : decode cX7_holder 17 = .ok (.ireturn, 1) := by decide +kernel
theorem dX7_holder_18 : decode cX7_holder 18 = .ok (.aload_n 0, 1) := by decide +kernel
theorem dX7_holder_19 : decode cX7_holder 19 = .ok (.getfield 29, 3) := by decide +kernel
theorem dX7_holder_22 : decode cX7_holder 22 = .ok (.iload_n 2, 1) := by decide +kernel
theorem dX7_holder_23 : decode cX7_holder 23 = .ok (.iconst 0, 1) := by decide +kernel
theorem dX7_holder_24 : decode cX7_holder 24 = .ok (.invokevirtual 148, 3) := by decide +kernel
theorem dX7_holder_27 : decode cX7_holder 27 = .ok (.aload_n 0, 1) := by decide +kernel
theorem dX7_holder_28 : decode cX7_holder 28 = .ok (.getfield 29, 3) := by decide +kernel
theorem dX7_holder_31 : decode cX7_holder 31 = .ok (.getfield 152, 3) := by decide +kernel
theorem dX7_holder_34 : decode cX7_holder 34 = .ok (.iload_n 1, 1) := by decide +kernel
theorem dX7_holder_35 : decode cX7_holder 35 = .ok (.aaload, 1) := by decide +kernel
theorem dX7_holder_36 : decode cX7_holder 36 = .ok (.getfield 156, 3) := by decide +kernel
theorem dX7_holder_39 : decode cX7_holder 39 = .ok (.ireturn, 1) := by decide +kernel
def f_X7_holder (n : Nat) (x1 : Int32) (x2 : Int32) (M : m_M) : Option (Int32 × m_M) :=
  m_bd (f_X7_isPerson x1 M) fun r1 =>
  if r1 = 0 then
  some ((-10), M)
  else
  m_bd (f_X7_isDay x2) fun r4 =>
  if r4 = 0 then
  some ((-10), M)
  else
  m_ob (f_X1_replay n x2 0 M) fun M7 =>
  m_gd (m_in x1 10) (
  some ((M7.1 (49 + 5 * x1.toNatClampNeg) 0), M7))
set_option maxHeartbeats 4000000 in
set_option maxRecDepth 100000 in
theorem c_X7_holder (l : Launch) (G : m_G) {n : Nat} {x1 : Int32} {x2 : Int32} {M : m_M} {r0 : Int32} {M0 : m_M}  (hres : f_X7_holder n x1 x2 M = some (r0, M0)) : Met l yX7_holder (m_U yX7_holder cX7_holder 3 (some .int)) (m_R 6 135) (m_Pc G [.ref (m_ad G 0), .int x1, .int x2] M) (m_Qi G r0 M0) 0 0 (m_A G) := by
  refine m_i0 (n := 3) RX7 rfl (by decide) (Nat.le_of_ble_eq_true rfl) ?_
  intro p e s m args below meth c X hr hlk hSt hP hS ls hl
  have hl : lv_has ls 3 [(0, .ref (m_ad G 0)), (1, .int x1), (2, .int x2)] := hl
  unfold f_X7_holder at hres
  refine lv_aload_n X.1 X.2.1 dX7_holder_0 rfl (lv_at hl 0 rfl) ?_
  refine lv_iload_n X.1 X.2.1 dX7_holder_1 rfl (lv_at hl 1 rfl) ?_
  obtain ⟨r1, err1, hres⟩ := m_bd_e hres
  refine m_bz (m_cV (n := 1) (As := [.int x1]) (rest := []) X hSt hP hS hl.1 (c_X7_isPerson l G  err1) k_c_yX7_isPerson k_m_X7_142 k_i_yX7_isPerson k_s_yX7_isPerson k_n_X7 (by decide +kernel) (m_rc7 hSt hP m_z_0) rfl rfl ⟨Nat.le_of_ble_eq_true rfl, Nat.le_of_ble_eq_true rfl⟩ (Nat.le_of_ble_eq_true rfl) ⟨Nat.zero_le _, Nat.zero_le _⟩ dX7_holder_2) hS (fun H locs hP hS hz2 => ?_)
  refine lv_if_eq (tgt := 15) X.1 X.2.1 dX7_holder_5 (by decide) (fun hc3 => ?_) (fun hc3 => ?_)
  · have hres := m_it hres hc3
    refine lv_bipush (v := (-10)) X.1 X.2.1 dX7_holder_15 (by decide) ?_
    exact m_ri X hr hlk hP hS (Prod.mk.inj (Option.some.inj hres)).1 (Prod.mk.inj (Option.some.inj hres)).2 dX7_holder_17
  · have hres := m_if hres hc3
    refine lv_iload_n X.1 X.2.1 dX7_holder_8 rfl (lv_at hl 2 rfl) ?_
    obtain ⟨r4, err4, hres⟩ := m_bd_e hres
    refine m_bz (m_cS (n := 1) (As := [.int x2]) (rest := []) X hSt hP hS hl.1 (c_X7_isDay l G (M := M)  err4) k_c_yX7_isDay k_m_X7_145 k_t_yX7_isDay k_n_X7 (by decide +kernel) rfl rfl ⟨Nat.le_of_ble_eq_true rfl, Nat.le_of_ble_eq_true rfl⟩ (Nat.le_of_ble_eq_true rfl) ⟨Nat.zero_le _, Nat.zero_le _⟩ dX7_holder_9) hS (fun H locs hP hS hz5 => ?_)
    refine lv_if_ne (tgt := 18) X.1 X.2.1 dX7_holder_12 (by decide) (fun hc6 => ?_) (fun hc6 => ?_)
    · have hres := m_if hres hc6
      refine lv_aload_n X.1 X.2.1 dX7_holder_18 rfl (lv_at hl 0 rfl) ?_
      refine m_g7 (v := .ref (m_ad G 45)) X hSt hP m_z_0 3 (by decide) rfl k_f_X7_29 dX7_holder_19 ?_
      refine lv_iload_n X.1 X.2.1 dX7_holder_22 rfl (lv_at hl 2 rfl) ?_
      refine lv_iconst (v := 0) X.1 X.2.1 dX7_holder_23 (by decide) ?_
      obtain ⟨M7, eM7, hres⟩ := m_ob_e hres
      refine m_bv (m_cV (n := 2) (As := [.int x2, .int 0]) (rest := []) X hSt hP hS hl.1 (c_X1_replay l G  eM7) k_c_yX1_replay k_m_X7_148 k_i_yX1_replay k_s_yX1_replay k_n_X1 (by decide +kernel) (m_rc1 hSt hP m_z_45) rfl rfl ⟨Nat.le_of_ble_eq_true rfl, Nat.le_of_ble_eq_true rfl⟩ (Nat.le_of_ble_eq_true rfl) ⟨Nat.zero_le _, Nat.zero_le _⟩ dX7_holder_24) hS (fun H locs hP hS => ?_)
      refine lv_aload_n X.1 X.2.1 dX7_holder_27 rfl (lv_at hl 0 rfl) ?_
      refine m_g7 (v := .ref (m_ad G 45)) X hSt hP m_z_0 3 (by decide) rfl k_f_X7_29 dX7_holder_28 ?_
      refine m_g1 (v := .ref (m_ad G 46)) X hSt hP m_z_45 1 (by decide) rfl k_f_X7_152 dX7_holder_31 ?_
      refine lv_iload_n X.1 X.2.1 dX7_holder_34 rfl (lv_at hl 1 rfl) ?_
      obtain ⟨hg8, hres⟩ := m_gd_e hres
      refine m_qa6 (j := x1.toNatClampNeg) X hSt hP m_z_46 hg8 rfl dX7_holder_35 ?_
      refine m_g5 (v := .int (M7.1 (49 + 5 * x1.toNatClampNeg) 0)) X hSt hP (m_person_of hg8).1 0 (by decide) rfl k_f_X7_156 dX7_holder_36 ?_
      exact m_ri X hr hlk hP hS (Prod.mk.inj (Option.some.inj hres)).1 (Prod.mk.inj (Option.some.inj hres)).2 dX7_holder_39
    · have hres := m_it hres hc6
      refine lv_bipush (v := (-10)) X.1 X.2.1 dX7_holder_15 (by decide) ?_
      exact m_ri X hr hlk hP hS (Prod.mk.inj (Option.some.inj hres)).1 (Prod.mk.inj (Option.some.inj hres)).2 dX7_holder_17
theorem dX7_image_0 : decode cX7_image 0 = .ok (.iload_n 1, 1) := by decide +kernel
theorem dX7_image_1 : decode cX7_image 1 = .ok (.ifCond .lt 8, 3) := by decide +kernel
theorem dX7_image_4 : decode cX7_image 4 = .ok (.iload_n 1, 1) := by decide +kernel
theorem dX7_image_5 : decode cX7_image 5 = .ok (.iconst 2, 1) := by decide +kernel
theorem dX7_image_6 : decode cX7_image 6 = .ok (.if_icmp .lt 6, 3) := by decide +kernel
theorem dX7_image_9 : decode cX7_image 9 = .ok (.bipush (-2), 2) := by decide +kernel
theorem dX7_image_11 : decode cX7_image 11 = .ok (.ireturn, 1) := by decide +kernel
theorem dX7_image_12 : decode cX7_image 12 = .ok (.aload_n 0, 1) := by decide +kernel
theorem dX7_image_13 : decode cX7_image 13 = .ok (.getfield 16, 3) := by decide +kernel
theorem dX7_image_16 : decode cX7_image 16 = .ok (.iload_n 1, 1) := by decide +kernel
theorem dX7_image_17 : decode cX7_image 17 = .ok (.aaload, 1) := by decide +kernel
theorem dX7_image_18 : decode cX7_image 18 = .ok (.aload_n 0, 1) := by decide +kernel
theorem dX7_image_19 : decode cX7_image 19 = .ok (.getfield 10, 3) := by decide +kernel
theorem dX7_image_22 : decode cX7_image 22 = .ok (.invokevirtual 273, 3) := by decide +kernel
theorem dX7_image_25 : decode cX7_image 25 = .ok (.aload_n 0, 1) := by decide +kernel
theorem dX7_image_26 : decode cX7_image 26 = .ok (.getfield 20, 3) := by decide +kernel
theorem dX7_image_29 : decode cX7_image 29 = .ok (.iload_n 1, 1) := by decide +kernel
theorem dX7_image_30 : decode cX7_image 30 = .ok (.iconst 1, 1) := by decide +kernel
theorem dX7_image_31 : decode cX7_image 31 = .ok (.bastore, 1) := by decide +kernel
theorem dX7_image_32 : decode cX7_image 32 = .ok (.iconst 1, 1) := by decide +kernel
theorem dX7_image_33 : decode cX7_image 33 = .ok (.ireturn, 1) := by decide +kernel
def f_X7_image (n : Nat) (x1 : Int32) (M : m_M) : Option (Int32 × m_M) :=
  if x1 < 0 then
  some ((-2), M)
  else
  if x1 < 2 then
  m_gd (m_in x1 2) (
  m_ob (f_X3_takeAll n (16 + 14 * x1.toNatClampNeg) 1 M) fun M4 =>
  m_bd (m_sI M4 44 x1.toNatClampNeg 1) fun M5 =>
  some (1, M5))
  else
  some ((-2), M)
set_option maxHeartbeats 4000000 in
set_option maxRecDepth 100000 in
theorem c_X7_image (l : Launch) (G : m_G) {n : Nat} {x1 : Int32} {M : m_M} {r0 : Int32} {M0 : m_M}  (hres : f_X7_image n x1 M = some (r0, M0)) : Met l yX7_image (m_U yX7_image cX7_image 2 (some .int)) (m_R 124 2869) (m_Pc G [.ref (m_ad G 0), .int x1] M) (m_Qi G r0 M0) 0 0 (m_A G) := by
  refine m_i0 (n := 2) RX7 rfl (by decide) (Nat.le_of_ble_eq_true rfl) ?_
  intro p e s m args below meth c X hr hlk hSt hP hS ls hl
  have hl : lv_has ls 2 [(0, .ref (m_ad G 0)), (1, .int x1)] := hl
  unfold f_X7_image at hres
  refine lv_iload_n X.1 X.2.1 dX7_image_0 rfl (lv_at hl 1 rfl) ?_
  refine lv_if_lt (tgt := 9) X.1 X.2.1 dX7_image_1 (by decide) (fun hc1 => ?_) (fun hc1 => ?_)
  · have hres := m_it hres hc1
    refine lv_bipush (v := (-2)) X.1 X.2.1 dX7_image_9 (by decide) ?_
    exact m_ri X hr hlk hP hS (Prod.mk.inj (Option.some.inj hres)).1 (Prod.mk.inj (Option.some.inj hres)).2 dX7_image_11
  · have hres := m_if hres hc1
    refine lv_iload_n X.1 X.2.1 dX7_image_4 rfl (lv_at hl 1 rfl) ?_
    refine lv_iconst (v := 2) X.1 X.2.1 dX7_image_5 (by decide) ?_
    refine lv_icmp_lt (tgt := 12) X.1 X.2.1 dX7_image_6 (by decide) (fun hc2 => ?_) (fun hc2 => ?_)
    · have hres := m_it hres hc2
      refine lv_aload_n X.1 X.2.1 dX7_image_12 rfl (lv_at hl 0 rfl) ?_
      refine m_g7 (v := .ref (m_ad G 15)) X hSt hP m_z_0 1 (by decide) rfl k_f_X7_16 dX7_image_13 ?_
      refine lv_iload_n X.1 X.2.1 dX7_image_16 rfl (lv_at hl 1 rfl) ?_
      obtain ⟨hg3, hres⟩ := m_gd_e hres
      refine m_qa4 (j := x1.toNatClampNeg) X hSt hP m_z_15 hg3 rfl dX7_image_17 ?_
      refine lv_aload_n X.1 X.2.1 dX7_image_18 rfl (lv_at hl 0 rfl) ?_
      refine m_g7 (v := .ref (m_ad G 1)) X hSt hP m_z_0 0 (by decide) rfl k_f_X7_10 dX7_image_19 ?_
      obtain ⟨M4, eM4, hres⟩ := m_ob_e hres
      refine m_bv (m_cV (n := 1) (As := [.ref (m_ad G 1)]) (rest := []) X hSt hP hS hl.1 (c_X3_takeAll l G (m_kept_of hg3) m_kept_0 eM4) k_c_yX3_takeAll k_m_X7_273 k_i_yX3_takeAll k_s_yX3_takeAll k_n_X3 (by decide +kernel) (m_rc3 hSt hP (m_kept_of hg3).1) rfl rfl ⟨Nat.le_of_ble_eq_true rfl, Nat.le_of_ble_eq_true rfl⟩ (Nat.le_of_ble_eq_true rfl) ⟨Nat.zero_le _, Nat.zero_le _⟩ dX7_image_22) hS (fun H locs hP hS => ?_)
      refine lv_aload_n X.1 X.2.1 dX7_image_25 rfl (lv_at hl 0 rfl) ?_
      refine m_g7 (v := .ref (m_ad G 44)) X hSt hP m_z_0 2 (by decide) rfl k_f_X7_20 dX7_image_26 ?_
      refine lv_iload_n X.1 X.2.1 dX7_image_29 rfl (lv_at hl 1 rfl) ?_
      refine lv_iconst (v := 1) X.1 X.2.1 dX7_image_30 (by decide) ?_
      obtain ⟨M5, eM5, hres⟩ := m_bd_e hres
      refine m_zs (j := x1.toNatClampNeg) X hSt hP hS m_z_44 hg3 rfl (by decide)  dX7_image_31 eM5 (fun H locs hP hS => ?_)
      refine lv_iconst (v := 1) X.1 X.2.1 dX7_image_32 (by decide) ?_
      exact m_ri X hr hlk hP hS (Prod.mk.inj (Option.some.inj hres)).1 (Prod.mk.inj (Option.some.inj hres)).2 dX7_image_33
    · have hres := m_if hres hc2
      refine lv_bipush (v := (-2)) X.1 X.2.1 dX7_image_9 (by decide) ?_
      exact m_ri X hr hlk hP hS (Prod.mk.inj (Option.some.inj hres)).1 (Prod.mk.inj (Option.some.inj hres)).2 dX7_image_11
theorem dX7_in_0 : decode cX7_in 0 = .ok (.aload_n 0, 1) := by decide +kernel
theorem dX7_in_1 : decode cX7_in 1 = .ok (.iload_n 1, 1) := by decide +kernel
theorem dX7_in_2 : decode cX7_in 2 = .ok (.invokevirtual 142, 3) := by decide +kernel
theorem dX7_in_5 : decode cX7_in 5 = .ok (.ifCond .eq 19, 3) := by decide +kernel
theorem dX7_in_8 : decode cX7_in 8 = .ok (.iload_n 2, 1) := by decide +kernel
theorem dX7_in_9 : decode cX7_in 9 = .ok (.ifCond .lt 15, 3) := by decide +kernel
theorem dX7_in_12 : decode cX7_in 12 = .ok (.iload_n 2, 1) := by decide +kernel
theorem dX7_in_13 : decode cX7_in 13 = .ok (.iconst 4, 1) := by decide +kernel
theorem dX7_in_14 : decode cX7_in 14 = .ok (.if_icmp .gt 10, 3) := by decide +kernel
theorem dX7_in_17 : decode cX7_in 17 = .ok (.iload_n 3, 1) := by decide +kernel
theorem dX7_in_18 : decode cX7_in 18 = .ok (.invokestatic 145, 3) := by decide +kernel
theorem dX7_in_21 : decode cX7_in 21 = .ok (.ifCond .ne 6, 3) := by decide +kernel
theorem dX7_in_24 : decode cX7_in 24 = .ok (.bipush (-2), 2) := by decide +kernel
theorem dX7_in_26 : decode cX7_in 26 = .ok (.ireturn, 1) := by decide +kernel
theorem dX7_in_27 : decode cX7_in 27 = .ok (.aload_n 0, 1) := by decide +kernel
theorem dX7_in_28 : decode cX7_in 28 = .ok (.getfield 29, 3) := by decide +kernel
theorem dX7_in_31 : decode cX7_in 31 = .ok (.iload_n 3, 1) := by decide +kernel
theorem dX7_in_32 : decode cX7_in 32 = .ok (.iconst 0, 1) := by decide +kernel
theorem dX7_in_33 : decode cX7_in 33 = .ok (.invokevirtual 148, 3) := by decide +kernel
theorem dX7_in_36 : decode cX7_in 36 = .ok (.aload_n 0, 1) := by decide +kernel
theorem dX7_in_37 : decode cX7_in 37 = .ok (.getfield 29, 3) := by decide +kernel
theorem dX7_in_40 : decode cX7_in 40 = .ok (.getfield 152, 3) := by decide +kernel
theorem dX7_in_43 : decode cX7_in 43 = .ok (.iload_n 1, 1) := by decide +kernel
theorem dX7_in_44 : decode cX7_in 44 = .ok (.aaload, 1) := by decide +kernel
theorem dX7_in_45 : decode cX7_in 45 = .ok (.astore 4, 2) := by decide +kernel
theorem dX7_in_47 : decode cX7_in 47 = .ok (.iload_n 2, 1) := by decide +kernel
theorem dX7_in_48 : decode cX7_in 48 = .ok (.iconst 4, 1) := by decide +kernel
theorem dX7_in_49 : decode cX7_in 49 = .ok (.if_icmp .ge 12, 3) := by decide +kernel
theorem dX7_in_52 : decode cX7_in 52 = .ok (.aload 4, 2) := by decide +kernel
theorem dX7_in_54 : decode cX7_in 54 = .ok (.iload_n 2, 1) := by decide +kernel
theorem dX7_in_55 : decode cX7_in 55 = .ok (.invokevirtual 161, 3) := by decide +kernel
theorem dX7_in_58 : decode cX7_in 58 = .ok (.goto 8, 3) := by decide +kernel
theorem dX7_in_61 : decode cX7_in 61 = .ok (.aload 4, 2) := by decide +kernel
theorem dX7_in_63 : decode cX7_in 63 = .ok (.invokevirtual 165, 3) := by decide +kernel
theorem dX7_in_66 : decode cX7_in 66 = .ok (.ireturn, 1) := by decide +kernel
def f_X7_in (n : Nat) (x1 : Int32) (x2 : Int32) (x3 : Int32) (M : m_M) : Option (Int32 × m_M) :=
  m_bd (f_X7_isPerson x1 M) fun r1 =>
  if r1 = 0 then
  some ((-2), M)
  else
  if x2 < 0 then
  some ((-2), M)
  else
  if (4 : Int32) < x2 then
  some ((-2), M)
  else
  m_bd (f_X7_isDay x3) fun r6 =>
  if r6 = 0 then
  some ((-2), M)
  else
  m_ob (f_X1_replay n x3 0 M) fun M9 =>
  m_gd (m_in x1 10) (
  if (4 : Int32) ≤ x2 then
  m_ob (f_X5_allParts n (49 + 5 * x1.toNatClampNeg) M9) fun r12 =>
  some (r12, M9)
  else
  m_ob (f_X5_partOf (49 + 5 * x1.toNatClampNeg) x2 M9) fun r13 =>
  some (r13, M9))
set_option maxHeartbeats 4000000 in
set_option maxRecDepth 100000 in
theorem c_X7_in (l : Launch) (G : m_G) {n : Nat} {x1 : Int32} {x2 : Int32} {x3 : Int32} {M : m_M} {r0 : Int32} {M0 : m_M}  (hres : f_X7_in n x1 x2 x3 M = some (r0, M0)) : Met l yX7_in (m_U yX7_in cX7_in 5 (some .int)) (m_R 6 135) (m_Pc G [.ref (m_ad G 0), .int x1, .int x2, .int x3] M) (m_Qi G r0 M0) 0 0 (m_A G) := by
  refine m_i0 (n := 5) RX7 rfl (by decide) (Nat.le_of_ble_eq_true rfl) ?_
  intro p e s m args below meth c X hr hlk hSt hP hS ls hl
  have hl : lv_has ls 5 [(0, .ref (m_ad G 0)), (1, .int x1), (2, .int x2), (3, .int x3)] := hl
  unfold f_X7_in at hres
  refine lv_aload_n X.1 X.2.1 dX7_in_0 rfl (lv_at hl 0 rfl) ?_
  refine lv_iload_n X.1 X.2.1 dX7_in_1 rfl (lv_at hl 1 rfl) ?_
  obtain ⟨r1, err1, hres⟩ := m_bd_e hres
  refine m_bz (m_cV (n := 1) (As := [.int x1]) (rest := []) X hSt hP hS hl.1 (c_X7_isPerson l G  err1) k_c_yX7_isPerson k_m_X7_142 k_i_yX7_isPerson k_s_yX7_isPerson k_n_X7 (by decide +kernel) (m_rc7 hSt hP m_z_0) rfl rfl ⟨Nat.le_of_ble_eq_true rfl, Nat.le_of_ble_eq_true rfl⟩ (Nat.le_of_ble_eq_true rfl) ⟨Nat.zero_le _, Nat.zero_le _⟩ dX7_in_2) hS (fun H locs hP hS hz2 => ?_)
  refine lv_if_eq (tgt := 24) X.1 X.2.1 dX7_in_5 (by decide) (fun hc3 => ?_) (fun hc3 => ?_)
  · have hres := m_it hres hc3
    refine lv_bipush (v := (-2)) X.1 X.2.1 dX7_in_24 (by decide) ?_
    exact m_ri X hr hlk hP hS (Prod.mk.inj (Option.some.inj hres)).1 (Prod.mk.inj (Option.some.inj hres)).2 dX7_in_26
  · have hres := m_if hres hc3
    refine lv_iload_n X.1 X.2.1 dX7_in_8 rfl (lv_at hl 2 rfl) ?_
    refine lv_if_lt (tgt := 24) X.1 X.2.1 dX7_in_9 (by decide) (fun hc4 => ?_) (fun hc4 => ?_)
    · have hres := m_it hres hc4
      refine lv_bipush (v := (-2)) X.1 X.2.1 dX7_in_24 (by decide) ?_
      exact m_ri X hr hlk hP hS (Prod.mk.inj (Option.some.inj hres)).1 (Prod.mk.inj (Option.some.inj hres)).2 dX7_in_26
    · have hres := m_if hres hc4
      refine lv_iload_n X.1 X.2.1 dX7_in_12 rfl (lv_at hl 2 rfl) ?_
      refine lv_iconst (v := 4) X.1 X.2.1 dX7_in_13 (by decide) ?_
      refine lv_icmp_gt (tgt := 24) X.1 X.2.1 dX7_in_14 (by decide) (fun hc5 => ?_) (fun hc5 => ?_)
      · have hres := m_it hres hc5
        refine lv_bipush (v := (-2)) X.1 X.2.1 dX7_in_24 (by decide) ?_
        exact m_ri X hr hlk hP hS (Prod.mk.inj (Option.some.inj hres)).1 (Prod.mk.inj (Option.some.inj hres)).2 dX7_in_26
      · have hres := m_if hres hc5
        refine lv_iload_n X.1 X.2.1 dX7_in_17 rfl (lv_at hl 3 rfl) ?_
        obtain ⟨r6, err6, hres⟩ := m_bd_e hres
        refine m_bz (m_cS (n := 1) (As := [.int x3]) (rest := []) X hSt hP hS hl.1 (c_X7_isDay l G (M := M)  err6) k_c_yX7_isDay k_m_X7_145 k_t_yX7_isDay k_n_X7 (by decide +kernel) rfl rfl ⟨Nat.le_of_ble_eq_true rfl, Nat.le_of_ble_eq_true rfl⟩ (Nat.le_of_ble_eq_true rfl) ⟨Nat.zero_le _, Nat.zero_le _⟩ dX7_in_18) hS (fun H locs hP hS hz7 => ?_)
        refine lv_if_ne (tgt := 27) X.1 X.2.1 dX7_in_21 (by decide) (fun hc8 => ?_) (fun hc8 => ?_)
        · have hres := m_if hres hc8
          refine lv_aload_n X.1 X.2.1 dX7_in_27 rfl (lv_at hl 0 rfl) ?_
          refine m_g7 (v := .ref (m_ad G 45)) X hSt hP m_z_0 3 (by decide) rfl k_f_X7_29 dX7_in_28 ?_
          refine lv_iload_n X.1 X.2.1 dX7_in_31 rfl (lv_at hl 3 rfl) ?_
          refine lv_iconst (v := 0) X.1 X.2.1 dX7_in_32 (by decide) ?_
          obtain ⟨M9, eM9, hres⟩ := m_ob_e hres
          refine m_bv (m_cV (n := 2) (As := [.int x3, .int 0]) (rest := []) X hSt hP hS hl.1 (c_X1_replay l G  eM9) k_c_yX1_replay k_m_X7_148 k_i_yX1_replay k_s_yX1_replay k_n_X1 (by decide +kernel) (m_rc1 hSt hP m_z_45) rfl rfl ⟨Nat.le_of_ble_eq_true rfl, Nat.le_of_ble_eq_true rfl⟩ (Nat.le_of_ble_eq_true rfl) ⟨Nat.zero_le _, Nat.zero_le _⟩ dX7_in_33) hS (fun H locs hP hS => ?_)
          refine lv_aload_n X.1 X.2.1 dX7_in_36 rfl (lv_at hl 0 rfl) ?_
          refine m_g7 (v := .ref (m_ad G 45)) X hSt hP m_z_0 3 (by decide) rfl k_f_X7_29 dX7_in_37 ?_
          refine m_g1 (v := .ref (m_ad G 46)) X hSt hP m_z_45 1 (by decide) rfl k_f_X7_152 dX7_in_40 ?_
          refine lv_iload_n X.1 X.2.1 dX7_in_43 rfl (lv_at hl 1 rfl) ?_
          obtain ⟨hg10, hres⟩ := m_gd_e hres
          refine m_qa6 (j := x1.toNatClampNeg) X hSt hP m_z_46 hg10 rfl dX7_in_44 ?_
          refine lv_astore (lv' := [(4, .ref (m_ad G (49 + 5 * x1.toNatClampNeg))), (0, .ref (m_ad G 0)), (1, .int x1), (2, .int x2), (3, .int x3)]) X.1 X.2.1 dX7_in_45 hl (by decide) rfl (fun ls hl => ?_)
          refine lv_iload_n X.1 X.2.1 dX7_in_47 rfl (lv_at hl 3 rfl) ?_
          refine lv_iconst (v := 4) X.1 X.2.1 dX7_in_48 (by decide) ?_
          refine lv_icmp_ge (tgt := 61) X.1 X.2.1 dX7_in_49 (by decide) (fun hc11 => ?_) (fun hc11 => ?_)
          · have hres := m_it hres hc11
            refine lv_aload X.1 X.2.1 dX7_in_61 (lv_at hl 0 rfl) ?_
            obtain ⟨r12, err12, hres⟩ := m_ob_e hres
            refine m_bi (m_cV (n := 0) (As := []) (rest := []) X hSt hP hS hl.1 (c_X5_allParts l G (m_person_of hg10) err12) k_c_yX5_allParts k_m_X7_165 k_i_yX5_allParts k_s_yX5_allParts k_n_X5 (by decide +kernel) (m_rc5 hSt hP (m_person_of hg10).1) rfl rfl ⟨Nat.le_of_ble_eq_true rfl, Nat.le_of_ble_eq_true rfl⟩ (Nat.le_of_ble_eq_true rfl) ⟨Nat.zero_le _, Nat.zero_le _⟩ dX7_in_63) hS (fun H locs hP hS => ?_)
            exact m_ri X hr hlk hP hS (Prod.mk.inj (Option.some.inj hres)).1 (Prod.mk.inj (Option.some.inj hres)).2 dX7_in_66
          · have hres := m_if hres hc11
            refine lv_aload X.1 X.2.1 dX7_in_52 (lv_at hl 0 rfl) ?_
            refine lv_iload_n X.1 X.2.1 dX7_in_54 rfl (lv_at hl 3 rfl) ?_
            obtain ⟨r13, err13, hres⟩ := m_ob_e hres
            refine m_bi (m_cV (n := 1) (As := [.int x2]) (rest := []) X hSt hP hS hl.1 (c_X5_partOf l G (m_person_of hg10) err13) k_c_yX5_partOf k_m_X7_161 k_i_yX5_partOf k_s_yX5_partOf k_n_X5 (by decide +kernel) (m_rc5 hSt hP (m_person_of hg10).1) rfl rfl ⟨Nat.le_of_ble_eq_true rfl, Nat.le_of_ble_eq_true rfl⟩ (Nat.le_of_ble_eq_true rfl) ⟨Nat.zero_le _, Nat.zero_le _⟩ dX7_in_55) hS (fun H locs hP hS => ?_)
            refine lv_goto (tgt := 66) X.1 X.2.1 dX7_in_58 (by decide) ?_
            exact m_ri X hr hlk hP hS (Prod.mk.inj (Option.some.inj hres)).1 (Prod.mk.inj (Option.some.inj hres)).2 dX7_in_66
        · have hres := m_it hres hc8
          refine lv_bipush (v := (-2)) X.1 X.2.1 dX7_in_24 (by decide) ?_
          exact m_ri X hr hlk hP hS (Prod.mk.inj (Option.some.inj hres)).1 (Prod.mk.inj (Option.some.inj hres)).2 dX7_in_26
theorem dX7_isLined_0 : decode cX7_isLined 0 = .ok (.iload_n 1, 1) := by decide +kernel
theorem dX7_isLined_1 : decode cX7_isLined 1 = .ok (.ifCond .lt 18, 3) := by decide +kernel
theorem dX7_isLined_4 : decode cX7_isLined 4 = .ok (.iload_n 1, 1) := by decide +kernel
theorem dX7_isLined_5 : decode cX7_isLined 5 = .ok (.aload_n 0, 1) := by decide +kernel
theorem dX7_isLined_6 : decode cX7_isLined 6 = .ok (.getfield 10, 3) := by decide +kernel
theorem dX7_isLined_9 : decode cX7_isLined 9 = .ok (.getfield 220, 3) := by decide +kernel
theorem dX7_isLined_12 : decode cX7_isLined 12 = .ok (.if_icmp .ge 7, 3) := by decide +kernel
theorem dX7_isLined_15 : decode cX7_isLined 15 = .ok (.iconst 1, 1) := by decide +kernel
theorem dX7_isLined_16 : decode cX7_isLined 16 = .ok (.goto 4, 3) := by decide +kernel
theorem dX7_isLined_19 : decode cX7_isLined 19 = .ok (.iconst 0, 1) := by decide +kernel
theorem dX7_isLined_20 : decode cX7_isLined 20 = .ok (.ireturn, 1) := by decide +kernel
def f_X7_isLined (x1 : Int32) (M : m_M) : Int32 :=
  if x1 < 0 then
  0
  else
  if (M.1 1 4) ≤ x1 then
  0
  else
  1
set_option maxHeartbeats 4000000 in
set_option maxRecDepth 100000 in
theorem c_X7_isLined (l : Launch) (G : m_G) {x1 : Int32} {M : m_M} {r0 : Int32}  (hres : f_X7_isLined x1 M = r0) : Met l yX7_isLined (m_U yX7_isLined cX7_isLined 2 (some .boolean)) (m_R 0 0) (m_Pc G [.ref (m_ad G 0), .int x1] M) (m_Qz G r0 M) 0 0 (m_A G) := by
  refine m_i0 (n := 2) RX7 rfl (by decide) (Nat.le_of_ble_eq_true rfl) ?_
  intro p e s m args below meth c X hr hlk hSt hP hS ls hl
  have hl : lv_has ls 2 [(0, .ref (m_ad G 0)), (1, .int x1)] := hl
  unfold f_X7_isLined at hres
  refine lv_iload_n X.1 X.2.1 dX7_isLined_0 rfl (lv_at hl 1 rfl) ?_
  refine lv_if_lt (tgt := 19) X.1 X.2.1 dX7_isLined_1 (by decide) (fun hc1 => ?_) (fun hc1 => ?_)
  · have hres := m_it hres hc1
    refine lv_iconst (v := 0) X.1 X.2.1 dX7_isLined_19 (by decide) ?_
    exact m_rz X hr hlk hP hS hres rfl (by decide) dX7_isLined_20
  · have hres := m_if hres hc1
    refine lv_iload_n X.1 X.2.1 dX7_isLined_4 rfl (lv_at hl 1 rfl) ?_
    refine lv_aload_n X.1 X.2.1 dX7_isLined_5 rfl (lv_at hl 0 rfl) ?_
    refine m_g7 (v := .ref (m_ad G 1)) X hSt hP m_z_0 0 (by decide) rfl k_f_X7_10 dX7_isLined_6 ?_
    refine m_g3 (v := .int (M.1 1 4)) X hSt hP m_kept_0.1 4 (by decide) rfl k_f_X7_220 dX7_isLined_9 ?_
    refine lv_icmp_ge (tgt := 19) X.1 X.2.1 dX7_isLined_12 (by decide) (fun hc2 => ?_) (fun hc2 => ?_)
    · have hres := m_it hres hc2
      refine lv_iconst (v := 0) X.1 X.2.1 dX7_isLined_19 (by decide) ?_
      exact m_rz X hr hlk hP hS hres rfl (by decide) dX7_isLined_20
    · have hres := m_if hres hc2
      refine lv_iconst (v := 1) X.1 X.2.1 dX7_isLined_15 (by decide) ?_
      refine lv_goto (tgt := 20) X.1 X.2.1 dX7_isLined_16 (by decide) ?_
      exact m_rz X hr hlk hP hS hres rfl (by decide) dX7_isLined_20
theorem dX7_line_0 : decode cX7_line 0 = .ok (.aload_n 0, 1) := by decide +kernel
theorem dX7_line_1 : decode cX7_line 1 = .ok (.iload_n 1, 1) := by decide +kernel
theorem dX7_line_2 : decode cX7_line 2 = .ok (.invokevirtual 184, 3) := by decide +kernel
theorem dX7_line_5 : decode cX7_line 5 = .ok (.ifCond .ne 6, 3) := by decide +kernel
theorem dX7_line_8 : decode cX7_line 8 = .ok (.bipush (-2), 2) := by decide +kernel
theorem dX7_line_10 : decode cX7_line 10 = .ok (.ireturn, 1) := by decide +kernel
theorem dX7_line_11 : decode cX7_line 11 = .ok (.iconst 0, 1) := by decide +kernel
theorem dX7_line_12 : decode cX7_line 12 = .ok (.istore_n 2, 1) := by decide +kernel
theorem dX7_line_13 : decode cX7_line 13 = .ok (.iload_n 2, 1) := by decide +kernel
theorem dX7_line_14 : decode cX7_line 14 = .ok (.aload_n 0, 1) := by decide +kernel
theorem dX7_line_15 : decode cX7_line 15 = .ok (.getfield 10, 3) := by decide +kernel
theorem dX7_line_18 : decode cX7_line 18 = .ok (.getfield 220, 3) := by decide +kernel
theorem dX7_line_21 : decode cX7_line 21 = .ok (.if_icmp .ge 25, 3) := by decide +kernel
theorem dX7_line_24 : decode cX7_line 24 = .ok (.aload_n 0, 1) := by decide +kernel
theorem dX7_line_25 : decode cX7_line 25 = .ok (.getfield 10, 3) := by decide +kernel
theorem dX7_line_28 : decode cX7_line 28 = .ok (.getfield 223, 3) := by decide +kernel
theorem dX7_line_31 : decode cX7_line 31 = .ok (.iload_n 2, 1) := by decide +kernel
theorem dX7_line_32 : decode cX7_line 32 = .ok (.iaload, 1) := by decide +kernel
theorem dX7_line_33 : decode cX7_line 33 = .ok (.iload_n 1, 1) := by decide +kernel
theorem dX7_line_34 : decode cX7_line 34 = .ok (.if_icmp .ne 6, 3) := by decide +kernel
theorem dX7_line_37 : decode cX7_line 37 = .ok (.bipush (-3), 2) := by decide +kernel
theorem dX7_line_39 : decode cX7_line 39 = .ok (.ireturn, 1) := by decide +kernel
theorem dX7_line_40 : decode cX7_line 40 = .ok (.iinc 2 1, 3) := by decide +kernel
theorem dX7_line_43 : decode cX7_line 43 = .ok (.goto (-30), 3) := by decide +kernel
theorem dX7_line_46 : decode cX7_line 46 = .ok (.aload_n 0, 1) := by decide +kernel
theorem dX7_line_47 : decode cX7_line 47 = .ok (.getfield 10, 3) := by decide +kernel
theorem dX7_line_50 : decode cX7_line 50 = .ok (.getfield 220, 3) := by decide +kernel
theorem dX7_line_53 : decode cX7_line 53 = .ok (.bipush 6, 2) := by decide +kernel
theorem dX7_line_55 : decode cX7_line 55 = .ok (.if_icmp .lt 6, 3) := by decide +kernel
theorem dX7_line_58 : decode cX7_line 58 = .ok (.bipush (-4), 2) := by decide +kernel
theorem dX7_line_60 : decode cX7_line 60 = .ok (.ireturn, 1) := by decide +kernel
theorem dX7_line_61 : decode cX7_line 61 = .ok (.aload_n 0, 1) := by decide +kernel
theorem dX7_line_62 : decode cX7_line 62 = .ok (.getfield 10, 3) := by decide +kernel
theorem dX7_line_65 : decode cX7_line 65 = .ok (.getfield 223, 3) := by decide +kernel
theorem dX7_line_68 : decode cX7_line 68 = .ok (.aload_n 0, 1) := by decide +kernel
theorem dX7_line_69 : decode cX7_line 69 = .ok (.getfield 10, 3) := by decide +kernel
theorem dX7_line_72 : decode cX7_line 72 = .ok (.getfield 220, 3) := by decide +kernel
theorem dX7_line_75 : decode cX7_line 75 = .ok (.iload_n 1, 1) := by decide +kernel
theorem dX7_line_76 : decode cX7_line 76 = .ok (.iastore, 1) := by decide +kernel
theorem dX7_line_77 : decode cX7_line 77 = .ok (.aload_n 0, 1) := by decide +kernel
theorem dX7_line_78 : decode cX7_line 78 = .ok (.getfield 10, 3) := by decide +kernel
theorem dX7_line_81 : decode cX7_line 81 = .ok (.dup, 1) := by decide +kernel
theorem dX7_line_82 : decode cX7_line 82 = .ok (.getfield 220, 3) := by decide +kernel
theorem dX7_line_85 : decode cX7_line 85 = .ok (.iconst 1, 1) := by decide +kernel
theorem dX7_line_86 : decode cX7_line 86 = .ok (.iadd, 1) := by decide +kernel
theorem dX7_line_87 : decode cX7_line 87 = .ok (.putfield 220, 3) := by decide +kernel
theorem dX7_line_90 : decode cX7_line 90 = .ok (.aload_n 0, 1) := by decide +kernel
theorem dX7_line_91 : decode cX7_line 91 = .ok (.getfield 10, 3) := by decide +kernel
theorem dX7_line_94 : decode cX7_line 94 = .ok (.getfield 220, 3) := by decide +kernel
theorem dX7_line_97 : decode cX7_line 97 = .ok (.ireturn, 1) := by decide +kernel
def f_X7_line_b13 (n : Nat) (x1 : Int32) : Nat → Int32 → m_M → Option (Int32 × m_M)
  | 0, _, _ => none
  | u + 1, x2, M =>
    if (M.1 1 4) ≤ x2 then
  if (M.1 1 4) < 6 then
  m_gd (m_in (M.1 1 4) 6) (
  m_bd (m_sI M (1 + 2) ((M.1 1 4).toNatClampNeg) x1) fun M4 =>
  m_bd (m_sI M4 1 4 ((M4.1 1 4) + (1 : Int32))) fun M5 =>
  some ((M5.1 1 4), M5))
  else
  some ((-4), M)
  else
  m_gd (m_in x2 6) (
  if (M.1 (1 + 2) x2.toNatClampNeg) = x1 then
  some ((-3), M)
  else
  f_X7_line_b13 n x1 u (x2 + 1) M)
def f_X7_line (n : Nat) (x1 : Int32) (M : m_M) : Option (Int32 × m_M) :=
  m_bd (f_X7_isDeal x1 M) fun r8 =>
  if r8 = 0 then
  some ((-2), M)
  else
  f_X7_line_b13 n x1 n 0 M
set_option maxHeartbeats 4000000 in
set_option maxRecDepth 100000 in
theorem c_X7_line (l : Launch) (G : m_G) {n : Nat} {x1 : Int32} {M : m_M} {r0 : Int32} {M0 : m_M}  (hres : f_X7_line n x1 M = some (r0, M0)) : Met l yX7_line (m_U yX7_line cX7_line 3 (some .int)) (m_R 1 21) (m_Pc G [.ref (m_ad G 0), .int x1] M) (m_Qi G r0 M0) 0 0 (m_A G) := by
  refine m_i0 (n := 3) RX7 rfl (by decide) (Nat.le_of_ble_eq_true rfl) ?_
  intro p e s m args below meth c X hr hlk hSt hP hS ls hl
  have hl : lv_has ls 3 [(0, .ref (m_ad G 0)), (1, .int x1)] := hl
  have B13 : ∀ (u : Nat) (x2 : Int32) (M : m_M) (H : Heap) (locs : List Loc) (ls : Array Slot), m_P G M H → va_S (m_A G) s.heap H locs → lv_has ls 3 [(0, .ref (m_ad G 0)), (1, .int x1), (2, .int x2)] → f_X7_line_b13 n x1 u x2 M = some (r0, M0) → W p l e (m_R 1 21) s m args below meth c H locs 0 0 (MQ below (m_Qi G r0 M0) args s 0 0 (m_A G)) (F0 m 13 ls []) := by
    intro u
    induction u with
    | zero =>
      intro x2 M H locs ls hP hS hl hres
      cases hres
    | succ u ih =>
      intro x2 M H locs ls hP hS hl hres
      rw [f_X7_line_b13] at hres
      refine lv_iload_n X.1 X.2.1 dX7_line_13 rfl (lv_at hl 2 rfl) ?_
      refine lv_aload_n X.1 X.2.1 dX7_line_14 rfl (lv_at hl 0 rfl) ?_
      refine m_g7 (v := .ref (m_ad G 1)) X hSt hP m_z_0 0 (by decide) rfl k_f_X7_10 dX7_line_15 ?_
      refine m_g3 (v := .int (M.1 1 4)) X hSt hP m_kept_0.1 4 (by decide) rfl k_f_X7_220 dX7_line_18 ?_
      refine lv_icmp_ge (tgt := 46) X.1 X.2.1 dX7_line_21 (by decide) (fun hc1 => ?_) (fun hc1 => ?_)
      · have hres := m_it hres hc1
        refine lv_aload_n X.1 X.2.1 dX7_line_46 rfl (lv_at hl 0 rfl) ?_
        refine m_g7 (v := .ref (m_ad G 1)) X hSt hP m_z_0 0 (by decide) rfl k_f_X7_10 dX7_line_47 ?_
        refine m_g3 (v := .int (M.1 1 4)) X hSt hP m_kept_0.1 4 (by decide) rfl k_f_X7_220 dX7_line_50 ?_
        refine lv_bipush (v := 6) X.1 X.2.1 dX7_line_53 (by decide) ?_
        refine lv_icmp_lt (tgt := 61) X.1 X.2.1 dX7_line_55 (by decide) (fun hc2 => ?_) (fun hc2 => ?_)
        · have hres := m_it hres hc2
          refine lv_aload_n X.1 X.2.1 dX7_line_61 rfl (lv_at hl 0 rfl) ?_
          refine m_g7 (v := .ref (m_ad G 1)) X hSt hP m_z_0 0 (by decide) rfl k_f_X7_10 dX7_line_62 ?_
          refine m_g3 (v := .ref (m_ad G (1 + 2))) X hSt hP m_kept_0.1 6 (by decide) rfl k_f_X7_223 dX7_line_65 ?_
          refine lv_aload_n X.1 X.2.1 dX7_line_68 rfl (lv_at hl 0 rfl) ?_
          refine m_g7 (v := .ref (m_ad G 1)) X hSt hP m_z_0 0 (by decide) rfl k_f_X7_10 dX7_line_69 ?_
          refine m_g3 (v := .int (M.1 1 4)) X hSt hP m_kept_0.1 4 (by decide) rfl k_f_X7_220 dX7_line_72 ?_
          refine lv_iload_n X.1 X.2.1 dX7_line_75 rfl (lv_at hl 1 rfl) ?_
          obtain ⟨hg3, hres⟩ := m_gd_e hres
          obtain ⟨M4, eM4, hres⟩ := m_bd_e hres
          refine m_is (j := ((M.1 1 4).toNatClampNeg)) X hSt hP hS m_kept_0.2.2.1 hg3 rfl dX7_line_76 eM4 (fun H locs hP hS => ?_)
          refine lv_aload_n X.1 X.2.1 dX7_line_77 rfl (lv_at hl 0 rfl) ?_
          refine m_g7 (v := .ref (m_ad G 1)) X hSt hP m_z_0 0 (by decide) rfl k_f_X7_10 dX7_line_78 ?_
          refine lv_dup X.1 X.2.1 dX7_line_81 rfl ?_
          refine m_g3 (v := .int (M4.1 1 4)) X hSt hP m_kept_0.1 4 (by decide) rfl k_f_X7_220 dX7_line_82 ?_
          refine lv_iconst (v := 1) X.1 X.2.1 dX7_line_85 (by decide) ?_
          refine lv_iadd X.1 X.2.1 dX7_line_86 ?_
          obtain ⟨M5, eM5, hres⟩ := m_bd_e hres
          refine m_pi3 X hSt hP hS m_kept_0.1 4 (by decide) eM5 rfl rfl (by decide) k_f_X7_220 dX7_line_87 (fun H locs hP hS => ?_)
          refine lv_aload_n X.1 X.2.1 dX7_line_90 rfl (lv_at hl 0 rfl) ?_
          refine m_g7 (v := .ref (m_ad G 1)) X hSt hP m_z_0 0 (by decide) rfl k_f_X7_10 dX7_line_91 ?_
          refine m_g3 (v := .int (M5.1 1 4)) X hSt hP m_kept_0.1 4 (by decide) rfl k_f_X7_220 dX7_line_94 ?_
          exact m_ri X hr hlk hP hS (Prod.mk.inj (Option.some.inj hres)).1 (Prod.mk.inj (Option.some.inj hres)).2 dX7_line_97
        · have hres := m_if hres hc2
          refine lv_bipush (v := (-4)) X.1 X.2.1 dX7_line_58 (by decide) ?_
          exact m_ri X hr hlk hP hS (Prod.mk.inj (Option.some.inj hres)).1 (Prod.mk.inj (Option.some.inj hres)).2 dX7_line_60
      · have hres := m_if hres hc1
        refine lv_aload_n X.1 X.2.1 dX7_line_24 rfl (lv_at hl 0 rfl) ?_
        refine m_g7 (v := .ref (m_ad G 1)) X hSt hP m_z_0 0 (by decide) rfl k_f_X7_10 dX7_line_25 ?_
        refine m_g3 (v := .ref (m_ad G (1 + 2))) X hSt hP m_kept_0.1 6 (by decide) rfl k_f_X7_223 dX7_line_28 ?_
        refine lv_iload_n X.1 X.2.1 dX7_line_31 rfl (lv_at hl 2 rfl) ?_
        obtain ⟨hg6, hres⟩ := m_gd_e hres
        refine m_ia (j := x2.toNatClampNeg) X hSt hP m_kept_0.2.2.1 hg6 rfl dX7_line_32 ?_
        refine lv_iload_n X.1 X.2.1 dX7_line_33 rfl (lv_at hl 1 rfl) ?_
        refine lv_icmp_ne (tgt := 40) X.1 X.2.1 dX7_line_34 (by decide) (fun hc7 => ?_) (fun hc7 => ?_)
        · have hres := m_if hres hc7
          refine lv_iinc (v := (x2 + 1)) (lv' := [(2, .int (x2 + 1)), (0, .ref (m_ad G 0)), (1, .int x1)]) X.1 X.2.1 dX7_line_40 hl (k := 2) rfl rfl (by decide) rfl (fun ls hl => ?_)
          refine lv_goto (tgt := 13) X.1 X.2.1 dX7_line_43 (by decide) ?_
          exact ih (x2 + 1) M _ _ _ hP hS (lv_sub hl [1, 2, 0] rfl) hres
        · have hres := m_it hres hc7
          refine lv_bipush (v := (-3)) X.1 X.2.1 dX7_line_37 (by decide) ?_
          exact m_ri X hr hlk hP hS (Prod.mk.inj (Option.some.inj hres)).1 (Prod.mk.inj (Option.some.inj hres)).2 dX7_line_39
  unfold f_X7_line at hres
  refine lv_aload_n X.1 X.2.1 dX7_line_0 rfl (lv_at hl 0 rfl) ?_
  refine lv_iload_n X.1 X.2.1 dX7_line_1 rfl (lv_at hl 1 rfl) ?_
  obtain ⟨r8, err8, hres⟩ := m_bd_e hres
  refine m_bz (m_cV (n := 1) (As := [.int x1]) (rest := []) X hSt hP hS hl.1 (c_X7_isDeal l G  err8) k_c_yX7_isDeal k_m_X7_184 k_i_yX7_isDeal k_s_yX7_isDeal k_n_X7 (by decide +kernel) (m_rc7 hSt hP m_z_0) rfl rfl ⟨Nat.le_of_ble_eq_true rfl, Nat.le_of_ble_eq_true rfl⟩ (Nat.le_of_ble_eq_true rfl) ⟨Nat.zero_le _, Nat.zero_le _⟩ dX7_line_2) hS (fun H locs hP hS hz9 => ?_)
  refine lv_if_ne (tgt := 11) X.1 X.2.1 dX7_line_5 (by decide) (fun hc10 => ?_) (fun hc10 => ?_)
  · have hres := m_if hres hc10
    refine lv_iconst (v := 0) X.1 X.2.1 dX7_line_11 (by decide) ?_
    refine lv_istore_n (lv' := [(2, .int 0), (0, .ref (m_ad G 0)), (1, .int x1)]) X.1 X.2.1 dX7_line_12 rfl hl (by decide) rfl (fun ls hl => ?_)
    exact B13 n 0 M _ _ _ hP hS (lv_sub hl [1, 2, 0] rfl) hres
  · have hres := m_it hres hc10
    refine lv_bipush (v := (-2)) X.1 X.2.1 dX7_line_8 (by decide) ?_
    exact m_ri X hr hlk hP hS (Prod.mk.inj (Option.some.inj hres)).1 (Prod.mk.inj (Option.some.inj hres)).2 dX7_line_10
theorem dX6_leaveOut_0 : decode cX6_leaveOut 0 = .ok (.aload_n 0, 1) := by decide +kernel
theorem dX6_leaveOut_1 : decode cX6_leaveOut 1 = .ok (.getfield 9, 3) := by decide +kernel
theorem dX6_leaveOut_4 : decode cX6_leaveOut 4 = .ok (.iload_n 1, 1) := by decide +kernel
theorem dX6_leaveOut_5 : decode cX6_leaveOut 5 = .ok (.iconst (-1), 1) := by decide +kernel
theorem dX6_leaveOut_6 : decode cX6_leaveOut 6 = .ok (.iastore, 1) := by decide +kernel
theorem dX6_leaveOut_7 : decode cX6_leaveOut 7 = .ok (.aload_n 0, 1) := by decide +kernel
theorem dX6_leaveOut_8 : decode cX6_leaveOut 8 = .ok (.getfield 15, 3) := by decide +kernel
theorem dX6_leaveOut_11 : decode cX6_leaveOut 11 = .ok (.iload_n 1, 1) := by decide +kernel
theorem dX6_leaveOut_12 : decode cX6_leaveOut 12 = .ok (.iconst (-1), 1) := by decide +kernel
theorem dX6_leaveOut_13 : decode cX6_leaveOut 13 = .ok (.iastore, 1) := by decide +kernel
theorem dX6_leaveOut_14 : decode cX6_leaveOut 14 = .ok (.aload_n 0, 1) := by decide +kernel
theorem dX6_leaveOut_15 : decode cX6_leaveOut 15 = .ok (.getfield 18, 3) := by decide +kernel
theorem dX6_leaveOut_18 : decode cX6_leaveOut 18 = .ok (.iload_n 1, 1) := by decide +kernel
theorem dX6_leaveOut_19 : decode cX6_leaveOut 19 = .ok (.iconst 0, 1) := by decide +kernel
theorem dX6_leaveOut_20 : decode cX6_leaveOut 20 = .ok (.iastore, 1) := by decide +kernel
theorem dX6_leaveOut_21 : decode cX6_leaveOut 21 = .ok (.aload_n 0, 1) := by decide +kernel
theorem dX6_leaveOut_22 : decode cX6_leaveOut 22 = .ok (.getfield 21, 3) := by decide +kernel
theorem dX6_leaveOut_25 : decode cX6_leaveOut 25 = .ok (.iload_n 1, 1) := by decide +kernel
theorem dX6_leaveOut_26 : decode cX6_leaveOut 26 = .ok (.iconst 0, 1) := by decide +kernel
theorem dX6_leaveOut_27 : decode cX6_leaveOut 27 = .ok (.iastore, 1) := by decide +kernel
theorem dX6_leaveOut_28 : decode cX6_leaveOut 28 = .ok (.aload_n 0, 1) := by decide +kernel
theorem dX6_leaveOut_29 : decode cX6_leaveOut 29 = .ok (.getfield 24, 3) := by decide +kernel
theorem dX6_leaveOut_32 : decode cX6_leaveOut 32 = .ok (.iload_n 1, 1) := by decide +kernel
theorem dX6_leaveOut_33 : decode cX6_leaveOut 33 = .ok (.iconst 0, 1) := by decide +kernel
theorem dX6_leaveOut_34 : decode cX6_leaveOut 34 = .ok (.iastore, 1) := by decide +kernel
theorem dX6_leaveOut_35 : decode cX6_leaveOut 35 = .ok (.aload_n 0, 1) := by decide +kernel
theorem dX6_leaveOut_36 : decode cX6_leaveOut 36 = .ok (.getfield 27, 3) := by decide +kernel
theorem dX6_leaveOut_39 : decode cX6_leaveOut 39 = .ok (.iload_n 1, 1) := by decide +kernel
theorem dX6_leaveOut_40 : decode cX6_leaveOut 40 = .ok (.iconst 0, 1) := by decide +kernel
theorem dX6_leaveOut_41 : decode cX6_leaveOut 41 = .ok (.iastore, 1) := by decide +kernel
theorem dX6_leaveOut_42 : decode cX6_leaveOut 42 = .ok (.aload_n 0, 1) := by decide +kernel
theorem dX6_leaveOut_43 : decode cX6_leaveOut 43 = .ok (.getfield 30, 3) := by decide +kernel
theorem dX6_leaveOut_46 : decode cX6_leaveOut 46 = .ok (.iload_n 1, 1) := by decide +kernel
theorem dX6_leaveOut_47 : decode cX6_leaveOut 47 = .ok (.iconst 0, 1) := by decide +kernel
theorem dX6_leaveOut_48 : decode cX6_leaveOut 48 = .ok (.bastore, 1) := by decide +kernel
theorem dX6_leaveOut_49 : decode cX6_leaveOut 49 = .ok (.aload_n 0, 1) := by decide +kernel
theorem dX6_leaveOut_50 : decode cX6_leaveOut 50 = .ok (.getfield 34, 3) := by decide +kernel
theorem dX6_leaveOut_53 : decode cX6_leaveOut 53 = .ok (.iload_n 1, 1) := by decide +kernel
theorem dX6_leaveOut_54 : decode cX6_leaveOut 54 = .ok (.iconst 0, 1) := by decide +kernel
theorem dX6_leaveOut_55 : decode cX6_leaveOut 55 = .ok (.bastore, 1) := by decide +kernel
theorem dX6_leaveOut_56 : decode cX6_leaveOut 56 = .ok (.return_, 1) := by decide +kernel
def f_X6_leaveOut (x1 : Int32) (M : m_M) : Option m_M :=
  m_gd (m_in x1 6) (
  m_bd (m_sI M 160 x1.toNatClampNeg (-1)) fun M2 =>
  m_bd (m_sI M2 161 x1.toNatClampNeg (-1)) fun M3 =>
  m_bd (m_sI M3 162 x1.toNatClampNeg 0) fun M4 =>
  m_bd (m_sI M4 163 x1.toNatClampNeg 0) fun M5 =>
  m_bd (m_sI M5 164 x1.toNatClampNeg 0) fun M6 =>
  m_bd (m_sI M6 165 x1.toNatClampNeg 0) fun M7 =>
  m_bd (m_sI M7 166 x1.toNatClampNeg 0) fun M8 =>
  m_bd (m_sI M8 167 x1.toNatClampNeg 0) fun M9 =>
  some M9)
set_option maxHeartbeats 4000000 in
set_option maxRecDepth 100000 in
theorem c_X6_leaveOut (l : Launch) (G : m_G) {x1 : Int32} {M : m_M} {M0 : m_M}  (hres : f_X6_leaveOut x1 M = some M0) : Met l yX6_leaveOut (m_U yX6_leaveOut cX6_leaveOut 2 none) (m_R 0 0) (m_Pc G [.ref (m_ad G 159), .int x1] M) (m_Qv G M0) 0 0 (m_A G) := by
  refine m_i0 (n := 2) RX6 rfl (by decide) (Nat.le_of_ble_eq_true rfl) ?_
  intro p e s m args below meth c X hr hlk hSt hP hS ls hl
  have hl : lv_has ls 2 [(0, .ref (m_ad G 159)), (1, .int x1)] := hl
  unfold f_X6_leaveOut at hres
  refine lv_aload_n X.1 X.2.1 dX6_leaveOut_0 rfl (lv_at hl 0 rfl) ?_
  refine m_g6 (v := .ref (m_ad G 160)) X hSt hP m_z_159 1 (by decide) rfl k_f_X6_9 dX6_leaveOut_1 ?_
  refine lv_iload_n X.1 X.2.1 dX6_leaveOut_4 rfl (lv_at hl 1 rfl) ?_
  refine lv_iconst (v := (-1)) X.1 X.2.1 dX6_leaveOut_5 (by decide) ?_
  obtain ⟨hg1, hres⟩ := m_gd_e hres
  obtain ⟨M2, eM2, hres⟩ := m_bd_e hres
  refine m_is (j := x1.toNatClampNeg) X hSt hP hS m_z_160 hg1 rfl dX6_leaveOut_6 eM2 (fun H locs hP hS => ?_)
  refine lv_aload_n X.1 X.2.1 dX6_leaveOut_7 rfl (lv_at hl 0 rfl) ?_
  refine m_g6 (v := .ref (m_ad G 161)) X hSt hP m_z_159 2 (by decide) rfl k_f_X6_15 dX6_leaveOut_8 ?_
  refine lv_iload_n X.1 X.2.1 dX6_leaveOut_11 rfl (lv_at hl 1 rfl) ?_
  refine lv_iconst (v := (-1)) X.1 X.2.1 dX6_leaveOut_12 (by decide) ?_
  obtain ⟨M3, eM3, hres⟩ := m_bd_e hres
  refine m_is (j := x1.toNatClampNeg) X hSt hP hS m_z_161 hg1 rfl dX6_leaveOut_13 eM3 (fun H locs hP hS => ?_)
  refine lv_aload_n X.1 X.2.1 dX6_leaveOut_14 rfl (lv_at hl 0 rfl) ?_
  refine m_g6 (v := .ref (m_ad G 162)) X hSt hP m_z_159 3 (by decide) rfl k_f_X6_18 dX6_leaveOut_15 ?_
  refine lv_iload_n X.1 X.2.1 dX6_leaveOut_18 rfl (lv_at hl 1 rfl) ?_
  refine lv_iconst (v := 0) X.1 X.2.1 dX6_leaveOut_19 (by decide) ?_
  obtain ⟨M4, eM4, hres⟩ := m_bd_e hres
  refine m_is (j := x1.toNatClampNeg) X hSt hP hS m_z_162 hg1 rfl dX6_leaveOut_20 eM4 (fun H locs hP hS => ?_)
  refine lv_aload_n X.1 X.2.1 dX6_leaveOut_21 rfl (lv_at hl 0 rfl) ?_
  refine m_g6 (v := .ref (m_ad G 163)) X hSt hP m_z_159 4 (by decide) rfl k_f_X6_21 dX6_leaveOut_22 ?_
  refine lv_iload_n X.1 X.2.1 dX6_leaveOut_25 rfl (lv_at hl 1 rfl) ?_
  refine lv_iconst (v := 0) X.1 X.2.1 dX6_leaveOut_26 (by decide) ?_
  obtain ⟨M5, eM5, hres⟩ := m_bd_e hres
  refine m_is (j := x1.toNatClampNeg) X hSt hP hS m_z_163 hg1 rfl dX6_leaveOut_27 eM5 (fun H locs hP hS => ?_)
  refine lv_aload_n X.1 X.2.1 dX6_leaveOut_28 rfl (lv_at hl 0 rfl) ?_
  refine m_g6 (v := .ref (m_ad G 164)) X hSt hP m_z_159 5 (by decide) rfl k_f_X6_24 dX6_leaveOut_29 ?_
  refine lv_iload_n X.1 X.2.1 dX6_leaveOut_32 rfl (lv_at hl 1 rfl) ?_
  refine lv_iconst (v := 0) X.1 X.2.1 dX6_leaveOut_33 (by decide) ?_
  obtain ⟨M6, eM6, hres⟩ := m_bd_e hres
  refine m_is (j := x1.toNatClampNeg) X hSt hP hS m_z_164 hg1 rfl dX6_leaveOut_34 eM6 (fun H locs hP hS => ?_)
  refine lv_aload_n X.1 X.2.1 dX6_leaveOut_35 rfl (lv_at hl 0 rfl) ?_
  refine m_g6 (v := .ref (m_ad G 165)) X hSt hP m_z_159 6 (by decide) rfl k_f_X6_27 dX6_leaveOut_36 ?_
  refine lv_iload_n X.1 X.2.1 dX6_leaveOut_39 rfl (lv_at hl 1 rfl) ?_
  refine lv_iconst (v := 0) X.1 X.2.1 dX6_leaveOut_40 (by decide) ?_
  obtain ⟨M7, eM7, hres⟩ := m_bd_e hres
  refine m_is (j := x1.toNatClampNeg) X hSt hP hS m_z_165 hg1 rfl dX6_leaveOut_41 eM7 (fun H locs hP hS => ?_)
  refine lv_aload_n X.1 X.2.1 dX6_leaveOut_42 rfl (lv_at hl 0 rfl) ?_
  refine m_g6 (v := .ref (m_ad G 166)) X hSt hP m_z_159 7 (by decide) rfl k_f_X6_30 dX6_leaveOut_43 ?_
  refine lv_iload_n X.1 X.2.1 dX6_leaveOut_46 rfl (lv_at hl 1 rfl) ?_
  refine lv_iconst (v := 0) X.1 X.2.1 dX6_leaveOut_47 (by decide) ?_
  obtain ⟨M8, eM8, hres⟩ := m_bd_e hres
  refine m_zs (j := x1.toNatClampNeg) X hSt hP hS m_z_166 hg1 rfl (by decide)  dX6_leaveOut_48 eM8 (fun H locs hP hS => ?_)
  refine lv_aload_n X.1 X.2.1 dX6_leaveOut_49 rfl (lv_at hl 0 rfl) ?_
  refine m_g6 (v := .ref (m_ad G 167)) X hSt hP m_z_159 8 (by decide) rfl k_f_X6_34 dX6_leaveOut_50 ?_
  refine lv_iload_n X.1 X.2.1 dX6_leaveOut_53 rfl (lv_at hl 1 rfl) ?_
  refine lv_iconst (v := 0) X.1 X.2.1 dX6_leaveOut_54 (by decide) ?_
  obtain ⟨M9, eM9, hres⟩ := m_bd_e hres
  refine m_zs (j := x1.toNatClampNeg) X hSt hP hS m_z_167 hg1 rfl (by decide)  dX6_leaveOut_55 eM9 (fun H locs hP hS => ?_)
  exact m_rv X hr hlk hP hS (Option.some.inj hres) dX6_leaveOut_56
