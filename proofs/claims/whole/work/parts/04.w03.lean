/-! WALKS 3: X4_work X4_brought X1_netOf X1_addSeconds X1_reckon X0_left X0_there X1_isPurseOpen X1_hiddenBehind X1_purseAsk X1_allOwed X1_shareAbove X1_askAbove X1_askBelow X7_commonMeasure X7_setFraction X7_ask X7_ways X7_askInAllWays J13_compare_74951 X7_compare -/
theorem dX4_work_0 : decode cX4_work 0 = .ok (.iconst 0, 1) := by decide +kernel
theorem dX4_work_1 : decode cX4_work 1 = .ok (.istore_n 2, 1) := by decide +kernel
theorem dX4_work_2 : decode cX4_work 2 = .ok (.iconst 0, 1) := by decide +kernel
theorem dX4_work_3 : decode cX4_work 3 = .ok (.istore_n 3, 1) := by decide +kernel
theorem dX4_work_4 : decode cX4_work 4 = .ok (.iload_n 3, 1) := by decide +kernel
theorem dX4_work_5 : decode cX4_work 5 = .ok (.aload_n 0, 1) := by decide +kernel
theorem dX4_work_6 : decode cX4_work 6 = .ok (.getfield 61, 3) := by decide +kernel
theorem dX4_work_9 : decode cX4_work 9 = .ok (.if_icmp .ge 182, 3) := by decide +kernel
theorem dX4_work_12 : decode cX4_work 12 = .ok (.aload_n 0, 1) := by decide +kernel
theorem dX4_work_13 : decode cX4_work 13 = .ok (.getfield 15, 3) := by decide +kernel
theorem dX4_work_16 : decode cX4_work 16 = .ok (.iload_n 3, 1) := by decide +kernel
theorem dX4_work_17 : decode cX4_work 17 = .ok (.iaload, 1) := by decide +kernel
theorem dX4_work_18 : decode cX4_work 18 = .ok (.istore 4, 2) := by decide +kernel
theorem dX4_work_20 : decode cX4_work 20 = .ok (.iload 4, 2) := by decide +kernel
theorem dX4_work_22 : decode cX4_work 22 = .ok (.bipush 110, 2) := by decide +kernel
theorem dX4_work_24 : decode cX4_work 24 = .ok (.if_icmp .eq 10, 3) := by decide +kernel
theorem dX4_work_27 : decode cX4_work 27 = .ok (.iload 4, 2) := by decide +kernel
theorem dX4_work_29 : decode cX4_work 29 = .ok (.bipush 118, 2) := by decide +kernel
theorem dX4_work_31 : decode cX4_work 31 = .ok (.if_icmp .ne 48, 3) := by decide +kernel
theorem dX4_work_34 : decode cX4_work 34 = .ok (.iload_n 2, 1) := by decide +kernel
theorem dX4_work_35 : decode cX4_work 35 = .ok (.bipush 50, 2) := by decide +kernel
theorem dX4_work_37 : decode cX4_work 37 = .ok (.if_icmp .lt 5, 3) := by decide +kernel
theorem dX4_work_40 : decode cX4_work 40 = .ok (.lconst 0, 1) := by decide +kernel
theorem dX4_work_41 : decode cX4_work 41 = .ok (.lreturn, 1) := by decide +kernel
theorem dX4_work_42 : decode cX4_work 42 = .ok (.aload_n 0, 1) := by decide +kernel
theorem dX4_work_43 : decode cX4_work 43 = .ok (.getfield 22, 3) := by decide +kernel
theorem dX4_work_46 : decode cX4_work 46 = .ok (.iload_n 2, 1) := by decide +kernel
theorem dX4_work_47 : decode cX4_work 47 = .ok (.iload 4, 2) := by decide +kernel
theorem dX4_work_49 : decode cX4_work 49 = .ok (.bipush 110, 2) := by decide +kernel
theorem dX4_work_51 : decode cX4_work 51 = .ok (.if_icmp .ne 12, 3) := by decide +kernel
theorem dX4_work_54 : decode cX4_work 54 = .ok (.aload_n 0, 1) := by decide +kernel
theorem dX4_work_55 : decode cX4_work 55 = .ok (.getfield 18, 3) := by decide +kernel
theorem dX4_work_58 : decode cX4_work 58 = .ok (.iload_n 3, 1) := by decide +kernel
theorem dX4_work_59 : decode cX4_work 59 = .ok (.laload, 1) := by decide +kernel
theorem dX4_work_60 : decode cX4_work 60 = .ok (.goto 12, 3) := by decide +kernel
theorem dX4_work_63 : decode cX4_work 63 = .ok (.aload_n 1, 1) := by decide +kernel
theorem dX4_work_64 : decode cX4_work 64 = .ok (.aload_n 0, 1) := by decide +kernel
theorem dX4_work_65 : decode cX4_work 65 = .ok (.getfield 18, 3) := by decide +kernel
theorem dX4_work_68 : decode cX4_work 68 = .ok (.iload_n 3, 1) := by decide +kernel
theorem dX4_work_69 : decode cX4_work 69 = .ok (.laload, 1) := by decide +kernel
theorem dX4_work_70 : decode cX4_work 70 = .ok (.l2i, 1) := by decide +kernel
theorem dX4_work_71 : decode cX4_work 71 = .ok (.laload, 1) := by decide +kernel
theorem dX4_work_72 : decode cX4_work 72 = .ok (.lastore, 1) := by decide +kernel
theorem dX4_work_73 : decode cX4_work 73 = .ok (.iinc 2 1, 3) := by decide +kernel
theorem dX4_work_76 : decode cX4_work 76 = .ok (.goto 109, 3) := by decide +kernel
theorem dX4_work_79 : decode cX4_work 79 = .ok (.iload 4, 2) := by decide +kernel
theorem dX4_work_81 : decode cX4_work 81 = .ok (.bipush 33, 2) := by decide +kernel
theorem dX4_work_83 : decode cX4_work 83 = .ok (.if_icmp .eq 10, 3) := by decide +kernel
theorem dX4_work_86 : decode cX4_work 86 = .ok (.iload 4, 2) := by decide +kernel
theorem dX4_work_88 : decode cX4_work 88 = .ok (.bipush 126, 2) := by decide +kernel
theorem dX4_work_90 : decode cX4_work 90 = .ok (.if_icmp .ne 58, 3) := by decide +kernel
theorem dX4_work_93 : decode cX4_work 93 = .ok (.iload_n 2, 1) := by decide +kernel
theorem dX4_work_94 : decode cX4_work 94 = .ok (.iconst 1, 1) := by decide +kernel
theorem dX4_work_95 : decode cX4_work 95 = .ok (.if_icmp .ge 5, 3) := by decide +kernel
theorem dX4_work_98 : decode cX4_work 98 = .ok (.lconst 0, 1) := by decide +kernel
theorem dX4_work_99 : decode cX4_work 99 = .ok (.lreturn, 1) := by decide +kernel
theorem dX4_work_100 : decode cX4_work 100 = .ok (.aload_n 0, 1) := by decide +kernel
theorem dX4_work_101 : decode cX4_work 101 = .ok (.getfield 22, 3) := by decide +kernel
theorem dX4_work_104 : decode cX4_work 104 = .ok (.iload_n 2, 1) := by decide +kernel
theorem dX4_work_105 : decode cX4_work 105 = .ok (.iconst 1, 1) := by decide +kernel
theorem dX4_work_106 : decode cX4_work 106 = .ok (.isub, 1) := by decide +kernel
theorem dX4_work_107 : decode cX4_work 107 = .ok (.iload 4, 2) := by decide +kernel
theorem dX4_work_109 : decode cX4_work 109 = .ok (.bipush 126, 2) := by decide +kernel
theorem dX4_work_111 : decode cX4_work 111 = .ok (.if_icmp .ne 15, 3) := by decide +kernel
theorem dX4_work_114 : decode cX4_work 114 = .ok (.aload_n 0, 1) := by decide +kernel
theorem dX4_work_115 : decode cX4_work 115 = .ok (.getfield 22, 3) := by decide +kernel
theorem dX4_work_118 : decode cX4_work 118 = .ok (.iload_n 2, 1) := by decide +kernel
theorem dX4_work_119 : decode cX4_work 119 = .ok (.iconst 1, 1) := by decide +kernel
theorem dX4_work_120 : decode cX4_work 120 = .ok (.isub, 1) := by decide +kernel
theorem dX4_work_121 : decode cX4_work 121 = .ok (.laload, 1) := by decide +kernel
theorem dX4_work_122 : decode cX4_work 122 = .ok (.lneg, 1) := by decide +kernel
theorem dX4_work_123 : decode cX4_work 123 = .ok (.goto 21, 3) := by decide +kernel
theorem dX4_work_126 : decode cX4_work 126 = .ok (.aload_n 0, 1) := by decide +kernel
theorem dX4_work_127 : decode cX4_work 127 = .ok (.getfield 22, 3) := by decide +kernel
theorem dX4_work_130 : decode cX4_work 130 = .ok (.iload_n 2, 1) := by decide +kernel
theorem dX4_work_131 : decode cX4_work 131 = .ok (.iconst 1, 1) := by decide +kernel
theorem dX4_work_132 : decode cX4_work 132 = .ok (.isub, 1) := by decide +kernel
theorem dX4_work_133 : decode cX4_work 133 = .ok (.laload, 1) := by decide +kernel
theorem dX4_work_134 : decode cX4_work 134 = .ok (.lconst 0, 1) := by decide +kernel
theorem dX4_work_135 : decode cX4_work 135 = .ok (.lcmp, 1) := by decide +kernel
theorem dX4_work_136 : decode cX4_work 136 = .ok (.ifCond .ne 7, 3) := by decide +kernel
theorem dX4_work_139 : decode cX4_work 139 = .ok (.lconst 1, 1) := by decide +kernel
theorem dX4_work_140 : decode cX4_work 140 = .ok (.goto 4, 3) := by decide +kernel
theorem dX4_work_143 : decode cX4_work 143 = .ok (.lconst 0, 1) := by decide +kernel
theorem dX4_work_144 : decode cX4_work 144 = .ok (.lastore, 1) := by decide +kernel
theorem dX4_work_145 : decode cX4_work 145 = .ok (.goto 40, 3) := by decide +kernel
theorem dX4_work_148 : decode cX4_work 148 = .ok (.iload_n 2, 1) := by decide +kernel
theorem dX4_work_149 : decode cX4_work 149 = .ok (.iconst 2, 1) := by decide +kernel
theorem dX4_work_150 : decode cX4_work 150 = .ok (.if_icmp .ge 5, 3) := by decide +kernel
theorem dX4_work_153 : decode cX4_work 153 = .ok (.lconst 0, 1) := by decide +kernel
theorem dX4_work_154 : decode cX4_work 154 = .ok (.lreturn, 1) := by decide +kernel
theorem dX4_work_155 : decode cX4_work 155 = .ok (.iinc 2 (-1), 3) := by decide +kernel
theorem dX4_work_158 : decode cX4_work 158 = .ok (.aload_n 0, 1) := by decide +kernel
theorem dX4_work_159 : decode cX4_work 159 = .ok (.getfield 22, 3) := by decide +kernel
theorem dX4_work_162 : decode cX4_work 162 = .ok (.iload_n 2, 1) := by decide +kernel
theorem dX4_work_163 : decode cX4_work 163 = .ok (.iconst 1, 1) := by decide +kernel
theorem dX4_work_164 : decode cX4_work 164 = .ok (.isub, 1) := by decide +kernel
theorem dX4_work_165 : decode cX4_work 165 = .ok (.iload 4, 2) := by decide +kernel
theorem dX4_work_167 : decode cX4_work 167 = .ok (.aload_n 0, 1) := by decide +kernel
theorem dX4_work_168 : decode cX4_work 168 = .ok (.getfield 22, 3) := by decide +kernel
theorem dX4_work_171 : decode cX4_work 171 = .ok (.iload_n 2, 1) := by decide +kernel
theorem dX4_work_172 : decode cX4_work 172 = .ok (.iconst 1, 1) := by decide +kernel
theorem dX4_work_173 : decode cX4_work 173 = .ok (.isub, 1) := by decide +kernel
theorem dX4_work_174 : decode cX4_work 174 = .ok (.laload, 1) := by decide +kernel
theorem dX4_work_175 : decode cX4_work 175 = .ok (.aload_n 0, 1) := by decide +kernel
theorem dX4_work_176 : decode cX4_work 176 = .ok (.getfield 22, 3) := by decide +kernel
theorem dX4_work_179 : decode cX4_work 179 = .ok (.iload_n 2, 1) := by decide +kernel
theorem dX4_work_180 : decode cX4_work 180 = .ok (.laload, 1) := by decide +kernel
theorem dX4_work_181 : decode cX4_work 181 = .ok (.invokestatic 118, 3) := by decide +kernel
theorem dX4_work_184 : decode cX4_work 184 = .ok (.lastore, 1) := by decide +kernel
theorem dX4_work_185 : decode cX4_work 185 = .ok (.iinc 3 1, 3) := by decide +kernel
theorem dX4_work_188 : decode cX4_work 188 = .ok (.goto (-184), 3) := by decide +kernel
theorem dX4_work_191 : decode cX4_work 191 = .ok (.iload_n 2, 1) := by decide +kernel
theorem dX4_work_192 : decode cX4_work 192 = .ok (.iconst 1, 1) := by decide +kernel
theorem dX4_work_193 : decode cX4_work 193 = .ok (.if_icmp .ge 7, 3) := by decide +kernel
theorem dX4_work_196 : decode cX4_work 196 = .ok (.lconst 0, 1) := by decide +kernel
theorem dX4_work_197 : decode cX4_work 197 = .ok (.goto 9, 3) := by decide +kernel
theorem dX4_work_200 : decode cX4_work 200 = .ok (.aload_n 0, 1) := by decide +kernel
theorem dX4_work_201 : decode cX4_work 201 = .ok (.getfield 22, 3) := by decide +kernel
theorem dX4_work_204 : decode cX4_work 204 = .ok (.iconst 0, 1) := by decide +kernel
theorem dX4_work_205 : decode cX4_work 205 = .ok (.laload, 1) := by decide +kernel
theorem dX4_work_206 : decode cX4_work 206 = .ok (.lreturn, 1) := by decide +kernel
def f_X4_work_b34 (n : Nat) (k0 : Nat) (q4 : Int32 → Int32 → m_M → Option (Int64 × m_M)) (x2 : Int32) (x3 : Int32) (x4 : Int32) (M : m_M) : Option (Int64 × m_M) :=
  if x2 < 50 then
  if x4 = 110 then
  m_gd (m_in x3 50) (
  m_gd (m_in x2 50) (
  m_bd (m_sL M (k0 + 4) x2.toNatClampNeg (M.2 (k0 + 3) x3.toNatClampNeg)) fun M9 =>
  q4 (x2 + 1) (x3 + 1) M9))
  else
  m_gd (m_in x3 50) (
  m_gd (m_in ((M.2 (k0 + 3) x3.toNatClampNeg).toInt32) 5) (
  m_gd (m_in x2 50) (
  m_bd (m_sL M (k0 + 4) x2.toNatClampNeg (M.2 48 (((M.2 (k0 + 3) x3.toNatClampNeg).toInt32).toNatClampNeg))) fun M6 =>
  q4 (x2 + 1) (x3 + 1) M6)))
  else
  some (0, M)
def f_X4_work_b93 (n : Nat) (k0 : Nat) (q4 : Int32 → Int32 → m_M → Option (Int64 × m_M)) (x2 : Int32) (x3 : Int32) (x4 : Int32) (M : m_M) : Option (Int64 × m_M) :=
  if (1 : Int32) ≤ x2 then
  if x4 = 126 then
  m_gd (m_in (x2 - (1 : Int32)) 50) (
  m_bd (m_sL M (k0 + 4) ((x2 - (1 : Int32)).toNatClampNeg) (-(M.2 (k0 + 4) ((x2 - (1 : Int32)).toNatClampNeg)))) fun M17 =>
  q4 x2 (x3 + 1) M17)
  else
  m_gd (m_in (x2 - (1 : Int32)) 50) (
  if (M.2 (k0 + 4) ((x2 - (1 : Int32)).toNatClampNeg)) = 0 then
  m_bd (m_sL M (k0 + 4) ((x2 - (1 : Int32)).toNatClampNeg) 1) fun M15 =>
  q4 x2 (x3 + 1) M15
  else
  m_bd (m_sL M (k0 + 4) ((x2 - (1 : Int32)).toNatClampNeg) 0) fun M14 =>
  q4 x2 (x3 + 1) M14)
  else
  some (0, M)
def f_X4_work_b4 (n : Nat) (k0 : Nat) : Nat → Int32 → Int32 → m_M → Option (Int64 × m_M)
  | 0, _, _, _ => none
  | u + 1, x2, x3, M =>
    if (M.1 k0 5) ≤ x3 then
  if (1 : Int32) ≤ x2 then
  some ((M.2 (k0 + 4) 0), M)
  else
  some (0, M)
  else
  m_gd (m_in x3 50) (
  if (M.1 (k0 + 2) x3.toNatClampNeg) = 110 then
  f_X4_work_b34 n k0 (f_X4_work_b4 n k0 u) x2 x3 (M.1 (k0 + 2) x3.toNatClampNeg) M
  else
  if (M.1 (k0 + 2) x3.toNatClampNeg) = 118 then
  f_X4_work_b34 n k0 (f_X4_work_b4 n k0 u) x2 x3 (M.1 (k0 + 2) x3.toNatClampNeg) M
  else
  if (M.1 (k0 + 2) x3.toNatClampNeg) = 33 then
  f_X4_work_b93 n k0 (f_X4_work_b4 n k0 u) x2 x3 (M.1 (k0 + 2) x3.toNatClampNeg) M
  else
  if (M.1 (k0 + 2) x3.toNatClampNeg) = 126 then
  f_X4_work_b93 n k0 (f_X4_work_b4 n k0 u) x2 x3 (M.1 (k0 + 2) x3.toNatClampNeg) M
  else
  if (2 : Int32) ≤ x2 then
  m_gd (m_in ((x2 + (-1)) - (1 : Int32)) 50) (
  m_gd (m_in (x2 + (-1)) 50) (
  m_ob (f_X4_join (M.1 (k0 + 2) x3.toNatClampNeg) (M.2 (k0 + 4) (((x2 + (-1)) - (1 : Int32)).toNatClampNeg)) (M.2 (k0 + 4) ((x2 + (-1)).toNatClampNeg))) fun r28 =>
  m_bd (m_sL M (k0 + 4) (((x2 + (-1)) - (1 : Int32)).toNatClampNeg) r28) fun M29 =>
  f_X4_work_b4 n k0 u (x2 + (-1)) (x3 + 1) M29))
  else
  some (0, M))
def f_X4_work (n : Nat) (k0 : Nat) (M : m_M) : Option (Int64 × m_M) :=
  f_X4_work_b4 n k0 n 0 0 M
set_option maxHeartbeats 4000000 in
set_option maxRecDepth 100000 in
theorem c_X4_work (l : Launch) (G : m_G) {n : Nat} {k0 : Nat} {M : m_M} {r0 : Int64} {M0 : m_M} (hk0 : m_isLaw k0) (hres : f_X4_work n k0 M = some (r0, M0)) : Met l yX4_work (m_U yX4_work cX4_work 5 (some .long)) (m_R 1 24) (m_Pc G [.ref (m_ad G k0), .ref (m_ad G 48)] M) (m_Ql G r0 M0) 0 0 (m_A G) := by
  refine m_i0 (n := 5) RX4 rfl (by decide) (Nat.le_of_ble_eq_true rfl) ?_
  intro p e s m args below meth c X hr hlk hSt hP hS ls hl
  have hl : lv_has ls 5 [(0, .ref (m_ad G k0)), (1, .ref (m_ad G 48))] := hl
  have B34 : ∀ (q4 : Int32 → Int32 → m_M → Option (Int64 × m_M)) (hq4 : ∀ (x2 : Int32) (x3 : Int32) (M : m_M) (H : Heap) (locs : List Loc) (ls : Array Slot), m_P G M H → va_S (m_A G) s.heap H locs → lv_has ls 5 [(0, .ref (m_ad G k0)), (1, .ref (m_ad G 48)), (2, .int x2), (3, .int x3)] → q4 x2 x3 M = some (r0, M0) → W p l e (m_R 1 24) s m args below meth c H locs 0 0 (MQ below (m_Ql G r0 M0) args s 0 0 (m_A G)) (F0 m 4 ls [])) (x2 : Int32) (x3 : Int32) (x4 : Int32) (M : m_M) (H : Heap) (locs : List Loc) (ls : Array Slot), m_P G M H → va_S (m_A G) s.heap H locs → lv_has ls 5 [(0, .ref (m_ad G k0)), (1, .ref (m_ad G 48)), (2, .int x2), (3, .int x3), (4, .int x4)] → f_X4_work_b34 n k0 q4 x2 x3 x4 M = some (r0, M0) → W p l e (m_R 1 24) s m args below meth c H locs 0 0 (MQ below (m_Ql G r0 M0) args s 0 0 (m_A G)) (F0 m 34 ls []) := by
    intro q4 hq4 x2 x3 x4 M H locs ls hP hS hl hres
    unfold f_X4_work_b34 at hres
    refine lv_iload_n X.1 X.2.1 dX4_work_34 rfl (lv_at hl 2 rfl) ?_
    refine lv_bipush (v := 50) X.1 X.2.1 dX4_work_35 (by decide) ?_
    refine lv_icmp_lt (tgt := 42) X.1 X.2.1 dX4_work_37 (by decide) (fun hc1 => ?_) (fun hc1 => ?_)
    · have hres := m_it hres hc1
      refine lv_aload_n X.1 X.2.1 dX4_work_42 rfl (lv_at hl 0 rfl) ?_
      refine m_g4 (v := .ref (m_ad G (k0 + 4))) X hSt hP hk0.1 4 (by decide) rfl k_f_X4_22 dX4_work_43 ?_
      refine lv_iload_n X.1 X.2.1 dX4_work_46 rfl (lv_at hl 2 rfl) ?_
      refine lv_iload X.1 X.2.1 dX4_work_47 (lv_at hl 4 rfl) ?_
      refine lv_bipush (v := 110) X.1 X.2.1 dX4_work_49 (by decide) ?_
      refine lv_icmp_ne (tgt := 63) X.1 X.2.1 dX4_work_51 (by decide) (fun hc2 => ?_) (fun hc2 => ?_)
      · have hres := m_if hres hc2
        refine lv_aload_n X.1 X.2.1 dX4_work_63 rfl (lv_at hl 1 rfl) ?_
        refine lv_aload_n X.1 X.2.1 dX4_work_64 rfl (lv_at hl 0 rfl) ?_
        refine m_g4 (v := .ref (m_ad G (k0 + 3))) X hSt hP hk0.1 3 (by decide) rfl k_f_X4_18 dX4_work_65 ?_
        refine lv_iload_n X.1 X.2.1 dX4_work_68 rfl (lv_at hl 3 rfl) ?_
        obtain ⟨hg3, hres⟩ := m_gd_e hres
        refine m_la (j := x3.toNatClampNeg) X hSt hP hk0.2.2.2.1 hg3 rfl dX4_work_69 ?_
        refine lv_l2i (v := (M.2 (k0 + 3) x3.toNatClampNeg).toInt32) X.1 X.2.1 dX4_work_70 rfl ?_
        obtain ⟨hg4, hres⟩ := m_gd_e hres
        refine m_la (j := (((M.2 (k0 + 3) x3.toNatClampNeg).toInt32).toNatClampNeg)) X hSt hP m_z_48 hg4 rfl dX4_work_71 ?_
        obtain ⟨hg5, hres⟩ := m_gd_e hres
        obtain ⟨M6, eM6, hres⟩ := m_bd_e hres
        refine m_ls (j := x2.toNatClampNeg) X hSt hP hS hk0.2.2.2.2 hg5 rfl dX4_work_72 eM6 (fun H locs hP hS => ?_)
        refine lv_iinc (v := (x2 + 1)) (lv' := [(2, .int (x2 + 1)), (0, .ref (m_ad G k0)), (1, .ref (m_ad G 48)), (3, .int x3), (4, .int x4)]) X.1 X.2.1 dX4_work_73 hl (k := 2) rfl rfl (by decide) rfl (fun ls hl => ?_)
        refine lv_goto (tgt := 185) X.1 X.2.1 dX4_work_76 (by decide) ?_
        refine lv_iinc (v := (x3 + 1)) (lv' := [(3, .int (x3 + 1)), (2, .int (x2 + 1)), (0, .ref (m_ad G k0)), (1, .ref (m_ad G 48)), (4, .int x4)]) X.1 X.2.1 dX4_work_185 hl (k := 3) rfl rfl (by decide) rfl (fun ls hl => ?_)
        refine lv_goto (tgt := 4) X.1 X.2.1 dX4_work_188 (by decide) ?_
        exact hq4 (x2 + 1) (x3 + 1) M6 _ _ _ hP hS (lv_sub hl [2, 3, 1, 0] rfl) hres
      · have hres := m_it hres hc2
        refine lv_aload_n X.1 X.2.1 dX4_work_54 rfl (lv_at hl 0 rfl) ?_
        refine m_g4 (v := .ref (m_ad G (k0 + 3))) X hSt hP hk0.1 3 (by decide) rfl k_f_X4_18 dX4_work_55 ?_
        refine lv_iload_n X.1 X.2.1 dX4_work_58 rfl (lv_at hl 3 rfl) ?_
        obtain ⟨hg7, hres⟩ := m_gd_e hres
        refine m_la (j := x3.toNatClampNeg) X hSt hP hk0.2.2.2.1 hg7 rfl dX4_work_59 ?_
        refine lv_goto (tgt := 72) X.1 X.2.1 dX4_work_60 (by decide) ?_
        obtain ⟨hg8, hres⟩ := m_gd_e hres
        obtain ⟨M9, eM9, hres⟩ := m_bd_e hres
        refine m_ls (j := x2.toNatClampNeg) X hSt hP hS hk0.2.2.2.2 hg8 rfl dX4_work_72 eM9 (fun H locs hP hS => ?_)
        refine lv_iinc (v := (x2 + 1)) (lv' := [(2, .int (x2 + 1)), (0, .ref (m_ad G k0)), (1, .ref (m_ad G 48)), (3, .int x3), (4, .int x4)]) X.1 X.2.1 dX4_work_73 hl (k := 2) rfl rfl (by decide) rfl (fun ls hl => ?_)
        refine lv_goto (tgt := 185) X.1 X.2.1 dX4_work_76 (by decide) ?_
        refine lv_iinc (v := (x3 + 1)) (lv' := [(3, .int (x3 + 1)), (2, .int (x2 + 1)), (0, .ref (m_ad G k0)), (1, .ref (m_ad G 48)), (4, .int x4)]) X.1 X.2.1 dX4_work_185 hl (k := 3) rfl rfl (by decide) rfl (fun ls hl => ?_)
        refine lv_goto (tgt := 4) X.1 X.2.1 dX4_work_188 (by decide) ?_
        exact hq4 (x2 + 1) (x3 + 1) M9 _ _ _ hP hS (lv_sub hl [2, 3, 1, 0] rfl) hres
    · have hres := m_if hres hc1
      refine lv_lconst (v := 0) X.1 X.2.1 dX4_work_40 (by decide) ?_
      exact m_rl X hr hlk hP hS (Prod.mk.inj (Option.some.inj hres)).1 (Prod.mk.inj (Option.some.inj hres)).2 dX4_work_41
  have B93 : ∀ (q4 : Int32 → Int32 → m_M → Option (Int64 × m_M)) (hq4 : ∀ (x2 : Int32) (x3 : Int32) (M : m_M) (H : Heap) (locs : List Loc) (ls : Array Slot), m_P G M H → va_S (m_A G) s.heap H locs → lv_has ls 5 [(0, .ref (m_ad G k0)), (1, .ref (m_ad G 48)), (2, .int x2), (3, .int x3)] → q4 x2 x3 M = some (r0, M0) → W p l e (m_R 1 24) s m args below meth c H locs 0 0 (MQ below (m_Ql G r0 M0) args s 0 0 (m_A G)) (F0 m 4 ls [])) (x2 : Int32) (x3 : Int32) (x4 : Int32) (M : m_M) (H : Heap) (locs : List Loc) (ls : Array Slot), m_P G M H → va_S (m_A G) s.heap H locs → lv_has ls 5 [(0, .ref (m_ad G k0)), (1, .ref (m_ad G 48)), (2, .int x2), (3, .int x3), (4, .int x4)] → f_X4_work_b93 n k0 q4 x2 x3 x4 M = some (r0, M0) → W p l e (m_R 1 24) s m args below meth c H locs 0 0 (MQ below (m_Ql G r0 M0) args s 0 0 (m_A G)) (F0 m 93 ls []) := by
    intro q4 hq4 x2 x3 x4 M H locs ls hP hS hl hres
    unfold f_X4_work_b93 at hres
    refine lv_iload_n X.1 X.2.1 dX4_work_93 rfl (lv_at hl 2 rfl) ?_
    refine lv_iconst (v := 1) X.1 X.2.1 dX4_work_94 (by decide) ?_
    refine lv_icmp_ge (tgt := 100) X.1 X.2.1 dX4_work_95 (by decide) (fun hc10 => ?_) (fun hc10 => ?_)
    · have hres := m_it hres hc10
      refine lv_aload_n X.1 X.2.1 dX4_work_100 rfl (lv_at hl 0 rfl) ?_
      refine m_g4 (v := .ref (m_ad G (k0 + 4))) X hSt hP hk0.1 4 (by decide) rfl k_f_X4_22 dX4_work_101 ?_
      refine lv_iload_n X.1 X.2.1 dX4_work_104 rfl (lv_at hl 2 rfl) ?_
      refine lv_iconst (v := 1) X.1 X.2.1 dX4_work_105 (by decide) ?_
      refine lv_isub X.1 X.2.1 dX4_work_106 ?_
      refine lv_iload X.1 X.2.1 dX4_work_107 (lv_at hl 4 rfl) ?_
      refine lv_bipush (v := 126) X.1 X.2.1 dX4_work_109 (by decide) ?_
      refine lv_icmp_ne (tgt := 126) X.1 X.2.1 dX4_work_111 (by decide) (fun hc11 => ?_) (fun hc11 => ?_)
      · have hres := m_if hres hc11
        refine lv_aload_n X.1 X.2.1 dX4_work_126 rfl (lv_at hl 0 rfl) ?_
        refine m_g4 (v := .ref (m_ad G (k0 + 4))) X hSt hP hk0.1 4 (by decide) rfl k_f_X4_22 dX4_work_127 ?_
        refine lv_iload_n X.1 X.2.1 dX4_work_130 rfl (lv_at hl 2 rfl) ?_
        refine lv_iconst (v := 1) X.1 X.2.1 dX4_work_131 (by decide) ?_
        refine lv_isub X.1 X.2.1 dX4_work_132 ?_
        obtain ⟨hg12, hres⟩ := m_gd_e hres
        refine m_la (j := ((x2 - (1 : Int32)).toNatClampNeg)) X hSt hP hk0.2.2.2.2 hg12 rfl dX4_work_133 ?_
        refine lv_lconst (v := 0) X.1 X.2.1 dX4_work_134 (by decide) ?_
        refine m_lne (tgt := 143) X dX4_work_135 dX4_work_136 (by decide) (fun hc13 => ?_) (fun hc13 => ?_)
        · have hres := m_if hres hc13
          refine lv_lconst (v := 0) X.1 X.2.1 dX4_work_143 (by decide) ?_
          obtain ⟨M14, eM14, hres⟩ := m_bd_e hres
          refine m_ls (j := ((x2 - (1 : Int32)).toNatClampNeg)) X hSt hP hS hk0.2.2.2.2 hg12 rfl dX4_work_144 eM14 (fun H locs hP hS => ?_)
          refine lv_goto (tgt := 185) X.1 X.2.1 dX4_work_145 (by decide) ?_
          refine lv_iinc (v := (x3 + 1)) (lv' := [(3, .int (x3 + 1)), (0, .ref (m_ad G k0)), (1, .ref (m_ad G 48)), (2, .int x2), (4, .int x4)]) X.1 X.2.1 dX4_work_185 hl (k := 3) rfl rfl (by decide) rfl (fun ls hl => ?_)
          refine lv_goto (tgt := 4) X.1 X.2.1 dX4_work_188 (by decide) ?_
          exact hq4 x2 (x3 + 1) M14 _ _ _ hP hS (lv_sub hl [1, 2, 3, 0] rfl) hres
        · have hres := m_it hres hc13
          refine lv_lconst (v := 1) X.1 X.2.1 dX4_work_139 (by decide) ?_
          refine lv_goto (tgt := 144) X.1 X.2.1 dX4_work_140 (by decide) ?_
          obtain ⟨M15, eM15, hres⟩ := m_bd_e hres
          refine m_ls (j := ((x2 - (1 : Int32)).toNatClampNeg)) X hSt hP hS hk0.2.2.2.2 hg12 rfl dX4_work_144 eM15 (fun H locs hP hS => ?_)
          refine lv_goto (tgt := 185) X.1 X.2.1 dX4_work_145 (by decide) ?_
          refine lv_iinc (v := (x3 + 1)) (lv' := [(3, .int (x3 + 1)), (0, .ref (m_ad G k0)), (1, .ref (m_ad G 48)), (2, .int x2), (4, .int x4)]) X.1 X.2.1 dX4_work_185 hl (k := 3) rfl rfl (by decide) rfl (fun ls hl => ?_)
          refine lv_goto (tgt := 4) X.1 X.2.1 dX4_work_188 (by decide) ?_
          exact hq4 x2 (x3 + 1) M15 _ _ _ hP hS (lv_sub hl [1, 2, 3, 0] rfl) hres
      · have hres := m_it hres hc11
        refine lv_aload_n X.1 X.2.1 dX4_work_114 rfl (lv_at hl 0 rfl) ?_
        refine m_g4 (v := .ref (m_ad G (k0 + 4))) X hSt hP hk0.1 4 (by decide) rfl k_f_X4_22 dX4_work_115 ?_
        refine lv_iload_n X.1 X.2.1 dX4_work_118 rfl (lv_at hl 2 rfl) ?_
        refine lv_iconst (v := 1) X.1 X.2.1 dX4_work_119 (by decide) ?_
        refine lv_isub X.1 X.2.1 dX4_work_120 ?_
        obtain ⟨hg16, hres⟩ := m_gd_e hres
        refine m_la (j := ((x2 - (1 : Int32)).toNatClampNeg)) X hSt hP hk0.2.2.2.2 hg16 rfl dX4_work_121 ?_
        refine lv_lneg X.1 X.2.1 dX4_work_122 ?_
        refine lv_goto (tgt := 144) X.1 X.2.1 dX4_work_123 (by decide) ?_
        obtain ⟨M17, eM17, hres⟩ := m_bd_e hres
        refine m_ls (j := ((x2 - (1 : Int32)).toNatClampNeg)) X hSt hP hS hk0.2.2.2.2 hg16 rfl dX4_work_144 eM17 (fun H locs hP hS => ?_)
        refine lv_goto (tgt := 185) X.1 X.2.1 dX4_work_145 (by decide) ?_
        refine lv_iinc (v := (x3 + 1)) (lv' := [(3, .int (x3 + 1)), (0, .ref (m_ad G k0)), (1, .ref (m_ad G 48)), (2, .int x2), (4, .int x4)]) X.1 X.2.1 dX4_work_185 hl (k := 3) rfl rfl (by decide) rfl (fun ls hl => ?_)
        refine lv_goto (tgt := 4) X.1 X.2.1 dX4_work_188 (by decide) ?_
        exact hq4 x2 (x3 + 1) M17 _ _ _ hP hS (lv_sub hl [1, 2, 3, 0] rfl) hres
    · have hres := m_if hres hc10
      refine lv_lconst (v := 0) X.1 X.2.1 dX4_work_98 (by decide) ?_
      exact m_rl X hr hlk hP hS (Prod.mk.inj (Option.some.inj hres)).1 (Prod.mk.inj (Option.some.inj hres)).2 dX4_work_99
  have B4 : ∀ (u : Nat) (x2 : Int32) (x3 : Int32) (M : m_M) (H : Heap) (locs : List Loc) (ls : Array Slot), m_P G M H → va_S (m_A G) s.heap H locs → lv_has ls 5 [(0, .ref (m_ad G k0)), (1, .ref (m_ad G 48)), (2, .int x2), (3, .int x3)] → f_X4_work_b4 n k0 u x2 x3 M = some (r0, M0) → W p l e (m_R 1 24) s m args below meth c H locs 0 0 (MQ below (m_Ql G r0 M0) args s 0 0 (m_A G)) (F0 m 4 ls []) := by
    intro u
    induction u with
    | zero =>
      intro x2 x3 M H locs ls hP hS hl hres
      cases hres
    | succ u ih =>
      intro x2 x3 M H locs ls hP hS hl hres
      rw [f_X4_work_b4] at hres
      refine lv_iload_n X.1 X.2.1 dX4_work_4 rfl (lv_at hl 3 rfl) ?_
      refine lv_aload_n X.1 X.2.1 dX4_work_5 rfl (lv_at hl 0 rfl) ?_
      refine m_g4 (v := .int (M.1 k0 5)) X hSt hP hk0.1 5 (by decide) rfl k_f_X4_61 dX4_work_6 ?_
      refine lv_icmp_ge (tgt := 191) X.1 X.2.1 dX4_work_9 (by decide) (fun hc18 => ?_) (fun hc18 => ?_)
      · have hres := m_it hres hc18
        refine lv_iload_n X.1 X.2.1 dX4_work_191 rfl (lv_at hl 2 rfl) ?_
        refine lv_iconst (v := 1) X.1 X.2.1 dX4_work_192 (by decide) ?_
        refine lv_icmp_ge (tgt := 200) X.1 X.2.1 dX4_work_193 (by decide) (fun hc19 => ?_) (fun hc19 => ?_)
        · have hres := m_it hres hc19
          refine lv_aload_n X.1 X.2.1 dX4_work_200 rfl (lv_at hl 0 rfl) ?_
          refine m_g4 (v := .ref (m_ad G (k0 + 4))) X hSt hP hk0.1 4 (by decide) rfl k_f_X4_22 dX4_work_201 ?_
          refine lv_iconst (v := 0) X.1 X.2.1 dX4_work_204 (by decide) ?_
          refine m_la (j := 0) X hSt hP hk0.2.2.2.2 (by decide +kernel) (by decide +kernel) dX4_work_205 ?_
          exact m_rl X hr hlk hP hS (Prod.mk.inj (Option.some.inj hres)).1 (Prod.mk.inj (Option.some.inj hres)).2 dX4_work_206
        · have hres := m_if hres hc19
          refine lv_lconst (v := 0) X.1 X.2.1 dX4_work_196 (by decide) ?_
          refine lv_goto (tgt := 206) X.1 X.2.1 dX4_work_197 (by decide) ?_
          exact m_rl X hr hlk hP hS (Prod.mk.inj (Option.some.inj hres)).1 (Prod.mk.inj (Option.some.inj hres)).2 dX4_work_206
      · have hres := m_if hres hc18
        refine lv_aload_n X.1 X.2.1 dX4_work_12 rfl (lv_at hl 0 rfl) ?_
        refine m_g4 (v := .ref (m_ad G (k0 + 2))) X hSt hP hk0.1 2 (by decide) rfl k_f_X4_15 dX4_work_13 ?_
        refine lv_iload_n X.1 X.2.1 dX4_work_16 rfl (lv_at hl 3 rfl) ?_
        obtain ⟨hg20, hres⟩ := m_gd_e hres
        refine m_ia (j := x3.toNatClampNeg) X hSt hP hk0.2.2.1 hg20 rfl dX4_work_17 ?_
        refine lv_istore (lv' := [(4, .int (M.1 (k0 + 2) x3.toNatClampNeg)), (0, .ref (m_ad G k0)), (1, .ref (m_ad G 48)), (2, .int x2), (3, .int x3)]) X.1 X.2.1 dX4_work_18 hl (by decide) rfl (fun ls hl => ?_)
        refine lv_iload X.1 X.2.1 dX4_work_20 (lv_at hl 0 rfl) ?_
        refine lv_bipush (v := 110) X.1 X.2.1 dX4_work_22 (by decide) ?_
        refine lv_icmp_eq (tgt := 34) X.1 X.2.1 dX4_work_24 (by decide) (fun hc21 => ?_) (fun hc21 => ?_)
        · have hres := m_it hres hc21
          exact B34 (f_X4_work_b4 n k0 u) ih x2 x3 (M.1 (k0 + 2) x3.toNatClampNeg) M _ _ _ hP hS (lv_sub hl [1, 2, 3, 4, 0] rfl) hres
        · have hres := m_if hres hc21
          refine lv_iload X.1 X.2.1 dX4_work_27 (lv_at hl 0 rfl) ?_
          refine lv_bipush (v := 118) X.1 X.2.1 dX4_work_29 (by decide) ?_
          refine lv_icmp_ne (tgt := 79) X.1 X.2.1 dX4_work_31 (by decide) (fun hc22 => ?_) (fun hc22 => ?_)
          · have hres := m_if hres hc22
            refine lv_iload X.1 X.2.1 dX4_work_79 (lv_at hl 0 rfl) ?_
            refine lv_bipush (v := 33) X.1 X.2.1 dX4_work_81 (by decide) ?_
            refine lv_icmp_eq (tgt := 93) X.1 X.2.1 dX4_work_83 (by decide) (fun hc23 => ?_) (fun hc23 => ?_)
            · have hres := m_it hres hc23
              exact B93 (f_X4_work_b4 n k0 u) ih x2 x3 (M.1 (k0 + 2) x3.toNatClampNeg) M _ _ _ hP hS (lv_sub hl [1, 2, 3, 4, 0] rfl) hres
            · have hres := m_if hres hc23
              refine lv_iload X.1 X.2.1 dX4_work_86 (lv_at hl 0 rfl) ?_
              refine lv_bipush (v := 126) X.1 X.2.1 dX4_work_88 (by decide) ?_
              refine lv_icmp_ne (tgt := 148) X.1 X.2.1 dX4_work_90 (by decide) (fun hc24 => ?_) (fun hc24 => ?_)
              · have hres := m_if hres hc24
                refine lv_iload_n X.1 X.2.1 dX4_work_148 rfl (lv_at hl 3 rfl) ?_
                refine lv_iconst (v := 2) X.1 X.2.1 dX4_work_149 (by decide) ?_
                refine lv_icmp_ge (tgt := 155) X.1 X.2.1 dX4_work_150 (by decide) (fun hc25 => ?_) (fun hc25 => ?_)
                · have hres := m_it hres hc25
                  refine lv_iinc (v := (x2 + (-1))) (lv' := [(2, .int (x2 + (-1))), (4, .int (M.1 (k0 + 2) x3.toNatClampNeg)), (0, .ref (m_ad G k0)), (1, .ref (m_ad G 48)), (3, .int x3)]) X.1 X.2.1 dX4_work_155 hl (k := 3) rfl rfl (by decide) rfl (fun ls hl => ?_)
                  refine lv_aload_n X.1 X.2.1 dX4_work_158 rfl (lv_at hl 2 rfl) ?_
                  refine m_g4 (v := .ref (m_ad G (k0 + 4))) X hSt hP hk0.1 4 (by decide) rfl k_f_X4_22 dX4_work_159 ?_
                  refine lv_iload_n X.1 X.2.1 dX4_work_162 rfl (lv_at hl 0 rfl) ?_
                  refine lv_iconst (v := 1) X.1 X.2.1 dX4_work_163 (by decide) ?_
                  refine lv_isub X.1 X.2.1 dX4_work_164 ?_
                  refine lv_iload X.1 X.2.1 dX4_work_165 (lv_at hl 1 rfl) ?_
                  refine lv_aload_n X.1 X.2.1 dX4_work_167 rfl (lv_at hl 2 rfl) ?_
                  refine m_g4 (v := .ref (m_ad G (k0 + 4))) X hSt hP hk0.1 4 (by decide) rfl k_f_X4_22 dX4_work_168 ?_
                  refine lv_iload_n X.1 X.2.1 dX4_work_171 rfl (lv_at hl 0 rfl) ?_
                  refine lv_iconst (v := 1) X.1 X.2.1 dX4_work_172 (by decide) ?_
                  refine lv_isub X.1 X.2.1 dX4_work_173 ?_
                  obtain ⟨hg26, hres⟩ := m_gd_e hres
                  refine m_la (j := (((x2 + (-1)) - (1 : Int32)).toNatClampNeg)) X hSt hP hk0.2.2.2.2 hg26 rfl dX4_work_174 ?_
                  refine lv_aload_n X.1 X.2.1 dX4_work_175 rfl (lv_at hl 2 rfl) ?_
                  refine m_g4 (v := .ref (m_ad G (k0 + 4))) X hSt hP hk0.1 4 (by decide) rfl k_f_X4_22 dX4_work_176 ?_
                  refine lv_iload_n X.1 X.2.1 dX4_work_179 rfl (lv_at hl 0 rfl) ?_
                  obtain ⟨hg27, hres⟩ := m_gd_e hres
                  refine m_la (j := ((x2 + (-1)).toNatClampNeg)) X hSt hP hk0.2.2.2.2 hg27 rfl dX4_work_180 ?_
                  obtain ⟨r28, err28, hres⟩ := m_ob_e hres
                  refine m_bl (m_cS (n := 3) (As := [.int (M.1 (k0 + 2) x3.toNatClampNeg), .long (M.2 (k0 + 4) (((x2 + (-1)) - (1 : Int32)).toNatClampNeg)), .long (M.2 (k0 + 4) ((x2 + (-1)).toNatClampNeg))]) (rest := [.int ((x2 + (-1)) - (1 : Int32)), .ref (m_ad G (k0 + 4))]) X hSt hP hS hl.1 (c_X4_join l G (M := M)  err28) k_c_yX4_join k_m_X4_118 k_t_yX4_join k_n_X4 (by decide +kernel) rfl rfl ⟨Nat.le_of_ble_eq_true rfl, Nat.le_of_ble_eq_true rfl⟩ (Nat.le_of_ble_eq_true rfl) ⟨Nat.zero_le _, Nat.zero_le _⟩ dX4_work_181) hS (fun H locs hP hS => ?_)
                  obtain ⟨M29, eM29, hres⟩ := m_bd_e hres
                  refine m_ls (j := (((x2 + (-1)) - (1 : Int32)).toNatClampNeg)) X hSt hP hS hk0.2.2.2.2 hg26 rfl dX4_work_184 eM29 (fun H locs hP hS => ?_)
                  refine lv_iinc (v := (x3 + 1)) (lv' := [(3, .int (x3 + 1)), (2, .int (x2 + (-1))), (4, .int (M.1 (k0 + 2) x3.toNatClampNeg)), (0, .ref (m_ad G k0)), (1, .ref (m_ad G 48))]) X.1 X.2.1 dX4_work_185 hl (k := 4) rfl rfl (by decide) rfl (fun ls hl => ?_)
                  refine lv_goto (tgt := 4) X.1 X.2.1 dX4_work_188 (by decide) ?_
                  exact ih (x2 + (-1)) (x3 + 1) M29 _ _ _ hP hS (lv_sub hl [3, 4, 1, 0] rfl) hres
                · have hres := m_if hres hc25
                  refine lv_lconst (v := 0) X.1 X.2.1 dX4_work_153 (by decide) ?_
                  exact m_rl X hr hlk hP hS (Prod.mk.inj (Option.some.inj hres)).1 (Prod.mk.inj (Option.some.inj hres)).2 dX4_work_154
              · have hres := m_it hres hc24
                exact B93 (f_X4_work_b4 n k0 u) ih x2 x3 (M.1 (k0 + 2) x3.toNatClampNeg) M _ _ _ hP hS (lv_sub hl [1, 2, 3, 4, 0] rfl) hres
          · have hres := m_it hres hc22
            exact B34 (f_X4_work_b4 n k0 u) ih x2 x3 (M.1 (k0 + 2) x3.toNatClampNeg) M _ _ _ hP hS (lv_sub hl [1, 2, 3, 4, 0] rfl) hres
  unfold f_X4_work at hres
  refine lv_iconst (v := 0) X.1 X.2.1 dX4_work_0 (by decide) ?_
  refine lv_istore_n (lv' := [(2, .int 0), (0, .ref (m_ad G k0)), (1, .ref (m_ad G 48))]) X.1 X.2.1 dX4_work_1 rfl hl (by decide) rfl (fun ls hl => ?_)
  refine lv_iconst (v := 0) X.1 X.2.1 dX4_work_2 (by decide) ?_
  refine lv_istore_n (lv' := [(3, .int 0), (2, .int 0), (0, .ref (m_ad G k0)), (1, .ref (m_ad G 48))]) X.1 X.2.1 dX4_work_3 rfl hl (by decide) rfl (fun ls hl => ?_)
  exact B4 n 0 0 M _ _ _ hP hS (lv_sub hl [2, 3, 1, 0] rfl) hres
theorem dX4_brought_0 : decode cX4_brought 0 = .ok (.aload_n 0, 1) := by decide +kernel
theorem dX4_brought_1 : decode cX4_brought 1 = .ok (.getfield 25, 3) := by decide +kernel
theorem dX4_brought_4 : decode cX4_brought 4 = .ok (.iconst (-1), 1) := by decide +kernel
theorem dX4_brought_5 : decode cX4_brought 5 = .ok (.if_icmp .ne 11, 3) := by decide +kernel
theorem dX4_brought_8 : decode cX4_brought 8 = .ok (.aload_n 0, 1) := by decide +kernel
theorem dX4_brought_9 : decode cX4_brought 9 = .ok (.aload_n 1, 1) := by decide +kernel
theorem dX4_brought_10 : decode cX4_brought 10 = .ok (.invokevirtual 43, 3) := by decide +kernel
theorem dX4_brought_13 : decode cX4_brought 13 = .ok (.goto 22, 3) := by decide +kernel
theorem dX4_brought_16 : decode cX4_brought 16 = .ok (.aload_n 1, 1) := by decide +kernel
theorem dX4_brought_17 : decode cX4_brought 17 = .ok (.iconst 0, 1) := by decide +kernel
theorem dX4_brought_18 : decode cX4_brought 18 = .ok (.laload, 1) := by decide +kernel
theorem dX4_brought_19 : decode cX4_brought 19 = .ok (.aload_n 1, 1) := by decide +kernel
theorem dX4_brought_20 : decode cX4_brought 20 = .ok (.iconst 1, 1) := by decide +kernel
theorem dX4_brought_21 : decode cX4_brought 21 = .ok (.laload, 1) := by decide +kernel
theorem dX4_brought_22 : decode cX4_brought 22 = .ok (.ladd, 1) := by decide +kernel
theorem dX4_brought_23 : decode cX4_brought 23 = .ok (.aload_n 1, 1) := by decide +kernel
theorem dX4_brought_24 : decode cX4_brought 24 = .ok (.iconst 2, 1) := by decide +kernel
theorem dX4_brought_25 : decode cX4_brought 25 = .ok (.laload, 1) := by decide +kernel
theorem dX4_brought_26 : decode cX4_brought 26 = .ok (.lsub, 1) := by decide +kernel
theorem dX4_brought_27 : decode cX4_brought 27 = .ok (.aload_n 1, 1) := by decide +kernel
theorem dX4_brought_28 : decode cX4_brought 28 = .ok (.iconst 3, 1) := by decide +kernel
theorem dX4_brought_29 : decode cX4_brought 29 = .ok (.laload, 1) := by decide +kernel
theorem dX4_brought_30 : decode cX4_brought 30 = .ok (.lsub, 1) := by decide +kernel
theorem dX4_brought_31 : decode cX4_brought 31 = .ok (.aload_n 1, 1) := by decide +kernel
theorem dX4_brought_32 : decode cX4_brought 32 = .ok (.iconst 4, 1) := by decide +kernel
theorem dX4_brought_33 : decode cX4_brought 33 = .ok (.laload, 1) := by decide +kernel
theorem dX4_brought_34 : decode cX4_brought 34 = .ok (.ladd, 1) := by decide +kernel
theorem dX4_brought_35 : decode cX4_brought 35 = .ok (.lstore_n 2, 1) := by decide +kernel
theorem dX4_brought_36 : decode cX4_brought 36 = .ok (.lconst 0, 1) := by decide +kernel
theorem dX4_brought_37 : decode cX4_brought 37 = .ok (.ldc2_w 47, 3) := by decide +kernel
theorem dX4_brought_40 : decode cX4_brought 40 = .ok (.lload_n 2, 1) := by decide +kernel
theorem dX4_brought_41 : decode cX4_brought 41 = .ok (.invokestatic 49, 3) := by decide +kernel
theorem dX4_brought_44 : decode cX4_brought 44 = .ok (.invokestatic 55, 3) := by decide +kernel
theorem dX4_brought_47 : decode cX4_brought 47 = .ok (.l2i, 1) := by decide +kernel
theorem dX4_brought_48 : decode cX4_brought 48 = .ok (.ireturn, 1) := by decide +kernel
def f_X4_brought_b35 (n : Nat) (k0 : Nat) (s0 : Int64) (M : m_M) : Option (Int32 × m_M) :=
  m_bd (m_minJ 1000000 s0) fun r1 =>
  m_bd (m_maxJ 0 r1) fun r2 =>
  some (r2.toInt32, M)
def f_X4_brought (n : Nat) (k0 : Nat) (M : m_M) : Option (Int32 × m_M) :=
  if (M.1 k0 7) = (-1) then
  m_o2 (f_X4_work n k0 M) fun r4 M5 =>
  f_X4_brought_b35 n k0 r4 M5
  else
  f_X4_brought_b35 n k0 (((((M.2 48 0) + (M.2 48 1)) - (M.2 48 2)) - (M.2 48 3)) + (M.2 48 4)) M
set_option maxHeartbeats 4000000 in
set_option maxRecDepth 100000 in
theorem c_X4_brought (l : Launch) (G : m_G) {n : Nat} {k0 : Nat} {M : m_M} {r0 : Int32} {M0 : m_M} (hk0 : m_isLaw k0) (hres : f_X4_brought n k0 M = some (r0, M0)) : Met l yX4_brought (m_U yX4_brought cX4_brought 4 (some .int)) (m_R 2 48) (m_Pc G [.ref (m_ad G k0), .ref (m_ad G 48)] M) (m_Qi G r0 M0) 0 0 (m_A G) := by
  refine m_i0 (n := 4) RX4 rfl (by decide) (Nat.le_of_ble_eq_true rfl) ?_
  intro p e s m args below meth c X hr hlk hSt hP hS ls hl
  have hl : lv_has ls 4 [(0, .ref (m_ad G k0)), (1, .ref (m_ad G 48))] := hl
  have B35 : ∀  (s0 : Int64) (M : m_M) (H : Heap) (locs : List Loc) (ls : Array Slot), m_P G M H → va_S (m_A G) s.heap H locs → lv_has ls 4 [] → f_X4_brought_b35 n k0 s0 M = some (r0, M0) → W p l e (m_R 2 48) s m args below meth c H locs 0 0 (MQ below (m_Qi G r0 M0) args s 0 0 (m_A G)) (F0 m 35 ls [.long s0]) := by
    intro s0 M H locs ls hP hS hl hres
    unfold f_X4_brought_b35 at hres
    refine lv_lstore_n (lv' := [(2, .long s0)]) X.1 X.2.1 dX4_brought_35 rfl hl (by decide) rfl (fun ls hl => ?_)
    refine lv_lconst (v := 0) X.1 X.2.1 dX4_brought_36 (by decide) ?_
    refine lv_ldc2 (v := 1000000) X.1 X.2.1 X.2.2.2.1 (X.2.2.2.2 _ k_l_X4_47) dX4_brought_37 ?_
    refine lv_lload_n X.1 X.2.1 dX4_brought_40 rfl (lv_at hl 0 rfl) ?_
    obtain ⟨r1, err1, hres⟩ := m_bd_e hres
    refine m_mnJ (rest := [.long 0]) X hl.1 k_m_X4_49 k_t_yJ9_min_f86c9 k_n_J9 k_c_yJ9_min_f86c9 (Nat.le_of_ble_eq_true rfl) (Nat.le_of_ble_eq_true rfl) ⟨Nat.zero_le _, Nat.zero_le _⟩ dX4_brought_41 err1 ?_
    obtain ⟨r2, err2, hres⟩ := m_bd_e hres
    refine m_mxJ (rest := []) X hl.1 k_m_X4_55 k_t_yJ9_max_f86c9 k_n_J9 k_c_yJ9_max_f86c9 (Nat.le_of_ble_eq_true rfl) (Nat.le_of_ble_eq_true rfl) ⟨Nat.zero_le _, Nat.zero_le _⟩ dX4_brought_44 err2 ?_
    refine lv_l2i (v := r2.toInt32) X.1 X.2.1 dX4_brought_47 rfl ?_
    exact m_ri X hr hlk hP hS (Prod.mk.inj (Option.some.inj hres)).1 (Prod.mk.inj (Option.some.inj hres)).2 dX4_brought_48
  unfold f_X4_brought at hres
  refine lv_aload_n X.1 X.2.1 dX4_brought_0 rfl (lv_at hl 0 rfl) ?_
  refine m_g4 (v := .int (M.1 k0 7)) X hSt hP hk0.1 7 (by decide) rfl k_f_X4_25 dX4_brought_1 ?_
  refine lv_iconst (v := (-1)) X.1 X.2.1 dX4_brought_4 (by decide) ?_
  refine lv_icmp_ne (tgt := 16) X.1 X.2.1 dX4_brought_5 (by decide) (fun hc3 => ?_) (fun hc3 => ?_)
  · have hres := m_if hres hc3
    refine lv_aload_n X.1 X.2.1 dX4_brought_16 rfl (lv_at hl 1 rfl) ?_
    refine lv_iconst (v := 0) X.1 X.2.1 dX4_brought_17 (by decide) ?_
    refine m_la (j := 0) X hSt hP m_z_48 (by decide +kernel) (by decide +kernel) dX4_brought_18 ?_
    refine lv_aload_n X.1 X.2.1 dX4_brought_19 rfl (lv_at hl 1 rfl) ?_
    refine lv_iconst (v := 1) X.1 X.2.1 dX4_brought_20 (by decide) ?_
    refine m_la (j := 1) X hSt hP m_z_48 (by decide +kernel) (by decide +kernel) dX4_brought_21 ?_
    refine lv_ladd X.1 X.2.1 dX4_brought_22 ?_
    refine lv_aload_n X.1 X.2.1 dX4_brought_23 rfl (lv_at hl 1 rfl) ?_
    refine lv_iconst (v := 2) X.1 X.2.1 dX4_brought_24 (by decide) ?_
    refine m_la (j := 2) X hSt hP m_z_48 (by decide +kernel) (by decide +kernel) dX4_brought_25 ?_
    refine lv_lsub X.1 X.2.1 dX4_brought_26 ?_
    refine lv_aload_n X.1 X.2.1 dX4_brought_27 rfl (lv_at hl 1 rfl) ?_
    refine lv_iconst (v := 3) X.1 X.2.1 dX4_brought_28 (by decide) ?_
    refine m_la (j := 3) X hSt hP m_z_48 (by decide +kernel) (by decide +kernel) dX4_brought_29 ?_
    refine lv_lsub X.1 X.2.1 dX4_brought_30 ?_
    refine lv_aload_n X.1 X.2.1 dX4_brought_31 rfl (lv_at hl 1 rfl) ?_
    refine lv_iconst (v := 4) X.1 X.2.1 dX4_brought_32 (by decide) ?_
    refine m_la (j := 4) X hSt hP m_z_48 (by decide +kernel) (by decide +kernel) dX4_brought_33 ?_
    refine lv_ladd X.1 X.2.1 dX4_brought_34 ?_
    exact B35 (((((M.2 48 0) + (M.2 48 1)) - (M.2 48 2)) - (M.2 48 3)) + (M.2 48 4)) M _ _ _ hP hS (lv_sub hl [] rfl) hres
  · have hres := m_it hres hc3
    refine lv_aload_n X.1 X.2.1 dX4_brought_8 rfl (lv_at hl 0 rfl) ?_
    refine lv_aload_n X.1 X.2.1 dX4_brought_9 rfl (lv_at hl 1 rfl) ?_
    obtain ⟨r4, M5, err4, hres⟩ := m_o2_e hres
    refine m_bl (m_cV (n := 1) (As := [.ref (m_ad G 48)]) (rest := []) X hSt hP hS hl.1 (c_X4_work l G hk0 err4) k_c_yX4_work k_m_X4_43 k_i_yX4_work k_s_yX4_work k_n_X4 (by decide +kernel) (m_rc4 hSt hP hk0.1) rfl rfl ⟨Nat.le_of_ble_eq_true rfl, Nat.le_of_ble_eq_true rfl⟩ (Nat.le_of_ble_eq_true rfl) ⟨Nat.zero_le _, Nat.zero_le _⟩ dX4_brought_10) hS (fun H locs hP hS => ?_)
    refine lv_goto (tgt := 35) X.1 X.2.1 dX4_brought_13 (by decide) ?_
    exact B35 r4 M5 _ _ _ hP hS (lv_sub hl [] rfl) hres
theorem dX1_netOf_0 : decode cX1_netOf 0 = .ok (.aload_n 0, 1) := by decide +kernel
theorem dX1_netOf_1 : decode cX1_netOf 1 = .ok (.getfield 23, 3) := by decide +kernel
theorem dX1_netOf_4 : decode cX1_netOf 4 = .ok (.iconst 0, 1) := by decide +kernel
theorem dX1_netOf_5 : decode cX1_netOf 5 = .ok (.aload_n 0, 1) := by decide +kernel
theorem dX1_netOf_6 : decode cX1_netOf 6 = .ok (.getfield 11, 3) := by decide +kernel
theorem dX1_netOf_9 : decode cX1_netOf 9 = .ok (.iload_n 1, 1) := by decide +kernel
theorem dX1_netOf_10 : decode cX1_netOf 10 = .ok (.aaload, 1) := by decide +kernel
theorem dX1_netOf_11 : decode cX1_netOf 11 = .ok (.invokevirtual 166, 3) := by decide +kernel
theorem dX1_netOf_14 : decode cX1_netOf 14 = .ok (.i2l, 1) := by decide +kernel
theorem dX1_netOf_15 : decode cX1_netOf 15 = .ok (.lload 5, 2) := by decide +kernel
theorem dX1_netOf_17 : decode cX1_netOf 17 = .ok (.ladd, 1) := by decide +kernel
theorem dX1_netOf_18 : decode cX1_netOf 18 = .ok (.lastore, 1) := by decide +kernel
theorem dX1_netOf_19 : decode cX1_netOf 19 = .ok (.aload_n 0, 1) := by decide +kernel
theorem dX1_netOf_20 : decode cX1_netOf 20 = .ok (.getfield 23, 3) := by decide +kernel
theorem dX1_netOf_23 : decode cX1_netOf 23 = .ok (.iconst 1, 1) := by decide +kernel
theorem dX1_netOf_24 : decode cX1_netOf 24 = .ok (.aload_n 0, 1) := by decide +kernel
theorem dX1_netOf_25 : decode cX1_netOf 25 = .ok (.getfield 11, 3) := by decide +kernel
theorem dX1_netOf_28 : decode cX1_netOf 28 = .ok (.iload_n 1, 1) := by decide +kernel
theorem dX1_netOf_29 : decode cX1_netOf 29 = .ok (.aaload, 1) := by decide +kernel
theorem dX1_netOf_30 : decode cX1_netOf 30 = .ok (.getfield 159, 3) := by decide +kernel
theorem dX1_netOf_33 : decode cX1_netOf 33 = .ok (.i2l, 1) := by decide +kernel
theorem dX1_netOf_34 : decode cX1_netOf 34 = .ok (.lastore, 1) := by decide +kernel
theorem dX1_netOf_35 : decode cX1_netOf 35 = .ok (.aload_n 0, 1) := by decide +kernel
theorem dX1_netOf_36 : decode cX1_netOf 36 = .ok (.getfield 23, 3) := by decide +kernel
theorem dX1_netOf_39 : decode cX1_netOf 39 = .ok (.iconst 2, 1) := by decide +kernel
theorem dX1_netOf_40 : decode cX1_netOf 40 = .ok (.aload_n 0, 1) := by decide +kernel
theorem dX1_netOf_41 : decode cX1_netOf 41 = .ok (.iload_n 1, 1) := by decide +kernel
theorem dX1_netOf_42 : decode cX1_netOf 42 = .ok (.invokevirtual 169, 3) := by decide +kernel
theorem dX1_netOf_45 : decode cX1_netOf 45 = .ok (.i2l, 1) := by decide +kernel
theorem dX1_netOf_46 : decode cX1_netOf 46 = .ok (.lastore, 1) := by decide +kernel
theorem dX1_netOf_47 : decode cX1_netOf 47 = .ok (.aload_n 0, 1) := by decide +kernel
theorem dX1_netOf_48 : decode cX1_netOf 48 = .ok (.getfield 23, 3) := by decide +kernel
theorem dX1_netOf_51 : decode cX1_netOf 51 = .ok (.iconst 3, 1) := by decide +kernel
theorem dX1_netOf_52 : decode cX1_netOf 52 = .ok (.aload_n 0, 1) := by decide +kernel
theorem dX1_netOf_53 : decode cX1_netOf 53 = .ok (.iload_n 1, 1) := by decide +kernel
theorem dX1_netOf_54 : decode cX1_netOf 54 = .ok (.invokevirtual 172, 3) := by decide +kernel
theorem dX1_netOf_57 : decode cX1_netOf 57 = .ok (.i2l, 1) := by decide +kernel
theorem dX1_netOf_58 : decode cX1_netOf 58 = .ok (.lastore, 1) := by decide +kernel
theorem dX1_netOf_59 : decode cX1_netOf 59 = .ok (.aload_n 0, 1) := by decide +kernel
theorem dX1_netOf_60 : decode cX1_netOf 60 = .ok (.getfield 23, 3) := by decide +kernel
theorem dX1_netOf_63 : decode cX1_netOf 63 = .ok (.iconst 4, 1) := by decide +kernel
theorem dX1_netOf_64 : decode cX1_netOf 64 = .ok (.lload_n 3, 1) := by decide +kernel
theorem dX1_netOf_65 : decode cX1_netOf 65 = .ok (.lastore, 1) := by decide +kernel
theorem dX1_netOf_66 : decode cX1_netOf 66 = .ok (.aload_n 0, 1) := by decide +kernel
theorem dX1_netOf_67 : decode cX1_netOf 67 = .ok (.getfield 27, 3) := by decide +kernel
theorem dX1_netOf_70 : decode cX1_netOf 70 = .ok (.getfield 175, 3) := by decide +kernel
theorem dX1_netOf_73 : decode cX1_netOf 73 = .ok (.iload_n 2, 1) := by decide +kernel
theorem dX1_netOf_74 : decode cX1_netOf 74 = .ok (.aaload, 1) := by decide +kernel
theorem dX1_netOf_75 : decode cX1_netOf 75 = .ok (.aload_n 0, 1) := by decide +kernel
theorem dX1_netOf_76 : decode cX1_netOf 76 = .ok (.getfield 23, 3) := by decide +kernel
theorem dX1_netOf_79 : decode cX1_netOf 79 = .ok (.invokevirtual 179, 3) := by decide +kernel
theorem dX1_netOf_82 : decode cX1_netOf 82 = .ok (.ireturn, 1) := by decide +kernel
def f_X1_netOf (n : Nat) (x1 : Int32) (x2 : Int32) (x3 : Int64) (x5 : Int64) (M : m_M) : Option (Int32 × m_M) :=
  m_gd (m_in x1 10) (
  m_ob (f_X5_allParts n (49 + 5 * x1.toNatClampNeg) M) fun r2 =>
  m_bd (m_sL M 48 0 (r2.toInt64 + x5)) fun M3 =>
  m_bd (m_sL M3 48 1 ((M3.1 (49 + 5 * x1.toNatClampNeg) 5).toInt64)) fun M4 =>
  m_ob (f_X1_debtToHolder x1 M4) fun r5 =>
  m_bd (m_sL M4 48 2 r5.toInt64) fun M6 =>
  m_ob (f_X1_debtToFellows n x1 M6) fun r7 =>
  m_bd (m_sL M6 48 3 r7.toInt64) fun M8 =>
  m_bd (m_sL M8 48 4 x3) fun M9 =>
  m_gd (m_in x2 2) (
  m_o2 (f_X4_brought n ((1 + 3) + 1 + 5 * x2.toNatClampNeg) M9) fun r11 M12 =>
  some (r11, M12)))
set_option maxHeartbeats 4000000 in
set_option maxRecDepth 100000 in
theorem c_X1_netOf (l : Launch) (G : m_G) {n : Nat} {x1 : Int32} {x2 : Int32} {x3 : Int64} {x5 : Int64} {M : m_M} {r0 : Int32} {M0 : m_M}  (hres : f_X1_netOf n x1 x2 x3 x5 M = some (r0, M0)) : Met l yX1_netOf (m_U yX1_netOf cX1_netOf 7 (some .int)) (m_R 3 75) (m_Pc G [.ref (m_ad G 45), .int x1, .int x2, .long x3, .long x5] M) (m_Qi G r0 M0) 0 0 (m_A G) := by
  refine m_i0 (n := 7) RX1 rfl (by decide) (Nat.le_of_ble_eq_true rfl) ?_
  intro p e s m args below meth c X hr hlk hSt hP hS ls hl
  have hl : lv_has ls 7 [(0, .ref (m_ad G 45)), (1, .int x1), (2, .int x2), (3, .long x3), (5, .long x5)] := hl
  unfold f_X1_netOf at hres
  refine lv_aload_n X.1 X.2.1 dX1_netOf_0 rfl (lv_at hl 0 rfl) ?_
  refine m_g1 (v := .ref (m_ad G 48)) X hSt hP m_z_45 3 (by decide) rfl k_f_X1_23 dX1_netOf_1 ?_
  refine lv_iconst (v := 0) X.1 X.2.1 dX1_netOf_4 (by decide) ?_
  refine lv_aload_n X.1 X.2.1 dX1_netOf_5 rfl (lv_at hl 0 rfl) ?_
  refine m_g1 (v := .ref (m_ad G 46)) X hSt hP m_z_45 1 (by decide) rfl k_f_X1_11 dX1_netOf_6 ?_
  refine lv_iload_n X.1 X.2.1 dX1_netOf_9 rfl (lv_at hl 1 rfl) ?_
  obtain ⟨hg1, hres⟩ := m_gd_e hres
  refine m_qa6 (j := x1.toNatClampNeg) X hSt hP m_z_46 hg1 rfl dX1_netOf_10 ?_
  obtain ⟨r2, err2, hres⟩ := m_ob_e hres
  refine m_bi (m_cV (n := 0) (As := []) (rest := [.int 0, .ref (m_ad G 48)]) X hSt hP hS hl.1 (c_X5_allParts l G (m_person_of hg1) err2) k_c_yX5_allParts k_m_X1_166 k_i_yX5_allParts k_s_yX5_allParts k_n_X5 (by decide +kernel) (m_rc5 hSt hP (m_person_of hg1).1) rfl rfl ⟨Nat.le_of_ble_eq_true rfl, Nat.le_of_ble_eq_true rfl⟩ (Nat.le_of_ble_eq_true rfl) ⟨Nat.zero_le _, Nat.zero_le _⟩ dX1_netOf_11) hS (fun H locs hP hS => ?_)
  refine lv_i2l (v := r2.toInt64) X.1 X.2.1 dX1_netOf_14 rfl ?_
  refine lv_lload X.1 X.2.1 dX1_netOf_15 (lv_at hl 4 rfl) ?_
  refine lv_ladd X.1 X.2.1 dX1_netOf_17 ?_
  obtain ⟨M3, eM3, hres⟩ := m_bd_e hres
  refine m_ls (j := 0) X hSt hP hS m_z_48 (by decide +kernel) (by decide +kernel) dX1_netOf_18 eM3 (fun H locs hP hS => ?_)
  refine lv_aload_n X.1 X.2.1 dX1_netOf_19 rfl (lv_at hl 0 rfl) ?_
  refine m_g1 (v := .ref (m_ad G 48)) X hSt hP m_z_45 3 (by decide) rfl k_f_X1_23 dX1_netOf_20 ?_
  refine lv_iconst (v := 1) X.1 X.2.1 dX1_netOf_23 (by decide) ?_
  refine lv_aload_n X.1 X.2.1 dX1_netOf_24 rfl (lv_at hl 0 rfl) ?_
  refine m_g1 (v := .ref (m_ad G 46)) X hSt hP m_z_45 1 (by decide) rfl k_f_X1_11 dX1_netOf_25 ?_
  refine lv_iload_n X.1 X.2.1 dX1_netOf_28 rfl (lv_at hl 1 rfl) ?_
  refine m_qa6 (j := x1.toNatClampNeg) X hSt hP m_z_46 hg1 rfl dX1_netOf_29 ?_
  refine m_g5 (v := .int (M3.1 (49 + 5 * x1.toNatClampNeg) 5)) X hSt hP (m_person_of hg1).1 5 (by decide) rfl k_f_X1_159 dX1_netOf_30 ?_
  refine lv_i2l (v := (M3.1 (49 + 5 * x1.toNatClampNeg) 5).toInt64) X.1 X.2.1 dX1_netOf_33 rfl ?_
  obtain ⟨M4, eM4, hres⟩ := m_bd_e hres
  refine m_ls (j := 1) X hSt hP hS m_z_48 (by decide +kernel) (by decide +kernel) dX1_netOf_34 eM4 (fun H locs hP hS => ?_)
  refine lv_aload_n X.1 X.2.1 dX1_netOf_35 rfl (lv_at hl 0 rfl) ?_
  refine m_g1 (v := .ref (m_ad G 48)) X hSt hP m_z_45 3 (by decide) rfl k_f_X1_23 dX1_netOf_36 ?_
  refine lv_iconst (v := 2) X.1 X.2.1 dX1_netOf_39 (by decide) ?_
  refine lv_aload_n X.1 X.2.1 dX1_netOf_40 rfl (lv_at hl 0 rfl) ?_
  refine lv_iload_n X.1 X.2.1 dX1_netOf_41 rfl (lv_at hl 1 rfl) ?_
  obtain ⟨r5, err5, hres⟩ := m_ob_e hres
  refine m_bi (m_cV (n := 1) (As := [.int x1]) (rest := [.int 2, .ref (m_ad G 48)]) X hSt hP hS hl.1 (c_X1_debtToHolder l G  err5) k_c_yX1_debtToHolder k_m_X1_169 k_i_yX1_debtToHolder k_s_yX1_debtToHolder k_n_X1 (by decide +kernel) (m_rc1 hSt hP m_z_45) rfl rfl ⟨Nat.le_of_ble_eq_true rfl, Nat.le_of_ble_eq_true rfl⟩ (Nat.le_of_ble_eq_true rfl) ⟨Nat.zero_le _, Nat.zero_le _⟩ dX1_netOf_42) hS (fun H locs hP hS => ?_)
  refine lv_i2l (v := r5.toInt64) X.1 X.2.1 dX1_netOf_45 rfl ?_
  obtain ⟨M6, eM6, hres⟩ := m_bd_e hres
  refine m_ls (j := 2) X hSt hP hS m_z_48 (by decide +kernel) (by decide +kernel) dX1_netOf_46 eM6 (fun H locs hP hS => ?_)
  refine lv_aload_n X.1 X.2.1 dX1_netOf_47 rfl (lv_at hl 0 rfl) ?_
  refine m_g1 (v := .ref (m_ad G 48)) X hSt hP m_z_45 3 (by decide) rfl k_f_X1_23 dX1_netOf_48 ?_
  refine lv_iconst (v := 3) X.1 X.2.1 dX1_netOf_51 (by decide) ?_
  refine lv_aload_n X.1 X.2.1 dX1_netOf_52 rfl (lv_at hl 0 rfl) ?_
  refine lv_iload_n X.1 X.2.1 dX1_netOf_53 rfl (lv_at hl 1 rfl) ?_
  obtain ⟨r7, err7, hres⟩ := m_ob_e hres
  refine m_bi (m_cV (n := 1) (As := [.int x1]) (rest := [.int 3, .ref (m_ad G 48)]) X hSt hP hS hl.1 (c_X1_debtToFellows l G  err7) k_c_yX1_debtToFellows k_m_X1_172 k_i_yX1_debtToFellows k_s_yX1_debtToFellows k_n_X1 (by decide +kernel) (m_rc1 hSt hP m_z_45) rfl rfl ⟨Nat.le_of_ble_eq_true rfl, Nat.le_of_ble_eq_true rfl⟩ (Nat.le_of_ble_eq_true rfl) ⟨Nat.zero_le _, Nat.zero_le _⟩ dX1_netOf_54) hS (fun H locs hP hS => ?_)
  refine lv_i2l (v := r7.toInt64) X.1 X.2.1 dX1_netOf_57 rfl ?_
  obtain ⟨M8, eM8, hres⟩ := m_bd_e hres
  refine m_ls (j := 3) X hSt hP hS m_z_48 (by decide +kernel) (by decide +kernel) dX1_netOf_58 eM8 (fun H locs hP hS => ?_)
  refine lv_aload_n X.1 X.2.1 dX1_netOf_59 rfl (lv_at hl 0 rfl) ?_
  refine m_g1 (v := .ref (m_ad G 48)) X hSt hP m_z_45 3 (by decide) rfl k_f_X1_23 dX1_netOf_60 ?_
  refine lv_iconst (v := 4) X.1 X.2.1 dX1_netOf_63 (by decide) ?_
  refine lv_lload_n X.1 X.2.1 dX1_netOf_64 rfl (lv_at hl 3 rfl) ?_
  obtain ⟨M9, eM9, hres⟩ := m_bd_e hres
  refine m_ls (j := 4) X hSt hP hS m_z_48 (by decide +kernel) (by decide +kernel) dX1_netOf_65 eM9 (fun H locs hP hS => ?_)
  refine lv_aload_n X.1 X.2.1 dX1_netOf_66 rfl (lv_at hl 0 rfl) ?_
  refine m_g1 (v := .ref (m_ad G 1)) X hSt hP m_z_45 0 (by decide) rfl k_f_X1_27 dX1_netOf_67 ?_
  refine m_g3 (v := .ref (m_ad G (1 + 3))) X hSt hP m_kept_0.1 7 (by decide) rfl k_f_X1_175 dX1_netOf_70 ?_
  refine lv_iload_n X.1 X.2.1 dX1_netOf_73 rfl (lv_at hl 2 rfl) ?_
  obtain ⟨hg10, hres⟩ := m_gd_e hres
  refine m_qa5 (j := x2.toNatClampNeg) X hSt hP m_kept_0.2.2.2.1 hg10 rfl dX1_netOf_74 ?_
  refine lv_aload_n X.1 X.2.1 dX1_netOf_75 rfl (lv_at hl 0 rfl) ?_
  refine m_g1 (v := .ref (m_ad G 48)) X hSt hP m_z_45 3 (by decide) rfl k_f_X1_23 dX1_netOf_76 ?_
  obtain ⟨r11, M12, err11, hres⟩ := m_o2_e hres
  refine m_bi (m_cV (n := 1) (As := [.ref (m_ad G 48)]) (rest := []) X hSt hP hS hl.1 (c_X4_brought l G (m_law_of m_kept_0 hg10) err11) k_c_yX4_brought k_m_X1_179 k_i_yX4_brought k_s_yX4_brought k_n_X4 (by decide +kernel) (m_rc4 hSt hP (m_law_of m_kept_0 hg10).1) rfl rfl ⟨Nat.le_of_ble_eq_true rfl, Nat.le_of_ble_eq_true rfl⟩ (Nat.le_of_ble_eq_true rfl) ⟨Nat.zero_le _, Nat.zero_le _⟩ dX1_netOf_79) hS (fun H locs hP hS => ?_)
  exact m_ri X hr hlk hP hS (Prod.mk.inj (Option.some.inj hres)).1 (Prod.mk.inj (Option.some.inj hres)).2 dX1_netOf_82
theorem dX1_addSeconds_0 : decode cX1_addSeconds 0 = .ok (.iconst 0, 1) := by decide +kernel
theorem dX1_addSeconds_1 : decode cX1_addSeconds 1 = .ok (.istore_n 1, 1) := by decide +kernel
theorem dX1_addSeconds_2 : decode cX1_addSeconds 2 = .ok (.iload_n 1, 1) := by decide +kernel
theorem dX1_addSeconds_3 : decode cX1_addSeconds 3 = .ok (.aload_n 0, 1) := by decide +kernel
theorem dX1_addSeconds_4 : decode cX1_addSeconds 4 = .ok (.getfield 27, 3) := by decide +kernel
theorem dX1_addSeconds_7 : decode cX1_addSeconds 7 = .ok (.getfield 150, 3) := by decide +kernel
theorem dX1_addSeconds_10 : decode cX1_addSeconds 10 = .ok (.if_icmp .ge 23, 3) := by decide +kernel
theorem dX1_addSeconds_13 : decode cX1_addSeconds 13 = .ok (.aload_n 0, 1) := by decide +kernel
theorem dX1_addSeconds_14 : decode cX1_addSeconds 14 = .ok (.getfield 11, 3) := by decide +kernel
theorem dX1_addSeconds_17 : decode cX1_addSeconds 17 = .ok (.iload_n 1, 1) := by decide +kernel
theorem dX1_addSeconds_18 : decode cX1_addSeconds 18 = .ok (.aaload, 1) := by decide +kernel
theorem dX1_addSeconds_19 : decode cX1_addSeconds 19 = .ok (.aload_n 0, 1) := by decide +kernel
theorem dX1_addSeconds_20 : decode cX1_addSeconds 20 = .ok (.iload_n 1, 1) := by decide +kernel
theorem dX1_addSeconds_21 : decode cX1_addSeconds 21 = .ok (.invokevirtual 153, 3) := by decide +kernel
theorem dX1_addSeconds_24 : decode cX1_addSeconds 24 = .ok (.putfield 156, 3) := by decide +kernel
theorem dX1_addSeconds_27 : decode cX1_addSeconds 27 = .ok (.iinc 1 1, 3) := by decide +kernel
theorem dX1_addSeconds_30 : decode cX1_addSeconds 30 = .ok (.goto (-28), 3) := by decide +kernel
theorem dX1_addSeconds_33 : decode cX1_addSeconds 33 = .ok (.bipush 10, 2) := by decide +kernel
theorem dX1_addSeconds_35 : decode cX1_addSeconds 35 = .ok (.istore_n 1, 1) := by decide +kernel
theorem dX1_addSeconds_36 : decode cX1_addSeconds 36 = .ok (.iload_n 1, 1) := by decide +kernel
theorem dX1_addSeconds_37 : decode cX1_addSeconds 37 = .ok (.ifCond .le 71, 3) := by decide +kernel
theorem dX1_addSeconds_40 : decode cX1_addSeconds 40 = .ok (.iconst 0, 1) := by decide +kernel
theorem dX1_addSeconds_41 : decode cX1_addSeconds 41 = .ok (.istore_n 2, 1) := by decide +kernel
theorem dX1_addSeconds_42 : decode cX1_addSeconds 42 = .ok (.iload_n 2, 1) := by decide +kernel
theorem dX1_addSeconds_43 : decode cX1_addSeconds 43 = .ok (.aload_n 0, 1) := by decide +kernel
theorem dX1_addSeconds_44 : decode cX1_addSeconds 44 = .ok (.getfield 27, 3) := by decide +kernel
theorem dX1_addSeconds_47 : decode cX1_addSeconds 47 = .ok (.getfield 150, 3) := by decide +kernel
theorem dX1_addSeconds_50 : decode cX1_addSeconds 50 = .ok (.if_icmp .ge 52, 3) := by decide +kernel
theorem dX1_addSeconds_53 : decode cX1_addSeconds 53 = .ok (.aload_n 0, 1) := by decide +kernel
theorem dX1_addSeconds_54 : decode cX1_addSeconds 54 = .ok (.getfield 11, 3) := by decide +kernel
theorem dX1_addSeconds_57 : decode cX1_addSeconds 57 = .ok (.iload_n 2, 1) := by decide +kernel
theorem dX1_addSeconds_58 : decode cX1_addSeconds 58 = .ok (.aaload, 1) := by decide +kernel
theorem dX1_addSeconds_59 : decode cX1_addSeconds 59 = .ok (.getfield 156, 3) := by decide +kernel
theorem dX1_addSeconds_62 : decode cX1_addSeconds 62 = .ok (.iload_n 1, 1) := by decide +kernel
theorem dX1_addSeconds_63 : decode cX1_addSeconds 63 = .ok (.if_icmp .ne 33, 3) := by decide +kernel
theorem dX1_addSeconds_66 : decode cX1_addSeconds 66 = .ok (.aload_n 0, 1) := by decide +kernel
theorem dX1_addSeconds_67 : decode cX1_addSeconds 67 = .ok (.getfield 11, 3) := by decide +kernel
theorem dX1_addSeconds_70 : decode cX1_addSeconds 70 = .ok (.aload_n 0, 1) := by decide +kernel
theorem dX1_addSeconds_71 : decode cX1_addSeconds 71 = .ok (.getfield 11, 3) := by decide +kernel
theorem dX1_addSeconds_74 : decode cX1_addSeconds 74 = .ok (.iload_n 2, 1) := by decide +kernel
theorem dX1_addSeconds_75 : decode cX1_addSeconds 75 = .ok (.aaload, 1) := by decide +kernel
theorem dX1_addSeconds_76 : decode cX1_addSeconds 76 = .ok (.getfield 137, 3) := by decide +kernel
theorem dX1_addSeconds_79 : decode cX1_addSeconds 79 = .ok (.aaload, 1) := by decide +kernel
theorem dX1_addSeconds_80 : decode cX1_addSeconds 80 = .ok (.dup, 1) := by decide +kernel
theorem dX1_addSeconds_81 : decode cX1_addSeconds 81 = .ok (.getfield 159, 3) := by decide +kernel
theorem dX1_addSeconds_84 : decode cX1_addSeconds 84 = .ok (.aload_n 0, 1) := by decide +kernel
theorem dX1_addSeconds_85 : decode cX1_addSeconds 85 = .ok (.iload_n 2, 1) := by decide +kernel
theorem dX1_addSeconds_86 : decode cX1_addSeconds 86 = .ok (.iconst 0, 1) := by decide +kernel
theorem dX1_addSeconds_87 : decode cX1_addSeconds 87 = .ok (.lconst 0, 1) := by decide +kernel
theorem dX1_addSeconds_88 : decode cX1_addSeconds 88 = .ok (.lconst 0, 1) := by decide +kernel
theorem dX1_addSeconds_89 : decode cX1_addSeconds 89 = .ok (.invokevirtual 162, 3) := by decide +kernel
theorem dX1_addSeconds_92 : decode cX1_addSeconds 92 = .ok (.iadd, 1) := by decide +kernel
theorem dX1_addSeconds_93 : decode cX1_addSeconds 93 = .ok (.putfield 159, 3) := by decide +kernel
theorem dX1_addSeconds_96 : decode cX1_addSeconds 96 = .ok (.iinc 2 1, 3) := by decide +kernel
theorem dX1_addSeconds_99 : decode cX1_addSeconds 99 = .ok (.goto (-57), 3) := by decide +kernel
theorem dX1_addSeconds_102 : decode cX1_addSeconds 102 = .ok (.iinc 1 (-1), 3) := by decide +kernel
theorem dX1_addSeconds_105 : decode cX1_addSeconds 105 = .ok (.goto (-69), 3) := by decide +kernel
theorem dX1_addSeconds_108 : decode cX1_addSeconds 108 = .ok (.return_, 1) := by decide +kernel
def f_X1_addSeconds_b42 (n : Nat) (q36 : Int32 → m_M → Option m_M) : Nat → Int32 → Int32 → m_M → Option m_M
  | 0, _, _, _ => none
  | u + 1, x1, x2, M =>
    if (M.1 1 0) ≤ x2 then
  q36 (x1 + (-1)) M
  else
  m_gd (m_in x2 10) (
  if (M.1 (49 + 5 * x2.toNatClampNeg) 6) = x1 then
  m_gd (m_in (M.1 (49 + 5 * x2.toNatClampNeg) 0) 10) (
  m_o2 (f_X1_netOf n x2 0 0 0 M) fun r5 M6 =>
  m_bd (m_sI M6 (49 + 5 * ((M.1 (49 + 5 * x2.toNatClampNeg) 0).toNatClampNeg)) 5 ((M.1 (49 + 5 * ((M.1 (49 + 5 * x2.toNatClampNeg) 0).toNatClampNeg)) 5) + r5)) fun M7 =>
  f_X1_addSeconds_b42 n q36 u x1 (x2 + 1) M7)
  else
  f_X1_addSeconds_b42 n q36 u x1 (x2 + 1) M)
def f_X1_addSeconds_b36 (n : Nat) : Nat → Int32 → m_M → Option m_M
  | 0, _, _ => none
  | u + 1, x1, M =>
    if x1 ≤ 0 then
  some M
  else
  f_X1_addSeconds_b42 n (f_X1_addSeconds_b36 n u) n x1 0 M
def f_X1_addSeconds_b2 (n : Nat) : Nat → Int32 → m_M → Option m_M
  | 0, _, _ => none
  | u + 1, x1, M =>
    if (M.1 1 0) ≤ x1 then
  f_X1_addSeconds_b36 n n 10 M
  else
  m_gd (m_in x1 10) (
  m_ob (f_X1_stepsUp n x1 M) fun r11 =>
  m_bd (m_sI M (49 + 5 * x1.toNatClampNeg) 6 r11) fun M12 =>
  f_X1_addSeconds_b2 n u (x1 + 1) M12)
def f_X1_addSeconds (n : Nat) (M : m_M) : Option m_M :=
  f_X1_addSeconds_b2 n n 0 M
set_option maxHeartbeats 4000000 in
set_option maxRecDepth 100000 in
theorem c_X1_addSeconds (l : Launch) (G : m_G) {n : Nat} {M : m_M} {M0 : m_M}  (hres : f_X1_addSeconds n M = some M0) : Met l yX1_addSeconds (m_U yX1_addSeconds cX1_addSeconds 3 none) (m_R 4 101) (m_Pc G [.ref (m_ad G 45)] M) (m_Qv G M0) 0 0 (m_A G) := by
  refine m_i0 (n := 3) RX1 rfl (by decide) (Nat.le_of_ble_eq_true rfl) ?_
  intro p e s m args below meth c X hr hlk hSt hP hS ls hl
  have hl : lv_has ls 3 [(0, .ref (m_ad G 45))] := hl
  have B42 : ∀ (q36 : Int32 → m_M → Option m_M) (hq36 : ∀ (x1 : Int32) (M : m_M) (H : Heap) (locs : List Loc) (ls : Array Slot), m_P G M H → va_S (m_A G) s.heap H locs → lv_has ls 3 [(0, .ref (m_ad G 45)), (1, .int x1)] → q36 x1 M = some M0 → W p l e (m_R 4 101) s m args below meth c H locs 0 0 (MQ below (m_Qv G M0) args s 0 0 (m_A G)) (F0 m 36 ls [])) (u : Nat) (x1 : Int32) (x2 : Int32) (M : m_M) (H : Heap) (locs : List Loc) (ls : Array Slot), m_P G M H → va_S (m_A G) s.heap H locs → lv_has ls 3 [(0, .ref (m_ad G 45)), (1, .int x1), (2, .int x2)] → f_X1_addSeconds_b42 n q36 u x1 x2 M = some M0 → W p l e (m_R 4 101) s m args below meth c H locs 0 0 (MQ below (m_Qv G M0) args s 0 0 (m_A G)) (F0 m 42 ls []) := by
    intro q36 hq36 u
    induction u with
    | zero =>
      intro x1 x2 M H locs ls hP hS hl hres
      cases hres
    | succ u ih =>
      intro x1 x2 M H locs ls hP hS hl hres
      rw [f_X1_addSeconds_b42] at hres
      refine lv_iload_n X.1 X.2.1 dX1_addSeconds_42 rfl (lv_at hl 2 rfl) ?_
      refine lv_aload_n X.1 X.2.1 dX1_addSeconds_43 rfl (lv_at hl 0 rfl) ?_
      refine m_g1 (v := .ref (m_ad G 1)) X hSt hP m_z_45 0 (by decide) rfl k_f_X1_27 dX1_addSeconds_44 ?_
      refine m_g3 (v := .int (M.1 1 0)) X hSt hP m_kept_0.1 0 (by decide) rfl k_f_X1_150 dX1_addSeconds_47 ?_
      refine lv_icmp_ge (tgt := 102) X.1 X.2.1 dX1_addSeconds_50 (by decide) (fun hc1 => ?_) (fun hc1 => ?_)
      · have hres := m_it hres hc1
        refine lv_iinc (v := (x1 + (-1))) (lv' := [(1, .int (x1 + (-1))), (0, .ref (m_ad G 45)), (2, .int x2)]) X.1 X.2.1 dX1_addSeconds_102 hl (k := 1) rfl rfl (by decide) rfl (fun ls hl => ?_)
        refine lv_goto (tgt := 36) X.1 X.2.1 dX1_addSeconds_105 (by decide) ?_
        exact hq36 (x1 + (-1)) M _ _ _ hP hS (lv_sub hl [1, 0] rfl) hres
      · have hres := m_if hres hc1
        refine lv_aload_n X.1 X.2.1 dX1_addSeconds_53 rfl (lv_at hl 0 rfl) ?_
        refine m_g1 (v := .ref (m_ad G 46)) X hSt hP m_z_45 1 (by decide) rfl k_f_X1_11 dX1_addSeconds_54 ?_
        refine lv_iload_n X.1 X.2.1 dX1_addSeconds_57 rfl (lv_at hl 2 rfl) ?_
        obtain ⟨hg2, hres⟩ := m_gd_e hres
        refine m_qa6 (j := x2.toNatClampNeg) X hSt hP m_z_46 hg2 rfl dX1_addSeconds_58 ?_
        refine m_g5 (v := .int (M.1 (49 + 5 * x2.toNatClampNeg) 6)) X hSt hP (m_person_of hg2).1 6 (by decide) rfl k_f_X1_156 dX1_addSeconds_59 ?_
        refine lv_iload_n X.1 X.2.1 dX1_addSeconds_62 rfl (lv_at hl 1 rfl) ?_
        refine lv_icmp_ne (tgt := 96) X.1 X.2.1 dX1_addSeconds_63 (by decide) (fun hc3 => ?_) (fun hc3 => ?_)
        · have hres := m_if hres hc3
          refine lv_iinc (v := (x2 + 1)) (lv' := [(2, .int (x2 + 1)), (0, .ref (m_ad G 45)), (1, .int x1)]) X.1 X.2.1 dX1_addSeconds_96 hl (k := 2) rfl rfl (by decide) rfl (fun ls hl => ?_)
          refine lv_goto (tgt := 42) X.1 X.2.1 dX1_addSeconds_99 (by decide) ?_
          exact ih x1 (x2 + 1) M _ _ _ hP hS (lv_sub hl [1, 2, 0] rfl) hres
        · have hres := m_it hres hc3
          refine lv_aload_n X.1 X.2.1 dX1_addSeconds_66 rfl (lv_at hl 0 rfl) ?_
          refine m_g1 (v := .ref (m_ad G 46)) X hSt hP m_z_45 1 (by decide) rfl k_f_X1_11 dX1_addSeconds_67 ?_
          refine lv_aload_n X.1 X.2.1 dX1_addSeconds_70 rfl (lv_at hl 0 rfl) ?_
          refine m_g1 (v := .ref (m_ad G 46)) X hSt hP m_z_45 1 (by decide) rfl k_f_X1_11 dX1_addSeconds_71 ?_
          refine lv_iload_n X.1 X.2.1 dX1_addSeconds_74 rfl (lv_at hl 2 rfl) ?_
          refine m_qa6 (j := x2.toNatClampNeg) X hSt hP m_z_46 hg2 rfl dX1_addSeconds_75 ?_
          refine m_g5 (v := .int (M.1 (49 + 5 * x2.toNatClampNeg) 0)) X hSt hP (m_person_of hg2).1 0 (by decide) rfl k_f_X1_137 dX1_addSeconds_76 ?_
          obtain ⟨hg4, hres⟩ := m_gd_e hres
          refine m_qa6 (j := ((M.1 (49 + 5 * x2.toNatClampNeg) 0).toNatClampNeg)) X hSt hP m_z_46 hg4 rfl dX1_addSeconds_79 ?_
          refine lv_dup X.1 X.2.1 dX1_addSeconds_80 rfl ?_
          refine m_g5 (v := .int (M.1 (49 + 5 * ((M.1 (49 + 5 * x2.toNatClampNeg) 0).toNatClampNeg)) 5)) X hSt hP (m_person_of hg4).1 5 (by decide) rfl k_f_X1_159 dX1_addSeconds_81 ?_
          refine lv_aload_n X.1 X.2.1 dX1_addSeconds_84 rfl (lv_at hl 0 rfl) ?_
          refine lv_iload_n X.1 X.2.1 dX1_addSeconds_85 rfl (lv_at hl 2 rfl) ?_
          refine lv_iconst (v := 0) X.1 X.2.1 dX1_addSeconds_86 (by decide) ?_
          refine lv_lconst (v := 0) X.1 X.2.1 dX1_addSeconds_87 (by decide) ?_
          refine lv_lconst (v := 0) X.1 X.2.1 dX1_addSeconds_88 (by decide) ?_
          obtain ⟨r5, M6, err5, hres⟩ := m_o2_e hres
          refine m_bi (m_cV (n := 4) (As := [.int x2, .int 0, .long 0, .long 0]) (rest := [.int (M.1 (49 + 5 * ((M.1 (49 + 5 * x2.toNatClampNeg) 0).toNatClampNeg)) 5), .ref (m_ad G (49 + 5 * ((M.1 (49 + 5 * x2.toNatClampNeg) 0).toNatClampNeg)))]) X hSt hP hS hl.1 (c_X1_netOf l G  err5) k_c_yX1_netOf k_m_X1_162 k_i_yX1_netOf k_s_yX1_netOf k_n_X1 (by decide +kernel) (m_rc1 hSt hP m_z_45) rfl rfl ⟨Nat.le_of_ble_eq_true rfl, Nat.le_of_ble_eq_true rfl⟩ (Nat.le_of_ble_eq_true rfl) ⟨Nat.zero_le _, Nat.zero_le _⟩ dX1_addSeconds_89) hS (fun H locs hP hS => ?_)
          refine lv_iadd X.1 X.2.1 dX1_addSeconds_92 ?_
          obtain ⟨M7, eM7, hres⟩ := m_bd_e hres
          refine m_pi5 X hSt hP hS (m_person_of hg4).1 5 (by decide) eM7 rfl rfl (by decide) k_f_X1_159 dX1_addSeconds_93 (fun H locs hP hS => ?_)
          refine lv_iinc (v := (x2 + 1)) (lv' := [(2, .int (x2 + 1)), (0, .ref (m_ad G 45)), (1, .int x1)]) X.1 X.2.1 dX1_addSeconds_96 hl (k := 2) rfl rfl (by decide) rfl (fun ls hl => ?_)
          refine lv_goto (tgt := 42) X.1 X.2.1 dX1_addSeconds_99 (by decide) ?_
          exact ih x1 (x2 + 1) M7 _ _ _ hP hS (lv_sub hl [1, 2, 0] rfl) hres
  have B36 : ∀ (u : Nat) (x1 : Int32) (M : m_M) (H : Heap) (locs : List Loc) (ls : Array Slot), m_P G M H → va_S (m_A G) s.heap H locs → lv_has ls 3 [(0, .ref (m_ad G 45)), (1, .int x1)] → f_X1_addSeconds_b36 n u x1 M = some M0 → W p l e (m_R 4 101) s m args below meth c H locs 0 0 (MQ below (m_Qv G M0) args s 0 0 (m_A G)) (F0 m 36 ls []) := by
    intro u
    induction u with
    | zero =>
      intro x1 M H locs ls hP hS hl hres
      cases hres
    | succ u ih =>
      intro x1 M H locs ls hP hS hl hres
      rw [f_X1_addSeconds_b36] at hres
      refine lv_iload_n X.1 X.2.1 dX1_addSeconds_36 rfl (lv_at hl 1 rfl) ?_
      refine lv_if_le (tgt := 108) X.1 X.2.1 dX1_addSeconds_37 (by decide) (fun hc8 => ?_) (fun hc8 => ?_)
      · have hres := m_it hres hc8
        exact m_rv X hr hlk hP hS (Option.some.inj hres) dX1_addSeconds_108
      · have hres := m_if hres hc8
        refine lv_iconst (v := 0) X.1 X.2.1 dX1_addSeconds_40 (by decide) ?_
        refine lv_istore_n (lv' := [(2, .int 0), (0, .ref (m_ad G 45)), (1, .int x1)]) X.1 X.2.1 dX1_addSeconds_41 rfl hl (by decide) rfl (fun ls hl => ?_)
        exact B42 (f_X1_addSeconds_b36 n u) ih n x1 0 M _ _ _ hP hS (lv_sub hl [1, 2, 0] rfl) hres
  have B2 : ∀ (u : Nat) (x1 : Int32) (M : m_M) (H : Heap) (locs : List Loc) (ls : Array Slot), m_P G M H → va_S (m_A G) s.heap H locs → lv_has ls 3 [(0, .ref (m_ad G 45)), (1, .int x1)] → f_X1_addSeconds_b2 n u x1 M = some M0 → W p l e (m_R 4 101) s m args below meth c H locs 0 0 (MQ below (m_Qv G M0) args s 0 0 (m_A G)) (F0 m 2 ls []) := by
    intro u
    induction u with
    | zero =>
      intro x1 M H locs ls hP hS hl hres
      cases hres
    | succ u ih =>
      intro x1 M H locs ls hP hS hl hres
      rw [f_X1_addSeconds_b2] at hres
      refine lv_iload_n X.1 X.2.1 dX1_addSeconds_2 rfl (lv_at hl 1 rfl) ?_
      refine lv_aload_n X.1 X.2.1 dX1_addSeconds_3 rfl (lv_at hl 0 rfl) ?_
      refine m_g1 (v := .ref (m_ad G 1)) X hSt hP m_z_45 0 (by decide) rfl k_f_X1_27 dX1_addSeconds_4 ?_
      refine m_g3 (v := .int (M.1 1 0)) X hSt hP m_kept_0.1 0 (by decide) rfl k_f_X1_150 dX1_addSeconds_7 ?_
      refine lv_icmp_ge (tgt := 33) X.1 X.2.1 dX1_addSeconds_10 (by decide) (fun hc9 => ?_) (fun hc9 => ?_)
      · have hres := m_it hres hc9
        refine lv_bipush (v := 10) X.1 X.2.1 dX1_addSeconds_33 (by decide) ?_
        refine lv_istore_n (lv' := [(1, .int 10), (0, .ref (m_ad G 45))]) X.1 X.2.1 dX1_addSeconds_35 rfl hl (by decide) rfl (fun ls hl => ?_)
        exact B36 n 10 M _ _ _ hP hS (lv_sub hl [1, 0] rfl) hres
      · have hres := m_if hres hc9
        refine lv_aload_n X.1 X.2.1 dX1_addSeconds_13 rfl (lv_at hl 0 rfl) ?_
        refine m_g1 (v := .ref (m_ad G 46)) X hSt hP m_z_45 1 (by decide) rfl k_f_X1_11 dX1_addSeconds_14 ?_
        refine lv_iload_n X.1 X.2.1 dX1_addSeconds_17 rfl (lv_at hl 1 rfl) ?_
        obtain ⟨hg10, hres⟩ := m_gd_e hres
        refine m_qa6 (j := x1.toNatClampNeg) X hSt hP m_z_46 hg10 rfl dX1_addSeconds_18 ?_
        refine lv_aload_n X.1 X.2.1 dX1_addSeconds_19 rfl (lv_at hl 0 rfl) ?_
        refine lv_iload_n X.1 X.2.1 dX1_addSeconds_20 rfl (lv_at hl 1 rfl) ?_
        obtain ⟨r11, err11, hres⟩ := m_ob_e hres
        refine m_bi (m_cV (n := 1) (As := [.int x1]) (rest := [.ref (m_ad G (49 + 5 * x1.toNatClampNeg))]) X hSt hP hS hl.1 (c_X1_stepsUp l G  err11) k_c_yX1_stepsUp k_m_X1_153 k_i_yX1_stepsUp k_s_yX1_stepsUp k_n_X1 (by decide +kernel) (m_rc1 hSt hP m_z_45) rfl rfl ⟨Nat.le_of_ble_eq_true rfl, Nat.le_of_ble_eq_true rfl⟩ (Nat.le_of_ble_eq_true rfl) ⟨Nat.zero_le _, Nat.zero_le _⟩ dX1_addSeconds_21) hS (fun H locs hP hS => ?_)
        obtain ⟨M12, eM12, hres⟩ := m_bd_e hres
        refine m_pi5 X hSt hP hS (m_person_of hg10).1 6 (by decide) eM12 rfl rfl (by decide) k_f_X1_156 dX1_addSeconds_24 (fun H locs hP hS => ?_)
        refine lv_iinc (v := (x1 + 1)) (lv' := [(1, .int (x1 + 1)), (0, .ref (m_ad G 45))]) X.1 X.2.1 dX1_addSeconds_27 hl (k := 1) rfl rfl (by decide) rfl (fun ls hl => ?_)
        refine lv_goto (tgt := 2) X.1 X.2.1 dX1_addSeconds_30 (by decide) ?_
        exact ih (x1 + 1) M12 _ _ _ hP hS (lv_sub hl [1, 0] rfl) hres
  unfold f_X1_addSeconds at hres
  refine lv_iconst (v := 0) X.1 X.2.1 dX1_addSeconds_0 (by decide) ?_
  refine lv_istore_n (lv' := [(1, .int 0), (0, .ref (m_ad G 45))]) X.1 X.2.1 dX1_addSeconds_1 rfl hl (by decide) rfl (fun ls hl => ?_)
  exact B2 n 0 M _ _ _ hP hS (lv_sub hl [1, 0] rfl) hres
theorem dX1_reckon_0 : decode cX1_reckon 0 = .ok (.aload_n 0, 1) := by decide +kernel
theorem dX1_reckon_1 : decode cX1_reckon 1 = .ok (.iload_n 1, 1) := by decide +kernel
theorem dX1_reckon_2 : decode cX1_reckon 2 = .ok (.iload_n 2, 1) := by decide +kernel
theorem dX1_reckon_3 : decode cX1_reckon 3 = .ok (.invokevirtual 60, 3) := by decide +kernel
theorem dX1_reckon_6 : decode cX1_reckon 6 = .ok (.aload_n 0, 1) := by decide +kernel
theorem dX1_reckon_7 : decode cX1_reckon 7 = .ok (.invokevirtual 64, 3) := by decide +kernel
theorem dX1_reckon_10 : decode cX1_reckon 10 = .ok (.return_, 1) := by decide +kernel
def f_X1_reckon (n : Nat) (x1 : Int32) (x2 : Int32) (M : m_M) : Option m_M :=
  m_ob (f_X1_replay n x1 x2 M) fun M1 =>
  m_ob (f_X1_addSeconds n M1) fun M2 =>
  some M2
set_option maxHeartbeats 4000000 in
set_option maxRecDepth 100000 in
theorem c_X1_reckon (l : Launch) (G : m_G) {n : Nat} {x1 : Int32} {x2 : Int32} {M : m_M} {M0 : m_M}  (hres : f_X1_reckon n x1 x2 M = some M0) : Met l yX1_reckon (m_U yX1_reckon cX1_reckon 3 none) (m_R 6 135) (m_Pc G [.ref (m_ad G 45), .int x1, .int x2] M) (m_Qv G M0) 0 0 (m_A G) := by
  refine m_i0 (n := 3) RX1 rfl (by decide) (Nat.le_of_ble_eq_true rfl) ?_
  intro p e s m args below meth c X hr hlk hSt hP hS ls hl
  have hl : lv_has ls 3 [(0, .ref (m_ad G 45)), (1, .int x1), (2, .int x2)] := hl
  unfold f_X1_reckon at hres
  refine lv_aload_n X.1 X.2.1 dX1_reckon_0 rfl (lv_at hl 0 rfl) ?_
  refine lv_iload_n X.1 X.2.1 dX1_reckon_1 rfl (lv_at hl 1 rfl) ?_
  refine lv_iload_n X.1 X.2.1 dX1_reckon_2 rfl (lv_at hl 2 rfl) ?_
  obtain ⟨M1, eM1, hres⟩ := m_ob_e hres
  refine m_bv (m_cV (n := 2) (As := [.int x1, .int x2]) (rest := []) X hSt hP hS hl.1 (c_X1_replay l G  eM1) k_c_yX1_replay k_m_X1_60 k_i_yX1_replay k_s_yX1_replay k_n_X1 (by decide +kernel) (m_rc1 hSt hP m_z_45) rfl rfl ⟨Nat.le_of_ble_eq_true rfl, Nat.le_of_ble_eq_true rfl⟩ (Nat.le_of_ble_eq_true rfl) ⟨Nat.zero_le _, Nat.zero_le _⟩ dX1_reckon_3) hS (fun H locs hP hS => ?_)
  refine lv_aload_n X.1 X.2.1 dX1_reckon_6 rfl (lv_at hl 0 rfl) ?_
  obtain ⟨M2, eM2, hres⟩ := m_ob_e hres
  refine m_bv (m_cV (n := 0) (As := []) (rest := []) X hSt hP hS hl.1 (c_X1_addSeconds l G  eM2) k_c_yX1_addSeconds k_m_X1_64 k_i_yX1_addSeconds k_s_yX1_addSeconds k_n_X1 (by decide +kernel) (m_rc1 hSt hP m_z_45) rfl rfl ⟨Nat.le_of_ble_eq_true rfl, Nat.le_of_ble_eq_true rfl⟩ (Nat.le_of_ble_eq_true rfl) ⟨Nat.zero_le _, Nat.zero_le _⟩ dX1_reckon_7) hS (fun H locs hP hS => ?_)
  exact m_rv X hr hlk hP hS (Option.some.inj hres) dX1_reckon_10
theorem dX0_left_0 : decode cX0_left 0 = .ok (.aload_n 0, 1) := by decide +kernel
theorem dX0_left_1 : decode cX0_left 1 = .ok (.getfield 16, 3) := by decide +kernel
theorem dX0_left_4 : decode cX0_left 4 = .ok (.aload_n 0, 1) := by decide +kernel
theorem dX0_left_5 : decode cX0_left 5 = .ok (.getfield 19, 3) := by decide +kernel
theorem dX0_left_8 : decode cX0_left 8 = .ok (.isub, 1) := by decide +kernel
theorem dX0_left_9 : decode cX0_left 9 = .ok (.ireturn, 1) := by decide +kernel
def f_X0_left (k0 : Nat) (M : m_M) : Int32 :=
  ((M.1 k0 2) - (M.1 k0 3))
set_option maxHeartbeats 4000000 in
set_option maxRecDepth 100000 in
theorem c_X0_left (l : Launch) (G : m_G) {k0 : Nat} {M : m_M} {r0 : Int32} (hk0 : m_isDeal k0) (hres : f_X0_left k0 M = r0) : Met l yX0_left (m_U yX0_left cX0_left 1 (some .int)) (m_R 0 0) (m_Pc G [.ref (m_ad G k0)] M) (m_Qi G r0 M) 0 0 (m_A G) := by
  refine m_i0 (n := 1) RX0 rfl (by decide) (Nat.le_of_ble_eq_true rfl) ?_
  intro p e s m args below meth c X hr hlk hSt hP hS ls hl
  have hl : lv_has ls 1 [(0, .ref (m_ad G k0))] := hl
  unfold f_X0_left at hres
  refine lv_aload_n X.1 X.2.1 dX0_left_0 rfl (lv_at hl 0 rfl) ?_
  refine m_g0 (v := .int (M.1 k0 2)) X hSt hP hk0 2 (by decide) rfl k_f_X0_16 dX0_left_1 ?_
  refine lv_aload_n X.1 X.2.1 dX0_left_4 rfl (lv_at hl 0 rfl) ?_
  refine m_g0 (v := .int (M.1 k0 3)) X hSt hP hk0 3 (by decide) rfl k_f_X0_19 dX0_left_5 ?_
  refine lv_isub X.1 X.2.1 dX0_left_8 ?_
  exact m_ri X hr hlk hP hS hres rfl dX0_left_9
theorem dX0_there_0 : decode cX0_there 0 = .ok (.iconst 0, 1) := by decide +kernel
theorem dX0_there_1 : decode cX0_there 1 = .ok (.aload_n 0, 1) := by decide +kernel
theorem dX0_there_2 : decode cX0_there 2 = .ok (.getfield 22, 3) := by decide +kernel
theorem dX0_there_5 : decode cX0_there 5 = .ok (.aload_n 0, 1) := by decide +kernel
theorem dX0_there_6 : decode cX0_there 6 = .ok (.getfield 25, 3) := by decide +kernel
theorem dX0_there_9 : decode cX0_there 9 = .ok (.isub, 1) := by decide +kernel
theorem dX0_there_10 : decode cX0_there 10 = .ok (.invokestatic 53, 3) := by decide +kernel
theorem dX0_there_13 : decode cX0_there 13 = .ok (.ireturn, 1) := by decide +kernel
def f_X0_there (k0 : Nat) (M : m_M) : Int32 :=
  m_bd (m_max 0 ((M.1 k0 4) - (M.1 k0 5))) fun r1 =>
  r1
set_option maxHeartbeats 4000000 in
set_option maxRecDepth 100000 in
theorem c_X0_there (l : Launch) (G : m_G) {k0 : Nat} {M : m_M} {r0 : Int32} (hk0 : m_isDeal k0) (hres : f_X0_there k0 M = r0) : Met l yX0_there (m_U yX0_there cX0_there 1 (some .int)) (m_R 1 30) (m_Pc G [.ref (m_ad G k0)] M) (m_Qi G r0 M) 0 0 (m_A G) := by
  refine m_i0 (n := 1) RX0 rfl (by decide) (Nat.le_of_ble_eq_true rfl) ?_
  intro p e s m args below meth c X hr hlk hSt hP hS ls hl
  have hl : lv_has ls 1 [(0, .ref (m_ad G k0))] := hl
  unfold f_X0_there at hres
  refine lv_iconst (v := 0) X.1 X.2.1 dX0_there_0 (by decide) ?_
  refine lv_aload_n X.1 X.2.1 dX0_there_1 rfl (lv_at hl 0 rfl) ?_
  refine m_g0 (v := .int (M.1 k0 4)) X hSt hP hk0 4 (by decide) rfl k_f_X0_22 dX0_there_2 ?_
  refine lv_aload_n X.1 X.2.1 dX0_there_5 rfl (lv_at hl 0 rfl) ?_
  refine m_g0 (v := .int (M.1 k0 5)) X hSt hP hk0 5 (by decide) rfl k_f_X0_25 dX0_there_6 ?_
  refine lv_isub X.1 X.2.1 dX0_there_9 ?_
  obtain ⟨r1, err1, hres⟩ := m_bd_e hres
  refine m_mx (rest := []) X hl.1 k_m_X0_53 k_t_yJ9_max_7cf53 k_n_J9 k_c_yJ9_max_7cf53 (Nat.le_of_ble_eq_true rfl) (Nat.le_of_ble_eq_true rfl) ⟨Nat.zero_le _, Nat.zero_le _⟩ dX0_there_10 err1 ?_
  exact m_ri X hr hlk hP hS hres rfl dX0_there_13
theorem dX1_isPurseOpen_0 : decode cX1_isPurseOpen 0 = .ok (.aload_n 0, 1) := by decide +kernel
theorem dX1_isPurseOpen_1 : decode cX1_isPurseOpen 1 = .ok (.getfield 11, 3) := by decide +kernel
theorem dX1_isPurseOpen_4 : decode cX1_isPurseOpen 4 = .ok (.aload_n 0, 1) := by decide +kernel
theorem dX1_isPurseOpen_5 : decode cX1_isPurseOpen 5 = .ok (.getfield 19, 3) := by decide +kernel
theorem dX1_isPurseOpen_8 : decode cX1_isPurseOpen 8 = .ok (.iload_n 1, 1) := by decide +kernel
theorem dX1_isPurseOpen_9 : decode cX1_isPurseOpen 9 = .ok (.aaload, 1) := by decide +kernel
theorem dX1_isPurseOpen_10 : decode cX1_isPurseOpen 10 = .ok (.getfield 185, 3) := by decide +kernel
theorem dX1_isPurseOpen_13 : decode cX1_isPurseOpen 13 = .ok (.aaload, 1) := by decide +kernel
theorem dX1_isPurseOpen_14 : decode cX1_isPurseOpen 14 = .ok (.astore_n 2, 1) := by decide +kernel
theorem dX1_isPurseOpen_15 : decode cX1_isPurseOpen 15 = .ok (.aload_n 2, 1) := by decide +kernel
theorem dX1_isPurseOpen_16 : decode cX1_isPurseOpen 16 = .ok (.getfield 137, 3) := by decide +kernel
theorem dX1_isPurseOpen_19 : decode cX1_isPurseOpen 19 = .ok (.iconst (-1), 1) := by decide +kernel
theorem dX1_isPurseOpen_20 : decode cX1_isPurseOpen 20 = .ok (.if_icmp .eq 5, 3) := by decide +kernel
theorem dX1_isPurseOpen_23 : decode cX1_isPurseOpen 23 = .ok (.iconst 1, 1) := by decide +kernel
theorem dX1_isPurseOpen_24 : decode cX1_isPurseOpen 24 = .ok (.ireturn, 1) := by decide +kernel
theorem dX1_isPurseOpen_25 : decode cX1_isPurseOpen 25 = .ok (.aload_n 2, 1) := by decide +kernel
theorem dX1_isPurseOpen_26 : decode cX1_isPurseOpen 26 = .ok (.getfield 188, 3) := by decide +kernel
theorem dX1_isPurseOpen_29 : decode cX1_isPurseOpen 29 = .ok (.iconst (-1), 1) := by decide +kernel
theorem dX1_isPurseOpen_30 : decode cX1_isPurseOpen 30 = .ok (.if_icmp .eq 30, 3) := by decide +kernel
theorem dX1_isPurseOpen_33 : decode cX1_isPurseOpen 33 = .ok (.aload_n 2, 1) := by decide +kernel
theorem dX1_isPurseOpen_34 : decode cX1_isPurseOpen 34 = .ok (.getfield 191, 3) := by decide +kernel
theorem dX1_isPurseOpen_37 : decode cX1_isPurseOpen 37 = .ok (.iconst 2, 1) := by decide +kernel
theorem dX1_isPurseOpen_38 : decode cX1_isPurseOpen 38 = .ok (.if_icmp .eq 22, 3) := by decide +kernel
theorem dX1_isPurseOpen_41 : decode cX1_isPurseOpen 41 = .ok (.aload_n 0, 1) := by decide +kernel
theorem dX1_isPurseOpen_42 : decode cX1_isPurseOpen 42 = .ok (.getfield 33, 3) := by decide +kernel
theorem dX1_isPurseOpen_45 : decode cX1_isPurseOpen 45 = .ok (.aload_n 2, 1) := by decide +kernel
theorem dX1_isPurseOpen_46 : decode cX1_isPurseOpen 46 = .ok (.getfield 194, 3) := by decide +kernel
theorem dX1_isPurseOpen_49 : decode cX1_isPurseOpen 49 = .ok (.isub, 1) := by decide +kernel
theorem dX1_isPurseOpen_50 : decode cX1_isPurseOpen 50 = .ok (.sipush 360, 3) := by decide +kernel
theorem dX1_isPurseOpen_53 : decode cX1_isPurseOpen 53 = .ok (.if_icmp .gt 7, 3) := by decide +kernel
theorem dX1_isPurseOpen_56 : decode cX1_isPurseOpen 56 = .ok (.iconst 1, 1) := by decide +kernel
theorem dX1_isPurseOpen_57 : decode cX1_isPurseOpen 57 = .ok (.goto 4, 3) := by decide +kernel
theorem dX1_isPurseOpen_60 : decode cX1_isPurseOpen 60 = .ok (.iconst 0, 1) := by decide +kernel
theorem dX1_isPurseOpen_61 : decode cX1_isPurseOpen 61 = .ok (.ireturn, 1) := by decide +kernel
def f_X1_isPurseOpen (x1 : Int32) (M : m_M) : Option Int32 :=
  m_gd (m_in x1 60) (
  m_gd (m_in (M.1 (99 + x1.toNatClampNeg) 0) 10) (
  if (M.1 (49 + 5 * ((M.1 (99 + x1.toNatClampNeg) 0).toNatClampNeg)) 0) = (-1) then
  if (M.1 (49 + 5 * ((M.1 (99 + x1.toNatClampNeg) 0).toNatClampNeg)) 1) = (-1) then
  some 0
  else
  if (M.1 (49 + 5 * ((M.1 (99 + x1.toNatClampNeg) 0).toNatClampNeg)) 3) = 2 then
  some 0
  else
  if (360 : Int32) < ((M.1 45 5) - (M.1 (49 + 5 * ((M.1 (99 + x1.toNatClampNeg) 0).toNatClampNeg)) 2)) then
  some 0
  else
  some 1
  else
  some 1))
set_option maxHeartbeats 4000000 in
set_option maxRecDepth 100000 in
theorem c_X1_isPurseOpen (l : Launch) (G : m_G) {x1 : Int32} {M : m_M} {r0 : Int32}  (hres : f_X1_isPurseOpen x1 M = some r0) : Met l yX1_isPurseOpen (m_U yX1_isPurseOpen cX1_isPurseOpen 3 (some .boolean)) (m_R 0 0) (m_Pc G [.ref (m_ad G 45), .int x1] M) (m_Qz G r0 M) 0 0 (m_A G) := by
  refine m_i0 (n := 3) RX1 rfl (by decide) (Nat.le_of_ble_eq_true rfl) ?_
  intro p e s m args below meth c X hr hlk hSt hP hS ls hl
  have hl : lv_has ls 3 [(0, .ref (m_ad G 45)), (1, .int x1)] := hl
  unfold f_X1_isPurseOpen at hres
  refine lv_aload_n X.1 X.2.1 dX1_isPurseOpen_0 rfl (lv_at hl 0 rfl) ?_
  refine m_g1 (v := .ref (m_ad G 46)) X hSt hP m_z_45 1 (by decide) rfl k_f_X1_11 dX1_isPurseOpen_1 ?_
  refine lv_aload_n X.1 X.2.1 dX1_isPurseOpen_4 rfl (lv_at hl 0 rfl) ?_
  refine m_g1 (v := .ref (m_ad G 47)) X hSt hP m_z_45 2 (by decide) rfl k_f_X1_19 dX1_isPurseOpen_5 ?_
  refine lv_iload_n X.1 X.2.1 dX1_isPurseOpen_8 rfl (lv_at hl 1 rfl) ?_
  obtain ⟨hg1, hres⟩ := m_gd_e hres
  refine m_qa3 (j := x1.toNatClampNeg) X hSt hP m_z_47 hg1 rfl dX1_isPurseOpen_9 ?_
  refine m_g0 (v := .int (M.1 (99 + x1.toNatClampNeg) 0)) X hSt hP (m_deal_of hg1) 0 (by decide) rfl k_f_X1_185 dX1_isPurseOpen_10 ?_
  obtain ⟨hg2, hres⟩ := m_gd_e hres
  refine m_qa6 (j := ((M.1 (99 + x1.toNatClampNeg) 0).toNatClampNeg)) X hSt hP m_z_46 hg2 rfl dX1_isPurseOpen_13 ?_
  refine lv_astore_n (lv' := [(2, .ref (m_ad G (49 + 5 * ((M.1 (99 + x1.toNatClampNeg) 0).toNatClampNeg)))), (0, .ref (m_ad G 45)), (1, .int x1)]) X.1 X.2.1 dX1_isPurseOpen_14 rfl hl (by decide) rfl (fun ls hl => ?_)
  refine lv_aload_n X.1 X.2.1 dX1_isPurseOpen_15 rfl (lv_at hl 0 rfl) ?_
  refine m_g5 (v := .int (M.1 (49 + 5 * ((M.1 (99 + x1.toNatClampNeg) 0).toNatClampNeg)) 0)) X hSt hP (m_person_of hg2).1 0 (by decide) rfl k_f_X1_137 dX1_isPurseOpen_16 ?_
  refine lv_iconst (v := (-1)) X.1 X.2.1 dX1_isPurseOpen_19 (by decide) ?_
  refine lv_icmp_eq (tgt := 25) X.1 X.2.1 dX1_isPurseOpen_20 (by decide) (fun hc3 => ?_) (fun hc3 => ?_)
  · have hres := m_it hres hc3
    refine lv_aload_n X.1 X.2.1 dX1_isPurseOpen_25 rfl (lv_at hl 0 rfl) ?_
    refine m_g5 (v := .int (M.1 (49 + 5 * ((M.1 (99 + x1.toNatClampNeg) 0).toNatClampNeg)) 1)) X hSt hP (m_person_of hg2).1 1 (by decide) rfl k_f_X1_188 dX1_isPurseOpen_26 ?_
    refine lv_iconst (v := (-1)) X.1 X.2.1 dX1_isPurseOpen_29 (by decide) ?_
    refine lv_icmp_eq (tgt := 60) X.1 X.2.1 dX1_isPurseOpen_30 (by decide) (fun hc4 => ?_) (fun hc4 => ?_)
    · have hres := m_it hres hc4
      refine lv_iconst (v := 0) X.1 X.2.1 dX1_isPurseOpen_60 (by decide) ?_
      exact m_rz X hr hlk hP hS (Option.some.inj hres) rfl (by decide) dX1_isPurseOpen_61
    · have hres := m_if hres hc4
      refine lv_aload_n X.1 X.2.1 dX1_isPurseOpen_33 rfl (lv_at hl 0 rfl) ?_
      refine m_g5 (v := .int (M.1 (49 + 5 * ((M.1 (99 + x1.toNatClampNeg) 0).toNatClampNeg)) 3)) X hSt hP (m_person_of hg2).1 3 (by decide) rfl k_f_X1_191 dX1_isPurseOpen_34 ?_
      refine lv_iconst (v := 2) X.1 X.2.1 dX1_isPurseOpen_37 (by decide) ?_
      refine lv_icmp_eq (tgt := 60) X.1 X.2.1 dX1_isPurseOpen_38 (by decide) (fun hc5 => ?_) (fun hc5 => ?_)
      · have hres := m_it hres hc5
        refine lv_iconst (v := 0) X.1 X.2.1 dX1_isPurseOpen_60 (by decide) ?_
        exact m_rz X hr hlk hP hS (Option.some.inj hres) rfl (by decide) dX1_isPurseOpen_61
      · have hres := m_if hres hc5
        refine lv_aload_n X.1 X.2.1 dX1_isPurseOpen_41 rfl (lv_at hl 1 rfl) ?_
        refine m_g1 (v := .int (M.1 45 5)) X hSt hP m_z_45 5 (by decide) rfl k_f_X1_33 dX1_isPurseOpen_42 ?_
        refine lv_aload_n X.1 X.2.1 dX1_isPurseOpen_45 rfl (lv_at hl 0 rfl) ?_
        refine m_g5 (v := .int (M.1 (49 + 5 * ((M.1 (99 + x1.toNatClampNeg) 0).toNatClampNeg)) 2)) X hSt hP (m_person_of hg2).1 2 (by decide) rfl k_f_X1_194 dX1_isPurseOpen_46 ?_
        refine lv_isub X.1 X.2.1 dX1_isPurseOpen_49 ?_
        refine lv_sipush (v := 360) X.1 X.2.1 dX1_isPurseOpen_50 (by decide) ?_
        refine lv_icmp_gt (tgt := 60) X.1 X.2.1 dX1_isPurseOpen_53 (by decide) (fun hc6 => ?_) (fun hc6 => ?_)
        · have hres := m_it hres hc6
          refine lv_iconst (v := 0) X.1 X.2.1 dX1_isPurseOpen_60 (by decide) ?_
          exact m_rz X hr hlk hP hS (Option.some.inj hres) rfl (by decide) dX1_isPurseOpen_61
        · have hres := m_if hres hc6
          refine lv_iconst (v := 1) X.1 X.2.1 dX1_isPurseOpen_56 (by decide) ?_
          refine lv_goto (tgt := 61) X.1 X.2.1 dX1_isPurseOpen_57 (by decide) ?_
          exact m_rz X hr hlk hP hS (Option.some.inj hres) rfl (by decide) dX1_isPurseOpen_61
  · have hres := m_if hres hc3
    refine lv_iconst (v := 1) X.1 X.2.1 dX1_isPurseOpen_23 (by decide) ?_
    exact m_rz X hr hlk hP hS (Option.some.inj hres) rfl (by decide) dX1_isPurseOpen_24
theorem dX1_hiddenBehind_0 : decode cX1_hiddenBehind 0 = .ok (.aload_n 0, 1) := by decide +kernel
theorem dX1_hiddenBehind_1 : decode cX1_hiddenBehind 1 = .ok (.getfield 11, 3) := by decide +kernel
theorem dX1_hiddenBehind_4 : decode cX1_hiddenBehind 4 = .ok (.aload_n 0, 1) := by decide +kernel
theorem dX1_hiddenBehind_5 : decode cX1_hiddenBehind 5 = .ok (.getfield 19, 3) := by decide +kernel
theorem dX1_hiddenBehind_8 : decode cX1_hiddenBehind 8 = .ok (.iload_n 1, 1) := by decide +kernel
theorem dX1_hiddenBehind_9 : decode cX1_hiddenBehind 9 = .ok (.aaload, 1) := by decide +kernel
theorem dX1_hiddenBehind_10 : decode cX1_hiddenBehind 10 = .ok (.getfield 185, 3) := by decide +kernel
theorem dX1_hiddenBehind_13 : decode cX1_hiddenBehind 13 = .ok (.aaload, 1) := by decide +kernel
theorem dX1_hiddenBehind_14 : decode cX1_hiddenBehind 14 = .ok (.getfield 109, 3) := by decide +kernel
theorem dX1_hiddenBehind_17 : decode cX1_hiddenBehind 17 = .ok (.aload_n 0, 1) := by decide +kernel
theorem dX1_hiddenBehind_18 : decode cX1_hiddenBehind 18 = .ok (.getfield 19, 3) := by decide +kernel
theorem dX1_hiddenBehind_21 : decode cX1_hiddenBehind 21 = .ok (.iload_n 1, 1) := by decide +kernel
theorem dX1_hiddenBehind_22 : decode cX1_hiddenBehind 22 = .ok (.aaload, 1) := by decide +kernel
theorem dX1_hiddenBehind_23 : decode cX1_hiddenBehind 23 = .ok (.getfield 197, 3) := by decide +kernel
theorem dX1_hiddenBehind_26 : decode cX1_hiddenBehind 26 = .ok (.isub, 1) := by decide +kernel
theorem dX1_hiddenBehind_27 : decode cX1_hiddenBehind 27 = .ok (.ireturn, 1) := by decide +kernel
def f_X1_hiddenBehind (x1 : Int32) (M : m_M) : Option Int32 :=
  m_gd (m_in x1 60) (
  m_gd (m_in (M.1 (99 + x1.toNatClampNeg) 0) 10) (
  some ((M.1 (49 + 5 * ((M.1 (99 + x1.toNatClampNeg) 0).toNatClampNeg)) 4) - (M.1 (99 + x1.toNatClampNeg) 6))))
set_option maxHeartbeats 4000000 in
set_option maxRecDepth 100000 in
theorem c_X1_hiddenBehind (l : Launch) (G : m_G) {x1 : Int32} {M : m_M} {r0 : Int32}  (hres : f_X1_hiddenBehind x1 M = some r0) : Met l yX1_hiddenBehind (m_U yX1_hiddenBehind cX1_hiddenBehind 2 (some .int)) (m_R 0 0) (m_Pc G [.ref (m_ad G 45), .int x1] M) (m_Qi G r0 M) 0 0 (m_A G) := by
  refine m_i0 (n := 2) RX1 rfl (by decide) (Nat.le_of_ble_eq_true rfl) ?_
  intro p e s m args below meth c X hr hlk hSt hP hS ls hl
  have hl : lv_has ls 2 [(0, .ref (m_ad G 45)), (1, .int x1)] := hl
  unfold f_X1_hiddenBehind at hres
  refine lv_aload_n X.1 X.2.1 dX1_hiddenBehind_0 rfl (lv_at hl 0 rfl) ?_
  refine m_g1 (v := .ref (m_ad G 46)) X hSt hP m_z_45 1 (by decide) rfl k_f_X1_11 dX1_hiddenBehind_1 ?_
  refine lv_aload_n X.1 X.2.1 dX1_hiddenBehind_4 rfl (lv_at hl 0 rfl) ?_
  refine m_g1 (v := .ref (m_ad G 47)) X hSt hP m_z_45 2 (by decide) rfl k_f_X1_19 dX1_hiddenBehind_5 ?_
  refine lv_iload_n X.1 X.2.1 dX1_hiddenBehind_8 rfl (lv_at hl 1 rfl) ?_
  obtain ⟨hg1, hres⟩ := m_gd_e hres
  refine m_qa3 (j := x1.toNatClampNeg) X hSt hP m_z_47 hg1 rfl dX1_hiddenBehind_9 ?_
  refine m_g0 (v := .int (M.1 (99 + x1.toNatClampNeg) 0)) X hSt hP (m_deal_of hg1) 0 (by decide) rfl k_f_X1_185 dX1_hiddenBehind_10 ?_
  obtain ⟨hg2, hres⟩ := m_gd_e hres
  refine m_qa6 (j := ((M.1 (99 + x1.toNatClampNeg) 0).toNatClampNeg)) X hSt hP m_z_46 hg2 rfl dX1_hiddenBehind_13 ?_
  refine m_g5 (v := .int (M.1 (49 + 5 * ((M.1 (99 + x1.toNatClampNeg) 0).toNatClampNeg)) 4)) X hSt hP (m_person_of hg2).1 4 (by decide) rfl k_f_X1_109 dX1_hiddenBehind_14 ?_
  refine lv_aload_n X.1 X.2.1 dX1_hiddenBehind_17 rfl (lv_at hl 0 rfl) ?_
  refine m_g1 (v := .ref (m_ad G 47)) X hSt hP m_z_45 2 (by decide) rfl k_f_X1_19 dX1_hiddenBehind_18 ?_
  refine lv_iload_n X.1 X.2.1 dX1_hiddenBehind_21 rfl (lv_at hl 1 rfl) ?_
  refine m_qa3 (j := x1.toNatClampNeg) X hSt hP m_z_47 hg1 rfl dX1_hiddenBehind_22 ?_
  refine m_g0 (v := .int (M.1 (99 + x1.toNatClampNeg) 6)) X hSt hP (m_deal_of hg1) 6 (by decide) rfl k_f_X1_197 dX1_hiddenBehind_23 ?_
  refine lv_isub X.1 X.2.1 dX1_hiddenBehind_26 ?_
  exact m_ri X hr hlk hP hS (Option.some.inj hres) rfl dX1_hiddenBehind_27
theorem dX1_purseAsk_0 : decode cX1_purseAsk 0 = .ok (.aload_n 0, 1) := by decide +kernel
theorem dX1_purseAsk_1 : decode cX1_purseAsk 1 = .ok (.iload_n 1, 1) := by decide +kernel
theorem dX1_purseAsk_2 : decode cX1_purseAsk 2 = .ok (.invokevirtual 200, 3) := by decide +kernel
theorem dX1_purseAsk_5 : decode cX1_purseAsk 5 = .ok (.ifCond .ne 5, 3) := by decide +kernel
theorem dX1_purseAsk_8 : decode cX1_purseAsk 8 = .ok (.iconst 0, 1) := by decide +kernel
theorem dX1_purseAsk_9 : decode cX1_purseAsk 9 = .ok (.ireturn, 1) := by decide +kernel
theorem dX1_purseAsk_10 : decode cX1_purseAsk 10 = .ok (.aload_n 0, 1) := by decide +kernel
theorem dX1_purseAsk_11 : decode cX1_purseAsk 11 = .ok (.getfield 19, 3) := by decide +kernel
theorem dX1_purseAsk_14 : decode cX1_purseAsk 14 = .ok (.iload_n 1, 1) := by decide +kernel
theorem dX1_purseAsk_15 : decode cX1_purseAsk 15 = .ok (.aaload, 1) := by decide +kernel
theorem dX1_purseAsk_16 : decode cX1_purseAsk 16 = .ok (.invokevirtual 147, 3) := by decide +kernel
theorem dX1_purseAsk_19 : decode cX1_purseAsk 19 = .ok (.aload_n 0, 1) := by decide +kernel
theorem dX1_purseAsk_20 : decode cX1_purseAsk 20 = .ok (.aload_n 0, 1) := by decide +kernel
theorem dX1_purseAsk_21 : decode cX1_purseAsk 21 = .ok (.getfield 19, 3) := by decide +kernel
theorem dX1_purseAsk_24 : decode cX1_purseAsk 24 = .ok (.iload_n 1, 1) := by decide +kernel
theorem dX1_purseAsk_25 : decode cX1_purseAsk 25 = .ok (.aaload, 1) := by decide +kernel
theorem dX1_purseAsk_26 : decode cX1_purseAsk 26 = .ok (.getfield 185, 3) := by decide +kernel
theorem dX1_purseAsk_29 : decode cX1_purseAsk 29 = .ok (.iload_n 2, 1) := by decide +kernel
theorem dX1_purseAsk_30 : decode cX1_purseAsk 30 = .ok (.aload_n 0, 1) := by decide +kernel
theorem dX1_purseAsk_31 : decode cX1_purseAsk 31 = .ok (.iload_n 1, 1) := by decide +kernel
theorem dX1_purseAsk_32 : decode cX1_purseAsk 32 = .ok (.invokevirtual 203, 3) := by decide +kernel
theorem dX1_purseAsk_35 : decode cX1_purseAsk 35 = .ok (.i2l, 1) := by decide +kernel
theorem dX1_purseAsk_36 : decode cX1_purseAsk 36 = .ok (.lconst 0, 1) := by decide +kernel
theorem dX1_purseAsk_37 : decode cX1_purseAsk 37 = .ok (.invokevirtual 162, 3) := by decide +kernel
theorem dX1_purseAsk_40 : decode cX1_purseAsk 40 = .ok (.invokestatic 206, 3) := by decide +kernel
theorem dX1_purseAsk_43 : decode cX1_purseAsk 43 = .ok (.ireturn, 1) := by decide +kernel
def f_X1_purseAsk (n : Nat) (x1 : Int32) (x2 : Int32) (M : m_M) : Option (Int32 × m_M) :=
  m_ob (f_X1_isPurseOpen x1 M) fun r1 =>
  if r1 = 0 then
  some (0, M)
  else
  m_gd (m_in x1 60) (
  m_bd (f_X0_left (99 + x1.toNatClampNeg) M) fun r5 =>
  m_ob (f_X1_hiddenBehind x1 M) fun r6 =>
  m_o2 (f_X1_netOf n (M.1 (99 + x1.toNatClampNeg) 0) x2 r6.toInt64 0 M) fun r7 M8 =>
  m_bd (m_min r5 r7) fun r9 =>
  some (r9, M8))
set_option maxHeartbeats 4000000 in
set_option maxRecDepth 100000 in
theorem c_X1_purseAsk (l : Launch) (G : m_G) {n : Nat} {x1 : Int32} {x2 : Int32} {M : m_M} {r0 : Int32} {M0 : m_M}  (hres : f_X1_purseAsk n x1 x2 M = some (r0, M0)) : Met l yX1_purseAsk (m_U yX1_purseAsk cX1_purseAsk 3 (some .int)) (m_R 4 101) (m_Pc G [.ref (m_ad G 45), .int x1, .int x2] M) (m_Qi G r0 M0) 0 0 (m_A G) := by
  refine m_i0 (n := 3) RX1 rfl (by decide) (Nat.le_of_ble_eq_true rfl) ?_
  intro p e s m args below meth c X hr hlk hSt hP hS ls hl
  have hl : lv_has ls 3 [(0, .ref (m_ad G 45)), (1, .int x1), (2, .int x2)] := hl
  unfold f_X1_purseAsk at hres
  refine lv_aload_n X.1 X.2.1 dX1_purseAsk_0 rfl (lv_at hl 0 rfl) ?_
  refine lv_iload_n X.1 X.2.1 dX1_purseAsk_1 rfl (lv_at hl 1 rfl) ?_
  obtain ⟨r1, err1, hres⟩ := m_ob_e hres
  refine m_bz (m_cV (n := 1) (As := [.int x1]) (rest := []) X hSt hP hS hl.1 (c_X1_isPurseOpen l G  err1) k_c_yX1_isPurseOpen k_m_X1_200 k_i_yX1_isPurseOpen k_s_yX1_isPurseOpen k_n_X1 (by decide +kernel) (m_rc1 hSt hP m_z_45) rfl rfl ⟨Nat.le_of_ble_eq_true rfl, Nat.le_of_ble_eq_true rfl⟩ (Nat.le_of_ble_eq_true rfl) ⟨Nat.zero_le _, Nat.zero_le _⟩ dX1_purseAsk_2) hS (fun H locs hP hS hz2 => ?_)
  refine lv_if_ne (tgt := 10) X.1 X.2.1 dX1_purseAsk_5 (by decide) (fun hc3 => ?_) (fun hc3 => ?_)
  · have hres := m_if hres hc3
    refine lv_aload_n X.1 X.2.1 dX1_purseAsk_10 rfl (lv_at hl 0 rfl) ?_
    refine m_g1 (v := .ref (m_ad G 47)) X hSt hP m_z_45 2 (by decide) rfl k_f_X1_19 dX1_purseAsk_11 ?_
    refine lv_iload_n X.1 X.2.1 dX1_purseAsk_14 rfl (lv_at hl 1 rfl) ?_
    obtain ⟨hg4, hres⟩ := m_gd_e hres
    refine m_qa3 (j := x1.toNatClampNeg) X hSt hP m_z_47 hg4 rfl dX1_purseAsk_15 ?_
    obtain ⟨r5, err5, hres⟩ := m_bd_e hres
    refine m_bi (m_cV (n := 0) (As := []) (rest := []) X hSt hP hS hl.1 (c_X0_left l G (m_deal_of hg4) err5) k_c_yX0_left k_m_X1_147 k_i_yX0_left k_s_yX0_left k_n_X0 (by decide +kernel) (m_rc0 hSt hP (m_deal_of hg4)) rfl rfl ⟨Nat.le_of_ble_eq_true rfl, Nat.le_of_ble_eq_true rfl⟩ (Nat.le_of_ble_eq_true rfl) ⟨Nat.zero_le _, Nat.zero_le _⟩ dX1_purseAsk_16) hS (fun H locs hP hS => ?_)
    refine lv_aload_n X.1 X.2.1 dX1_purseAsk_19 rfl (lv_at hl 0 rfl) ?_
    refine lv_aload_n X.1 X.2.1 dX1_purseAsk_20 rfl (lv_at hl 0 rfl) ?_
    refine m_g1 (v := .ref (m_ad G 47)) X hSt hP m_z_45 2 (by decide) rfl k_f_X1_19 dX1_purseAsk_21 ?_
    refine lv_iload_n X.1 X.2.1 dX1_purseAsk_24 rfl (lv_at hl 1 rfl) ?_
    refine m_qa3 (j := x1.toNatClampNeg) X hSt hP m_z_47 hg4 rfl dX1_purseAsk_25 ?_
    refine m_g0 (v := .int (M.1 (99 + x1.toNatClampNeg) 0)) X hSt hP (m_deal_of hg4) 0 (by decide) rfl k_f_X1_185 dX1_purseAsk_26 ?_
    refine lv_iload_n X.1 X.2.1 dX1_purseAsk_29 rfl (lv_at hl 2 rfl) ?_
    refine lv_aload_n X.1 X.2.1 dX1_purseAsk_30 rfl (lv_at hl 0 rfl) ?_
    refine lv_iload_n X.1 X.2.1 dX1_purseAsk_31 rfl (lv_at hl 1 rfl) ?_
    obtain ⟨r6, err6, hres⟩ := m_ob_e hres
    refine m_bi (m_cV (n := 1) (As := [.int x1]) (rest := [.int x2, .int (M.1 (99 + x1.toNatClampNeg) 0), .ref (m_ad G 45), .int r5]) X hSt hP hS hl.1 (c_X1_hiddenBehind l G  err6) k_c_yX1_hiddenBehind k_m_X1_203 k_i_yX1_hiddenBehind k_s_yX1_hiddenBehind k_n_X1 (by decide +kernel) (m_rc1 hSt hP m_z_45) rfl rfl ⟨Nat.le_of_ble_eq_true rfl, Nat.le_of_ble_eq_true rfl⟩ (Nat.le_of_ble_eq_true rfl) ⟨Nat.zero_le _, Nat.zero_le _⟩ dX1_purseAsk_32) hS (fun H locs hP hS => ?_)
    refine lv_i2l (v := r6.toInt64) X.1 X.2.1 dX1_purseAsk_35 rfl ?_
    refine lv_lconst (v := 0) X.1 X.2.1 dX1_purseAsk_36 (by decide) ?_
    obtain ⟨r7, M8, err7, hres⟩ := m_o2_e hres
    refine m_bi (m_cV (n := 4) (As := [.int (M.1 (99 + x1.toNatClampNeg) 0), .int x2, .long r6.toInt64, .long 0]) (rest := [.int r5]) X hSt hP hS hl.1 (c_X1_netOf l G  err7) k_c_yX1_netOf k_m_X1_162 k_i_yX1_netOf k_s_yX1_netOf k_n_X1 (by decide +kernel) (m_rc1 hSt hP m_z_45) rfl rfl ⟨Nat.le_of_ble_eq_true rfl, Nat.le_of_ble_eq_true rfl⟩ (Nat.le_of_ble_eq_true rfl) ⟨Nat.zero_le _, Nat.zero_le _⟩ dX1_purseAsk_37) hS (fun H locs hP hS => ?_)
    obtain ⟨r9, err9, hres⟩ := m_bd_e hres
    refine m_mn (rest := []) X hl.1 k_m_X1_206 k_t_yJ9_min_7cf53 k_n_J9 k_c_yJ9_min_7cf53 (Nat.le_of_ble_eq_true rfl) (Nat.le_of_ble_eq_true rfl) ⟨Nat.zero_le _, Nat.zero_le _⟩ dX1_purseAsk_40 err9 ?_
    exact m_ri X hr hlk hP hS (Prod.mk.inj (Option.some.inj hres)).1 (Prod.mk.inj (Option.some.inj hres)).2 dX1_purseAsk_43
  · have hres := m_it hres hc3
    refine lv_iconst (v := 0) X.1 X.2.1 dX1_purseAsk_8 (by decide) ?_
    exact m_ri X hr hlk hP hS (Prod.mk.inj (Option.some.inj hres)).1 (Prod.mk.inj (Option.some.inj hres)).2 dX1_purseAsk_9
theorem dX1_allOwed_0 : decode cX1_allOwed 0 = .ok (.aload_n 0, 1) := by decide +kernel
theorem dX1_allOwed_1 : decode cX1_allOwed 1 = .ok (.aload_n 1, 1) := by decide +kernel
theorem dX1_allOwed_2 : decode cX1_allOwed 2 = .ok (.getfield 185, 3) := by decide +kernel
theorem dX1_allOwed_5 : decode cX1_allOwed 5 = .ok (.invokevirtual 169, 3) := by decide +kernel
theorem dX1_allOwed_8 : decode cX1_allOwed 8 = .ok (.i2l, 1) := by decide +kernel
theorem dX1_allOwed_9 : decode cX1_allOwed 9 = .ok (.lstore_n 2, 1) := by decide +kernel
theorem dX1_allOwed_10 : decode cX1_allOwed 10 = .ok (.iconst 0, 1) := by decide +kernel
theorem dX1_allOwed_11 : decode cX1_allOwed 11 = .ok (.istore 4, 2) := by decide +kernel
theorem dX1_allOwed_13 : decode cX1_allOwed 13 = .ok (.iload 4, 2) := by decide +kernel
theorem dX1_allOwed_15 : decode cX1_allOwed 15 = .ok (.aload_n 0, 1) := by decide +kernel
theorem dX1_allOwed_16 : decode cX1_allOwed 16 = .ok (.getfield 37, 3) := by decide +kernel
theorem dX1_allOwed_19 : decode cX1_allOwed 19 = .ok (.if_icmp .ge 57, 3) := by decide +kernel
theorem dX1_allOwed_22 : decode cX1_allOwed 22 = .ok (.aload_n 0, 1) := by decide +kernel
theorem dX1_allOwed_23 : decode cX1_allOwed 23 = .ok (.getfield 19, 3) := by decide +kernel
theorem dX1_allOwed_26 : decode cX1_allOwed 26 = .ok (.iload 4, 2) := by decide +kernel
theorem dX1_allOwed_28 : decode cX1_allOwed 28 = .ok (.aaload, 1) := by decide +kernel
theorem dX1_allOwed_29 : decode cX1_allOwed 29 = .ok (.getfield 185, 3) := by decide +kernel
theorem dX1_allOwed_32 : decode cX1_allOwed 32 = .ok (.aload_n 1, 1) := by decide +kernel
theorem dX1_allOwed_33 : decode cX1_allOwed 33 = .ok (.getfield 185, 3) := by decide +kernel
theorem dX1_allOwed_36 : decode cX1_allOwed 36 = .ok (.if_icmp .ne 34, 3) := by decide +kernel
theorem dX1_allOwed_39 : decode cX1_allOwed 39 = .ok (.aload_n 0, 1) := by decide +kernel
theorem dX1_allOwed_40 : decode cX1_allOwed 40 = .ok (.getfield 19, 3) := by decide +kernel
theorem dX1_allOwed_43 : decode cX1_allOwed 43 = .ok (.iload 4, 2) := by decide +kernel
theorem dX1_allOwed_45 : decode cX1_allOwed 45 = .ok (.aaload, 1) := by decide +kernel
theorem dX1_allOwed_46 : decode cX1_allOwed 46 = .ok (.getfield 235, 3) := by decide +kernel
theorem dX1_allOwed_49 : decode cX1_allOwed 49 = .ok (.aload_n 1, 1) := by decide +kernel
theorem dX1_allOwed_50 : decode cX1_allOwed 50 = .ok (.getfield 235, 3) := by decide +kernel
theorem dX1_allOwed_53 : decode cX1_allOwed 53 = .ok (.if_icmp .ne 17, 3) := by decide +kernel
theorem dX1_allOwed_56 : decode cX1_allOwed 56 = .ok (.lload_n 2, 1) := by decide +kernel
theorem dX1_allOwed_57 : decode cX1_allOwed 57 = .ok (.aload_n 0, 1) := by decide +kernel
theorem dX1_allOwed_58 : decode cX1_allOwed 58 = .ok (.getfield 19, 3) := by decide +kernel
theorem dX1_allOwed_61 : decode cX1_allOwed 61 = .ok (.iload 4, 2) := by decide +kernel
theorem dX1_allOwed_63 : decode cX1_allOwed 63 = .ok (.aaload, 1) := by decide +kernel
theorem dX1_allOwed_64 : decode cX1_allOwed 64 = .ok (.invokevirtual 147, 3) := by decide +kernel
theorem dX1_allOwed_67 : decode cX1_allOwed 67 = .ok (.i2l, 1) := by decide +kernel
theorem dX1_allOwed_68 : decode cX1_allOwed 68 = .ok (.ladd, 1) := by decide +kernel
theorem dX1_allOwed_69 : decode cX1_allOwed 69 = .ok (.lstore_n 2, 1) := by decide +kernel
theorem dX1_allOwed_70 : decode cX1_allOwed 70 = .ok (.iinc 4 1, 3) := by decide +kernel
theorem dX1_allOwed_73 : decode cX1_allOwed 73 = .ok (.goto (-60), 3) := by decide +kernel
theorem dX1_allOwed_76 : decode cX1_allOwed 76 = .ok (.lload_n 2, 1) := by decide +kernel
theorem dX1_allOwed_77 : decode cX1_allOwed 77 = .ok (.lreturn, 1) := by decide +kernel
def f_X1_allOwed_b13 (n : Nat) (k1 : Nat) (M : m_M) : Nat → Int64 → Int32 → Option Int64
  | 0, _, _ => none
  | u + 1, x2, x4 =>
    if (M.1 45 4) ≤ x4 then
  some x2
  else
  m_gd (m_in x4 60) (
  if (M.1 (99 + x4.toNatClampNeg) 0) = (M.1 k1 0) then
  if (M.1 (99 + x4.toNatClampNeg) 1) = (M.1 k1 1) then
  m_bd (f_X0_left (99 + x4.toNatClampNeg) M) fun r5 =>
  f_X1_allOwed_b13 n k1 M u (x2 + r5.toInt64) (x4 + 1)
  else
  f_X1_allOwed_b13 n k1 M u x2 (x4 + 1)
  else
  f_X1_allOwed_b13 n k1 M u x2 (x4 + 1))
def f_X1_allOwed (n : Nat) (k1 : Nat) (M : m_M) : Option Int64 :=
  m_ob (f_X1_debtToHolder (M.1 k1 0) M) fun r6 =>
  f_X1_allOwed_b13 n k1 M n r6.toInt64 0
set_option maxHeartbeats 4000000 in
set_option maxRecDepth 100000 in
theorem c_X1_allOwed (l : Launch) (G : m_G) {n : Nat} {k1 : Nat} {M : m_M} {r0 : Int64} (hk1 : m_isDeal k1) (hres : f_X1_allOwed n k1 M = some r0) : Met l yX1_allOwed (m_U yX1_allOwed cX1_allOwed 5 (some .long)) (m_R 3 73) (m_Pc G [.ref (m_ad G 45), .ref (m_ad G k1)] M) (m_Ql G r0 M) 0 0 (m_A G) := by
  refine m_i0 (n := 5) RX1 rfl (by decide) (Nat.le_of_ble_eq_true rfl) ?_
  intro p e s m args below meth c X hr hlk hSt hP hS ls hl
  have hl : lv_has ls 5 [(0, .ref (m_ad G 45)), (1, .ref (m_ad G k1))] := hl
  have B13 : ∀ (u : Nat) (x2 : Int64) (x4 : Int32) (H : Heap) (locs : List Loc) (ls : Array Slot), m_P G M H → va_S (m_A G) s.heap H locs → lv_has ls 5 [(0, .ref (m_ad G 45)), (1, .ref (m_ad G k1)), (2, .long x2), (4, .int x4)] → f_X1_allOwed_b13 n k1 M u x2 x4 = some r0 → W p l e (m_R 3 73) s m args below meth c H locs 0 0 (MQ below (m_Ql G r0 M) args s 0 0 (m_A G)) (F0 m 13 ls []) := by
    intro u
    induction u with
    | zero =>
      intro x2 x4 H locs ls hP hS hl hres
      cases hres
    | succ u ih =>
      intro x2 x4 H locs ls hP hS hl hres
      rw [f_X1_allOwed_b13] at hres
      refine lv_iload X.1 X.2.1 dX1_allOwed_13 (lv_at hl 3 rfl) ?_
      refine lv_aload_n X.1 X.2.1 dX1_allOwed_15 rfl (lv_at hl 0 rfl) ?_
      refine m_g1 (v := .int (M.1 45 4)) X hSt hP m_z_45 4 (by decide) rfl k_f_X1_37 dX1_allOwed_16 ?_
      refine lv_icmp_ge (tgt := 76) X.1 X.2.1 dX1_allOwed_19 (by decide) (fun hc1 => ?_) (fun hc1 => ?_)
      · have hres := m_it hres hc1
        refine lv_lload_n X.1 X.2.1 dX1_allOwed_76 rfl (lv_at hl 2 rfl) ?_
        exact m_rl X hr hlk hP hS (Option.some.inj hres) rfl dX1_allOwed_77
      · have hres := m_if hres hc1
        refine lv_aload_n X.1 X.2.1 dX1_allOwed_22 rfl (lv_at hl 0 rfl) ?_
        refine m_g1 (v := .ref (m_ad G 47)) X hSt hP m_z_45 2 (by decide) rfl k_f_X1_19 dX1_allOwed_23 ?_
        refine lv_iload X.1 X.2.1 dX1_allOwed_26 (lv_at hl 3 rfl) ?_
        obtain ⟨hg2, hres⟩ := m_gd_e hres
        refine m_qa3 (j := x4.toNatClampNeg) X hSt hP m_z_47 hg2 rfl dX1_allOwed_28 ?_
        refine m_g0 (v := .int (M.1 (99 + x4.toNatClampNeg) 0)) X hSt hP (m_deal_of hg2) 0 (by decide) rfl k_f_X1_185 dX1_allOwed_29 ?_
        refine lv_aload_n X.1 X.2.1 dX1_allOwed_32 rfl (lv_at hl 1 rfl) ?_
        refine m_g0 (v := .int (M.1 k1 0)) X hSt hP hk1 0 (by decide) rfl k_f_X1_185 dX1_allOwed_33 ?_
        refine lv_icmp_ne (tgt := 70) X.1 X.2.1 dX1_allOwed_36 (by decide) (fun hc3 => ?_) (fun hc3 => ?_)
        · have hres := m_if hres hc3
          refine lv_iinc (v := (x4 + 1)) (lv' := [(4, .int (x4 + 1)), (0, .ref (m_ad G 45)), (1, .ref (m_ad G k1)), (2, .long x2)]) X.1 X.2.1 dX1_allOwed_70 hl (k := 3) rfl rfl (by decide) rfl (fun ls hl => ?_)
          refine lv_goto (tgt := 13) X.1 X.2.1 dX1_allOwed_73 (by decide) ?_
          exact ih x2 (x4 + 1) _ _ _ hP hS (lv_sub hl [1, 2, 3, 0] rfl) hres
        · have hres := m_it hres hc3
          refine lv_aload_n X.1 X.2.1 dX1_allOwed_39 rfl (lv_at hl 0 rfl) ?_
          refine m_g1 (v := .ref (m_ad G 47)) X hSt hP m_z_45 2 (by decide) rfl k_f_X1_19 dX1_allOwed_40 ?_
          refine lv_iload X.1 X.2.1 dX1_allOwed_43 (lv_at hl 3 rfl) ?_
          refine m_qa3 (j := x4.toNatClampNeg) X hSt hP m_z_47 hg2 rfl dX1_allOwed_45 ?_
          refine m_g0 (v := .int (M.1 (99 + x4.toNatClampNeg) 1)) X hSt hP (m_deal_of hg2) 1 (by decide) rfl k_f_X1_235 dX1_allOwed_46 ?_
          refine lv_aload_n X.1 X.2.1 dX1_allOwed_49 rfl (lv_at hl 1 rfl) ?_
          refine m_g0 (v := .int (M.1 k1 1)) X hSt hP hk1 1 (by decide) rfl k_f_X1_235 dX1_allOwed_50 ?_
          refine lv_icmp_ne (tgt := 70) X.1 X.2.1 dX1_allOwed_53 (by decide) (fun hc4 => ?_) (fun hc4 => ?_)
          · have hres := m_if hres hc4
            refine lv_iinc (v := (x4 + 1)) (lv' := [(4, .int (x4 + 1)), (0, .ref (m_ad G 45)), (1, .ref (m_ad G k1)), (2, .long x2)]) X.1 X.2.1 dX1_allOwed_70 hl (k := 3) rfl rfl (by decide) rfl (fun ls hl => ?_)
            refine lv_goto (tgt := 13) X.1 X.2.1 dX1_allOwed_73 (by decide) ?_
            exact ih x2 (x4 + 1) _ _ _ hP hS (lv_sub hl [1, 2, 3, 0] rfl) hres
          · have hres := m_it hres hc4
            refine lv_lload_n X.1 X.2.1 dX1_allOwed_56 rfl (lv_at hl 2 rfl) ?_
            refine lv_aload_n X.1 X.2.1 dX1_allOwed_57 rfl (lv_at hl 0 rfl) ?_
            refine m_g1 (v := .ref (m_ad G 47)) X hSt hP m_z_45 2 (by decide) rfl k_f_X1_19 dX1_allOwed_58 ?_
            refine lv_iload X.1 X.2.1 dX1_allOwed_61 (lv_at hl 3 rfl) ?_
            refine m_qa3 (j := x4.toNatClampNeg) X hSt hP m_z_47 hg2 rfl dX1_allOwed_63 ?_
            obtain ⟨r5, err5, hres⟩ := m_bd_e hres
            refine m_bi (m_cV (n := 0) (As := []) (rest := [.long x2]) X hSt hP hS hl.1 (c_X0_left l G (m_deal_of hg2) err5) k_c_yX0_left k_m_X1_147 k_i_yX0_left k_s_yX0_left k_n_X0 (by decide +kernel) (m_rc0 hSt hP (m_deal_of hg2)) rfl rfl ⟨Nat.le_of_ble_eq_true rfl, Nat.le_of_ble_eq_true rfl⟩ (Nat.le_of_ble_eq_true rfl) ⟨Nat.zero_le _, Nat.zero_le _⟩ dX1_allOwed_64) hS (fun H locs hP hS => ?_)
            refine lv_i2l (v := r5.toInt64) X.1 X.2.1 dX1_allOwed_67 rfl ?_
            refine lv_ladd X.1 X.2.1 dX1_allOwed_68 ?_
            refine lv_lstore_n (lv' := [(2, .long (x2 + r5.toInt64)), (0, .ref (m_ad G 45)), (1, .ref (m_ad G k1)), (4, .int x4)]) X.1 X.2.1 dX1_allOwed_69 rfl hl (by decide) rfl (fun ls hl => ?_)
            refine lv_iinc (v := (x4 + 1)) (lv' := [(4, .int (x4 + 1)), (2, .long (x2 + r5.toInt64)), (0, .ref (m_ad G 45)), (1, .ref (m_ad G k1))]) X.1 X.2.1 dX1_allOwed_70 hl (k := 3) rfl rfl (by decide) rfl (fun ls hl => ?_)
            refine lv_goto (tgt := 13) X.1 X.2.1 dX1_allOwed_73 (by decide) ?_
            exact ih (x2 + r5.toInt64) (x4 + 1) _ _ _ hP hS (lv_sub hl [2, 3, 1, 0] rfl) hres
  unfold f_X1_allOwed at hres
  refine lv_aload_n X.1 X.2.1 dX1_allOwed_0 rfl (lv_at hl 0 rfl) ?_
  refine lv_aload_n X.1 X.2.1 dX1_allOwed_1 rfl (lv_at hl 1 rfl) ?_
  refine m_g0 (v := .int (M.1 k1 0)) X hSt hP hk1 0 (by decide) rfl k_f_X1_185 dX1_allOwed_2 ?_
  obtain ⟨r6, err6, hres⟩ := m_ob_e hres
  refine m_bi (m_cV (n := 1) (As := [.int (M.1 k1 0)]) (rest := []) X hSt hP hS hl.1 (c_X1_debtToHolder l G  err6) k_c_yX1_debtToHolder k_m_X1_169 k_i_yX1_debtToHolder k_s_yX1_debtToHolder k_n_X1 (by decide +kernel) (m_rc1 hSt hP m_z_45) rfl rfl ⟨Nat.le_of_ble_eq_true rfl, Nat.le_of_ble_eq_true rfl⟩ (Nat.le_of_ble_eq_true rfl) ⟨Nat.zero_le _, Nat.zero_le _⟩ dX1_allOwed_5) hS (fun H locs hP hS => ?_)
  refine lv_i2l (v := r6.toInt64) X.1 X.2.1 dX1_allOwed_8 rfl ?_
  refine lv_lstore_n (lv' := [(2, .long r6.toInt64), (0, .ref (m_ad G 45)), (1, .ref (m_ad G k1))]) X.1 X.2.1 dX1_allOwed_9 rfl hl (by decide) rfl (fun ls hl => ?_)
  refine lv_iconst (v := 0) X.1 X.2.1 dX1_allOwed_10 (by decide) ?_
  refine lv_istore (lv' := [(4, .int 0), (2, .long r6.toInt64), (0, .ref (m_ad G 45)), (1, .ref (m_ad G k1))]) X.1 X.2.1 dX1_allOwed_11 hl (by decide) rfl (fun ls hl => ?_)
  exact B13 n r6.toInt64 0 _ _ _ hP hS (lv_sub hl [2, 3, 1, 0] rfl) hres
theorem dX1_shareAbove_0 : decode cX1_shareAbove 0 = .ok (.aload_n 1, 1) := by decide +kernel
theorem dX1_shareAbove_1 : decode cX1_shareAbove 1 = .ok (.invokevirtual 147, 3) := by decide +kernel
theorem dX1_shareAbove_4 : decode cX1_shareAbove 4 = .ok (.i2l, 1) := by decide +kernel
theorem dX1_shareAbove_5 : decode cX1_shareAbove 5 = .ok (.lstore_n 2, 1) := by decide +kernel
theorem dX1_shareAbove_6 : decode cX1_shareAbove 6 = .ok (.lload_n 2, 1) := by decide +kernel
theorem dX1_shareAbove_7 : decode cX1_shareAbove 7 = .ok (.aload_n 0, 1) := by decide +kernel
theorem dX1_shareAbove_8 : decode cX1_shareAbove 8 = .ok (.getfield 11, 3) := by decide +kernel
theorem dX1_shareAbove_11 : decode cX1_shareAbove 11 = .ok (.aload_n 1, 1) := by decide +kernel
theorem dX1_shareAbove_12 : decode cX1_shareAbove 12 = .ok (.getfield 185, 3) := by decide +kernel
theorem dX1_shareAbove_15 : decode cX1_shareAbove 15 = .ok (.aaload, 1) := by decide +kernel
theorem dX1_shareAbove_16 : decode cX1_shareAbove 16 = .ok (.aload_n 1, 1) := by decide +kernel
theorem dX1_shareAbove_17 : decode cX1_shareAbove 17 = .ok (.getfield 235, 3) := by decide +kernel
theorem dX1_shareAbove_20 : decode cX1_shareAbove 20 = .ok (.invokevirtual 130, 3) := by decide +kernel
theorem dX1_shareAbove_23 : decode cX1_shareAbove 23 = .ok (.i2l, 1) := by decide +kernel
theorem dX1_shareAbove_24 : decode cX1_shareAbove 24 = .ok (.lmul, 1) := by decide +kernel
theorem dX1_shareAbove_25 : decode cX1_shareAbove 25 = .ok (.lload_n 2, 1) := by decide +kernel
theorem dX1_shareAbove_26 : decode cX1_shareAbove 26 = .ok (.aload_n 0, 1) := by decide +kernel
theorem dX1_shareAbove_27 : decode cX1_shareAbove 27 = .ok (.aload_n 1, 1) := by decide +kernel
theorem dX1_shareAbove_28 : decode cX1_shareAbove 28 = .ok (.invokevirtual 228, 3) := by decide +kernel
theorem dX1_shareAbove_31 : decode cX1_shareAbove 31 = .ok (.lmul, 1) := by decide +kernel
theorem dX1_shareAbove_32 : decode cX1_shareAbove 32 = .ok (.invokestatic 238, 3) := by decide +kernel
theorem dX1_shareAbove_35 : decode cX1_shareAbove 35 = .ok (.lreturn, 1) := by decide +kernel
def f_X1_shareAbove (n : Nat) (k1 : Nat) (M : m_M) : Option Int64 :=
  m_bd (f_X0_left k1 M) fun r1 =>
  m_gd (m_in (M.1 k1 0) 10) (
  m_ob (f_X5_partOf (49 + 5 * ((M.1 k1 0).toNatClampNeg)) (M.1 k1 1) M) fun r3 =>
  m_ob (f_X1_allOwed n k1 M) fun r4 =>
  m_bd (m_minJ (r1.toInt64 * r3.toInt64) (r1.toInt64 * r4)) fun r5 =>
  some r5)
set_option maxHeartbeats 4000000 in
set_option maxRecDepth 100000 in
theorem c_X1_shareAbove (l : Launch) (G : m_G) {n : Nat} {k1 : Nat} {M : m_M} {r0 : Int64} (hk1 : m_isDeal k1) (hres : f_X1_shareAbove n k1 M = some r0) : Met l yX1_shareAbove (m_U yX1_shareAbove cX1_shareAbove 4 (some .long)) (m_R 4 97) (m_Pc G [.ref (m_ad G 45), .ref (m_ad G k1)] M) (m_Ql G r0 M) 0 0 (m_A G) := by
  refine m_i0 (n := 4) RX1 rfl (by decide) (Nat.le_of_ble_eq_true rfl) ?_
  intro p e s m args below meth c X hr hlk hSt hP hS ls hl
  have hl : lv_has ls 4 [(0, .ref (m_ad G 45)), (1, .ref (m_ad G k1))] := hl
  unfold f_X1_shareAbove at hres
  refine lv_aload_n X.1 X.2.1 dX1_shareAbove_0 rfl (lv_at hl 1 rfl) ?_
  obtain ⟨r1, err1, hres⟩ := m_bd_e hres
  refine m_bi (m_cV (n := 0) (As := []) (rest := []) X hSt hP hS hl.1 (c_X0_left l G hk1 err1) k_c_yX0_left k_m_X1_147 k_i_yX0_left k_s_yX0_left k_n_X0 (by decide +kernel) (m_rc0 hSt hP hk1) rfl rfl ⟨Nat.le_of_ble_eq_true rfl, Nat.le_of_ble_eq_true rfl⟩ (Nat.le_of_ble_eq_true rfl) ⟨Nat.zero_le _, Nat.zero_le _⟩ dX1_shareAbove_1) hS (fun H locs hP hS => ?_)
  refine lv_i2l (v := r1.toInt64) X.1 X.2.1 dX1_shareAbove_4 rfl ?_
  refine lv_lstore_n (lv' := [(2, .long r1.toInt64), (0, .ref (m_ad G 45)), (1, .ref (m_ad G k1))]) X.1 X.2.1 dX1_shareAbove_5 rfl hl (by decide) rfl (fun ls hl => ?_)
  refine lv_lload_n X.1 X.2.1 dX1_shareAbove_6 rfl (lv_at hl 0 rfl) ?_
  refine lv_aload_n X.1 X.2.1 dX1_shareAbove_7 rfl (lv_at hl 1 rfl) ?_
  refine m_g1 (v := .ref (m_ad G 46)) X hSt hP m_z_45 1 (by decide) rfl k_f_X1_11 dX1_shareAbove_8 ?_
  refine lv_aload_n X.1 X.2.1 dX1_shareAbove_11 rfl (lv_at hl 2 rfl) ?_
  refine m_g0 (v := .int (M.1 k1 0)) X hSt hP hk1 0 (by decide) rfl k_f_X1_185 dX1_shareAbove_12 ?_
  obtain ⟨hg2, hres⟩ := m_gd_e hres
  refine m_qa6 (j := ((M.1 k1 0).toNatClampNeg)) X hSt hP m_z_46 hg2 rfl dX1_shareAbove_15 ?_
  refine lv_aload_n X.1 X.2.1 dX1_shareAbove_16 rfl (lv_at hl 2 rfl) ?_
  refine m_g0 (v := .int (M.1 k1 1)) X hSt hP hk1 1 (by decide) rfl k_f_X1_235 dX1_shareAbove_17 ?_
  obtain ⟨r3, err3, hres⟩ := m_ob_e hres
  refine m_bi (m_cV (n := 1) (As := [.int (M.1 k1 1)]) (rest := [.long r1.toInt64]) X hSt hP hS hl.1 (c_X5_partOf l G (m_person_of hg2) err3) k_c_yX5_partOf k_m_X1_130 k_i_yX5_partOf k_s_yX5_partOf k_n_X5 (by decide +kernel) (m_rc5 hSt hP (m_person_of hg2).1) rfl rfl ⟨Nat.le_of_ble_eq_true rfl, Nat.le_of_ble_eq_true rfl⟩ (Nat.le_of_ble_eq_true rfl) ⟨Nat.zero_le _, Nat.zero_le _⟩ dX1_shareAbove_20) hS (fun H locs hP hS => ?_)
  refine lv_i2l (v := r3.toInt64) X.1 X.2.1 dX1_shareAbove_23 rfl ?_
  refine lv_lmul X.1 X.2.1 dX1_shareAbove_24 ?_
  refine lv_lload_n X.1 X.2.1 dX1_shareAbove_25 rfl (lv_at hl 0 rfl) ?_
  refine lv_aload_n X.1 X.2.1 dX1_shareAbove_26 rfl (lv_at hl 1 rfl) ?_
  refine lv_aload_n X.1 X.2.1 dX1_shareAbove_27 rfl (lv_at hl 2 rfl) ?_
  obtain ⟨r4, err4, hres⟩ := m_ob_e hres
  refine m_bl (m_cV (n := 1) (As := [.ref (m_ad G k1)]) (rest := [.long r1.toInt64, .long (r1.toInt64 * r3.toInt64)]) X hSt hP hS hl.1 (c_X1_allOwed l G hk1 err4) k_c_yX1_allOwed k_m_X1_228 k_i_yX1_allOwed k_s_yX1_allOwed k_n_X1 (by decide +kernel) (m_rc1 hSt hP m_z_45) rfl rfl ⟨Nat.le_of_ble_eq_true rfl, Nat.le_of_ble_eq_true rfl⟩ (Nat.le_of_ble_eq_true rfl) ⟨Nat.zero_le _, Nat.zero_le _⟩ dX1_shareAbove_28) hS (fun H locs hP hS => ?_)
  refine lv_lmul X.1 X.2.1 dX1_shareAbove_31 ?_
  obtain ⟨r5, err5, hres⟩ := m_bd_e hres
  refine m_mnJ (rest := []) X hl.1 k_m_X1_238 k_t_yJ9_min_f86c9 k_n_J9 k_c_yJ9_min_f86c9 (Nat.le_of_ble_eq_true rfl) (Nat.le_of_ble_eq_true rfl) ⟨Nat.zero_le _, Nat.zero_le _⟩ dX1_shareAbove_32 err5 ?_
  exact m_rl X hr hlk hP hS (Option.some.inj hres) rfl dX1_shareAbove_35
theorem dX1_askAbove_0 : decode cX1_askAbove 0 = .ok (.aload_n 0, 1) := by decide +kernel
theorem dX1_askAbove_1 : decode cX1_askAbove 1 = .ok (.iload_n 1, 1) := by decide +kernel
theorem dX1_askAbove_2 : decode cX1_askAbove 2 = .ok (.invokevirtual 212, 3) := by decide +kernel
theorem dX1_askAbove_5 : decode cX1_askAbove 5 = .ok (.iconst (-1), 1) := by decide +kernel
theorem dX1_askAbove_6 : decode cX1_askAbove 6 = .ok (.if_icmp .ne 5, 3) := by decide +kernel
theorem dX1_askAbove_9 : decode cX1_askAbove 9 = .ok (.lconst 0, 1) := by decide +kernel
theorem dX1_askAbove_10 : decode cX1_askAbove 10 = .ok (.lreturn, 1) := by decide +kernel
theorem dX1_askAbove_11 : decode cX1_askAbove 11 = .ok (.aload_n 0, 1) := by decide +kernel
theorem dX1_askAbove_12 : decode cX1_askAbove 12 = .ok (.getfield 19, 3) := by decide +kernel
theorem dX1_askAbove_15 : decode cX1_askAbove 15 = .ok (.iload_n 1, 1) := by decide +kernel
theorem dX1_askAbove_16 : decode cX1_askAbove 16 = .ok (.aaload, 1) := by decide +kernel
theorem dX1_askAbove_17 : decode cX1_askAbove 17 = .ok (.astore_n 3, 1) := by decide +kernel
theorem dX1_askAbove_18 : decode cX1_askAbove 18 = .ok (.iload_n 2, 1) := by decide +kernel
theorem dX1_askAbove_19 : decode cX1_askAbove 19 = .ok (.tableswitch 70 0 2 #[25, 49, 62], 25) := by decide +kernel
theorem dX1_askAbove_44 : decode cX1_askAbove 44 = .ok (.aload_n 3, 1) := by decide +kernel
theorem dX1_askAbove_45 : decode cX1_askAbove 45 = .ok (.getfield 90, 3) := by decide +kernel
theorem dX1_askAbove_48 : decode cX1_askAbove 48 = .ok (.ifCond .ne 10, 3) := by decide +kernel
theorem dX1_askAbove_51 : decode cX1_askAbove 51 = .ok (.aload_n 3, 1) := by decide +kernel
theorem dX1_askAbove_52 : decode cX1_askAbove 52 = .ok (.getfield 215, 3) := by decide +kernel
theorem dX1_askAbove_55 : decode cX1_askAbove 55 = .ok (.ifCond .eq 11, 3) := by decide +kernel
theorem dX1_askAbove_58 : decode cX1_askAbove 58 = .ok (.aload_n 3, 1) := by decide +kernel
theorem dX1_askAbove_59 : decode cX1_askAbove 59 = .ok (.invokevirtual 147, 3) := by decide +kernel
theorem dX1_askAbove_62 : decode cX1_askAbove 62 = .ok (.i2l, 1) := by decide +kernel
theorem dX1_askAbove_63 : decode cX1_askAbove 63 = .ok (.goto 4, 3) := by decide +kernel
theorem dX1_askAbove_66 : decode cX1_askAbove 66 = .ok (.lconst 0, 1) := by decide +kernel
theorem dX1_askAbove_67 : decode cX1_askAbove 67 = .ok (.lreturn, 1) := by decide +kernel
theorem dX1_askAbove_68 : decode cX1_askAbove 68 = .ok (.aload_n 3, 1) := by decide +kernel
theorem dX1_askAbove_69 : decode cX1_askAbove 69 = .ok (.invokevirtual 147, 3) := by decide +kernel
theorem dX1_askAbove_72 : decode cX1_askAbove 72 = .ok (.aload_n 3, 1) := by decide +kernel
theorem dX1_askAbove_73 : decode cX1_askAbove 73 = .ok (.invokevirtual 143, 3) := by decide +kernel
theorem dX1_askAbove_76 : decode cX1_askAbove 76 = .ok (.invokestatic 206, 3) := by decide +kernel
theorem dX1_askAbove_79 : decode cX1_askAbove 79 = .ok (.i2l, 1) := by decide +kernel
theorem dX1_askAbove_80 : decode cX1_askAbove 80 = .ok (.lreturn, 1) := by decide +kernel
theorem dX1_askAbove_81 : decode cX1_askAbove 81 = .ok (.aload_n 0, 1) := by decide +kernel
theorem dX1_askAbove_82 : decode cX1_askAbove 82 = .ok (.iload_n 1, 1) := by decide +kernel
theorem dX1_askAbove_83 : decode cX1_askAbove 83 = .ok (.iconst 0, 1) := by decide +kernel
theorem dX1_askAbove_84 : decode cX1_askAbove 84 = .ok (.invokevirtual 218, 3) := by decide +kernel
theorem dX1_askAbove_87 : decode cX1_askAbove 87 = .ok (.i2l, 1) := by decide +kernel
theorem dX1_askAbove_88 : decode cX1_askAbove 88 = .ok (.lreturn, 1) := by decide +kernel
theorem dX1_askAbove_89 : decode cX1_askAbove 89 = .ok (.aload_n 3, 1) := by decide +kernel
theorem dX1_askAbove_90 : decode cX1_askAbove 90 = .ok (.getfield 221, 3) := by decide +kernel
theorem dX1_askAbove_93 : decode cX1_askAbove 93 = .ok (.ifCond .eq 11, 3) := by decide +kernel
theorem dX1_askAbove_96 : decode cX1_askAbove 96 = .ok (.aload_n 0, 1) := by decide +kernel
theorem dX1_askAbove_97 : decode cX1_askAbove 97 = .ok (.aload_n 3, 1) := by decide +kernel
theorem dX1_askAbove_98 : decode cX1_askAbove 98 = .ok (.invokevirtual 224, 3) := by decide +kernel
theorem dX1_askAbove_101 : decode cX1_askAbove 101 = .ok (.goto 4, 3) := by decide +kernel
theorem dX1_askAbove_104 : decode cX1_askAbove 104 = .ok (.lconst 0, 1) := by decide +kernel
theorem dX1_askAbove_105 : decode cX1_askAbove 105 = .ok (.lreturn, 1) := by decide +kernel
def f_X1_askAbove (n : Nat) (x1 : Int32) (x2 : Int32) (M : m_M) : Option (Int64 × m_M) :=
  m_ob (f_X1_answerer x1 M) fun r1 =>
  if r1 = (-1) then
  some (0, M)
  else
  m_gd (m_in x1 60) (
  if x2 = 0 then
  if (M.1 (99 + x1.toNatClampNeg) 7) = 0 then
  if (M.1 (99 + x1.toNatClampNeg) 8) = 0 then
  some (0, M)
  else
  m_bd (f_X0_left (99 + x1.toNatClampNeg) M) fun r8 =>
  some (r8.toInt64, M)
  else
  m_bd (f_X0_left (99 + x1.toNatClampNeg) M) fun r6 =>
  some (r6.toInt64, M)
  else
  if x2 = 1 then
  m_bd (f_X0_left (99 + x1.toNatClampNeg) M) fun r10 =>
  m_bd (f_X0_there (99 + x1.toNatClampNeg) M) fun r11 =>
  m_bd (m_min r10 r11) fun r12 =>
  some (r12.toInt64, M)
  else
  if x2 = 2 then
  m_o2 (f_X1_purseAsk n x1 0 M) fun r14 M15 =>
  some (r14.toInt64, M15)
  else
  if (M.1 (99 + x1.toNatClampNeg) 9) = 0 then
  some (0, M)
  else
  m_ob (f_X1_shareAbove n (99 + x1.toNatClampNeg) M) fun r17 =>
  some (r17, M))
set_option maxHeartbeats 4000000 in
set_option maxRecDepth 100000 in
theorem c_X1_askAbove (l : Launch) (G : m_G) {n : Nat} {x1 : Int32} {x2 : Int32} {M : m_M} {r0 : Int64} {M0 : m_M}  (hres : f_X1_askAbove n x1 x2 M = some (r0, M0)) : Met l yX1_askAbove (m_U yX1_askAbove cX1_askAbove 4 (some .long)) (m_R 5 123) (m_Pc G [.ref (m_ad G 45), .int x1, .int x2] M) (m_Ql G r0 M0) 0 0 (m_A G) := by
  refine m_i0 (n := 4) RX1 rfl (by decide) (Nat.le_of_ble_eq_true rfl) ?_
  intro p e s m args below meth c X hr hlk hSt hP hS ls hl
  have hl : lv_has ls 4 [(0, .ref (m_ad G 45)), (1, .int x1), (2, .int x2)] := hl
  unfold f_X1_askAbove at hres
  refine lv_aload_n X.1 X.2.1 dX1_askAbove_0 rfl (lv_at hl 0 rfl) ?_
  refine lv_iload_n X.1 X.2.1 dX1_askAbove_1 rfl (lv_at hl 1 rfl) ?_
  obtain ⟨r1, err1, hres⟩ := m_ob_e hres
  refine m_bi (m_cV (n := 1) (As := [.int x1]) (rest := []) X hSt hP hS hl.1 (c_X1_answerer l G  err1) k_c_yX1_answerer k_m_X1_212 k_i_yX1_answerer k_s_yX1_answerer k_n_X1 (by decide +kernel) (m_rc1 hSt hP m_z_45) rfl rfl ⟨Nat.le_of_ble_eq_true rfl, Nat.le_of_ble_eq_true rfl⟩ (Nat.le_of_ble_eq_true rfl) ⟨Nat.zero_le _, Nat.zero_le _⟩ dX1_askAbove_2) hS (fun H locs hP hS => ?_)
  refine lv_iconst (v := (-1)) X.1 X.2.1 dX1_askAbove_5 (by decide) ?_
  refine lv_icmp_ne (tgt := 11) X.1 X.2.1 dX1_askAbove_6 (by decide) (fun hc2 => ?_) (fun hc2 => ?_)
  · have hres := m_if hres hc2
    refine lv_aload_n X.1 X.2.1 dX1_askAbove_11 rfl (lv_at hl 0 rfl) ?_
    refine m_g1 (v := .ref (m_ad G 47)) X hSt hP m_z_45 2 (by decide) rfl k_f_X1_19 dX1_askAbove_12 ?_
    refine lv_iload_n X.1 X.2.1 dX1_askAbove_15 rfl (lv_at hl 1 rfl) ?_
    obtain ⟨hg3, hres⟩ := m_gd_e hres
    refine m_qa3 (j := x1.toNatClampNeg) X hSt hP m_z_47 hg3 rfl dX1_askAbove_16 ?_
    refine lv_astore_n (lv' := [(3, .ref (m_ad G (99 + x1.toNatClampNeg))), (0, .ref (m_ad G 45)), (1, .int x1), (2, .int x2)]) X.1 X.2.1 dX1_askAbove_17 rfl hl (by decide) rfl (fun ls hl => ?_)
    refine lv_iload_n X.1 X.2.1 dX1_askAbove_18 rfl (lv_at hl 3 rfl) ?_
    by_cases hc4 : x2 = 0
    · have hres := m_it hres hc4
      refine m_tin (tgt := 44) X dX1_askAbove_19 ⟨_, hc4, by decide, by decide, rfl⟩ (by decide) ?_
      refine lv_aload_n X.1 X.2.1 dX1_askAbove_44 rfl (lv_at hl 0 rfl) ?_
      refine m_g0 (v := .int (M.1 (99 + x1.toNatClampNeg) 7)) X hSt hP (m_deal_of hg3) 7 (by decide) rfl k_f_X1_90 dX1_askAbove_45 ?_
      refine lv_if_ne (tgt := 58) X.1 X.2.1 dX1_askAbove_48 (by decide) (fun hc5 => ?_) (fun hc5 => ?_)
      · have hres := m_if hres hc5
        refine lv_aload_n X.1 X.2.1 dX1_askAbove_58 rfl (lv_at hl 0 rfl) ?_
        obtain ⟨r6, err6, hres⟩ := m_bd_e hres
        refine m_bi (m_cV (n := 0) (As := []) (rest := []) X hSt hP hS hl.1 (c_X0_left l G (m_deal_of hg3) err6) k_c_yX0_left k_m_X1_147 k_i_yX0_left k_s_yX0_left k_n_X0 (by decide +kernel) (m_rc0 hSt hP (m_deal_of hg3)) rfl rfl ⟨Nat.le_of_ble_eq_true rfl, Nat.le_of_ble_eq_true rfl⟩ (Nat.le_of_ble_eq_true rfl) ⟨Nat.zero_le _, Nat.zero_le _⟩ dX1_askAbove_59) hS (fun H locs hP hS => ?_)
        refine lv_i2l (v := r6.toInt64) X.1 X.2.1 dX1_askAbove_62 rfl ?_
        refine lv_goto (tgt := 67) X.1 X.2.1 dX1_askAbove_63 (by decide) ?_
        exact m_rl X hr hlk hP hS (Prod.mk.inj (Option.some.inj hres)).1 (Prod.mk.inj (Option.some.inj hres)).2 dX1_askAbove_67
      · have hres := m_it hres hc5
        refine lv_aload_n X.1 X.2.1 dX1_askAbove_51 rfl (lv_at hl 0 rfl) ?_
        refine m_g0 (v := .int (M.1 (99 + x1.toNatClampNeg) 8)) X hSt hP (m_deal_of hg3) 8 (by decide) rfl k_f_X1_215 dX1_askAbove_52 ?_
        refine lv_if_eq (tgt := 66) X.1 X.2.1 dX1_askAbove_55 (by decide) (fun hc7 => ?_) (fun hc7 => ?_)
        · have hres := m_it hres hc7
          refine lv_lconst (v := 0) X.1 X.2.1 dX1_askAbove_66 (by decide) ?_
          exact m_rl X hr hlk hP hS (Prod.mk.inj (Option.some.inj hres)).1 (Prod.mk.inj (Option.some.inj hres)).2 dX1_askAbove_67
        · have hres := m_if hres hc7
          refine lv_aload_n X.1 X.2.1 dX1_askAbove_58 rfl (lv_at hl 0 rfl) ?_
          obtain ⟨r8, err8, hres⟩ := m_bd_e hres
          refine m_bi (m_cV (n := 0) (As := []) (rest := []) X hSt hP hS hl.1 (c_X0_left l G (m_deal_of hg3) err8) k_c_yX0_left k_m_X1_147 k_i_yX0_left k_s_yX0_left k_n_X0 (by decide +kernel) (m_rc0 hSt hP (m_deal_of hg3)) rfl rfl ⟨Nat.le_of_ble_eq_true rfl, Nat.le_of_ble_eq_true rfl⟩ (Nat.le_of_ble_eq_true rfl) ⟨Nat.zero_le _, Nat.zero_le _⟩ dX1_askAbove_59) hS (fun H locs hP hS => ?_)
          refine lv_i2l (v := r8.toInt64) X.1 X.2.1 dX1_askAbove_62 rfl ?_
          refine lv_goto (tgt := 67) X.1 X.2.1 dX1_askAbove_63 (by decide) ?_
          exact m_rl X hr hlk hP hS (Prod.mk.inj (Option.some.inj hres)).1 (Prod.mk.inj (Option.some.inj hres)).2 dX1_askAbove_67
    · have hres := m_if hres hc4
      by_cases hc9 : x2 = 1
      · have hres := m_it hres hc9
        refine m_tin (tgt := 68) X dX1_askAbove_19 ⟨_, hc9, by decide, by decide, rfl⟩ (by decide) ?_
        refine lv_aload_n X.1 X.2.1 dX1_askAbove_68 rfl (lv_at hl 0 rfl) ?_
        obtain ⟨r10, err10, hres⟩ := m_bd_e hres
        refine m_bi (m_cV (n := 0) (As := []) (rest := []) X hSt hP hS hl.1 (c_X0_left l G (m_deal_of hg3) err10) k_c_yX0_left k_m_X1_147 k_i_yX0_left k_s_yX0_left k_n_X0 (by decide +kernel) (m_rc0 hSt hP (m_deal_of hg3)) rfl rfl ⟨Nat.le_of_ble_eq_true rfl, Nat.le_of_ble_eq_true rfl⟩ (Nat.le_of_ble_eq_true rfl) ⟨Nat.zero_le _, Nat.zero_le _⟩ dX1_askAbove_69) hS (fun H locs hP hS => ?_)
        refine lv_aload_n X.1 X.2.1 dX1_askAbove_72 rfl (lv_at hl 0 rfl) ?_
        obtain ⟨r11, err11, hres⟩ := m_bd_e hres
        refine m_bi (m_cV (n := 0) (As := []) (rest := [.int r10]) X hSt hP hS hl.1 (c_X0_there l G (m_deal_of hg3) err11) k_c_yX0_there k_m_X1_143 k_i_yX0_there k_s_yX0_there k_n_X0 (by decide +kernel) (m_rc0 hSt hP (m_deal_of hg3)) rfl rfl ⟨Nat.le_of_ble_eq_true rfl, Nat.le_of_ble_eq_true rfl⟩ (Nat.le_of_ble_eq_true rfl) ⟨Nat.zero_le _, Nat.zero_le _⟩ dX1_askAbove_73) hS (fun H locs hP hS => ?_)
        obtain ⟨r12, err12, hres⟩ := m_bd_e hres
        refine m_mn (rest := []) X hl.1 k_m_X1_206 k_t_yJ9_min_7cf53 k_n_J9 k_c_yJ9_min_7cf53 (Nat.le_of_ble_eq_true rfl) (Nat.le_of_ble_eq_true rfl) ⟨Nat.zero_le _, Nat.zero_le _⟩ dX1_askAbove_76 err12 ?_
        refine lv_i2l (v := r12.toInt64) X.1 X.2.1 dX1_askAbove_79 rfl ?_
        exact m_rl X hr hlk hP hS (Prod.mk.inj (Option.some.inj hres)).1 (Prod.mk.inj (Option.some.inj hres)).2 dX1_askAbove_80
      · have hres := m_if hres hc9
        by_cases hc13 : x2 = 2
        · have hres := m_it hres hc13
          refine m_tin (tgt := 81) X dX1_askAbove_19 ⟨_, hc13, by decide, by decide, rfl⟩ (by decide) ?_
          refine lv_aload_n X.1 X.2.1 dX1_askAbove_81 rfl (lv_at hl 1 rfl) ?_
          refine lv_iload_n X.1 X.2.1 dX1_askAbove_82 rfl (lv_at hl 2 rfl) ?_
          refine lv_iconst (v := 0) X.1 X.2.1 dX1_askAbove_83 (by decide) ?_
          obtain ⟨r14, M15, err14, hres⟩ := m_o2_e hres
          refine m_bi (m_cV (n := 2) (As := [.int x1, .int 0]) (rest := []) X hSt hP hS hl.1 (c_X1_purseAsk l G  err14) k_c_yX1_purseAsk k_m_X1_218 k_i_yX1_purseAsk k_s_yX1_purseAsk k_n_X1 (by decide +kernel) (m_rc1 hSt hP m_z_45) rfl rfl ⟨Nat.le_of_ble_eq_true rfl, Nat.le_of_ble_eq_true rfl⟩ (Nat.le_of_ble_eq_true rfl) ⟨Nat.zero_le _, Nat.zero_le _⟩ dX1_askAbove_84) hS (fun H locs hP hS => ?_)
          refine lv_i2l (v := r14.toInt64) X.1 X.2.1 dX1_askAbove_87 rfl ?_
          exact m_rl X hr hlk hP hS (Prod.mk.inj (Option.some.inj hres)).1 (Prod.mk.inj (Option.some.inj hres)).2 dX1_askAbove_88
        · have hres := m_if hres hc13
          refine m_tdf (tgt := 89) X dX1_askAbove_19 (by
    have := m_ne (z := 0) hc4 (by decide)
    have := m_ne (z := 1) hc9 (by decide)
    have := m_ne (z := 2) hc13 (by decide)
    exact Or.inl (by omega)) (by decide) ?_
          refine lv_aload_n X.1 X.2.1 dX1_askAbove_89 rfl (lv_at hl 0 rfl) ?_
          refine m_g0 (v := .int (M.1 (99 + x1.toNatClampNeg) 9)) X hSt hP (m_deal_of hg3) 9 (by decide) rfl k_f_X1_221 dX1_askAbove_90 ?_
          refine lv_if_eq (tgt := 104) X.1 X.2.1 dX1_askAbove_93 (by decide) (fun hc16 => ?_) (fun hc16 => ?_)
          · have hres := m_it hres hc16
            refine lv_lconst (v := 0) X.1 X.2.1 dX1_askAbove_104 (by decide) ?_
            exact m_rl X hr hlk hP hS (Prod.mk.inj (Option.some.inj hres)).1 (Prod.mk.inj (Option.some.inj hres)).2 dX1_askAbove_105
          · have hres := m_if hres hc16
            refine lv_aload_n X.1 X.2.1 dX1_askAbove_96 rfl (lv_at hl 1 rfl) ?_
            refine lv_aload_n X.1 X.2.1 dX1_askAbove_97 rfl (lv_at hl 0 rfl) ?_
            obtain ⟨r17, err17, hres⟩ := m_ob_e hres
            refine m_bl (m_cV (n := 1) (As := [.ref (m_ad G (99 + x1.toNatClampNeg))]) (rest := []) X hSt hP hS hl.1 (c_X1_shareAbove l G (m_deal_of hg3) err17) k_c_yX1_shareAbove k_m_X1_224 k_i_yX1_shareAbove k_s_yX1_shareAbove k_n_X1 (by decide +kernel) (m_rc1 hSt hP m_z_45) rfl rfl ⟨Nat.le_of_ble_eq_true rfl, Nat.le_of_ble_eq_true rfl⟩ (Nat.le_of_ble_eq_true rfl) ⟨Nat.zero_le _, Nat.zero_le _⟩ dX1_askAbove_98) hS (fun H locs hP hS => ?_)
            refine lv_goto (tgt := 105) X.1 X.2.1 dX1_askAbove_101 (by decide) ?_
            exact m_rl X hr hlk hP hS (Prod.mk.inj (Option.some.inj hres)).1 (Prod.mk.inj (Option.some.inj hres)).2 dX1_askAbove_105
  · have hres := m_it hres hc2
    refine lv_lconst (v := 0) X.1 X.2.1 dX1_askAbove_9 (by decide) ?_
    exact m_rl X hr hlk hP hS (Prod.mk.inj (Option.some.inj hres)).1 (Prod.mk.inj (Option.some.inj hres)).2 dX1_askAbove_10
theorem dX1_askBelow_0 : decode cX1_askBelow 0 = .ok (.iload_n 2, 1) := by decide +kernel
theorem dX1_askBelow_1 : decode cX1_askBelow 1 = .ok (.iconst 2, 1) := by decide +kernel
theorem dX1_askBelow_2 : decode cX1_askBelow 2 = .ok (.if_icmp .gt 7, 3) := by decide +kernel
theorem dX1_askBelow_5 : decode cX1_askBelow 5 = .ok (.lconst 1, 1) := by decide +kernel
theorem dX1_askBelow_6 : decode cX1_askBelow 6 = .ok (.goto 17, 3) := by decide +kernel
theorem dX1_askBelow_9 : decode cX1_askBelow 9 = .ok (.lconst 1, 1) := by decide +kernel
theorem dX1_askBelow_10 : decode cX1_askBelow 10 = .ok (.aload_n 0, 1) := by decide +kernel
theorem dX1_askBelow_11 : decode cX1_askBelow 11 = .ok (.aload_n 0, 1) := by decide +kernel
theorem dX1_askBelow_12 : decode cX1_askBelow 12 = .ok (.getfield 19, 3) := by decide +kernel
theorem dX1_askBelow_15 : decode cX1_askBelow 15 = .ok (.iload_n 1, 1) := by decide +kernel
theorem dX1_askBelow_16 : decode cX1_askBelow 16 = .ok (.aaload, 1) := by decide +kernel
theorem dX1_askBelow_17 : decode cX1_askBelow 17 = .ok (.invokevirtual 228, 3) := by decide +kernel
theorem dX1_askBelow_20 : decode cX1_askBelow 20 = .ok (.invokestatic 231, 3) := by decide +kernel
theorem dX1_askBelow_23 : decode cX1_askBelow 23 = .ok (.lreturn, 1) := by decide +kernel
def f_X1_askBelow (n : Nat) (x1 : Int32) (x2 : Int32) (M : m_M) : Option Int64 :=
  if (2 : Int32) < x2 then
  m_gd (m_in x1 60) (
  m_ob (f_X1_allOwed n (99 + x1.toNatClampNeg) M) fun r3 =>
  m_bd (m_maxJ 1 r3) fun r4 =>
  some r4)
  else
  some 1
set_option maxHeartbeats 4000000 in
set_option maxRecDepth 100000 in
theorem c_X1_askBelow (l : Launch) (G : m_G) {n : Nat} {x1 : Int32} {x2 : Int32} {M : m_M} {r0 : Int64}  (hres : f_X1_askBelow n x1 x2 M = some r0) : Met l yX1_askBelow (m_U yX1_askBelow cX1_askBelow 3 (some .long)) (m_R 4 97) (m_Pc G [.ref (m_ad G 45), .int x1, .int x2] M) (m_Ql G r0 M) 0 0 (m_A G) := by
  refine m_i0 (n := 3) RX1 rfl (by decide) (Nat.le_of_ble_eq_true rfl) ?_
  intro p e s m args below meth c X hr hlk hSt hP hS ls hl
  have hl : lv_has ls 3 [(0, .ref (m_ad G 45)), (1, .int x1), (2, .int x2)] := hl
  unfold f_X1_askBelow at hres
  refine lv_iload_n X.1 X.2.1 dX1_askBelow_0 rfl (lv_at hl 2 rfl) ?_
  refine lv_iconst (v := 2) X.1 X.2.1 dX1_askBelow_1 (by decide) ?_
  refine lv_icmp_gt (tgt := 9) X.1 X.2.1 dX1_askBelow_2 (by decide) (fun hc1 => ?_) (fun hc1 => ?_)
  · have hres := m_it hres hc1
    refine lv_lconst (v := 1) X.1 X.2.1 dX1_askBelow_9 (by decide) ?_
    refine lv_aload_n X.1 X.2.1 dX1_askBelow_10 rfl (lv_at hl 0 rfl) ?_
    refine lv_aload_n X.1 X.2.1 dX1_askBelow_11 rfl (lv_at hl 0 rfl) ?_
    refine m_g1 (v := .ref (m_ad G 47)) X hSt hP m_z_45 2 (by decide) rfl k_f_X1_19 dX1_askBelow_12 ?_
    refine lv_iload_n X.1 X.2.1 dX1_askBelow_15 rfl (lv_at hl 1 rfl) ?_
    obtain ⟨hg2, hres⟩ := m_gd_e hres
    refine m_qa3 (j := x1.toNatClampNeg) X hSt hP m_z_47 hg2 rfl dX1_askBelow_16 ?_
    obtain ⟨r3, err3, hres⟩ := m_ob_e hres
    refine m_bl (m_cV (n := 1) (As := [.ref (m_ad G (99 + x1.toNatClampNeg))]) (rest := [.long 1]) X hSt hP hS hl.1 (c_X1_allOwed l G (m_deal_of hg2) err3) k_c_yX1_allOwed k_m_X1_228 k_i_yX1_allOwed k_s_yX1_allOwed k_n_X1 (by decide +kernel) (m_rc1 hSt hP m_z_45) rfl rfl ⟨Nat.le_of_ble_eq_true rfl, Nat.le_of_ble_eq_true rfl⟩ (Nat.le_of_ble_eq_true rfl) ⟨Nat.zero_le _, Nat.zero_le _⟩ dX1_askBelow_17) hS (fun H locs hP hS => ?_)
    obtain ⟨r4, err4, hres⟩ := m_bd_e hres
    refine m_mxJ (rest := []) X hl.1 k_m_X1_231 k_t_yJ9_max_f86c9 k_n_J9 k_c_yJ9_max_f86c9 (Nat.le_of_ble_eq_true rfl) (Nat.le_of_ble_eq_true rfl) ⟨Nat.zero_le _, Nat.zero_le _⟩ dX1_askBelow_20 err4 ?_
    exact m_rl X hr hlk hP hS (Option.some.inj hres) rfl dX1_askBelow_23
  · have hres := m_if hres hc1
    refine lv_lconst (v := 1) X.1 X.2.1 dX1_askBelow_5 (by decide) ?_
    refine lv_goto (tgt := 23) X.1 X.2.1 dX1_askBelow_6 (by decide) ?_
    exact m_rl X hr hlk hP hS (Option.some.inj hres) rfl dX1_askBelow_23
theorem dX7_commonMeasure_0 : decode cX7_commonMeasure 0 = .ok (.lload_n 0, 1) := by decide +kernel
theorem dX7_commonMeasure_1 : decode cX7_commonMeasure 1 = .ok (.lstore 4, 2) := by decide +kernel
theorem dX7_commonMeasure_3 : decode cX7_commonMeasure 3 = .ok (.lload_n 2, 1) := by decide +kernel
theorem dX7_commonMeasure_4 : decode cX7_commonMeasure 4 = .ok (.lstore 6, 2) := by decide +kernel
theorem dX7_commonMeasure_6 : decode cX7_commonMeasure 6 = .ok (.iconst 0, 1) := by decide +kernel
theorem dX7_commonMeasure_7 : decode cX7_commonMeasure 7 = .ok (.istore 8, 2) := by decide +kernel
theorem dX7_commonMeasure_9 : decode cX7_commonMeasure 9 = .ok (.iload 8, 2) := by decide +kernel
theorem dX7_commonMeasure_11 : decode cX7_commonMeasure 11 = .ok (.sipush 200, 3) := by decide +kernel
theorem dX7_commonMeasure_14 : decode cX7_commonMeasure 14 = .ok (.if_icmp .ge 31, 3) := by decide +kernel
theorem dX7_commonMeasure_17 : decode cX7_commonMeasure 17 = .ok (.lload 6, 2) := by decide +kernel
theorem dX7_commonMeasure_19 : decode cX7_commonMeasure 19 = .ok (.lconst 0, 1) := by decide +kernel
theorem dX7_commonMeasure_20 : decode cX7_commonMeasure 20 = .ok (.lcmp, 1) := by decide +kernel
theorem dX7_commonMeasure_21 : decode cX7_commonMeasure 21 = .ok (.ifCond .eq 24, 3) := by decide +kernel
theorem dX7_commonMeasure_24 : decode cX7_commonMeasure 24 = .ok (.lload 4, 2) := by decide +kernel
theorem dX7_commonMeasure_26 : decode cX7_commonMeasure 26 = .ok (.lload 6, 2) := by decide +kernel
theorem dX7_commonMeasure_28 : decode cX7_commonMeasure 28 = .ok (.lrem, 1) := by decide +kernel
theorem dX7_commonMeasure_29 : decode cX7_commonMeasure 29 = .ok (.lstore 9, 2) := by decide +kernel
theorem dX7_commonMeasure_31 : decode cX7_commonMeasure 31 = .ok (.lload 6, 2) := by decide +kernel
theorem dX7_commonMeasure_33 : decode cX7_commonMeasure 33 = .ok (.lstore 4, 2) := by decide +kernel
theorem dX7_commonMeasure_35 : decode cX7_commonMeasure 35 = .ok (.lload 9, 2) := by decide +kernel
theorem dX7_commonMeasure_37 : decode cX7_commonMeasure 37 = .ok (.lstore 6, 2) := by decide +kernel
theorem dX7_commonMeasure_39 : decode cX7_commonMeasure 39 = .ok (.iinc 8 1, 3) := by decide +kernel
theorem dX7_commonMeasure_42 : decode cX7_commonMeasure 42 = .ok (.goto (-33), 3) := by decide +kernel
theorem dX7_commonMeasure_45 : decode cX7_commonMeasure 45 = .ok (.lload 4, 2) := by decide +kernel
theorem dX7_commonMeasure_47 : decode cX7_commonMeasure 47 = .ok (.lreturn, 1) := by decide +kernel
def f_X7_commonMeasure_b9 (n : Nat) (x0 : Int64) (x2 : Int64) : Nat → Int64 → Int64 → Int32 → Option Int64
  | 0, _, _, _ => none
  | u + 1, x4, x6, x8 =>
    if (200 : Int32) ≤ x8 then
  some x4
  else
  if x6 = 0 then
  some x4
  else
  m_gd (¬ x6 = 0) (
  f_X7_commonMeasure_b9 n x0 x2 u x6 (x4 - x4 / x6 * x6) (x8 + 1))
def f_X7_commonMeasure (n : Nat) (x0 : Int64) (x2 : Int64) : Option Int64 :=
  f_X7_commonMeasure_b9 n x0 x2 n x0 x2 0
set_option maxHeartbeats 4000000 in
set_option maxRecDepth 100000 in
theorem c_X7_commonMeasure (l : Launch) (G : m_G) {n : Nat} {x0 : Int64} {x2 : Int64} {M : m_M} {r0 : Int64}  (hres : f_X7_commonMeasure n x0 x2 = some r0) : Met l yX7_commonMeasure (m_U yX7_commonMeasure cX7_commonMeasure 11 (some .long)) (m_R 0 0) (m_Pc G [.long x0, .long x2] M) (m_Ql G r0 M) 0 0 (m_A G) := by
  refine m_i0 (n := 11) RX7 rfl (by decide) (Nat.le_of_ble_eq_true rfl) ?_
  intro p e s m args below meth c X hr hlk hSt hP hS ls hl
  have hl : lv_has ls 11 [(0, .long x0), (2, .long x2)] := hl
  have B9 : ∀ (u : Nat) (x4 : Int64) (x6 : Int64) (x8 : Int32) (H : Heap) (locs : List Loc) (ls : Array Slot), m_P G M H → va_S (m_A G) s.heap H locs → lv_has ls 11 [(4, .long x4), (6, .long x6), (8, .int x8)] → f_X7_commonMeasure_b9 n x0 x2 u x4 x6 x8 = some r0 → W p l e (m_R 0 0) s m args below meth c H locs 0 0 (MQ below (m_Ql G r0 M) args s 0 0 (m_A G)) (F0 m 9 ls []) := by
    intro u
    induction u with
    | zero =>
      intro x4 x6 x8 H locs ls hP hS hl hres
      cases hres
    | succ u ih =>
      intro x4 x6 x8 H locs ls hP hS hl hres
      rw [f_X7_commonMeasure_b9] at hres
      refine lv_iload X.1 X.2.1 dX7_commonMeasure_9 (lv_at hl 2 rfl) ?_
      refine lv_sipush (v := 200) X.1 X.2.1 dX7_commonMeasure_11 (by decide) ?_
      refine lv_icmp_ge (tgt := 45) X.1 X.2.1 dX7_commonMeasure_14 (by decide) (fun hc1 => ?_) (fun hc1 => ?_)
      · have hres := m_it hres hc1
        refine lv_lload X.1 X.2.1 dX7_commonMeasure_45 (lv_at hl 0 rfl) ?_
        exact m_rl X hr hlk hP hS (Option.some.inj hres) rfl dX7_commonMeasure_47
      · have hres := m_if hres hc1
        refine lv_lload X.1 X.2.1 dX7_commonMeasure_17 (lv_at hl 1 rfl) ?_
        refine lv_lconst (v := 0) X.1 X.2.1 dX7_commonMeasure_19 (by decide) ?_
        refine m_leq (tgt := 45) X dX7_commonMeasure_20 dX7_commonMeasure_21 (by decide) (fun hc2 => ?_) (fun hc2 => ?_)
        · have hres := m_it hres hc2
          refine lv_lload X.1 X.2.1 dX7_commonMeasure_45 (lv_at hl 0 rfl) ?_
          exact m_rl X hr hlk hP hS (Option.some.inj hres) rfl dX7_commonMeasure_47
        · have hres := m_if hres hc2
          refine lv_lload X.1 X.2.1 dX7_commonMeasure_24 (lv_at hl 0 rfl) ?_
          refine lv_lload X.1 X.2.1 dX7_commonMeasure_26 (lv_at hl 1 rfl) ?_
          obtain ⟨hg3, hres⟩ := m_gd_e hres
          refine lv_lrem X.1 X.2.1 dX7_commonMeasure_28 hg3 ?_
          refine lv_lstore (lv' := [(9, .long (x4 - x4 / x6 * x6)), (4, .long x4), (6, .long x6), (8, .int x8)]) X.1 X.2.1 dX7_commonMeasure_29 hl (by decide) rfl (fun ls hl => ?_)
          refine lv_lload X.1 X.2.1 dX7_commonMeasure_31 (lv_at hl 2 rfl) ?_
          refine lv_lstore (lv' := [(4, .long x6), (9, .long (x4 - x4 / x6 * x6)), (6, .long x6), (8, .int x8)]) X.1 X.2.1 dX7_commonMeasure_33 hl (by decide) rfl (fun ls hl => ?_)
          refine lv_lload X.1 X.2.1 dX7_commonMeasure_35 (lv_at hl 1 rfl) ?_
          refine lv_lstore (lv' := [(6, .long (x4 - x4 / x6 * x6)), (4, .long x6), (9, .long (x4 - x4 / x6 * x6)), (8, .int x8)]) X.1 X.2.1 dX7_commonMeasure_37 hl (by decide) rfl (fun ls hl => ?_)
          refine lv_iinc (v := (x8 + 1)) (lv' := [(8, .int (x8 + 1)), (6, .long (x4 - x4 / x6 * x6)), (4, .long x6), (9, .long (x4 - x4 / x6 * x6))]) X.1 X.2.1 dX7_commonMeasure_39 hl (k := 3) rfl rfl (by decide) rfl (fun ls hl => ?_)
          refine lv_goto (tgt := 9) X.1 X.2.1 dX7_commonMeasure_42 (by decide) ?_
          exact ih x6 (x4 - x4 / x6 * x6) (x8 + 1) _ _ _ hP hS (lv_sub hl [2, 1, 0] rfl) hres
  unfold f_X7_commonMeasure at hres
  refine lv_lload_n X.1 X.2.1 dX7_commonMeasure_0 rfl (lv_at hl 0 rfl) ?_
  refine lv_lstore (lv' := [(4, .long x0), (0, .long x0), (2, .long x2)]) X.1 X.2.1 dX7_commonMeasure_1 hl (by decide) rfl (fun ls hl => ?_)
  refine lv_lload_n X.1 X.2.1 dX7_commonMeasure_3 rfl (lv_at hl 2 rfl) ?_
  refine lv_lstore (lv' := [(6, .long x2), (4, .long x0), (0, .long x0), (2, .long x2)]) X.1 X.2.1 dX7_commonMeasure_4 hl (by decide) rfl (fun ls hl => ?_)
  refine lv_iconst (v := 0) X.1 X.2.1 dX7_commonMeasure_6 (by decide) ?_
  refine lv_istore (lv' := [(8, .int 0), (6, .long x2), (4, .long x0), (0, .long x0), (2, .long x2)]) X.1 X.2.1 dX7_commonMeasure_7 hl (by decide) rfl (fun ls hl => ?_)
  exact B9 n x0 x2 0 _ _ _ hP hS (lv_sub hl [2, 1, 0] rfl) hres
theorem dX7_setFraction_0 : decode cX7_setFraction 0 = .ok (.lload_n 1, 1) := by decide +kernel
theorem dX7_setFraction_1 : decode cX7_setFraction 1 = .ok (.lload_n 3, 1) := by decide +kernel
theorem dX7_setFraction_2 : decode cX7_setFraction 2 = .ok (.invokestatic 308, 3) := by decide +kernel
theorem dX7_setFraction_5 : decode cX7_setFraction 5 = .ok (.lstore 5, 2) := by decide +kernel
theorem dX7_setFraction_7 : decode cX7_setFraction 7 = .ok (.lload 5, 2) := by decide +kernel
theorem dX7_setFraction_9 : decode cX7_setFraction 9 = .ok (.lconst 0, 1) := by decide +kernel
theorem dX7_setFraction_10 : decode cX7_setFraction 10 = .ok (.lcmp, 1) := by decide +kernel
theorem dX7_setFraction_11 : decode cX7_setFraction 11 = .ok (.ifCond .ne 4, 3) := by decide +kernel
theorem dX7_setFraction_14 : decode cX7_setFraction 14 = .ok (.return_, 1) := by decide +kernel
theorem dX7_setFraction_15 : decode cX7_setFraction 15 = .ok (.aload_n 0, 1) := by decide +kernel
theorem dX7_setFraction_16 : decode cX7_setFraction 16 = .ok (.lload_n 1, 1) := by decide +kernel
theorem dX7_setFraction_17 : decode cX7_setFraction 17 = .ok (.lload 5, 2) := by decide +kernel
theorem dX7_setFraction_19 : decode cX7_setFraction 19 = .ok (.ldiv, 1) := by decide +kernel
theorem dX7_setFraction_20 : decode cX7_setFraction 20 = .ok (.putfield 54, 3) := by decide +kernel
theorem dX7_setFraction_23 : decode cX7_setFraction 23 = .ok (.aload_n 0, 1) := by decide +kernel
theorem dX7_setFraction_24 : decode cX7_setFraction 24 = .ok (.lload_n 3, 1) := by decide +kernel
theorem dX7_setFraction_25 : decode cX7_setFraction 25 = .ok (.lload 5, 2) := by decide +kernel
theorem dX7_setFraction_27 : decode cX7_setFraction 27 = .ok (.ldiv, 1) := by decide +kernel
theorem dX7_setFraction_28 : decode cX7_setFraction 28 = .ok (.putfield 58, 3) := by decide +kernel
theorem dX7_setFraction_31 : decode cX7_setFraction 31 = .ok (.return_, 1) := by decide +kernel
def f_X7_setFraction (n : Nat) (x1 : Int64) (x3 : Int64) (M : m_M) : Option m_M :=
  m_ob (f_X7_commonMeasure n x1 x3) fun r1 =>
  if r1 = 0 then
  some M
  else
  m_gd (¬ r1 = 0) (
  m_bd (m_sL M 0 8 (x1 / r1)) fun M4 =>
  m_gd (¬ r1 = 0) (
  m_bd (m_sL M4 0 9 (x3 / r1)) fun M6 =>
  some M6))
set_option maxHeartbeats 4000000 in
set_option maxRecDepth 100000 in
theorem c_X7_setFraction (l : Launch) (G : m_G) {n : Nat} {x1 : Int64} {x3 : Int64} {M : m_M} {M0 : m_M}  (hres : f_X7_setFraction n x1 x3 M = some M0) : Met l yX7_setFraction (m_U yX7_setFraction cX7_setFraction 7 none) (m_R 1 30) (m_Pc G [.ref (m_ad G 0), .long x1, .long x3] M) (m_Qv G M0) 0 0 (m_A G) := by
  refine m_i0 (n := 7) RX7 rfl (by decide) (Nat.le_of_ble_eq_true rfl) ?_
  intro p e s m args below meth c X hr hlk hSt hP hS ls hl
  have hl : lv_has ls 7 [(0, .ref (m_ad G 0)), (1, .long x1), (3, .long x3)] := hl
  unfold f_X7_setFraction at hres
  refine lv_lload_n X.1 X.2.1 dX7_setFraction_0 rfl (lv_at hl 1 rfl) ?_
  refine lv_lload_n X.1 X.2.1 dX7_setFraction_1 rfl (lv_at hl 2 rfl) ?_
  obtain ⟨r1, err1, hres⟩ := m_ob_e hres
  refine m_bl (m_cS (n := 2) (As := [.long x1, .long x3]) (rest := []) X hSt hP hS hl.1 (c_X7_commonMeasure l G (M := M)  err1) k_c_yX7_commonMeasure k_m_X7_308 k_t_yX7_commonMeasure k_n_X7 (by decide +kernel) rfl rfl ⟨Nat.le_of_ble_eq_true rfl, Nat.le_of_ble_eq_true rfl⟩ (Nat.le_of_ble_eq_true rfl) ⟨Nat.zero_le _, Nat.zero_le _⟩ dX7_setFraction_2) hS (fun H locs hP hS => ?_)
  refine lv_lstore (lv' := [(5, .long r1), (0, .ref (m_ad G 0)), (1, .long x1), (3, .long x3)]) X.1 X.2.1 dX7_setFraction_5 hl (by decide) rfl (fun ls hl => ?_)
  refine lv_lload X.1 X.2.1 dX7_setFraction_7 (lv_at hl 0 rfl) ?_
  refine lv_lconst (v := 0) X.1 X.2.1 dX7_setFraction_9 (by decide) ?_
  refine m_lne (tgt := 15) X dX7_setFraction_10 dX7_setFraction_11 (by decide) (fun hc2 => ?_) (fun hc2 => ?_)
  · have hres := m_if hres hc2
    refine lv_aload_n X.1 X.2.1 dX7_setFraction_15 rfl (lv_at hl 1 rfl) ?_
    refine lv_lload_n X.1 X.2.1 dX7_setFraction_16 rfl (lv_at hl 2 rfl) ?_
    refine lv_lload X.1 X.2.1 dX7_setFraction_17 (lv_at hl 0 rfl) ?_
    obtain ⟨hg3, hres⟩ := m_gd_e hres
    refine lv_ldiv X.1 X.2.1 dX7_setFraction_19 hg3 ?_
    obtain ⟨M4, eM4, hres⟩ := m_bd_e hres
    refine m_pl7 X hSt hP hS m_z_0 8 (by decide) eM4 rfl rfl (by decide) k_f_X7_54 dX7_setFraction_20 (fun H locs hP hS => ?_)
    refine lv_aload_n X.1 X.2.1 dX7_setFraction_23 rfl (lv_at hl 1 rfl) ?_
    refine lv_lload_n X.1 X.2.1 dX7_setFraction_24 rfl (lv_at hl 3 rfl) ?_
    refine lv_lload X.1 X.2.1 dX7_setFraction_25 (lv_at hl 0 rfl) ?_
    obtain ⟨hg5, hres⟩ := m_gd_e hres
    refine lv_ldiv X.1 X.2.1 dX7_setFraction_27 hg5 ?_
    obtain ⟨M6, eM6, hres⟩ := m_bd_e hres
    refine m_pl7 X hSt hP hS m_z_0 9 (by decide) eM6 rfl rfl (by decide) k_f_X7_58 dX7_setFraction_28 (fun H locs hP hS => ?_)
    exact m_rv X hr hlk hP hS (Option.some.inj hres) dX7_setFraction_31
  · have hres := m_it hres hc2
    exact m_rv X hr hlk hP hS (Option.some.inj hres) dX7_setFraction_14
theorem dX7_ask_0 : decode cX7_ask 0 = .ok (.aload_n 0, 1) := by decide +kernel
theorem dX7_ask_1 : decode cX7_ask 1 = .ok (.iload_n 1, 1) := by decide +kernel
theorem dX7_ask_2 : decode cX7_ask 2 = .ok (.invokevirtual 184, 3) := by decide +kernel
theorem dX7_ask_5 : decode cX7_ask 5 = .ok (.ifCond .eq 17, 3) := by decide +kernel
theorem dX7_ask_8 : decode cX7_ask 8 = .ok (.iload_n 2, 1) := by decide +kernel
theorem dX7_ask_9 : decode cX7_ask 9 = .ok (.invokestatic 202, 3) := by decide +kernel
theorem dX7_ask_12 : decode cX7_ask 12 = .ok (.ifCond .eq 10, 3) := by decide +kernel
theorem dX7_ask_15 : decode cX7_ask 15 = .ok (.iload_n 3, 1) := by decide +kernel
theorem dX7_ask_16 : decode cX7_ask 16 = .ok (.invokestatic 145, 3) := by decide +kernel
theorem dX7_ask_19 : decode cX7_ask 19 = .ok (.ifCond .ne 6, 3) := by decide +kernel
theorem dX7_ask_22 : decode cX7_ask 22 = .ok (.bipush (-2), 2) := by decide +kernel
theorem dX7_ask_24 : decode cX7_ask 24 = .ok (.ireturn, 1) := by decide +kernel
theorem dX7_ask_25 : decode cX7_ask 25 = .ok (.aload_n 0, 1) := by decide +kernel
theorem dX7_ask_26 : decode cX7_ask 26 = .ok (.getfield 29, 3) := by decide +kernel
theorem dX7_ask_29 : decode cX7_ask 29 = .ok (.iload_n 3, 1) := by decide +kernel
theorem dX7_ask_30 : decode cX7_ask 30 = .ok (.iconst 0, 1) := by decide +kernel
theorem dX7_ask_31 : decode cX7_ask 31 = .ok (.invokevirtual 168, 3) := by decide +kernel
theorem dX7_ask_34 : decode cX7_ask 34 = .ok (.aload_n 0, 1) := by decide +kernel
theorem dX7_ask_35 : decode cX7_ask 35 = .ok (.getfield 29, 3) := by decide +kernel
theorem dX7_ask_38 : decode cX7_ask 38 = .ok (.iload_n 1, 1) := by decide +kernel
theorem dX7_ask_39 : decode cX7_ask 39 = .ok (.invokevirtual 187, 3) := by decide +kernel
theorem dX7_ask_42 : decode cX7_ask 42 = .ok (.ifCond .ne 6, 3) := by decide +kernel
theorem dX7_ask_45 : decode cX7_ask 45 = .ok (.bipush (-3), 2) := by decide +kernel
theorem dX7_ask_47 : decode cX7_ask 47 = .ok (.ireturn, 1) := by decide +kernel
theorem dX7_ask_48 : decode cX7_ask 48 = .ok (.aload_n 0, 1) := by decide +kernel
theorem dX7_ask_49 : decode cX7_ask 49 = .ok (.aload_n 0, 1) := by decide +kernel
theorem dX7_ask_50 : decode cX7_ask 50 = .ok (.getfield 29, 3) := by decide +kernel
theorem dX7_ask_53 : decode cX7_ask 53 = .ok (.iload_n 1, 1) := by decide +kernel
theorem dX7_ask_54 : decode cX7_ask 54 = .ok (.iload_n 2, 1) := by decide +kernel
theorem dX7_ask_55 : decode cX7_ask 55 = .ok (.invokevirtual 205, 3) := by decide +kernel
theorem dX7_ask_58 : decode cX7_ask 58 = .ok (.aload_n 0, 1) := by decide +kernel
theorem dX7_ask_59 : decode cX7_ask 59 = .ok (.getfield 29, 3) := by decide +kernel
theorem dX7_ask_62 : decode cX7_ask 62 = .ok (.iload_n 1, 1) := by decide +kernel
theorem dX7_ask_63 : decode cX7_ask 63 = .ok (.iload_n 2, 1) := by decide +kernel
theorem dX7_ask_64 : decode cX7_ask 64 = .ok (.invokevirtual 209, 3) := by decide +kernel
theorem dX7_ask_67 : decode cX7_ask 67 = .ok (.invokevirtual 212, 3) := by decide +kernel
theorem dX7_ask_70 : decode cX7_ask 70 = .ok (.iconst 1, 1) := by decide +kernel
theorem dX7_ask_71 : decode cX7_ask 71 = .ok (.ireturn, 1) := by decide +kernel
def f_X7_ask (n : Nat) (x1 : Int32) (x2 : Int32) (x3 : Int32) (M : m_M) : Option (Int32 × m_M) :=
  m_bd (f_X7_isDeal x1 M) fun r1 =>
  if r1 = 0 then
  some ((-2), M)
  else
  m_bd (f_X7_isAsk x2) fun r4 =>
  if r4 = 0 then
  some ((-2), M)
  else
  m_bd (f_X7_isDay x3) fun r7 =>
  if r7 = 0 then
  some ((-2), M)
  else
  m_ob (f_X1_reckon n x3 0 M) fun M10 =>
  m_bd (f_X1_isThere x1 M10) fun r11 =>
  if r11 = 0 then
  some ((-3), M10)
  else
  m_o2 (f_X1_askAbove n x1 x2 M10) fun r14 M15 =>
  m_ob (f_X1_askBelow n x1 x2 M15) fun r16 =>
  m_ob (f_X7_setFraction n r14 r16 M15) fun M17 =>
  some (1, M17)
set_option maxHeartbeats 4000000 in
set_option maxRecDepth 100000 in
theorem c_X7_ask (l : Launch) (G : m_G) {n : Nat} {x1 : Int32} {x2 : Int32} {x3 : Int32} {M : m_M} {r0 : Int32} {M0 : m_M}  (hres : f_X7_ask n x1 x2 x3 M = some (r0, M0)) : Met l yX7_ask (m_U yX7_ask cX7_ask 4 (some .int)) (m_R 7 157) (m_Pc G [.ref (m_ad G 0), .int x1, .int x2, .int x3] M) (m_Qi G r0 M0) 0 0 (m_A G) := by
  refine m_i0 (n := 4) RX7 rfl (by decide) (Nat.le_of_ble_eq_true rfl) ?_
  intro p e s m args below meth c X hr hlk hSt hP hS ls hl
  have hl : lv_has ls 4 [(0, .ref (m_ad G 0)), (1, .int x1), (2, .int x2), (3, .int x3)] := hl
  unfold f_X7_ask at hres
  refine lv_aload_n X.1 X.2.1 dX7_ask_0 rfl (lv_at hl 0 rfl) ?_
  refine lv_iload_n X.1 X.2.1 dX7_ask_1 rfl (lv_at hl 1 rfl) ?_
  obtain ⟨r1, err1, hres⟩ := m_bd_e hres
  refine m_bz (m_cV (n := 1) (As := [.int x1]) (rest := []) X hSt hP hS hl.1 (c_X7_isDeal l G  err1) k_c_yX7_isDeal k_m_X7_184 k_i_yX7_isDeal k_s_yX7_isDeal k_n_X7 (by decide +kernel) (m_rc7 hSt hP m_z_0) rfl rfl ⟨Nat.le_of_ble_eq_true rfl, Nat.le_of_ble_eq_true rfl⟩ (Nat.le_of_ble_eq_true rfl) ⟨Nat.zero_le _, Nat.zero_le _⟩ dX7_ask_2) hS (fun H locs hP hS hz2 => ?_)
  refine lv_if_eq (tgt := 22) X.1 X.2.1 dX7_ask_5 (by decide) (fun hc3 => ?_) (fun hc3 => ?_)
  · have hres := m_it hres hc3
    refine lv_bipush (v := (-2)) X.1 X.2.1 dX7_ask_22 (by decide) ?_
    exact m_ri X hr hlk hP hS (Prod.mk.inj (Option.some.inj hres)).1 (Prod.mk.inj (Option.some.inj hres)).2 dX7_ask_24
  · have hres := m_if hres hc3
    refine lv_iload_n X.1 X.2.1 dX7_ask_8 rfl (lv_at hl 2 rfl) ?_
    obtain ⟨r4, err4, hres⟩ := m_bd_e hres
    refine m_bz (m_cS (n := 1) (As := [.int x2]) (rest := []) X hSt hP hS hl.1 (c_X7_isAsk l G (M := M)  err4) k_c_yX7_isAsk k_m_X7_202 k_t_yX7_isAsk k_n_X7 (by decide +kernel) rfl rfl ⟨Nat.le_of_ble_eq_true rfl, Nat.le_of_ble_eq_true rfl⟩ (Nat.le_of_ble_eq_true rfl) ⟨Nat.zero_le _, Nat.zero_le _⟩ dX7_ask_9) hS (fun H locs hP hS hz5 => ?_)
    refine lv_if_eq (tgt := 22) X.1 X.2.1 dX7_ask_12 (by decide) (fun hc6 => ?_) (fun hc6 => ?_)
    · have hres := m_it hres hc6
      refine lv_bipush (v := (-2)) X.1 X.2.1 dX7_ask_22 (by decide) ?_
      exact m_ri X hr hlk hP hS (Prod.mk.inj (Option.some.inj hres)).1 (Prod.mk.inj (Option.some.inj hres)).2 dX7_ask_24
    · have hres := m_if hres hc6
      refine lv_iload_n X.1 X.2.1 dX7_ask_15 rfl (lv_at hl 3 rfl) ?_
      obtain ⟨r7, err7, hres⟩ := m_bd_e hres
      refine m_bz (m_cS (n := 1) (As := [.int x3]) (rest := []) X hSt hP hS hl.1 (c_X7_isDay l G (M := M)  err7) k_c_yX7_isDay k_m_X7_145 k_t_yX7_isDay k_n_X7 (by decide +kernel) rfl rfl ⟨Nat.le_of_ble_eq_true rfl, Nat.le_of_ble_eq_true rfl⟩ (Nat.le_of_ble_eq_true rfl) ⟨Nat.zero_le _, Nat.zero_le _⟩ dX7_ask_16) hS (fun H locs hP hS hz8 => ?_)
      refine lv_if_ne (tgt := 25) X.1 X.2.1 dX7_ask_19 (by decide) (fun hc9 => ?_) (fun hc9 => ?_)
      · have hres := m_if hres hc9
        refine lv_aload_n X.1 X.2.1 dX7_ask_25 rfl (lv_at hl 0 rfl) ?_
        refine m_g7 (v := .ref (m_ad G 45)) X hSt hP m_z_0 3 (by decide) rfl k_f_X7_29 dX7_ask_26 ?_
        refine lv_iload_n X.1 X.2.1 dX7_ask_29 rfl (lv_at hl 3 rfl) ?_
        refine lv_iconst (v := 0) X.1 X.2.1 dX7_ask_30 (by decide) ?_
        obtain ⟨M10, eM10, hres⟩ := m_ob_e hres
        refine m_bv (m_cV (n := 2) (As := [.int x3, .int 0]) (rest := []) X hSt hP hS hl.1 (c_X1_reckon l G  eM10) k_c_yX1_reckon k_m_X7_168 k_i_yX1_reckon k_s_yX1_reckon k_n_X1 (by decide +kernel) (m_rc1 hSt hP m_z_45) rfl rfl ⟨Nat.le_of_ble_eq_true rfl, Nat.le_of_ble_eq_true rfl⟩ (Nat.le_of_ble_eq_true rfl) ⟨Nat.zero_le _, Nat.zero_le _⟩ dX7_ask_31) hS (fun H locs hP hS => ?_)
        refine lv_aload_n X.1 X.2.1 dX7_ask_34 rfl (lv_at hl 0 rfl) ?_
        refine m_g7 (v := .ref (m_ad G 45)) X hSt hP m_z_0 3 (by decide) rfl k_f_X7_29 dX7_ask_35 ?_
        refine lv_iload_n X.1 X.2.1 dX7_ask_38 rfl (lv_at hl 1 rfl) ?_
        obtain ⟨r11, err11, hres⟩ := m_bd_e hres
        refine m_bz (m_cV (n := 1) (As := [.int x1]) (rest := []) X hSt hP hS hl.1 (c_X1_isThere l G  err11) k_c_yX1_isThere k_m_X7_187 k_i_yX1_isThere k_s_yX1_isThere k_n_X1 (by decide +kernel) (m_rc1 hSt hP m_z_45) rfl rfl ⟨Nat.le_of_ble_eq_true rfl, Nat.le_of_ble_eq_true rfl⟩ (Nat.le_of_ble_eq_true rfl) ⟨Nat.zero_le _, Nat.zero_le _⟩ dX7_ask_39) hS (fun H locs hP hS hz12 => ?_)
        refine lv_if_ne (tgt := 48) X.1 X.2.1 dX7_ask_42 (by decide) (fun hc13 => ?_) (fun hc13 => ?_)
        · have hres := m_if hres hc13
          refine lv_aload_n X.1 X.2.1 dX7_ask_48 rfl (lv_at hl 0 rfl) ?_
          refine lv_aload_n X.1 X.2.1 dX7_ask_49 rfl (lv_at hl 0 rfl) ?_
          refine m_g7 (v := .ref (m_ad G 45)) X hSt hP m_z_0 3 (by decide) rfl k_f_X7_29 dX7_ask_50 ?_
          refine lv_iload_n X.1 X.2.1 dX7_ask_53 rfl (lv_at hl 1 rfl) ?_
          refine lv_iload_n X.1 X.2.1 dX7_ask_54 rfl (lv_at hl 2 rfl) ?_
          obtain ⟨r14, M15, err14, hres⟩ := m_o2_e hres
          refine m_bl (m_cV (n := 2) (As := [.int x1, .int x2]) (rest := [.ref (m_ad G 0)]) X hSt hP hS hl.1 (c_X1_askAbove l G  err14) k_c_yX1_askAbove k_m_X7_205 k_i_yX1_askAbove k_s_yX1_askAbove k_n_X1 (by decide +kernel) (m_rc1 hSt hP m_z_45) rfl rfl ⟨Nat.le_of_ble_eq_true rfl, Nat.le_of_ble_eq_true rfl⟩ (Nat.le_of_ble_eq_true rfl) ⟨Nat.zero_le _, Nat.zero_le _⟩ dX7_ask_55) hS (fun H locs hP hS => ?_)
          refine lv_aload_n X.1 X.2.1 dX7_ask_58 rfl (lv_at hl 0 rfl) ?_
          refine m_g7 (v := .ref (m_ad G 45)) X hSt hP m_z_0 3 (by decide) rfl k_f_X7_29 dX7_ask_59 ?_
          refine lv_iload_n X.1 X.2.1 dX7_ask_62 rfl (lv_at hl 1 rfl) ?_
          refine lv_iload_n X.1 X.2.1 dX7_ask_63 rfl (lv_at hl 2 rfl) ?_
          obtain ⟨r16, err16, hres⟩ := m_ob_e hres
          refine m_bl (m_cV (n := 2) (As := [.int x1, .int x2]) (rest := [.long r14, .ref (m_ad G 0)]) X hSt hP hS hl.1 (c_X1_askBelow l G  err16) k_c_yX1_askBelow k_m_X7_209 k_i_yX1_askBelow k_s_yX1_askBelow k_n_X1 (by decide +kernel) (m_rc1 hSt hP m_z_45) rfl rfl ⟨Nat.le_of_ble_eq_true rfl, Nat.le_of_ble_eq_true rfl⟩ (Nat.le_of_ble_eq_true rfl) ⟨Nat.zero_le _, Nat.zero_le _⟩ dX7_ask_64) hS (fun H locs hP hS => ?_)
          obtain ⟨M17, eM17, hres⟩ := m_ob_e hres
          refine m_bv (m_cV (n := 2) (As := [.long r14, .long r16]) (rest := []) X hSt hP hS hl.1 (c_X7_setFraction l G  eM17) k_c_yX7_setFraction k_m_X7_212 k_i_yX7_setFraction k_s_yX7_setFraction k_n_X7 (by decide +kernel) (m_rc7 hSt hP m_z_0) rfl rfl ⟨Nat.le_of_ble_eq_true rfl, Nat.le_of_ble_eq_true rfl⟩ (Nat.le_of_ble_eq_true rfl) ⟨Nat.zero_le _, Nat.zero_le _⟩ dX7_ask_67) hS (fun H locs hP hS => ?_)
          refine lv_iconst (v := 1) X.1 X.2.1 dX7_ask_70 (by decide) ?_
          exact m_ri X hr hlk hP hS (Prod.mk.inj (Option.some.inj hres)).1 (Prod.mk.inj (Option.some.inj hres)).2 dX7_ask_71
        · have hres := m_it hres hc13
          refine lv_bipush (v := (-3)) X.1 X.2.1 dX7_ask_45 (by decide) ?_
          exact m_ri X hr hlk hP hS (Prod.mk.inj (Option.some.inj hres)).1 (Prod.mk.inj (Option.some.inj hres)).2 dX7_ask_47
      · have hres := m_it hres hc9
        refine lv_bipush (v := (-2)) X.1 X.2.1 dX7_ask_22 (by decide) ?_
        exact m_ri X hr hlk hP hS (Prod.mk.inj (Option.some.inj hres)).1 (Prod.mk.inj (Option.some.inj hres)).2 dX7_ask_24
theorem dX7_ways_0 : decode cX7_ways 0 = .ok (.iconst 1, 1) := by decide +kernel
theorem dX7_ways_1 : decode cX7_ways 1 = .ok (.aload_n 0, 1) := by decide +kernel
theorem dX7_ways_2 : decode cX7_ways 2 = .ok (.getfield 10, 3) := by decide +kernel
theorem dX7_ways_5 : decode cX7_ways 5 = .ok (.getfield 79, 3) := by decide +kernel
theorem dX7_ways_8 : decode cX7_ways 8 = .ok (.ishl, 1) := by decide +kernel
theorem dX7_ways_9 : decode cX7_ways 9 = .ok (.ireturn, 1) := by decide +kernel
def f_X7_ways (M : m_M) : Int32 :=
  ((1 : Int32) <<< ((M.1 1 3) &&& 31))
set_option maxHeartbeats 4000000 in
set_option maxRecDepth 100000 in
theorem c_X7_ways (l : Launch) (G : m_G) {M : m_M} {r0 : Int32}  (hres : f_X7_ways M = r0) : Met l yX7_ways (m_U yX7_ways cX7_ways 1 (some .int)) (m_R 0 0) (m_Pc G [.ref (m_ad G 0)] M) (m_Qi G r0 M) 0 0 (m_A G) := by
  refine m_i0 (n := 1) RX7 rfl (by decide) (Nat.le_of_ble_eq_true rfl) ?_
  intro p e s m args below meth c X hr hlk hSt hP hS ls hl
  have hl : lv_has ls 1 [(0, .ref (m_ad G 0))] := hl
  unfold f_X7_ways at hres
  refine lv_iconst (v := 1) X.1 X.2.1 dX7_ways_0 (by decide) ?_
  refine lv_aload_n X.1 X.2.1 dX7_ways_1 rfl (lv_at hl 0 rfl) ?_
  refine m_g7 (v := .ref (m_ad G 1)) X hSt hP m_z_0 0 (by decide) rfl k_f_X7_10 dX7_ways_2 ?_
  refine m_g3 (v := .int (M.1 1 3)) X hSt hP m_kept_0.1 3 (by decide) rfl k_f_X7_79 dX7_ways_5 ?_
  refine lv_ishl X.1 X.2.1 dX7_ways_8 ?_
  exact m_ri X hr hlk hP hS hres rfl dX7_ways_9
theorem dX7_askInAllWays_0 : decode cX7_askInAllWays 0 = .ok (.iconst 0, 1) := by decide +kernel
theorem dX7_askInAllWays_1 : decode cX7_askInAllWays 1 = .ok (.istore 4, 2) := by decide +kernel
theorem dX7_askInAllWays_3 : decode cX7_askInAllWays 3 = .ok (.iload 4, 2) := by decide +kernel
theorem dX7_askInAllWays_5 : decode cX7_askInAllWays 5 = .ok (.aload_n 0, 1) := by decide +kernel
theorem dX7_askInAllWays_6 : decode cX7_askInAllWays 6 = .ok (.invokevirtual 257, 3) := by decide +kernel
theorem dX7_askInAllWays_9 : decode cX7_askInAllWays 9 = .ok (.if_icmp .ge 51, 3) := by decide +kernel
theorem dX7_askInAllWays_12 : decode cX7_askInAllWays 12 = .ok (.aload_n 0, 1) := by decide +kernel
theorem dX7_askInAllWays_13 : decode cX7_askInAllWays 13 = .ok (.getfield 29, 3) := by decide +kernel
theorem dX7_askInAllWays_16 : decode cX7_askInAllWays 16 = .ok (.iload_n 3, 1) := by decide +kernel
theorem dX7_askInAllWays_17 : decode cX7_askInAllWays 17 = .ok (.iload 4, 2) := by decide +kernel
theorem dX7_askInAllWays_19 : decode cX7_askInAllWays 19 = .ok (.invokevirtual 168, 3) := by decide +kernel
theorem dX7_askInAllWays_22 : decode cX7_askInAllWays 22 = .ok (.aload_n 0, 1) := by decide +kernel
theorem dX7_askInAllWays_23 : decode cX7_askInAllWays 23 = .ok (.getfield 47, 3) := by decide +kernel
theorem dX7_askInAllWays_26 : decode cX7_askInAllWays 26 = .ok (.iload 4, 2) := by decide +kernel
theorem dX7_askInAllWays_28 : decode cX7_askInAllWays 28 = .ok (.aload_n 0, 1) := by decide +kernel
theorem dX7_askInAllWays_29 : decode cX7_askInAllWays 29 = .ok (.getfield 29, 3) := by decide +kernel
theorem dX7_askInAllWays_32 : decode cX7_askInAllWays 32 = .ok (.iload_n 1, 1) := by decide +kernel
theorem dX7_askInAllWays_33 : decode cX7_askInAllWays 33 = .ok (.iload_n 2, 1) := by decide +kernel
theorem dX7_askInAllWays_34 : decode cX7_askInAllWays 34 = .ok (.invokevirtual 205, 3) := by decide +kernel
theorem dX7_askInAllWays_37 : decode cX7_askInAllWays 37 = .ok (.lastore, 1) := by decide +kernel
theorem dX7_askInAllWays_38 : decode cX7_askInAllWays 38 = .ok (.aload_n 0, 1) := by decide +kernel
theorem dX7_askInAllWays_39 : decode cX7_askInAllWays 39 = .ok (.getfield 51, 3) := by decide +kernel
theorem dX7_askInAllWays_42 : decode cX7_askInAllWays 42 = .ok (.iload 4, 2) := by decide +kernel
theorem dX7_askInAllWays_44 : decode cX7_askInAllWays 44 = .ok (.aload_n 0, 1) := by decide +kernel
theorem dX7_askInAllWays_45 : decode cX7_askInAllWays 45 = .ok (.getfield 29, 3) := by decide +kernel
theorem dX7_askInAllWays_48 : decode cX7_askInAllWays 48 = .ok (.iload_n 1, 1) := by decide +kernel
theorem dX7_askInAllWays_49 : decode cX7_askInAllWays 49 = .ok (.iload_n 2, 1) := by decide +kernel
theorem dX7_askInAllWays_50 : decode cX7_askInAllWays 50 = .ok (.invokevirtual 209, 3) := by decide +kernel
theorem dX7_askInAllWays_53 : decode cX7_askInAllWays 53 = .ok (.lastore, 1) := by decide +kernel
theorem dX7_askInAllWays_54 : decode cX7_askInAllWays 54 = .ok (.iinc 4 1, 3) := by decide +kernel
theorem dX7_askInAllWays_57 : decode cX7_askInAllWays 57 = .ok (.goto (-54), 3) := by decide +kernel
theorem dX7_askInAllWays_60 : decode cX7_askInAllWays 60 = .ok (.return_, 1) := by decide +kernel
def f_X7_askInAllWays_b3 (n : Nat) (x1 : Int32) (x2 : Int32) (x3 : Int32) : Nat → Int32 → m_M → Option m_M
  | 0, _, _ => none
  | u + 1, x4, M =>
    m_bd (f_X7_ways M) fun r1 =>
  if r1 ≤ x4 then
  some M
  else
  m_ob (f_X1_reckon n x3 x4 M) fun M3 =>
  m_o2 (f_X1_askAbove n x1 x2 M3) fun r4 M5 =>
  m_gd (m_in x4 32) (
  m_bd (m_sL M5 170 x4.toNatClampNeg r4) fun M7 =>
  m_ob (f_X1_askBelow n x1 x2 M7) fun r8 =>
  m_bd (m_sL M7 171 x4.toNatClampNeg r8) fun M9 =>
  f_X7_askInAllWays_b3 n x1 x2 x3 u (x4 + 1) M9)
def f_X7_askInAllWays (n : Nat) (x1 : Int32) (x2 : Int32) (x3 : Int32) (M : m_M) : Option m_M :=
  f_X7_askInAllWays_b3 n x1 x2 x3 n 0 M
set_option maxHeartbeats 4000000 in
set_option maxRecDepth 100000 in
theorem c_X7_askInAllWays (l : Launch) (G : m_G) {n : Nat} {x1 : Int32} {x2 : Int32} {x3 : Int32} {M : m_M} {M0 : m_M}  (hres : f_X7_askInAllWays n x1 x2 x3 M = some M0) : Met l yX7_askInAllWays (m_U yX7_askInAllWays cX7_askInAllWays 5 none) (m_R 7 157) (m_Pc G [.ref (m_ad G 0), .int x1, .int x2, .int x3] M) (m_Qv G M0) 0 0 (m_A G) := by
  refine m_i0 (n := 5) RX7 rfl (by decide) (Nat.le_of_ble_eq_true rfl) ?_
  intro p e s m args below meth c X hr hlk hSt hP hS ls hl
  have hl : lv_has ls 5 [(0, .ref (m_ad G 0)), (1, .int x1), (2, .int x2), (3, .int x3)] := hl
  have B3 : ∀ (u : Nat) (x4 : Int32) (M : m_M) (H : Heap) (locs : List Loc) (ls : Array Slot), m_P G M H → va_S (m_A G) s.heap H locs → lv_has ls 5 [(0, .ref (m_ad G 0)), (1, .int x1), (2, .int x2), (3, .int x3), (4, .int x4)] → f_X7_askInAllWays_b3 n x1 x2 x3 u x4 M = some M0 → W p l e (m_R 7 157) s m args below meth c H locs 0 0 (MQ below (m_Qv G M0) args s 0 0 (m_A G)) (F0 m 3 ls []) := by
    intro u
    induction u with
    | zero =>
      intro x4 M H locs ls hP hS hl hres
      cases hres
    | succ u ih =>
      intro x4 M H locs ls hP hS hl hres
      rw [f_X7_askInAllWays_b3] at hres
      refine lv_iload X.1 X.2.1 dX7_askInAllWays_3 (lv_at hl 4 rfl) ?_
      refine lv_aload_n X.1 X.2.1 dX7_askInAllWays_5 rfl (lv_at hl 0 rfl) ?_
      obtain ⟨r1, err1, hres⟩ := m_bd_e hres
      refine m_bi (m_cV (n := 0) (As := []) (rest := [.int x4]) X hSt hP hS hl.1 (c_X7_ways l G  err1) k_c_yX7_ways k_m_X7_257 k_i_yX7_ways k_s_yX7_ways k_n_X7 (by decide +kernel) (m_rc7 hSt hP m_z_0) rfl rfl ⟨Nat.le_of_ble_eq_true rfl, Nat.le_of_ble_eq_true rfl⟩ (Nat.le_of_ble_eq_true rfl) ⟨Nat.zero_le _, Nat.zero_le _⟩ dX7_askInAllWays_6) hS (fun H locs hP hS => ?_)
      refine lv_icmp_ge (tgt := 60) X.1 X.2.1 dX7_askInAllWays_9 (by decide) (fun hc2 => ?_) (fun hc2 => ?_)
      · have hres := m_it hres hc2
        exact m_rv X hr hlk hP hS (Option.some.inj hres) dX7_askInAllWays_60
      · have hres := m_if hres hc2
        refine lv_aload_n X.1 X.2.1 dX7_askInAllWays_12 rfl (lv_at hl 0 rfl) ?_
        refine m_g7 (v := .ref (m_ad G 45)) X hSt hP m_z_0 3 (by decide) rfl k_f_X7_29 dX7_askInAllWays_13 ?_
        refine lv_iload_n X.1 X.2.1 dX7_askInAllWays_16 rfl (lv_at hl 3 rfl) ?_
        refine lv_iload X.1 X.2.1 dX7_askInAllWays_17 (lv_at hl 4 rfl) ?_
        obtain ⟨M3, eM3, hres⟩ := m_ob_e hres
        refine m_bv (m_cV (n := 2) (As := [.int x3, .int x4]) (rest := []) X hSt hP hS hl.1 (c_X1_reckon l G  eM3) k_c_yX1_reckon k_m_X7_168 k_i_yX1_reckon k_s_yX1_reckon k_n_X1 (by decide +kernel) (m_rc1 hSt hP m_z_45) rfl rfl ⟨Nat.le_of_ble_eq_true rfl, Nat.le_of_ble_eq_true rfl⟩ (Nat.le_of_ble_eq_true rfl) ⟨Nat.zero_le _, Nat.zero_le _⟩ dX7_askInAllWays_19) hS (fun H locs hP hS => ?_)
        refine lv_aload_n X.1 X.2.1 dX7_askInAllWays_22 rfl (lv_at hl 0 rfl) ?_
        refine m_g7 (v := .ref (m_ad G 170)) X hSt hP m_z_0 6 (by decide) rfl k_f_X7_47 dX7_askInAllWays_23 ?_
        refine lv_iload X.1 X.2.1 dX7_askInAllWays_26 (lv_at hl 4 rfl) ?_
        refine lv_aload_n X.1 X.2.1 dX7_askInAllWays_28 rfl (lv_at hl 0 rfl) ?_
        refine m_g7 (v := .ref (m_ad G 45)) X hSt hP m_z_0 3 (by decide) rfl k_f_X7_29 dX7_askInAllWays_29 ?_
        refine lv_iload_n X.1 X.2.1 dX7_askInAllWays_32 rfl (lv_at hl 1 rfl) ?_
        refine lv_iload_n X.1 X.2.1 dX7_askInAllWays_33 rfl (lv_at hl 2 rfl) ?_
        obtain ⟨r4, M5, err4, hres⟩ := m_o2_e hres
        refine m_bl (m_cV (n := 2) (As := [.int x1, .int x2]) (rest := [.int x4, .ref (m_ad G 170)]) X hSt hP hS hl.1 (c_X1_askAbove l G  err4) k_c_yX1_askAbove k_m_X7_205 k_i_yX1_askAbove k_s_yX1_askAbove k_n_X1 (by decide +kernel) (m_rc1 hSt hP m_z_45) rfl rfl ⟨Nat.le_of_ble_eq_true rfl, Nat.le_of_ble_eq_true rfl⟩ (Nat.le_of_ble_eq_true rfl) ⟨Nat.zero_le _, Nat.zero_le _⟩ dX7_askInAllWays_34) hS (fun H locs hP hS => ?_)
        obtain ⟨hg6, hres⟩ := m_gd_e hres
        obtain ⟨M7, eM7, hres⟩ := m_bd_e hres
        refine m_ls (j := x4.toNatClampNeg) X hSt hP hS m_z_170 hg6 rfl dX7_askInAllWays_37 eM7 (fun H locs hP hS => ?_)
        refine lv_aload_n X.1 X.2.1 dX7_askInAllWays_38 rfl (lv_at hl 0 rfl) ?_
        refine m_g7 (v := .ref (m_ad G 171)) X hSt hP m_z_0 7 (by decide) rfl k_f_X7_51 dX7_askInAllWays_39 ?_
        refine lv_iload X.1 X.2.1 dX7_askInAllWays_42 (lv_at hl 4 rfl) ?_
        refine lv_aload_n X.1 X.2.1 dX7_askInAllWays_44 rfl (lv_at hl 0 rfl) ?_
        refine m_g7 (v := .ref (m_ad G 45)) X hSt hP m_z_0 3 (by decide) rfl k_f_X7_29 dX7_askInAllWays_45 ?_
        refine lv_iload_n X.1 X.2.1 dX7_askInAllWays_48 rfl (lv_at hl 1 rfl) ?_
        refine lv_iload_n X.1 X.2.1 dX7_askInAllWays_49 rfl (lv_at hl 2 rfl) ?_
        obtain ⟨r8, err8, hres⟩ := m_ob_e hres
        refine m_bl (m_cV (n := 2) (As := [.int x1, .int x2]) (rest := [.int x4, .ref (m_ad G 171)]) X hSt hP hS hl.1 (c_X1_askBelow l G  err8) k_c_yX1_askBelow k_m_X7_209 k_i_yX1_askBelow k_s_yX1_askBelow k_n_X1 (by decide +kernel) (m_rc1 hSt hP m_z_45) rfl rfl ⟨Nat.le_of_ble_eq_true rfl, Nat.le_of_ble_eq_true rfl⟩ (Nat.le_of_ble_eq_true rfl) ⟨Nat.zero_le _, Nat.zero_le _⟩ dX7_askInAllWays_50) hS (fun H locs hP hS => ?_)
        obtain ⟨M9, eM9, hres⟩ := m_bd_e hres
        refine m_ls (j := x4.toNatClampNeg) X hSt hP hS m_z_171 hg6 rfl dX7_askInAllWays_53 eM9 (fun H locs hP hS => ?_)
        refine lv_iinc (v := (x4 + 1)) (lv' := [(4, .int (x4 + 1)), (0, .ref (m_ad G 0)), (1, .int x1), (2, .int x2), (3, .int x3)]) X.1 X.2.1 dX7_askInAllWays_54 hl (k := 4) rfl rfl (by decide) rfl (fun ls hl => ?_)
        refine lv_goto (tgt := 3) X.1 X.2.1 dX7_askInAllWays_57 (by decide) ?_
        exact ih (x4 + 1) M9 _ _ _ hP hS (lv_sub hl [1, 2, 3, 4, 0] rfl) hres
  unfold f_X7_askInAllWays at hres
  refine lv_iconst (v := 0) X.1 X.2.1 dX7_askInAllWays_0 (by decide) ?_
  refine lv_istore (lv' := [(4, .int 0), (0, .ref (m_ad G 0)), (1, .int x1), (2, .int x2), (3, .int x3)]) X.1 X.2.1 dX7_askInAllWays_1 hl (by decide) rfl (fun ls hl => ?_)
  exact B3 n 0 M _ _ _ hP hS (lv_sub hl [1, 2, 3, 4, 0] rfl) hres
theorem dJ13_compare_74951_0 : decode cJ13_compare_74951 0 = .ok (.lload_n 0, 1) := by decide +kernel
theorem dJ13_compare_74951_1 : decode cJ13_compare_74951 1 = .ok (.lload_n 2, 1) := by decide +kernel
theorem dJ13_compare_74951_2 : decode cJ13_compare_74951 2 = .ok (.lcmp, 1) := by decide +kernel
theorem dJ13_compare_74951_3 : decode cJ13_compare_74951 3 = .ok (.ifCond .ge 7, 3) := by decide +kernel
theorem dJ13_compare_74951_6 : decode cJ13_compare_74951 6 = .ok (.iconst (-1), 1) := by decide +kernel
theorem dJ13_compare_74951_7 : decode cJ13_compare_74951 7 = .ok (.goto 14, 3) := by decide +kernel
theorem dJ13_compare_74951_10 : decode cJ13_compare_74951 10 = .ok (.lload_n 0, 1) := by decide +kernel
theorem dJ13_compare_74951_11 : decode cJ13_compare_74951 11 = .ok (.lload_n 2, 1) := by decide +kernel
theorem dJ13_compare_74951_12 : decode cJ13_compare_74951 12 = .ok (.lcmp, 1) := by decide +kernel
theorem dJ13_compare_74951_13 : decode cJ13_compare_74951 13 = .ok (.ifCond .ne 7, 3) := by decide +kernel
theorem dJ13_compare_74951_16 : decode cJ13_compare_74951 16 = .ok (.iconst 0, 1) := by decide +kernel
theorem dJ13_compare_74951_17 : decode cJ13_compare_74951 17 = .ok (.goto 4, 3) := by decide +kernel
theorem dJ13_compare_74951_20 : decode cJ13_compare_74951 20 = .ok (.iconst 1, 1) := by decide +kernel
theorem dJ13_compare_74951_21 : decode cJ13_compare_74951 21 = .ok (.ireturn, 1) := by decide +kernel
def f_J13_compare_74951 (x0 : Int64) (x2 : Int64) : Int32 :=
  if x2 ≤ x0 then
  if x0 = x2 then
  0
  else
  1
  else
  (-1)
set_option maxHeartbeats 4000000 in
set_option maxRecDepth 100000 in
theorem c_J13_compare_74951 (l : Launch) (G : m_G) {x0 : Int64} {x2 : Int64} {M : m_M} {r0 : Int32}  (hres : f_J13_compare_74951 x0 x2 = r0) : Met l yJ13_compare_74951 (m_U yJ13_compare_74951 cJ13_compare_74951 4 (some .int)) (m_R 0 0) (m_Pc G [.long x0, .long x2] M) (m_Qi G r0 M) 0 0 (m_A G) := by
  refine m_i0 (n := 4) RJ13 rfl (by decide) (Nat.le_of_ble_eq_true rfl) ?_
  intro p e s m args below meth c X hr hlk hSt hP hS ls hl
  have hl : lv_has ls 4 [(0, .long x0), (2, .long x2)] := hl
  unfold f_J13_compare_74951 at hres
  refine lv_lload_n X.1 X.2.1 dJ13_compare_74951_0 rfl (lv_at hl 0 rfl) ?_
  refine lv_lload_n X.1 X.2.1 dJ13_compare_74951_1 rfl (lv_at hl 1 rfl) ?_
  refine m_lge (tgt := 10) X dJ13_compare_74951_2 dJ13_compare_74951_3 (by decide) (fun hc1 => ?_) (fun hc1 => ?_)
  · have hres := m_it hres hc1
    refine lv_lload_n X.1 X.2.1 dJ13_compare_74951_10 rfl (lv_at hl 0 rfl) ?_
    refine lv_lload_n X.1 X.2.1 dJ13_compare_74951_11 rfl (lv_at hl 1 rfl) ?_
    refine m_lne (tgt := 20) X dJ13_compare_74951_12 dJ13_compare_74951_13 (by decide) (fun hc2 => ?_) (fun hc2 => ?_)
    · have hres := m_if hres hc2
      refine lv_iconst (v := 1) X.1 X.2.1 dJ13_compare_74951_20 (by decide) ?_
      exact m_ri X hr hlk hP hS hres rfl dJ13_compare_74951_21
    · have hres := m_it hres hc2
      refine lv_iconst (v := 0) X.1 X.2.1 dJ13_compare_74951_16 (by decide) ?_
      refine lv_goto (tgt := 21) X.1 X.2.1 dJ13_compare_74951_17 (by decide) ?_
      exact m_ri X hr hlk hP hS hres rfl dJ13_compare_74951_21
  · have hres := m_if hres hc1
    refine lv_iconst (v := (-1)) X.1 X.2.1 dJ13_compare_74951_6 (by decide) ?_
    refine lv_goto (tgt := 21) X.1 X.2.1 dJ13_compare_74951_7 (by decide) ?_
    exact m_ri X hr hlk hP hS hres rfl dJ13_compare_74951_21
theorem dX7_compare_0 : decode cX7_compare 0 = .ok (.lload_n 0, 1) := by decide +kernel
theorem dX7_compare_1 : decode cX7_compare 1 = .ok (.lload 6, 2) := by decide +kernel
theorem dX7_compare_3 : decode cX7_compare 3 = .ok (.lmul, 1) := by decide +kernel
theorem dX7_compare_4 : decode cX7_compare 4 = .ok (.lload 4, 2) := by decide +kernel
theorem dX7_compare_6 : decode cX7_compare 6 = .ok (.lload_n 2, 1) := by decide +kernel
theorem dX7_compare_7 : decode cX7_compare 7 = .ok (.lmul, 1) := by decide +kernel
theorem dX7_compare_8 : decode cX7_compare 8 = .ok (.invokestatic 303, 3) := by decide +kernel
theorem dX7_compare_11 : decode cX7_compare 11 = .ok (.ireturn, 1) := by decide +kernel
def f_X7_compare (x0 : Int64) (x2 : Int64) (x4 : Int64) (x6 : Int64) : Int32 :=
  m_bd (f_J13_compare_74951 (x0 * x6) (x4 * x2)) fun r1 =>
  r1
set_option maxHeartbeats 4000000 in
set_option maxRecDepth 100000 in
theorem c_X7_compare (l : Launch) (G : m_G) {x0 : Int64} {x2 : Int64} {x4 : Int64} {x6 : Int64} {M : m_M} {r0 : Int32}  (hres : f_X7_compare x0 x2 x4 x6 = r0) : Met l yX7_compare (m_U yX7_compare cX7_compare 8 (some .int)) (m_R 1 23) (m_Pc G [.long x0, .long x2, .long x4, .long x6] M) (m_Qi G r0 M) 0 0 (m_A G) := by
  refine m_i0 (n := 8) RX7 rfl (by decide) (Nat.le_of_ble_eq_true rfl) ?_
  intro p e s m args below meth c X hr hlk hSt hP hS ls hl
  have hl : lv_has ls 8 [(0, .long x0), (2, .long x2), (4, .long x4), (6, .long x6)] := hl
  unfold f_X7_compare at hres
  refine lv_lload_n X.1 X.2.1 dX7_compare_0 rfl (lv_at hl 0 rfl) ?_
  refine lv_lload X.1 X.2.1 dX7_compare_1 (lv_at hl 3 rfl) ?_
  refine lv_lmul X.1 X.2.1 dX7_compare_3 ?_
  refine lv_lload X.1 X.2.1 dX7_compare_4 (lv_at hl 2 rfl) ?_
  refine lv_lload_n X.1 X.2.1 dX7_compare_6 rfl (lv_at hl 1 rfl) ?_
  refine lv_lmul X.1 X.2.1 dX7_compare_7 ?_
  obtain ⟨r1, err1, hres⟩ := m_bd_e hres
  refine m_bi (m_cS (n := 2) (As := [.long (x0 * x6), .long (x4 * x2)]) (rest := []) X hSt hP hS hl.1 (c_J13_compare_74951 l G (M := M)  err1) k_c_yJ13_compare_74951 k_m_X7_303 k_t_yJ13_compare_74951 k_n_J13 (by decide +kernel) rfl rfl ⟨Nat.le_of_ble_eq_true rfl, Nat.le_of_ble_eq_true rfl⟩ (Nat.le_of_ble_eq_true rfl) ⟨Nat.zero_le _, Nat.zero_le _⟩ dX7_compare_8) hS (fun H locs hP hS => ?_)
  exact m_ri X hr hlk hP hS hres rfl dX7_compare_11
