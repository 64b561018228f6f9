/-! WALKS 4: X7_best X3_lastDay X3_isWellToldB X3_isWellTold X1_refusesOfDeal X1_isInHand X1_refuses X3_add X7_bring X7_clear X7_compareWays X3_howMany X7_count X4_digestFrom X7_digestOfPersons -/
theorem dX7_best_0 : decode cX7_best 0 = .ok (.aload_n 0, 1) := by decide +kernel
theorem dX7_best_1 : decode cX7_best 1 = .ok (.iload_n 1, 1) := by decide +kernel
theorem dX7_best_2 : decode cX7_best 2 = .ok (.invokevirtual 184, 3) := by decide +kernel
theorem dX7_best_5 : decode cX7_best 5 = .ok (.ifCond .eq 10, 3) := by decide +kernel
theorem dX7_best_8 : decode cX7_best 8 = .ok (.iload_n 2, 1) := by decide +kernel
theorem dX7_best_9 : decode cX7_best 9 = .ok (.invokestatic 145, 3) := by decide +kernel
theorem dX7_best_12 : decode cX7_best 12 = .ok (.ifCond .ne 6, 3) := by decide +kernel
theorem dX7_best_15 : decode cX7_best 15 = .ok (.bipush (-10), 2) := by decide +kernel
theorem dX7_best_17 : decode cX7_best 17 = .ok (.ireturn, 1) := by decide +kernel
theorem dX7_best_18 : decode cX7_best 18 = .ok (.aload_n 0, 1) := by decide +kernel
theorem dX7_best_19 : decode cX7_best 19 = .ok (.getfield 29, 3) := by decide +kernel
theorem dX7_best_22 : decode cX7_best 22 = .ok (.iload_n 2, 1) := by decide +kernel
theorem dX7_best_23 : decode cX7_best 23 = .ok (.iconst 0, 1) := by decide +kernel
theorem dX7_best_24 : decode cX7_best 24 = .ok (.invokevirtual 168, 3) := by decide +kernel
theorem dX7_best_27 : decode cX7_best 27 = .ok (.aload_n 0, 1) := by decide +kernel
theorem dX7_best_28 : decode cX7_best 28 = .ok (.getfield 29, 3) := by decide +kernel
theorem dX7_best_31 : decode cX7_best 31 = .ok (.iload_n 1, 1) := by decide +kernel
theorem dX7_best_32 : decode cX7_best 32 = .ok (.invokevirtual 187, 3) := by decide +kernel
theorem dX7_best_35 : decode cX7_best 35 = .ok (.ifCond .ne 6, 3) := by decide +kernel
theorem dX7_best_38 : decode cX7_best 38 = .ok (.bipush (-20), 2) := by decide +kernel
theorem dX7_best_40 : decode cX7_best 40 = .ok (.ireturn, 1) := by decide +kernel
theorem dX7_best_41 : decode cX7_best 41 = .ok (.iconst (-1), 1) := by decide +kernel
theorem dX7_best_42 : decode cX7_best 42 = .ok (.istore_n 3, 1) := by decide +kernel
theorem dX7_best_43 : decode cX7_best 43 = .ok (.lconst 0, 1) := by decide +kernel
theorem dX7_best_44 : decode cX7_best 44 = .ok (.lstore 4, 2) := by decide +kernel
theorem dX7_best_46 : decode cX7_best 46 = .ok (.lconst 1, 1) := by decide +kernel
theorem dX7_best_47 : decode cX7_best 47 = .ok (.lstore 6, 2) := by decide +kernel
theorem dX7_best_49 : decode cX7_best 49 = .ok (.iconst 0, 1) := by decide +kernel
theorem dX7_best_50 : decode cX7_best 50 = .ok (.istore 8, 2) := by decide +kernel
theorem dX7_best_52 : decode cX7_best 52 = .ok (.iload 8, 2) := by decide +kernel
theorem dX7_best_54 : decode cX7_best 54 = .ok (.iconst 4, 1) := by decide +kernel
theorem dX7_best_55 : decode cX7_best 55 = .ok (.if_icmp .ge 58, 3) := by decide +kernel
theorem dX7_best_58 : decode cX7_best 58 = .ok (.aload_n 0, 1) := by decide +kernel
theorem dX7_best_59 : decode cX7_best 59 = .ok (.getfield 29, 3) := by decide +kernel
theorem dX7_best_62 : decode cX7_best 62 = .ok (.iload_n 1, 1) := by decide +kernel
theorem dX7_best_63 : decode cX7_best 63 = .ok (.iload 8, 2) := by decide +kernel
theorem dX7_best_65 : decode cX7_best 65 = .ok (.invokevirtual 205, 3) := by decide +kernel
theorem dX7_best_68 : decode cX7_best 68 = .ok (.lstore 9, 2) := by decide +kernel
theorem dX7_best_70 : decode cX7_best 70 = .ok (.aload_n 0, 1) := by decide +kernel
theorem dX7_best_71 : decode cX7_best 71 = .ok (.getfield 29, 3) := by decide +kernel
theorem dX7_best_74 : decode cX7_best 74 = .ok (.iload_n 1, 1) := by decide +kernel
theorem dX7_best_75 : decode cX7_best 75 = .ok (.iload 8, 2) := by decide +kernel
theorem dX7_best_77 : decode cX7_best 77 = .ok (.invokevirtual 209, 3) := by decide +kernel
theorem dX7_best_80 : decode cX7_best 80 = .ok (.lstore 11, 2) := by decide +kernel
theorem dX7_best_82 : decode cX7_best 82 = .ok (.lload 9, 2) := by decide +kernel
theorem dX7_best_84 : decode cX7_best 84 = .ok (.lload 11, 2) := by decide +kernel
theorem dX7_best_86 : decode cX7_best 86 = .ok (.lload 4, 2) := by decide +kernel
theorem dX7_best_88 : decode cX7_best 88 = .ok (.lload 6, 2) := by decide +kernel
theorem dX7_best_90 : decode cX7_best 90 = .ok (.invokestatic 216, 3) := by decide +kernel
theorem dX7_best_93 : decode cX7_best 93 = .ok (.ifCond .le 14, 3) := by decide +kernel
theorem dX7_best_96 : decode cX7_best 96 = .ok (.iload 8, 2) := by decide +kernel
theorem dX7_best_98 : decode cX7_best 98 = .ok (.istore_n 3, 1) := by decide +kernel
theorem dX7_best_99 : decode cX7_best 99 = .ok (.lload 9, 2) := by decide +kernel
theorem dX7_best_101 : decode cX7_best 101 = .ok (.lstore 4, 2) := by decide +kernel
theorem dX7_best_103 : decode cX7_best 103 = .ok (.lload 11, 2) := by decide +kernel
theorem dX7_best_105 : decode cX7_best 105 = .ok (.lstore 6, 2) := by decide +kernel
theorem dX7_best_107 : decode cX7_best 107 = .ok (.iinc 8 1, 3) := by decide +kernel
theorem dX7_best_110 : decode cX7_best 110 = .ok (.goto (-58), 3) := by decide +kernel
theorem dX7_best_113 : decode cX7_best 113 = .ok (.iload_n 3, 1) := by decide +kernel
theorem dX7_best_114 : decode cX7_best 114 = .ok (.ireturn, 1) := by decide +kernel
def f_X7_best_b52 (n : Nat) (x1 : Int32) (x2 : Int32) : Nat → Int32 → Int64 → Int64 → Int32 → m_M → Option (Int32 × m_M)
  | 0, _, _, _, _, _ => none
  | u + 1, x3, x4, x6, x8, M =>
    if (4 : Int32) ≤ x8 then
  some (x3, M)
  else
  m_o2 (f_X1_askAbove n x1 x8 M) fun r2 M3 =>
  m_ob (f_X1_askBelow n x1 x8 M3) fun r4 =>
  m_bd (f_X7_compare r2 r4 x4 x6) fun r5 =>
  if r5 ≤ 0 then
  f_X7_best_b52 n x1 x2 u x3 x4 x6 (x8 + 1) M3
  else
  f_X7_best_b52 n x1 x2 u x8 r2 r4 (x8 + 1) M3
def f_X7_best (n : Nat) (x1 : Int32) (x2 : Int32) (M : m_M) : Option (Int32 × m_M) :=
  m_bd (f_X7_isDeal x1 M) fun r7 =>
  if r7 = 0 then
  some ((-10), M)
  else
  m_bd (f_X7_isDay x2) fun r10 =>
  if r10 = 0 then
  some ((-10), M)
  else
  m_ob (f_X1_reckon n x2 0 M) fun M13 =>
  m_bd (f_X1_isThere x1 M13) fun r14 =>
  if r14 = 0 then
  some ((-20), M13)
  else
  f_X7_best_b52 n x1 x2 n (-1) 0 1 0 M13
set_option maxHeartbeats 4000000 in
set_option maxRecDepth 100000 in
theorem c_X7_best (l : Launch) (G : m_G) {n : Nat} {x1 : Int32} {x2 : Int32} {M : m_M} {r0 : Int32} {M0 : m_M}  (hres : f_X7_best n x1 x2 M = some (r0, M0)) : Met l yX7_best (m_U yX7_best cX7_best 13 (some .int)) (m_R 7 157) (m_Pc G [.ref (m_ad G 0), .int x1, .int x2] M) (m_Qi G r0 M0) 0 0 (m_A G) := by
  refine m_i0 (n := 13) RX7 rfl (by decide) (Nat.le_of_ble_eq_true rfl) ?_
  intro p e s m args below meth c X hr hlk hSt hP hS ls hl
  have hl : lv_has ls 13 [(0, .ref (m_ad G 0)), (1, .int x1), (2, .int x2)] := hl
  have B52 : ∀ (u : Nat) (x3 : Int32) (x4 : Int64) (x6 : Int64) (x8 : Int32) (M : m_M) (H : Heap) (locs : List Loc) (ls : Array Slot), m_P G M H → va_S (m_A G) s.heap H locs → lv_has ls 13 [(0, .ref (m_ad G 0)), (1, .int x1), (3, .int x3), (4, .long x4), (6, .long x6), (8, .int x8)] → f_X7_best_b52 n x1 x2 u x3 x4 x6 x8 M = some (r0, M0) → W p l e (m_R 7 157) s m args below meth c H locs 0 0 (MQ below (m_Qi G r0 M0) args s 0 0 (m_A G)) (F0 m 52 ls []) := by
    intro u
    induction u with
    | zero =>
      intro x3 x4 x6 x8 M H locs ls hP hS hl hres
      cases hres
    | succ u ih =>
      intro x3 x4 x6 x8 M H locs ls hP hS hl hres
      rw [f_X7_best_b52] at hres
      refine lv_iload X.1 X.2.1 dX7_best_52 (lv_at hl 5 rfl) ?_
      refine lv_iconst (v := 4) X.1 X.2.1 dX7_best_54 (by decide) ?_
      refine lv_icmp_ge (tgt := 113) X.1 X.2.1 dX7_best_55 (by decide) (fun hc1 => ?_) (fun hc1 => ?_)
      · have hres := m_it hres hc1
        refine lv_iload_n X.1 X.2.1 dX7_best_113 rfl (lv_at hl 2 rfl) ?_
        exact m_ri X hr hlk hP hS (Prod.mk.inj (Option.some.inj hres)).1 (Prod.mk.inj (Option.some.inj hres)).2 dX7_best_114
      · have hres := m_if hres hc1
        refine lv_aload_n X.1 X.2.1 dX7_best_58 rfl (lv_at hl 0 rfl) ?_
        refine m_g7 (v := .ref (m_ad G 45)) X hSt hP m_z_0 3 (by decide) rfl k_f_X7_29 dX7_best_59 ?_
        refine lv_iload_n X.1 X.2.1 dX7_best_62 rfl (lv_at hl 1 rfl) ?_
        refine lv_iload X.1 X.2.1 dX7_best_63 (lv_at hl 5 rfl) ?_
        obtain ⟨r2, M3, err2, hres⟩ := m_o2_e hres
        refine m_bl (m_cV (n := 2) (As := [.int x1, .int x8]) (rest := []) X hSt hP hS hl.1 (c_X1_askAbove l G  err2) k_c_yX1_askAbove k_m_X7_205 k_i_yX1_askAbove k_s_yX1_askAbove k_n_X1 (by decide +kernel) (m_rc1 hSt hP m_z_45) rfl rfl ⟨Nat.le_of_ble_eq_true rfl, Nat.le_of_ble_eq_true rfl⟩ (Nat.le_of_ble_eq_true rfl) ⟨Nat.zero_le _, Nat.zero_le _⟩ dX7_best_65) hS (fun H locs hP hS => ?_)
        refine lv_lstore (lv' := [(9, .long r2), (0, .ref (m_ad G 0)), (1, .int x1), (3, .int x3), (4, .long x4), (6, .long x6), (8, .int x8)]) X.1 X.2.1 dX7_best_68 hl (by decide) rfl (fun ls hl => ?_)
        refine lv_aload_n X.1 X.2.1 dX7_best_70 rfl (lv_at hl 1 rfl) ?_
        refine m_g7 (v := .ref (m_ad G 45)) X hSt hP m_z_0 3 (by decide) rfl k_f_X7_29 dX7_best_71 ?_
        refine lv_iload_n X.1 X.2.1 dX7_best_74 rfl (lv_at hl 2 rfl) ?_
        refine lv_iload X.1 X.2.1 dX7_best_75 (lv_at hl 6 rfl) ?_
        obtain ⟨r4, err4, hres⟩ := m_ob_e hres
        refine m_bl (m_cV (n := 2) (As := [.int x1, .int x8]) (rest := []) X hSt hP hS hl.1 (c_X1_askBelow l G  err4) k_c_yX1_askBelow k_m_X7_209 k_i_yX1_askBelow k_s_yX1_askBelow k_n_X1 (by decide +kernel) (m_rc1 hSt hP m_z_45) rfl rfl ⟨Nat.le_of_ble_eq_true rfl, Nat.le_of_ble_eq_true rfl⟩ (Nat.le_of_ble_eq_true rfl) ⟨Nat.zero_le _, Nat.zero_le _⟩ dX7_best_77) hS (fun H locs hP hS => ?_)
        refine lv_lstore (lv' := [(11, .long r4), (9, .long r2), (0, .ref (m_ad G 0)), (1, .int x1), (3, .int x3), (4, .long x4), (6, .long x6), (8, .int x8)]) X.1 X.2.1 dX7_best_80 hl (by decide) rfl (fun ls hl => ?_)
        refine lv_lload X.1 X.2.1 dX7_best_82 (lv_at hl 1 rfl) ?_
        refine lv_lload X.1 X.2.1 dX7_best_84 (lv_at hl 0 rfl) ?_
        refine lv_lload X.1 X.2.1 dX7_best_86 (lv_at hl 5 rfl) ?_
        refine lv_lload X.1 X.2.1 dX7_best_88 (lv_at hl 6 rfl) ?_
        obtain ⟨r5, err5, hres⟩ := m_bd_e hres
        refine m_bi (m_cS (n := 4) (As := [.long r2, .long r4, .long x4, .long x6]) (rest := []) X hSt hP hS hl.1 (c_X7_compare l G (M := M3)  err5) k_c_yX7_compare k_m_X7_216 k_t_yX7_compare k_n_X7 (by decide +kernel) rfl rfl ⟨Nat.le_of_ble_eq_true rfl, Nat.le_of_ble_eq_true rfl⟩ (Nat.le_of_ble_eq_true rfl) ⟨Nat.zero_le _, Nat.zero_le _⟩ dX7_best_90) hS (fun H locs hP hS => ?_)
        refine lv_if_le (tgt := 107) X.1 X.2.1 dX7_best_93 (by decide) (fun hc6 => ?_) (fun hc6 => ?_)
        · have hres := m_it hres hc6
          refine lv_iinc (v := (x8 + 1)) (lv' := [(8, .int (x8 + 1)), (11, .long r4), (9, .long r2), (0, .ref (m_ad G 0)), (1, .int x1), (3, .int x3), (4, .long x4), (6, .long x6)]) X.1 X.2.1 dX7_best_107 hl (k := 7) rfl rfl (by decide) rfl (fun ls hl => ?_)
          refine lv_goto (tgt := 52) X.1 X.2.1 dX7_best_110 (by decide) ?_
          exact ih x3 x4 x6 (x8 + 1) M3 _ _ _ hP hS (lv_sub hl [3, 4, 5, 6, 7, 0] rfl) hres
        · have hres := m_if hres hc6
          refine lv_iload X.1 X.2.1 dX7_best_96 (lv_at hl 7 rfl) ?_
          refine lv_istore_n (lv' := [(3, .int x8), (11, .long r4), (9, .long r2), (0, .ref (m_ad G 0)), (1, .int x1), (4, .long x4), (6, .long x6), (8, .int x8)]) X.1 X.2.1 dX7_best_98 rfl hl (by decide) rfl (fun ls hl => ?_)
          refine lv_lload X.1 X.2.1 dX7_best_99 (lv_at hl 2 rfl) ?_
          refine lv_lstore (lv' := [(4, .long r2), (3, .int x8), (11, .long r4), (9, .long r2), (0, .ref (m_ad G 0)), (1, .int x1), (6, .long x6), (8, .int x8)]) X.1 X.2.1 dX7_best_101 hl (by decide) rfl (fun ls hl => ?_)
          refine lv_lload X.1 X.2.1 dX7_best_103 (lv_at hl 2 rfl) ?_
          refine lv_lstore (lv' := [(6, .long r4), (4, .long r2), (3, .int x8), (11, .long r4), (9, .long r2), (0, .ref (m_ad G 0)), (1, .int x1), (8, .int x8)]) X.1 X.2.1 dX7_best_105 hl (by decide) rfl (fun ls hl => ?_)
          refine lv_iinc (v := (x8 + 1)) (lv' := [(8, .int (x8 + 1)), (6, .long r4), (4, .long r2), (3, .int x8), (11, .long r4), (9, .long r2), (0, .ref (m_ad G 0)), (1, .int x1)]) X.1 X.2.1 dX7_best_107 hl (k := 7) rfl rfl (by decide) rfl (fun ls hl => ?_)
          refine lv_goto (tgt := 52) X.1 X.2.1 dX7_best_110 (by decide) ?_
          exact ih x8 r2 r4 (x8 + 1) M3 _ _ _ hP hS (lv_sub hl [6, 7, 3, 2, 1, 0] rfl) hres
  unfold f_X7_best at hres
  refine lv_aload_n X.1 X.2.1 dX7_best_0 rfl (lv_at hl 0 rfl) ?_
  refine lv_iload_n X.1 X.2.1 dX7_best_1 rfl (lv_at hl 1 rfl) ?_
  obtain ⟨r7, err7, hres⟩ := m_bd_e hres
  refine m_bz (m_cV (n := 1) (As := [.int x1]) (rest := []) X hSt hP hS hl.1 (c_X7_isDeal l G  err7) k_c_yX7_isDeal k_m_X7_184 k_i_yX7_isDeal k_s_yX7_isDeal k_n_X7 (by decide +kernel) (m_rc7 hSt hP m_z_0) rfl rfl ⟨Nat.le_of_ble_eq_true rfl, Nat.le_of_ble_eq_true rfl⟩ (Nat.le_of_ble_eq_true rfl) ⟨Nat.zero_le _, Nat.zero_le _⟩ dX7_best_2) hS (fun H locs hP hS hz8 => ?_)
  refine lv_if_eq (tgt := 15) X.1 X.2.1 dX7_best_5 (by decide) (fun hc9 => ?_) (fun hc9 => ?_)
  · have hres := m_it hres hc9
    refine lv_bipush (v := (-10)) X.1 X.2.1 dX7_best_15 (by decide) ?_
    exact m_ri X hr hlk hP hS (Prod.mk.inj (Option.some.inj hres)).1 (Prod.mk.inj (Option.some.inj hres)).2 dX7_best_17
  · have hres := m_if hres hc9
    refine lv_iload_n X.1 X.2.1 dX7_best_8 rfl (lv_at hl 2 rfl) ?_
    obtain ⟨r10, err10, hres⟩ := m_bd_e hres
    refine m_bz (m_cS (n := 1) (As := [.int x2]) (rest := []) X hSt hP hS hl.1 (c_X7_isDay l G (M := M)  err10) k_c_yX7_isDay k_m_X7_145 k_t_yX7_isDay k_n_X7 (by decide +kernel) rfl rfl ⟨Nat.le_of_ble_eq_true rfl, Nat.le_of_ble_eq_true rfl⟩ (Nat.le_of_ble_eq_true rfl) ⟨Nat.zero_le _, Nat.zero_le _⟩ dX7_best_9) hS (fun H locs hP hS hz11 => ?_)
    refine lv_if_ne (tgt := 18) X.1 X.2.1 dX7_best_12 (by decide) (fun hc12 => ?_) (fun hc12 => ?_)
    · have hres := m_if hres hc12
      refine lv_aload_n X.1 X.2.1 dX7_best_18 rfl (lv_at hl 0 rfl) ?_
      refine m_g7 (v := .ref (m_ad G 45)) X hSt hP m_z_0 3 (by decide) rfl k_f_X7_29 dX7_best_19 ?_
      refine lv_iload_n X.1 X.2.1 dX7_best_22 rfl (lv_at hl 2 rfl) ?_
      refine lv_iconst (v := 0) X.1 X.2.1 dX7_best_23 (by decide) ?_
      obtain ⟨M13, eM13, hres⟩ := m_ob_e hres
      refine m_bv (m_cV (n := 2) (As := [.int x2, .int 0]) (rest := []) X hSt hP hS hl.1 (c_X1_reckon l G  eM13) k_c_yX1_reckon k_m_X7_168 k_i_yX1_reckon k_s_yX1_reckon k_n_X1 (by decide +kernel) (m_rc1 hSt hP m_z_45) rfl rfl ⟨Nat.le_of_ble_eq_true rfl, Nat.le_of_ble_eq_true rfl⟩ (Nat.le_of_ble_eq_true rfl) ⟨Nat.zero_le _, Nat.zero_le _⟩ dX7_best_24) hS (fun H locs hP hS => ?_)
      refine lv_aload_n X.1 X.2.1 dX7_best_27 rfl (lv_at hl 0 rfl) ?_
      refine m_g7 (v := .ref (m_ad G 45)) X hSt hP m_z_0 3 (by decide) rfl k_f_X7_29 dX7_best_28 ?_
      refine lv_iload_n X.1 X.2.1 dX7_best_31 rfl (lv_at hl 1 rfl) ?_
      obtain ⟨r14, err14, hres⟩ := m_bd_e hres
      refine m_bz (m_cV (n := 1) (As := [.int x1]) (rest := []) X hSt hP hS hl.1 (c_X1_isThere l G  err14) k_c_yX1_isThere k_m_X7_187 k_i_yX1_isThere k_s_yX1_isThere k_n_X1 (by decide +kernel) (m_rc1 hSt hP m_z_45) rfl rfl ⟨Nat.le_of_ble_eq_true rfl, Nat.le_of_ble_eq_true rfl⟩ (Nat.le_of_ble_eq_true rfl) ⟨Nat.zero_le _, Nat.zero_le _⟩ dX7_best_32) hS (fun H locs hP hS hz15 => ?_)
      refine lv_if_ne (tgt := 41) X.1 X.2.1 dX7_best_35 (by decide) (fun hc16 => ?_) (fun hc16 => ?_)
      · have hres := m_if hres hc16
        refine lv_iconst (v := (-1)) X.1 X.2.1 dX7_best_41 (by decide) ?_
        refine lv_istore_n (lv' := [(3, .int (-1)), (0, .ref (m_ad G 0)), (1, .int x1), (2, .int x2)]) X.1 X.2.1 dX7_best_42 rfl hl (by decide) rfl (fun ls hl => ?_)
        refine lv_lconst (v := 0) X.1 X.2.1 dX7_best_43 (by decide) ?_
        refine lv_lstore (lv' := [(4, .long 0), (3, .int (-1)), (0, .ref (m_ad G 0)), (1, .int x1), (2, .int x2)]) X.1 X.2.1 dX7_best_44 hl (by decide) rfl (fun ls hl => ?_)
        refine lv_lconst (v := 1) X.1 X.2.1 dX7_best_46 (by decide) ?_
        refine lv_lstore (lv' := [(6, .long 1), (4, .long 0), (3, .int (-1)), (0, .ref (m_ad G 0)), (1, .int x1), (2, .int x2)]) X.1 X.2.1 dX7_best_47 hl (by decide) rfl (fun ls hl => ?_)
        refine lv_iconst (v := 0) X.1 X.2.1 dX7_best_49 (by decide) ?_
        refine lv_istore (lv' := [(8, .int 0), (6, .long 1), (4, .long 0), (3, .int (-1)), (0, .ref (m_ad G 0)), (1, .int x1), (2, .int x2)]) X.1 X.2.1 dX7_best_50 hl (by decide) rfl (fun ls hl => ?_)
        exact B52 n (-1) 0 1 0 M13 _ _ _ hP hS (lv_sub hl [4, 5, 3, 2, 1, 0] rfl) hres
      · have hres := m_it hres hc16
        refine lv_bipush (v := (-20)) X.1 X.2.1 dX7_best_38 (by decide) ?_
        exact m_ri X hr hlk hP hS (Prod.mk.inj (Option.some.inj hres)).1 (Prod.mk.inj (Option.some.inj hres)).2 dX7_best_40
    · have hres := m_it hres hc12
      refine lv_bipush (v := (-10)) X.1 X.2.1 dX7_best_15 (by decide) ?_
      exact m_ri X hr hlk hP hS (Prod.mk.inj (Option.some.inj hres)).1 (Prod.mk.inj (Option.some.inj hres)).2 dX7_best_17
theorem dX3_lastDay_0 : decode cX3_lastDay 0 = .ok (.aload_n 0, 1) := by decide +kernel
theorem dX3_lastDay_1 : decode cX3_lastDay 1 = .ok (.getfield 29, 3) := by decide +kernel
theorem dX3_lastDay_4 : decode cX3_lastDay 4 = .ok (.ifCond .ne 7, 3) := by decide +kernel
theorem dX3_lastDay_7 : decode cX3_lastDay 7 = .ok (.iconst 0, 1) := by decide +kernel
theorem dX3_lastDay_8 : decode cX3_lastDay 8 = .ok (.goto 19, 3) := by decide +kernel
theorem dX3_lastDay_11 : decode cX3_lastDay 11 = .ok (.aload_n 0, 1) := by decide +kernel
theorem dX3_lastDay_12 : decode cX3_lastDay 12 = .ok (.getfield 9, 3) := by decide +kernel
theorem dX3_lastDay_15 : decode cX3_lastDay 15 = .ok (.bipush 6, 2) := by decide +kernel
theorem dX3_lastDay_17 : decode cX3_lastDay 17 = .ok (.aload_n 0, 1) := by decide +kernel
theorem dX3_lastDay_18 : decode cX3_lastDay 18 = .ok (.getfield 29, 3) := by decide +kernel
theorem dX3_lastDay_21 : decode cX3_lastDay 21 = .ok (.iconst 1, 1) := by decide +kernel
theorem dX3_lastDay_22 : decode cX3_lastDay 22 = .ok (.isub, 1) := by decide +kernel
theorem dX3_lastDay_23 : decode cX3_lastDay 23 = .ok (.imul, 1) := by decide +kernel
theorem dX3_lastDay_24 : decode cX3_lastDay 24 = .ok (.iconst 0, 1) := by decide +kernel
theorem dX3_lastDay_25 : decode cX3_lastDay 25 = .ok (.iadd, 1) := by decide +kernel
theorem dX3_lastDay_26 : decode cX3_lastDay 26 = .ok (.iaload, 1) := by decide +kernel
theorem dX3_lastDay_27 : decode cX3_lastDay 27 = .ok (.ireturn, 1) := by decide +kernel
def f_X3_lastDay (k0 : Nat) (M : m_M) : Option Int32 :=
  if (M.1 k0 1) = 0 then
  some 0
  else
  m_gd (m_in (((6 : Int32) * ((M.1 k0 1) - (1 : Int32))) + (0 : Int32)) 360) (
  some (M.1 (k0 + 1) ((((6 : Int32) * ((M.1 k0 1) - (1 : Int32))) + (0 : Int32)).toNatClampNeg)))
set_option maxHeartbeats 4000000 in
set_option maxRecDepth 100000 in
theorem c_X3_lastDay (l : Launch) (G : m_G) {k0 : Nat} {M : m_M} {r0 : Int32} (hk0 : m_isKept k0) (hres : f_X3_lastDay k0 M = some r0) : Met l yX3_lastDay (m_U yX3_lastDay cX3_lastDay 1 (some .int)) (m_R 0 0) (m_Pc G [.ref (m_ad G k0)] M) (m_Qi G r0 M) 0 0 (m_A G) := by
  refine m_i0 (n := 1) RX3 rfl (by decide) (Nat.le_of_ble_eq_true rfl) ?_
  intro p e s m args below meth c X hr hlk hSt hP hS ls hl
  have hl : lv_has ls 1 [(0, .ref (m_ad G k0))] := hl
  unfold f_X3_lastDay at hres
  refine lv_aload_n X.1 X.2.1 dX3_lastDay_0 rfl (lv_at hl 0 rfl) ?_
  refine m_g3 (v := .int (M.1 k0 1)) X hSt hP hk0.1 1 (by decide) rfl k_f_X3_29 dX3_lastDay_1 ?_
  refine lv_if_ne (tgt := 11) X.1 X.2.1 dX3_lastDay_4 (by decide) (fun hc1 => ?_) (fun hc1 => ?_)
  · have hres := m_if hres hc1
    refine lv_aload_n X.1 X.2.1 dX3_lastDay_11 rfl (lv_at hl 0 rfl) ?_
    refine m_g3 (v := .ref (m_ad G (k0 + 1))) X hSt hP hk0.1 5 (by decide) rfl k_f_X3_9 dX3_lastDay_12 ?_
    refine lv_bipush (v := 6) X.1 X.2.1 dX3_lastDay_15 (by decide) ?_
    refine lv_aload_n X.1 X.2.1 dX3_lastDay_17 rfl (lv_at hl 0 rfl) ?_
    refine m_g3 (v := .int (M.1 k0 1)) X hSt hP hk0.1 1 (by decide) rfl k_f_X3_29 dX3_lastDay_18 ?_
    refine lv_iconst (v := 1) X.1 X.2.1 dX3_lastDay_21 (by decide) ?_
    refine lv_isub X.1 X.2.1 dX3_lastDay_22 ?_
    refine lv_imul X.1 X.2.1 dX3_lastDay_23 ?_
    refine lv_iconst (v := 0) X.1 X.2.1 dX3_lastDay_24 (by decide) ?_
    refine lv_iadd X.1 X.2.1 dX3_lastDay_25 ?_
    obtain ⟨hg2, hres⟩ := m_gd_e hres
    refine m_ia (j := ((((6 : Int32) * ((M.1 k0 1) - (1 : Int32))) + (0 : Int32)).toNatClampNeg)) X hSt hP hk0.2.1 hg2 rfl dX3_lastDay_26 ?_
    exact m_ri X hr hlk hP hS (Option.some.inj hres) rfl dX3_lastDay_27
  · have hres := m_it hres hc1
    refine lv_iconst (v := 0) X.1 X.2.1 dX3_lastDay_7 (by decide) ?_
    refine lv_goto (tgt := 27) X.1 X.2.1 dX3_lastDay_8 (by decide) ?_
    exact m_ri X hr hlk hP hS (Option.some.inj hres) rfl dX3_lastDay_27
theorem dX3_isWellToldB_0 : decode cX3_isWellToldB 0 = .ok (.iload_n 1, 1) := by decide +kernel
theorem dX3_isWellToldB_1 : decode cX3_isWellToldB 1 = .ok (.lookupswitch 115 #[(104, 43), (111, 77), (116, 62), (119, 100)], 43) := by decide +kernel
theorem dX3_isWellToldB_44 : decode cX3_isWellToldB 44 = .ok (.iload_n 3, 1) := by decide +kernel
theorem dX3_isWellToldB_45 : decode cX3_isWellToldB 45 = .ok (.iconst (-1), 1) := by decide +kernel
theorem dX3_isWellToldB_46 : decode cX3_isWellToldB 46 = .ok (.if_icmp .lt 15, 3) := by decide +kernel
theorem dX3_isWellToldB_49 : decode cX3_isWellToldB 49 = .ok (.iload_n 3, 1) := by decide +kernel
theorem dX3_isWellToldB_50 : decode cX3_isWellToldB 50 = .ok (.aload_n 0, 1) := by decide +kernel
theorem dX3_isWellToldB_51 : decode cX3_isWellToldB 51 = .ok (.getfield 25, 3) := by decide +kernel
theorem dX3_isWellToldB_54 : decode cX3_isWellToldB 54 = .ok (.if_icmp .ge 7, 3) := by decide +kernel
theorem dX3_isWellToldB_57 : decode cX3_isWellToldB 57 = .ok (.iconst 1, 1) := by decide +kernel
theorem dX3_isWellToldB_58 : decode cX3_isWellToldB 58 = .ok (.goto 4, 3) := by decide +kernel
theorem dX3_isWellToldB_61 : decode cX3_isWellToldB 61 = .ok (.iconst 0, 1) := by decide +kernel
theorem dX3_isWellToldB_62 : decode cX3_isWellToldB 62 = .ok (.ireturn, 1) := by decide +kernel
theorem dX3_isWellToldB_63 : decode cX3_isWellToldB 63 = .ok (.iload_n 3, 1) := by decide +kernel
theorem dX3_isWellToldB_64 : decode cX3_isWellToldB 64 = .ok (.ifCond .lt 12, 3) := by decide +kernel
theorem dX3_isWellToldB_67 : decode cX3_isWellToldB 67 = .ok (.iload_n 3, 1) := by decide +kernel
theorem dX3_isWellToldB_68 : decode cX3_isWellToldB 68 = .ok (.iconst 4, 1) := by decide +kernel
theorem dX3_isWellToldB_69 : decode cX3_isWellToldB 69 = .ok (.if_icmp .ge 7, 3) := by decide +kernel
theorem dX3_isWellToldB_72 : decode cX3_isWellToldB 72 = .ok (.iconst 1, 1) := by decide +kernel
theorem dX3_isWellToldB_73 : decode cX3_isWellToldB 73 = .ok (.goto 4, 3) := by decide +kernel
theorem dX3_isWellToldB_76 : decode cX3_isWellToldB 76 = .ok (.iconst 0, 1) := by decide +kernel
theorem dX3_isWellToldB_77 : decode cX3_isWellToldB 77 = .ok (.ireturn, 1) := by decide +kernel
theorem dX3_isWellToldB_78 : decode cX3_isWellToldB 78 = .ok (.iload_n 3, 1) := by decide +kernel
theorem dX3_isWellToldB_79 : decode cX3_isWellToldB 79 = .ok (.ifCond .lt 20, 3) := by decide +kernel
theorem dX3_isWellToldB_82 : decode cX3_isWellToldB 82 = .ok (.iload_n 3, 1) := by decide +kernel
theorem dX3_isWellToldB_83 : decode cX3_isWellToldB 83 = .ok (.aload_n 0, 1) := by decide +kernel
theorem dX3_isWellToldB_84 : decode cX3_isWellToldB 84 = .ok (.getfield 25, 3) := by decide +kernel
theorem dX3_isWellToldB_87 : decode cX3_isWellToldB 87 = .ok (.if_icmp .ge 12, 3) := by decide +kernel
theorem dX3_isWellToldB_90 : decode cX3_isWellToldB 90 = .ok (.iload_n 3, 1) := by decide +kernel
theorem dX3_isWellToldB_91 : decode cX3_isWellToldB 91 = .ok (.iload_n 2, 1) := by decide +kernel
theorem dX3_isWellToldB_92 : decode cX3_isWellToldB 92 = .ok (.if_icmp .eq 7, 3) := by decide +kernel
theorem dX3_isWellToldB_95 : decode cX3_isWellToldB 95 = .ok (.iconst 1, 1) := by decide +kernel
theorem dX3_isWellToldB_96 : decode cX3_isWellToldB 96 = .ok (.goto 4, 3) := by decide +kernel
theorem dX3_isWellToldB_99 : decode cX3_isWellToldB 99 = .ok (.iconst 0, 1) := by decide +kernel
theorem dX3_isWellToldB_100 : decode cX3_isWellToldB 100 = .ok (.ireturn, 1) := by decide +kernel
theorem dX3_isWellToldB_101 : decode cX3_isWellToldB 101 = .ok (.iload_n 3, 1) := by decide +kernel
theorem dX3_isWellToldB_102 : decode cX3_isWellToldB 102 = .ok (.ifCond .lt 12, 3) := by decide +kernel
theorem dX3_isWellToldB_105 : decode cX3_isWellToldB 105 = .ok (.iload_n 3, 1) := by decide +kernel
theorem dX3_isWellToldB_106 : decode cX3_isWellToldB 106 = .ok (.iconst 2, 1) := by decide +kernel
theorem dX3_isWellToldB_107 : decode cX3_isWellToldB 107 = .ok (.if_icmp .gt 7, 3) := by decide +kernel
theorem dX3_isWellToldB_110 : decode cX3_isWellToldB 110 = .ok (.iconst 1, 1) := by decide +kernel
theorem dX3_isWellToldB_111 : decode cX3_isWellToldB 111 = .ok (.goto 4, 3) := by decide +kernel
theorem dX3_isWellToldB_114 : decode cX3_isWellToldB 114 = .ok (.iconst 0, 1) := by decide +kernel
theorem dX3_isWellToldB_115 : decode cX3_isWellToldB 115 = .ok (.ireturn, 1) := by decide +kernel
theorem dX3_isWellToldB_116 : decode cX3_isWellToldB 116 = .ok (.iconst 1, 1) := by decide +kernel
theorem dX3_isWellToldB_117 : decode cX3_isWellToldB 117 = .ok (.ireturn, 1) := by decide +kernel
def f_X3_isWellToldB (k0 : Nat) (x1 : Int32) (x2 : Int32) (x3 : Int32) (M : m_M) : Int32 :=
  if x1 = 104 then
  if x3 < (-1) then
  0
  else
  if (M.1 k0 0) ≤ x3 then
  0
  else
  1
  else
  if x1 = 111 then
  if x3 < 0 then
  0
  else
  if (M.1 k0 0) ≤ x3 then
  0
  else
  if x3 = x2 then
  0
  else
  1
  else
  if x1 = 116 then
  if x3 < 0 then
  0
  else
  if (4 : Int32) ≤ x3 then
  0
  else
  1
  else
  if x1 = 119 then
  if x3 < 0 then
  0
  else
  if (2 : Int32) < x3 then
  0
  else
  1
  else
  1
set_option maxHeartbeats 4000000 in
set_option maxRecDepth 100000 in
theorem c_X3_isWellToldB (l : Launch) (G : m_G) {k0 : Nat} {x1 : Int32} {x2 : Int32} {x3 : Int32} {M : m_M} {r0 : Int32} (hk0 : m_isKept k0) (hres : f_X3_isWellToldB k0 x1 x2 x3 M = r0) : Met l yX3_isWellToldB (m_U yX3_isWellToldB cX3_isWellToldB 4 (some .boolean)) (m_R 0 0) (m_Pc G [.ref (m_ad G k0), .int x1, .int x2, .int x3] M) (m_Qz G r0 M) 0 0 (m_A G) := by
  refine m_i0 (n := 4) RX3 rfl (by decide) (Nat.le_of_ble_eq_true rfl) ?_
  intro p e s m args below meth c X hr hlk hSt hP hS ls hl
  have hl : lv_has ls 4 [(0, .ref (m_ad G k0)), (1, .int x1), (2, .int x2), (3, .int x3)] := hl
  unfold f_X3_isWellToldB at hres
  refine lv_iload_n X.1 X.2.1 dX3_isWellToldB_0 rfl (lv_at hl 1 rfl) ?_
  by_cases hc1 : x1 = 104
  · have hres := m_it hres hc1
    refine m_lin (tgt := 44) (off := 43) X dX3_isWellToldB_1 ⟨_, hc1, by decide⟩ (by decide) (by decide) ?_
    refine lv_iload_n X.1 X.2.1 dX3_isWellToldB_44 rfl (lv_at hl 3 rfl) ?_
    refine lv_iconst (v := (-1)) X.1 X.2.1 dX3_isWellToldB_45 (by decide) ?_
    refine lv_icmp_lt (tgt := 61) X.1 X.2.1 dX3_isWellToldB_46 (by decide) (fun hc2 => ?_) (fun hc2 => ?_)
    · have hres := m_it hres hc2
      refine lv_iconst (v := 0) X.1 X.2.1 dX3_isWellToldB_61 (by decide) ?_
      exact m_rz X hr hlk hP hS hres rfl (by decide) dX3_isWellToldB_62
    · have hres := m_if hres hc2
      refine lv_iload_n X.1 X.2.1 dX3_isWellToldB_49 rfl (lv_at hl 3 rfl) ?_
      refine lv_aload_n X.1 X.2.1 dX3_isWellToldB_50 rfl (lv_at hl 0 rfl) ?_
      refine m_g3 (v := .int (M.1 k0 0)) X hSt hP hk0.1 0 (by decide) rfl k_f_X3_25 dX3_isWellToldB_51 ?_
      refine lv_icmp_ge (tgt := 61) X.1 X.2.1 dX3_isWellToldB_54 (by decide) (fun hc3 => ?_) (fun hc3 => ?_)
      · have hres := m_it hres hc3
        refine lv_iconst (v := 0) X.1 X.2.1 dX3_isWellToldB_61 (by decide) ?_
        exact m_rz X hr hlk hP hS hres rfl (by decide) dX3_isWellToldB_62
      · have hres := m_if hres hc3
        refine lv_iconst (v := 1) X.1 X.2.1 dX3_isWellToldB_57 (by decide) ?_
        refine lv_goto (tgt := 62) X.1 X.2.1 dX3_isWellToldB_58 (by decide) ?_
        exact m_rz X hr hlk hP hS hres rfl (by decide) dX3_isWellToldB_62
  · have hres := m_if hres hc1
    by_cases hc4 : x1 = 111
    · have hres := m_it hres hc4
      refine m_lin (tgt := 78) (off := 77) X dX3_isWellToldB_1 ⟨_, hc4, by decide⟩ (by decide) (by decide) ?_
      refine lv_iload_n X.1 X.2.1 dX3_isWellToldB_78 rfl (lv_at hl 3 rfl) ?_
      refine lv_if_lt (tgt := 99) X.1 X.2.1 dX3_isWellToldB_79 (by decide) (fun hc5 => ?_) (fun hc5 => ?_)
      · have hres := m_it hres hc5
        refine lv_iconst (v := 0) X.1 X.2.1 dX3_isWellToldB_99 (by decide) ?_
        exact m_rz X hr hlk hP hS hres rfl (by decide) dX3_isWellToldB_100
      · have hres := m_if hres hc5
        refine lv_iload_n X.1 X.2.1 dX3_isWellToldB_82 rfl (lv_at hl 3 rfl) ?_
        refine lv_aload_n X.1 X.2.1 dX3_isWellToldB_83 rfl (lv_at hl 0 rfl) ?_
        refine m_g3 (v := .int (M.1 k0 0)) X hSt hP hk0.1 0 (by decide) rfl k_f_X3_25 dX3_isWellToldB_84 ?_
        refine lv_icmp_ge (tgt := 99) X.1 X.2.1 dX3_isWellToldB_87 (by decide) (fun hc6 => ?_) (fun hc6 => ?_)
        · have hres := m_it hres hc6
          refine lv_iconst (v := 0) X.1 X.2.1 dX3_isWellToldB_99 (by decide) ?_
          exact m_rz X hr hlk hP hS hres rfl (by decide) dX3_isWellToldB_100
        · have hres := m_if hres hc6
          refine lv_iload_n X.1 X.2.1 dX3_isWellToldB_90 rfl (lv_at hl 3 rfl) ?_
          refine lv_iload_n X.1 X.2.1 dX3_isWellToldB_91 rfl (lv_at hl 2 rfl) ?_
          refine lv_icmp_eq (tgt := 99) X.1 X.2.1 dX3_isWellToldB_92 (by decide) (fun hc7 => ?_) (fun hc7 => ?_)
          · have hres := m_it hres hc7
            refine lv_iconst (v := 0) X.1 X.2.1 dX3_isWellToldB_99 (by decide) ?_
            exact m_rz X hr hlk hP hS hres rfl (by decide) dX3_isWellToldB_100
          · have hres := m_if hres hc7
            refine lv_iconst (v := 1) X.1 X.2.1 dX3_isWellToldB_95 (by decide) ?_
            refine lv_goto (tgt := 100) X.1 X.2.1 dX3_isWellToldB_96 (by decide) ?_
            exact m_rz X hr hlk hP hS hres rfl (by decide) dX3_isWellToldB_100
    · have hres := m_if hres hc4
      by_cases hc8 : x1 = 116
      · have hres := m_it hres hc8
        refine m_lin (tgt := 63) (off := 62) X dX3_isWellToldB_1 ⟨_, hc8, by decide⟩ (by decide) (by decide) ?_
        refine lv_iload_n X.1 X.2.1 dX3_isWellToldB_63 rfl (lv_at hl 3 rfl) ?_
        refine lv_if_lt (tgt := 76) X.1 X.2.1 dX3_isWellToldB_64 (by decide) (fun hc9 => ?_) (fun hc9 => ?_)
        · have hres := m_it hres hc9
          refine lv_iconst (v := 0) X.1 X.2.1 dX3_isWellToldB_76 (by decide) ?_
          exact m_rz X hr hlk hP hS hres rfl (by decide) dX3_isWellToldB_77
        · have hres := m_if hres hc9
          refine lv_iload_n X.1 X.2.1 dX3_isWellToldB_67 rfl (lv_at hl 3 rfl) ?_
          refine lv_iconst (v := 4) X.1 X.2.1 dX3_isWellToldB_68 (by decide) ?_
          refine lv_icmp_ge (tgt := 76) X.1 X.2.1 dX3_isWellToldB_69 (by decide) (fun hc10 => ?_) (fun hc10 => ?_)
          · have hres := m_it hres hc10
            refine lv_iconst (v := 0) X.1 X.2.1 dX3_isWellToldB_76 (by decide) ?_
            exact m_rz X hr hlk hP hS hres rfl (by decide) dX3_isWellToldB_77
          · have hres := m_if hres hc10
            refine lv_iconst (v := 1) X.1 X.2.1 dX3_isWellToldB_72 (by decide) ?_
            refine lv_goto (tgt := 77) X.1 X.2.1 dX3_isWellToldB_73 (by decide) ?_
            exact m_rz X hr hlk hP hS hres rfl (by decide) dX3_isWellToldB_77
      · have hres := m_if hres hc8
        by_cases hc11 : x1 = 119
        · have hres := m_it hres hc11
          refine m_lin (tgt := 101) (off := 100) X dX3_isWellToldB_1 ⟨_, hc11, by decide⟩ (by decide) (by decide) ?_
          refine lv_iload_n X.1 X.2.1 dX3_isWellToldB_101 rfl (lv_at hl 3 rfl) ?_
          refine lv_if_lt (tgt := 114) X.1 X.2.1 dX3_isWellToldB_102 (by decide) (fun hc12 => ?_) (fun hc12 => ?_)
          · have hres := m_it hres hc12
            refine lv_iconst (v := 0) X.1 X.2.1 dX3_isWellToldB_114 (by decide) ?_
            exact m_rz X hr hlk hP hS hres rfl (by decide) dX3_isWellToldB_115
          · have hres := m_if hres hc12
            refine lv_iload_n X.1 X.2.1 dX3_isWellToldB_105 rfl (lv_at hl 3 rfl) ?_
            refine lv_iconst (v := 2) X.1 X.2.1 dX3_isWellToldB_106 (by decide) ?_
            refine lv_icmp_gt (tgt := 114) X.1 X.2.1 dX3_isWellToldB_107 (by decide) (fun hc13 => ?_) (fun hc13 => ?_)
            · have hres := m_it hres hc13
              refine lv_iconst (v := 0) X.1 X.2.1 dX3_isWellToldB_114 (by decide) ?_
              exact m_rz X hr hlk hP hS hres rfl (by decide) dX3_isWellToldB_115
            · have hres := m_if hres hc13
              refine lv_iconst (v := 1) X.1 X.2.1 dX3_isWellToldB_110 (by decide) ?_
              refine lv_goto (tgt := 115) X.1 X.2.1 dX3_isWellToldB_111 (by decide) ?_
              exact m_rz X hr hlk hP hS hres rfl (by decide) dX3_isWellToldB_115
        · have hres := m_if hres hc11
          refine lv_lookup (tgt := 116) X.1 X.2.1 dX3_isWellToldB_1 (by decide) (m_lkd (List.forall_mem_cons.mpr ⟨(m_ne (z := 104) hc1 (by decide)).symm, List.forall_mem_cons.mpr ⟨(m_ne (z := 111) hc4 (by decide)).symm, List.forall_mem_cons.mpr ⟨(m_ne (z := 116) hc8 (by decide)).symm, List.forall_mem_cons.mpr ⟨(m_ne (z := 119) hc11 (by decide)).symm, List.forall_mem_nil _⟩⟩⟩⟩)) (by decide) ?_
          refine lv_iconst (v := 1) X.1 X.2.1 dX3_isWellToldB_116 (by decide) ?_
          exact m_rz X hr hlk hP hS hres rfl (by decide) dX3_isWellToldB_117
theorem dX3_isWellTold_0 : decode cX3_isWellTold 0 = .ok (.iload_n 1, 1) := by decide +kernel
theorem dX3_isWellTold_1 : decode cX3_isWellTold 1 = .ok (.invokestatic 51, 3) := by decide +kernel
theorem dX3_isWellTold_4 : decode cX3_isWellTold 4 = .ok (.ifCond .eq 21, 3) := by decide +kernel
theorem dX3_isWellTold_7 : decode cX3_isWellTold 7 = .ok (.iload_n 1, 1) := by decide +kernel
theorem dX3_isWellTold_8 : decode cX3_isWellTold 8 = .ok (.aload_n 0, 1) := by decide +kernel
theorem dX3_isWellTold_9 : decode cX3_isWellTold 9 = .ok (.invokevirtual 55, 3) := by decide +kernel
theorem dX3_isWellTold_12 : decode cX3_isWellTold 12 = .ok (.if_icmp .lt 13, 3) := by decide +kernel
theorem dX3_isWellTold_15 : decode cX3_isWellTold 15 = .ok (.iload_n 2, 1) := by decide +kernel
theorem dX3_isWellTold_16 : decode cX3_isWellTold 16 = .ok (.ifCond .lt 9, 3) := by decide +kernel
theorem dX3_isWellTold_19 : decode cX3_isWellTold 19 = .ok (.iload_n 2, 1) := by decide +kernel
theorem dX3_isWellTold_20 : decode cX3_isWellTold 20 = .ok (.bipush 15, 2) := by decide +kernel
theorem dX3_isWellTold_22 : decode cX3_isWellTold 22 = .ok (.if_icmp .lt 5, 3) := by decide +kernel
theorem dX3_isWellTold_25 : decode cX3_isWellTold 25 = .ok (.iconst 0, 1) := by decide +kernel
theorem dX3_isWellTold_26 : decode cX3_isWellTold 26 = .ok (.ireturn, 1) := by decide +kernel
theorem dX3_isWellTold_27 : decode cX3_isWellTold 27 = .ok (.iload_n 3, 1) := by decide +kernel
theorem dX3_isWellTold_28 : decode cX3_isWellTold 28 = .ok (.ifCond .lt 29, 3) := by decide +kernel
theorem dX3_isWellTold_31 : decode cX3_isWellTold 31 = .ok (.iload_n 3, 1) := by decide +kernel
theorem dX3_isWellTold_32 : decode cX3_isWellTold 32 = .ok (.ldc 59, 2) := by decide +kernel
theorem dX3_isWellTold_34 : decode cX3_isWellTold 34 = .ok (.iload_n 2, 1) := by decide +kernel
theorem dX3_isWellTold_35 : decode cX3_isWellTold 35 = .ok (.invokevirtual 61, 3) := by decide +kernel
theorem dX3_isWellTold_38 : decode cX3_isWellTold 38 = .ok (.bipush 100, 2) := by decide +kernel
theorem dX3_isWellTold_40 : decode cX3_isWellTold 40 = .ok (.if_icmp .ne 10, 3) := by decide +kernel
theorem dX3_isWellTold_43 : decode cX3_isWellTold 43 = .ok (.aload_n 0, 1) := by decide +kernel
theorem dX3_isWellTold_44 : decode cX3_isWellTold 44 = .ok (.getfield 32, 3) := by decide +kernel
theorem dX3_isWellTold_47 : decode cX3_isWellTold 47 = .ok (.goto 7, 3) := by decide +kernel
theorem dX3_isWellTold_50 : decode cX3_isWellTold 50 = .ok (.aload_n 0, 1) := by decide +kernel
theorem dX3_isWellTold_51 : decode cX3_isWellTold 51 = .ok (.getfield 25, 3) := by decide +kernel
theorem dX3_isWellTold_54 : decode cX3_isWellTold 54 = .ok (.if_icmp .lt 5, 3) := by decide +kernel
theorem dX3_isWellTold_57 : decode cX3_isWellTold 57 = .ok (.iconst 0, 1) := by decide +kernel
theorem dX3_isWellTold_58 : decode cX3_isWellTold 58 = .ok (.ireturn, 1) := by decide +kernel
theorem dX3_isWellTold_59 : decode cX3_isWellTold 59 = .ok (.aload_n 0, 1) := by decide +kernel
theorem dX3_isWellTold_60 : decode cX3_isWellTold 60 = .ok (.ldc 67, 2) := by decide +kernel
theorem dX3_isWellTold_62 : decode cX3_isWellTold 62 = .ok (.iload_n 2, 1) := by decide +kernel
theorem dX3_isWellTold_63 : decode cX3_isWellTold 63 = .ok (.invokevirtual 61, 3) := by decide +kernel
theorem dX3_isWellTold_66 : decode cX3_isWellTold 66 = .ok (.iload_n 3, 1) := by decide +kernel
theorem dX3_isWellTold_67 : decode cX3_isWellTold 67 = .ok (.iload 4, 2) := by decide +kernel
theorem dX3_isWellTold_69 : decode cX3_isWellTold 69 = .ok (.invokevirtual 69, 3) := by decide +kernel
theorem dX3_isWellTold_72 : decode cX3_isWellTold 72 = .ok (.ifCond .eq 32, 3) := by decide +kernel
theorem dX3_isWellTold_75 : decode cX3_isWellTold 75 = .ok (.ldc 73, 2) := by decide +kernel
theorem dX3_isWellTold_77 : decode cX3_isWellTold 77 = .ok (.iload_n 2, 1) := by decide +kernel
theorem dX3_isWellTold_78 : decode cX3_isWellTold 78 = .ok (.invokevirtual 61, 3) := by decide +kernel
theorem dX3_isWellTold_81 : decode cX3_isWellTold 81 = .ok (.bipush 45, 2) := by decide +kernel
theorem dX3_isWellTold_83 : decode cX3_isWellTold 83 = .ok (.if_icmp .eq 17, 3) := by decide +kernel
theorem dX3_isWellTold_86 : decode cX3_isWellTold 86 = .ok (.iload 5, 2) := by decide +kernel
theorem dX3_isWellTold_88 : decode cX3_isWellTold 88 = .ok (.iconst 1, 1) := by decide +kernel
theorem dX3_isWellTold_89 : decode cX3_isWellTold 89 = .ok (.if_icmp .lt 15, 3) := by decide +kernel
theorem dX3_isWellTold_92 : decode cX3_isWellTold 92 = .ok (.iload 5, 2) := by decide +kernel
theorem dX3_isWellTold_94 : decode cX3_isWellTold 94 = .ok (.sipush 1000, 3) := by decide +kernel
theorem dX3_isWellTold_97 : decode cX3_isWellTold 97 = .ok (.if_icmp .gt 7, 3) := by decide +kernel
theorem dX3_isWellTold_100 : decode cX3_isWellTold 100 = .ok (.iconst 1, 1) := by decide +kernel
theorem dX3_isWellTold_101 : decode cX3_isWellTold 101 = .ok (.goto 4, 3) := by decide +kernel
theorem dX3_isWellTold_104 : decode cX3_isWellTold 104 = .ok (.iconst 0, 1) := by decide +kernel
theorem dX3_isWellTold_105 : decode cX3_isWellTold 105 = .ok (.ireturn, 1) := by decide +kernel
def f_X3_isWellTold_b54 (k0 : Nat) (x1 : Int32) (x2 : Int32) (x3 : Int32) (x4 : Int32) (x5 : Int32) (M : m_M) (s0 : Int32) (s1 : Int32) : Option Int32 :=
  if s0 < s1 then
  m_ob (f_J0_charAt_5068e 1 x2) fun r2 =>
  m_bd (f_X3_isWellToldB k0 r2 x3 x4 M) fun r4 =>
  if r4 = 0 then
  some 0
  else
  m_ob (f_J0_charAt_5068e 2 x2) fun r7 =>
  if r7 = 45 then
  some 1
  else
  if x5 < 1 then
  some 0
  else
  if (1000 : Int32) < x5 then
  some 0
  else
  some 1
  else
  some 0
def f_X3_isWellTold (k0 : Nat) (x1 : Int32) (x2 : Int32) (x3 : Int32) (x4 : Int32) (x5 : Int32) (M : m_M) : Option Int32 :=
  m_bd (f_X7_isDay x1) fun r12 =>
  if r12 = 0 then
  some 0
  else
  m_ob (f_X3_lastDay k0 M) fun r15 =>
  if x1 < r15 then
  some 0
  else
  if x2 < 0 then
  some 0
  else
  if x2 < 15 then
  if x3 < 0 then
  some 0
  else
  m_ob (f_J0_charAt_5068e 0 x2) fun r20 =>
  if r20 = 100 then
  f_X3_isWellTold_b54 k0 x1 x2 x3 x4 x5 M x3 (M.1 k0 2)
  else
  f_X3_isWellTold_b54 k0 x1 x2 x3 x4 x5 M x3 (M.1 k0 0)
  else
  some 0
set_option maxHeartbeats 4000000 in
set_option maxRecDepth 100000 in
theorem c_X3_isWellTold (l : Launch) (G : m_G) {k0 : Nat} {x1 : Int32} {x2 : Int32} {x3 : Int32} {x4 : Int32} {x5 : Int32} {M : m_M} {r0 : Int32} (hk0 : m_isKept k0) (hres : f_X3_isWellTold k0 x1 x2 x3 x4 x5 M = some r0) : Met l yX3_isWellTold (m_U yX3_isWellTold cX3_isWellTold 6 (some .boolean)) (m_R 4 85) (m_Pc G [.ref (m_ad G k0), .int x1, .int x2, .int x3, .int x4, .int x5] M) (m_Qz G r0 M) 0 0 (m_A G) := by
  refine m_i0 (n := 6) RX3 rfl (by decide) (Nat.le_of_ble_eq_true rfl) ?_
  intro p e s m args below meth c X hr hlk hSt hP hS ls hl
  have hl : lv_has ls 6 [(0, .ref (m_ad G k0)), (1, .int x1), (2, .int x2), (3, .int x3), (4, .int x4), (5, .int x5)] := hl
  have B54 : ∀  (s0 : Int32) (s1 : Int32) (H : Heap) (locs : List Loc) (ls : Array Slot), m_P G M H → va_S (m_A G) s.heap H locs → lv_has ls 6 [(0, .ref (m_ad G k0)), (2, .int x2), (3, .int x3), (4, .int x4), (5, .int x5)] → f_X3_isWellTold_b54 k0 x1 x2 x3 x4 x5 M s0 s1 = some r0 → W p l e (m_R 4 85) s m args below meth c H locs 0 0 (MQ below (m_Qz G r0 M) args s 0 0 (m_A G)) (F0 m 54 ls [.int s1, .int s0]) := by
    intro s0 s1 H locs ls hP hS hl hres
    unfold f_X3_isWellTold_b54 at hres
    refine lv_icmp_lt (tgt := 59) X.1 X.2.1 dX3_isWellTold_54 (by decide) (fun hc1 => ?_) (fun hc1 => ?_)
    · have hres := m_it hres hc1
      refine lv_aload_n X.1 X.2.1 dX3_isWellTold_59 rfl (lv_at hl 0 rfl) ?_
      refine m_ld1 X hSt dX3_isWellTold_60 ?_
      refine lv_iload_n X.1 X.2.1 dX3_isWellTold_62 rfl (lv_at hl 1 rfl) ?_
      obtain ⟨r2, err2, hres⟩ := m_ob_e hres
      refine m_bn (m_cV (n := 1) (As := [.int x2]) (rest := [.ref (m_ad G k0)]) X hSt hP hS hl.1 (c_J0_charAt_5068e l G (M := M) (by decide) err2) k_c_yJ0_charAt_5068e k_m_X3_61 k_i_yJ0_charAt_5068e k_s_yJ0_charAt_5068e k_n_J0 (by decide +kernel) (m_rcS hSt hS (by decide)) rfl rfl ⟨Nat.le_of_ble_eq_true rfl, Nat.le_of_ble_eq_true rfl⟩ (Nat.le_of_ble_eq_true rfl) ⟨Nat.zero_le _, Nat.zero_le _⟩ dX3_isWellTold_63) hS (fun H locs hP hS hz3 => ?_)
      refine lv_iload_n X.1 X.2.1 dX3_isWellTold_66 rfl (lv_at hl 2 rfl) ?_
      refine lv_iload X.1 X.2.1 dX3_isWellTold_67 (lv_at hl 3 rfl) ?_
      obtain ⟨r4, err4, hres⟩ := m_bd_e hres
      refine m_bz (m_cV (n := 3) (As := [.int r2, .int x3, .int x4]) (rest := []) X hSt hP hS hl.1 (c_X3_isWellToldB l G hk0 err4) k_c_yX3_isWellToldB k_m_X3_69 k_i_yX3_isWellToldB k_s_yX3_isWellToldB k_n_X3 (by decide +kernel) (m_rc3 hSt hP hk0.1) rfl rfl ⟨Nat.le_of_ble_eq_true rfl, Nat.le_of_ble_eq_true rfl⟩ (Nat.le_of_ble_eq_true rfl) ⟨Nat.zero_le _, Nat.zero_le _⟩ dX3_isWellTold_69) hS (fun H locs hP hS hz5 => ?_)
      refine lv_if_eq (tgt := 104) X.1 X.2.1 dX3_isWellTold_72 (by decide) (fun hc6 => ?_) (fun hc6 => ?_)
      · have hres := m_it hres hc6
        refine lv_iconst (v := 0) X.1 X.2.1 dX3_isWellTold_104 (by decide) ?_
        exact m_rz X hr hlk hP hS (Option.some.inj hres) rfl (by decide) dX3_isWellTold_105
      · have hres := m_if hres hc6
        refine m_ld2 X hSt dX3_isWellTold_75 ?_
        refine lv_iload_n X.1 X.2.1 dX3_isWellTold_77 rfl (lv_at hl 1 rfl) ?_
        obtain ⟨r7, err7, hres⟩ := m_ob_e hres
        refine m_bn (m_cV (n := 1) (As := [.int x2]) (rest := []) X hSt hP hS hl.1 (c_J0_charAt_5068e l G (M := M) (by decide) err7) k_c_yJ0_charAt_5068e k_m_X3_61 k_i_yJ0_charAt_5068e k_s_yJ0_charAt_5068e k_n_J0 (by decide +kernel) (m_rcS hSt hS (by decide)) rfl rfl ⟨Nat.le_of_ble_eq_true rfl, Nat.le_of_ble_eq_true rfl⟩ (Nat.le_of_ble_eq_true rfl) ⟨Nat.zero_le _, Nat.zero_le _⟩ dX3_isWellTold_78) hS (fun H locs hP hS hz8 => ?_)
        refine lv_bipush (v := 45) X.1 X.2.1 dX3_isWellTold_81 (by decide) ?_
        refine lv_icmp_eq (tgt := 100) X.1 X.2.1 dX3_isWellTold_83 (by decide) (fun hc9 => ?_) (fun hc9 => ?_)
        · have hres := m_it hres hc9
          refine lv_iconst (v := 1) X.1 X.2.1 dX3_isWellTold_100 (by decide) ?_
          refine lv_goto (tgt := 105) X.1 X.2.1 dX3_isWellTold_101 (by decide) ?_
          exact m_rz X hr hlk hP hS (Option.some.inj hres) rfl (by decide) dX3_isWellTold_105
        · have hres := m_if hres hc9
          refine lv_iload X.1 X.2.1 dX3_isWellTold_86 (lv_at hl 4 rfl) ?_
          refine lv_iconst (v := 1) X.1 X.2.1 dX3_isWellTold_88 (by decide) ?_
          refine lv_icmp_lt (tgt := 104) X.1 X.2.1 dX3_isWellTold_89 (by decide) (fun hc10 => ?_) (fun hc10 => ?_)
          · have hres := m_it hres hc10
            refine lv_iconst (v := 0) X.1 X.2.1 dX3_isWellTold_104 (by decide) ?_
            exact m_rz X hr hlk hP hS (Option.some.inj hres) rfl (by decide) dX3_isWellTold_105
          · have hres := m_if hres hc10
            refine lv_iload X.1 X.2.1 dX3_isWellTold_92 (lv_at hl 4 rfl) ?_
            refine lv_sipush (v := 1000) X.1 X.2.1 dX3_isWellTold_94 (by decide) ?_
            refine lv_icmp_gt (tgt := 104) X.1 X.2.1 dX3_isWellTold_97 (by decide) (fun hc11 => ?_) (fun hc11 => ?_)
            · have hres := m_it hres hc11
              refine lv_iconst (v := 0) X.1 X.2.1 dX3_isWellTold_104 (by decide) ?_
              exact m_rz X hr hlk hP hS (Option.some.inj hres) rfl (by decide) dX3_isWellTold_105
            · have hres := m_if hres hc11
              refine lv_iconst (v := 1) X.1 X.2.1 dX3_isWellTold_100 (by decide) ?_
              refine lv_goto (tgt := 105) X.1 X.2.1 dX3_isWellTold_101 (by decide) ?_
              exact m_rz X hr hlk hP hS (Option.some.inj hres) rfl (by decide) dX3_isWellTold_105
    · have hres := m_if hres hc1
      refine lv_iconst (v := 0) X.1 X.2.1 dX3_isWellTold_57 (by decide) ?_
      exact m_rz X hr hlk hP hS (Option.some.inj hres) rfl (by decide) dX3_isWellTold_58
  unfold f_X3_isWellTold at hres
  refine lv_iload_n X.1 X.2.1 dX3_isWellTold_0 rfl (lv_at hl 1 rfl) ?_
  obtain ⟨r12, err12, hres⟩ := m_bd_e hres
  refine m_bz (m_cN (n := 1) (As := [.int x1]) (rest := []) X hSt hP hS hl.1 (c_X7_isDay l G (M := M)  err12) k_c_yX7_isDay hSt.2.2.2.1.2.2.2.2.2.2 k_t_yX7_isDay k_n_X7 (by decide +kernel) rfl rfl ⟨Nat.le_of_ble_eq_true rfl, Nat.le_of_ble_eq_true rfl⟩ (Nat.le_of_ble_eq_true rfl) ⟨Nat.zero_le _, Nat.zero_le _⟩ dX3_isWellTold_1) hS (fun H locs hP hS hz13 => ?_)
  refine lv_if_eq (tgt := 25) X.1 X.2.1 dX3_isWellTold_4 (by decide) (fun hc14 => ?_) (fun hc14 => ?_)
  · have hres := m_it hres hc14
    refine lv_iconst (v := 0) X.1 X.2.1 dX3_isWellTold_25 (by decide) ?_
    exact m_rz X hr hlk hP hS (Option.some.inj hres) rfl (by decide) dX3_isWellTold_26
  · have hres := m_if hres hc14
    refine lv_iload_n X.1 X.2.1 dX3_isWellTold_7 rfl (lv_at hl 1 rfl) ?_
    refine lv_aload_n X.1 X.2.1 dX3_isWellTold_8 rfl (lv_at hl 0 rfl) ?_
    obtain ⟨r15, err15, hres⟩ := m_ob_e hres
    refine m_bi (m_cV (n := 0) (As := []) (rest := [.int x1]) X hSt hP hS hl.1 (c_X3_lastDay l G hk0 err15) k_c_yX3_lastDay k_m_X3_55 k_i_yX3_lastDay k_s_yX3_lastDay k_n_X3 (by decide +kernel) (m_rc3 hSt hP hk0.1) rfl rfl ⟨Nat.le_of_ble_eq_true rfl, Nat.le_of_ble_eq_true rfl⟩ (Nat.le_of_ble_eq_true rfl) ⟨Nat.zero_le _, Nat.zero_le _⟩ dX3_isWellTold_9) hS (fun H locs hP hS => ?_)
    refine lv_icmp_lt (tgt := 25) X.1 X.2.1 dX3_isWellTold_12 (by decide) (fun hc16 => ?_) (fun hc16 => ?_)
    · have hres := m_it hres hc16
      refine lv_iconst (v := 0) X.1 X.2.1 dX3_isWellTold_25 (by decide) ?_
      exact m_rz X hr hlk hP hS (Option.some.inj hres) rfl (by decide) dX3_isWellTold_26
    · have hres := m_if hres hc16
      refine lv_iload_n X.1 X.2.1 dX3_isWellTold_15 rfl (lv_at hl 2 rfl) ?_
      refine lv_if_lt (tgt := 25) X.1 X.2.1 dX3_isWellTold_16 (by decide) (fun hc17 => ?_) (fun hc17 => ?_)
      · have hres := m_it hres hc17
        refine lv_iconst (v := 0) X.1 X.2.1 dX3_isWellTold_25 (by decide) ?_
        exact m_rz X hr hlk hP hS (Option.some.inj hres) rfl (by decide) dX3_isWellTold_26
      · have hres := m_if hres hc17
        refine lv_iload_n X.1 X.2.1 dX3_isWellTold_19 rfl (lv_at hl 2 rfl) ?_
        refine lv_bipush (v := 15) X.1 X.2.1 dX3_isWellTold_20 (by decide) ?_
        refine lv_icmp_lt (tgt := 27) X.1 X.2.1 dX3_isWellTold_22 (by decide) (fun hc18 => ?_) (fun hc18 => ?_)
        · have hres := m_it hres hc18
          refine lv_iload_n X.1 X.2.1 dX3_isWellTold_27 rfl (lv_at hl 3 rfl) ?_
          refine lv_if_lt (tgt := 57) X.1 X.2.1 dX3_isWellTold_28 (by decide) (fun hc19 => ?_) (fun hc19 => ?_)
          · have hres := m_it hres hc19
            refine lv_iconst (v := 0) X.1 X.2.1 dX3_isWellTold_57 (by decide) ?_
            exact m_rz X hr hlk hP hS (Option.some.inj hres) rfl (by decide) dX3_isWellTold_58
          · have hres := m_if hres hc19
            refine lv_iload_n X.1 X.2.1 dX3_isWellTold_31 rfl (lv_at hl 3 rfl) ?_
            refine m_ld0 X hSt dX3_isWellTold_32 ?_
            refine lv_iload_n X.1 X.2.1 dX3_isWellTold_34 rfl (lv_at hl 2 rfl) ?_
            obtain ⟨r20, err20, hres⟩ := m_ob_e hres
            refine m_bn (m_cV (n := 1) (As := [.int x2]) (rest := [.int x3]) X hSt hP hS hl.1 (c_J0_charAt_5068e l G (M := M) (by decide) err20) k_c_yJ0_charAt_5068e k_m_X3_61 k_i_yJ0_charAt_5068e k_s_yJ0_charAt_5068e k_n_J0 (by decide +kernel) (m_rcS hSt hS (by decide)) rfl rfl ⟨Nat.le_of_ble_eq_true rfl, Nat.le_of_ble_eq_true rfl⟩ (Nat.le_of_ble_eq_true rfl) ⟨Nat.zero_le _, Nat.zero_le _⟩ dX3_isWellTold_35) hS (fun H locs hP hS hz21 => ?_)
            refine lv_bipush (v := 100) X.1 X.2.1 dX3_isWellTold_38 (by decide) ?_
            refine lv_icmp_ne (tgt := 50) X.1 X.2.1 dX3_isWellTold_40 (by decide) (fun hc22 => ?_) (fun hc22 => ?_)
            · have hres := m_if hres hc22
              refine lv_aload_n X.1 X.2.1 dX3_isWellTold_50 rfl (lv_at hl 0 rfl) ?_
              refine m_g3 (v := .int (M.1 k0 0)) X hSt hP hk0.1 0 (by decide) rfl k_f_X3_25 dX3_isWellTold_51 ?_
              exact B54 x3 (M.1 k0 0) _ _ _ hP hS (lv_sub hl [0, 2, 3, 4, 5] rfl) hres
            · have hres := m_it hres hc22
              refine lv_aload_n X.1 X.2.1 dX3_isWellTold_43 rfl (lv_at hl 0 rfl) ?_
              refine m_g3 (v := .int (M.1 k0 2)) X hSt hP hk0.1 2 (by decide) rfl k_f_X3_32 dX3_isWellTold_44 ?_
              refine lv_goto (tgt := 54) X.1 X.2.1 dX3_isWellTold_47 (by decide) ?_
              exact B54 x3 (M.1 k0 2) _ _ _ hP hS (lv_sub hl [0, 2, 3, 4, 5] rfl) hres
        · have hres := m_if hres hc18
          refine lv_iconst (v := 0) X.1 X.2.1 dX3_isWellTold_25 (by decide) ?_
          exact m_rz X hr hlk hP hS (Option.some.inj hres) rfl (by decide) dX3_isWellTold_26
theorem dX1_refusesOfDeal_0 : decode cX1_refusesOfDeal 0 = .ok (.iload_n 0, 1) := by decide +kernel
theorem dX1_refusesOfDeal_1 : decode cX1_refusesOfDeal 1 = .ok (.lookupswitch 73 #[(5, 35), (9, 40), (10, 59)], 35) := by decide +kernel
theorem dX1_refusesOfDeal_36 : decode cX1_refusesOfDeal 36 = .ok (.aload_n 1, 1) := by decide +kernel
theorem dX1_refusesOfDeal_37 : decode cX1_refusesOfDeal 37 = .ok (.getfield 90, 3) := by decide +kernel
theorem dX1_refusesOfDeal_40 : decode cX1_refusesOfDeal 40 = .ok (.ireturn, 1) := by decide +kernel
theorem dX1_refusesOfDeal_41 : decode cX1_refusesOfDeal 41 = .ok (.aload_n 1, 1) := by decide +kernel
theorem dX1_refusesOfDeal_42 : decode cX1_refusesOfDeal 42 = .ok (.getfield 94, 3) := by decide +kernel
theorem dX1_refusesOfDeal_45 : decode cX1_refusesOfDeal 45 = .ok (.iload_n 2, 1) := by decide +kernel
theorem dX1_refusesOfDeal_46 : decode cX1_refusesOfDeal 46 = .ok (.iadd, 1) := by decide +kernel
theorem dX1_refusesOfDeal_47 : decode cX1_refusesOfDeal 47 = .ok (.aload_n 1, 1) := by decide +kernel
theorem dX1_refusesOfDeal_48 : decode cX1_refusesOfDeal 48 = .ok (.getfield 140, 3) := by decide +kernel
theorem dX1_refusesOfDeal_51 : decode cX1_refusesOfDeal 51 = .ok (.if_icmp .le 7, 3) := by decide +kernel
theorem dX1_refusesOfDeal_54 : decode cX1_refusesOfDeal 54 = .ok (.iconst 1, 1) := by decide +kernel
theorem dX1_refusesOfDeal_55 : decode cX1_refusesOfDeal 55 = .ok (.goto 4, 3) := by decide +kernel
theorem dX1_refusesOfDeal_58 : decode cX1_refusesOfDeal 58 = .ok (.iconst 0, 1) := by decide +kernel
theorem dX1_refusesOfDeal_59 : decode cX1_refusesOfDeal 59 = .ok (.ireturn, 1) := by decide +kernel
theorem dX1_refusesOfDeal_60 : decode cX1_refusesOfDeal 60 = .ok (.aload_n 1, 1) := by decide +kernel
theorem dX1_refusesOfDeal_61 : decode cX1_refusesOfDeal 61 = .ok (.invokevirtual 143, 3) := by decide +kernel
theorem dX1_refusesOfDeal_64 : decode cX1_refusesOfDeal 64 = .ok (.iload_n 2, 1) := by decide +kernel
theorem dX1_refusesOfDeal_65 : decode cX1_refusesOfDeal 65 = .ok (.if_icmp .ge 7, 3) := by decide +kernel
theorem dX1_refusesOfDeal_68 : decode cX1_refusesOfDeal 68 = .ok (.iconst 1, 1) := by decide +kernel
theorem dX1_refusesOfDeal_69 : decode cX1_refusesOfDeal 69 = .ok (.goto 4, 3) := by decide +kernel
theorem dX1_refusesOfDeal_72 : decode cX1_refusesOfDeal 72 = .ok (.iconst 0, 1) := by decide +kernel
theorem dX1_refusesOfDeal_73 : decode cX1_refusesOfDeal 73 = .ok (.ireturn, 1) := by decide +kernel
theorem dX1_refusesOfDeal_74 : decode cX1_refusesOfDeal 74 = .ok (.aload_n 1, 1) := by decide +kernel
theorem dX1_refusesOfDeal_75 : decode cX1_refusesOfDeal 75 = .ok (.invokevirtual 147, 3) := by decide +kernel
theorem dX1_refusesOfDeal_78 : decode cX1_refusesOfDeal 78 = .ok (.iload_n 2, 1) := by decide +kernel
theorem dX1_refusesOfDeal_79 : decode cX1_refusesOfDeal 79 = .ok (.if_icmp .ge 7, 3) := by decide +kernel
theorem dX1_refusesOfDeal_82 : decode cX1_refusesOfDeal 82 = .ok (.iconst 1, 1) := by decide +kernel
theorem dX1_refusesOfDeal_83 : decode cX1_refusesOfDeal 83 = .ok (.goto 4, 3) := by decide +kernel
theorem dX1_refusesOfDeal_86 : decode cX1_refusesOfDeal 86 = .ok (.iconst 0, 1) := by decide +kernel
theorem dX1_refusesOfDeal_87 : decode cX1_refusesOfDeal 87 = .ok (.ireturn, 1) := by decide +kernel
def f_X1_refusesOfDeal (x0 : Int32) (k1 : Nat) (x2 : Int32) (M : m_M) : Option Int32 :=
  if x0 = 5 then
  m_gd (m_B (M.1 k1 7)) (some (M.1 k1 7))
  else
  if x0 = 9 then
  if ((M.1 k1 4) + x2) ≤ (M.1 k1 2) then
  some 0
  else
  some 1
  else
  if x0 = 10 then
  m_bd (f_X0_there k1 M) fun r6 =>
  if x2 ≤ r6 then
  some 0
  else
  some 1
  else
  m_bd (f_X0_left k1 M) fun r8 =>
  if x2 ≤ r8 then
  some 0
  else
  some 1
set_option maxHeartbeats 4000000 in
set_option maxRecDepth 100000 in
theorem c_X1_refusesOfDeal (l : Launch) (G : m_G) {x0 : Int32} {k1 : Nat} {x2 : Int32} {M : m_M} {r0 : Int32} (hk1 : m_isDeal k1) (hres : f_X1_refusesOfDeal x0 k1 x2 M = some r0) : Met l yX1_refusesOfDeal (m_U yX1_refusesOfDeal cX1_refusesOfDeal 3 (some .boolean)) (m_R 2 50) (m_Pc G [.int x0, .ref (m_ad G k1), .int x2] M) (m_Qz G r0 M) 0 0 (m_A G) := by
  refine m_i0 (n := 3) RX1 rfl (by decide) (Nat.le_of_ble_eq_true rfl) ?_
  intro p e s m args below meth c X hr hlk hSt hP hS ls hl
  have hl : lv_has ls 3 [(0, .int x0), (1, .ref (m_ad G k1)), (2, .int x2)] := hl
  unfold f_X1_refusesOfDeal at hres
  refine lv_iload_n X.1 X.2.1 dX1_refusesOfDeal_0 rfl (lv_at hl 0 rfl) ?_
  by_cases hc1 : x0 = 5
  · have hres := m_it hres hc1
    refine m_lin (tgt := 36) (off := 35) X dX1_refusesOfDeal_1 ⟨_, hc1, by decide⟩ (by decide) (by decide) ?_
    refine lv_aload_n X.1 X.2.1 dX1_refusesOfDeal_36 rfl (lv_at hl 1 rfl) ?_
    refine m_g0 (v := .int (M.1 k1 7)) X hSt hP hk1 7 (by decide) rfl k_f_X1_90 dX1_refusesOfDeal_37 ?_
    obtain ⟨hb2, hres⟩ := m_gd_e hres
    exact m_rz X hr hlk hP hS (Option.some.inj hres) rfl hb2 dX1_refusesOfDeal_40
  · have hres := m_if hres hc1
    by_cases hc3 : x0 = 9
    · have hres := m_it hres hc3
      refine m_lin (tgt := 41) (off := 40) X dX1_refusesOfDeal_1 ⟨_, hc3, by decide⟩ (by decide) (by decide) ?_
      refine lv_aload_n X.1 X.2.1 dX1_refusesOfDeal_41 rfl (lv_at hl 1 rfl) ?_
      refine m_g0 (v := .int (M.1 k1 4)) X hSt hP hk1 4 (by decide) rfl k_f_X1_94 dX1_refusesOfDeal_42 ?_
      refine lv_iload_n X.1 X.2.1 dX1_refusesOfDeal_45 rfl (lv_at hl 2 rfl) ?_
      refine lv_iadd X.1 X.2.1 dX1_refusesOfDeal_46 ?_
      refine lv_aload_n X.1 X.2.1 dX1_refusesOfDeal_47 rfl (lv_at hl 1 rfl) ?_
      refine m_g0 (v := .int (M.1 k1 2)) X hSt hP hk1 2 (by decide) rfl k_f_X1_140 dX1_refusesOfDeal_48 ?_
      refine lv_icmp_le (tgt := 58) X.1 X.2.1 dX1_refusesOfDeal_51 (by decide) (fun hc4 => ?_) (fun hc4 => ?_)
      · have hres := m_it hres hc4
        refine lv_iconst (v := 0) X.1 X.2.1 dX1_refusesOfDeal_58 (by decide) ?_
        exact m_rz X hr hlk hP hS (Option.some.inj hres) rfl (by decide) dX1_refusesOfDeal_59
      · have hres := m_if hres hc4
        refine lv_iconst (v := 1) X.1 X.2.1 dX1_refusesOfDeal_54 (by decide) ?_
        refine lv_goto (tgt := 59) X.1 X.2.1 dX1_refusesOfDeal_55 (by decide) ?_
        exact m_rz X hr hlk hP hS (Option.some.inj hres) rfl (by decide) dX1_refusesOfDeal_59
    · have hres := m_if hres hc3
      by_cases hc5 : x0 = 10
      · have hres := m_it hres hc5
        refine m_lin (tgt := 60) (off := 59) X dX1_refusesOfDeal_1 ⟨_, hc5, by decide⟩ (by decide) (by decide) ?_
        refine lv_aload_n X.1 X.2.1 dX1_refusesOfDeal_60 rfl (lv_at hl 1 rfl) ?_
        obtain ⟨r6, err6, hres⟩ := m_bd_e hres
        refine m_bi (m_cV (n := 0) (As := []) (rest := []) X hSt hP hS hl.1 (c_X0_there l G hk1 err6) k_c_yX0_there k_m_X1_143 k_i_yX0_there k_s_yX0_there k_n_X0 (by decide +kernel) (m_rc0 hSt hP hk1) rfl rfl ⟨Nat.le_of_ble_eq_true rfl, Nat.le_of_ble_eq_true rfl⟩ (Nat.le_of_ble_eq_true rfl) ⟨Nat.zero_le _, Nat.zero_le _⟩ dX1_refusesOfDeal_61) hS (fun H locs hP hS => ?_)
        refine lv_iload_n X.1 X.2.1 dX1_refusesOfDeal_64 rfl (lv_at hl 2 rfl) ?_
        refine lv_icmp_ge (tgt := 72) X.1 X.2.1 dX1_refusesOfDeal_65 (by decide) (fun hc7 => ?_) (fun hc7 => ?_)
        · have hres := m_it hres hc7
          refine lv_iconst (v := 0) X.1 X.2.1 dX1_refusesOfDeal_72 (by decide) ?_
          exact m_rz X hr hlk hP hS (Option.some.inj hres) rfl (by decide) dX1_refusesOfDeal_73
        · have hres := m_if hres hc7
          refine lv_iconst (v := 1) X.1 X.2.1 dX1_refusesOfDeal_68 (by decide) ?_
          refine lv_goto (tgt := 73) X.1 X.2.1 dX1_refusesOfDeal_69 (by decide) ?_
          exact m_rz X hr hlk hP hS (Option.some.inj hres) rfl (by decide) dX1_refusesOfDeal_73
      · have hres := m_if hres hc5
        refine lv_lookup (tgt := 74) X.1 X.2.1 dX1_refusesOfDeal_1 (by decide) (m_lkd (List.forall_mem_cons.mpr ⟨(m_ne (z := 5) hc1 (by decide)).symm, List.forall_mem_cons.mpr ⟨(m_ne (z := 9) hc3 (by decide)).symm, List.forall_mem_cons.mpr ⟨(m_ne (z := 10) hc5 (by decide)).symm, List.forall_mem_nil _⟩⟩⟩)) (by decide) ?_
        refine lv_aload_n X.1 X.2.1 dX1_refusesOfDeal_74 rfl (lv_at hl 1 rfl) ?_
        obtain ⟨r8, err8, hres⟩ := m_bd_e hres
        refine m_bi (m_cV (n := 0) (As := []) (rest := []) X hSt hP hS hl.1 (c_X0_left l G hk1 err8) k_c_yX0_left k_m_X1_147 k_i_yX0_left k_s_yX0_left k_n_X0 (by decide +kernel) (m_rc0 hSt hP hk1) rfl rfl ⟨Nat.le_of_ble_eq_true rfl, Nat.le_of_ble_eq_true rfl⟩ (Nat.le_of_ble_eq_true rfl) ⟨Nat.zero_le _, Nat.zero_le _⟩ dX1_refusesOfDeal_75) hS (fun H locs hP hS => ?_)
        refine lv_iload_n X.1 X.2.1 dX1_refusesOfDeal_78 rfl (lv_at hl 2 rfl) ?_
        refine lv_icmp_ge (tgt := 86) X.1 X.2.1 dX1_refusesOfDeal_79 (by decide) (fun hc9 => ?_) (fun hc9 => ?_)
        · have hres := m_it hres hc9
          refine lv_iconst (v := 0) X.1 X.2.1 dX1_refusesOfDeal_86 (by decide) ?_
          exact m_rz X hr hlk hP hS (Option.some.inj hres) rfl (by decide) dX1_refusesOfDeal_87
        · have hres := m_if hres hc9
          refine lv_iconst (v := 1) X.1 X.2.1 dX1_refusesOfDeal_82 (by decide) ?_
          refine lv_goto (tgt := 87) X.1 X.2.1 dX1_refusesOfDeal_83 (by decide) ?_
          exact m_rz X hr hlk hP hS (Option.some.inj hres) rfl (by decide) dX1_refusesOfDeal_87
theorem dX1_isInHand_0 : decode cX1_isInHand 0 = .ok (.iload_n 1, 1) := by decide +kernel
theorem dX1_isInHand_1 : decode cX1_isInHand 1 = .ok (.istore_n 3, 1) := by decide +kernel
theorem dX1_isInHand_2 : decode cX1_isInHand 2 = .ok (.iconst 0, 1) := by decide +kernel
theorem dX1_isInHand_3 : decode cX1_isInHand 3 = .ok (.istore 4, 2) := by decide +kernel
theorem dX1_isInHand_5 : decode cX1_isInHand 5 = .ok (.iload 4, 2) := by decide +kernel
theorem dX1_isInHand_7 : decode cX1_isInHand 7 = .ok (.bipush 10, 2) := by decide +kernel
theorem dX1_isInHand_9 : decode cX1_isInHand 9 = .ok (.if_icmp .gt 31, 3) := by decide +kernel
theorem dX1_isInHand_12 : decode cX1_isInHand 12 = .ok (.iload_n 3, 1) := by decide +kernel
theorem dX1_isInHand_13 : decode cX1_isInHand 13 = .ok (.iconst (-1), 1) := by decide +kernel
theorem dX1_isInHand_14 : decode cX1_isInHand 14 = .ok (.if_icmp .eq 26, 3) := by decide +kernel
theorem dX1_isInHand_17 : decode cX1_isInHand 17 = .ok (.iload_n 3, 1) := by decide +kernel
theorem dX1_isInHand_18 : decode cX1_isInHand 18 = .ok (.iload_n 2, 1) := by decide +kernel
theorem dX1_isInHand_19 : decode cX1_isInHand 19 = .ok (.if_icmp .ne 5, 3) := by decide +kernel
theorem dX1_isInHand_22 : decode cX1_isInHand 22 = .ok (.iconst 1, 1) := by decide +kernel
theorem dX1_isInHand_23 : decode cX1_isInHand 23 = .ok (.ireturn, 1) := by decide +kernel
theorem dX1_isInHand_24 : decode cX1_isInHand 24 = .ok (.aload_n 0, 1) := by decide +kernel
theorem dX1_isInHand_25 : decode cX1_isInHand 25 = .ok (.getfield 11, 3) := by decide +kernel
theorem dX1_isInHand_28 : decode cX1_isInHand 28 = .ok (.iload_n 3, 1) := by decide +kernel
theorem dX1_isInHand_29 : decode cX1_isInHand 29 = .ok (.aaload, 1) := by decide +kernel
theorem dX1_isInHand_30 : decode cX1_isInHand 30 = .ok (.getfield 137, 3) := by decide +kernel
theorem dX1_isInHand_33 : decode cX1_isInHand 33 = .ok (.istore_n 3, 1) := by decide +kernel
theorem dX1_isInHand_34 : decode cX1_isInHand 34 = .ok (.iinc 4 1, 3) := by decide +kernel
theorem dX1_isInHand_37 : decode cX1_isInHand 37 = .ok (.goto (-32), 3) := by decide +kernel
theorem dX1_isInHand_40 : decode cX1_isInHand 40 = .ok (.iconst 0, 1) := by decide +kernel
theorem dX1_isInHand_41 : decode cX1_isInHand 41 = .ok (.ireturn, 1) := by decide +kernel
def f_X1_isInHand_b5 (n : Nat) (x1 : Int32) (x2 : Int32) (M : m_M) : Nat → Int32 → Int32 → Option Int32
  | 0, _, _ => none
  | u + 1, x3, x4 =>
    if (10 : Int32) < x4 then
  some 0
  else
  if x3 = (-1) then
  some 0
  else
  if x3 = x2 then
  some 1
  else
  m_gd (m_in x3 10) (
  m_bd (M.1 (49 + 5 * x3.toNatClampNeg) 0) fun t5 =>
  f_X1_isInHand_b5 n x1 x2 M u t5 (x4 + 1))
def f_X1_isInHand (n : Nat) (x1 : Int32) (x2 : Int32) (M : m_M) : Option Int32 :=
  f_X1_isInHand_b5 n x1 x2 M n x1 0
set_option maxHeartbeats 4000000 in
set_option maxRecDepth 100000 in
theorem c_X1_isInHand (l : Launch) (G : m_G) {n : Nat} {x1 : Int32} {x2 : Int32} {M : m_M} {r0 : Int32}  (hres : f_X1_isInHand n x1 x2 M = some r0) : Met l yX1_isInHand (m_U yX1_isInHand cX1_isInHand 5 (some .boolean)) (m_R 0 0) (m_Pc G [.ref (m_ad G 45), .int x1, .int x2] M) (m_Qz G r0 M) 0 0 (m_A G) := by
  refine m_i0 (n := 5) RX1 rfl (by decide) (Nat.le_of_ble_eq_true rfl) ?_
  intro p e s m args below meth c X hr hlk hSt hP hS ls hl
  have hl : lv_has ls 5 [(0, .ref (m_ad G 45)), (1, .int x1), (2, .int x2)] := hl
  have B5 : ∀ (u : Nat) (x3 : Int32) (x4 : Int32) (H : Heap) (locs : List Loc) (ls : Array Slot), m_P G M H → va_S (m_A G) s.heap H locs → lv_has ls 5 [(0, .ref (m_ad G 45)), (2, .int x2), (3, .int x3), (4, .int x4)] → f_X1_isInHand_b5 n x1 x2 M u x3 x4 = some r0 → W p l e (m_R 0 0) s m args below meth c H locs 0 0 (MQ below (m_Qz G r0 M) args s 0 0 (m_A G)) (F0 m 5 ls []) := by
    intro u
    induction u with
    | zero =>
      intro x3 x4 H locs ls hP hS hl hres
      cases hres
    | succ u ih =>
      intro x3 x4 H locs ls hP hS hl hres
      rw [f_X1_isInHand_b5] at hres
      refine lv_iload X.1 X.2.1 dX1_isInHand_5 (lv_at hl 3 rfl) ?_
      refine lv_bipush (v := 10) X.1 X.2.1 dX1_isInHand_7 (by decide) ?_
      refine lv_icmp_gt (tgt := 40) X.1 X.2.1 dX1_isInHand_9 (by decide) (fun hc1 => ?_) (fun hc1 => ?_)
      · have hres := m_it hres hc1
        refine lv_iconst (v := 0) X.1 X.2.1 dX1_isInHand_40 (by decide) ?_
        exact m_rz X hr hlk hP hS (Option.some.inj hres) rfl (by decide) dX1_isInHand_41
      · have hres := m_if hres hc1
        refine lv_iload_n X.1 X.2.1 dX1_isInHand_12 rfl (lv_at hl 2 rfl) ?_
        refine lv_iconst (v := (-1)) X.1 X.2.1 dX1_isInHand_13 (by decide) ?_
        refine lv_icmp_eq (tgt := 40) X.1 X.2.1 dX1_isInHand_14 (by decide) (fun hc2 => ?_) (fun hc2 => ?_)
        · have hres := m_it hres hc2
          refine lv_iconst (v := 0) X.1 X.2.1 dX1_isInHand_40 (by decide) ?_
          exact m_rz X hr hlk hP hS (Option.some.inj hres) rfl (by decide) dX1_isInHand_41
        · have hres := m_if hres hc2
          refine lv_iload_n X.1 X.2.1 dX1_isInHand_17 rfl (lv_at hl 2 rfl) ?_
          refine lv_iload_n X.1 X.2.1 dX1_isInHand_18 rfl (lv_at hl 1 rfl) ?_
          refine lv_icmp_ne (tgt := 24) X.1 X.2.1 dX1_isInHand_19 (by decide) (fun hc3 => ?_) (fun hc3 => ?_)
          · have hres := m_if hres hc3
            refine lv_aload_n X.1 X.2.1 dX1_isInHand_24 rfl (lv_at hl 0 rfl) ?_
            refine m_g1 (v := .ref (m_ad G 46)) X hSt hP m_z_45 1 (by decide) rfl k_f_X1_11 dX1_isInHand_25 ?_
            refine lv_iload_n X.1 X.2.1 dX1_isInHand_28 rfl (lv_at hl 2 rfl) ?_
            obtain ⟨hg4, hres⟩ := m_gd_e hres
            refine m_qa6 (j := x3.toNatClampNeg) X hSt hP m_z_46 hg4 rfl dX1_isInHand_29 ?_
            refine m_g5 (v := .int (M.1 (49 + 5 * x3.toNatClampNeg) 0)) X hSt hP (m_person_of hg4).1 0 (by decide) rfl k_f_X1_137 dX1_isInHand_30 ?_
            obtain ⟨t5, et5, hres⟩ := m_bd_e hres
            refine m_ti et5 ?_
            refine lv_istore_n (lv' := [(3, .int t5), (0, .ref (m_ad G 45)), (2, .int x2), (4, .int x4)]) X.1 X.2.1 dX1_isInHand_33 rfl hl (by decide) rfl (fun ls hl => ?_)
            refine lv_iinc (v := (x4 + 1)) (lv' := [(4, .int (x4 + 1)), (3, .int t5), (0, .ref (m_ad G 45)), (2, .int x2)]) X.1 X.2.1 dX1_isInHand_34 hl (k := 3) rfl rfl (by decide) rfl (fun ls hl => ?_)
            refine lv_goto (tgt := 5) X.1 X.2.1 dX1_isInHand_37 (by decide) ?_
            exact ih t5 (x4 + 1) _ _ _ hP hS (lv_sub hl [2, 3, 1, 0] rfl) hres
          · have hres := m_it hres hc3
            refine lv_iconst (v := 1) X.1 X.2.1 dX1_isInHand_22 (by decide) ?_
            exact m_rz X hr hlk hP hS (Option.some.inj hres) rfl (by decide) dX1_isInHand_23
  unfold f_X1_isInHand at hres
  refine lv_iload_n X.1 X.2.1 dX1_isInHand_0 rfl (lv_at hl 1 rfl) ?_
  refine lv_istore_n (lv' := [(3, .int x1), (0, .ref (m_ad G 45)), (1, .int x1), (2, .int x2)]) X.1 X.2.1 dX1_isInHand_1 rfl hl (by decide) rfl (fun ls hl => ?_)
  refine lv_iconst (v := 0) X.1 X.2.1 dX1_isInHand_2 (by decide) ?_
  refine lv_istore (lv' := [(4, .int 0), (3, .int x1), (0, .ref (m_ad G 45)), (1, .int x1), (2, .int x2)]) X.1 X.2.1 dX1_isInHand_3 hl (by decide) rfl (fun ls hl => ?_)
  exact B5 n x1 0 _ _ _ hP hS (lv_sub hl [2, 4, 1, 0] rfl) hres
theorem dX1_refuses_0 : decode cX1_refuses 0 = .ok (.ldc 67, 2) := by decide +kernel
theorem dX1_refuses_2 : decode cX1_refuses 2 = .ok (.iload_n 1, 1) := by decide +kernel
theorem dX1_refuses_3 : decode cX1_refuses 3 = .ok (.invokevirtual 69, 3) := by decide +kernel
theorem dX1_refuses_6 : decode cX1_refuses 6 = .ok (.bipush 100, 2) := by decide +kernel
theorem dX1_refuses_8 : decode cX1_refuses 8 = .ok (.if_icmp .ne 16, 3) := by decide +kernel
theorem dX1_refuses_11 : decode cX1_refuses 11 = .ok (.iload_n 1, 1) := by decide +kernel
theorem dX1_refuses_12 : decode cX1_refuses 12 = .ok (.aload_n 0, 1) := by decide +kernel
theorem dX1_refuses_13 : decode cX1_refuses 13 = .ok (.getfield 19, 3) := by decide +kernel
theorem dX1_refuses_16 : decode cX1_refuses 16 = .ok (.iload_n 2, 1) := by decide +kernel
theorem dX1_refuses_17 : decode cX1_refuses 17 = .ok (.aaload, 1) := by decide +kernel
theorem dX1_refuses_18 : decode cX1_refuses 18 = .ok (.iload 4, 2) := by decide +kernel
theorem dX1_refuses_20 : decode cX1_refuses 20 = .ok (.invokestatic 122, 3) := by decide +kernel
theorem dX1_refuses_23 : decode cX1_refuses 23 = .ok (.ireturn, 1) := by decide +kernel
theorem dX1_refuses_24 : decode cX1_refuses 24 = .ok (.iload_n 1, 1) := by decide +kernel
theorem dX1_refuses_25 : decode cX1_refuses 25 = .ok (.tableswitch 208 0 14 #[75, 208, 82, 103, 208, 208, 124, 136, 156, 208, 208, 208, 168, 208, 189], 75) := by decide +kernel
theorem dX1_refuses_100 : decode cX1_refuses 100 = .ok (.aload_n 0, 1) := by decide +kernel
theorem dX1_refuses_101 : decode cX1_refuses 101 = .ok (.iload_n 3, 1) := by decide +kernel
theorem dX1_refuses_102 : decode cX1_refuses 102 = .ok (.iload_n 2, 1) := by decide +kernel
theorem dX1_refuses_103 : decode cX1_refuses 103 = .ok (.invokevirtual 126, 3) := by decide +kernel
theorem dX1_refuses_106 : decode cX1_refuses 106 = .ok (.ireturn, 1) := by decide +kernel
theorem dX1_refuses_107 : decode cX1_refuses 107 = .ok (.aload_n 0, 1) := by decide +kernel
theorem dX1_refuses_108 : decode cX1_refuses 108 = .ok (.getfield 11, 3) := by decide +kernel
theorem dX1_refuses_111 : decode cX1_refuses 111 = .ok (.iload_n 2, 1) := by decide +kernel
theorem dX1_refuses_112 : decode cX1_refuses 112 = .ok (.aaload, 1) := by decide +kernel
theorem dX1_refuses_113 : decode cX1_refuses 113 = .ok (.iload_n 3, 1) := by decide +kernel
theorem dX1_refuses_114 : decode cX1_refuses 114 = .ok (.invokevirtual 130, 3) := by decide +kernel
theorem dX1_refuses_117 : decode cX1_refuses 117 = .ok (.iload 4, 2) := by decide +kernel
theorem dX1_refuses_119 : decode cX1_refuses 119 = .ok (.if_icmp .ge 7, 3) := by decide +kernel
theorem dX1_refuses_122 : decode cX1_refuses 122 = .ok (.iconst 1, 1) := by decide +kernel
theorem dX1_refuses_123 : decode cX1_refuses 123 = .ok (.goto 4, 3) := by decide +kernel
theorem dX1_refuses_126 : decode cX1_refuses 126 = .ok (.iconst 0, 1) := by decide +kernel
theorem dX1_refuses_127 : decode cX1_refuses 127 = .ok (.ireturn, 1) := by decide +kernel
theorem dX1_refuses_128 : decode cX1_refuses 128 = .ok (.aload_n 0, 1) := by decide +kernel
theorem dX1_refuses_129 : decode cX1_refuses 129 = .ok (.getfield 11, 3) := by decide +kernel
theorem dX1_refuses_132 : decode cX1_refuses 132 = .ok (.iload_n 2, 1) := by decide +kernel
theorem dX1_refuses_133 : decode cX1_refuses 133 = .ok (.aaload, 1) := by decide +kernel
theorem dX1_refuses_134 : decode cX1_refuses 134 = .ok (.iload_n 3, 1) := by decide +kernel
theorem dX1_refuses_135 : decode cX1_refuses 135 = .ok (.invokevirtual 130, 3) := by decide +kernel
theorem dX1_refuses_138 : decode cX1_refuses 138 = .ok (.iload 4, 2) := by decide +kernel
theorem dX1_refuses_140 : decode cX1_refuses 140 = .ok (.if_icmp .ge 7, 3) := by decide +kernel
theorem dX1_refuses_143 : decode cX1_refuses 143 = .ok (.iconst 1, 1) := by decide +kernel
theorem dX1_refuses_144 : decode cX1_refuses 144 = .ok (.goto 4, 3) := by decide +kernel
theorem dX1_refuses_147 : decode cX1_refuses 147 = .ok (.iconst 0, 1) := by decide +kernel
theorem dX1_refuses_148 : decode cX1_refuses 148 = .ok (.ireturn, 1) := by decide +kernel
theorem dX1_refuses_149 : decode cX1_refuses 149 = .ok (.aload_n 0, 1) := by decide +kernel
theorem dX1_refuses_150 : decode cX1_refuses 150 = .ok (.getfield 11, 3) := by decide +kernel
theorem dX1_refuses_153 : decode cX1_refuses 153 = .ok (.iload_n 2, 1) := by decide +kernel
theorem dX1_refuses_154 : decode cX1_refuses 154 = .ok (.aaload, 1) := by decide +kernel
theorem dX1_refuses_155 : decode cX1_refuses 155 = .ok (.getfield 112, 3) := by decide +kernel
theorem dX1_refuses_158 : decode cX1_refuses 158 = .ok (.iload_n 3, 1) := by decide +kernel
theorem dX1_refuses_159 : decode cX1_refuses 159 = .ok (.baload, 1) := by decide +kernel
theorem dX1_refuses_160 : decode cX1_refuses 160 = .ok (.ireturn, 1) := by decide +kernel
theorem dX1_refuses_161 : decode cX1_refuses 161 = .ok (.aload_n 0, 1) := by decide +kernel
theorem dX1_refuses_162 : decode cX1_refuses 162 = .ok (.getfield 11, 3) := by decide +kernel
theorem dX1_refuses_165 : decode cX1_refuses 165 = .ok (.iload_n 2, 1) := by decide +kernel
theorem dX1_refuses_166 : decode cX1_refuses 166 = .ok (.aaload, 1) := by decide +kernel
theorem dX1_refuses_167 : decode cX1_refuses 167 = .ok (.getfield 112, 3) := by decide +kernel
theorem dX1_refuses_170 : decode cX1_refuses 170 = .ok (.iload_n 3, 1) := by decide +kernel
theorem dX1_refuses_171 : decode cX1_refuses 171 = .ok (.baload, 1) := by decide +kernel
theorem dX1_refuses_172 : decode cX1_refuses 172 = .ok (.ifCond .ne 7, 3) := by decide +kernel
theorem dX1_refuses_175 : decode cX1_refuses 175 = .ok (.iconst 1, 1) := by decide +kernel
theorem dX1_refuses_176 : decode cX1_refuses 176 = .ok (.goto 4, 3) := by decide +kernel
theorem dX1_refuses_179 : decode cX1_refuses 179 = .ok (.iconst 0, 1) := by decide +kernel
theorem dX1_refuses_180 : decode cX1_refuses 180 = .ok (.ireturn, 1) := by decide +kernel
theorem dX1_refuses_181 : decode cX1_refuses 181 = .ok (.aload_n 0, 1) := by decide +kernel
theorem dX1_refuses_182 : decode cX1_refuses 182 = .ok (.getfield 11, 3) := by decide +kernel
theorem dX1_refuses_185 : decode cX1_refuses 185 = .ok (.iload_n 2, 1) := by decide +kernel
theorem dX1_refuses_186 : decode cX1_refuses 186 = .ok (.aaload, 1) := by decide +kernel
theorem dX1_refuses_187 : decode cX1_refuses 187 = .ok (.getfield 116, 3) := by decide +kernel
theorem dX1_refuses_190 : decode cX1_refuses 190 = .ok (.iload_n 3, 1) := by decide +kernel
theorem dX1_refuses_191 : decode cX1_refuses 191 = .ok (.baload, 1) := by decide +kernel
theorem dX1_refuses_192 : decode cX1_refuses 192 = .ok (.ireturn, 1) := by decide +kernel
theorem dX1_refuses_193 : decode cX1_refuses 193 = .ok (.aload_n 0, 1) := by decide +kernel
theorem dX1_refuses_194 : decode cX1_refuses 194 = .ok (.getfield 11, 3) := by decide +kernel
theorem dX1_refuses_197 : decode cX1_refuses 197 = .ok (.iload_n 2, 1) := by decide +kernel
theorem dX1_refuses_198 : decode cX1_refuses 198 = .ok (.aaload, 1) := by decide +kernel
theorem dX1_refuses_199 : decode cX1_refuses 199 = .ok (.iload_n 3, 1) := by decide +kernel
theorem dX1_refuses_200 : decode cX1_refuses 200 = .ok (.invokevirtual 134, 3) := by decide +kernel
theorem dX1_refuses_203 : decode cX1_refuses 203 = .ok (.iload 4, 2) := by decide +kernel
theorem dX1_refuses_205 : decode cX1_refuses 205 = .ok (.if_icmp .ge 7, 3) := by decide +kernel
theorem dX1_refuses_208 : decode cX1_refuses 208 = .ok (.iconst 1, 1) := by decide +kernel
theorem dX1_refuses_209 : decode cX1_refuses 209 = .ok (.goto 4, 3) := by decide +kernel
theorem dX1_refuses_212 : decode cX1_refuses 212 = .ok (.iconst 0, 1) := by decide +kernel
theorem dX1_refuses_213 : decode cX1_refuses 213 = .ok (.ireturn, 1) := by decide +kernel
theorem dX1_refuses_214 : decode cX1_refuses 214 = .ok (.aload_n 0, 1) := by decide +kernel
theorem dX1_refuses_215 : decode cX1_refuses 215 = .ok (.getfield 11, 3) := by decide +kernel
theorem dX1_refuses_218 : decode cX1_refuses 218 = .ok (.iload_n 2, 1) := by decide +kernel
theorem dX1_refuses_219 : decode cX1_refuses 219 = .ok (.aaload, 1) := by decide +kernel
theorem dX1_refuses_220 : decode cX1_refuses 220 = .ok (.getfield 137, 3) := by decide +kernel
theorem dX1_refuses_223 : decode cX1_refuses 223 = .ok (.iconst (-1), 1) := by decide +kernel
theorem dX1_refuses_224 : decode cX1_refuses 224 = .ok (.if_icmp .ne 7, 3) := by decide +kernel
theorem dX1_refuses_227 : decode cX1_refuses 227 = .ok (.iconst 1, 1) := by decide +kernel
theorem dX1_refuses_228 : decode cX1_refuses 228 = .ok (.goto 4, 3) := by decide +kernel
theorem dX1_refuses_231 : decode cX1_refuses 231 = .ok (.iconst 0, 1) := by decide +kernel
theorem dX1_refuses_232 : decode cX1_refuses 232 = .ok (.ireturn, 1) := by decide +kernel
theorem dX1_refuses_233 : decode cX1_refuses 233 = .ok (.iconst 0, 1) := by decide +kernel
theorem dX1_refuses_234 : decode cX1_refuses 234 = .ok (.ireturn, 1) := by decide +kernel
def f_X1_refuses (n : Nat) (x1 : Int32) (x2 : Int32) (x3 : Int32) (x4 : Int32) (M : m_M) : Option Int32 :=
  m_ob (f_J0_charAt_5068e 4 x1) fun r1 =>
  if r1 = 100 then
  m_gd (m_in x2 60) (
  m_ob (f_X1_refusesOfDeal x1 (99 + x2.toNatClampNeg) x4 M) fun r35 =>
  some r35)
  else
  if x1 = 0 then
  m_ob (f_X1_isInHand n x3 x2 M) fun r5 =>
  some r5
  else
  if x1 = 2 then
  m_gd (m_in x2 10) (
  m_ob (f_X5_partOf (49 + 5 * x2.toNatClampNeg) x3 M) fun r9 =>
  if x4 ≤ r9 then
  some 0
  else
  some 1)
  else
  if x1 = 3 then
  m_gd (m_in x2 10) (
  m_ob (f_X5_partOf (49 + 5 * x2.toNatClampNeg) x3 M) fun r13 =>
  if x4 ≤ r13 then
  some 0
  else
  some 1)
  else
  if x1 = 6 then
  m_gd (m_in x2 10) (
  m_gd (m_in x3 4) (
  m_gd (m_B (M.1 ((49 + 5 * x2.toNatClampNeg) + 3) x3.toNatClampNeg)) (some (M.1 ((49 + 5 * x2.toNatClampNeg) + 3) x3.toNatClampNeg))))
  else
  if x1 = 7 then
  m_gd (m_in x2 10) (
  m_gd (m_in x3 4) (
  if (M.1 ((49 + 5 * x2.toNatClampNeg) + 3) x3.toNatClampNeg) = 0 then
  some 1
  else
  some 0))
  else
  if x1 = 8 then
  m_gd (m_in x2 10) (
  m_gd (m_in x3 4) (
  m_gd (m_B (M.1 ((49 + 5 * x2.toNatClampNeg) + 4) x3.toNatClampNeg)) (some (M.1 ((49 + 5 * x2.toNatClampNeg) + 4) x3.toNatClampNeg))))
  else
  if x1 = 12 then
  m_gd (m_in x2 10) (
  m_ob (f_X5_debtTo (49 + 5 * x2.toNatClampNeg) x3 M) fun r29 =>
  if x4 ≤ r29 then
  some 0
  else
  some 1)
  else
  if x1 = 14 then
  m_gd (m_in x2 10) (
  if (M.1 (49 + 5 * x2.toNatClampNeg) 0) = (-1) then
  some 1
  else
  some 0)
  else
  some 0
set_option maxHeartbeats 4000000 in
set_option maxRecDepth 100000 in
theorem c_X1_refuses (l : Launch) (G : m_G) {n : Nat} {x1 : Int32} {x2 : Int32} {x3 : Int32} {x4 : Int32} {M : m_M} {r0 : Int32}  (hres : f_X1_refuses n x1 x2 x3 x4 M = some r0) : Met l yX1_refuses (m_U yX1_refuses cX1_refuses 5 (some .boolean)) (m_R 4 85) (m_Pc G [.ref (m_ad G 45), .int x1, .int x2, .int x3, .int x4] M) (m_Qz G r0 M) 0 0 (m_A G) := by
  refine m_i0 (n := 5) RX1 rfl (by decide) (Nat.le_of_ble_eq_true rfl) ?_
  intro p e s m args below meth c X hr hlk hSt hP hS ls hl
  have hl : lv_has ls 5 [(0, .ref (m_ad G 45)), (1, .int x1), (2, .int x2), (3, .int x3), (4, .int x4)] := hl
  unfold f_X1_refuses at hres
  refine m_ld4 X hSt dX1_refuses_0 ?_
  refine lv_iload_n X.1 X.2.1 dX1_refuses_2 rfl (lv_at hl 1 rfl) ?_
  obtain ⟨r1, err1, hres⟩ := m_ob_e hres
  refine m_bn (m_cV (n := 1) (As := [.int x1]) (rest := []) X hSt hP hS hl.1 (c_J0_charAt_5068e l G (M := M) (by decide) err1) k_c_yJ0_charAt_5068e k_m_X1_69 k_i_yJ0_charAt_5068e k_s_yJ0_charAt_5068e k_n_J0 (by decide +kernel) (m_rcS hSt hS (by decide)) rfl rfl ⟨Nat.le_of_ble_eq_true rfl, Nat.le_of_ble_eq_true rfl⟩ (Nat.le_of_ble_eq_true rfl) ⟨Nat.zero_le _, Nat.zero_le _⟩ dX1_refuses_3) hS (fun H locs hP hS hz2 => ?_)
  refine lv_bipush (v := 100) X.1 X.2.1 dX1_refuses_6 (by decide) ?_
  refine lv_icmp_ne (tgt := 24) X.1 X.2.1 dX1_refuses_8 (by decide) (fun hc3 => ?_) (fun hc3 => ?_)
  · have hres := m_if hres hc3
    refine lv_iload_n X.1 X.2.1 dX1_refuses_24 rfl (lv_at hl 1 rfl) ?_
    by_cases hc4 : x1 = 0
    · have hres := m_it hres hc4
      refine m_tin (tgt := 100) X dX1_refuses_25 ⟨_, hc4, by decide, by decide, rfl⟩ (by decide) ?_
      refine lv_aload_n X.1 X.2.1 dX1_refuses_100 rfl (lv_at hl 0 rfl) ?_
      refine lv_iload_n X.1 X.2.1 dX1_refuses_101 rfl (lv_at hl 3 rfl) ?_
      refine lv_iload_n X.1 X.2.1 dX1_refuses_102 rfl (lv_at hl 2 rfl) ?_
      obtain ⟨r5, err5, hres⟩ := m_ob_e hres
      refine m_bz (m_cV (n := 2) (As := [.int x3, .int x2]) (rest := []) X hSt hP hS hl.1 (c_X1_isInHand l G  err5) k_c_yX1_isInHand k_m_X1_126 k_i_yX1_isInHand k_s_yX1_isInHand k_n_X1 (by decide +kernel) (m_rc1 hSt hP m_z_45) rfl rfl ⟨Nat.le_of_ble_eq_true rfl, Nat.le_of_ble_eq_true rfl⟩ (Nat.le_of_ble_eq_true rfl) ⟨Nat.zero_le _, Nat.zero_le _⟩ dX1_refuses_103) hS (fun H locs hP hS hz6 => ?_)
      exact m_rz X hr hlk hP hS (Option.some.inj hres) rfl hz6 dX1_refuses_106
    · have hres := m_if hres hc4
      by_cases hc7 : x1 = 2
      · have hres := m_it hres hc7
        refine m_tin (tgt := 107) X dX1_refuses_25 ⟨_, hc7, by decide, by decide, rfl⟩ (by decide) ?_
        refine lv_aload_n X.1 X.2.1 dX1_refuses_107 rfl (lv_at hl 0 rfl) ?_
        refine m_g1 (v := .ref (m_ad G 46)) X hSt hP m_z_45 1 (by decide) rfl k_f_X1_11 dX1_refuses_108 ?_
        refine lv_iload_n X.1 X.2.1 dX1_refuses_111 rfl (lv_at hl 2 rfl) ?_
        obtain ⟨hg8, hres⟩ := m_gd_e hres
        refine m_qa6 (j := x2.toNatClampNeg) X hSt hP m_z_46 hg8 rfl dX1_refuses_112 ?_
        refine lv_iload_n X.1 X.2.1 dX1_refuses_113 rfl (lv_at hl 3 rfl) ?_
        obtain ⟨r9, err9, hres⟩ := m_ob_e hres
        refine m_bi (m_cV (n := 1) (As := [.int x3]) (rest := []) X hSt hP hS hl.1 (c_X5_partOf l G (m_person_of hg8) err9) k_c_yX5_partOf k_m_X1_130 k_i_yX5_partOf k_s_yX5_partOf k_n_X5 (by decide +kernel) (m_rc5 hSt hP (m_person_of hg8).1) rfl rfl ⟨Nat.le_of_ble_eq_true rfl, Nat.le_of_ble_eq_true rfl⟩ (Nat.le_of_ble_eq_true rfl) ⟨Nat.zero_le _, Nat.zero_le _⟩ dX1_refuses_114) hS (fun H locs hP hS => ?_)
        refine lv_iload X.1 X.2.1 dX1_refuses_117 (lv_at hl 4 rfl) ?_
        refine lv_icmp_ge (tgt := 126) X.1 X.2.1 dX1_refuses_119 (by decide) (fun hc10 => ?_) (fun hc10 => ?_)
        · have hres := m_it hres hc10
          refine lv_iconst (v := 0) X.1 X.2.1 dX1_refuses_126 (by decide) ?_
          exact m_rz X hr hlk hP hS (Option.some.inj hres) rfl (by decide) dX1_refuses_127
        · have hres := m_if hres hc10
          refine lv_iconst (v := 1) X.1 X.2.1 dX1_refuses_122 (by decide) ?_
          refine lv_goto (tgt := 127) X.1 X.2.1 dX1_refuses_123 (by decide) ?_
          exact m_rz X hr hlk hP hS (Option.some.inj hres) rfl (by decide) dX1_refuses_127
      · have hres := m_if hres hc7
        by_cases hc11 : x1 = 3
        · have hres := m_it hres hc11
          refine m_tin (tgt := 128) X dX1_refuses_25 ⟨_, hc11, by decide, by decide, rfl⟩ (by decide) ?_
          refine lv_aload_n X.1 X.2.1 dX1_refuses_128 rfl (lv_at hl 0 rfl) ?_
          refine m_g1 (v := .ref (m_ad G 46)) X hSt hP m_z_45 1 (by decide) rfl k_f_X1_11 dX1_refuses_129 ?_
          refine lv_iload_n X.1 X.2.1 dX1_refuses_132 rfl (lv_at hl 2 rfl) ?_
          obtain ⟨hg12, hres⟩ := m_gd_e hres
          refine m_qa6 (j := x2.toNatClampNeg) X hSt hP m_z_46 hg12 rfl dX1_refuses_133 ?_
          refine lv_iload_n X.1 X.2.1 dX1_refuses_134 rfl (lv_at hl 3 rfl) ?_
          obtain ⟨r13, err13, hres⟩ := m_ob_e hres
          refine m_bi (m_cV (n := 1) (As := [.int x3]) (rest := []) X hSt hP hS hl.1 (c_X5_partOf l G (m_person_of hg12) err13) k_c_yX5_partOf k_m_X1_130 k_i_yX5_partOf k_s_yX5_partOf k_n_X5 (by decide +kernel) (m_rc5 hSt hP (m_person_of hg12).1) rfl rfl ⟨Nat.le_of_ble_eq_true rfl, Nat.le_of_ble_eq_true rfl⟩ (Nat.le_of_ble_eq_true rfl) ⟨Nat.zero_le _, Nat.zero_le _⟩ dX1_refuses_135) hS (fun H locs hP hS => ?_)
          refine lv_iload X.1 X.2.1 dX1_refuses_138 (lv_at hl 4 rfl) ?_
          refine lv_icmp_ge (tgt := 147) X.1 X.2.1 dX1_refuses_140 (by decide) (fun hc14 => ?_) (fun hc14 => ?_)
          · have hres := m_it hres hc14
            refine lv_iconst (v := 0) X.1 X.2.1 dX1_refuses_147 (by decide) ?_
            exact m_rz X hr hlk hP hS (Option.some.inj hres) rfl (by decide) dX1_refuses_148
          · have hres := m_if hres hc14
            refine lv_iconst (v := 1) X.1 X.2.1 dX1_refuses_143 (by decide) ?_
            refine lv_goto (tgt := 148) X.1 X.2.1 dX1_refuses_144 (by decide) ?_
            exact m_rz X hr hlk hP hS (Option.some.inj hres) rfl (by decide) dX1_refuses_148
        · have hres := m_if hres hc11
          by_cases hc15 : x1 = 6
          · have hres := m_it hres hc15
            refine m_tin (tgt := 149) X dX1_refuses_25 ⟨_, hc15, by decide, by decide, rfl⟩ (by decide) ?_
            refine lv_aload_n X.1 X.2.1 dX1_refuses_149 rfl (lv_at hl 0 rfl) ?_
            refine m_g1 (v := .ref (m_ad G 46)) X hSt hP m_z_45 1 (by decide) rfl k_f_X1_11 dX1_refuses_150 ?_
            refine lv_iload_n X.1 X.2.1 dX1_refuses_153 rfl (lv_at hl 2 rfl) ?_
            obtain ⟨hg16, hres⟩ := m_gd_e hres
            refine m_qa6 (j := x2.toNatClampNeg) X hSt hP m_z_46 hg16 rfl dX1_refuses_154 ?_
            refine m_g5 (v := .ref (m_ad G ((49 + 5 * x2.toNatClampNeg) + 3))) X hSt hP (m_person_of hg16).1 9 (by decide) rfl k_f_X1_112 dX1_refuses_155 ?_
            refine lv_iload_n X.1 X.2.1 dX1_refuses_158 rfl (lv_at hl 3 rfl) ?_
            obtain ⟨hg17, hres⟩ := m_gd_e hres
            refine m_za (j := x3.toNatClampNeg) X hSt hP (m_person_of hg16).2.2.2.1 hg17 rfl dX1_refuses_159 ?_
            obtain ⟨hb18, hres⟩ := m_gd_e hres
            exact m_rz X hr hlk hP hS (Option.some.inj hres) rfl hb18 dX1_refuses_160
          · have hres := m_if hres hc15
            by_cases hc19 : x1 = 7
            · have hres := m_it hres hc19
              refine m_tin (tgt := 161) X dX1_refuses_25 ⟨_, hc19, by decide, by decide, rfl⟩ (by decide) ?_
              refine lv_aload_n X.1 X.2.1 dX1_refuses_161 rfl (lv_at hl 0 rfl) ?_
              refine m_g1 (v := .ref (m_ad G 46)) X hSt hP m_z_45 1 (by decide) rfl k_f_X1_11 dX1_refuses_162 ?_
              refine lv_iload_n X.1 X.2.1 dX1_refuses_165 rfl (lv_at hl 2 rfl) ?_
              obtain ⟨hg20, hres⟩ := m_gd_e hres
              refine m_qa6 (j := x2.toNatClampNeg) X hSt hP m_z_46 hg20 rfl dX1_refuses_166 ?_
              refine m_g5 (v := .ref (m_ad G ((49 + 5 * x2.toNatClampNeg) + 3))) X hSt hP (m_person_of hg20).1 9 (by decide) rfl k_f_X1_112 dX1_refuses_167 ?_
              refine lv_iload_n X.1 X.2.1 dX1_refuses_170 rfl (lv_at hl 3 rfl) ?_
              obtain ⟨hg21, hres⟩ := m_gd_e hres
              refine m_za (j := x3.toNatClampNeg) X hSt hP (m_person_of hg20).2.2.2.1 hg21 rfl dX1_refuses_171 ?_
              refine lv_if_ne (tgt := 179) X.1 X.2.1 dX1_refuses_172 (by decide) (fun hc22 => ?_) (fun hc22 => ?_)
              · have hres := m_if hres hc22
                refine lv_iconst (v := 0) X.1 X.2.1 dX1_refuses_179 (by decide) ?_
                exact m_rz X hr hlk hP hS (Option.some.inj hres) rfl (by decide) dX1_refuses_180
              · have hres := m_it hres hc22
                refine lv_iconst (v := 1) X.1 X.2.1 dX1_refuses_175 (by decide) ?_
                refine lv_goto (tgt := 180) X.1 X.2.1 dX1_refuses_176 (by decide) ?_
                exact m_rz X hr hlk hP hS (Option.some.inj hres) rfl (by decide) dX1_refuses_180
            · have hres := m_if hres hc19
              by_cases hc23 : x1 = 8
              · have hres := m_it hres hc23
                refine m_tin (tgt := 181) X dX1_refuses_25 ⟨_, hc23, by decide, by decide, rfl⟩ (by decide) ?_
                refine lv_aload_n X.1 X.2.1 dX1_refuses_181 rfl (lv_at hl 0 rfl) ?_
                refine m_g1 (v := .ref (m_ad G 46)) X hSt hP m_z_45 1 (by decide) rfl k_f_X1_11 dX1_refuses_182 ?_
                refine lv_iload_n X.1 X.2.1 dX1_refuses_185 rfl (lv_at hl 2 rfl) ?_
                obtain ⟨hg24, hres⟩ := m_gd_e hres
                refine m_qa6 (j := x2.toNatClampNeg) X hSt hP m_z_46 hg24 rfl dX1_refuses_186 ?_
                refine m_g5 (v := .ref (m_ad G ((49 + 5 * x2.toNatClampNeg) + 4))) X hSt hP (m_person_of hg24).1 10 (by decide) rfl k_f_X1_116 dX1_refuses_187 ?_
                refine lv_iload_n X.1 X.2.1 dX1_refuses_190 rfl (lv_at hl 3 rfl) ?_
                obtain ⟨hg25, hres⟩ := m_gd_e hres
                refine m_za (j := x3.toNatClampNeg) X hSt hP (m_person_of hg24).2.2.2.2 hg25 rfl dX1_refuses_191 ?_
                obtain ⟨hb26, hres⟩ := m_gd_e hres
                exact m_rz X hr hlk hP hS (Option.some.inj hres) rfl hb26 dX1_refuses_192
              · have hres := m_if hres hc23
                by_cases hc27 : x1 = 12
                · have hres := m_it hres hc27
                  refine m_tin (tgt := 193) X dX1_refuses_25 ⟨_, hc27, by decide, by decide, rfl⟩ (by decide) ?_
                  refine lv_aload_n X.1 X.2.1 dX1_refuses_193 rfl (lv_at hl 0 rfl) ?_
                  refine m_g1 (v := .ref (m_ad G 46)) X hSt hP m_z_45 1 (by decide) rfl k_f_X1_11 dX1_refuses_194 ?_
                  refine lv_iload_n X.1 X.2.1 dX1_refuses_197 rfl (lv_at hl 2 rfl) ?_
                  obtain ⟨hg28, hres⟩ := m_gd_e hres
                  refine m_qa6 (j := x2.toNatClampNeg) X hSt hP m_z_46 hg28 rfl dX1_refuses_198 ?_
                  refine lv_iload_n X.1 X.2.1 dX1_refuses_199 rfl (lv_at hl 3 rfl) ?_
                  obtain ⟨r29, err29, hres⟩ := m_ob_e hres
                  refine m_bi (m_cV (n := 1) (As := [.int x3]) (rest := []) X hSt hP hS hl.1 (c_X5_debtTo l G (m_person_of hg28) err29) k_c_yX5_debtTo k_m_X1_134 k_i_yX5_debtTo k_s_yX5_debtTo k_n_X5 (by decide +kernel) (m_rc5 hSt hP (m_person_of hg28).1) rfl rfl ⟨Nat.le_of_ble_eq_true rfl, Nat.le_of_ble_eq_true rfl⟩ (Nat.le_of_ble_eq_true rfl) ⟨Nat.zero_le _, Nat.zero_le _⟩ dX1_refuses_200) hS (fun H locs hP hS => ?_)
                  refine lv_iload X.1 X.2.1 dX1_refuses_203 (lv_at hl 4 rfl) ?_
                  refine lv_icmp_ge (tgt := 212) X.1 X.2.1 dX1_refuses_205 (by decide) (fun hc30 => ?_) (fun hc30 => ?_)
                  · have hres := m_it hres hc30
                    refine lv_iconst (v := 0) X.1 X.2.1 dX1_refuses_212 (by decide) ?_
                    exact m_rz X hr hlk hP hS (Option.some.inj hres) rfl (by decide) dX1_refuses_213
                  · have hres := m_if hres hc30
                    refine lv_iconst (v := 1) X.1 X.2.1 dX1_refuses_208 (by decide) ?_
                    refine lv_goto (tgt := 213) X.1 X.2.1 dX1_refuses_209 (by decide) ?_
                    exact m_rz X hr hlk hP hS (Option.some.inj hres) rfl (by decide) dX1_refuses_213
                · have hres := m_if hres hc27
                  by_cases hc31 : x1 = 14
                  · have hres := m_it hres hc31
                    refine m_tin (tgt := 214) X dX1_refuses_25 ⟨_, hc31, by decide, by decide, rfl⟩ (by decide) ?_
                    refine lv_aload_n X.1 X.2.1 dX1_refuses_214 rfl (lv_at hl 0 rfl) ?_
                    refine m_g1 (v := .ref (m_ad G 46)) X hSt hP m_z_45 1 (by decide) rfl k_f_X1_11 dX1_refuses_215 ?_
                    refine lv_iload_n X.1 X.2.1 dX1_refuses_218 rfl (lv_at hl 2 rfl) ?_
                    obtain ⟨hg32, hres⟩ := m_gd_e hres
                    refine m_qa6 (j := x2.toNatClampNeg) X hSt hP m_z_46 hg32 rfl dX1_refuses_219 ?_
                    refine m_g5 (v := .int (M.1 (49 + 5 * x2.toNatClampNeg) 0)) X hSt hP (m_person_of hg32).1 0 (by decide) rfl k_f_X1_137 dX1_refuses_220 ?_
                    refine lv_iconst (v := (-1)) X.1 X.2.1 dX1_refuses_223 (by decide) ?_
                    refine lv_icmp_ne (tgt := 231) X.1 X.2.1 dX1_refuses_224 (by decide) (fun hc33 => ?_) (fun hc33 => ?_)
                    · have hres := m_if hres hc33
                      refine lv_iconst (v := 0) X.1 X.2.1 dX1_refuses_231 (by decide) ?_
                      exact m_rz X hr hlk hP hS (Option.some.inj hres) rfl (by decide) dX1_refuses_232
                    · have hres := m_it hres hc33
                      refine lv_iconst (v := 1) X.1 X.2.1 dX1_refuses_227 (by decide) ?_
                      refine lv_goto (tgt := 232) X.1 X.2.1 dX1_refuses_228 (by decide) ?_
                      exact m_rz X hr hlk hP hS (Option.some.inj hres) rfl (by decide) dX1_refuses_232
                  · have hres := m_if hres hc31
                    refine m_tdf (tgt := 233) X dX1_refuses_25 (by
    by_cases hd0 : x1 = 1
    · exact Or.inr ⟨_, hd0, by decide, by decide, rfl⟩
    by_cases hd1 : x1 = 4
    · exact Or.inr ⟨_, hd1, by decide, by decide, rfl⟩
    by_cases hd2 : x1 = 5
    · exact Or.inr ⟨_, hd2, by decide, by decide, rfl⟩
    by_cases hd3 : x1 = 9
    · exact Or.inr ⟨_, hd3, by decide, by decide, rfl⟩
    by_cases hd4 : x1 = 10
    · exact Or.inr ⟨_, hd4, by decide, by decide, rfl⟩
    by_cases hd5 : x1 = 11
    · exact Or.inr ⟨_, hd5, by decide, by decide, rfl⟩
    by_cases hd6 : x1 = 13
    · exact Or.inr ⟨_, hd6, by decide, by decide, rfl⟩
    have := m_ne (z := 0) hc4 (by decide)
    have := m_ne (z := 2) hc7 (by decide)
    have := m_ne (z := 3) hc11 (by decide)
    have := m_ne (z := 6) hc15 (by decide)
    have := m_ne (z := 7) hc19 (by decide)
    have := m_ne (z := 8) hc23 (by decide)
    have := m_ne (z := 12) hc27 (by decide)
    have := m_ne (z := 14) hc31 (by decide)
    have := m_ne (z := 1) hd0 (by decide)
    have := m_ne (z := 4) hd1 (by decide)
    have := m_ne (z := 5) hd2 (by decide)
    have := m_ne (z := 9) hd3 (by decide)
    have := m_ne (z := 10) hd4 (by decide)
    have := m_ne (z := 11) hd5 (by decide)
    have := m_ne (z := 13) hd6 (by decide)
    exact Or.inl (by omega)) (by decide) ?_
                    refine lv_iconst (v := 0) X.1 X.2.1 dX1_refuses_233 (by decide) ?_
                    exact m_rz X hr hlk hP hS (Option.some.inj hres) rfl (by decide) dX1_refuses_234
  · have hres := m_it hres hc3
    refine lv_iload_n X.1 X.2.1 dX1_refuses_11 rfl (lv_at hl 1 rfl) ?_
    refine lv_aload_n X.1 X.2.1 dX1_refuses_12 rfl (lv_at hl 0 rfl) ?_
    refine m_g1 (v := .ref (m_ad G 47)) X hSt hP m_z_45 2 (by decide) rfl k_f_X1_19 dX1_refuses_13 ?_
    refine lv_iload_n X.1 X.2.1 dX1_refuses_16 rfl (lv_at hl 2 rfl) ?_
    obtain ⟨hg34, hres⟩ := m_gd_e hres
    refine m_qa3 (j := x2.toNatClampNeg) X hSt hP m_z_47 hg34 rfl dX1_refuses_17 ?_
    refine lv_iload X.1 X.2.1 dX1_refuses_18 (lv_at hl 4 rfl) ?_
    obtain ⟨r35, err35, hres⟩ := m_ob_e hres
    refine m_bz (m_cS (n := 3) (As := [.int x1, .ref (m_ad G (99 + x2.toNatClampNeg)), .int x4]) (rest := []) X hSt hP hS hl.1 (c_X1_refusesOfDeal l G (m_deal_of hg34) err35) k_c_yX1_refusesOfDeal k_m_X1_122 k_t_yX1_refusesOfDeal k_n_X1 (by decide +kernel) rfl rfl ⟨Nat.le_of_ble_eq_true rfl, Nat.le_of_ble_eq_true rfl⟩ (Nat.le_of_ble_eq_true rfl) ⟨Nat.zero_le _, Nat.zero_le _⟩ dX1_refuses_20) hS (fun H locs hP hS hz36 => ?_)
    exact m_rz X hr hlk hP hS (Option.some.inj hres) rfl hz36 dX1_refuses_23
theorem dX3_add_0 : decode cX3_add 0 = .ok (.bipush 6, 2) := by decide +kernel
theorem dX3_add_2 : decode cX3_add 2 = .ok (.aload_n 0, 1) := by decide +kernel
theorem dX3_add_3 : decode cX3_add 3 = .ok (.getfield 29, 3) := by decide +kernel
theorem dX3_add_6 : decode cX3_add 6 = .ok (.imul, 1) := by decide +kernel
theorem dX3_add_7 : decode cX3_add 7 = .ok (.istore 6, 2) := by decide +kernel
theorem dX3_add_9 : decode cX3_add 9 = .ok (.aload_n 0, 1) := by decide +kernel
theorem dX3_add_10 : decode cX3_add 10 = .ok (.getfield 9, 3) := by decide +kernel
theorem dX3_add_13 : decode cX3_add 13 = .ok (.iload 6, 2) := by decide +kernel
theorem dX3_add_15 : decode cX3_add 15 = .ok (.iconst 0, 1) := by decide +kernel
theorem dX3_add_16 : decode cX3_add 16 = .ok (.iadd, 1) := by decide +kernel
theorem dX3_add_17 : decode cX3_add 17 = .ok (.iload_n 1, 1) := by decide +kernel
theorem dX3_add_18 : decode cX3_add 18 = .ok (.iastore, 1) := by decide +kernel
theorem dX3_add_19 : decode cX3_add 19 = .ok (.aload_n 0, 1) := by decide +kernel
theorem dX3_add_20 : decode cX3_add 20 = .ok (.getfield 9, 3) := by decide +kernel
theorem dX3_add_23 : decode cX3_add 23 = .ok (.iload 6, 2) := by decide +kernel
theorem dX3_add_25 : decode cX3_add 25 = .ok (.iconst 1, 1) := by decide +kernel
theorem dX3_add_26 : decode cX3_add 26 = .ok (.iadd, 1) := by decide +kernel
theorem dX3_add_27 : decode cX3_add 27 = .ok (.iload_n 2, 1) := by decide +kernel
theorem dX3_add_28 : decode cX3_add 28 = .ok (.iastore, 1) := by decide +kernel
theorem dX3_add_29 : decode cX3_add 29 = .ok (.aload_n 0, 1) := by decide +kernel
theorem dX3_add_30 : decode cX3_add 30 = .ok (.getfield 9, 3) := by decide +kernel
theorem dX3_add_33 : decode cX3_add 33 = .ok (.iload 6, 2) := by decide +kernel
theorem dX3_add_35 : decode cX3_add 35 = .ok (.iconst 2, 1) := by decide +kernel
theorem dX3_add_36 : decode cX3_add 36 = .ok (.iadd, 1) := by decide +kernel
theorem dX3_add_37 : decode cX3_add 37 = .ok (.iload_n 3, 1) := by decide +kernel
theorem dX3_add_38 : decode cX3_add 38 = .ok (.iastore, 1) := by decide +kernel
theorem dX3_add_39 : decode cX3_add 39 = .ok (.aload_n 0, 1) := by decide +kernel
theorem dX3_add_40 : decode cX3_add 40 = .ok (.getfield 9, 3) := by decide +kernel
theorem dX3_add_43 : decode cX3_add 43 = .ok (.iload 6, 2) := by decide +kernel
theorem dX3_add_45 : decode cX3_add 45 = .ok (.iconst 3, 1) := by decide +kernel
theorem dX3_add_46 : decode cX3_add 46 = .ok (.iadd, 1) := by decide +kernel
theorem dX3_add_47 : decode cX3_add 47 = .ok (.ldc 67, 2) := by decide +kernel
theorem dX3_add_49 : decode cX3_add 49 = .ok (.iload_n 2, 1) := by decide +kernel
theorem dX3_add_50 : decode cX3_add 50 = .ok (.invokevirtual 61, 3) := by decide +kernel
theorem dX3_add_53 : decode cX3_add 53 = .ok (.bipush 45, 2) := by decide +kernel
theorem dX3_add_55 : decode cX3_add 55 = .ok (.if_icmp .ne 7, 3) := by decide +kernel
theorem dX3_add_58 : decode cX3_add 58 = .ok (.iconst 0, 1) := by decide +kernel
theorem dX3_add_59 : decode cX3_add 59 = .ok (.goto 5, 3) := by decide +kernel
theorem dX3_add_62 : decode cX3_add 62 = .ok (.iload 4, 2) := by decide +kernel
theorem dX3_add_64 : decode cX3_add 64 = .ok (.iastore, 1) := by decide +kernel
theorem dX3_add_65 : decode cX3_add 65 = .ok (.aload_n 0, 1) := by decide +kernel
theorem dX3_add_66 : decode cX3_add 66 = .ok (.getfield 9, 3) := by decide +kernel
theorem dX3_add_69 : decode cX3_add 69 = .ok (.iload 6, 2) := by decide +kernel
theorem dX3_add_71 : decode cX3_add 71 = .ok (.iconst 4, 1) := by decide +kernel
theorem dX3_add_72 : decode cX3_add 72 = .ok (.iadd, 1) := by decide +kernel
theorem dX3_add_73 : decode cX3_add 73 = .ok (.ldc 73, 2) := by decide +kernel
theorem dX3_add_75 : decode cX3_add 75 = .ok (.iload_n 2, 1) := by decide +kernel
theorem dX3_add_76 : decode cX3_add 76 = .ok (.invokevirtual 61, 3) := by decide +kernel
theorem dX3_add_79 : decode cX3_add 79 = .ok (.bipush 45, 2) := by decide +kernel
theorem dX3_add_81 : decode cX3_add 81 = .ok (.if_icmp .ne 7, 3) := by decide +kernel
theorem dX3_add_84 : decode cX3_add 84 = .ok (.iconst 0, 1) := by decide +kernel
theorem dX3_add_85 : decode cX3_add 85 = .ok (.goto 5, 3) := by decide +kernel
theorem dX3_add_88 : decode cX3_add 88 = .ok (.iload 5, 2) := by decide +kernel
theorem dX3_add_90 : decode cX3_add 90 = .ok (.iastore, 1) := by decide +kernel
theorem dX3_add_91 : decode cX3_add 91 = .ok (.aload_n 0, 1) := by decide +kernel
theorem dX3_add_92 : decode cX3_add 92 = .ok (.getfield 9, 3) := by decide +kernel
theorem dX3_add_95 : decode cX3_add 95 = .ok (.iload 6, 2) := by decide +kernel
theorem dX3_add_97 : decode cX3_add 97 = .ok (.iconst 5, 1) := by decide +kernel
theorem dX3_add_98 : decode cX3_add 98 = .ok (.iadd, 1) := by decide +kernel
theorem dX3_add_99 : decode cX3_add 99 = .ok (.iconst 0, 1) := by decide +kernel
theorem dX3_add_100 : decode cX3_add 100 = .ok (.iastore, 1) := by decide +kernel
theorem dX3_add_101 : decode cX3_add 101 = .ok (.iload_n 2, 1) := by decide +kernel
theorem dX3_add_102 : decode cX3_add 102 = .ok (.iconst 4, 1) := by decide +kernel
theorem dX3_add_103 : decode cX3_add 103 = .ok (.if_icmp .ne 13, 3) := by decide +kernel
theorem dX3_add_106 : decode cX3_add 106 = .ok (.aload_n 0, 1) := by decide +kernel
theorem dX3_add_107 : decode cX3_add 107 = .ok (.dup, 1) := by decide +kernel
theorem dX3_add_108 : decode cX3_add 108 = .ok (.getfield 32, 3) := by decide +kernel
theorem dX3_add_111 : decode cX3_add 111 = .ok (.iconst 1, 1) := by decide +kernel
theorem dX3_add_112 : decode cX3_add 112 = .ok (.iadd, 1) := by decide +kernel
theorem dX3_add_113 : decode cX3_add 113 = .ok (.putfield 32, 3) := by decide +kernel
theorem dX3_add_116 : decode cX3_add 116 = .ok (.aload_n 0, 1) := by decide +kernel
theorem dX3_add_117 : decode cX3_add 117 = .ok (.dup, 1) := by decide +kernel
theorem dX3_add_118 : decode cX3_add 118 = .ok (.getfield 29, 3) := by decide +kernel
theorem dX3_add_121 : decode cX3_add 121 = .ok (.iconst 1, 1) := by decide +kernel
theorem dX3_add_122 : decode cX3_add 122 = .ok (.iadd, 1) := by decide +kernel
theorem dX3_add_123 : decode cX3_add 123 = .ok (.putfield 29, 3) := by decide +kernel
theorem dX3_add_126 : decode cX3_add 126 = .ok (.aload_n 0, 1) := by decide +kernel
theorem dX3_add_127 : decode cX3_add 127 = .ok (.getfield 29, 3) := by decide +kernel
theorem dX3_add_130 : decode cX3_add 130 = .ok (.iconst 1, 1) := by decide +kernel
theorem dX3_add_131 : decode cX3_add 131 = .ok (.isub, 1) := by decide +kernel
theorem dX3_add_132 : decode cX3_add 132 = .ok (.ireturn, 1) := by decide +kernel
def f_X3_add_b116 (k0 : Nat) (x1 : Int32) (x2 : Int32) (x3 : Int32) (x4 : Int32) (x5 : Int32) (M : m_M) : Option (Int32 × m_M) :=
  m_bd (m_sI M k0 1 ((M.1 k0 1) + (1 : Int32))) fun M1 =>
  some (((M1.1 k0 1) - (1 : Int32)), M1)
def f_X3_add_b90 (k0 : Nat) (x1 : Int32) (x2 : Int32) (x3 : Int32) (x4 : Int32) (x5 : Int32) (x6 : Int32) (s1 : Int32) (s2 : Int32) (M : m_M) : Option (Int32 × m_M) :=
  m_gd (m_in s1 360) (
  m_bd (m_sI M (k0 + 1) s1.toNatClampNeg s2) fun M3 =>
  m_gd (m_in (x6 + (5 : Int32)) 360) (
  m_bd (m_sI M3 (k0 + 1) ((x6 + (5 : Int32)).toNatClampNeg) 0) fun M5 =>
  if x2 = 4 then
  m_bd (m_sI M5 k0 2 ((M5.1 k0 2) + (1 : Int32))) fun M7 =>
  f_X3_add_b116 k0 x1 x2 x3 x4 x5 M7
  else
  f_X3_add_b116 k0 x1 x2 x3 x4 x5 M5))
def f_X3_add_b64 (k0 : Nat) (x1 : Int32) (x2 : Int32) (x3 : Int32) (x4 : Int32) (x5 : Int32) (x6 : Int32) (s1 : Int32) (s2 : Int32) (M : m_M) : Option (Int32 × m_M) :=
  m_gd (m_in s1 360) (
  m_bd (m_sI M (k0 + 1) s1.toNatClampNeg s2) fun M9 =>
  m_ob (f_J0_charAt_5068e 2 x2) fun r10 =>
  if r10 = 45 then
  f_X3_add_b90 k0 x1 x2 x3 x4 x5 x6 (x6 + (4 : Int32)) 0 M9
  else
  f_X3_add_b90 k0 x1 x2 x3 x4 x5 x6 (x6 + (4 : Int32)) x5 M9)
def f_X3_add (k0 : Nat) (x1 : Int32) (x2 : Int32) (x3 : Int32) (x4 : Int32) (x5 : Int32) (M : m_M) : Option (Int32 × m_M) :=
  m_gd (m_in (((6 : Int32) * (M.1 k0 1)) + (0 : Int32)) 360) (
  m_bd (m_sI M (k0 + 1) ((((6 : Int32) * (M.1 k0 1)) + (0 : Int32)).toNatClampNeg) x1) fun M14 =>
  m_gd (m_in (((6 : Int32) * (M.1 k0 1)) + (1 : Int32)) 360) (
  m_bd (m_sI M14 (k0 + 1) ((((6 : Int32) * (M.1 k0 1)) + (1 : Int32)).toNatClampNeg) x2) fun M16 =>
  m_gd (m_in (((6 : Int32) * (M.1 k0 1)) + (2 : Int32)) 360) (
  m_bd (m_sI M16 (k0 + 1) ((((6 : Int32) * (M.1 k0 1)) + (2 : Int32)).toNatClampNeg) x3) fun M18 =>
  m_ob (f_J0_charAt_5068e 1 x2) fun r19 =>
  if r19 = 45 then
  f_X3_add_b64 k0 x1 x2 x3 x4 x5 ((6 : Int32) * (M.1 k0 1)) (((6 : Int32) * (M.1 k0 1)) + (3 : Int32)) 0 M18
  else
  f_X3_add_b64 k0 x1 x2 x3 x4 x5 ((6 : Int32) * (M.1 k0 1)) (((6 : Int32) * (M.1 k0 1)) + (3 : Int32)) x4 M18)))
set_option maxHeartbeats 4000000 in
set_option maxRecDepth 100000 in
theorem c_X3_add (l : Launch) (G : m_G) {k0 : Nat} {x1 : Int32} {x2 : Int32} {x3 : Int32} {x4 : Int32} {x5 : Int32} {M : m_M} {r0 : Int32} {M0 : m_M} (hk0 : m_isKept k0) (hres : f_X3_add k0 x1 x2 x3 x4 x5 M = some (r0, M0)) : Met l yX3_add (m_U yX3_add cX3_add 7 (some .int)) (m_R 4 85) (m_Pc G [.ref (m_ad G k0), .int x1, .int x2, .int x3, .int x4, .int x5] M) (m_Qi G r0 M0) 0 0 (m_A G) := by
  refine m_i0 (n := 7) RX3 rfl (by decide) (Nat.le_of_ble_eq_true rfl) ?_
  intro p e s m args below meth c X hr hlk hSt hP hS ls hl
  have hl : lv_has ls 7 [(0, .ref (m_ad G k0)), (1, .int x1), (2, .int x2), (3, .int x3), (4, .int x4), (5, .int x5)] := hl
  have B116 : ∀  (M : m_M) (H : Heap) (locs : List Loc) (ls : Array Slot), m_P G M H → va_S (m_A G) s.heap H locs → lv_has ls 7 [(0, .ref (m_ad G k0))] → f_X3_add_b116 k0 x1 x2 x3 x4 x5 M = some (r0, M0) → W p l e (m_R 4 85) s m args below meth c H locs 0 0 (MQ below (m_Qi G r0 M0) args s 0 0 (m_A G)) (F0 m 116 ls []) := by
    intro M H locs ls hP hS hl hres
    unfold f_X3_add_b116 at hres
    refine lv_aload_n X.1 X.2.1 dX3_add_116 rfl (lv_at hl 0 rfl) ?_
    refine lv_dup X.1 X.2.1 dX3_add_117 rfl ?_
    refine m_g3 (v := .int (M.1 k0 1)) X hSt hP hk0.1 1 (by decide) rfl k_f_X3_29 dX3_add_118 ?_
    refine lv_iconst (v := 1) X.1 X.2.1 dX3_add_121 (by decide) ?_
    refine lv_iadd X.1 X.2.1 dX3_add_122 ?_
    obtain ⟨M1, eM1, hres⟩ := m_bd_e hres
    refine m_pi3 X hSt hP hS hk0.1 1 (by decide) eM1 rfl rfl (by decide) k_f_X3_29 dX3_add_123 (fun H locs hP hS => ?_)
    refine lv_aload_n X.1 X.2.1 dX3_add_126 rfl (lv_at hl 0 rfl) ?_
    refine m_g3 (v := .int (M1.1 k0 1)) X hSt hP hk0.1 1 (by decide) rfl k_f_X3_29 dX3_add_127 ?_
    refine lv_iconst (v := 1) X.1 X.2.1 dX3_add_130 (by decide) ?_
    refine lv_isub X.1 X.2.1 dX3_add_131 ?_
    exact m_ri X hr hlk hP hS (Prod.mk.inj (Option.some.inj hres)).1 (Prod.mk.inj (Option.some.inj hres)).2 dX3_add_132
  have B90 : ∀  (x6 : Int32) (s1 : Int32) (s2 : Int32) (M : m_M) (H : Heap) (locs : List Loc) (ls : Array Slot), m_P G M H → va_S (m_A G) s.heap H locs → lv_has ls 7 [(0, .ref (m_ad G k0)), (2, .int x2), (6, .int x6)] → f_X3_add_b90 k0 x1 x2 x3 x4 x5 x6 s1 s2 M = some (r0, M0) → W p l e (m_R 4 85) s m args below meth c H locs 0 0 (MQ below (m_Qi G r0 M0) args s 0 0 (m_A G)) (F0 m 90 ls [.int s2, .int s1, .ref (m_ad G (k0 + 1))]) := by
    intro x6 s1 s2 M H locs ls hP hS hl hres
    unfold f_X3_add_b90 at hres
    obtain ⟨hg2, hres⟩ := m_gd_e hres
    obtain ⟨M3, eM3, hres⟩ := m_bd_e hres
    refine m_is (j := s1.toNatClampNeg) X hSt hP hS hk0.2.1 hg2 rfl dX3_add_90 eM3 (fun H locs hP hS => ?_)
    refine lv_aload_n X.1 X.2.1 dX3_add_91 rfl (lv_at hl 0 rfl) ?_
    refine m_g3 (v := .ref (m_ad G (k0 + 1))) X hSt hP hk0.1 5 (by decide) rfl k_f_X3_9 dX3_add_92 ?_
    refine lv_iload X.1 X.2.1 dX3_add_95 (lv_at hl 2 rfl) ?_
    refine lv_iconst (v := 5) X.1 X.2.1 dX3_add_97 (by decide) ?_
    refine lv_iadd X.1 X.2.1 dX3_add_98 ?_
    refine lv_iconst (v := 0) X.1 X.2.1 dX3_add_99 (by decide) ?_
    obtain ⟨hg4, hres⟩ := m_gd_e hres
    obtain ⟨M5, eM5, hres⟩ := m_bd_e hres
    refine m_is (j := ((x6 + (5 : Int32)).toNatClampNeg)) X hSt hP hS hk0.2.1 hg4 rfl dX3_add_100 eM5 (fun H locs hP hS => ?_)
    refine lv_iload_n X.1 X.2.1 dX3_add_101 rfl (lv_at hl 1 rfl) ?_
    refine lv_iconst (v := 4) X.1 X.2.1 dX3_add_102 (by decide) ?_
    refine lv_icmp_ne (tgt := 116) X.1 X.2.1 dX3_add_103 (by decide) (fun hc6 => ?_) (fun hc6 => ?_)
    · have hres := m_if hres hc6
      exact B116 M5 _ _ _ hP hS (lv_sub hl [0] rfl) hres
    · have hres := m_it hres hc6
      refine lv_aload_n X.1 X.2.1 dX3_add_106 rfl (lv_at hl 0 rfl) ?_
      refine lv_dup X.1 X.2.1 dX3_add_107 rfl ?_
      refine m_g3 (v := .int (M5.1 k0 2)) X hSt hP hk0.1 2 (by decide) rfl k_f_X3_32 dX3_add_108 ?_
      refine lv_iconst (v := 1) X.1 X.2.1 dX3_add_111 (by decide) ?_
      refine lv_iadd X.1 X.2.1 dX3_add_112 ?_
      obtain ⟨M7, eM7, hres⟩ := m_bd_e hres
      refine m_pi3 X hSt hP hS hk0.1 2 (by decide) eM7 rfl rfl (by decide) k_f_X3_32 dX3_add_113 (fun H locs hP hS => ?_)
      exact B116 M7 _ _ _ hP hS (lv_sub hl [0] rfl) hres
  have B64 : ∀  (x6 : Int32) (s1 : Int32) (s2 : Int32) (M : m_M) (H : Heap) (locs : List Loc) (ls : Array Slot), m_P G M H → va_S (m_A G) s.heap H locs → lv_has ls 7 [(0, .ref (m_ad G k0)), (2, .int x2), (5, .int x5), (6, .int x6)] → f_X3_add_b64 k0 x1 x2 x3 x4 x5 x6 s1 s2 M = some (r0, M0) → W p l e (m_R 4 85) s m args below meth c H locs 0 0 (MQ below (m_Qi G r0 M0) args s 0 0 (m_A G)) (F0 m 64 ls [.int s2, .int s1, .ref (m_ad G (k0 + 1))]) := by
    intro x6 s1 s2 M H locs ls hP hS hl hres
    unfold f_X3_add_b64 at hres
    obtain ⟨hg8, hres⟩ := m_gd_e hres
    obtain ⟨M9, eM9, hres⟩ := m_bd_e hres
    refine m_is (j := s1.toNatClampNeg) X hSt hP hS hk0.2.1 hg8 rfl dX3_add_64 eM9 (fun H locs hP hS => ?_)
    refine lv_aload_n X.1 X.2.1 dX3_add_65 rfl (lv_at hl 0 rfl) ?_
    refine m_g3 (v := .ref (m_ad G (k0 + 1))) X hSt hP hk0.1 5 (by decide) rfl k_f_X3_9 dX3_add_66 ?_
    refine lv_iload X.1 X.2.1 dX3_add_69 (lv_at hl 3 rfl) ?_
    refine lv_iconst (v := 4) X.1 X.2.1 dX3_add_71 (by decide) ?_
    refine lv_iadd X.1 X.2.1 dX3_add_72 ?_
    refine m_ld2 X hSt dX3_add_73 ?_
    refine lv_iload_n X.1 X.2.1 dX3_add_75 rfl (lv_at hl 1 rfl) ?_
    obtain ⟨r10, err10, hres⟩ := m_ob_e hres
    refine m_bn (m_cV (n := 1) (As := [.int x2]) (rest := [.int (x6 + (4 : Int32)), .ref (m_ad G (k0 + 1))]) X hSt hP hS hl.1 (c_J0_charAt_5068e l G (M := M9) (by decide) err10) k_c_yJ0_charAt_5068e k_m_X3_61 k_i_yJ0_charAt_5068e k_s_yJ0_charAt_5068e k_n_J0 (by decide +kernel) (m_rcS hSt hS (by decide)) rfl rfl ⟨Nat.le_of_ble_eq_true rfl, Nat.le_of_ble_eq_true rfl⟩ (Nat.le_of_ble_eq_true rfl) ⟨Nat.zero_le _, Nat.zero_le _⟩ dX3_add_76) hS (fun H locs hP hS hz11 => ?_)
    refine lv_bipush (v := 45) X.1 X.2.1 dX3_add_79 (by decide) ?_
    refine lv_icmp_ne (tgt := 88) X.1 X.2.1 dX3_add_81 (by decide) (fun hc12 => ?_) (fun hc12 => ?_)
    · have hres := m_if hres hc12
      refine lv_iload X.1 X.2.1 dX3_add_88 (lv_at hl 2 rfl) ?_
      exact B90 x6 (x6 + (4 : Int32)) x5 M9 _ _ _ hP hS (lv_sub hl [0, 1, 3] rfl) hres
    · have hres := m_it hres hc12
      refine lv_iconst (v := 0) X.1 X.2.1 dX3_add_84 (by decide) ?_
      refine lv_goto (tgt := 90) X.1 X.2.1 dX3_add_85 (by decide) ?_
      exact B90 x6 (x6 + (4 : Int32)) 0 M9 _ _ _ hP hS (lv_sub hl [0, 1, 3] rfl) hres
  unfold f_X3_add at hres
  refine lv_bipush (v := 6) X.1 X.2.1 dX3_add_0 (by decide) ?_
  refine lv_aload_n X.1 X.2.1 dX3_add_2 rfl (lv_at hl 0 rfl) ?_
  refine m_g3 (v := .int (M.1 k0 1)) X hSt hP hk0.1 1 (by decide) rfl k_f_X3_29 dX3_add_3 ?_
  refine lv_imul X.1 X.2.1 dX3_add_6 ?_
  refine lv_istore (lv' := [(6, .int ((6 : Int32) * (M.1 k0 1))), (0, .ref (m_ad G k0)), (1, .int x1), (2, .int x2), (3, .int x3), (4, .int x4), (5, .int x5)]) X.1 X.2.1 dX3_add_7 hl (by decide) rfl (fun ls hl => ?_)
  refine lv_aload_n X.1 X.2.1 dX3_add_9 rfl (lv_at hl 1 rfl) ?_
  refine m_g3 (v := .ref (m_ad G (k0 + 1))) X hSt hP hk0.1 5 (by decide) rfl k_f_X3_9 dX3_add_10 ?_
  refine lv_iload X.1 X.2.1 dX3_add_13 (lv_at hl 0 rfl) ?_
  refine lv_iconst (v := 0) X.1 X.2.1 dX3_add_15 (by decide) ?_
  refine lv_iadd X.1 X.2.1 dX3_add_16 ?_
  refine lv_iload_n X.1 X.2.1 dX3_add_17 rfl (lv_at hl 2 rfl) ?_
  obtain ⟨hg13, hres⟩ := m_gd_e hres
  obtain ⟨M14, eM14, hres⟩ := m_bd_e hres
  refine m_is (j := ((((6 : Int32) * (M.1 k0 1)) + (0 : Int32)).toNatClampNeg)) X hSt hP hS hk0.2.1 hg13 rfl dX3_add_18 eM14 (fun H locs hP hS => ?_)
  refine lv_aload_n X.1 X.2.1 dX3_add_19 rfl (lv_at hl 1 rfl) ?_
  refine m_g3 (v := .ref (m_ad G (k0 + 1))) X hSt hP hk0.1 5 (by decide) rfl k_f_X3_9 dX3_add_20 ?_
  refine lv_iload X.1 X.2.1 dX3_add_23 (lv_at hl 0 rfl) ?_
  refine lv_iconst (v := 1) X.1 X.2.1 dX3_add_25 (by decide) ?_
  refine lv_iadd X.1 X.2.1 dX3_add_26 ?_
  refine lv_iload_n X.1 X.2.1 dX3_add_27 rfl (lv_at hl 3 rfl) ?_
  obtain ⟨hg15, hres⟩ := m_gd_e hres
  obtain ⟨M16, eM16, hres⟩ := m_bd_e hres
  refine m_is (j := ((((6 : Int32) * (M.1 k0 1)) + (1 : Int32)).toNatClampNeg)) X hSt hP hS hk0.2.1 hg15 rfl dX3_add_28 eM16 (fun H locs hP hS => ?_)
  refine lv_aload_n X.1 X.2.1 dX3_add_29 rfl (lv_at hl 1 rfl) ?_
  refine m_g3 (v := .ref (m_ad G (k0 + 1))) X hSt hP hk0.1 5 (by decide) rfl k_f_X3_9 dX3_add_30 ?_
  refine lv_iload X.1 X.2.1 dX3_add_33 (lv_at hl 0 rfl) ?_
  refine lv_iconst (v := 2) X.1 X.2.1 dX3_add_35 (by decide) ?_
  refine lv_iadd X.1 X.2.1 dX3_add_36 ?_
  refine lv_iload_n X.1 X.2.1 dX3_add_37 rfl (lv_at hl 4 rfl) ?_
  obtain ⟨hg17, hres⟩ := m_gd_e hres
  obtain ⟨M18, eM18, hres⟩ := m_bd_e hres
  refine m_is (j := ((((6 : Int32) * (M.1 k0 1)) + (2 : Int32)).toNatClampNeg)) X hSt hP hS hk0.2.1 hg17 rfl dX3_add_38 eM18 (fun H locs hP hS => ?_)
  refine lv_aload_n X.1 X.2.1 dX3_add_39 rfl (lv_at hl 1 rfl) ?_
  refine m_g3 (v := .ref (m_ad G (k0 + 1))) X hSt hP hk0.1 5 (by decide) rfl k_f_X3_9 dX3_add_40 ?_
  refine lv_iload X.1 X.2.1 dX3_add_43 (lv_at hl 0 rfl) ?_
  refine lv_iconst (v := 3) X.1 X.2.1 dX3_add_45 (by decide) ?_
  refine lv_iadd X.1 X.2.1 dX3_add_46 ?_
  refine m_ld1 X hSt dX3_add_47 ?_
  refine lv_iload_n X.1 X.2.1 dX3_add_49 rfl (lv_at hl 3 rfl) ?_
  obtain ⟨r19, err19, hres⟩ := m_ob_e hres
  refine m_bn (m_cV (n := 1) (As := [.int x2]) (rest := [.int (((6 : Int32) * (M.1 k0 1)) + (3 : Int32)), .ref (m_ad G (k0 + 1))]) X hSt hP hS hl.1 (c_J0_charAt_5068e l G (M := M18) (by decide) err19) k_c_yJ0_charAt_5068e k_m_X3_61 k_i_yJ0_charAt_5068e k_s_yJ0_charAt_5068e k_n_J0 (by decide +kernel) (m_rcS hSt hS (by decide)) rfl rfl ⟨Nat.le_of_ble_eq_true rfl, Nat.le_of_ble_eq_true rfl⟩ (Nat.le_of_ble_eq_true rfl) ⟨Nat.zero_le _, Nat.zero_le _⟩ dX3_add_50) hS (fun H locs hP hS hz20 => ?_)
  refine lv_bipush (v := 45) X.1 X.2.1 dX3_add_53 (by decide) ?_
  refine lv_icmp_ne (tgt := 62) X.1 X.2.1 dX3_add_55 (by decide) (fun hc21 => ?_) (fun hc21 => ?_)
  · have hres := m_if hres hc21
    refine lv_iload X.1 X.2.1 dX3_add_62 (lv_at hl 5 rfl) ?_
    exact B64 ((6 : Int32) * (M.1 k0 1)) (((6 : Int32) * (M.1 k0 1)) + (3 : Int32)) x4 M18 _ _ _ hP hS (lv_sub hl [1, 3, 6, 0] rfl) hres
  · have hres := m_it hres hc21
    refine lv_iconst (v := 0) X.1 X.2.1 dX3_add_58 (by decide) ?_
    refine lv_goto (tgt := 64) X.1 X.2.1 dX3_add_59 (by decide) ?_
    exact B64 ((6 : Int32) * (M.1 k0 1)) (((6 : Int32) * (M.1 k0 1)) + (3 : Int32)) 0 M18 _ _ _ hP hS (lv_sub hl [1, 3, 6, 0] rfl) hres
theorem dX7_bring_0 : decode cX7_bring 0 = .ok (.aload_n 0, 1) := by decide +kernel
theorem dX7_bring_1 : decode cX7_bring 1 = .ok (.getfield 10, 3) := by decide +kernel
theorem dX7_bring_4 : decode cX7_bring 4 = .ok (.iload_n 1, 1) := by decide +kernel
theorem dX7_bring_5 : decode cX7_bring 5 = .ok (.iload_n 2, 1) := by decide +kernel
theorem dX7_bring_6 : decode cX7_bring 6 = .ok (.iload_n 3, 1) := by decide +kernel
theorem dX7_bring_7 : decode cX7_bring 7 = .ok (.iload 4, 2) := by decide +kernel
theorem dX7_bring_9 : decode cX7_bring 9 = .ok (.iload 5, 2) := by decide +kernel
theorem dX7_bring_11 : decode cX7_bring 11 = .ok (.invokevirtual 290, 3) := by decide +kernel
theorem dX7_bring_14 : decode cX7_bring 14 = .ok (.ifCond .ne 6, 3) := by decide +kernel
theorem dX7_bring_17 : decode cX7_bring 17 = .ok (.bipush (-2), 2) := by decide +kernel
theorem dX7_bring_19 : decode cX7_bring 19 = .ok (.ireturn, 1) := by decide +kernel
theorem dX7_bring_20 : decode cX7_bring 20 = .ok (.aload_n 0, 1) := by decide +kernel
theorem dX7_bring_21 : decode cX7_bring 21 = .ok (.getfield 29, 3) := by decide +kernel
theorem dX7_bring_24 : decode cX7_bring 24 = .ok (.sipush 999, 3) := by decide +kernel
theorem dX7_bring_27 : decode cX7_bring 27 = .ok (.iconst 0, 1) := by decide +kernel
theorem dX7_bring_28 : decode cX7_bring 28 = .ok (.invokevirtual 148, 3) := by decide +kernel
theorem dX7_bring_31 : decode cX7_bring 31 = .ok (.aload_n 0, 1) := by decide +kernel
theorem dX7_bring_32 : decode cX7_bring 32 = .ok (.getfield 29, 3) := by decide +kernel
theorem dX7_bring_35 : decode cX7_bring 35 = .ok (.iload_n 2, 1) := by decide +kernel
theorem dX7_bring_36 : decode cX7_bring 36 = .ok (.iload_n 3, 1) := by decide +kernel
theorem dX7_bring_37 : decode cX7_bring 37 = .ok (.iload 4, 2) := by decide +kernel
theorem dX7_bring_39 : decode cX7_bring 39 = .ok (.iload 5, 2) := by decide +kernel
theorem dX7_bring_41 : decode cX7_bring 41 = .ok (.invokevirtual 294, 3) := by decide +kernel
theorem dX7_bring_44 : decode cX7_bring 44 = .ok (.ifCond .eq 6, 3) := by decide +kernel
theorem dX7_bring_47 : decode cX7_bring 47 = .ok (.bipush (-3), 2) := by decide +kernel
theorem dX7_bring_49 : decode cX7_bring 49 = .ok (.ireturn, 1) := by decide +kernel
theorem dX7_bring_50 : decode cX7_bring 50 = .ok (.aload_n 0, 1) := by decide +kernel
theorem dX7_bring_51 : decode cX7_bring 51 = .ok (.getfield 10, 3) := by decide +kernel
theorem dX7_bring_54 : decode cX7_bring 54 = .ok (.getfield 97, 3) := by decide +kernel
theorem dX7_bring_57 : decode cX7_bring 57 = .ok (.bipush 60, 2) := by decide +kernel
theorem dX7_bring_59 : decode cX7_bring 59 = .ok (.if_icmp .lt 6, 3) := by decide +kernel
theorem dX7_bring_62 : decode cX7_bring 62 = .ok (.bipush (-4), 2) := by decide +kernel
theorem dX7_bring_64 : decode cX7_bring 64 = .ok (.ireturn, 1) := by decide +kernel
theorem dX7_bring_65 : decode cX7_bring 65 = .ok (.aload_n 0, 1) := by decide +kernel
theorem dX7_bring_66 : decode cX7_bring 66 = .ok (.getfield 10, 3) := by decide +kernel
theorem dX7_bring_69 : decode cX7_bring 69 = .ok (.iload_n 1, 1) := by decide +kernel
theorem dX7_bring_70 : decode cX7_bring 70 = .ok (.iload_n 2, 1) := by decide +kernel
theorem dX7_bring_71 : decode cX7_bring 71 = .ok (.iload_n 3, 1) := by decide +kernel
theorem dX7_bring_72 : decode cX7_bring 72 = .ok (.iload 4, 2) := by decide +kernel
theorem dX7_bring_74 : decode cX7_bring 74 = .ok (.iload 5, 2) := by decide +kernel
theorem dX7_bring_76 : decode cX7_bring 76 = .ok (.invokevirtual 298, 3) := by decide +kernel
theorem dX7_bring_79 : decode cX7_bring 79 = .ok (.ireturn, 1) := by decide +kernel
def f_X7_bring (n : Nat) (x1 : Int32) (x2 : Int32) (x3 : Int32) (x4 : Int32) (x5 : Int32) (M : m_M) : Option (Int32 × m_M) :=
  m_ob (f_X3_isWellTold 1 x1 x2 x3 x4 x5 M) fun r1 =>
  if r1 = 0 then
  some ((-2), M)
  else
  m_ob (f_X1_replay n 999 0 M) fun M4 =>
  m_ob (f_X1_refuses n x2 x3 x4 x5 M4) fun r5 =>
  if r5 = 0 then
  if (M4.1 1 1) < 60 then
  m_o2 (f_X3_add 1 x1 x2 x3 x4 x5 M4) fun r9 M10 =>
  some (r9, M10)
  else
  some ((-4), M4)
  else
  some ((-3), M4)
set_option maxHeartbeats 4000000 in
set_option maxRecDepth 100000 in
theorem c_X7_bring (l : Launch) (G : m_G) {n : Nat} {x1 : Int32} {x2 : Int32} {x3 : Int32} {x4 : Int32} {x5 : Int32} {M : m_M} {r0 : Int32} {M0 : m_M}  (hres : f_X7_bring n x1 x2 x3 x4 x5 M = some (r0, M0)) : Met l yX7_bring (m_U yX7_bring cX7_bring 6 (some .int)) (m_R 6 135) (m_Pc G [.ref (m_ad G 0), .int x1, .int x2, .int x3, .int x4, .int x5] M) (m_Qi G r0 M0) 0 0 (m_A G) := by
  refine m_i0 (n := 6) RX7 rfl (by decide) (Nat.le_of_ble_eq_true rfl) ?_
  intro p e s m args below meth c X hr hlk hSt hP hS ls hl
  have hl : lv_has ls 6 [(0, .ref (m_ad G 0)), (1, .int x1), (2, .int x2), (3, .int x3), (4, .int x4), (5, .int x5)] := hl
  unfold f_X7_bring at hres
  refine lv_aload_n X.1 X.2.1 dX7_bring_0 rfl (lv_at hl 0 rfl) ?_
  refine m_g7 (v := .ref (m_ad G 1)) X hSt hP m_z_0 0 (by decide) rfl k_f_X7_10 dX7_bring_1 ?_
  refine lv_iload_n X.1 X.2.1 dX7_bring_4 rfl (lv_at hl 1 rfl) ?_
  refine lv_iload_n X.1 X.2.1 dX7_bring_5 rfl (lv_at hl 2 rfl) ?_
  refine lv_iload_n X.1 X.2.1 dX7_bring_6 rfl (lv_at hl 3 rfl) ?_
  refine lv_iload X.1 X.2.1 dX7_bring_7 (lv_at hl 4 rfl) ?_
  refine lv_iload X.1 X.2.1 dX7_bring_9 (lv_at hl 5 rfl) ?_
  obtain ⟨r1, err1, hres⟩ := m_ob_e hres
  refine m_bz (m_cV (n := 5) (As := [.int x1, .int x2, .int x3, .int x4, .int x5]) (rest := []) X hSt hP hS hl.1 (c_X3_isWellTold l G m_kept_0 err1) k_c_yX3_isWellTold k_m_X7_290 k_i_yX3_isWellTold k_s_yX3_isWellTold k_n_X3 (by decide +kernel) (m_rc3 hSt hP m_kept_0.1) rfl rfl ⟨Nat.le_of_ble_eq_true rfl, Nat.le_of_ble_eq_true rfl⟩ (Nat.le_of_ble_eq_true rfl) ⟨Nat.zero_le _, Nat.zero_le _⟩ dX7_bring_11) hS (fun H locs hP hS hz2 => ?_)
  refine lv_if_ne (tgt := 20) X.1 X.2.1 dX7_bring_14 (by decide) (fun hc3 => ?_) (fun hc3 => ?_)
  · have hres := m_if hres hc3
    refine lv_aload_n X.1 X.2.1 dX7_bring_20 rfl (lv_at hl 0 rfl) ?_
    refine m_g7 (v := .ref (m_ad G 45)) X hSt hP m_z_0 3 (by decide) rfl k_f_X7_29 dX7_bring_21 ?_
    refine lv_sipush (v := 999) X.1 X.2.1 dX7_bring_24 (by decide) ?_
    refine lv_iconst (v := 0) X.1 X.2.1 dX7_bring_27 (by decide) ?_
    obtain ⟨M4, eM4, hres⟩ := m_ob_e hres
    refine m_bv (m_cV (n := 2) (As := [.int 999, .int 0]) (rest := []) X hSt hP hS hl.1 (c_X1_replay l G  eM4) k_c_yX1_replay k_m_X7_148 k_i_yX1_replay k_s_yX1_replay k_n_X1 (by decide +kernel) (m_rc1 hSt hP m_z_45) rfl rfl ⟨Nat.le_of_ble_eq_true rfl, Nat.le_of_ble_eq_true rfl⟩ (Nat.le_of_ble_eq_true rfl) ⟨Nat.zero_le _, Nat.zero_le _⟩ dX7_bring_28) hS (fun H locs hP hS => ?_)
    refine lv_aload_n X.1 X.2.1 dX7_bring_31 rfl (lv_at hl 0 rfl) ?_
    refine m_g7 (v := .ref (m_ad G 45)) X hSt hP m_z_0 3 (by decide) rfl k_f_X7_29 dX7_bring_32 ?_
    refine lv_iload_n X.1 X.2.1 dX7_bring_35 rfl (lv_at hl 2 rfl) ?_
    refine lv_iload_n X.1 X.2.1 dX7_bring_36 rfl (lv_at hl 3 rfl) ?_
    refine lv_iload X.1 X.2.1 dX7_bring_37 (lv_at hl 4 rfl) ?_
    refine lv_iload X.1 X.2.1 dX7_bring_39 (lv_at hl 5 rfl) ?_
    obtain ⟨r5, err5, hres⟩ := m_ob_e hres
    refine m_bz (m_cV (n := 4) (As := [.int x2, .int x3, .int x4, .int x5]) (rest := []) X hSt hP hS hl.1 (c_X1_refuses l G  err5) k_c_yX1_refuses k_m_X7_294 k_i_yX1_refuses k_s_yX1_refuses k_n_X1 (by decide +kernel) (m_rc1 hSt hP m_z_45) rfl rfl ⟨Nat.le_of_ble_eq_true rfl, Nat.le_of_ble_eq_true rfl⟩ (Nat.le_of_ble_eq_true rfl) ⟨Nat.zero_le _, Nat.zero_le _⟩ dX7_bring_41) hS (fun H locs hP hS hz6 => ?_)
    refine lv_if_eq (tgt := 50) X.1 X.2.1 dX7_bring_44 (by decide) (fun hc7 => ?_) (fun hc7 => ?_)
    · have hres := m_it hres hc7
      refine lv_aload_n X.1 X.2.1 dX7_bring_50 rfl (lv_at hl 0 rfl) ?_
      refine m_g7 (v := .ref (m_ad G 1)) X hSt hP m_z_0 0 (by decide) rfl k_f_X7_10 dX7_bring_51 ?_
      refine m_g3 (v := .int (M4.1 1 1)) X hSt hP m_kept_0.1 1 (by decide) rfl k_f_X7_97 dX7_bring_54 ?_
      refine lv_bipush (v := 60) X.1 X.2.1 dX7_bring_57 (by decide) ?_
      refine lv_icmp_lt (tgt := 65) X.1 X.2.1 dX7_bring_59 (by decide) (fun hc8 => ?_) (fun hc8 => ?_)
      · have hres := m_it hres hc8
        refine lv_aload_n X.1 X.2.1 dX7_bring_65 rfl (lv_at hl 0 rfl) ?_
        refine m_g7 (v := .ref (m_ad G 1)) X hSt hP m_z_0 0 (by decide) rfl k_f_X7_10 dX7_bring_66 ?_
        refine lv_iload_n X.1 X.2.1 dX7_bring_69 rfl (lv_at hl 1 rfl) ?_
        refine lv_iload_n X.1 X.2.1 dX7_bring_70 rfl (lv_at hl 2 rfl) ?_
        refine lv_iload_n X.1 X.2.1 dX7_bring_71 rfl (lv_at hl 3 rfl) ?_
        refine lv_iload X.1 X.2.1 dX7_bring_72 (lv_at hl 4 rfl) ?_
        refine lv_iload X.1 X.2.1 dX7_bring_74 (lv_at hl 5 rfl) ?_
        obtain ⟨r9, M10, err9, hres⟩ := m_o2_e hres
        refine m_bi (m_cV (n := 5) (As := [.int x1, .int x2, .int x3, .int x4, .int x5]) (rest := []) X hSt hP hS hl.1 (c_X3_add l G m_kept_0 err9) k_c_yX3_add k_m_X7_298 k_i_yX3_add k_s_yX3_add k_n_X3 (by decide +kernel) (m_rc3 hSt hP m_kept_0.1) rfl rfl ⟨Nat.le_of_ble_eq_true rfl, Nat.le_of_ble_eq_true rfl⟩ (Nat.le_of_ble_eq_true rfl) ⟨Nat.zero_le _, Nat.zero_le _⟩ dX7_bring_76) hS (fun H locs hP hS => ?_)
        exact m_ri X hr hlk hP hS (Prod.mk.inj (Option.some.inj hres)).1 (Prod.mk.inj (Option.some.inj hres)).2 dX7_bring_79
      · have hres := m_if hres hc8
        refine lv_bipush (v := (-4)) X.1 X.2.1 dX7_bring_62 (by decide) ?_
        exact m_ri X hr hlk hP hS (Prod.mk.inj (Option.some.inj hres)).1 (Prod.mk.inj (Option.some.inj hres)).2 dX7_bring_64
    · have hres := m_if hres hc7
      refine lv_bipush (v := (-3)) X.1 X.2.1 dX7_bring_47 (by decide) ?_
      exact m_ri X hr hlk hP hS (Prod.mk.inj (Option.some.inj hres)).1 (Prod.mk.inj (Option.some.inj hres)).2 dX7_bring_49
  · have hres := m_it hres hc3
    refine lv_bipush (v := (-2)) X.1 X.2.1 dX7_bring_17 (by decide) ?_
    exact m_ri X hr hlk hP hS (Prod.mk.inj (Option.some.inj hres)).1 (Prod.mk.inj (Option.some.inj hres)).2 dX7_bring_19
theorem dX7_clear_0 : decode cX7_clear 0 = .ok (.aload_n 0, 1) := by decide +kernel
theorem dX7_clear_1 : decode cX7_clear 1 = .ok (.getfield 43, 3) := by decide +kernel
theorem dX7_clear_4 : decode cX7_clear 4 = .ok (.getfield 86, 3) := by decide +kernel
theorem dX7_clear_7 : decode cX7_clear 7 = .ok (.istore_n 1, 1) := by decide +kernel
theorem dX7_clear_8 : decode cX7_clear 8 = .ok (.aload_n 0, 1) := by decide +kernel
theorem dX7_clear_9 : decode cX7_clear 9 = .ok (.getfield 43, 3) := by decide +kernel
theorem dX7_clear_12 : decode cX7_clear 12 = .ok (.iconst 0, 1) := by decide +kernel
theorem dX7_clear_13 : decode cX7_clear 13 = .ok (.putfield 86, 3) := by decide +kernel
theorem dX7_clear_16 : decode cX7_clear 16 = .ok (.iload_n 1, 1) := by decide +kernel
theorem dX7_clear_17 : decode cX7_clear 17 = .ok (.ireturn, 1) := by decide +kernel
def f_X7_clear (M : m_M) : Int32 × m_M :=
  m_bd (m_sI M 168 1 0) fun M1 =>
  ((M.1 168 1), M1)
set_option maxHeartbeats 4000000 in
set_option maxRecDepth 100000 in
theorem c_X7_clear (l : Launch) (G : m_G) {M : m_M} {r0 : Int32} {M0 : m_M}  (hres : f_X7_clear M = (r0, M0)) : Met l yX7_clear (m_U yX7_clear cX7_clear 2 (some .int)) (m_R 0 0) (m_Pc G [.ref (m_ad G 0)] M) (m_Qi G r0 M0) 0 0 (m_A G) := by
  refine m_i0 (n := 2) RX7 rfl (by decide) (Nat.le_of_ble_eq_true rfl) ?_
  intro p e s m args below meth c X hr hlk hSt hP hS ls hl
  have hl : lv_has ls 2 [(0, .ref (m_ad G 0))] := hl
  unfold f_X7_clear at hres
  refine lv_aload_n X.1 X.2.1 dX7_clear_0 rfl (lv_at hl 0 rfl) ?_
  refine m_g7 (v := .ref (m_ad G 168)) X hSt hP m_z_0 5 (by decide) rfl k_f_X7_43 dX7_clear_1 ?_
  refine m_g2 (v := .int (M.1 168 1)) X hSt hP m_z_168 1 (by decide) rfl k_f_X7_86 dX7_clear_4 ?_
  refine lv_istore_n (lv' := [(1, .int (M.1 168 1)), (0, .ref (m_ad G 0))]) X.1 X.2.1 dX7_clear_7 rfl hl (by decide) rfl (fun ls hl => ?_)
  refine lv_aload_n X.1 X.2.1 dX7_clear_8 rfl (lv_at hl 1 rfl) ?_
  refine m_g7 (v := .ref (m_ad G 168)) X hSt hP m_z_0 5 (by decide) rfl k_f_X7_43 dX7_clear_9 ?_
  refine lv_iconst (v := 0) X.1 X.2.1 dX7_clear_12 (by decide) ?_
  obtain ⟨M1, eM1, hres⟩ := m_bd_e hres
  refine m_pi2 X hSt hP hS m_z_168 1 (by decide) eM1 rfl rfl (by decide) k_f_X7_86 dX7_clear_13 (fun H locs hP hS => ?_)
  refine lv_iload_n X.1 X.2.1 dX7_clear_16 rfl (lv_at hl 0 rfl) ?_
  exact m_ri X hr hlk hP hS (Prod.mk.inj hres).1 (Prod.mk.inj hres).2 dX7_clear_17
theorem dX7_compareWays_0 : decode cX7_compareWays 0 = .ok (.aload_n 0, 1) := by decide +kernel
theorem dX7_compareWays_1 : decode cX7_compareWays 1 = .ok (.getfield 47, 3) := by decide +kernel
theorem dX7_compareWays_4 : decode cX7_compareWays 4 = .ok (.iload_n 1, 1) := by decide +kernel
theorem dX7_compareWays_5 : decode cX7_compareWays 5 = .ok (.laload, 1) := by decide +kernel
theorem dX7_compareWays_6 : decode cX7_compareWays 6 = .ok (.aload_n 0, 1) := by decide +kernel
theorem dX7_compareWays_7 : decode cX7_compareWays 7 = .ok (.getfield 51, 3) := by decide +kernel
theorem dX7_compareWays_10 : decode cX7_compareWays 10 = .ok (.iload_n 1, 1) := by decide +kernel
theorem dX7_compareWays_11 : decode cX7_compareWays 11 = .ok (.laload, 1) := by decide +kernel
theorem dX7_compareWays_12 : decode cX7_compareWays 12 = .ok (.aload_n 0, 1) := by decide +kernel
theorem dX7_compareWays_13 : decode cX7_compareWays 13 = .ok (.getfield 47, 3) := by decide +kernel
theorem dX7_compareWays_16 : decode cX7_compareWays 16 = .ok (.iload_n 2, 1) := by decide +kernel
theorem dX7_compareWays_17 : decode cX7_compareWays 17 = .ok (.laload, 1) := by decide +kernel
theorem dX7_compareWays_18 : decode cX7_compareWays 18 = .ok (.aload_n 0, 1) := by decide +kernel
theorem dX7_compareWays_19 : decode cX7_compareWays 19 = .ok (.getfield 51, 3) := by decide +kernel
theorem dX7_compareWays_22 : decode cX7_compareWays 22 = .ok (.iload_n 2, 1) := by decide +kernel
theorem dX7_compareWays_23 : decode cX7_compareWays 23 = .ok (.laload, 1) := by decide +kernel
theorem dX7_compareWays_24 : decode cX7_compareWays 24 = .ok (.invokestatic 216, 3) := by decide +kernel
theorem dX7_compareWays_27 : decode cX7_compareWays 27 = .ok (.ireturn, 1) := by decide +kernel
def f_X7_compareWays (x1 : Int32) (x2 : Int32) (M : m_M) : Option Int32 :=
  m_gd (m_in x1 32) (
  m_gd (m_in x2 32) (
  m_bd (f_X7_compare (M.2 170 x1.toNatClampNeg) (M.2 171 x1.toNatClampNeg) (M.2 170 x2.toNatClampNeg) (M.2 171 x2.toNatClampNeg)) fun r3 =>
  some r3))
set_option maxHeartbeats 4000000 in
set_option maxRecDepth 100000 in
theorem c_X7_compareWays (l : Launch) (G : m_G) {x1 : Int32} {x2 : Int32} {M : m_M} {r0 : Int32}  (hres : f_X7_compareWays x1 x2 M = some r0) : Met l yX7_compareWays (m_U yX7_compareWays cX7_compareWays 3 (some .int)) (m_R 2 50) (m_Pc G [.ref (m_ad G 0), .int x1, .int x2] M) (m_Qi G r0 M) 0 0 (m_A G) := by
  refine m_i0 (n := 3) RX7 rfl (by decide) (Nat.le_of_ble_eq_true rfl) ?_
  intro p e s m args below meth c X hr hlk hSt hP hS ls hl
  have hl : lv_has ls 3 [(0, .ref (m_ad G 0)), (1, .int x1), (2, .int x2)] := hl
  unfold f_X7_compareWays at hres
  refine lv_aload_n X.1 X.2.1 dX7_compareWays_0 rfl (lv_at hl 0 rfl) ?_
  refine m_g7 (v := .ref (m_ad G 170)) X hSt hP m_z_0 6 (by decide) rfl k_f_X7_47 dX7_compareWays_1 ?_
  refine lv_iload_n X.1 X.2.1 dX7_compareWays_4 rfl (lv_at hl 1 rfl) ?_
  obtain ⟨hg1, hres⟩ := m_gd_e hres
  refine m_la (j := x1.toNatClampNeg) X hSt hP m_z_170 hg1 rfl dX7_compareWays_5 ?_
  refine lv_aload_n X.1 X.2.1 dX7_compareWays_6 rfl (lv_at hl 0 rfl) ?_
  refine m_g7 (v := .ref (m_ad G 171)) X hSt hP m_z_0 7 (by decide) rfl k_f_X7_51 dX7_compareWays_7 ?_
  refine lv_iload_n X.1 X.2.1 dX7_compareWays_10 rfl (lv_at hl 1 rfl) ?_
  refine m_la (j := x1.toNatClampNeg) X hSt hP m_z_171 hg1 rfl dX7_compareWays_11 ?_
  refine lv_aload_n X.1 X.2.1 dX7_compareWays_12 rfl (lv_at hl 0 rfl) ?_
  refine m_g7 (v := .ref (m_ad G 170)) X hSt hP m_z_0 6 (by decide) rfl k_f_X7_47 dX7_compareWays_13 ?_
  refine lv_iload_n X.1 X.2.1 dX7_compareWays_16 rfl (lv_at hl 2 rfl) ?_
  obtain ⟨hg2, hres⟩ := m_gd_e hres
  refine m_la (j := x2.toNatClampNeg) X hSt hP m_z_170 hg2 rfl dX7_compareWays_17 ?_
  refine lv_aload_n X.1 X.2.1 dX7_compareWays_18 rfl (lv_at hl 0 rfl) ?_
  refine m_g7 (v := .ref (m_ad G 171)) X hSt hP m_z_0 7 (by decide) rfl k_f_X7_51 dX7_compareWays_19 ?_
  refine lv_iload_n X.1 X.2.1 dX7_compareWays_22 rfl (lv_at hl 2 rfl) ?_
  refine m_la (j := x2.toNatClampNeg) X hSt hP m_z_171 hg2 rfl dX7_compareWays_23 ?_
  obtain ⟨r3, err3, hres⟩ := m_bd_e hres
  refine m_bi (m_cS (n := 4) (As := [.long (M.2 170 x1.toNatClampNeg), .long (M.2 171 x1.toNatClampNeg), .long (M.2 170 x2.toNatClampNeg), .long (M.2 171 x2.toNatClampNeg)]) (rest := []) X hSt hP hS hl.1 (c_X7_compare l G (M := M)  err3) k_c_yX7_compare k_m_X7_216 k_t_yX7_compare k_n_X7 (by decide +kernel) rfl rfl ⟨Nat.le_of_ble_eq_true rfl, Nat.le_of_ble_eq_true rfl⟩ (Nat.le_of_ble_eq_true rfl) ⟨Nat.zero_le _, Nat.zero_le _⟩ dX7_compareWays_24) hS (fun H locs hP hS => ?_)
  exact m_ri X hr hlk hP hS (Option.some.inj hres) rfl dX7_compareWays_27
theorem dX3_howMany_0 : decode cX3_howMany 0 = .ok (.iload_n 1, 1) := by decide +kernel
theorem dX3_howMany_1 : decode cX3_howMany 1 = .ok (.tableswitch 51 0 3 #[31, 36, 41, 46], 31) := by decide +kernel
theorem dX3_howMany_32 : decode cX3_howMany 32 = .ok (.aload_n 0, 1) := by decide +kernel
theorem dX3_howMany_33 : decode cX3_howMany 33 = .ok (.getfield 25, 3) := by decide +kernel
theorem dX3_howMany_36 : decode cX3_howMany 36 = .ok (.ireturn, 1) := by decide +kernel
theorem dX3_howMany_37 : decode cX3_howMany 37 = .ok (.aload_n 0, 1) := by decide +kernel
theorem dX3_howMany_38 : decode cX3_howMany 38 = .ok (.getfield 29, 3) := by decide +kernel
theorem dX3_howMany_41 : decode cX3_howMany 41 = .ok (.ireturn, 1) := by decide +kernel
theorem dX3_howMany_42 : decode cX3_howMany 42 = .ok (.aload_n 0, 1) := by decide +kernel
theorem dX3_howMany_43 : decode cX3_howMany 43 = .ok (.getfield 32, 3) := by decide +kernel
theorem dX3_howMany_46 : decode cX3_howMany 46 = .ok (.ireturn, 1) := by decide +kernel
theorem dX3_howMany_47 : decode cX3_howMany 47 = .ok (.aload_n 0, 1) := by decide +kernel
theorem dX3_howMany_48 : decode cX3_howMany 48 = .ok (.getfield 35, 3) := by decide +kernel
theorem dX3_howMany_51 : decode cX3_howMany 51 = .ok (.ireturn, 1) := by decide +kernel
theorem dX3_howMany_52 : decode cX3_howMany 52 = .ok (.aload_n 0, 1) := by decide +kernel
theorem dX3_howMany_53 : decode cX3_howMany 53 = .ok (.getfield 38, 3) := by decide +kernel
theorem dX3_howMany_56 : decode cX3_howMany 56 = .ok (.ireturn, 1) := by decide +kernel
def f_X3_howMany (k0 : Nat) (x1 : Int32) (M : m_M) : Int32 :=
  if x1 = 0 then
  (M.1 k0 0)
  else
  if x1 = 1 then
  (M.1 k0 1)
  else
  if x1 = 2 then
  (M.1 k0 2)
  else
  if x1 = 3 then
  (M.1 k0 3)
  else
  (M.1 k0 4)
set_option maxHeartbeats 4000000 in
set_option maxRecDepth 100000 in
theorem c_X3_howMany (l : Launch) (G : m_G) {k0 : Nat} {x1 : Int32} {M : m_M} {r0 : Int32} (hk0 : m_isKept k0) (hres : f_X3_howMany k0 x1 M = r0) : Met l yX3_howMany (m_U yX3_howMany cX3_howMany 2 (some .int)) (m_R 0 0) (m_Pc G [.ref (m_ad G k0), .int x1] M) (m_Qi G r0 M) 0 0 (m_A G) := by
  refine m_i0 (n := 2) RX3 rfl (by decide) (Nat.le_of_ble_eq_true rfl) ?_
  intro p e s m args below meth c X hr hlk hSt hP hS ls hl
  have hl : lv_has ls 2 [(0, .ref (m_ad G k0)), (1, .int x1)] := hl
  unfold f_X3_howMany at hres
  refine lv_iload_n X.1 X.2.1 dX3_howMany_0 rfl (lv_at hl 1 rfl) ?_
  by_cases hc1 : x1 = 0
  · have hres := m_it hres hc1
    refine m_tin (tgt := 32) X dX3_howMany_1 ⟨_, hc1, by decide, by decide, rfl⟩ (by decide) ?_
    refine lv_aload_n X.1 X.2.1 dX3_howMany_32 rfl (lv_at hl 0 rfl) ?_
    refine m_g3 (v := .int (M.1 k0 0)) X hSt hP hk0.1 0 (by decide) rfl k_f_X3_25 dX3_howMany_33 ?_
    exact m_ri X hr hlk hP hS hres rfl dX3_howMany_36
  · have hres := m_if hres hc1
    by_cases hc2 : x1 = 1
    · have hres := m_it hres hc2
      refine m_tin (tgt := 37) X dX3_howMany_1 ⟨_, hc2, by decide, by decide, rfl⟩ (by decide) ?_
      refine lv_aload_n X.1 X.2.1 dX3_howMany_37 rfl (lv_at hl 0 rfl) ?_
      refine m_g3 (v := .int (M.1 k0 1)) X hSt hP hk0.1 1 (by decide) rfl k_f_X3_29 dX3_howMany_38 ?_
      exact m_ri X hr hlk hP hS hres rfl dX3_howMany_41
    · have hres := m_if hres hc2
      by_cases hc3 : x1 = 2
      · have hres := m_it hres hc3
        refine m_tin (tgt := 42) X dX3_howMany_1 ⟨_, hc3, by decide, by decide, rfl⟩ (by decide) ?_
        refine lv_aload_n X.1 X.2.1 dX3_howMany_42 rfl (lv_at hl 0 rfl) ?_
        refine m_g3 (v := .int (M.1 k0 2)) X hSt hP hk0.1 2 (by decide) rfl k_f_X3_32 dX3_howMany_43 ?_
        exact m_ri X hr hlk hP hS hres rfl dX3_howMany_46
      · have hres := m_if hres hc3
        by_cases hc4 : x1 = 3
        · have hres := m_it hres hc4
          refine m_tin (tgt := 47) X dX3_howMany_1 ⟨_, hc4, by decide, by decide, rfl⟩ (by decide) ?_
          refine lv_aload_n X.1 X.2.1 dX3_howMany_47 rfl (lv_at hl 0 rfl) ?_
          refine m_g3 (v := .int (M.1 k0 3)) X hSt hP hk0.1 3 (by decide) rfl k_f_X3_35 dX3_howMany_48 ?_
          exact m_ri X hr hlk hP hS hres rfl dX3_howMany_51
        · have hres := m_if hres hc4
          refine m_tdf (tgt := 52) X dX3_howMany_1 (by
    have := m_ne (z := 0) hc1 (by decide)
    have := m_ne (z := 1) hc2 (by decide)
    have := m_ne (z := 2) hc3 (by decide)
    have := m_ne (z := 3) hc4 (by decide)
    exact Or.inl (by omega)) (by decide) ?_
          refine lv_aload_n X.1 X.2.1 dX3_howMany_52 rfl (lv_at hl 0 rfl) ?_
          refine m_g3 (v := .int (M.1 k0 4)) X hSt hP hk0.1 4 (by decide) rfl k_f_X3_38 dX3_howMany_53 ?_
          exact m_ri X hr hlk hP hS hres rfl dX3_howMany_56
theorem dX7_count_0 : decode cX7_count 0 = .ok (.iload_n 1, 1) := by decide +kernel
theorem dX7_count_1 : decode cX7_count 1 = .ok (.ifCond .lt 9, 3) := by decide +kernel
theorem dX7_count_4 : decode cX7_count 4 = .ok (.iload_n 1, 1) := by decide +kernel
theorem dX7_count_5 : decode cX7_count 5 = .ok (.bipush 6, 2) := by decide +kernel
theorem dX7_count_7 : decode cX7_count 7 = .ok (.if_icmp .lt 6, 3) := by decide +kernel
theorem dX7_count_10 : decode cX7_count 10 = .ok (.bipush (-2), 2) := by decide +kernel
theorem dX7_count_12 : decode cX7_count 12 = .ok (.ireturn, 1) := by decide +kernel
theorem dX7_count_13 : decode cX7_count 13 = .ok (.iload_n 1, 1) := by decide +kernel
theorem dX7_count_14 : decode cX7_count 14 = .ok (.iconst 5, 1) := by decide +kernel
theorem dX7_count_15 : decode cX7_count 15 = .ok (.if_icmp .ne 13, 3) := by decide +kernel
theorem dX7_count_18 : decode cX7_count 18 = .ok (.aload_n 0, 1) := by decide +kernel
theorem dX7_count_19 : decode cX7_count 19 = .ok (.getfield 43, 3) := by decide +kernel
theorem dX7_count_22 : decode cX7_count 22 = .ok (.getfield 86, 3) := by decide +kernel
theorem dX7_count_25 : decode cX7_count 25 = .ok (.goto 11, 3) := by decide +kernel
theorem dX7_count_28 : decode cX7_count 28 = .ok (.aload_n 0, 1) := by decide +kernel
theorem dX7_count_29 : decode cX7_count 29 = .ok (.getfield 10, 3) := by decide +kernel
theorem dX7_count_32 : decode cX7_count 32 = .ok (.iload_n 1, 1) := by decide +kernel
theorem dX7_count_33 : decode cX7_count 33 = .ok (.invokevirtual 276, 3) := by decide +kernel
theorem dX7_count_36 : decode cX7_count 36 = .ok (.ireturn, 1) := by decide +kernel
def f_X7_count (x1 : Int32) (M : m_M) : Int32 :=
  if x1 < 0 then
  (-2)
  else
  if x1 < 6 then
  if x1 = 5 then
  (M.1 168 1)
  else
  m_bd (f_X3_howMany 1 x1 M) fun r4 =>
  r4
  else
  (-2)
set_option maxHeartbeats 4000000 in
set_option maxRecDepth 100000 in
theorem c_X7_count (l : Launch) (G : m_G) {x1 : Int32} {M : m_M} {r0 : Int32}  (hres : f_X7_count x1 M = r0) : Met l yX7_count (m_U yX7_count cX7_count 2 (some .int)) (m_R 1 21) (m_Pc G [.ref (m_ad G 0), .int x1] M) (m_Qi G r0 M) 0 0 (m_A G) := by
  refine m_i0 (n := 2) RX7 rfl (by decide) (Nat.le_of_ble_eq_true rfl) ?_
  intro p e s m args below meth c X hr hlk hSt hP hS ls hl
  have hl : lv_has ls 2 [(0, .ref (m_ad G 0)), (1, .int x1)] := hl
  unfold f_X7_count at hres
  refine lv_iload_n X.1 X.2.1 dX7_count_0 rfl (lv_at hl 1 rfl) ?_
  refine lv_if_lt (tgt := 10) X.1 X.2.1 dX7_count_1 (by decide) (fun hc1 => ?_) (fun hc1 => ?_)
  · have hres := m_it hres hc1
    refine lv_bipush (v := (-2)) X.1 X.2.1 dX7_count_10 (by decide) ?_
    exact m_ri X hr hlk hP hS hres rfl dX7_count_12
  · have hres := m_if hres hc1
    refine lv_iload_n X.1 X.2.1 dX7_count_4 rfl (lv_at hl 1 rfl) ?_
    refine lv_bipush (v := 6) X.1 X.2.1 dX7_count_5 (by decide) ?_
    refine lv_icmp_lt (tgt := 13) X.1 X.2.1 dX7_count_7 (by decide) (fun hc2 => ?_) (fun hc2 => ?_)
    · have hres := m_it hres hc2
      refine lv_iload_n X.1 X.2.1 dX7_count_13 rfl (lv_at hl 1 rfl) ?_
      refine lv_iconst (v := 5) X.1 X.2.1 dX7_count_14 (by decide) ?_
      refine lv_icmp_ne (tgt := 28) X.1 X.2.1 dX7_count_15 (by decide) (fun hc3 => ?_) (fun hc3 => ?_)
      · have hres := m_if hres hc3
        refine lv_aload_n X.1 X.2.1 dX7_count_28 rfl (lv_at hl 0 rfl) ?_
        refine m_g7 (v := .ref (m_ad G 1)) X hSt hP m_z_0 0 (by decide) rfl k_f_X7_10 dX7_count_29 ?_
        refine lv_iload_n X.1 X.2.1 dX7_count_32 rfl (lv_at hl 1 rfl) ?_
        obtain ⟨r4, err4, hres⟩ := m_bd_e hres
        refine m_bi (m_cV (n := 1) (As := [.int x1]) (rest := []) X hSt hP hS hl.1 (c_X3_howMany l G m_kept_0 err4) k_c_yX3_howMany k_m_X7_276 k_i_yX3_howMany k_s_yX3_howMany k_n_X3 (by decide +kernel) (m_rc3 hSt hP m_kept_0.1) rfl rfl ⟨Nat.le_of_ble_eq_true rfl, Nat.le_of_ble_eq_true rfl⟩ (Nat.le_of_ble_eq_true rfl) ⟨Nat.zero_le _, Nat.zero_le _⟩ dX7_count_33) hS (fun H locs hP hS => ?_)
        exact m_ri X hr hlk hP hS hres rfl dX7_count_36
      · have hres := m_it hres hc3
        refine lv_aload_n X.1 X.2.1 dX7_count_18 rfl (lv_at hl 0 rfl) ?_
        refine m_g7 (v := .ref (m_ad G 168)) X hSt hP m_z_0 5 (by decide) rfl k_f_X7_43 dX7_count_19 ?_
        refine m_g2 (v := .int (M.1 168 1)) X hSt hP m_z_168 1 (by decide) rfl k_f_X7_86 dX7_count_22 ?_
        refine lv_goto (tgt := 36) X.1 X.2.1 dX7_count_25 (by decide) ?_
        exact m_ri X hr hlk hP hS hres rfl dX7_count_36
    · have hres := m_if hres hc2
      refine lv_bipush (v := (-2)) X.1 X.2.1 dX7_count_10 (by decide) ?_
      exact m_ri X hr hlk hP hS hres rfl dX7_count_12
theorem dX4_digestFrom_0 : decode cX4_digestFrom 0 = .ok (.ldc2_w 41, 3) := by decide +kernel
theorem dX4_digestFrom_3 : decode cX4_digestFrom 3 = .ok (.lload_n 1, 1) := by decide +kernel
theorem dX4_digestFrom_4 : decode cX4_digestFrom 4 = .ok (.lmul, 1) := by decide +kernel
theorem dX4_digestFrom_5 : decode cX4_digestFrom 5 = .ok (.aload_n 0, 1) := by decide +kernel
theorem dX4_digestFrom_6 : decode cX4_digestFrom 6 = .ok (.getfield 29, 3) := by decide +kernel
theorem dX4_digestFrom_9 : decode cX4_digestFrom 9 = .ok (.i2l, 1) := by decide +kernel
theorem dX4_digestFrom_10 : decode cX4_digestFrom 10 = .ok (.ladd, 1) := by decide +kernel
theorem dX4_digestFrom_11 : decode cX4_digestFrom 11 = .ok (.lstore_n 3, 1) := by decide +kernel
theorem dX4_digestFrom_12 : decode cX4_digestFrom 12 = .ok (.iconst 0, 1) := by decide +kernel
theorem dX4_digestFrom_13 : decode cX4_digestFrom 13 = .ok (.istore 5, 2) := by decide +kernel
theorem dX4_digestFrom_15 : decode cX4_digestFrom 15 = .ok (.iload 5, 2) := by decide +kernel
theorem dX4_digestFrom_17 : decode cX4_digestFrom 17 = .ok (.aload_n 0, 1) := by decide +kernel
theorem dX4_digestFrom_18 : decode cX4_digestFrom 18 = .ok (.getfield 29, 3) := by decide +kernel
theorem dX4_digestFrom_21 : decode cX4_digestFrom 21 = .ok (.if_icmp .ge 24, 3) := by decide +kernel
theorem dX4_digestFrom_24 : decode cX4_digestFrom 24 = .ok (.ldc2_w 41, 3) := by decide +kernel
theorem dX4_digestFrom_27 : decode cX4_digestFrom 27 = .ok (.lload_n 3, 1) := by decide +kernel
theorem dX4_digestFrom_28 : decode cX4_digestFrom 28 = .ok (.lmul, 1) := by decide +kernel
theorem dX4_digestFrom_29 : decode cX4_digestFrom 29 = .ok (.aload_n 0, 1) := by decide +kernel
theorem dX4_digestFrom_30 : decode cX4_digestFrom 30 = .ok (.getfield 9, 3) := by decide +kernel
theorem dX4_digestFrom_33 : decode cX4_digestFrom 33 = .ok (.iload 5, 2) := by decide +kernel
theorem dX4_digestFrom_35 : decode cX4_digestFrom 35 = .ok (.iaload, 1) := by decide +kernel
theorem dX4_digestFrom_36 : decode cX4_digestFrom 36 = .ok (.i2l, 1) := by decide +kernel
theorem dX4_digestFrom_37 : decode cX4_digestFrom 37 = .ok (.ladd, 1) := by decide +kernel
theorem dX4_digestFrom_38 : decode cX4_digestFrom 38 = .ok (.lstore_n 3, 1) := by decide +kernel
theorem dX4_digestFrom_39 : decode cX4_digestFrom 39 = .ok (.iinc 5 1, 3) := by decide +kernel
theorem dX4_digestFrom_42 : decode cX4_digestFrom 42 = .ok (.goto (-27), 3) := by decide +kernel
theorem dX4_digestFrom_45 : decode cX4_digestFrom 45 = .ok (.lload_n 3, 1) := by decide +kernel
theorem dX4_digestFrom_46 : decode cX4_digestFrom 46 = .ok (.lreturn, 1) := by decide +kernel
def f_X4_digestFrom_b15 (n : Nat) (k0 : Nat) (x1 : Int64) (M : m_M) : Nat → Int64 → Int32 → Option Int64
  | 0, _, _ => none
  | u + 1, x3, x5 =>
    if (M.1 k0 1) ≤ x5 then
  some x3
  else
  m_gd (m_in x5 50) (
  m_bd (((31 : Int64) * x3) + ((M.1 (k0 + 1) x5.toNatClampNeg).toInt64)) fun t3 =>
  f_X4_digestFrom_b15 n k0 x1 M u t3 (x5 + 1))
def f_X4_digestFrom (n : Nat) (k0 : Nat) (x1 : Int64) (M : m_M) : Option Int64 :=
  m_bd (((31 : Int64) * x1) + ((M.1 k0 1).toInt64)) fun t4 =>
  f_X4_digestFrom_b15 n k0 x1 M n t4 0
set_option maxHeartbeats 4000000 in
set_option maxRecDepth 100000 in
theorem c_X4_digestFrom (l : Launch) (G : m_G) {n : Nat} {k0 : Nat} {x1 : Int64} {M : m_M} {r0 : Int64} (hk0 : m_isLaw k0) (hres : f_X4_digestFrom n k0 x1 M = some r0) : Met l yX4_digestFrom (m_U yX4_digestFrom cX4_digestFrom 6 (some .long)) (m_R 0 0) (m_Pc G [.ref (m_ad G k0), .long x1] M) (m_Ql G r0 M) 0 0 (m_A G) := by
  refine m_i0 (n := 6) RX4 rfl (by decide) (Nat.le_of_ble_eq_true rfl) ?_
  intro p e s m args below meth c X hr hlk hSt hP hS ls hl
  have hl : lv_has ls 6 [(0, .ref (m_ad G k0)), (1, .long x1)] := hl
  have B15 : ∀ (u : Nat) (x3 : Int64) (x5 : Int32) (H : Heap) (locs : List Loc) (ls : Array Slot), m_P G M H → va_S (m_A G) s.heap H locs → lv_has ls 6 [(0, .ref (m_ad G k0)), (3, .long x3), (5, .int x5)] → f_X4_digestFrom_b15 n k0 x1 M u x3 x5 = some r0 → W p l e (m_R 0 0) s m args below meth c H locs 0 0 (MQ below (m_Ql G r0 M) args s 0 0 (m_A G)) (F0 m 15 ls []) := by
    intro u
    induction u with
    | zero =>
      intro x3 x5 H locs ls hP hS hl hres
      cases hres
    | succ u ih =>
      intro x3 x5 H locs ls hP hS hl hres
      rw [f_X4_digestFrom_b15] at hres
      refine lv_iload X.1 X.2.1 dX4_digestFrom_15 (lv_at hl 2 rfl) ?_
      refine lv_aload_n X.1 X.2.1 dX4_digestFrom_17 rfl (lv_at hl 0 rfl) ?_
      refine m_g4 (v := .int (M.1 k0 1)) X hSt hP hk0.1 1 (by decide) rfl k_f_X4_29 dX4_digestFrom_18 ?_
      refine lv_icmp_ge (tgt := 45) X.1 X.2.1 dX4_digestFrom_21 (by decide) (fun hc1 => ?_) (fun hc1 => ?_)
      · have hres := m_it hres hc1
        refine lv_lload_n X.1 X.2.1 dX4_digestFrom_45 rfl (lv_at hl 1 rfl) ?_
        exact m_rl X hr hlk hP hS (Option.some.inj hres) rfl dX4_digestFrom_46
      · have hres := m_if hres hc1
        refine lv_ldc2 (v := 31) X.1 X.2.1 X.2.2.2.1 (X.2.2.2.2 _ k_l_X4_41) dX4_digestFrom_24 ?_
        refine lv_lload_n X.1 X.2.1 dX4_digestFrom_27 rfl (lv_at hl 1 rfl) ?_
        refine lv_lmul X.1 X.2.1 dX4_digestFrom_28 ?_
        refine lv_aload_n X.1 X.2.1 dX4_digestFrom_29 rfl (lv_at hl 0 rfl) ?_
        refine m_g4 (v := .ref (m_ad G (k0 + 1))) X hSt hP hk0.1 0 (by decide) rfl k_f_X4_9 dX4_digestFrom_30 ?_
        refine lv_iload X.1 X.2.1 dX4_digestFrom_33 (lv_at hl 2 rfl) ?_
        obtain ⟨hg2, hres⟩ := m_gd_e hres
        refine m_ia (j := x5.toNatClampNeg) X hSt hP hk0.2.1 hg2 rfl dX4_digestFrom_35 ?_
        refine lv_i2l (v := (M.1 (k0 + 1) x5.toNatClampNeg).toInt64) X.1 X.2.1 dX4_digestFrom_36 rfl ?_
        refine lv_ladd X.1 X.2.1 dX4_digestFrom_37 ?_
        obtain ⟨t3, et3, hres⟩ := m_bd_e hres
        refine m_tl et3 ?_
        refine lv_lstore_n (lv' := [(3, .long t3), (0, .ref (m_ad G k0)), (5, .int x5)]) X.1 X.2.1 dX4_digestFrom_38 rfl hl (by decide) rfl (fun ls hl => ?_)
        refine lv_iinc (v := (x5 + 1)) (lv' := [(5, .int (x5 + 1)), (3, .long t3), (0, .ref (m_ad G k0))]) X.1 X.2.1 dX4_digestFrom_39 hl (k := 2) rfl rfl (by decide) rfl (fun ls hl => ?_)
        refine lv_goto (tgt := 15) X.1 X.2.1 dX4_digestFrom_42 (by decide) ?_
        exact ih t3 (x5 + 1) _ _ _ hP hS (lv_sub hl [2, 1, 0] rfl) hres
  unfold f_X4_digestFrom at hres
  refine lv_ldc2 (v := 31) X.1 X.2.1 X.2.2.2.1 (X.2.2.2.2 _ k_l_X4_41) dX4_digestFrom_0 ?_
  refine lv_lload_n X.1 X.2.1 dX4_digestFrom_3 rfl (lv_at hl 1 rfl) ?_
  refine lv_lmul X.1 X.2.1 dX4_digestFrom_4 ?_
  refine lv_aload_n X.1 X.2.1 dX4_digestFrom_5 rfl (lv_at hl 0 rfl) ?_
  refine m_g4 (v := .int (M.1 k0 1)) X hSt hP hk0.1 1 (by decide) rfl k_f_X4_29 dX4_digestFrom_6 ?_
  refine lv_i2l (v := (M.1 k0 1).toInt64) X.1 X.2.1 dX4_digestFrom_9 rfl ?_
  refine lv_ladd X.1 X.2.1 dX4_digestFrom_10 ?_
  obtain ⟨t4, et4, hres⟩ := m_bd_e hres
  refine m_tl et4 ?_
  refine lv_lstore_n (lv' := [(3, .long t4), (0, .ref (m_ad G k0)), (1, .long x1)]) X.1 X.2.1 dX4_digestFrom_11 rfl hl (by decide) rfl (fun ls hl => ?_)
  refine lv_iconst (v := 0) X.1 X.2.1 dX4_digestFrom_12 (by decide) ?_
  refine lv_istore (lv' := [(5, .int 0), (3, .long t4), (0, .ref (m_ad G k0)), (1, .long x1)]) X.1 X.2.1 dX4_digestFrom_13 hl (by decide) rfl (fun ls hl => ?_)
  exact B15 n t4 0 _ _ _ hP hS (lv_sub hl [2, 1, 0] rfl) hres
theorem dX7_digestOfPersons_0 : decode cX7_digestOfPersons 0 = .ok (.lload_n 1, 1) := by decide +kernel
theorem dX7_digestOfPersons_1 : decode cX7_digestOfPersons 1 = .ok (.lstore_n 3, 1) := by decide +kernel
theorem dX7_digestOfPersons_2 : decode cX7_digestOfPersons 2 = .ok (.aload_n 0, 1) := by decide +kernel
theorem dX7_digestOfPersons_3 : decode cX7_digestOfPersons 3 = .ok (.getfield 29, 3) := by decide +kernel
theorem dX7_digestOfPersons_6 : decode cX7_digestOfPersons 6 = .ok (.sipush 999, 3) := by decide +kernel
theorem dX7_digestOfPersons_9 : decode cX7_digestOfPersons 9 = .ok (.iconst 0, 1) := by decide +kernel
theorem dX7_digestOfPersons_10 : decode cX7_digestOfPersons 10 = .ok (.invokevirtual 168, 3) := by decide +kernel
theorem dX7_digestOfPersons_13 : decode cX7_digestOfPersons 13 = .ok (.iconst 0, 1) := by decide +kernel
theorem dX7_digestOfPersons_14 : decode cX7_digestOfPersons 14 = .ok (.istore 5, 2) := by decide +kernel
theorem dX7_digestOfPersons_16 : decode cX7_digestOfPersons 16 = .ok (.iload 5, 2) := by decide +kernel
theorem dX7_digestOfPersons_18 : decode cX7_digestOfPersons 18 = .ok (.aload_n 0, 1) := by decide +kernel
theorem dX7_digestOfPersons_19 : decode cX7_digestOfPersons 19 = .ok (.getfield 10, 3) := by decide +kernel
theorem dX7_digestOfPersons_22 : decode cX7_digestOfPersons 22 = .ok (.getfield 61, 3) := by decide +kernel
theorem dX7_digestOfPersons_25 : decode cX7_digestOfPersons 25 = .ok (.if_icmp .ge 91, 3) := by decide +kernel
theorem dX7_digestOfPersons_28 : decode cX7_digestOfPersons 28 = .ok (.ldc2_w 281, 3) := by decide +kernel
theorem dX7_digestOfPersons_31 : decode cX7_digestOfPersons 31 = .ok (.lload_n 3, 1) := by decide +kernel
theorem dX7_digestOfPersons_32 : decode cX7_digestOfPersons 32 = .ok (.lmul, 1) := by decide +kernel
theorem dX7_digestOfPersons_33 : decode cX7_digestOfPersons 33 = .ok (.aload_n 0, 1) := by decide +kernel
theorem dX7_digestOfPersons_34 : decode cX7_digestOfPersons 34 = .ok (.getfield 29, 3) := by decide +kernel
theorem dX7_digestOfPersons_37 : decode cX7_digestOfPersons 37 = .ok (.getfield 152, 3) := by decide +kernel
theorem dX7_digestOfPersons_40 : decode cX7_digestOfPersons 40 = .ok (.iload 5, 2) := by decide +kernel
theorem dX7_digestOfPersons_42 : decode cX7_digestOfPersons 42 = .ok (.aaload, 1) := by decide +kernel
theorem dX7_digestOfPersons_43 : decode cX7_digestOfPersons 43 = .ok (.getfield 156, 3) := by decide +kernel
theorem dX7_digestOfPersons_46 : decode cX7_digestOfPersons 46 = .ok (.i2l, 1) := by decide +kernel
theorem dX7_digestOfPersons_47 : decode cX7_digestOfPersons 47 = .ok (.ladd, 1) := by decide +kernel
theorem dX7_digestOfPersons_48 : decode cX7_digestOfPersons 48 = .ok (.lstore_n 3, 1) := by decide +kernel
theorem dX7_digestOfPersons_49 : decode cX7_digestOfPersons 49 = .ok (.ldc2_w 281, 3) := by decide +kernel
theorem dX7_digestOfPersons_52 : decode cX7_digestOfPersons 52 = .ok (.lload_n 3, 1) := by decide +kernel
theorem dX7_digestOfPersons_53 : decode cX7_digestOfPersons 53 = .ok (.lmul, 1) := by decide +kernel
theorem dX7_digestOfPersons_54 : decode cX7_digestOfPersons 54 = .ok (.aload_n 0, 1) := by decide +kernel
theorem dX7_digestOfPersons_55 : decode cX7_digestOfPersons 55 = .ok (.getfield 29, 3) := by decide +kernel
theorem dX7_digestOfPersons_58 : decode cX7_digestOfPersons 58 = .ok (.getfield 152, 3) := by decide +kernel
theorem dX7_digestOfPersons_61 : decode cX7_digestOfPersons 61 = .ok (.iload 5, 2) := by decide +kernel
theorem dX7_digestOfPersons_63 : decode cX7_digestOfPersons 63 = .ok (.aaload, 1) := by decide +kernel
theorem dX7_digestOfPersons_64 : decode cX7_digestOfPersons 64 = .ok (.invokevirtual 165, 3) := by decide +kernel
theorem dX7_digestOfPersons_67 : decode cX7_digestOfPersons 67 = .ok (.i2l, 1) := by decide +kernel
theorem dX7_digestOfPersons_68 : decode cX7_digestOfPersons 68 = .ok (.ladd, 1) := by decide +kernel
theorem dX7_digestOfPersons_69 : decode cX7_digestOfPersons 69 = .ok (.lstore_n 3, 1) := by decide +kernel
theorem dX7_digestOfPersons_70 : decode cX7_digestOfPersons 70 = .ok (.ldc2_w 281, 3) := by decide +kernel
theorem dX7_digestOfPersons_73 : decode cX7_digestOfPersons 73 = .ok (.lload_n 3, 1) := by decide +kernel
theorem dX7_digestOfPersons_74 : decode cX7_digestOfPersons 74 = .ok (.lmul, 1) := by decide +kernel
theorem dX7_digestOfPersons_75 : decode cX7_digestOfPersons 75 = .ok (.aload_n 0, 1) := by decide +kernel
theorem dX7_digestOfPersons_76 : decode cX7_digestOfPersons 76 = .ok (.getfield 29, 3) := by decide +kernel
theorem dX7_digestOfPersons_79 : decode cX7_digestOfPersons 79 = .ok (.iload 5, 2) := by decide +kernel
theorem dX7_digestOfPersons_81 : decode cX7_digestOfPersons 81 = .ok (.iconst 0, 1) := by decide +kernel
theorem dX7_digestOfPersons_82 : decode cX7_digestOfPersons 82 = .ok (.lconst 0, 1) := by decide +kernel
theorem dX7_digestOfPersons_83 : decode cX7_digestOfPersons 83 = .ok (.lconst 0, 1) := by decide +kernel
theorem dX7_digestOfPersons_84 : decode cX7_digestOfPersons 84 = .ok (.invokevirtual 180, 3) := by decide +kernel
theorem dX7_digestOfPersons_87 : decode cX7_digestOfPersons 87 = .ok (.i2l, 1) := by decide +kernel
theorem dX7_digestOfPersons_88 : decode cX7_digestOfPersons 88 = .ok (.ladd, 1) := by decide +kernel
theorem dX7_digestOfPersons_89 : decode cX7_digestOfPersons 89 = .ok (.lstore_n 3, 1) := by decide +kernel
theorem dX7_digestOfPersons_90 : decode cX7_digestOfPersons 90 = .ok (.ldc2_w 281, 3) := by decide +kernel
theorem dX7_digestOfPersons_93 : decode cX7_digestOfPersons 93 = .ok (.lload_n 3, 1) := by decide +kernel
theorem dX7_digestOfPersons_94 : decode cX7_digestOfPersons 94 = .ok (.lmul, 1) := by decide +kernel
theorem dX7_digestOfPersons_95 : decode cX7_digestOfPersons 95 = .ok (.aload_n 0, 1) := by decide +kernel
theorem dX7_digestOfPersons_96 : decode cX7_digestOfPersons 96 = .ok (.getfield 29, 3) := by decide +kernel
theorem dX7_digestOfPersons_99 : decode cX7_digestOfPersons 99 = .ok (.iload 5, 2) := by decide +kernel
theorem dX7_digestOfPersons_101 : decode cX7_digestOfPersons 101 = .ok (.iconst 1, 1) := by decide +kernel
theorem dX7_digestOfPersons_102 : decode cX7_digestOfPersons 102 = .ok (.lconst 0, 1) := by decide +kernel
theorem dX7_digestOfPersons_103 : decode cX7_digestOfPersons 103 = .ok (.lconst 0, 1) := by decide +kernel
theorem dX7_digestOfPersons_104 : decode cX7_digestOfPersons 104 = .ok (.invokevirtual 180, 3) := by decide +kernel
theorem dX7_digestOfPersons_107 : decode cX7_digestOfPersons 107 = .ok (.i2l, 1) := by decide +kernel
theorem dX7_digestOfPersons_108 : decode cX7_digestOfPersons 108 = .ok (.ladd, 1) := by decide +kernel
theorem dX7_digestOfPersons_109 : decode cX7_digestOfPersons 109 = .ok (.lstore_n 3, 1) := by decide +kernel
theorem dX7_digestOfPersons_110 : decode cX7_digestOfPersons 110 = .ok (.iinc 5 1, 3) := by decide +kernel
theorem dX7_digestOfPersons_113 : decode cX7_digestOfPersons 113 = .ok (.goto (-97), 3) := by decide +kernel
theorem dX7_digestOfPersons_116 : decode cX7_digestOfPersons 116 = .ok (.lload_n 3, 1) := by decide +kernel
theorem dX7_digestOfPersons_117 : decode cX7_digestOfPersons 117 = .ok (.lreturn, 1) := by decide +kernel
def f_X7_digestOfPersons_b16 (n : Nat) (x1 : Int64) : Nat → Int64 → Int32 → m_M → Option (Int64 × m_M)
  | 0, _, _, _ => none
  | u + 1, x3, x5, M =>
    if (M.1 1 0) ≤ x5 then
  some (x3, M)
  else
  m_gd (m_in x5 10) (
  m_bd (((31 : Int64) * x3) + ((M.1 (49 + 5 * x5.toNatClampNeg) 0).toInt64)) fun t3 =>
  m_ob (f_X5_allParts n (49 + 5 * x5.toNatClampNeg) M) fun r4 =>
  m_o2 (f_X1_netOf n x5 0 0 0 M) fun r5 M6 =>
  m_bd (((31 : Int64) * (((31 : Int64) * t3) + r4.toInt64)) + r5.toInt64) fun t7 =>
  m_o2 (f_X1_netOf n x5 1 0 0 M6) fun r8 M9 =>
  f_X7_digestOfPersons_b16 n x1 u (((31 : Int64) * t7) + r8.toInt64) (x5 + 1) M9)
def f_X7_digestOfPersons (n : Nat) (x1 : Int64) (M : m_M) : Option (Int64 × m_M) :=
  m_ob (f_X1_reckon n 999 0 M) fun M10 =>
  f_X7_digestOfPersons_b16 n x1 n x1 0 M10
set_option maxHeartbeats 4000000 in
set_option maxRecDepth 100000 in
theorem c_X7_digestOfPersons (l : Launch) (G : m_G) {n : Nat} {x1 : Int64} {M : m_M} {r0 : Int64} {M0 : m_M}  (hres : f_X7_digestOfPersons n x1 M = some (r0, M0)) : Met l yX7_digestOfPersons (m_U yX7_digestOfPersons cX7_digestOfPersons 6 (some .long)) (m_R 7 157) (m_Pc G [.ref (m_ad G 0), .long x1] M) (m_Ql G r0 M0) 0 0 (m_A G) := by
  refine m_i0 (n := 6) RX7 rfl (by decide) (Nat.le_of_ble_eq_true rfl) ?_
  intro p e s m args below meth c X hr hlk hSt hP hS ls hl
  have hl : lv_has ls 6 [(0, .ref (m_ad G 0)), (1, .long x1)] := hl
  have B16 : ∀ (u : Nat) (x3 : Int64) (x5 : Int32) (M : m_M) (H : Heap) (locs : List Loc) (ls : Array Slot), m_P G M H → va_S (m_A G) s.heap H locs → lv_has ls 6 [(0, .ref (m_ad G 0)), (3, .long x3), (5, .int x5)] → f_X7_digestOfPersons_b16 n x1 u x3 x5 M = some (r0, M0) → W p l e (m_R 7 157) s m args below meth c H locs 0 0 (MQ below (m_Ql G r0 M0) args s 0 0 (m_A G)) (F0 m 16 ls []) := by
    intro u
    induction u with
    | zero =>
      intro x3 x5 M H locs ls hP hS hl hres
      cases hres
    | succ u ih =>
      intro x3 x5 M H locs ls hP hS hl hres
      rw [f_X7_digestOfPersons_b16] at hres
      refine lv_iload X.1 X.2.1 dX7_digestOfPersons_16 (lv_at hl 2 rfl) ?_
      refine lv_aload_n X.1 X.2.1 dX7_digestOfPersons_18 rfl (lv_at hl 0 rfl) ?_
      refine m_g7 (v := .ref (m_ad G 1)) X hSt hP m_z_0 0 (by decide) rfl k_f_X7_10 dX7_digestOfPersons_19 ?_
      refine m_g3 (v := .int (M.1 1 0)) X hSt hP m_kept_0.1 0 (by decide) rfl k_f_X7_61 dX7_digestOfPersons_22 ?_
      refine lv_icmp_ge (tgt := 116) X.1 X.2.1 dX7_digestOfPersons_25 (by decide) (fun hc1 => ?_) (fun hc1 => ?_)
      · have hres := m_it hres hc1
        refine lv_lload_n X.1 X.2.1 dX7_digestOfPersons_116 rfl (lv_at hl 1 rfl) ?_
        exact m_rl X hr hlk hP hS (Prod.mk.inj (Option.some.inj hres)).1 (Prod.mk.inj (Option.some.inj hres)).2 dX7_digestOfPersons_117
      · have hres := m_if hres hc1
        refine lv_ldc2 (v := 31) X.1 X.2.1 X.2.2.2.1 (X.2.2.2.2 _ k_l_X7_281) dX7_digestOfPersons_28 ?_
        refine lv_lload_n X.1 X.2.1 dX7_digestOfPersons_31 rfl (lv_at hl 1 rfl) ?_
        refine lv_lmul X.1 X.2.1 dX7_digestOfPersons_32 ?_
        refine lv_aload_n X.1 X.2.1 dX7_digestOfPersons_33 rfl (lv_at hl 0 rfl) ?_
        refine m_g7 (v := .ref (m_ad G 45)) X hSt hP m_z_0 3 (by decide) rfl k_f_X7_29 dX7_digestOfPersons_34 ?_
        refine m_g1 (v := .ref (m_ad G 46)) X hSt hP m_z_45 1 (by decide) rfl k_f_X7_152 dX7_digestOfPersons_37 ?_
        refine lv_iload X.1 X.2.1 dX7_digestOfPersons_40 (lv_at hl 2 rfl) ?_
        obtain ⟨hg2, hres⟩ := m_gd_e hres
        refine m_qa6 (j := x5.toNatClampNeg) X hSt hP m_z_46 hg2 rfl dX7_digestOfPersons_42 ?_
        refine m_g5 (v := .int (M.1 (49 + 5 * x5.toNatClampNeg) 0)) X hSt hP (m_person_of hg2).1 0 (by decide) rfl k_f_X7_156 dX7_digestOfPersons_43 ?_
        refine lv_i2l (v := (M.1 (49 + 5 * x5.toNatClampNeg) 0).toInt64) X.1 X.2.1 dX7_digestOfPersons_46 rfl ?_
        refine lv_ladd X.1 X.2.1 dX7_digestOfPersons_47 ?_
        obtain ⟨t3, et3, hres⟩ := m_bd_e hres
        refine m_tl et3 ?_
        refine lv_lstore_n (lv' := [(3, .long t3), (0, .ref (m_ad G 0)), (5, .int x5)]) X.1 X.2.1 dX7_digestOfPersons_48 rfl hl (by decide) rfl (fun ls hl => ?_)
        refine lv_ldc2 (v := 31) X.1 X.2.1 X.2.2.2.1 (X.2.2.2.2 _ k_l_X7_281) dX7_digestOfPersons_49 ?_
        refine lv_lload_n X.1 X.2.1 dX7_digestOfPersons_52 rfl (lv_at hl 0 rfl) ?_
        refine lv_lmul X.1 X.2.1 dX7_digestOfPersons_53 ?_
        refine lv_aload_n X.1 X.2.1 dX7_digestOfPersons_54 rfl (lv_at hl 1 rfl) ?_
        refine m_g7 (v := .ref (m_ad G 45)) X hSt hP m_z_0 3 (by decide) rfl k_f_X7_29 dX7_digestOfPersons_55 ?_
        refine m_g1 (v := .ref (m_ad G 46)) X hSt hP m_z_45 1 (by decide) rfl k_f_X7_152 dX7_digestOfPersons_58 ?_
        refine lv_iload X.1 X.2.1 dX7_digestOfPersons_61 (lv_at hl 2 rfl) ?_
        refine m_qa6 (j := x5.toNatClampNeg) X hSt hP m_z_46 hg2 rfl dX7_digestOfPersons_63 ?_
        obtain ⟨r4, err4, hres⟩ := m_ob_e hres
        refine m_bi (m_cV (n := 0) (As := []) (rest := [.long ((31 : Int64) * t3)]) X hSt hP hS hl.1 (c_X5_allParts l G (m_person_of hg2) err4) k_c_yX5_allParts k_m_X7_165 k_i_yX5_allParts k_s_yX5_allParts k_n_X5 (by decide +kernel) (m_rc5 hSt hP (m_person_of hg2).1) rfl rfl ⟨Nat.le_of_ble_eq_true rfl, Nat.le_of_ble_eq_true rfl⟩ (Nat.le_of_ble_eq_true rfl) ⟨Nat.zero_le _, Nat.zero_le _⟩ dX7_digestOfPersons_64) hS (fun H locs hP hS => ?_)
        refine lv_i2l (v := r4.toInt64) X.1 X.2.1 dX7_digestOfPersons_67 rfl ?_
        refine lv_ladd X.1 X.2.1 dX7_digestOfPersons_68 ?_
        refine lv_lstore_n (lv' := [(3, .long (((31 : Int64) * t3) + r4.toInt64)), (0, .ref (m_ad G 0)), (5, .int x5)]) X.1 X.2.1 dX7_digestOfPersons_69 rfl hl (by decide) rfl (fun ls hl => ?_)
        refine lv_ldc2 (v := 31) X.1 X.2.1 X.2.2.2.1 (X.2.2.2.2 _ k_l_X7_281) dX7_digestOfPersons_70 ?_
        refine lv_lload_n X.1 X.2.1 dX7_digestOfPersons_73 rfl (lv_at hl 0 rfl) ?_
        refine lv_lmul X.1 X.2.1 dX7_digestOfPersons_74 ?_
        refine lv_aload_n X.1 X.2.1 dX7_digestOfPersons_75 rfl (lv_at hl 1 rfl) ?_
        refine m_g7 (v := .ref (m_ad G 45)) X hSt hP m_z_0 3 (by decide) rfl k_f_X7_29 dX7_digestOfPersons_76 ?_
        refine lv_iload X.1 X.2.1 dX7_digestOfPersons_79 (lv_at hl 2 rfl) ?_
        refine lv_iconst (v := 0) X.1 X.2.1 dX7_digestOfPersons_81 (by decide) ?_
        refine lv_lconst (v := 0) X.1 X.2.1 dX7_digestOfPersons_82 (by decide) ?_
        refine lv_lconst (v := 0) X.1 X.2.1 dX7_digestOfPersons_83 (by decide) ?_
        obtain ⟨r5, M6, err5, hres⟩ := m_o2_e hres
        refine m_bi (m_cV (n := 4) (As := [.int x5, .int 0, .long 0, .long 0]) (rest := [.long ((31 : Int64) * (((31 : Int64) * t3) + r4.toInt64))]) X hSt hP hS hl.1 (c_X1_netOf l G  err5) k_c_yX1_netOf k_m_X7_180 k_i_yX1_netOf k_s_yX1_netOf k_n_X1 (by decide +kernel) (m_rc1 hSt hP m_z_45) rfl rfl ⟨Nat.le_of_ble_eq_true rfl, Nat.le_of_ble_eq_true rfl⟩ (Nat.le_of_ble_eq_true rfl) ⟨Nat.zero_le _, Nat.zero_le _⟩ dX7_digestOfPersons_84) hS (fun H locs hP hS => ?_)
        refine lv_i2l (v := r5.toInt64) X.1 X.2.1 dX7_digestOfPersons_87 rfl ?_
        refine lv_ladd X.1 X.2.1 dX7_digestOfPersons_88 ?_
        obtain ⟨t7, et7, hres⟩ := m_bd_e hres
        refine m_tl et7 ?_
        refine lv_lstore_n (lv' := [(3, .long t7), (0, .ref (m_ad G 0)), (5, .int x5)]) X.1 X.2.1 dX7_digestOfPersons_89 rfl hl (by decide) rfl (fun ls hl => ?_)
        refine lv_ldc2 (v := 31) X.1 X.2.1 X.2.2.2.1 (X.2.2.2.2 _ k_l_X7_281) dX7_digestOfPersons_90 ?_
        refine lv_lload_n X.1 X.2.1 dX7_digestOfPersons_93 rfl (lv_at hl 0 rfl) ?_
        refine lv_lmul X.1 X.2.1 dX7_digestOfPersons_94 ?_
        refine lv_aload_n X.1 X.2.1 dX7_digestOfPersons_95 rfl (lv_at hl 1 rfl) ?_
        refine m_g7 (v := .ref (m_ad G 45)) X hSt hP m_z_0 3 (by decide) rfl k_f_X7_29 dX7_digestOfPersons_96 ?_
        refine lv_iload X.1 X.2.1 dX7_digestOfPersons_99 (lv_at hl 2 rfl) ?_
        refine lv_iconst (v := 1) X.1 X.2.1 dX7_digestOfPersons_101 (by decide) ?_
        refine lv_lconst (v := 0) X.1 X.2.1 dX7_digestOfPersons_102 (by decide) ?_
        refine lv_lconst (v := 0) X.1 X.2.1 dX7_digestOfPersons_103 (by decide) ?_
        obtain ⟨r8, M9, err8, hres⟩ := m_o2_e hres
        refine m_bi (m_cV (n := 4) (As := [.int x5, .int 1, .long 0, .long 0]) (rest := [.long ((31 : Int64) * t7)]) X hSt hP hS hl.1 (c_X1_netOf l G  err8) k_c_yX1_netOf k_m_X7_180 k_i_yX1_netOf k_s_yX1_netOf k_n_X1 (by decide +kernel) (m_rc1 hSt hP m_z_45) rfl rfl ⟨Nat.le_of_ble_eq_true rfl, Nat.le_of_ble_eq_true rfl⟩ (Nat.le_of_ble_eq_true rfl) ⟨Nat.zero_le _, Nat.zero_le _⟩ dX7_digestOfPersons_104) hS (fun H locs hP hS => ?_)
        refine lv_i2l (v := r8.toInt64) X.1 X.2.1 dX7_digestOfPersons_107 rfl ?_
        refine lv_ladd X.1 X.2.1 dX7_digestOfPersons_108 ?_
        refine lv_lstore_n (lv' := [(3, .long (((31 : Int64) * t7) + r8.toInt64)), (0, .ref (m_ad G 0)), (5, .int x5)]) X.1 X.2.1 dX7_digestOfPersons_109 rfl hl (by decide) rfl (fun ls hl => ?_)
        refine lv_iinc (v := (x5 + 1)) (lv' := [(5, .int (x5 + 1)), (3, .long (((31 : Int64) * t7) + r8.toInt64)), (0, .ref (m_ad G 0))]) X.1 X.2.1 dX7_digestOfPersons_110 hl (k := 2) rfl rfl (by decide) rfl (fun ls hl => ?_)
        refine lv_goto (tgt := 16) X.1 X.2.1 dX7_digestOfPersons_113 (by decide) ?_
        exact ih (((31 : Int64) * t7) + r8.toInt64) (x5 + 1) M9 _ _ _ hP hS (lv_sub hl [2, 1, 0] rfl) hres
  unfold f_X7_digestOfPersons at hres
  refine lv_lload_n X.1 X.2.1 dX7_digestOfPersons_0 rfl (lv_at hl 1 rfl) ?_
  refine lv_lstore_n (lv' := [(3, .long x1), (0, .ref (m_ad G 0)), (1, .long x1)]) X.1 X.2.1 dX7_digestOfPersons_1 rfl hl (by decide) rfl (fun ls hl => ?_)
  refine lv_aload_n X.1 X.2.1 dX7_digestOfPersons_2 rfl (lv_at hl 1 rfl) ?_
  refine m_g7 (v := .ref (m_ad G 45)) X hSt hP m_z_0 3 (by decide) rfl k_f_X7_29 dX7_digestOfPersons_3 ?_
  refine lv_sipush (v := 999) X.1 X.2.1 dX7_digestOfPersons_6 (by decide) ?_
  refine lv_iconst (v := 0) X.1 X.2.1 dX7_digestOfPersons_9 (by decide) ?_
  obtain ⟨M10, eM10, hres⟩ := m_ob_e hres
  refine m_bv (m_cV (n := 2) (As := [.int 999, .int 0]) (rest := []) X hSt hP hS hl.1 (c_X1_reckon l G  eM10) k_c_yX1_reckon k_m_X7_168 k_i_yX1_reckon k_s_yX1_reckon k_n_X1 (by decide +kernel) (m_rc1 hSt hP m_z_45) rfl rfl ⟨Nat.le_of_ble_eq_true rfl, Nat.le_of_ble_eq_true rfl⟩ (Nat.le_of_ble_eq_true rfl) ⟨Nat.zero_le _, Nat.zero_le _⟩ dX7_digestOfPersons_10) hS (fun H locs hP hS => ?_)
  refine lv_iconst (v := 0) X.1 X.2.1 dX7_digestOfPersons_13 (by decide) ?_
  refine lv_istore (lv' := [(5, .int 0), (3, .long x1), (0, .ref (m_ad G 0)), (1, .long x1)]) X.1 X.2.1 dX7_digestOfPersons_14 hl (by decide) rfl (fun ls hl => ?_)
  exact B16 n x1 0 M10 _ _ _ hP hS (lv_sub hl [2, 1, 0] rfl) hres
