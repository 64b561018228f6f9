/-! WALKS 8: X7_type X7_unline X7_wise X4_add X7_write X8_lawLong X8_charAt X8_ahead X8_notes X8_of X8_layDeal X8_lay X8_layDay X8_isIn -/
theorem dX7_type_0 : decode cX7_type 0 = .ok (.iload_n 3, 1) := by decide +kernel
theorem dX7_type_1 : decode cX7_type 1 = .ok (.iconst 1, 1) := by decide +kernel
theorem dX7_type_2 : decode cX7_type 2 = .ok (.if_icmp .lt 9, 3) := by decide +kernel
theorem dX7_type_5 : decode cX7_type 5 = .ok (.iload_n 3, 1) := by decide +kernel
theorem dX7_type_6 : decode cX7_type 6 = .ok (.bipush 8, 2) := by decide +kernel
theorem dX7_type_8 : decode cX7_type 8 = .ok (.if_icmp .le 6, 3) := by decide +kernel
theorem dX7_type_11 : decode cX7_type 11 = .ok (.bipush (-2), 2) := by decide +kernel
theorem dX7_type_13 : decode cX7_type 13 = .ok (.ireturn, 1) := by decide +kernel
theorem dX7_type_14 : decode cX7_type 14 = .ok (.aload_n 0, 1) := by decide +kernel
theorem dX7_type_15 : decode cX7_type 15 = .ok (.getfield 43, 3) := by decide +kernel
theorem dX7_type_18 : decode cX7_type 18 = .ok (.getfield 86, 3) := by decide +kernel
theorem dX7_type_21 : decode cX7_type 21 = .ok (.iload_n 3, 1) := by decide +kernel
theorem dX7_type_22 : decode cX7_type 22 = .ok (.iadd, 1) := by decide +kernel
theorem dX7_type_23 : decode cX7_type 23 = .ok (.sipush 300, 3) := by decide +kernel
theorem dX7_type_26 : decode cX7_type 26 = .ok (.if_icmp .le 6, 3) := by decide +kernel
theorem dX7_type_29 : decode cX7_type 29 = .ok (.bipush (-4), 2) := by decide +kernel
theorem dX7_type_31 : decode cX7_type 31 = .ok (.ireturn, 1) := by decide +kernel
theorem dX7_type_32 : decode cX7_type 32 = .ok (.iload_n 3, 1) := by decide +kernel
theorem dX7_type_33 : decode cX7_type 33 = .ok (.iconst 1, 1) := by decide +kernel
theorem dX7_type_34 : decode cX7_type 34 = .ok (.isub, 1) := by decide +kernel
theorem dX7_type_35 : decode cX7_type 35 = .ok (.istore 4, 2) := by decide +kernel
theorem dX7_type_37 : decode cX7_type 37 = .ok (.iload 4, 2) := by decide +kernel
theorem dX7_type_39 : decode cX7_type 39 = .ok (.ifCond .lt 28, 3) := by decide +kernel
theorem dX7_type_42 : decode cX7_type 42 = .ok (.aload_n 0, 1) := by decide +kernel
theorem dX7_type_43 : decode cX7_type 43 = .ok (.getfield 43, 3) := by decide +kernel
theorem dX7_type_46 : decode cX7_type 46 = .ok (.lload_n 1, 1) := by decide +kernel
theorem dX7_type_47 : decode cX7_type 47 = .ok (.bipush 8, 2) := by decide +kernel
theorem dX7_type_49 : decode cX7_type 49 = .ok (.iload 4, 2) := by decide +kernel
theorem dX7_type_51 : decode cX7_type 51 = .ok (.imul, 1) := by decide +kernel
theorem dX7_type_52 : decode cX7_type 52 = .ok (.lshr, 1) := by decide +kernel
theorem dX7_type_53 : decode cX7_type 53 = .ok (.l2i, 1) := by decide +kernel
theorem dX7_type_54 : decode cX7_type 54 = .ok (.sipush 255, 3) := by decide +kernel
theorem dX7_type_57 : decode cX7_type 57 = .ok (.iand, 1) := by decide +kernel
theorem dX7_type_58 : decode cX7_type 58 = .ok (.invokevirtual 89, 3) := by decide +kernel
theorem dX7_type_61 : decode cX7_type 61 = .ok (.iinc 4 (-1), 3) := by decide +kernel
theorem dX7_type_64 : decode cX7_type 64 = .ok (.goto (-27), 3) := by decide +kernel
theorem dX7_type_67 : decode cX7_type 67 = .ok (.aload_n 0, 1) := by decide +kernel
theorem dX7_type_68 : decode cX7_type 68 = .ok (.getfield 43, 3) := by decide +kernel
theorem dX7_type_71 : decode cX7_type 71 = .ok (.getfield 86, 3) := by decide +kernel
theorem dX7_type_74 : decode cX7_type 74 = .ok (.ireturn, 1) := by decide +kernel
def f_X7_type_b37 (n : Nat) (x1 : Int64) (x3 : Int32) : Nat → Int32 → m_M → Option (Int32 × m_M)
  | 0, _, _ => none
  | u + 1, x4, M =>
    if x4 < 0 then
  some ((M.1 168 1), M)
  else
  m_ob (f_X2_add (((x1 >>> (((8 : Int32) * x4).toInt64 &&& 63)).toInt32) &&& (255 : Int32)) M) fun M2 =>
  f_X7_type_b37 n x1 x3 u (x4 + (-1)) M2
def f_X7_type (n : Nat) (x1 : Int64) (x3 : Int32) (M : m_M) : Option (Int32 × m_M) :=
  if x3 < 1 then
  some ((-2), M)
  else
  if x3 ≤ 8 then
  if ((M.1 168 1) + x3) ≤ 300 then
  f_X7_type_b37 n x1 x3 n (x3 - (1 : Int32)) M
  else
  some ((-4), M)
  else
  some ((-2), M)
set_option maxHeartbeats 4000000 in
set_option maxRecDepth 100000 in
theorem c_X7_type (l : Launch) (G : m_G) {n : Nat} {x1 : Int64} {x3 : Int32} {M : m_M} {r0 : Int32} {M0 : m_M}  (hres : f_X7_type n x1 x3 M = some (r0, M0)) : Met l yX7_type (m_U yX7_type cX7_type 5 (some .int)) (m_R 1 21) (m_Pc G [.ref (m_ad G 0), .long x1, .int x3] M) (m_Qi G r0 M0) 0 0 (m_A G) := by
  refine m_i0 (n := 5) RX7 rfl (by decide) (Nat.le_of_ble_eq_true rfl) ?_
  intro p e s m args below meth c X hr hlk hSt hP hS ls hl
  have hl : lv_has ls 5 [(0, .ref (m_ad G 0)), (1, .long x1), (3, .int x3)] := hl
  have B37 : ∀ (u : Nat) (x4 : Int32) (M : m_M) (H : Heap) (locs : List Loc) (ls : Array Slot), m_P G M H → va_S (m_A G) s.heap H locs → lv_has ls 5 [(0, .ref (m_ad G 0)), (1, .long x1), (4, .int x4)] → f_X7_type_b37 n x1 x3 u x4 M = some (r0, M0) → W p l e (m_R 1 21) s m args below meth c H locs 0 0 (MQ below (m_Qi G r0 M0) args s 0 0 (m_A G)) (F0 m 37 ls []) := by
    intro u
    induction u with
    | zero =>
      intro x4 M H locs ls hP hS hl hres
      cases hres
    | succ u ih =>
      intro x4 M H locs ls hP hS hl hres
      rw [f_X7_type_b37] at hres
      refine lv_iload X.1 X.2.1 dX7_type_37 (lv_at hl 2 rfl) ?_
      refine lv_if_lt (tgt := 67) X.1 X.2.1 dX7_type_39 (by decide) (fun hc1 => ?_) (fun hc1 => ?_)
      · have hres := m_it hres hc1
        refine lv_aload_n X.1 X.2.1 dX7_type_67 rfl (lv_at hl 0 rfl) ?_
        refine m_g7 (v := .ref (m_ad G 168)) X hSt hP m_z_0 5 (by decide) rfl k_f_X7_43 dX7_type_68 ?_
        refine m_g2 (v := .int (M.1 168 1)) X hSt hP m_z_168 1 (by decide) rfl k_f_X7_86 dX7_type_71 ?_
        exact m_ri X hr hlk hP hS (Prod.mk.inj (Option.some.inj hres)).1 (Prod.mk.inj (Option.some.inj hres)).2 dX7_type_74
      · have hres := m_if hres hc1
        refine lv_aload_n X.1 X.2.1 dX7_type_42 rfl (lv_at hl 0 rfl) ?_
        refine m_g7 (v := .ref (m_ad G 168)) X hSt hP m_z_0 5 (by decide) rfl k_f_X7_43 dX7_type_43 ?_
        refine lv_lload_n X.1 X.2.1 dX7_type_46 rfl (lv_at hl 1 rfl) ?_
        refine lv_bipush (v := 8) X.1 X.2.1 dX7_type_47 (by decide) ?_
        refine lv_iload X.1 X.2.1 dX7_type_49 (lv_at hl 2 rfl) ?_
        refine lv_imul X.1 X.2.1 dX7_type_51 ?_
        refine lv_lshr (v := (x1 >>> (((8 : Int32) * x4).toInt64 &&& 63))) X.1 X.2.1 dX7_type_52 rfl ?_
        refine lv_l2i (v := (x1 >>> (((8 : Int32) * x4).toInt64 &&& 63)).toInt32) X.1 X.2.1 dX7_type_53 rfl ?_
        refine lv_sipush (v := 255) X.1 X.2.1 dX7_type_54 (by decide) ?_
        refine lv_iand X.1 X.2.1 dX7_type_57 ?_
        obtain ⟨M2, eM2, hres⟩ := m_ob_e hres
        refine m_bv (m_cV (n := 1) (As := [.int (((x1 >>> (((8 : Int32) * x4).toInt64 &&& 63)).toInt32) &&& (255 : Int32))]) (rest := []) X hSt hP hS hl.1 (c_X2_add l G  eM2) k_c_yX2_add k_m_X7_89 k_i_yX2_add k_s_yX2_add k_n_X2 (by decide +kernel) (m_rc2 hSt hP m_z_168) rfl rfl ⟨Nat.le_of_ble_eq_true rfl, Nat.le_of_ble_eq_true rfl⟩ (Nat.le_of_ble_eq_true rfl) ⟨Nat.zero_le _, Nat.zero_le _⟩ dX7_type_58) hS (fun H locs hP hS => ?_)
        refine lv_iinc (v := (x4 + (-1))) (lv' := [(4, .int (x4 + (-1))), (0, .ref (m_ad G 0)), (1, .long x1)]) X.1 X.2.1 dX7_type_61 hl (k := 2) rfl rfl (by decide) rfl (fun ls hl => ?_)
        refine lv_goto (tgt := 37) X.1 X.2.1 dX7_type_64 (by decide) ?_
        exact ih (x4 + (-1)) M2 _ _ _ hP hS (lv_sub hl [1, 2, 0] rfl) hres
  unfold f_X7_type at hres
  refine lv_iload_n X.1 X.2.1 dX7_type_0 rfl (lv_at hl 2 rfl) ?_
  refine lv_iconst (v := 1) X.1 X.2.1 dX7_type_1 (by decide) ?_
  refine lv_icmp_lt (tgt := 11) X.1 X.2.1 dX7_type_2 (by decide) (fun hc3 => ?_) (fun hc3 => ?_)
  · have hres := m_it hres hc3
    refine lv_bipush (v := (-2)) X.1 X.2.1 dX7_type_11 (by decide) ?_
    exact m_ri X hr hlk hP hS (Prod.mk.inj (Option.some.inj hres)).1 (Prod.mk.inj (Option.some.inj hres)).2 dX7_type_13
  · have hres := m_if hres hc3
    refine lv_iload_n X.1 X.2.1 dX7_type_5 rfl (lv_at hl 2 rfl) ?_
    refine lv_bipush (v := 8) X.1 X.2.1 dX7_type_6 (by decide) ?_
    refine lv_icmp_le (tgt := 14) X.1 X.2.1 dX7_type_8 (by decide) (fun hc4 => ?_) (fun hc4 => ?_)
    · have hres := m_it hres hc4
      refine lv_aload_n X.1 X.2.1 dX7_type_14 rfl (lv_at hl 0 rfl) ?_
      refine m_g7 (v := .ref (m_ad G 168)) X hSt hP m_z_0 5 (by decide) rfl k_f_X7_43 dX7_type_15 ?_
      refine m_g2 (v := .int (M.1 168 1)) X hSt hP m_z_168 1 (by decide) rfl k_f_X7_86 dX7_type_18 ?_
      refine lv_iload_n X.1 X.2.1 dX7_type_21 rfl (lv_at hl 2 rfl) ?_
      refine lv_iadd X.1 X.2.1 dX7_type_22 ?_
      refine lv_sipush (v := 300) X.1 X.2.1 dX7_type_23 (by decide) ?_
      refine lv_icmp_le (tgt := 32) X.1 X.2.1 dX7_type_26 (by decide) (fun hc5 => ?_) (fun hc5 => ?_)
      · have hres := m_it hres hc5
        refine lv_iload_n X.1 X.2.1 dX7_type_32 rfl (lv_at hl 2 rfl) ?_
        refine lv_iconst (v := 1) X.1 X.2.1 dX7_type_33 (by decide) ?_
        refine lv_isub X.1 X.2.1 dX7_type_34 ?_
        refine lv_istore (lv' := [(4, .int (x3 - (1 : Int32))), (0, .ref (m_ad G 0)), (1, .long x1), (3, .int x3)]) X.1 X.2.1 dX7_type_35 hl (by decide) rfl (fun ls hl => ?_)
        exact B37 n (x3 - (1 : Int32)) M _ _ _ hP hS (lv_sub hl [1, 2, 0] rfl) hres
      · have hres := m_if hres hc5
        refine lv_bipush (v := (-4)) X.1 X.2.1 dX7_type_29 (by decide) ?_
        exact m_ri X hr hlk hP hS (Prod.mk.inj (Option.some.inj hres)).1 (Prod.mk.inj (Option.some.inj hres)).2 dX7_type_31
    · have hres := m_if hres hc4
      refine lv_bipush (v := (-2)) X.1 X.2.1 dX7_type_11 (by decide) ?_
      exact m_ri X hr hlk hP hS (Prod.mk.inj (Option.some.inj hres)).1 (Prod.mk.inj (Option.some.inj hres)).2 dX7_type_13
theorem dX7_unline_0 : decode cX7_unline 0 = .ok (.aload_n 0, 1) := by decide +kernel
theorem dX7_unline_1 : decode cX7_unline 1 = .ok (.getfield 10, 3) := by decide +kernel
theorem dX7_unline_4 : decode cX7_unline 4 = .ok (.getfield 220, 3) := by decide +kernel
theorem dX7_unline_7 : decode cX7_unline 7 = .ok (.istore_n 1, 1) := by decide +kernel
theorem dX7_unline_8 : decode cX7_unline 8 = .ok (.aload_n 0, 1) := by decide +kernel
theorem dX7_unline_9 : decode cX7_unline 9 = .ok (.getfield 10, 3) := by decide +kernel
theorem dX7_unline_12 : decode cX7_unline 12 = .ok (.iconst 0, 1) := by decide +kernel
theorem dX7_unline_13 : decode cX7_unline 13 = .ok (.putfield 220, 3) := by decide +kernel
theorem dX7_unline_16 : decode cX7_unline 16 = .ok (.iload_n 1, 1) := by decide +kernel
theorem dX7_unline_17 : decode cX7_unline 17 = .ok (.ireturn, 1) := by decide +kernel
def f_X7_unline (M : m_M) : Int32 × m_M :=
  m_bd (m_sI M 1 4 0) fun M1 =>
  ((M.1 1 4), M1)
set_option maxHeartbeats 4000000 in
set_option maxRecDepth 100000 in
theorem c_X7_unline (l : Launch) (G : m_G) {M : m_M} {r0 : Int32} {M0 : m_M}  (hres : f_X7_unline M = (r0, M0)) : Met l yX7_unline (m_U yX7_unline cX7_unline 2 (some .int)) (m_R 0 0) (m_Pc G [.ref (m_ad G 0)] M) (m_Qi G r0 M0) 0 0 (m_A G) := by
  refine m_i0 (n := 2) RX7 rfl (by decide) (Nat.le_of_ble_eq_true rfl) ?_
  intro p e s m args below meth c X hr hlk hSt hP hS ls hl
  have hl : lv_has ls 2 [(0, .ref (m_ad G 0))] := hl
  unfold f_X7_unline at hres
  refine lv_aload_n X.1 X.2.1 dX7_unline_0 rfl (lv_at hl 0 rfl) ?_
  refine m_g7 (v := .ref (m_ad G 1)) X hSt hP m_z_0 0 (by decide) rfl k_f_X7_10 dX7_unline_1 ?_
  refine m_g3 (v := .int (M.1 1 4)) X hSt hP m_kept_0.1 4 (by decide) rfl k_f_X7_220 dX7_unline_4 ?_
  refine lv_istore_n (lv' := [(1, .int (M.1 1 4)), (0, .ref (m_ad G 0))]) X.1 X.2.1 dX7_unline_7 rfl hl (by decide) rfl (fun ls hl => ?_)
  refine lv_aload_n X.1 X.2.1 dX7_unline_8 rfl (lv_at hl 1 rfl) ?_
  refine m_g7 (v := .ref (m_ad G 1)) X hSt hP m_z_0 0 (by decide) rfl k_f_X7_10 dX7_unline_9 ?_
  refine lv_iconst (v := 0) X.1 X.2.1 dX7_unline_12 (by decide) ?_
  obtain ⟨M1, eM1, hres⟩ := m_bd_e hres
  refine m_pi3 X hSt hP hS m_kept_0.1 4 (by decide) eM1 rfl rfl (by decide) k_f_X7_220 dX7_unline_13 (fun H locs hP hS => ?_)
  refine lv_iload_n X.1 X.2.1 dX7_unline_16 rfl (lv_at hl 0 rfl) ?_
  exact m_ri X hr hlk hP hS (Prod.mk.inj hres).1 (Prod.mk.inj hres).2 dX7_unline_17
theorem dX7_wise_0 : decode cX7_wise 0 = .ok (.aload_n 0, 1) := by decide +kernel
theorem dX7_wise_1 : decode cX7_wise 1 = .ok (.iload_n 1, 1) := by decide +kernel
theorem dX7_wise_2 : decode cX7_wise 2 = .ok (.invokevirtual 142, 3) := by decide +kernel
theorem dX7_wise_5 : decode cX7_wise 5 = .ok (.ifCond .eq 21, 3) := by decide +kernel
theorem dX7_wise_8 : decode cX7_wise 8 = .ok (.iload_n 2, 1) := by decide +kernel
theorem dX7_wise_9 : decode cX7_wise 9 = .ok (.iconst 1, 1) := by decide +kernel
theorem dX7_wise_10 : decode cX7_wise 10 = .ok (.if_icmp .lt 16, 3) := by decide +kernel
theorem dX7_wise_13 : decode cX7_wise 13 = .ok (.iload_n 2, 1) := by decide +kernel
theorem dX7_wise_14 : decode cX7_wise 14 = .ok (.ldc 248, 2) := by decide +kernel
theorem dX7_wise_16 : decode cX7_wise 16 = .ok (.if_icmp .gt 10, 3) := by decide +kernel
theorem dX7_wise_19 : decode cX7_wise 19 = .ok (.iload_n 3, 1) := by decide +kernel
theorem dX7_wise_20 : decode cX7_wise 20 = .ok (.invokestatic 145, 3) := by decide +kernel
theorem dX7_wise_23 : decode cX7_wise 23 = .ok (.ifCond .ne 6, 3) := by decide +kernel
theorem dX7_wise_26 : decode cX7_wise 26 = .ok (.bipush (-10), 2) := by decide +kernel
theorem dX7_wise_28 : decode cX7_wise 28 = .ok (.ireturn, 1) := by decide +kernel
theorem dX7_wise_29 : decode cX7_wise 29 = .ok (.aload_n 0, 1) := by decide +kernel
theorem dX7_wise_30 : decode cX7_wise 30 = .ok (.getfield 29, 3) := by decide +kernel
theorem dX7_wise_33 : decode cX7_wise 33 = .ok (.iload_n 3, 1) := by decide +kernel
theorem dX7_wise_34 : decode cX7_wise 34 = .ok (.iconst 0, 1) := by decide +kernel
theorem dX7_wise_35 : decode cX7_wise 35 = .ok (.invokevirtual 168, 3) := by decide +kernel
theorem dX7_wise_38 : decode cX7_wise 38 = .ok (.iconst 0, 1) := by decide +kernel
theorem dX7_wise_39 : decode cX7_wise 39 = .ok (.istore 4, 2) := by decide +kernel
theorem dX7_wise_41 : decode cX7_wise 41 = .ok (.iload 4, 2) := by decide +kernel
theorem dX7_wise_43 : decode cX7_wise 43 = .ok (.sipush 2000, 3) := by decide +kernel
theorem dX7_wise_46 : decode cX7_wise 46 = .ok (.if_icmp .gt 29, 3) := by decide +kernel
theorem dX7_wise_49 : decode cX7_wise 49 = .ok (.aload_n 0, 1) := by decide +kernel
theorem dX7_wise_50 : decode cX7_wise 50 = .ok (.getfield 29, 3) := by decide +kernel
theorem dX7_wise_53 : decode cX7_wise 53 = .ok (.iload_n 1, 1) := by decide +kernel
theorem dX7_wise_54 : decode cX7_wise 54 = .ok (.iconst 0, 1) := by decide +kernel
theorem dX7_wise_55 : decode cX7_wise 55 = .ok (.lconst 0, 1) := by decide +kernel
theorem dX7_wise_56 : decode cX7_wise 56 = .ok (.iload 4, 2) := by decide +kernel
theorem dX7_wise_58 : decode cX7_wise 58 = .ok (.i2l, 1) := by decide +kernel
theorem dX7_wise_59 : decode cX7_wise 59 = .ok (.invokevirtual 180, 3) := by decide +kernel
theorem dX7_wise_62 : decode cX7_wise 62 = .ok (.iload_n 2, 1) := by decide +kernel
theorem dX7_wise_63 : decode cX7_wise 63 = .ok (.if_icmp .lt 6, 3) := by decide +kernel
theorem dX7_wise_66 : decode cX7_wise 66 = .ok (.iload 4, 2) := by decide +kernel
theorem dX7_wise_68 : decode cX7_wise 68 = .ok (.ireturn, 1) := by decide +kernel
theorem dX7_wise_69 : decode cX7_wise 69 = .ok (.iinc 4 1, 3) := by decide +kernel
theorem dX7_wise_72 : decode cX7_wise 72 = .ok (.goto (-31), 3) := by decide +kernel
theorem dX7_wise_75 : decode cX7_wise 75 = .ok (.iconst (-1), 1) := by decide +kernel
theorem dX7_wise_76 : decode cX7_wise 76 = .ok (.ireturn, 1) := by decide +kernel
def f_X7_wise_b41 (n : Nat) (x1 : Int32) (x2 : Int32) (x3 : Int32) : Nat → Int32 → m_M → Option (Int32 × m_M)
  | 0, _, _ => none
  | u + 1, x4, M =>
    if (2000 : Int32) < x4 then
  some ((-1), M)
  else
  m_o2 (f_X1_netOf n x1 0 0 x4.toInt64 M) fun r2 M3 =>
  if r2 < x2 then
  f_X7_wise_b41 n x1 x2 x3 u (x4 + 1) M3
  else
  some (x4, M3)
def f_X7_wise (n : Nat) (x1 : Int32) (x2 : Int32) (x3 : Int32) (M : m_M) : Option (Int32 × m_M) :=
  m_bd (f_X7_isPerson x1 M) fun r5 =>
  if r5 = 0 then
  some ((-10), M)
  else
  if x2 < 1 then
  some ((-10), M)
  else
  if (1000000 : Int32) < x2 then
  some ((-10), M)
  else
  m_bd (f_X7_isDay x3) fun r10 =>
  if r10 = 0 then
  some ((-10), M)
  else
  m_ob (f_X1_reckon n x3 0 M) fun M13 =>
  f_X7_wise_b41 n x1 x2 x3 n 0 M13
set_option maxHeartbeats 4000000 in
set_option maxRecDepth 100000 in
theorem c_X7_wise (l : Launch) (G : m_G) {n : Nat} {x1 : Int32} {x2 : Int32} {x3 : Int32} {M : m_M} {r0 : Int32} {M0 : m_M}  (hres : f_X7_wise n x1 x2 x3 M = some (r0, M0)) : Met l yX7_wise (m_U yX7_wise cX7_wise 5 (some .int)) (m_R 7 157) (m_Pc G [.ref (m_ad G 0), .int x1, .int x2, .int x3] M) (m_Qi G r0 M0) 0 0 (m_A G) := by
  refine m_i0 (n := 5) RX7 rfl (by decide) (Nat.le_of_ble_eq_true rfl) ?_
  intro p e s m args below meth c X hr hlk hSt hP hS ls hl
  have hl : lv_has ls 5 [(0, .ref (m_ad G 0)), (1, .int x1), (2, .int x2), (3, .int x3)] := hl
  have B41 : ∀ (u : Nat) (x4 : Int32) (M : m_M) (H : Heap) (locs : List Loc) (ls : Array Slot), m_P G M H → va_S (m_A G) s.heap H locs → lv_has ls 5 [(0, .ref (m_ad G 0)), (1, .int x1), (2, .int x2), (4, .int x4)] → f_X7_wise_b41 n x1 x2 x3 u x4 M = some (r0, M0) → W p l e (m_R 7 157) s m args below meth c H locs 0 0 (MQ below (m_Qi G r0 M0) args s 0 0 (m_A G)) (F0 m 41 ls []) := by
    intro u
    induction u with
    | zero =>
      intro x4 M H locs ls hP hS hl hres
      cases hres
    | succ u ih =>
      intro x4 M H locs ls hP hS hl hres
      rw [f_X7_wise_b41] at hres
      refine lv_iload X.1 X.2.1 dX7_wise_41 (lv_at hl 3 rfl) ?_
      refine lv_sipush (v := 2000) X.1 X.2.1 dX7_wise_43 (by decide) ?_
      refine lv_icmp_gt (tgt := 75) X.1 X.2.1 dX7_wise_46 (by decide) (fun hc1 => ?_) (fun hc1 => ?_)
      · have hres := m_it hres hc1
        refine lv_iconst (v := (-1)) X.1 X.2.1 dX7_wise_75 (by decide) ?_
        exact m_ri X hr hlk hP hS (Prod.mk.inj (Option.some.inj hres)).1 (Prod.mk.inj (Option.some.inj hres)).2 dX7_wise_76
      · have hres := m_if hres hc1
        refine lv_aload_n X.1 X.2.1 dX7_wise_49 rfl (lv_at hl 0 rfl) ?_
        refine m_g7 (v := .ref (m_ad G 45)) X hSt hP m_z_0 3 (by decide) rfl k_f_X7_29 dX7_wise_50 ?_
        refine lv_iload_n X.1 X.2.1 dX7_wise_53 rfl (lv_at hl 1 rfl) ?_
        refine lv_iconst (v := 0) X.1 X.2.1 dX7_wise_54 (by decide) ?_
        refine lv_lconst (v := 0) X.1 X.2.1 dX7_wise_55 (by decide) ?_
        refine lv_iload X.1 X.2.1 dX7_wise_56 (lv_at hl 3 rfl) ?_
        refine lv_i2l (v := x4.toInt64) X.1 X.2.1 dX7_wise_58 rfl ?_
        obtain ⟨r2, M3, err2, hres⟩ := m_o2_e hres
        refine m_bi (m_cV (n := 4) (As := [.int x1, .int 0, .long 0, .long x4.toInt64]) (rest := []) X hSt hP hS hl.1 (c_X1_netOf l G  err2) k_c_yX1_netOf k_m_X7_180 k_i_yX1_netOf k_s_yX1_netOf k_n_X1 (by decide +kernel) (m_rc1 hSt hP m_z_45) rfl rfl ⟨Nat.le_of_ble_eq_true rfl, Nat.le_of_ble_eq_true rfl⟩ (Nat.le_of_ble_eq_true rfl) ⟨Nat.zero_le _, Nat.zero_le _⟩ dX7_wise_59) hS (fun H locs hP hS => ?_)
        refine lv_iload_n X.1 X.2.1 dX7_wise_62 rfl (lv_at hl 2 rfl) ?_
        refine lv_icmp_lt (tgt := 69) X.1 X.2.1 dX7_wise_63 (by decide) (fun hc4 => ?_) (fun hc4 => ?_)
        · have hres := m_it hres hc4
          refine lv_iinc (v := (x4 + 1)) (lv' := [(4, .int (x4 + 1)), (0, .ref (m_ad G 0)), (1, .int x1), (2, .int x2)]) X.1 X.2.1 dX7_wise_69 hl (k := 3) rfl rfl (by decide) rfl (fun ls hl => ?_)
          refine lv_goto (tgt := 41) X.1 X.2.1 dX7_wise_72 (by decide) ?_
          exact ih (x4 + 1) M3 _ _ _ hP hS (lv_sub hl [1, 2, 3, 0] rfl) hres
        · have hres := m_if hres hc4
          refine lv_iload X.1 X.2.1 dX7_wise_66 (lv_at hl 3 rfl) ?_
          exact m_ri X hr hlk hP hS (Prod.mk.inj (Option.some.inj hres)).1 (Prod.mk.inj (Option.some.inj hres)).2 dX7_wise_68
  unfold f_X7_wise at hres
  refine lv_aload_n X.1 X.2.1 dX7_wise_0 rfl (lv_at hl 0 rfl) ?_
  refine lv_iload_n X.1 X.2.1 dX7_wise_1 rfl (lv_at hl 1 rfl) ?_
  obtain ⟨r5, err5, hres⟩ := m_bd_e hres
  refine m_bz (m_cV (n := 1) (As := [.int x1]) (rest := []) X hSt hP hS hl.1 (c_X7_isPerson l G  err5) k_c_yX7_isPerson k_m_X7_142 k_i_yX7_isPerson k_s_yX7_isPerson k_n_X7 (by decide +kernel) (m_rc7 hSt hP m_z_0) rfl rfl ⟨Nat.le_of_ble_eq_true rfl, Nat.le_of_ble_eq_true rfl⟩ (Nat.le_of_ble_eq_true rfl) ⟨Nat.zero_le _, Nat.zero_le _⟩ dX7_wise_2) hS (fun H locs hP hS hz6 => ?_)
  refine lv_if_eq (tgt := 26) X.1 X.2.1 dX7_wise_5 (by decide) (fun hc7 => ?_) (fun hc7 => ?_)
  · have hres := m_it hres hc7
    refine lv_bipush (v := (-10)) X.1 X.2.1 dX7_wise_26 (by decide) ?_
    exact m_ri X hr hlk hP hS (Prod.mk.inj (Option.some.inj hres)).1 (Prod.mk.inj (Option.some.inj hres)).2 dX7_wise_28
  · have hres := m_if hres hc7
    refine lv_iload_n X.1 X.2.1 dX7_wise_8 rfl (lv_at hl 2 rfl) ?_
    refine lv_iconst (v := 1) X.1 X.2.1 dX7_wise_9 (by decide) ?_
    refine lv_icmp_lt (tgt := 26) X.1 X.2.1 dX7_wise_10 (by decide) (fun hc8 => ?_) (fun hc8 => ?_)
    · have hres := m_it hres hc8
      refine lv_bipush (v := (-10)) X.1 X.2.1 dX7_wise_26 (by decide) ?_
      exact m_ri X hr hlk hP hS (Prod.mk.inj (Option.some.inj hres)).1 (Prod.mk.inj (Option.some.inj hres)).2 dX7_wise_28
    · have hres := m_if hres hc8
      refine lv_iload_n X.1 X.2.1 dX7_wise_13 rfl (lv_at hl 2 rfl) ?_
      refine lv_ldc (v := 1000000) X.1 X.2.1 X.2.2.2.1 (X.2.2.2.2 _ k_k_X7_248) dX7_wise_14 ?_
      refine lv_icmp_gt (tgt := 26) X.1 X.2.1 dX7_wise_16 (by decide) (fun hc9 => ?_) (fun hc9 => ?_)
      · have hres := m_it hres hc9
        refine lv_bipush (v := (-10)) X.1 X.2.1 dX7_wise_26 (by decide) ?_
        exact m_ri X hr hlk hP hS (Prod.mk.inj (Option.some.inj hres)).1 (Prod.mk.inj (Option.some.inj hres)).2 dX7_wise_28
      · have hres := m_if hres hc9
        refine lv_iload_n X.1 X.2.1 dX7_wise_19 rfl (lv_at hl 3 rfl) ?_
        obtain ⟨r10, err10, hres⟩ := m_bd_e hres
        refine m_bz (m_cS (n := 1) (As := [.int x3]) (rest := []) X hSt hP hS hl.1 (c_X7_isDay l G (M := M)  err10) k_c_yX7_isDay k_m_X7_145 k_t_yX7_isDay k_n_X7 (by decide +kernel) rfl rfl ⟨Nat.le_of_ble_eq_true rfl, Nat.le_of_ble_eq_true rfl⟩ (Nat.le_of_ble_eq_true rfl) ⟨Nat.zero_le _, Nat.zero_le _⟩ dX7_wise_20) hS (fun H locs hP hS hz11 => ?_)
        refine lv_if_ne (tgt := 29) X.1 X.2.1 dX7_wise_23 (by decide) (fun hc12 => ?_) (fun hc12 => ?_)
        · have hres := m_if hres hc12
          refine lv_aload_n X.1 X.2.1 dX7_wise_29 rfl (lv_at hl 0 rfl) ?_
          refine m_g7 (v := .ref (m_ad G 45)) X hSt hP m_z_0 3 (by decide) rfl k_f_X7_29 dX7_wise_30 ?_
          refine lv_iload_n X.1 X.2.1 dX7_wise_33 rfl (lv_at hl 3 rfl) ?_
          refine lv_iconst (v := 0) X.1 X.2.1 dX7_wise_34 (by decide) ?_
          obtain ⟨M13, eM13, hres⟩ := m_ob_e hres
          refine m_bv (m_cV (n := 2) (As := [.int x3, .int 0]) (rest := []) X hSt hP hS hl.1 (c_X1_reckon l G  eM13) k_c_yX1_reckon k_m_X7_168 k_i_yX1_reckon k_s_yX1_reckon k_n_X1 (by decide +kernel) (m_rc1 hSt hP m_z_45) rfl rfl ⟨Nat.le_of_ble_eq_true rfl, Nat.le_of_ble_eq_true rfl⟩ (Nat.le_of_ble_eq_true rfl) ⟨Nat.zero_le _, Nat.zero_le _⟩ dX7_wise_35) hS (fun H locs hP hS => ?_)
          refine lv_iconst (v := 0) X.1 X.2.1 dX7_wise_38 (by decide) ?_
          refine lv_istore (lv' := [(4, .int 0), (0, .ref (m_ad G 0)), (1, .int x1), (2, .int x2), (3, .int x3)]) X.1 X.2.1 dX7_wise_39 hl (by decide) rfl (fun ls hl => ?_)
          exact B41 n 0 M13 _ _ _ hP hS (lv_sub hl [1, 2, 3, 0] rfl) hres
        · have hres := m_it hres hc12
          refine lv_bipush (v := (-10)) X.1 X.2.1 dX7_wise_26 (by decide) ?_
          exact m_ri X hr hlk hP hS (Prod.mk.inj (Option.some.inj hres)).1 (Prod.mk.inj (Option.some.inj hres)).2 dX7_wise_28
theorem dX4_add_0 : decode cX4_add 0 = .ok (.aload_n 0, 1) := by decide +kernel
theorem dX4_add_1 : decode cX4_add 1 = .ok (.getfield 29, 3) := by decide +kernel
theorem dX4_add_4 : decode cX4_add 4 = .ok (.bipush 50, 2) := by decide +kernel
theorem dX4_add_6 : decode cX4_add 6 = .ok (.if_icmp .lt 4, 3) := by decide +kernel
theorem dX4_add_9 : decode cX4_add 9 = .ok (.return_, 1) := by decide +kernel
theorem dX4_add_10 : decode cX4_add 10 = .ok (.aload_n 0, 1) := by decide +kernel
theorem dX4_add_11 : decode cX4_add 11 = .ok (.getfield 9, 3) := by decide +kernel
theorem dX4_add_14 : decode cX4_add 14 = .ok (.aload_n 0, 1) := by decide +kernel
theorem dX4_add_15 : decode cX4_add 15 = .ok (.getfield 29, 3) := by decide +kernel
theorem dX4_add_18 : decode cX4_add 18 = .ok (.iload_n 1, 1) := by decide +kernel
theorem dX4_add_19 : decode cX4_add 19 = .ok (.iastore, 1) := by decide +kernel
theorem dX4_add_20 : decode cX4_add 20 = .ok (.aload_n 0, 1) := by decide +kernel
theorem dX4_add_21 : decode cX4_add 21 = .ok (.dup, 1) := by decide +kernel
theorem dX4_add_22 : decode cX4_add 22 = .ok (.getfield 29, 3) := by decide +kernel
theorem dX4_add_25 : decode cX4_add 25 = .ok (.iconst 1, 1) := by decide +kernel
theorem dX4_add_26 : decode cX4_add 26 = .ok (.iadd, 1) := by decide +kernel
theorem dX4_add_27 : decode cX4_add 27 = .ok (.putfield 29, 3) := by decide +kernel
theorem dX4_add_30 : decode cX4_add 30 = .ok (.aload_n 0, 1) := by decide +kernel
theorem dX4_add_31 : decode cX4_add 31 = .ok (.invokevirtual 32, 3) := by decide +kernel
theorem dX4_add_34 : decode cX4_add 34 = .ok (.return_, 1) := by decide +kernel
def f_X4_add (n : Nat) (k0 : Nat) (x1 : Int32) (M : m_M) : Option m_M :=
  if (M.1 k0 1) < 50 then
  m_gd (m_in (M.1 k0 1) 50) (
  m_bd (m_sI M (k0 + 1) ((M.1 k0 1).toNatClampNeg) x1) fun M3 =>
  m_bd (m_sI M3 k0 1 ((M3.1 k0 1) + (1 : Int32))) fun M4 =>
  m_ob (f_X4_parse n k0 M4) fun M5 =>
  some M5)
  else
  some M
set_option maxHeartbeats 4000000 in
set_option maxRecDepth 100000 in
theorem c_X4_add (l : Launch) (G : m_G) {n : Nat} {k0 : Nat} {x1 : Int32} {M : m_M} {M0 : m_M} (hk0 : m_isLaw k0) (hres : f_X4_add n k0 x1 M = some M0) : Met l yX4_add (m_U yX4_add cX4_add 2 none) (m_R 122 2826) (m_Pc G [.ref (m_ad G k0), .int x1] M) (m_Qv G M0) 0 0 (m_A G) := by
  refine m_i0 (n := 2) RX4 rfl (by decide) (Nat.le_of_ble_eq_true rfl) ?_
  intro p e s m args below meth c X hr hlk hSt hP hS ls hl
  have hl : lv_has ls 2 [(0, .ref (m_ad G k0)), (1, .int x1)] := hl
  unfold f_X4_add at hres
  refine lv_aload_n X.1 X.2.1 dX4_add_0 rfl (lv_at hl 0 rfl) ?_
  refine m_g4 (v := .int (M.1 k0 1)) X hSt hP hk0.1 1 (by decide) rfl k_f_X4_29 dX4_add_1 ?_
  refine lv_bipush (v := 50) X.1 X.2.1 dX4_add_4 (by decide) ?_
  refine lv_icmp_lt (tgt := 10) X.1 X.2.1 dX4_add_6 (by decide) (fun hc1 => ?_) (fun hc1 => ?_)
  · have hres := m_it hres hc1
    refine lv_aload_n X.1 X.2.1 dX4_add_10 rfl (lv_at hl 0 rfl) ?_
    refine m_g4 (v := .ref (m_ad G (k0 + 1))) X hSt hP hk0.1 0 (by decide) rfl k_f_X4_9 dX4_add_11 ?_
    refine lv_aload_n X.1 X.2.1 dX4_add_14 rfl (lv_at hl 0 rfl) ?_
    refine m_g4 (v := .int (M.1 k0 1)) X hSt hP hk0.1 1 (by decide) rfl k_f_X4_29 dX4_add_15 ?_
    refine lv_iload_n X.1 X.2.1 dX4_add_18 rfl (lv_at hl 1 rfl) ?_
    obtain ⟨hg2, hres⟩ := m_gd_e hres
    obtain ⟨M3, eM3, hres⟩ := m_bd_e hres
    refine m_is (j := ((M.1 k0 1).toNatClampNeg)) X hSt hP hS hk0.2.1 hg2 rfl dX4_add_19 eM3 (fun H locs hP hS => ?_)
    refine lv_aload_n X.1 X.2.1 dX4_add_20 rfl (lv_at hl 0 rfl) ?_
    refine lv_dup X.1 X.2.1 dX4_add_21 rfl ?_
    refine m_g4 (v := .int (M3.1 k0 1)) X hSt hP hk0.1 1 (by decide) rfl k_f_X4_29 dX4_add_22 ?_
    refine lv_iconst (v := 1) X.1 X.2.1 dX4_add_25 (by decide) ?_
    refine lv_iadd X.1 X.2.1 dX4_add_26 ?_
    obtain ⟨M4, eM4, hres⟩ := m_bd_e hres
    refine m_pi4 X hSt hP hS hk0.1 1 (by decide) eM4 rfl rfl (by decide) k_f_X4_29 dX4_add_27 (fun H locs hP hS => ?_)
    refine lv_aload_n X.1 X.2.1 dX4_add_30 rfl (lv_at hl 0 rfl) ?_
    obtain ⟨M5, eM5, hres⟩ := m_ob_e hres
    refine m_bv (m_cV (n := 0) (As := []) (rest := []) X hSt hP hS hl.1 (c_X4_parse l G hk0 eM5) k_c_yX4_parse k_m_X4_32 k_i_yX4_parse k_s_yX4_parse k_n_X4 (by decide +kernel) (m_rc4 hSt hP hk0.1) rfl rfl ⟨Nat.le_of_ble_eq_true rfl, Nat.le_of_ble_eq_true rfl⟩ (Nat.le_of_ble_eq_true rfl) ⟨Nat.zero_le _, Nat.zero_le _⟩ dX4_add_31) hS (fun H locs hP hS => ?_)
    exact m_rv X hr hlk hP hS (Option.some.inj hres) dX4_add_34
  · have hres := m_if hres hc1
    exact m_rv X hr hlk hP hS (Option.some.inj hres) dX4_add_9
theorem dX7_write_0 : decode cX7_write 0 = .ok (.iload_n 1, 1) := by decide +kernel
theorem dX7_write_1 : decode cX7_write 1 = .ok (.invokestatic 125, 3) := by decide +kernel
theorem dX7_write_4 : decode cX7_write 4 = .ok (.ifCond .eq 14, 3) := by decide +kernel
theorem dX7_write_7 : decode cX7_write 7 = .ok (.iload_n 2, 1) := by decide +kernel
theorem dX7_write_8 : decode cX7_write 8 = .ok (.ifCond .lt 10, 3) := by decide +kernel
theorem dX7_write_11 : decode cX7_write 11 = .ok (.iload_n 2, 1) := by decide +kernel
theorem dX7_write_12 : decode cX7_write 12 = .ok (.sipush 128, 3) := by decide +kernel
theorem dX7_write_15 : decode cX7_write 15 = .ok (.if_icmp .lt 6, 3) := by decide +kernel
theorem dX7_write_18 : decode cX7_write 18 = .ok (.bipush (-2), 2) := by decide +kernel
theorem dX7_write_20 : decode cX7_write 20 = .ok (.ireturn, 1) := by decide +kernel
theorem dX7_write_21 : decode cX7_write 21 = .ok (.aload_n 0, 1) := by decide +kernel
theorem dX7_write_22 : decode cX7_write 22 = .ok (.getfield 10, 3) := by decide +kernel
theorem dX7_write_25 : decode cX7_write 25 = .ok (.getfield 128, 3) := by decide +kernel
theorem dX7_write_28 : decode cX7_write 28 = .ok (.iload_n 1, 1) := by decide +kernel
theorem dX7_write_29 : decode cX7_write 29 = .ok (.aaload, 1) := by decide +kernel
theorem dX7_write_30 : decode cX7_write 30 = .ok (.astore_n 3, 1) := by decide +kernel
theorem dX7_write_31 : decode cX7_write 31 = .ok (.aload_n 3, 1) := by decide +kernel
theorem dX7_write_32 : decode cX7_write 32 = .ok (.getfield 132, 3) := by decide +kernel
theorem dX7_write_35 : decode cX7_write 35 = .ok (.bipush 50, 2) := by decide +kernel
theorem dX7_write_37 : decode cX7_write 37 = .ok (.if_icmp .lt 6, 3) := by decide +kernel
theorem dX7_write_40 : decode cX7_write 40 = .ok (.bipush (-4), 2) := by decide +kernel
theorem dX7_write_42 : decode cX7_write 42 = .ok (.ireturn, 1) := by decide +kernel
theorem dX7_write_43 : decode cX7_write 43 = .ok (.aload_n 3, 1) := by decide +kernel
theorem dX7_write_44 : decode cX7_write 44 = .ok (.iload_n 2, 1) := by decide +kernel
theorem dX7_write_45 : decode cX7_write 45 = .ok (.invokevirtual 135, 3) := by decide +kernel
theorem dX7_write_48 : decode cX7_write 48 = .ok (.aload_n 3, 1) := by decide +kernel
theorem dX7_write_49 : decode cX7_write 49 = .ok (.getfield 132, 3) := by decide +kernel
theorem dX7_write_52 : decode cX7_write 52 = .ok (.ireturn, 1) := by decide +kernel
def f_X7_write (n : Nat) (x1 : Int32) (x2 : Int32) (M : m_M) : Option (Int32 × m_M) :=
  m_bd (f_X7_isLaw x1) fun r1 =>
  if r1 = 0 then
  some ((-2), M)
  else
  if x2 < 0 then
  some ((-2), M)
  else
  if x2 < 128 then
  m_gd (m_in x1 2) (
  if (M.1 ((1 + 3) + 1 + 5 * x1.toNatClampNeg) 1) < 50 then
  m_ob (f_X4_add n ((1 + 3) + 1 + 5 * x1.toNatClampNeg) x2 M) fun M8 =>
  some ((M8.1 ((1 + 3) + 1 + 5 * x1.toNatClampNeg) 1), M8)
  else
  some ((-4), M))
  else
  some ((-2), M)
set_option maxHeartbeats 4000000 in
set_option maxRecDepth 100000 in
theorem c_X7_write (l : Launch) (G : m_G) {n : Nat} {x1 : Int32} {x2 : Int32} {M : m_M} {r0 : Int32} {M0 : m_M}  (hres : f_X7_write n x1 x2 M = some (r0, M0)) : Met l yX7_write (m_U yX7_write cX7_write 4 (some .int)) (m_R 123 2847) (m_Pc G [.ref (m_ad G 0), .int x1, .int x2] M) (m_Qi G r0 M0) 0 0 (m_A G) := by
  refine m_i0 (n := 4) RX7 rfl (by decide) (Nat.le_of_ble_eq_true rfl) ?_
  intro p e s m args below meth c X hr hlk hSt hP hS ls hl
  have hl : lv_has ls 4 [(0, .ref (m_ad G 0)), (1, .int x1), (2, .int x2)] := hl
  unfold f_X7_write at hres
  refine lv_iload_n X.1 X.2.1 dX7_write_0 rfl (lv_at hl 1 rfl) ?_
  obtain ⟨r1, err1, hres⟩ := m_bd_e hres
  refine m_bz (m_cS (n := 1) (As := [.int x1]) (rest := []) X hSt hP hS hl.1 (c_X7_isLaw l G (M := M)  err1) k_c_yX7_isLaw k_m_X7_125 k_t_yX7_isLaw k_n_X7 (by decide +kernel) rfl rfl ⟨Nat.le_of_ble_eq_true rfl, Nat.le_of_ble_eq_true rfl⟩ (Nat.le_of_ble_eq_true rfl) ⟨Nat.zero_le _, Nat.zero_le _⟩ dX7_write_1) hS (fun H locs hP hS hz2 => ?_)
  refine lv_if_eq (tgt := 18) X.1 X.2.1 dX7_write_4 (by decide) (fun hc3 => ?_) (fun hc3 => ?_)
  · have hres := m_it hres hc3
    refine lv_bipush (v := (-2)) X.1 X.2.1 dX7_write_18 (by decide) ?_
    exact m_ri X hr hlk hP hS (Prod.mk.inj (Option.some.inj hres)).1 (Prod.mk.inj (Option.some.inj hres)).2 dX7_write_20
  · have hres := m_if hres hc3
    refine lv_iload_n X.1 X.2.1 dX7_write_7 rfl (lv_at hl 2 rfl) ?_
    refine lv_if_lt (tgt := 18) X.1 X.2.1 dX7_write_8 (by decide) (fun hc4 => ?_) (fun hc4 => ?_)
    · have hres := m_it hres hc4
      refine lv_bipush (v := (-2)) X.1 X.2.1 dX7_write_18 (by decide) ?_
      exact m_ri X hr hlk hP hS (Prod.mk.inj (Option.some.inj hres)).1 (Prod.mk.inj (Option.some.inj hres)).2 dX7_write_20
    · have hres := m_if hres hc4
      refine lv_iload_n X.1 X.2.1 dX7_write_11 rfl (lv_at hl 2 rfl) ?_
      refine lv_sipush (v := 128) X.1 X.2.1 dX7_write_12 (by decide) ?_
      refine lv_icmp_lt (tgt := 21) X.1 X.2.1 dX7_write_15 (by decide) (fun hc5 => ?_) (fun hc5 => ?_)
      · have hres := m_it hres hc5
        refine lv_aload_n X.1 X.2.1 dX7_write_21 rfl (lv_at hl 0 rfl) ?_
        refine m_g7 (v := .ref (m_ad G 1)) X hSt hP m_z_0 0 (by decide) rfl k_f_X7_10 dX7_write_22 ?_
        refine m_g3 (v := .ref (m_ad G (1 + 3))) X hSt hP m_kept_0.1 7 (by decide) rfl k_f_X7_128 dX7_write_25 ?_
        refine lv_iload_n X.1 X.2.1 dX7_write_28 rfl (lv_at hl 1 rfl) ?_
        obtain ⟨hg6, hres⟩ := m_gd_e hres
        refine m_qa5 (j := x1.toNatClampNeg) X hSt hP m_kept_0.2.2.2.1 hg6 rfl dX7_write_29 ?_
        refine lv_astore_n (lv' := [(3, .ref (m_ad G ((1 + 3) + 1 + 5 * x1.toNatClampNeg))), (0, .ref (m_ad G 0)), (1, .int x1), (2, .int x2)]) X.1 X.2.1 dX7_write_30 rfl hl (by decide) rfl (fun ls hl => ?_)
        refine lv_aload_n X.1 X.2.1 dX7_write_31 rfl (lv_at hl 0 rfl) ?_
        refine m_g4 (v := .int (M.1 ((1 + 3) + 1 + 5 * x1.toNatClampNeg) 1)) X hSt hP (m_law_of m_kept_0 hg6).1 1 (by decide) rfl k_f_X7_132 dX7_write_32 ?_
        refine lv_bipush (v := 50) X.1 X.2.1 dX7_write_35 (by decide) ?_
        refine lv_icmp_lt (tgt := 43) X.1 X.2.1 dX7_write_37 (by decide) (fun hc7 => ?_) (fun hc7 => ?_)
        · have hres := m_it hres hc7
          refine lv_aload_n X.1 X.2.1 dX7_write_43 rfl (lv_at hl 0 rfl) ?_
          refine lv_iload_n X.1 X.2.1 dX7_write_44 rfl (lv_at hl 3 rfl) ?_
          obtain ⟨M8, eM8, hres⟩ := m_ob_e hres
          refine m_bv (m_cV (n := 1) (As := [.int x2]) (rest := []) X hSt hP hS hl.1 (c_X4_add l G (m_law_of m_kept_0 hg6) eM8) k_c_yX4_add k_m_X7_135 k_i_yX4_add k_s_yX4_add k_n_X4 (by decide +kernel) (m_rc4 hSt hP (m_law_of m_kept_0 hg6).1) rfl rfl ⟨Nat.le_of_ble_eq_true rfl, Nat.le_of_ble_eq_true rfl⟩ (Nat.le_of_ble_eq_true rfl) ⟨Nat.zero_le _, Nat.zero_le _⟩ dX7_write_45) hS (fun H locs hP hS => ?_)
          refine lv_aload_n X.1 X.2.1 dX7_write_48 rfl (lv_at hl 0 rfl) ?_
          refine m_g4 (v := .int (M8.1 ((1 + 3) + 1 + 5 * x1.toNatClampNeg) 1)) X hSt hP (m_law_of m_kept_0 hg6).1 1 (by decide) rfl k_f_X7_132 dX7_write_49 ?_
          exact m_ri X hr hlk hP hS (Prod.mk.inj (Option.some.inj hres)).1 (Prod.mk.inj (Option.some.inj hres)).2 dX7_write_52
        · have hres := m_if hres hc7
          refine lv_bipush (v := (-4)) X.1 X.2.1 dX7_write_40 (by decide) ?_
          exact m_ri X hr hlk hP hS (Prod.mk.inj (Option.some.inj hres)).1 (Prod.mk.inj (Option.some.inj hres)).2 dX7_write_42
      · have hres := m_if hres hc5
        refine lv_bipush (v := (-2)) X.1 X.2.1 dX7_write_18 (by decide) ?_
        exact m_ri X hr hlk hP hS (Prod.mk.inj (Option.some.inj hres)).1 (Prod.mk.inj (Option.some.inj hres)).2 dX7_write_20
theorem dX8_lawLong_0 : decode cX8_lawLong 0 = .ok (.aload_n 0, 1) := by decide +kernel
theorem dX8_lawLong_1 : decode cX8_lawLong 1 = .ok (.getfield 7, 3) := by decide +kernel
theorem dX8_lawLong_4 : decode cX8_lawLong 4 = .ok (.sipush 360, 3) := by decide +kernel
theorem dX8_lawLong_7 : decode cX8_lawLong 7 = .ok (.bipush 51, 2) := by decide +kernel
theorem dX8_lawLong_9 : decode cX8_lawLong 9 = .ok (.aload_n 0, 1) := by decide +kernel
theorem dX8_lawLong_10 : decode cX8_lawLong 10 = .ok (.getfield 274, 3) := by decide +kernel
theorem dX8_lawLong_13 : decode cX8_lawLong 13 = .ok (.imul, 1) := by decide +kernel
theorem dX8_lawLong_14 : decode cX8_lawLong 14 = .ok (.iadd, 1) := by decide +kernel
theorem dX8_lawLong_15 : decode cX8_lawLong 15 = .ok (.iaload, 1) := by decide +kernel
theorem dX8_lawLong_16 : decode cX8_lawLong 16 = .ok (.ireturn, 1) := by decide +kernel
def f_X8_lawLong (M : m_M) : Option Int32 :=
  m_gd (m_in ((360 : Int32) + ((51 : Int32) * (M.1 172 36))) 471) (
  some (M.1 173 (((360 : Int32) + ((51 : Int32) * (M.1 172 36))).toNatClampNeg)))
set_option maxHeartbeats 4000000 in
set_option maxRecDepth 100000 in
theorem c_X8_lawLong (l : Launch) (G : m_G) {M : m_M} {r0 : Int32}  (hres : f_X8_lawLong M = some r0) : Met l yX8_lawLong (m_U yX8_lawLong cX8_lawLong 1 (some .int)) (m_R 0 0) (m_Pc G [.ref (m_ad G 172)] M) (m_Qi G r0 M) 0 0 (m_A G) := by
  refine m_i0 (n := 1) RX8 rfl (by decide) (Nat.le_of_ble_eq_true rfl) ?_
  intro p e s m args below meth c X hr hlk hSt hP hS ls hl
  have hl : lv_has ls 1 [(0, .ref (m_ad G 172))] := hl
  unfold f_X8_lawLong at hres
  refine lv_aload_n X.1 X.2.1 dX8_lawLong_0 rfl (lv_at hl 0 rfl) ?_
  refine m_g8 (v := .ref (m_ad G 173)) X hSt hP m_z_172 0 (by decide) rfl k_f_X8_7 dX8_lawLong_1 ?_
  refine lv_sipush (v := 360) X.1 X.2.1 dX8_lawLong_4 (by decide) ?_
  refine lv_bipush (v := 51) X.1 X.2.1 dX8_lawLong_7 (by decide) ?_
  refine lv_aload_n X.1 X.2.1 dX8_lawLong_9 rfl (lv_at hl 0 rfl) ?_
  refine m_g8 (v := .int (M.1 172 36)) X hSt hP m_z_172 36 (by decide) rfl k_f_X8_274 dX8_lawLong_10 ?_
  refine lv_imul X.1 X.2.1 dX8_lawLong_13 ?_
  refine lv_iadd X.1 X.2.1 dX8_lawLong_14 ?_
  obtain ⟨hg1, hres⟩ := m_gd_e hres
  refine m_ia (j := (((360 : Int32) + ((51 : Int32) * (M.1 172 36))).toNatClampNeg)) X hSt hP m_z_173 hg1 rfl dX8_lawLong_15 ?_
  exact m_ri X hr hlk hP hS (Option.some.inj hres) rfl dX8_lawLong_16
theorem dX8_charAt_0 : decode cX8_charAt 0 = .ok (.aload_n 0, 1) := by decide +kernel
theorem dX8_charAt_1 : decode cX8_charAt 1 = .ok (.getfield 7, 3) := by decide +kernel
theorem dX8_charAt_4 : decode cX8_charAt 4 = .ok (.sipush 360, 3) := by decide +kernel
theorem dX8_charAt_7 : decode cX8_charAt 7 = .ok (.bipush 51, 2) := by decide +kernel
theorem dX8_charAt_9 : decode cX8_charAt 9 = .ok (.aload_n 0, 1) := by decide +kernel
theorem dX8_charAt_10 : decode cX8_charAt 10 = .ok (.getfield 274, 3) := by decide +kernel
theorem dX8_charAt_13 : decode cX8_charAt 13 = .ok (.imul, 1) := by decide +kernel
theorem dX8_charAt_14 : decode cX8_charAt 14 = .ok (.iadd, 1) := by decide +kernel
theorem dX8_charAt_15 : decode cX8_charAt 15 = .ok (.iconst 1, 1) := by decide +kernel
theorem dX8_charAt_16 : decode cX8_charAt 16 = .ok (.iadd, 1) := by decide +kernel
theorem dX8_charAt_17 : decode cX8_charAt 17 = .ok (.iload_n 1, 1) := by decide +kernel
theorem dX8_charAt_18 : decode cX8_charAt 18 = .ok (.iadd, 1) := by decide +kernel
theorem dX8_charAt_19 : decode cX8_charAt 19 = .ok (.iaload, 1) := by decide +kernel
theorem dX8_charAt_20 : decode cX8_charAt 20 = .ok (.ireturn, 1) := by decide +kernel
def f_X8_charAt (x1 : Int32) (M : m_M) : Option Int32 :=
  m_gd (m_in ((((360 : Int32) + ((51 : Int32) * (M.1 172 36))) + (1 : Int32)) + x1) 471) (
  some (M.1 173 (((((360 : Int32) + ((51 : Int32) * (M.1 172 36))) + (1 : Int32)) + x1).toNatClampNeg)))
set_option maxHeartbeats 4000000 in
set_option maxRecDepth 100000 in
theorem c_X8_charAt (l : Launch) (G : m_G) {x1 : Int32} {M : m_M} {r0 : Int32}  (hres : f_X8_charAt x1 M = some r0) : Met l yX8_charAt (m_U yX8_charAt cX8_charAt 2 (some .int)) (m_R 0 0) (m_Pc G [.ref (m_ad G 172), .int x1] M) (m_Qi G r0 M) 0 0 (m_A G) := by
  refine m_i0 (n := 2) RX8 rfl (by decide) (Nat.le_of_ble_eq_true rfl) ?_
  intro p e s m args below meth c X hr hlk hSt hP hS ls hl
  have hl : lv_has ls 2 [(0, .ref (m_ad G 172)), (1, .int x1)] := hl
  unfold f_X8_charAt at hres
  refine lv_aload_n X.1 X.2.1 dX8_charAt_0 rfl (lv_at hl 0 rfl) ?_
  refine m_g8 (v := .ref (m_ad G 173)) X hSt hP m_z_172 0 (by decide) rfl k_f_X8_7 dX8_charAt_1 ?_
  refine lv_sipush (v := 360) X.1 X.2.1 dX8_charAt_4 (by decide) ?_
  refine lv_bipush (v := 51) X.1 X.2.1 dX8_charAt_7 (by decide) ?_
  refine lv_aload_n X.1 X.2.1 dX8_charAt_9 rfl (lv_at hl 0 rfl) ?_
  refine m_g8 (v := .int (M.1 172 36)) X hSt hP m_z_172 36 (by decide) rfl k_f_X8_274 dX8_charAt_10 ?_
  refine lv_imul X.1 X.2.1 dX8_charAt_13 ?_
  refine lv_iadd X.1 X.2.1 dX8_charAt_14 ?_
  refine lv_iconst (v := 1) X.1 X.2.1 dX8_charAt_15 (by decide) ?_
  refine lv_iadd X.1 X.2.1 dX8_charAt_16 ?_
  refine lv_iload_n X.1 X.2.1 dX8_charAt_17 rfl (lv_at hl 1 rfl) ?_
  refine lv_iadd X.1 X.2.1 dX8_charAt_18 ?_
  obtain ⟨hg1, hres⟩ := m_gd_e hres
  refine m_ia (j := (((((360 : Int32) + ((51 : Int32) * (M.1 172 36))) + (1 : Int32)) + x1).toNatClampNeg)) X hSt hP m_z_173 hg1 rfl dX8_charAt_19 ?_
  exact m_ri X hr hlk hP hS (Option.some.inj hres) rfl dX8_charAt_20
theorem dX8_ahead_0 : decode cX8_ahead 0 = .ok (.aload_n 0, 1) := by decide +kernel
theorem dX8_ahead_1 : decode cX8_ahead 1 = .ok (.getfield 277, 3) := by decide +kernel
theorem dX8_ahead_4 : decode cX8_ahead 4 = .ok (.aload_n 0, 1) := by decide +kernel
theorem dX8_ahead_5 : decode cX8_ahead 5 = .ok (.invokevirtual 280, 3) := by decide +kernel
theorem dX8_ahead_8 : decode cX8_ahead 8 = .ok (.if_icmp .ge 29, 3) := by decide +kernel
theorem dX8_ahead_11 : decode cX8_ahead 11 = .ok (.aload_n 0, 1) := by decide +kernel
theorem dX8_ahead_12 : decode cX8_ahead 12 = .ok (.aload_n 0, 1) := by decide +kernel
theorem dX8_ahead_13 : decode cX8_ahead 13 = .ok (.getfield 277, 3) := by decide +kernel
theorem dX8_ahead_16 : decode cX8_ahead 16 = .ok (.invokevirtual 283, 3) := by decide +kernel
theorem dX8_ahead_19 : decode cX8_ahead 19 = .ok (.bipush 32, 2) := by decide +kernel
theorem dX8_ahead_21 : decode cX8_ahead 21 = .ok (.if_icmp .ne 16, 3) := by decide +kernel
theorem dX8_ahead_24 : decode cX8_ahead 24 = .ok (.aload_n 0, 1) := by decide +kernel
theorem dX8_ahead_25 : decode cX8_ahead 25 = .ok (.dup, 1) := by decide +kernel
theorem dX8_ahead_26 : decode cX8_ahead 26 = .ok (.getfield 277, 3) := by decide +kernel
theorem dX8_ahead_29 : decode cX8_ahead 29 = .ok (.iconst 1, 1) := by decide +kernel
theorem dX8_ahead_30 : decode cX8_ahead 30 = .ok (.iadd, 1) := by decide +kernel
theorem dX8_ahead_31 : decode cX8_ahead 31 = .ok (.putfield 277, 3) := by decide +kernel
theorem dX8_ahead_34 : decode cX8_ahead 34 = .ok (.goto (-34), 3) := by decide +kernel
theorem dX8_ahead_37 : decode cX8_ahead 37 = .ok (.aload_n 0, 1) := by decide +kernel
theorem dX8_ahead_38 : decode cX8_ahead 38 = .ok (.getfield 277, 3) := by decide +kernel
theorem dX8_ahead_41 : decode cX8_ahead 41 = .ok (.aload_n 0, 1) := by decide +kernel
theorem dX8_ahead_42 : decode cX8_ahead 42 = .ok (.invokevirtual 280, 3) := by decide +kernel
theorem dX8_ahead_45 : decode cX8_ahead 45 = .ok (.if_icmp .ge 14, 3) := by decide +kernel
theorem dX8_ahead_48 : decode cX8_ahead 48 = .ok (.aload_n 0, 1) := by decide +kernel
theorem dX8_ahead_49 : decode cX8_ahead 49 = .ok (.aload_n 0, 1) := by decide +kernel
theorem dX8_ahead_50 : decode cX8_ahead 50 = .ok (.getfield 277, 3) := by decide +kernel
theorem dX8_ahead_53 : decode cX8_ahead 53 = .ok (.invokevirtual 283, 3) := by decide +kernel
theorem dX8_ahead_56 : decode cX8_ahead 56 = .ok (.goto 4, 3) := by decide +kernel
theorem dX8_ahead_59 : decode cX8_ahead 59 = .ok (.iconst (-1), 1) := by decide +kernel
theorem dX8_ahead_60 : decode cX8_ahead 60 = .ok (.ireturn, 1) := by decide +kernel
def f_X8_ahead_b37 (n : Nat) (M : m_M) : Option (Int32 × m_M) :=
  m_ob (f_X8_lawLong M) fun r1 =>
  if r1 ≤ (M.1 172 37) then
  some ((-1), M)
  else
  m_ob (f_X8_charAt (M.1 172 37) M) fun r3 =>
  some (r3, M)
def f_X8_ahead_b0 (n : Nat) : Nat → m_M → Option (Int32 × m_M)
  | 0, _ => none
  | u + 1, M =>
    m_ob (f_X8_lawLong M) fun r4 =>
  if r4 ≤ (M.1 172 37) then
  f_X8_ahead_b37 n M
  else
  m_ob (f_X8_charAt (M.1 172 37) M) fun r6 =>
  if r6 = 32 then
  m_bd (m_sI M 172 37 ((M.1 172 37) + (1 : Int32))) fun M8 =>
  f_X8_ahead_b0 n u M8
  else
  f_X8_ahead_b37 n M
def f_X8_ahead (n : Nat) (M : m_M) : Option (Int32 × m_M) :=
  m_ob (f_X8_lawLong M) fun r9 =>
  if r9 ≤ (M.1 172 37) then
  f_X8_ahead_b37 n M
  else
  m_ob (f_X8_charAt (M.1 172 37) M) fun r11 =>
  if r11 = 32 then
  m_bd (m_sI M 172 37 ((M.1 172 37) + (1 : Int32))) fun M13 =>
  f_X8_ahead_b0 n n M13
  else
  f_X8_ahead_b37 n M
set_option maxHeartbeats 4000000 in
set_option maxRecDepth 100000 in
theorem c_X8_ahead (l : Launch) (G : m_G) {n : Nat} {M : m_M} {r0 : Int32} {M0 : m_M}  (hres : f_X8_ahead n M = some (r0, M0)) : Met l yX8_ahead (m_U yX8_ahead cX8_ahead 1 (some .int)) (m_R 1 21) (m_Pc G [.ref (m_ad G 172)] M) (m_Qi G r0 M0) 0 0 (m_A G) := by
  refine m_i0 (n := 1) RX8 rfl (by decide) (Nat.le_of_ble_eq_true rfl) ?_
  intro p e s m args below meth c X hr hlk hSt hP hS ls hl
  have hl : lv_has ls 1 [(0, .ref (m_ad G 172))] := hl
  have B37 : ∀  (M : m_M) (H : Heap) (locs : List Loc) (ls : Array Slot), m_P G M H → va_S (m_A G) s.heap H locs → lv_has ls 1 [(0, .ref (m_ad G 172))] → f_X8_ahead_b37 n M = some (r0, M0) → W p l e (m_R 1 21) s m args below meth c H locs 0 0 (MQ below (m_Qi G r0 M0) args s 0 0 (m_A G)) (F0 m 37 ls []) := by
    intro M H locs ls hP hS hl hres
    unfold f_X8_ahead_b37 at hres
    refine lv_aload_n X.1 X.2.1 dX8_ahead_37 rfl (lv_at hl 0 rfl) ?_
    refine m_g8 (v := .int (M.1 172 37)) X hSt hP m_z_172 37 (by decide) rfl k_f_X8_277 dX8_ahead_38 ?_
    refine lv_aload_n X.1 X.2.1 dX8_ahead_41 rfl (lv_at hl 0 rfl) ?_
    obtain ⟨r1, err1, hres⟩ := m_ob_e hres
    refine m_bi (m_cV (n := 0) (As := []) (rest := [.int (M.1 172 37)]) X hSt hP hS hl.1 (c_X8_lawLong l G  err1) k_c_yX8_lawLong k_m_X8_280 k_i_yX8_lawLong k_s_yX8_lawLong k_n_X8 (by decide +kernel) (m_rc8 hSt hP m_z_172) rfl rfl ⟨Nat.le_of_ble_eq_true rfl, Nat.le_of_ble_eq_true rfl⟩ (Nat.le_of_ble_eq_true rfl) ⟨Nat.zero_le _, Nat.zero_le _⟩ dX8_ahead_42) hS (fun H locs hP hS => ?_)
    refine lv_icmp_ge (tgt := 59) X.1 X.2.1 dX8_ahead_45 (by decide) (fun hc2 => ?_) (fun hc2 => ?_)
    · have hres := m_it hres hc2
      refine lv_iconst (v := (-1)) X.1 X.2.1 dX8_ahead_59 (by decide) ?_
      exact m_ri X hr hlk hP hS (Prod.mk.inj (Option.some.inj hres)).1 (Prod.mk.inj (Option.some.inj hres)).2 dX8_ahead_60
    · have hres := m_if hres hc2
      refine lv_aload_n X.1 X.2.1 dX8_ahead_48 rfl (lv_at hl 0 rfl) ?_
      refine lv_aload_n X.1 X.2.1 dX8_ahead_49 rfl (lv_at hl 0 rfl) ?_
      refine m_g8 (v := .int (M.1 172 37)) X hSt hP m_z_172 37 (by decide) rfl k_f_X8_277 dX8_ahead_50 ?_
      obtain ⟨r3, err3, hres⟩ := m_ob_e hres
      refine m_bi (m_cV (n := 1) (As := [.int (M.1 172 37)]) (rest := []) X hSt hP hS hl.1 (c_X8_charAt l G  err3) k_c_yX8_charAt k_m_X8_283 k_i_yX8_charAt k_s_yX8_charAt k_n_X8 (by decide +kernel) (m_rc8 hSt hP m_z_172) rfl rfl ⟨Nat.le_of_ble_eq_true rfl, Nat.le_of_ble_eq_true rfl⟩ (Nat.le_of_ble_eq_true rfl) ⟨Nat.zero_le _, Nat.zero_le _⟩ dX8_ahead_53) hS (fun H locs hP hS => ?_)
      refine lv_goto (tgt := 60) X.1 X.2.1 dX8_ahead_56 (by decide) ?_
      exact m_ri X hr hlk hP hS (Prod.mk.inj (Option.some.inj hres)).1 (Prod.mk.inj (Option.some.inj hres)).2 dX8_ahead_60
  have B0 : ∀ (u : Nat) (M : m_M) (H : Heap) (locs : List Loc) (ls : Array Slot), m_P G M H → va_S (m_A G) s.heap H locs → lv_has ls 1 [(0, .ref (m_ad G 172))] → f_X8_ahead_b0 n u M = some (r0, M0) → W p l e (m_R 1 21) s m args below meth c H locs 0 0 (MQ below (m_Qi G r0 M0) args s 0 0 (m_A G)) (F0 m 0 ls []) := by
    intro u
    induction u with
    | zero =>
      intro M H locs ls hP hS hl hres
      cases hres
    | succ u ih =>
      intro M H locs ls hP hS hl hres
      rw [f_X8_ahead_b0] at hres
      refine lv_aload_n X.1 X.2.1 dX8_ahead_0 rfl (lv_at hl 0 rfl) ?_
      refine m_g8 (v := .int (M.1 172 37)) X hSt hP m_z_172 37 (by decide) rfl k_f_X8_277 dX8_ahead_1 ?_
      refine lv_aload_n X.1 X.2.1 dX8_ahead_4 rfl (lv_at hl 0 rfl) ?_
      obtain ⟨r4, err4, hres⟩ := m_ob_e hres
      refine m_bi (m_cV (n := 0) (As := []) (rest := [.int (M.1 172 37)]) X hSt hP hS hl.1 (c_X8_lawLong l G  err4) k_c_yX8_lawLong k_m_X8_280 k_i_yX8_lawLong k_s_yX8_lawLong k_n_X8 (by decide +kernel) (m_rc8 hSt hP m_z_172) rfl rfl ⟨Nat.le_of_ble_eq_true rfl, Nat.le_of_ble_eq_true rfl⟩ (Nat.le_of_ble_eq_true rfl) ⟨Nat.zero_le _, Nat.zero_le _⟩ dX8_ahead_5) hS (fun H locs hP hS => ?_)
      refine lv_icmp_ge (tgt := 37) X.1 X.2.1 dX8_ahead_8 (by decide) (fun hc5 => ?_) (fun hc5 => ?_)
      · have hres := m_it hres hc5
        exact B37 M _ _ _ hP hS (lv_sub hl [0] rfl) hres
      · have hres := m_if hres hc5
        refine lv_aload_n X.1 X.2.1 dX8_ahead_11 rfl (lv_at hl 0 rfl) ?_
        refine lv_aload_n X.1 X.2.1 dX8_ahead_12 rfl (lv_at hl 0 rfl) ?_
        refine m_g8 (v := .int (M.1 172 37)) X hSt hP m_z_172 37 (by decide) rfl k_f_X8_277 dX8_ahead_13 ?_
        obtain ⟨r6, err6, hres⟩ := m_ob_e hres
        refine m_bi (m_cV (n := 1) (As := [.int (M.1 172 37)]) (rest := []) X hSt hP hS hl.1 (c_X8_charAt l G  err6) k_c_yX8_charAt k_m_X8_283 k_i_yX8_charAt k_s_yX8_charAt k_n_X8 (by decide +kernel) (m_rc8 hSt hP m_z_172) rfl rfl ⟨Nat.le_of_ble_eq_true rfl, Nat.le_of_ble_eq_true rfl⟩ (Nat.le_of_ble_eq_true rfl) ⟨Nat.zero_le _, Nat.zero_le _⟩ dX8_ahead_16) hS (fun H locs hP hS => ?_)
        refine lv_bipush (v := 32) X.1 X.2.1 dX8_ahead_19 (by decide) ?_
        refine lv_icmp_ne (tgt := 37) X.1 X.2.1 dX8_ahead_21 (by decide) (fun hc7 => ?_) (fun hc7 => ?_)
        · have hres := m_if hres hc7
          exact B37 M _ _ _ hP hS (lv_sub hl [0] rfl) hres
        · have hres := m_it hres hc7
          refine lv_aload_n X.1 X.2.1 dX8_ahead_24 rfl (lv_at hl 0 rfl) ?_
          refine lv_dup X.1 X.2.1 dX8_ahead_25 rfl ?_
          refine m_g8 (v := .int (M.1 172 37)) X hSt hP m_z_172 37 (by decide) rfl k_f_X8_277 dX8_ahead_26 ?_
          refine lv_iconst (v := 1) X.1 X.2.1 dX8_ahead_29 (by decide) ?_
          refine lv_iadd X.1 X.2.1 dX8_ahead_30 ?_
          obtain ⟨M8, eM8, hres⟩ := m_bd_e hres
          refine m_pi8 X hSt hP hS m_z_172 37 (by decide) eM8 rfl rfl (by decide) k_f_X8_277 dX8_ahead_31 (fun H locs hP hS => ?_)
          refine lv_goto (tgt := 0) X.1 X.2.1 dX8_ahead_34 (by decide) ?_
          exact ih M8 _ _ _ hP hS (lv_sub hl [0] rfl) hres
  unfold f_X8_ahead at hres
  refine lv_aload_n X.1 X.2.1 dX8_ahead_0 rfl (lv_at hl 0 rfl) ?_
  refine m_g8 (v := .int (M.1 172 37)) X hSt hP m_z_172 37 (by decide) rfl k_f_X8_277 dX8_ahead_1 ?_
  refine lv_aload_n X.1 X.2.1 dX8_ahead_4 rfl (lv_at hl 0 rfl) ?_
  obtain ⟨r9, err9, hres⟩ := m_ob_e hres
  refine m_bi (m_cV (n := 0) (As := []) (rest := [.int (M.1 172 37)]) X hSt hP hS hl.1 (c_X8_lawLong l G  err9) k_c_yX8_lawLong k_m_X8_280 k_i_yX8_lawLong k_s_yX8_lawLong k_n_X8 (by decide +kernel) (m_rc8 hSt hP m_z_172) rfl rfl ⟨Nat.le_of_ble_eq_true rfl, Nat.le_of_ble_eq_true rfl⟩ (Nat.le_of_ble_eq_true rfl) ⟨Nat.zero_le _, Nat.zero_le _⟩ dX8_ahead_5) hS (fun H locs hP hS => ?_)
  refine lv_icmp_ge (tgt := 37) X.1 X.2.1 dX8_ahead_8 (by decide) (fun hc10 => ?_) (fun hc10 => ?_)
  · have hres := m_it hres hc10
    exact B37 M _ _ _ hP hS (lv_sub hl [0] rfl) hres
  · have hres := m_if hres hc10
    refine lv_aload_n X.1 X.2.1 dX8_ahead_11 rfl (lv_at hl 0 rfl) ?_
    refine lv_aload_n X.1 X.2.1 dX8_ahead_12 rfl (lv_at hl 0 rfl) ?_
    refine m_g8 (v := .int (M.1 172 37)) X hSt hP m_z_172 37 (by decide) rfl k_f_X8_277 dX8_ahead_13 ?_
    obtain ⟨r11, err11, hres⟩ := m_ob_e hres
    refine m_bi (m_cV (n := 1) (As := [.int (M.1 172 37)]) (rest := []) X hSt hP hS hl.1 (c_X8_charAt l G  err11) k_c_yX8_charAt k_m_X8_283 k_i_yX8_charAt k_s_yX8_charAt k_n_X8 (by decide +kernel) (m_rc8 hSt hP m_z_172) rfl rfl ⟨Nat.le_of_ble_eq_true rfl, Nat.le_of_ble_eq_true rfl⟩ (Nat.le_of_ble_eq_true rfl) ⟨Nat.zero_le _, Nat.zero_le _⟩ dX8_ahead_16) hS (fun H locs hP hS => ?_)
    refine lv_bipush (v := 32) X.1 X.2.1 dX8_ahead_19 (by decide) ?_
    refine lv_icmp_ne (tgt := 37) X.1 X.2.1 dX8_ahead_21 (by decide) (fun hc12 => ?_) (fun hc12 => ?_)
    · have hres := m_if hres hc12
      exact B37 M _ _ _ hP hS (lv_sub hl [0] rfl) hres
    · have hres := m_it hres hc12
      refine lv_aload_n X.1 X.2.1 dX8_ahead_24 rfl (lv_at hl 0 rfl) ?_
      refine lv_dup X.1 X.2.1 dX8_ahead_25 rfl ?_
      refine m_g8 (v := .int (M.1 172 37)) X hSt hP m_z_172 37 (by decide) rfl k_f_X8_277 dX8_ahead_26 ?_
      refine lv_iconst (v := 1) X.1 X.2.1 dX8_ahead_29 (by decide) ?_
      refine lv_iadd X.1 X.2.1 dX8_ahead_30 ?_
      obtain ⟨M13, eM13, hres⟩ := m_bd_e hres
      refine m_pi8 X hSt hP hS m_z_172 37 (by decide) eM13 rfl rfl (by decide) k_f_X8_277 dX8_ahead_31 (fun H locs hP hS => ?_)
      refine lv_goto (tgt := 0) X.1 X.2.1 dX8_ahead_34 (by decide) ?_
      exact B0 n M13 _ _ _ hP hS (lv_sub hl [0] rfl) hres
theorem dX8_notes_0 : decode cX8_notes 0 = .ok (.aload_n 0, 1) := by decide +kernel
theorem dX8_notes_1 : decode cX8_notes 1 = .ok (.getfield 7, 3) := by decide +kernel
theorem dX8_notes_4 : decode cX8_notes 4 = .ok (.sipush 469, 3) := by decide +kernel
theorem dX8_notes_7 : decode cX8_notes 7 = .ok (.iaload, 1) := by decide +kernel
theorem dX8_notes_8 : decode cX8_notes 8 = .ok (.ireturn, 1) := by decide +kernel
def f_X8_notes (M : m_M) : Int32 :=
  (M.1 173 469)
set_option maxHeartbeats 4000000 in
set_option maxRecDepth 100000 in
theorem c_X8_notes (l : Launch) (G : m_G) {M : m_M} {r0 : Int32}  (hres : f_X8_notes M = r0) : Met l yX8_notes (m_U yX8_notes cX8_notes 1 (some .int)) (m_R 0 0) (m_Pc G [.ref (m_ad G 172)] M) (m_Qi G r0 M) 0 0 (m_A G) := by
  refine m_i0 (n := 1) RX8 rfl (by decide) (Nat.le_of_ble_eq_true rfl) ?_
  intro p e s m args below meth c X hr hlk hSt hP hS ls hl
  have hl : lv_has ls 1 [(0, .ref (m_ad G 172))] := hl
  unfold f_X8_notes at hres
  refine lv_aload_n X.1 X.2.1 dX8_notes_0 rfl (lv_at hl 0 rfl) ?_
  refine m_g8 (v := .ref (m_ad G 173)) X hSt hP m_z_172 0 (by decide) rfl k_f_X8_7 dX8_notes_1 ?_
  refine lv_sipush (v := 469) X.1 X.2.1 dX8_notes_4 (by decide) ?_
  refine m_ia (j := 469) X hSt hP m_z_173 (by decide +kernel) (by decide +kernel) dX8_notes_7 ?_
  exact m_ri X hr hlk hP hS hres rfl dX8_notes_8
theorem dX8_of_0 : decode cX8_of 0 = .ok (.aload_n 0, 1) := by decide +kernel
theorem dX8_of_1 : decode cX8_of 1 = .ok (.getfield 7, 3) := by decide +kernel
theorem dX8_of_4 : decode cX8_of 4 = .ok (.iconst 0, 1) := by decide +kernel
theorem dX8_of_5 : decode cX8_of 5 = .ok (.bipush 6, 2) := by decide +kernel
theorem dX8_of_7 : decode cX8_of 7 = .ok (.iload_n 1, 1) := by decide +kernel
theorem dX8_of_8 : decode cX8_of 8 = .ok (.imul, 1) := by decide +kernel
theorem dX8_of_9 : decode cX8_of 9 = .ok (.iadd, 1) := by decide +kernel
theorem dX8_of_10 : decode cX8_of 10 = .ok (.iload_n 2, 1) := by decide +kernel
theorem dX8_of_11 : decode cX8_of 11 = .ok (.iadd, 1) := by decide +kernel
theorem dX8_of_12 : decode cX8_of 12 = .ok (.iaload, 1) := by decide +kernel
theorem dX8_of_13 : decode cX8_of 13 = .ok (.ireturn, 1) := by decide +kernel
def f_X8_of (x1 : Int32) (x2 : Int32) (M : m_M) : Option Int32 :=
  m_gd (m_in (((0 : Int32) + ((6 : Int32) * x1)) + x2) 471) (
  some (M.1 173 ((((0 : Int32) + ((6 : Int32) * x1)) + x2).toNatClampNeg)))
set_option maxHeartbeats 4000000 in
set_option maxRecDepth 100000 in
theorem c_X8_of (l : Launch) (G : m_G) {x1 : Int32} {x2 : Int32} {M : m_M} {r0 : Int32}  (hres : f_X8_of x1 x2 M = some r0) : Met l yX8_of (m_U yX8_of cX8_of 3 (some .int)) (m_R 0 0) (m_Pc G [.ref (m_ad G 172), .int x1, .int x2] M) (m_Qi G r0 M) 0 0 (m_A G) := by
  refine m_i0 (n := 3) RX8 rfl (by decide) (Nat.le_of_ble_eq_true rfl) ?_
  intro p e s m args below meth c X hr hlk hSt hP hS ls hl
  have hl : lv_has ls 3 [(0, .ref (m_ad G 172)), (1, .int x1), (2, .int x2)] := hl
  unfold f_X8_of at hres
  refine lv_aload_n X.1 X.2.1 dX8_of_0 rfl (lv_at hl 0 rfl) ?_
  refine m_g8 (v := .ref (m_ad G 173)) X hSt hP m_z_172 0 (by decide) rfl k_f_X8_7 dX8_of_1 ?_
  refine lv_iconst (v := 0) X.1 X.2.1 dX8_of_4 (by decide) ?_
  refine lv_bipush (v := 6) X.1 X.2.1 dX8_of_5 (by decide) ?_
  refine lv_iload_n X.1 X.2.1 dX8_of_7 rfl (lv_at hl 1 rfl) ?_
  refine lv_imul X.1 X.2.1 dX8_of_8 ?_
  refine lv_iadd X.1 X.2.1 dX8_of_9 ?_
  refine lv_iload_n X.1 X.2.1 dX8_of_10 rfl (lv_at hl 2 rfl) ?_
  refine lv_iadd X.1 X.2.1 dX8_of_11 ?_
  obtain ⟨hg1, hres⟩ := m_gd_e hres
  refine m_ia (j := ((((0 : Int32) + ((6 : Int32) * x1)) + x2).toNatClampNeg)) X hSt hP m_z_173 hg1 rfl dX8_of_12 ?_
  exact m_ri X hr hlk hP hS (Option.some.inj hres) rfl dX8_of_13
theorem dX8_layDeal_0 : decode cX8_layDeal 0 = .ok (.aload_n 0, 1) := by decide +kernel
theorem dX8_layDeal_1 : decode cX8_layDeal 1 = .ok (.getfield 124, 3) := by decide +kernel
theorem dX8_layDeal_4 : decode cX8_layDeal 4 = .ok (.iconst 1, 1) := by decide +kernel
theorem dX8_layDeal_5 : decode cX8_layDeal 5 = .ok (.isub, 1) := by decide +kernel
theorem dX8_layDeal_6 : decode cX8_layDeal 6 = .ok (.istore_n 3, 1) := by decide +kernel
theorem dX8_layDeal_7 : decode cX8_layDeal 7 = .ok (.aload_n 0, 1) := by decide +kernel
theorem dX8_layDeal_8 : decode cX8_layDeal 8 = .ok (.getfield 54, 3) := by decide +kernel
theorem dX8_layDeal_11 : decode cX8_layDeal 11 = .ok (.iload_n 3, 1) := by decide +kernel
theorem dX8_layDeal_12 : decode cX8_layDeal 12 = .ok (.iconst 0, 1) := by decide +kernel
theorem dX8_layDeal_13 : decode cX8_layDeal 13 = .ok (.iastore, 1) := by decide +kernel
theorem dX8_layDeal_14 : decode cX8_layDeal 14 = .ok (.aload_n 0, 1) := by decide +kernel
theorem dX8_layDeal_15 : decode cX8_layDeal 15 = .ok (.getfield 57, 3) := by decide +kernel
theorem dX8_layDeal_18 : decode cX8_layDeal 18 = .ok (.iload_n 3, 1) := by decide +kernel
theorem dX8_layDeal_19 : decode cX8_layDeal 19 = .ok (.iconst 0, 1) := by decide +kernel
theorem dX8_layDeal_20 : decode cX8_layDeal 20 = .ok (.iastore, 1) := by decide +kernel
theorem dX8_layDeal_21 : decode cX8_layDeal 21 = .ok (.aload_n 0, 1) := by decide +kernel
theorem dX8_layDeal_22 : decode cX8_layDeal 22 = .ok (.getfield 60, 3) := by decide +kernel
theorem dX8_layDeal_25 : decode cX8_layDeal 25 = .ok (.iload_n 3, 1) := by decide +kernel
theorem dX8_layDeal_26 : decode cX8_layDeal 26 = .ok (.iconst 0, 1) := by decide +kernel
theorem dX8_layDeal_27 : decode cX8_layDeal 27 = .ok (.iastore, 1) := by decide +kernel
theorem dX8_layDeal_28 : decode cX8_layDeal 28 = .ok (.aload_n 0, 1) := by decide +kernel
theorem dX8_layDeal_29 : decode cX8_layDeal 29 = .ok (.getfield 63, 3) := by decide +kernel
theorem dX8_layDeal_32 : decode cX8_layDeal 32 = .ok (.iload_n 3, 1) := by decide +kernel
theorem dX8_layDeal_33 : decode cX8_layDeal 33 = .ok (.iconst 0, 1) := by decide +kernel
theorem dX8_layDeal_34 : decode cX8_layDeal 34 = .ok (.bastore, 1) := by decide +kernel
theorem dX8_layDeal_35 : decode cX8_layDeal 35 = .ok (.aload_n 0, 1) := by decide +kernel
theorem dX8_layDeal_36 : decode cX8_layDeal 36 = .ok (.getfield 66, 3) := by decide +kernel
theorem dX8_layDeal_39 : decode cX8_layDeal 39 = .ok (.iload_n 3, 1) := by decide +kernel
theorem dX8_layDeal_40 : decode cX8_layDeal 40 = .ok (.aload_n 0, 1) := by decide +kernel
theorem dX8_layDeal_41 : decode cX8_layDeal 41 = .ok (.getfield 42, 3) := by decide +kernel
theorem dX8_layDeal_44 : decode cX8_layDeal 44 = .ok (.iconst 4, 1) := by decide +kernel
theorem dX8_layDeal_45 : decode cX8_layDeal 45 = .ok (.iload_n 1, 1) := by decide +kernel
theorem dX8_layDeal_46 : decode cX8_layDeal 46 = .ok (.imul, 1) := by decide +kernel
theorem dX8_layDeal_47 : decode cX8_layDeal 47 = .ok (.iload_n 2, 1) := by decide +kernel
theorem dX8_layDeal_48 : decode cX8_layDeal 48 = .ok (.iadd, 1) := by decide +kernel
theorem dX8_layDeal_49 : decode cX8_layDeal 49 = .ok (.baload, 1) := by decide +kernel
theorem dX8_layDeal_50 : decode cX8_layDeal 50 = .ok (.bastore, 1) := by decide +kernel
theorem dX8_layDeal_51 : decode cX8_layDeal 51 = .ok (.aload_n 0, 1) := by decide +kernel
theorem dX8_layDeal_52 : decode cX8_layDeal 52 = .ok (.getfield 69, 3) := by decide +kernel
theorem dX8_layDeal_55 : decode cX8_layDeal 55 = .ok (.iload_n 3, 1) := by decide +kernel
theorem dX8_layDeal_56 : decode cX8_layDeal 56 = .ok (.aload_n 0, 1) := by decide +kernel
theorem dX8_layDeal_57 : decode cX8_layDeal 57 = .ok (.getfield 45, 3) := by decide +kernel
theorem dX8_layDeal_60 : decode cX8_layDeal 60 = .ok (.iconst 4, 1) := by decide +kernel
theorem dX8_layDeal_61 : decode cX8_layDeal 61 = .ok (.iload_n 1, 1) := by decide +kernel
theorem dX8_layDeal_62 : decode cX8_layDeal 62 = .ok (.imul, 1) := by decide +kernel
theorem dX8_layDeal_63 : decode cX8_layDeal 63 = .ok (.iload_n 2, 1) := by decide +kernel
theorem dX8_layDeal_64 : decode cX8_layDeal 64 = .ok (.iadd, 1) := by decide +kernel
theorem dX8_layDeal_65 : decode cX8_layDeal 65 = .ok (.baload, 1) := by decide +kernel
theorem dX8_layDeal_66 : decode cX8_layDeal 66 = .ok (.bastore, 1) := by decide +kernel
theorem dX8_layDeal_67 : decode cX8_layDeal 67 = .ok (.aload_n 0, 1) := by decide +kernel
theorem dX8_layDeal_68 : decode cX8_layDeal 68 = .ok (.aload_n 0, 1) := by decide +kernel
theorem dX8_layDeal_69 : decode cX8_layDeal 69 = .ok (.getfield 124, 3) := by decide +kernel
theorem dX8_layDeal_72 : decode cX8_layDeal 72 = .ok (.putfield 127, 3) := by decide +kernel
theorem dX8_layDeal_75 : decode cX8_layDeal 75 = .ok (.return_, 1) := by decide +kernel
def f_X8_layDeal (x1 : Int32) (x2 : Int32) (M : m_M) : Option m_M :=
  m_gd (m_in ((M.1 172 22) - (1 : Int32)) 60) (
  m_bd (m_sI M 186 (((M.1 172 22) - (1 : Int32)).toNatClampNeg) 0) fun M2 =>
  m_bd (m_sI M2 187 (((M.1 172 22) - (1 : Int32)).toNatClampNeg) 0) fun M3 =>
  m_bd (m_sI M3 188 (((M.1 172 22) - (1 : Int32)).toNatClampNeg) 0) fun M4 =>
  m_bd (m_sI M4 189 (((M.1 172 22) - (1 : Int32)).toNatClampNeg) 0) fun M5 =>
  m_gd (m_in (((4 : Int32) * x1) + x2) 40) (
  m_gd (m_B (M5.1 182 ((((4 : Int32) * x1) + x2).toNatClampNeg))) (
  m_bd (m_sI M5 190 (((M.1 172 22) - (1 : Int32)).toNatClampNeg) (M5.1 182 ((((4 : Int32) * x1) + x2).toNatClampNeg))) fun M7 =>
  m_gd (m_B (M7.1 183 ((((4 : Int32) * x1) + x2).toNatClampNeg))) (
  m_bd (m_sI M7 191 (((M.1 172 22) - (1 : Int32)).toNatClampNeg) (M7.1 183 ((((4 : Int32) * x1) + x2).toNatClampNeg))) fun M9 =>
  m_bd (m_sI M9 172 23 (M9.1 172 22)) fun M11 =>
  some M11))))
set_option maxHeartbeats 4000000 in
set_option maxRecDepth 100000 in
theorem c_X8_layDeal (l : Launch) (G : m_G) {x1 : Int32} {x2 : Int32} {M : m_M} {M0 : m_M}  (hres : f_X8_layDeal x1 x2 M = some M0) : Met l yX8_layDeal (m_U yX8_layDeal cX8_layDeal 4 none) (m_R 0 0) (m_Pc G [.ref (m_ad G 172), .int x1, .int x2] M) (m_Qv G M0) 0 0 (m_A G) := by
  refine m_i0 (n := 4) RX8 rfl (by decide) (Nat.le_of_ble_eq_true rfl) ?_
  intro p e s m args below meth c X hr hlk hSt hP hS ls hl
  have hl : lv_has ls 4 [(0, .ref (m_ad G 172)), (1, .int x1), (2, .int x2)] := hl
  unfold f_X8_layDeal at hres
  refine lv_aload_n X.1 X.2.1 dX8_layDeal_0 rfl (lv_at hl 0 rfl) ?_
  refine m_g8 (v := .int (M.1 172 22)) X hSt hP m_z_172 22 (by decide) rfl k_f_X8_124 dX8_layDeal_1 ?_
  refine lv_iconst (v := 1) X.1 X.2.1 dX8_layDeal_4 (by decide) ?_
  refine lv_isub X.1 X.2.1 dX8_layDeal_5 ?_
  refine lv_istore_n (lv' := [(3, .int ((M.1 172 22) - (1 : Int32))), (0, .ref (m_ad G 172)), (1, .int x1), (2, .int x2)]) X.1 X.2.1 dX8_layDeal_6 rfl hl (by decide) rfl (fun ls hl => ?_)
  refine lv_aload_n X.1 X.2.1 dX8_layDeal_7 rfl (lv_at hl 1 rfl) ?_
  refine m_g8 (v := .ref (m_ad G 186)) X hSt hP m_z_172 16 (by decide) rfl k_f_X8_54 dX8_layDeal_8 ?_
  refine lv_iload_n X.1 X.2.1 dX8_layDeal_11 rfl (lv_at hl 0 rfl) ?_
  refine lv_iconst (v := 0) X.1 X.2.1 dX8_layDeal_12 (by decide) ?_
  obtain ⟨hg1, hres⟩ := m_gd_e hres
  obtain ⟨M2, eM2, hres⟩ := m_bd_e hres
  refine m_is (j := (((M.1 172 22) - (1 : Int32)).toNatClampNeg)) X hSt hP hS m_z_186 hg1 rfl dX8_layDeal_13 eM2 (fun H locs hP hS => ?_)
  refine lv_aload_n X.1 X.2.1 dX8_layDeal_14 rfl (lv_at hl 1 rfl) ?_
  refine m_g8 (v := .ref (m_ad G 187)) X hSt hP m_z_172 17 (by decide) rfl k_f_X8_57 dX8_layDeal_15 ?_
  refine lv_iload_n X.1 X.2.1 dX8_layDeal_18 rfl (lv_at hl 0 rfl) ?_
  refine lv_iconst (v := 0) X.1 X.2.1 dX8_layDeal_19 (by decide) ?_
  obtain ⟨M3, eM3, hres⟩ := m_bd_e hres
  refine m_is (j := (((M.1 172 22) - (1 : Int32)).toNatClampNeg)) X hSt hP hS m_z_187 hg1 rfl dX8_layDeal_20 eM3 (fun H locs hP hS => ?_)
  refine lv_aload_n X.1 X.2.1 dX8_layDeal_21 rfl (lv_at hl 1 rfl) ?_
  refine m_g8 (v := .ref (m_ad G 188)) X hSt hP m_z_172 18 (by decide) rfl k_f_X8_60 dX8_layDeal_22 ?_
  refine lv_iload_n X.1 X.2.1 dX8_layDeal_25 rfl (lv_at hl 0 rfl) ?_
  refine lv_iconst (v := 0) X.1 X.2.1 dX8_layDeal_26 (by decide) ?_
  obtain ⟨M4, eM4, hres⟩ := m_bd_e hres
  refine m_is (j := (((M.1 172 22) - (1 : Int32)).toNatClampNeg)) X hSt hP hS m_z_188 hg1 rfl dX8_layDeal_27 eM4 (fun H locs hP hS => ?_)
  refine lv_aload_n X.1 X.2.1 dX8_layDeal_28 rfl (lv_at hl 1 rfl) ?_
  refine m_g8 (v := .ref (m_ad G 189)) X hSt hP m_z_172 19 (by decide) rfl k_f_X8_63 dX8_layDeal_29 ?_
  refine lv_iload_n X.1 X.2.1 dX8_layDeal_32 rfl (lv_at hl 0 rfl) ?_
  refine lv_iconst (v := 0) X.1 X.2.1 dX8_layDeal_33 (by decide) ?_
  obtain ⟨M5, eM5, hres⟩ := m_bd_e hres
  refine m_zs (j := (((M.1 172 22) - (1 : Int32)).toNatClampNeg)) X hSt hP hS m_z_189 hg1 rfl (by decide)  dX8_layDeal_34 eM5 (fun H locs hP hS => ?_)
  refine lv_aload_n X.1 X.2.1 dX8_layDeal_35 rfl (lv_at hl 1 rfl) ?_
  refine m_g8 (v := .ref (m_ad G 190)) X hSt hP m_z_172 20 (by decide) rfl k_f_X8_66 dX8_layDeal_36 ?_
  refine lv_iload_n X.1 X.2.1 dX8_layDeal_39 rfl (lv_at hl 0 rfl) ?_
  refine lv_aload_n X.1 X.2.1 dX8_layDeal_40 rfl (lv_at hl 1 rfl) ?_
  refine m_g8 (v := .ref (m_ad G 182)) X hSt hP m_z_172 12 (by decide) rfl k_f_X8_42 dX8_layDeal_41 ?_
  refine lv_iconst (v := 4) X.1 X.2.1 dX8_layDeal_44 (by decide) ?_
  refine lv_iload_n X.1 X.2.1 dX8_layDeal_45 rfl (lv_at hl 2 rfl) ?_
  refine lv_imul X.1 X.2.1 dX8_layDeal_46 ?_
  refine lv_iload_n X.1 X.2.1 dX8_layDeal_47 rfl (lv_at hl 3 rfl) ?_
  refine lv_iadd X.1 X.2.1 dX8_layDeal_48 ?_
  obtain ⟨hg6, hres⟩ := m_gd_e hres
  refine m_za (j := ((((4 : Int32) * x1) + x2).toNatClampNeg)) X hSt hP m_z_182 hg6 rfl dX8_layDeal_49 ?_
  obtain ⟨hb8, hres⟩ := m_gd_e hres
  obtain ⟨M7, eM7, hres⟩ := m_bd_e hres
  refine m_zs (j := (((M.1 172 22) - (1 : Int32)).toNatClampNeg)) X hSt hP hS m_z_190 hg1 rfl hb8  dX8_layDeal_50 eM7 (fun H locs hP hS => ?_)
  refine lv_aload_n X.1 X.2.1 dX8_layDeal_51 rfl (lv_at hl 1 rfl) ?_
  refine m_g8 (v := .ref (m_ad G 191)) X hSt hP m_z_172 21 (by decide) rfl k_f_X8_69 dX8_layDeal_52 ?_
  refine lv_iload_n X.1 X.2.1 dX8_layDeal_55 rfl (lv_at hl 0 rfl) ?_
  refine lv_aload_n X.1 X.2.1 dX8_layDeal_56 rfl (lv_at hl 1 rfl) ?_
  refine m_g8 (v := .ref (m_ad G 183)) X hSt hP m_z_172 13 (by decide) rfl k_f_X8_45 dX8_layDeal_57 ?_
  refine lv_iconst (v := 4) X.1 X.2.1 dX8_layDeal_60 (by decide) ?_
  refine lv_iload_n X.1 X.2.1 dX8_layDeal_61 rfl (lv_at hl 2 rfl) ?_
  refine lv_imul X.1 X.2.1 dX8_layDeal_62 ?_
  refine lv_iload_n X.1 X.2.1 dX8_layDeal_63 rfl (lv_at hl 3 rfl) ?_
  refine lv_iadd X.1 X.2.1 dX8_layDeal_64 ?_
  refine m_za (j := ((((4 : Int32) * x1) + x2).toNatClampNeg)) X hSt hP m_z_183 hg6 rfl dX8_layDeal_65 ?_
  obtain ⟨hb10, hres⟩ := m_gd_e hres
  obtain ⟨M9, eM9, hres⟩ := m_bd_e hres
  refine m_zs (j := (((M.1 172 22) - (1 : Int32)).toNatClampNeg)) X hSt hP hS m_z_191 hg1 rfl hb10  dX8_layDeal_66 eM9 (fun H locs hP hS => ?_)
  refine lv_aload_n X.1 X.2.1 dX8_layDeal_67 rfl (lv_at hl 1 rfl) ?_
  refine lv_aload_n X.1 X.2.1 dX8_layDeal_68 rfl (lv_at hl 1 rfl) ?_
  refine m_g8 (v := .int (M9.1 172 22)) X hSt hP m_z_172 22 (by decide) rfl k_f_X8_124 dX8_layDeal_69 ?_
  obtain ⟨M11, eM11, hres⟩ := m_bd_e hres
  refine m_pi8 X hSt hP hS m_z_172 23 (by decide) eM11 rfl rfl (by decide) k_f_X8_127 dX8_layDeal_72 (fun H locs hP hS => ?_)
  exact m_rv X hr hlk hP hS (Option.some.inj hres) dX8_layDeal_75
theorem dX8_lay_0 : decode cX8_lay 0 = .ok (.iload_n 2, 1) := by decide +kernel
theorem dX8_lay_1 : decode cX8_lay 1 = .ok (.tableswitch 274 0 13 #[71, 89, 108, 108, 127, 137, 147, 162, 177, 192, 206, 220, 240, 260], 71) := by decide +kernel
theorem dX8_lay_72 : decode cX8_lay 72 = .ok (.aload_n 0, 1) := by decide +kernel
theorem dX8_lay_73 : decode cX8_lay 73 = .ok (.getfield 27, 3) := by decide +kernel
theorem dX8_lay_76 : decode cX8_lay 76 = .ok (.iload_n 3, 1) := by decide +kernel
theorem dX8_lay_77 : decode cX8_lay 77 = .ok (.iload 4, 2) := by decide +kernel
theorem dX8_lay_79 : decode cX8_lay 79 = .ok (.iastore, 1) := by decide +kernel
theorem dX8_lay_80 : decode cX8_lay 80 = .ok (.aload_n 0, 1) := by decide +kernel
theorem dX8_lay_81 : decode cX8_lay 81 = .ok (.getfield 30, 3) := by decide +kernel
theorem dX8_lay_84 : decode cX8_lay 84 = .ok (.iload_n 3, 1) := by decide +kernel
theorem dX8_lay_85 : decode cX8_lay 85 = .ok (.iconst (-1), 1) := by decide +kernel
theorem dX8_lay_86 : decode cX8_lay 86 = .ok (.iastore, 1) := by decide +kernel
theorem dX8_lay_87 : decode cX8_lay 87 = .ok (.goto 227, 3) := by decide +kernel
theorem dX8_lay_90 : decode cX8_lay 90 = .ok (.aload_n 0, 1) := by decide +kernel
theorem dX8_lay_91 : decode cX8_lay 91 = .ok (.getfield 39, 3) := by decide +kernel
theorem dX8_lay_94 : decode cX8_lay 94 = .ok (.iconst 4, 1) := by decide +kernel
theorem dX8_lay_95 : decode cX8_lay 95 = .ok (.iload_n 3, 1) := by decide +kernel
theorem dX8_lay_96 : decode cX8_lay 96 = .ok (.imul, 1) := by decide +kernel
theorem dX8_lay_97 : decode cX8_lay 97 = .ok (.iload 4, 2) := by decide +kernel
theorem dX8_lay_99 : decode cX8_lay 99 = .ok (.iadd, 1) := by decide +kernel
theorem dX8_lay_100 : decode cX8_lay 100 = .ok (.dup2, 1) := by decide +kernel
theorem dX8_lay_101 : decode cX8_lay 101 = .ok (.iaload, 1) := by decide +kernel
theorem dX8_lay_102 : decode cX8_lay 102 = .ok (.iload 5, 2) := by decide +kernel
theorem dX8_lay_104 : decode cX8_lay 104 = .ok (.iadd, 1) := by decide +kernel
theorem dX8_lay_105 : decode cX8_lay 105 = .ok (.iastore, 1) := by decide +kernel
theorem dX8_lay_106 : decode cX8_lay 106 = .ok (.goto 208, 3) := by decide +kernel
theorem dX8_lay_109 : decode cX8_lay 109 = .ok (.aload_n 0, 1) := by decide +kernel
theorem dX8_lay_110 : decode cX8_lay 110 = .ok (.getfield 39, 3) := by decide +kernel
theorem dX8_lay_113 : decode cX8_lay 113 = .ok (.iconst 4, 1) := by decide +kernel
theorem dX8_lay_114 : decode cX8_lay 114 = .ok (.iload_n 3, 1) := by decide +kernel
theorem dX8_lay_115 : decode cX8_lay 115 = .ok (.imul, 1) := by decide +kernel
theorem dX8_lay_116 : decode cX8_lay 116 = .ok (.iload 4, 2) := by decide +kernel
theorem dX8_lay_118 : decode cX8_lay 118 = .ok (.iadd, 1) := by decide +kernel
theorem dX8_lay_119 : decode cX8_lay 119 = .ok (.dup2, 1) := by decide +kernel
theorem dX8_lay_120 : decode cX8_lay 120 = .ok (.iaload, 1) := by decide +kernel
theorem dX8_lay_121 : decode cX8_lay 121 = .ok (.iload 5, 2) := by decide +kernel
theorem dX8_lay_123 : decode cX8_lay 123 = .ok (.isub, 1) := by decide +kernel
theorem dX8_lay_124 : decode cX8_lay 124 = .ok (.iastore, 1) := by decide +kernel
theorem dX8_lay_125 : decode cX8_lay 125 = .ok (.goto 189, 3) := by decide +kernel
theorem dX8_lay_128 : decode cX8_lay 128 = .ok (.aload_n 0, 1) := by decide +kernel
theorem dX8_lay_129 : decode cX8_lay 129 = .ok (.iload_n 3, 1) := by decide +kernel
theorem dX8_lay_130 : decode cX8_lay 130 = .ok (.iload 4, 2) := by decide +kernel
theorem dX8_lay_132 : decode cX8_lay 132 = .ok (.invokevirtual 144, 3) := by decide +kernel
theorem dX8_lay_135 : decode cX8_lay 135 = .ok (.goto 179, 3) := by decide +kernel
theorem dX8_lay_138 : decode cX8_lay 138 = .ok (.aload_n 0, 1) := by decide +kernel
theorem dX8_lay_139 : decode cX8_lay 139 = .ok (.getfield 63, 3) := by decide +kernel
theorem dX8_lay_142 : decode cX8_lay 142 = .ok (.iload_n 3, 1) := by decide +kernel
theorem dX8_lay_143 : decode cX8_lay 143 = .ok (.iconst 1, 1) := by decide +kernel
theorem dX8_lay_144 : decode cX8_lay 144 = .ok (.bastore, 1) := by decide +kernel
theorem dX8_lay_145 : decode cX8_lay 145 = .ok (.goto 169, 3) := by decide +kernel
theorem dX8_lay_148 : decode cX8_lay 148 = .ok (.aload_n 0, 1) := by decide +kernel
theorem dX8_lay_149 : decode cX8_lay 149 = .ok (.getfield 42, 3) := by decide +kernel
theorem dX8_lay_152 : decode cX8_lay 152 = .ok (.iconst 4, 1) := by decide +kernel
theorem dX8_lay_153 : decode cX8_lay 153 = .ok (.iload_n 3, 1) := by decide +kernel
theorem dX8_lay_154 : decode cX8_lay 154 = .ok (.imul, 1) := by decide +kernel
theorem dX8_lay_155 : decode cX8_lay 155 = .ok (.iload 4, 2) := by decide +kernel
theorem dX8_lay_157 : decode cX8_lay 157 = .ok (.iadd, 1) := by decide +kernel
theorem dX8_lay_158 : decode cX8_lay 158 = .ok (.iconst 1, 1) := by decide +kernel
theorem dX8_lay_159 : decode cX8_lay 159 = .ok (.bastore, 1) := by decide +kernel
theorem dX8_lay_160 : decode cX8_lay 160 = .ok (.goto 154, 3) := by decide +kernel
theorem dX8_lay_163 : decode cX8_lay 163 = .ok (.aload_n 0, 1) := by decide +kernel
theorem dX8_lay_164 : decode cX8_lay 164 = .ok (.getfield 42, 3) := by decide +kernel
theorem dX8_lay_167 : decode cX8_lay 167 = .ok (.iconst 4, 1) := by decide +kernel
theorem dX8_lay_168 : decode cX8_lay 168 = .ok (.iload_n 3, 1) := by decide +kernel
theorem dX8_lay_169 : decode cX8_lay 169 = .ok (.imul, 1) := by decide +kernel
theorem dX8_lay_170 : decode cX8_lay 170 = .ok (.iload 4, 2) := by decide +kernel
theorem dX8_lay_172 : decode cX8_lay 172 = .ok (.iadd, 1) := by decide +kernel
theorem dX8_lay_173 : decode cX8_lay 173 = .ok (.iconst 0, 1) := by decide +kernel
theorem dX8_lay_174 : decode cX8_lay 174 = .ok (.bastore, 1) := by decide +kernel
theorem dX8_lay_175 : decode cX8_lay 175 = .ok (.goto 139, 3) := by decide +kernel
theorem dX8_lay_178 : decode cX8_lay 178 = .ok (.aload_n 0, 1) := by decide +kernel
theorem dX8_lay_179 : decode cX8_lay 179 = .ok (.getfield 45, 3) := by decide +kernel
theorem dX8_lay_182 : decode cX8_lay 182 = .ok (.iconst 4, 1) := by decide +kernel
theorem dX8_lay_183 : decode cX8_lay 183 = .ok (.iload_n 3, 1) := by decide +kernel
theorem dX8_lay_184 : decode cX8_lay 184 = .ok (.imul, 1) := by decide +kernel
theorem dX8_lay_185 : decode cX8_lay 185 = .ok (.iload 4, 2) := by decide +kernel
theorem dX8_lay_187 : decode cX8_lay 187 = .ok (.iadd, 1) := by decide +kernel
theorem dX8_lay_188 : decode cX8_lay 188 = .ok (.iconst 1, 1) := by decide +kernel
theorem dX8_lay_189 : decode cX8_lay 189 = .ok (.bastore, 1) := by decide +kernel
theorem dX8_lay_190 : decode cX8_lay 190 = .ok (.goto 124, 3) := by decide +kernel
theorem dX8_lay_193 : decode cX8_lay 193 = .ok (.aload_n 0, 1) := by decide +kernel
theorem dX8_lay_194 : decode cX8_lay 194 = .ok (.getfield 57, 3) := by decide +kernel
theorem dX8_lay_197 : decode cX8_lay 197 = .ok (.iload_n 3, 1) := by decide +kernel
theorem dX8_lay_198 : decode cX8_lay 198 = .ok (.dup2, 1) := by decide +kernel
theorem dX8_lay_199 : decode cX8_lay 199 = .ok (.iaload, 1) := by decide +kernel
theorem dX8_lay_200 : decode cX8_lay 200 = .ok (.iload 5, 2) := by decide +kernel
theorem dX8_lay_202 : decode cX8_lay 202 = .ok (.iadd, 1) := by decide +kernel
theorem dX8_lay_203 : decode cX8_lay 203 = .ok (.iastore, 1) := by decide +kernel
theorem dX8_lay_204 : decode cX8_lay 204 = .ok (.goto 110, 3) := by decide +kernel
theorem dX8_lay_207 : decode cX8_lay 207 = .ok (.aload_n 0, 1) := by decide +kernel
theorem dX8_lay_208 : decode cX8_lay 208 = .ok (.getfield 60, 3) := by decide +kernel
theorem dX8_lay_211 : decode cX8_lay 211 = .ok (.iload_n 3, 1) := by decide +kernel
theorem dX8_lay_212 : decode cX8_lay 212 = .ok (.dup2, 1) := by decide +kernel
theorem dX8_lay_213 : decode cX8_lay 213 = .ok (.iaload, 1) := by decide +kernel
theorem dX8_lay_214 : decode cX8_lay 214 = .ok (.iload 5, 2) := by decide +kernel
theorem dX8_lay_216 : decode cX8_lay 216 = .ok (.iadd, 1) := by decide +kernel
theorem dX8_lay_217 : decode cX8_lay 217 = .ok (.iastore, 1) := by decide +kernel
theorem dX8_lay_218 : decode cX8_lay 218 = .ok (.goto 96, 3) := by decide +kernel
theorem dX8_lay_221 : decode cX8_lay 221 = .ok (.aload_n 0, 1) := by decide +kernel
theorem dX8_lay_222 : decode cX8_lay 222 = .ok (.getfield 48, 3) := by decide +kernel
theorem dX8_lay_225 : decode cX8_lay 225 = .ok (.bipush 10, 2) := by decide +kernel
theorem dX8_lay_227 : decode cX8_lay 227 = .ok (.iload_n 3, 1) := by decide +kernel
theorem dX8_lay_228 : decode cX8_lay 228 = .ok (.imul, 1) := by decide +kernel
theorem dX8_lay_229 : decode cX8_lay 229 = .ok (.iload 4, 2) := by decide +kernel
theorem dX8_lay_231 : decode cX8_lay 231 = .ok (.iadd, 1) := by decide +kernel
theorem dX8_lay_232 : decode cX8_lay 232 = .ok (.dup2, 1) := by decide +kernel
theorem dX8_lay_233 : decode cX8_lay 233 = .ok (.iaload, 1) := by decide +kernel
theorem dX8_lay_234 : decode cX8_lay 234 = .ok (.iload 5, 2) := by decide +kernel
theorem dX8_lay_236 : decode cX8_lay 236 = .ok (.iadd, 1) := by decide +kernel
theorem dX8_lay_237 : decode cX8_lay 237 = .ok (.iastore, 1) := by decide +kernel
theorem dX8_lay_238 : decode cX8_lay 238 = .ok (.goto 76, 3) := by decide +kernel
theorem dX8_lay_241 : decode cX8_lay 241 = .ok (.aload_n 0, 1) := by decide +kernel
theorem dX8_lay_242 : decode cX8_lay 242 = .ok (.getfield 48, 3) := by decide +kernel
theorem dX8_lay_245 : decode cX8_lay 245 = .ok (.bipush 10, 2) := by decide +kernel
theorem dX8_lay_247 : decode cX8_lay 247 = .ok (.iload_n 3, 1) := by decide +kernel
theorem dX8_lay_248 : decode cX8_lay 248 = .ok (.imul, 1) := by decide +kernel
theorem dX8_lay_249 : decode cX8_lay 249 = .ok (.iload 4, 2) := by decide +kernel
theorem dX8_lay_251 : decode cX8_lay 251 = .ok (.iadd, 1) := by decide +kernel
theorem dX8_lay_252 : decode cX8_lay 252 = .ok (.dup2, 1) := by decide +kernel
theorem dX8_lay_253 : decode cX8_lay 253 = .ok (.iaload, 1) := by decide +kernel
theorem dX8_lay_254 : decode cX8_lay 254 = .ok (.iload 5, 2) := by decide +kernel
theorem dX8_lay_256 : decode cX8_lay 256 = .ok (.isub, 1) := by decide +kernel
theorem dX8_lay_257 : decode cX8_lay 257 = .ok (.iastore, 1) := by decide +kernel
theorem dX8_lay_258 : decode cX8_lay 258 = .ok (.goto 56, 3) := by decide +kernel
theorem dX8_lay_261 : decode cX8_lay 261 = .ok (.aload_n 0, 1) := by decide +kernel
theorem dX8_lay_262 : decode cX8_lay 262 = .ok (.getfield 54, 3) := by decide +kernel
theorem dX8_lay_265 : decode cX8_lay 265 = .ok (.iload_n 3, 1) := by decide +kernel
theorem dX8_lay_266 : decode cX8_lay 266 = .ok (.dup2, 1) := by decide +kernel
theorem dX8_lay_267 : decode cX8_lay 267 = .ok (.iaload, 1) := by decide +kernel
theorem dX8_lay_268 : decode cX8_lay 268 = .ok (.iload 5, 2) := by decide +kernel
theorem dX8_lay_270 : decode cX8_lay 270 = .ok (.iadd, 1) := by decide +kernel
theorem dX8_lay_271 : decode cX8_lay 271 = .ok (.iastore, 1) := by decide +kernel
theorem dX8_lay_272 : decode cX8_lay 272 = .ok (.goto 42, 3) := by decide +kernel
theorem dX8_lay_275 : decode cX8_lay 275 = .ok (.aload_n 0, 1) := by decide +kernel
theorem dX8_lay_276 : decode cX8_lay 276 = .ok (.getfield 30, 3) := by decide +kernel
theorem dX8_lay_279 : decode cX8_lay 279 = .ok (.iload_n 3, 1) := by decide +kernel
theorem dX8_lay_280 : decode cX8_lay 280 = .ok (.aload_n 0, 1) := by decide +kernel
theorem dX8_lay_281 : decode cX8_lay 281 = .ok (.getfield 27, 3) := by decide +kernel
theorem dX8_lay_284 : decode cX8_lay 284 = .ok (.iload_n 3, 1) := by decide +kernel
theorem dX8_lay_285 : decode cX8_lay 285 = .ok (.iaload, 1) := by decide +kernel
theorem dX8_lay_286 : decode cX8_lay 286 = .ok (.iastore, 1) := by decide +kernel
theorem dX8_lay_287 : decode cX8_lay 287 = .ok (.aload_n 0, 1) := by decide +kernel
theorem dX8_lay_288 : decode cX8_lay 288 = .ok (.getfield 33, 3) := by decide +kernel
theorem dX8_lay_291 : decode cX8_lay 291 = .ok (.iload_n 3, 1) := by decide +kernel
theorem dX8_lay_292 : decode cX8_lay 292 = .ok (.aload_n 0, 1) := by decide +kernel
theorem dX8_lay_293 : decode cX8_lay 293 = .ok (.iload_n 1, 1) := by decide +kernel
theorem dX8_lay_294 : decode cX8_lay 294 = .ok (.iconst 0, 1) := by decide +kernel
theorem dX8_lay_295 : decode cX8_lay 295 = .ok (.invokevirtual 136, 3) := by decide +kernel
theorem dX8_lay_298 : decode cX8_lay 298 = .ok (.iastore, 1) := by decide +kernel
theorem dX8_lay_299 : decode cX8_lay 299 = .ok (.aload_n 0, 1) := by decide +kernel
theorem dX8_lay_300 : decode cX8_lay 300 = .ok (.getfield 36, 3) := by decide +kernel
theorem dX8_lay_303 : decode cX8_lay 303 = .ok (.iload_n 3, 1) := by decide +kernel
theorem dX8_lay_304 : decode cX8_lay 304 = .ok (.iload 4, 2) := by decide +kernel
theorem dX8_lay_306 : decode cX8_lay 306 = .ok (.iastore, 1) := by decide +kernel
theorem dX8_lay_307 : decode cX8_lay 307 = .ok (.aload_n 0, 1) := by decide +kernel
theorem dX8_lay_308 : decode cX8_lay 308 = .ok (.getfield 27, 3) := by decide +kernel
theorem dX8_lay_311 : decode cX8_lay 311 = .ok (.iload_n 3, 1) := by decide +kernel
theorem dX8_lay_312 : decode cX8_lay 312 = .ok (.iconst (-1), 1) := by decide +kernel
theorem dX8_lay_313 : decode cX8_lay 313 = .ok (.iastore, 1) := by decide +kernel
theorem dX8_lay_314 : decode cX8_lay 314 = .ok (.return_, 1) := by decide +kernel
def f_X8_lay (x1 : Int32) (x2 : Int32) (x3 : Int32) (x4 : Int32) (x5 : Int32) (M : m_M) : Option m_M :=
  if x2 = 0 then
  m_gd (m_in x3 10) (
  m_bd (m_sI M 177 x3.toNatClampNeg x4) fun M3 =>
  m_bd (m_sI M3 178 x3.toNatClampNeg (-1)) fun M4 =>
  some M4)
  else
  if x2 = 1 then
  m_gd (m_in (((4 : Int32) * x3) + x4) 40) (
  m_bd (m_sI M 181 ((((4 : Int32) * x3) + x4).toNatClampNeg) ((M.1 181 ((((4 : Int32) * x3) + x4).toNatClampNeg)) + x5)) fun M7 =>
  some M7)
  else
  if x2 = 2 ∨ x2 = 3 then
  m_gd (m_in (((4 : Int32) * x3) + x4) 40) (
  m_bd (m_sI M 181 ((((4 : Int32) * x3) + x4).toNatClampNeg) ((M.1 181 ((((4 : Int32) * x3) + x4).toNatClampNeg)) - x5)) fun M10 =>
  some M10)
  else
  if x2 = 4 then
  m_ob (f_X8_layDeal x3 x4 M) fun M12 =>
  some M12
  else
  if x2 = 5 then
  m_gd (m_in x3 60) (
  m_bd (m_sI M 189 x3.toNatClampNeg 1) fun M15 =>
  some M15)
  else
  if x2 = 6 then
  m_gd (m_in (((4 : Int32) * x3) + x4) 40) (
  m_bd (m_sI M 182 ((((4 : Int32) * x3) + x4).toNatClampNeg) 1) fun M18 =>
  some M18)
  else
  if x2 = 7 then
  m_gd (m_in (((4 : Int32) * x3) + x4) 40) (
  m_bd (m_sI M 182 ((((4 : Int32) * x3) + x4).toNatClampNeg) 0) fun M21 =>
  some M21)
  else
  if x2 = 8 then
  m_gd (m_in (((4 : Int32) * x3) + x4) 40) (
  m_bd (m_sI M 183 ((((4 : Int32) * x3) + x4).toNatClampNeg) 1) fun M24 =>
  some M24)
  else
  if x2 = 9 then
  m_gd (m_in x3 60) (
  m_bd (m_sI M 187 x3.toNatClampNeg ((M.1 187 x3.toNatClampNeg) + x5)) fun M27 =>
  some M27)
  else
  if x2 = 10 then
  m_gd (m_in x3 60) (
  m_bd (m_sI M 188 x3.toNatClampNeg ((M.1 188 x3.toNatClampNeg) + x5)) fun M30 =>
  some M30)
  else
  if x2 = 11 then
  m_gd (m_in (((10 : Int32) * x3) + x4) 100) (
  m_bd (m_sI M 184 ((((10 : Int32) * x3) + x4).toNatClampNeg) ((M.1 184 ((((10 : Int32) * x3) + x4).toNatClampNeg)) + x5)) fun M33 =>
  some M33)
  else
  if x2 = 12 then
  m_gd (m_in (((10 : Int32) * x3) + x4) 100) (
  m_bd (m_sI M 184 ((((10 : Int32) * x3) + x4).toNatClampNeg) ((M.1 184 ((((10 : Int32) * x3) + x4).toNatClampNeg)) - x5)) fun M36 =>
  some M36)
  else
  if x2 = 13 then
  m_gd (m_in x3 60) (
  m_bd (m_sI M 186 x3.toNatClampNeg ((M.1 186 x3.toNatClampNeg) + x5)) fun M39 =>
  some M39)
  else
  m_gd (m_in x3 10) (
  m_bd (m_sI M 178 x3.toNatClampNeg (M.1 177 x3.toNatClampNeg)) fun M41 =>
  m_ob (f_X8_of x1 0 M41) fun r42 =>
  m_bd (m_sI M41 179 x3.toNatClampNeg r42) fun M43 =>
  m_bd (m_sI M43 180 x3.toNatClampNeg x4) fun M44 =>
  m_bd (m_sI M44 177 x3.toNatClampNeg (-1)) fun M45 =>
  some M45)
set_option maxHeartbeats 4000000 in
set_option maxRecDepth 100000 in
theorem c_X8_lay (l : Launch) (G : m_G) {x1 : Int32} {x2 : Int32} {x3 : Int32} {x4 : Int32} {x5 : Int32} {M : m_M} {M0 : m_M}  (hres : f_X8_lay x1 x2 x3 x4 x5 M = some M0) : Met l yX8_lay (m_U yX8_lay cX8_lay 6 none) (m_R 1 23) (m_Pc G [.ref (m_ad G 172), .int x1, .int x2, .int x3, .int x4, .int x5] M) (m_Qv G M0) 0 0 (m_A G) := by
  refine m_i0 (n := 6) RX8 rfl (by decide) (Nat.le_of_ble_eq_true rfl) ?_
  intro p e s m args below meth c X hr hlk hSt hP hS ls hl
  have hl : lv_has ls 6 [(0, .ref (m_ad G 172)), (1, .int x1), (2, .int x2), (3, .int x3), (4, .int x4), (5, .int x5)] := hl
  unfold f_X8_lay at hres
  refine lv_iload_n X.1 X.2.1 dX8_lay_0 rfl (lv_at hl 2 rfl) ?_
  by_cases hc1 : x2 = 0
  · have hres := m_it hres hc1
    refine m_tin (tgt := 72) X dX8_lay_1 ⟨_, hc1, by decide, by decide, rfl⟩ (by decide) ?_
    refine lv_aload_n X.1 X.2.1 dX8_lay_72 rfl (lv_at hl 0 rfl) ?_
    refine m_g8 (v := .ref (m_ad G 177)) X hSt hP m_z_172 7 (by decide) rfl k_f_X8_27 dX8_lay_73 ?_
    refine lv_iload_n X.1 X.2.1 dX8_lay_76 rfl (lv_at hl 3 rfl) ?_
    refine lv_iload X.1 X.2.1 dX8_lay_77 (lv_at hl 4 rfl) ?_
    obtain ⟨hg2, hres⟩ := m_gd_e hres
    obtain ⟨M3, eM3, hres⟩ := m_bd_e hres
    refine m_is (j := x3.toNatClampNeg) X hSt hP hS m_z_177 hg2 rfl dX8_lay_79 eM3 (fun H locs hP hS => ?_)
    refine lv_aload_n X.1 X.2.1 dX8_lay_80 rfl (lv_at hl 0 rfl) ?_
    refine m_g8 (v := .ref (m_ad G 178)) X hSt hP m_z_172 8 (by decide) rfl k_f_X8_30 dX8_lay_81 ?_
    refine lv_iload_n X.1 X.2.1 dX8_lay_84 rfl (lv_at hl 3 rfl) ?_
    refine lv_iconst (v := (-1)) X.1 X.2.1 dX8_lay_85 (by decide) ?_
    obtain ⟨M4, eM4, hres⟩ := m_bd_e hres
    refine m_is (j := x3.toNatClampNeg) X hSt hP hS m_z_178 hg2 rfl dX8_lay_86 eM4 (fun H locs hP hS => ?_)
    refine lv_goto (tgt := 314) X.1 X.2.1 dX8_lay_87 (by decide) ?_
    exact m_rv X hr hlk hP hS (Option.some.inj hres) dX8_lay_314
  · have hres := m_if hres hc1
    by_cases hc5 : x2 = 1
    · have hres := m_it hres hc5
      refine m_tin (tgt := 90) X dX8_lay_1 ⟨_, hc5, by decide, by decide, rfl⟩ (by decide) ?_
      refine lv_aload_n X.1 X.2.1 dX8_lay_90 rfl (lv_at hl 0 rfl) ?_
      refine m_g8 (v := .ref (m_ad G 181)) X hSt hP m_z_172 11 (by decide) rfl k_f_X8_39 dX8_lay_91 ?_
      refine lv_iconst (v := 4) X.1 X.2.1 dX8_lay_94 (by decide) ?_
      refine lv_iload_n X.1 X.2.1 dX8_lay_95 rfl (lv_at hl 3 rfl) ?_
      refine lv_imul X.1 X.2.1 dX8_lay_96 ?_
      refine lv_iload X.1 X.2.1 dX8_lay_97 (lv_at hl 4 rfl) ?_
      refine lv_iadd X.1 X.2.1 dX8_lay_99 ?_
      refine lv_dup2_11 X.1 X.2.1 dX8_lay_100 rfl rfl ?_
      obtain ⟨hg6, hres⟩ := m_gd_e hres
      refine m_ia (j := ((((4 : Int32) * x3) + x4).toNatClampNeg)) X hSt hP m_z_181 hg6 rfl dX8_lay_101 ?_
      refine lv_iload X.1 X.2.1 dX8_lay_102 (lv_at hl 5 rfl) ?_
      refine lv_iadd X.1 X.2.1 dX8_lay_104 ?_
      obtain ⟨M7, eM7, hres⟩ := m_bd_e hres
      refine m_is (j := ((((4 : Int32) * x3) + x4).toNatClampNeg)) X hSt hP hS m_z_181 hg6 rfl dX8_lay_105 eM7 (fun H locs hP hS => ?_)
      refine lv_goto (tgt := 314) X.1 X.2.1 dX8_lay_106 (by decide) ?_
      exact m_rv X hr hlk hP hS (Option.some.inj hres) dX8_lay_314
    · have hres := m_if hres hc5
      by_cases hc8 : x2 = 2 ∨ x2 = 3
      · have hres := m_it hres hc8
        refine m_tin (tgt := 109) X dX8_lay_1 (by rcases hc8 with h | h <;> exact ⟨_, h, by decide, by decide, rfl⟩) (by decide) ?_
        refine lv_aload_n X.1 X.2.1 dX8_lay_109 rfl (lv_at hl 0 rfl) ?_
        refine m_g8 (v := .ref (m_ad G 181)) X hSt hP m_z_172 11 (by decide) rfl k_f_X8_39 dX8_lay_110 ?_
        refine lv_iconst (v := 4) X.1 X.2.1 dX8_lay_113 (by decide) ?_
        refine lv_iload_n X.1 X.2.1 dX8_lay_114 rfl (lv_at hl 3 rfl) ?_
        refine lv_imul X.1 X.2.1 dX8_lay_115 ?_
        refine lv_iload X.1 X.2.1 dX8_lay_116 (lv_at hl 4 rfl) ?_
        refine lv_iadd X.1 X.2.1 dX8_lay_118 ?_
        refine lv_dup2_11 X.1 X.2.1 dX8_lay_119 rfl rfl ?_
        obtain ⟨hg9, hres⟩ := m_gd_e hres
        refine m_ia (j := ((((4 : Int32) * x3) + x4).toNatClampNeg)) X hSt hP m_z_181 hg9 rfl dX8_lay_120 ?_
        refine lv_iload X.1 X.2.1 dX8_lay_121 (lv_at hl 5 rfl) ?_
        refine lv_isub X.1 X.2.1 dX8_lay_123 ?_
        obtain ⟨M10, eM10, hres⟩ := m_bd_e hres
        refine m_is (j := ((((4 : Int32) * x3) + x4).toNatClampNeg)) X hSt hP hS m_z_181 hg9 rfl dX8_lay_124 eM10 (fun H locs hP hS => ?_)
        refine lv_goto (tgt := 314) X.1 X.2.1 dX8_lay_125 (by decide) ?_
        exact m_rv X hr hlk hP hS (Option.some.inj hres) dX8_lay_314
      · have hres := m_if hres hc8
        by_cases hc11 : x2 = 4
        · have hres := m_it hres hc11
          refine m_tin (tgt := 128) X dX8_lay_1 ⟨_, hc11, by decide, by decide, rfl⟩ (by decide) ?_
          refine lv_aload_n X.1 X.2.1 dX8_lay_128 rfl (lv_at hl 0 rfl) ?_
          refine lv_iload_n X.1 X.2.1 dX8_lay_129 rfl (lv_at hl 3 rfl) ?_
          refine lv_iload X.1 X.2.1 dX8_lay_130 (lv_at hl 4 rfl) ?_
          obtain ⟨M12, eM12, hres⟩ := m_ob_e hres
          refine m_bv (m_cV (n := 2) (As := [.int x3, .int x4]) (rest := []) X hSt hP hS hl.1 (c_X8_layDeal l G  eM12) k_c_yX8_layDeal k_m_X8_144 k_i_yX8_layDeal k_s_yX8_layDeal k_n_X8 (by decide +kernel) (m_rc8 hSt hP m_z_172) rfl rfl ⟨Nat.le_of_ble_eq_true rfl, Nat.le_of_ble_eq_true rfl⟩ (Nat.le_of_ble_eq_true rfl) ⟨Nat.zero_le _, Nat.zero_le _⟩ dX8_lay_132) hS (fun H locs hP hS => ?_)
          refine lv_goto (tgt := 314) X.1 X.2.1 dX8_lay_135 (by decide) ?_
          exact m_rv X hr hlk hP hS (Option.some.inj hres) dX8_lay_314
        · have hres := m_if hres hc11
          by_cases hc13 : x2 = 5
          · have hres := m_it hres hc13
            refine m_tin (tgt := 138) X dX8_lay_1 ⟨_, hc13, by decide, by decide, rfl⟩ (by decide) ?_
            refine lv_aload_n X.1 X.2.1 dX8_lay_138 rfl (lv_at hl 0 rfl) ?_
            refine m_g8 (v := .ref (m_ad G 189)) X hSt hP m_z_172 19 (by decide) rfl k_f_X8_63 dX8_lay_139 ?_
            refine lv_iload_n X.1 X.2.1 dX8_lay_142 rfl (lv_at hl 3 rfl) ?_
            refine lv_iconst (v := 1) X.1 X.2.1 dX8_lay_143 (by decide) ?_
            obtain ⟨hg14, hres⟩ := m_gd_e hres
            obtain ⟨M15, eM15, hres⟩ := m_bd_e hres
            refine m_zs (j := x3.toNatClampNeg) X hSt hP hS m_z_189 hg14 rfl (by decide)  dX8_lay_144 eM15 (fun H locs hP hS => ?_)
            refine lv_goto (tgt := 314) X.1 X.2.1 dX8_lay_145 (by decide) ?_
            exact m_rv X hr hlk hP hS (Option.some.inj hres) dX8_lay_314
          · have hres := m_if hres hc13
            by_cases hc16 : x2 = 6
            · have hres := m_it hres hc16
              refine m_tin (tgt := 148) X dX8_lay_1 ⟨_, hc16, by decide, by decide, rfl⟩ (by decide) ?_
              refine lv_aload_n X.1 X.2.1 dX8_lay_148 rfl (lv_at hl 0 rfl) ?_
              refine m_g8 (v := .ref (m_ad G 182)) X hSt hP m_z_172 12 (by decide) rfl k_f_X8_42 dX8_lay_149 ?_
              refine lv_iconst (v := 4) X.1 X.2.1 dX8_lay_152 (by decide) ?_
              refine lv_iload_n X.1 X.2.1 dX8_lay_153 rfl (lv_at hl 3 rfl) ?_
              refine lv_imul X.1 X.2.1 dX8_lay_154 ?_
              refine lv_iload X.1 X.2.1 dX8_lay_155 (lv_at hl 4 rfl) ?_
              refine lv_iadd X.1 X.2.1 dX8_lay_157 ?_
              refine lv_iconst (v := 1) X.1 X.2.1 dX8_lay_158 (by decide) ?_
              obtain ⟨hg17, hres⟩ := m_gd_e hres
              obtain ⟨M18, eM18, hres⟩ := m_bd_e hres
              refine m_zs (j := ((((4 : Int32) * x3) + x4).toNatClampNeg)) X hSt hP hS m_z_182 hg17 rfl (by decide)  dX8_lay_159 eM18 (fun H locs hP hS => ?_)
              refine lv_goto (tgt := 314) X.1 X.2.1 dX8_lay_160 (by decide) ?_
              exact m_rv X hr hlk hP hS (Option.some.inj hres) dX8_lay_314
            · have hres := m_if hres hc16
              by_cases hc19 : x2 = 7
              · have hres := m_it hres hc19
                refine m_tin (tgt := 163) X dX8_lay_1 ⟨_, hc19, by decide, by decide, rfl⟩ (by decide) ?_
                refine lv_aload_n X.1 X.2.1 dX8_lay_163 rfl (lv_at hl 0 rfl) ?_
                refine m_g8 (v := .ref (m_ad G 182)) X hSt hP m_z_172 12 (by decide) rfl k_f_X8_42 dX8_lay_164 ?_
                refine lv_iconst (v := 4) X.1 X.2.1 dX8_lay_167 (by decide) ?_
                refine lv_iload_n X.1 X.2.1 dX8_lay_168 rfl (lv_at hl 3 rfl) ?_
                refine lv_imul X.1 X.2.1 dX8_lay_169 ?_
                refine lv_iload X.1 X.2.1 dX8_lay_170 (lv_at hl 4 rfl) ?_
                refine lv_iadd X.1 X.2.1 dX8_lay_172 ?_
                refine lv_iconst (v := 0) X.1 X.2.1 dX8_lay_173 (by decide) ?_
                obtain ⟨hg20, hres⟩ := m_gd_e hres
                obtain ⟨M21, eM21, hres⟩ := m_bd_e hres
                refine m_zs (j := ((((4 : Int32) * x3) + x4).toNatClampNeg)) X hSt hP hS m_z_182 hg20 rfl (by decide)  dX8_lay_174 eM21 (fun H locs hP hS => ?_)
                refine lv_goto (tgt := 314) X.1 X.2.1 dX8_lay_175 (by decide) ?_
                exact m_rv X hr hlk hP hS (Option.some.inj hres) dX8_lay_314
              · have hres := m_if hres hc19
                by_cases hc22 : x2 = 8
                · have hres := m_it hres hc22
                  refine m_tin (tgt := 178) X dX8_lay_1 ⟨_, hc22, by decide, by decide, rfl⟩ (by decide) ?_
                  refine lv_aload_n X.1 X.2.1 dX8_lay_178 rfl (lv_at hl 0 rfl) ?_
                  refine m_g8 (v := .ref (m_ad G 183)) X hSt hP m_z_172 13 (by decide) rfl k_f_X8_45 dX8_lay_179 ?_
                  refine lv_iconst (v := 4) X.1 X.2.1 dX8_lay_182 (by decide) ?_
                  refine lv_iload_n X.1 X.2.1 dX8_lay_183 rfl (lv_at hl 3 rfl) ?_
                  refine lv_imul X.1 X.2.1 dX8_lay_184 ?_
                  refine lv_iload X.1 X.2.1 dX8_lay_185 (lv_at hl 4 rfl) ?_
                  refine lv_iadd X.1 X.2.1 dX8_lay_187 ?_
                  refine lv_iconst (v := 1) X.1 X.2.1 dX8_lay_188 (by decide) ?_
                  obtain ⟨hg23, hres⟩ := m_gd_e hres
                  obtain ⟨M24, eM24, hres⟩ := m_bd_e hres
                  refine m_zs (j := ((((4 : Int32) * x3) + x4).toNatClampNeg)) X hSt hP hS m_z_183 hg23 rfl (by decide)  dX8_lay_189 eM24 (fun H locs hP hS => ?_)
                  refine lv_goto (tgt := 314) X.1 X.2.1 dX8_lay_190 (by decide) ?_
                  exact m_rv X hr hlk hP hS (Option.some.inj hres) dX8_lay_314
                · have hres := m_if hres hc22
                  by_cases hc25 : x2 = 9
                  · have hres := m_it hres hc25
                    refine m_tin (tgt := 193) X dX8_lay_1 ⟨_, hc25, by decide, by decide, rfl⟩ (by decide) ?_
                    refine lv_aload_n X.1 X.2.1 dX8_lay_193 rfl (lv_at hl 0 rfl) ?_
                    refine m_g8 (v := .ref (m_ad G 187)) X hSt hP m_z_172 17 (by decide) rfl k_f_X8_57 dX8_lay_194 ?_
                    refine lv_iload_n X.1 X.2.1 dX8_lay_197 rfl (lv_at hl 3 rfl) ?_
                    refine lv_dup2_11 X.1 X.2.1 dX8_lay_198 rfl rfl ?_
                    obtain ⟨hg26, hres⟩ := m_gd_e hres
                    refine m_ia (j := x3.toNatClampNeg) X hSt hP m_z_187 hg26 rfl dX8_lay_199 ?_
                    refine lv_iload X.1 X.2.1 dX8_lay_200 (lv_at hl 5 rfl) ?_
                    refine lv_iadd X.1 X.2.1 dX8_lay_202 ?_
                    obtain ⟨M27, eM27, hres⟩ := m_bd_e hres
                    refine m_is (j := x3.toNatClampNeg) X hSt hP hS m_z_187 hg26 rfl dX8_lay_203 eM27 (fun H locs hP hS => ?_)
                    refine lv_goto (tgt := 314) X.1 X.2.1 dX8_lay_204 (by decide) ?_
                    exact m_rv X hr hlk hP hS (Option.some.inj hres) dX8_lay_314
                  · have hres := m_if hres hc25
                    by_cases hc28 : x2 = 10
                    · have hres := m_it hres hc28
                      refine m_tin (tgt := 207) X dX8_lay_1 ⟨_, hc28, by decide, by decide, rfl⟩ (by decide) ?_
                      refine lv_aload_n X.1 X.2.1 dX8_lay_207 rfl (lv_at hl 0 rfl) ?_
                      refine m_g8 (v := .ref (m_ad G 188)) X hSt hP m_z_172 18 (by decide) rfl k_f_X8_60 dX8_lay_208 ?_
                      refine lv_iload_n X.1 X.2.1 dX8_lay_211 rfl (lv_at hl 3 rfl) ?_
                      refine lv_dup2_11 X.1 X.2.1 dX8_lay_212 rfl rfl ?_
                      obtain ⟨hg29, hres⟩ := m_gd_e hres
                      refine m_ia (j := x3.toNatClampNeg) X hSt hP m_z_188 hg29 rfl dX8_lay_213 ?_
                      refine lv_iload X.1 X.2.1 dX8_lay_214 (lv_at hl 5 rfl) ?_
                      refine lv_iadd X.1 X.2.1 dX8_lay_216 ?_
                      obtain ⟨M30, eM30, hres⟩ := m_bd_e hres
                      refine m_is (j := x3.toNatClampNeg) X hSt hP hS m_z_188 hg29 rfl dX8_lay_217 eM30 (fun H locs hP hS => ?_)
                      refine lv_goto (tgt := 314) X.1 X.2.1 dX8_lay_218 (by decide) ?_
                      exact m_rv X hr hlk hP hS (Option.some.inj hres) dX8_lay_314
                    · have hres := m_if hres hc28
                      by_cases hc31 : x2 = 11
                      · have hres := m_it hres hc31
                        refine m_tin (tgt := 221) X dX8_lay_1 ⟨_, hc31, by decide, by decide, rfl⟩ (by decide) ?_
                        refine lv_aload_n X.1 X.2.1 dX8_lay_221 rfl (lv_at hl 0 rfl) ?_
                        refine m_g8 (v := .ref (m_ad G 184)) X hSt hP m_z_172 14 (by decide) rfl k_f_X8_48 dX8_lay_222 ?_
                        refine lv_bipush (v := 10) X.1 X.2.1 dX8_lay_225 (by decide) ?_
                        refine lv_iload_n X.1 X.2.1 dX8_lay_227 rfl (lv_at hl 3 rfl) ?_
                        refine lv_imul X.1 X.2.1 dX8_lay_228 ?_
                        refine lv_iload X.1 X.2.1 dX8_lay_229 (lv_at hl 4 rfl) ?_
                        refine lv_iadd X.1 X.2.1 dX8_lay_231 ?_
                        refine lv_dup2_11 X.1 X.2.1 dX8_lay_232 rfl rfl ?_
                        obtain ⟨hg32, hres⟩ := m_gd_e hres
                        refine m_ia (j := ((((10 : Int32) * x3) + x4).toNatClampNeg)) X hSt hP m_z_184 hg32 rfl dX8_lay_233 ?_
                        refine lv_iload X.1 X.2.1 dX8_lay_234 (lv_at hl 5 rfl) ?_
                        refine lv_iadd X.1 X.2.1 dX8_lay_236 ?_
                        obtain ⟨M33, eM33, hres⟩ := m_bd_e hres
                        refine m_is (j := ((((10 : Int32) * x3) + x4).toNatClampNeg)) X hSt hP hS m_z_184 hg32 rfl dX8_lay_237 eM33 (fun H locs hP hS => ?_)
                        refine lv_goto (tgt := 314) X.1 X.2.1 dX8_lay_238 (by decide) ?_
                        exact m_rv X hr hlk hP hS (Option.some.inj hres) dX8_lay_314
                      · have hres := m_if hres hc31
                        by_cases hc34 : x2 = 12
                        · have hres := m_it hres hc34
                          refine m_tin (tgt := 241) X dX8_lay_1 ⟨_, hc34, by decide, by decide, rfl⟩ (by decide) ?_
                          refine lv_aload_n X.1 X.2.1 dX8_lay_241 rfl (lv_at hl 0 rfl) ?_
                          refine m_g8 (v := .ref (m_ad G 184)) X hSt hP m_z_172 14 (by decide) rfl k_f_X8_48 dX8_lay_242 ?_
                          refine lv_bipush (v := 10) X.1 X.2.1 dX8_lay_245 (by decide) ?_
                          refine lv_iload_n X.1 X.2.1 dX8_lay_247 rfl (lv_at hl 3 rfl) ?_
                          refine lv_imul X.1 X.2.1 dX8_lay_248 ?_
                          refine lv_iload X.1 X.2.1 dX8_lay_249 (lv_at hl 4 rfl) ?_
                          refine lv_iadd X.1 X.2.1 dX8_lay_251 ?_
                          refine lv_dup2_11 X.1 X.2.1 dX8_lay_252 rfl rfl ?_
                          obtain ⟨hg35, hres⟩ := m_gd_e hres
                          refine m_ia (j := ((((10 : Int32) * x3) + x4).toNatClampNeg)) X hSt hP m_z_184 hg35 rfl dX8_lay_253 ?_
                          refine lv_iload X.1 X.2.1 dX8_lay_254 (lv_at hl 5 rfl) ?_
                          refine lv_isub X.1 X.2.1 dX8_lay_256 ?_
                          obtain ⟨M36, eM36, hres⟩ := m_bd_e hres
                          refine m_is (j := ((((10 : Int32) * x3) + x4).toNatClampNeg)) X hSt hP hS m_z_184 hg35 rfl dX8_lay_257 eM36 (fun H locs hP hS => ?_)
                          refine lv_goto (tgt := 314) X.1 X.2.1 dX8_lay_258 (by decide) ?_
                          exact m_rv X hr hlk hP hS (Option.some.inj hres) dX8_lay_314
                        · have hres := m_if hres hc34
                          by_cases hc37 : x2 = 13
                          · have hres := m_it hres hc37
                            refine m_tin (tgt := 261) X dX8_lay_1 ⟨_, hc37, by decide, by decide, rfl⟩ (by decide) ?_
                            refine lv_aload_n X.1 X.2.1 dX8_lay_261 rfl (lv_at hl 0 rfl) ?_
                            refine m_g8 (v := .ref (m_ad G 186)) X hSt hP m_z_172 16 (by decide) rfl k_f_X8_54 dX8_lay_262 ?_
                            refine lv_iload_n X.1 X.2.1 dX8_lay_265 rfl (lv_at hl 3 rfl) ?_
                            refine lv_dup2_11 X.1 X.2.1 dX8_lay_266 rfl rfl ?_
                            obtain ⟨hg38, hres⟩ := m_gd_e hres
                            refine m_ia (j := x3.toNatClampNeg) X hSt hP m_z_186 hg38 rfl dX8_lay_267 ?_
                            refine lv_iload X.1 X.2.1 dX8_lay_268 (lv_at hl 5 rfl) ?_
                            refine lv_iadd X.1 X.2.1 dX8_lay_270 ?_
                            obtain ⟨M39, eM39, hres⟩ := m_bd_e hres
                            refine m_is (j := x3.toNatClampNeg) X hSt hP hS m_z_186 hg38 rfl dX8_lay_271 eM39 (fun H locs hP hS => ?_)
                            refine lv_goto (tgt := 314) X.1 X.2.1 dX8_lay_272 (by decide) ?_
                            exact m_rv X hr hlk hP hS (Option.some.inj hres) dX8_lay_314
                          · have hres := m_if hres hc37
                            refine m_tdf (tgt := 275) X dX8_lay_1 (by
    have := m_ne (z := 0) hc1 (by decide)
    have := m_ne (z := 1) hc5 (by decide)
    have := m_ne (z := 2) (not_or.mp hc8).1 (by decide)
    have := m_ne (z := 3) (not_or.mp hc8).2 (by decide)
    have := m_ne (z := 4) hc11 (by decide)
    have := m_ne (z := 5) hc13 (by decide)
    have := m_ne (z := 6) hc16 (by decide)
    have := m_ne (z := 7) hc19 (by decide)
    have := m_ne (z := 8) hc22 (by decide)
    have := m_ne (z := 9) hc25 (by decide)
    have := m_ne (z := 10) hc28 (by decide)
    have := m_ne (z := 11) hc31 (by decide)
    have := m_ne (z := 12) hc34 (by decide)
    have := m_ne (z := 13) hc37 (by decide)
    exact Or.inl (by omega)) (by decide) ?_
                            refine lv_aload_n X.1 X.2.1 dX8_lay_275 rfl (lv_at hl 0 rfl) ?_
                            refine m_g8 (v := .ref (m_ad G 178)) X hSt hP m_z_172 8 (by decide) rfl k_f_X8_30 dX8_lay_276 ?_
                            refine lv_iload_n X.1 X.2.1 dX8_lay_279 rfl (lv_at hl 3 rfl) ?_
                            refine lv_aload_n X.1 X.2.1 dX8_lay_280 rfl (lv_at hl 0 rfl) ?_
                            refine m_g8 (v := .ref (m_ad G 177)) X hSt hP m_z_172 7 (by decide) rfl k_f_X8_27 dX8_lay_281 ?_
                            refine lv_iload_n X.1 X.2.1 dX8_lay_284 rfl (lv_at hl 3 rfl) ?_
                            obtain ⟨hg40, hres⟩ := m_gd_e hres
                            refine m_ia (j := x3.toNatClampNeg) X hSt hP m_z_177 hg40 rfl dX8_lay_285 ?_
                            obtain ⟨M41, eM41, hres⟩ := m_bd_e hres
                            refine m_is (j := x3.toNatClampNeg) X hSt hP hS m_z_178 hg40 rfl dX8_lay_286 eM41 (fun H locs hP hS => ?_)
                            refine lv_aload_n X.1 X.2.1 dX8_lay_287 rfl (lv_at hl 0 rfl) ?_
                            refine m_g8 (v := .ref (m_ad G 179)) X hSt hP m_z_172 9 (by decide) rfl k_f_X8_33 dX8_lay_288 ?_
                            refine lv_iload_n X.1 X.2.1 dX8_lay_291 rfl (lv_at hl 3 rfl) ?_
                            refine lv_aload_n X.1 X.2.1 dX8_lay_292 rfl (lv_at hl 0 rfl) ?_
                            refine lv_iload_n X.1 X.2.1 dX8_lay_293 rfl (lv_at hl 1 rfl) ?_
                            refine lv_iconst (v := 0) X.1 X.2.1 dX8_lay_294 (by decide) ?_
                            obtain ⟨r42, err42, hres⟩ := m_ob_e hres
                            refine m_bi (m_cV (n := 2) (As := [.int x1, .int 0]) (rest := [.int x3, .ref (m_ad G 179)]) X hSt hP hS hl.1 (c_X8_of l G  err42) k_c_yX8_of k_m_X8_136 k_i_yX8_of k_s_yX8_of k_n_X8 (by decide +kernel) (m_rc8 hSt hP m_z_172) rfl rfl ⟨Nat.le_of_ble_eq_true rfl, Nat.le_of_ble_eq_true rfl⟩ (Nat.le_of_ble_eq_true rfl) ⟨Nat.zero_le _, Nat.zero_le _⟩ dX8_lay_295) hS (fun H locs hP hS => ?_)
                            obtain ⟨M43, eM43, hres⟩ := m_bd_e hres
                            refine m_is (j := x3.toNatClampNeg) X hSt hP hS m_z_179 hg40 rfl dX8_lay_298 eM43 (fun H locs hP hS => ?_)
                            refine lv_aload_n X.1 X.2.1 dX8_lay_299 rfl (lv_at hl 0 rfl) ?_
                            refine m_g8 (v := .ref (m_ad G 180)) X hSt hP m_z_172 10 (by decide) rfl k_f_X8_36 dX8_lay_300 ?_
                            refine lv_iload_n X.1 X.2.1 dX8_lay_303 rfl (lv_at hl 3 rfl) ?_
                            refine lv_iload X.1 X.2.1 dX8_lay_304 (lv_at hl 4 rfl) ?_
                            obtain ⟨M44, eM44, hres⟩ := m_bd_e hres
                            refine m_is (j := x3.toNatClampNeg) X hSt hP hS m_z_180 hg40 rfl dX8_lay_306 eM44 (fun H locs hP hS => ?_)
                            refine lv_aload_n X.1 X.2.1 dX8_lay_307 rfl (lv_at hl 0 rfl) ?_
                            refine m_g8 (v := .ref (m_ad G 177)) X hSt hP m_z_172 7 (by decide) rfl k_f_X8_27 dX8_lay_308 ?_
                            refine lv_iload_n X.1 X.2.1 dX8_lay_311 rfl (lv_at hl 3 rfl) ?_
                            refine lv_iconst (v := (-1)) X.1 X.2.1 dX8_lay_312 (by decide) ?_
                            obtain ⟨M45, eM45, hres⟩ := m_bd_e hres
                            refine m_is (j := x3.toNatClampNeg) X hSt hP hS m_z_177 hg40 rfl dX8_lay_313 eM45 (fun H locs hP hS => ?_)
                            exact m_rv X hr hlk hP hS (Option.some.inj hres) dX8_lay_314
theorem dX8_layDay_0 : decode cX8_layDay 0 = .ok (.aload_n 0, 1) := by decide +kernel
theorem dX8_layDay_1 : decode cX8_layDay 1 = .ok (.iload_n 1, 1) := by decide +kernel
theorem dX8_layDay_2 : decode cX8_layDay 2 = .ok (.putfield 121, 3) := by decide +kernel
theorem dX8_layDay_5 : decode cX8_layDay 5 = .ok (.iconst 0, 1) := by decide +kernel
theorem dX8_layDay_6 : decode cX8_layDay 6 = .ok (.istore_n 2, 1) := by decide +kernel
theorem dX8_layDay_7 : decode cX8_layDay 7 = .ok (.iload_n 2, 1) := by decide +kernel
theorem dX8_layDay_8 : decode cX8_layDay 8 = .ok (.bipush 10, 2) := by decide +kernel
theorem dX8_layDay_10 : decode cX8_layDay 10 = .ok (.if_icmp .ge 95, 3) := by decide +kernel
theorem dX8_layDay_13 : decode cX8_layDay 13 = .ok (.aload_n 0, 1) := by decide +kernel
theorem dX8_layDay_14 : decode cX8_layDay 14 = .ok (.getfield 27, 3) := by decide +kernel
theorem dX8_layDay_17 : decode cX8_layDay 17 = .ok (.iload_n 2, 1) := by decide +kernel
theorem dX8_layDay_18 : decode cX8_layDay 18 = .ok (.iconst (-1), 1) := by decide +kernel
theorem dX8_layDay_19 : decode cX8_layDay 19 = .ok (.iastore, 1) := by decide +kernel
theorem dX8_layDay_20 : decode cX8_layDay 20 = .ok (.aload_n 0, 1) := by decide +kernel
theorem dX8_layDay_21 : decode cX8_layDay 21 = .ok (.getfield 30, 3) := by decide +kernel
theorem dX8_layDay_24 : decode cX8_layDay 24 = .ok (.iload_n 2, 1) := by decide +kernel
theorem dX8_layDay_25 : decode cX8_layDay 25 = .ok (.iconst (-1), 1) := by decide +kernel
theorem dX8_layDay_26 : decode cX8_layDay 26 = .ok (.iastore, 1) := by decide +kernel
theorem dX8_layDay_27 : decode cX8_layDay 27 = .ok (.iconst 0, 1) := by decide +kernel
theorem dX8_layDay_28 : decode cX8_layDay 28 = .ok (.istore_n 3, 1) := by decide +kernel
theorem dX8_layDay_29 : decode cX8_layDay 29 = .ok (.iload_n 3, 1) := by decide +kernel
theorem dX8_layDay_30 : decode cX8_layDay 30 = .ok (.iconst 4, 1) := by decide +kernel
theorem dX8_layDay_31 : decode cX8_layDay 31 = .ok (.if_icmp .ge 42, 3) := by decide +kernel
theorem dX8_layDay_34 : decode cX8_layDay 34 = .ok (.aload_n 0, 1) := by decide +kernel
theorem dX8_layDay_35 : decode cX8_layDay 35 = .ok (.getfield 39, 3) := by decide +kernel
theorem dX8_layDay_38 : decode cX8_layDay 38 = .ok (.iconst 4, 1) := by decide +kernel
theorem dX8_layDay_39 : decode cX8_layDay 39 = .ok (.iload_n 2, 1) := by decide +kernel
theorem dX8_layDay_40 : decode cX8_layDay 40 = .ok (.imul, 1) := by decide +kernel
theorem dX8_layDay_41 : decode cX8_layDay 41 = .ok (.iload_n 3, 1) := by decide +kernel
theorem dX8_layDay_42 : decode cX8_layDay 42 = .ok (.iadd, 1) := by decide +kernel
theorem dX8_layDay_43 : decode cX8_layDay 43 = .ok (.iconst 0, 1) := by decide +kernel
theorem dX8_layDay_44 : decode cX8_layDay 44 = .ok (.iastore, 1) := by decide +kernel
theorem dX8_layDay_45 : decode cX8_layDay 45 = .ok (.aload_n 0, 1) := by decide +kernel
theorem dX8_layDay_46 : decode cX8_layDay 46 = .ok (.getfield 42, 3) := by decide +kernel
theorem dX8_layDay_49 : decode cX8_layDay 49 = .ok (.iconst 4, 1) := by decide +kernel
theorem dX8_layDay_50 : decode cX8_layDay 50 = .ok (.iload_n 2, 1) := by decide +kernel
theorem dX8_layDay_51 : decode cX8_layDay 51 = .ok (.imul, 1) := by decide +kernel
theorem dX8_layDay_52 : decode cX8_layDay 52 = .ok (.iload_n 3, 1) := by decide +kernel
theorem dX8_layDay_53 : decode cX8_layDay 53 = .ok (.iadd, 1) := by decide +kernel
theorem dX8_layDay_54 : decode cX8_layDay 54 = .ok (.iconst 0, 1) := by decide +kernel
theorem dX8_layDay_55 : decode cX8_layDay 55 = .ok (.bastore, 1) := by decide +kernel
theorem dX8_layDay_56 : decode cX8_layDay 56 = .ok (.aload_n 0, 1) := by decide +kernel
theorem dX8_layDay_57 : decode cX8_layDay 57 = .ok (.getfield 45, 3) := by decide +kernel
theorem dX8_layDay_60 : decode cX8_layDay 60 = .ok (.iconst 4, 1) := by decide +kernel
theorem dX8_layDay_61 : decode cX8_layDay 61 = .ok (.iload_n 2, 1) := by decide +kernel
theorem dX8_layDay_62 : decode cX8_layDay 62 = .ok (.imul, 1) := by decide +kernel
theorem dX8_layDay_63 : decode cX8_layDay 63 = .ok (.iload_n 3, 1) := by decide +kernel
theorem dX8_layDay_64 : decode cX8_layDay 64 = .ok (.iadd, 1) := by decide +kernel
theorem dX8_layDay_65 : decode cX8_layDay 65 = .ok (.iconst 0, 1) := by decide +kernel
theorem dX8_layDay_66 : decode cX8_layDay 66 = .ok (.bastore, 1) := by decide +kernel
theorem dX8_layDay_67 : decode cX8_layDay 67 = .ok (.iinc 3 1, 3) := by decide +kernel
theorem dX8_layDay_70 : decode cX8_layDay 70 = .ok (.goto (-41), 3) := by decide +kernel
theorem dX8_layDay_73 : decode cX8_layDay 73 = .ok (.iconst 0, 1) := by decide +kernel
theorem dX8_layDay_74 : decode cX8_layDay 74 = .ok (.istore_n 3, 1) := by decide +kernel
theorem dX8_layDay_75 : decode cX8_layDay 75 = .ok (.iload_n 3, 1) := by decide +kernel
theorem dX8_layDay_76 : decode cX8_layDay 76 = .ok (.bipush 10, 2) := by decide +kernel
theorem dX8_layDay_78 : decode cX8_layDay 78 = .ok (.if_icmp .ge 21, 3) := by decide +kernel
theorem dX8_layDay_81 : decode cX8_layDay 81 = .ok (.aload_n 0, 1) := by decide +kernel
theorem dX8_layDay_82 : decode cX8_layDay 82 = .ok (.getfield 48, 3) := by decide +kernel
theorem dX8_layDay_85 : decode cX8_layDay 85 = .ok (.bipush 10, 2) := by decide +kernel
theorem dX8_layDay_87 : decode cX8_layDay 87 = .ok (.iload_n 2, 1) := by decide +kernel
theorem dX8_layDay_88 : decode cX8_layDay 88 = .ok (.imul, 1) := by decide +kernel
theorem dX8_layDay_89 : decode cX8_layDay 89 = .ok (.iload_n 3, 1) := by decide +kernel
theorem dX8_layDay_90 : decode cX8_layDay 90 = .ok (.iadd, 1) := by decide +kernel
theorem dX8_layDay_91 : decode cX8_layDay 91 = .ok (.iconst 0, 1) := by decide +kernel
theorem dX8_layDay_92 : decode cX8_layDay 92 = .ok (.iastore, 1) := by decide +kernel
theorem dX8_layDay_93 : decode cX8_layDay 93 = .ok (.iinc 3 1, 3) := by decide +kernel
theorem dX8_layDay_96 : decode cX8_layDay 96 = .ok (.goto (-21), 3) := by decide +kernel
theorem dX8_layDay_99 : decode cX8_layDay 99 = .ok (.iinc 2 1, 3) := by decide +kernel
theorem dX8_layDay_102 : decode cX8_layDay 102 = .ok (.goto (-95), 3) := by decide +kernel
theorem dX8_layDay_105 : decode cX8_layDay 105 = .ok (.aload_n 0, 1) := by decide +kernel
theorem dX8_layDay_106 : decode cX8_layDay 106 = .ok (.iconst 0, 1) := by decide +kernel
theorem dX8_layDay_107 : decode cX8_layDay 107 = .ok (.putfield 124, 3) := by decide +kernel
theorem dX8_layDay_110 : decode cX8_layDay 110 = .ok (.aload_n 0, 1) := by decide +kernel
theorem dX8_layDay_111 : decode cX8_layDay 111 = .ok (.iconst 0, 1) := by decide +kernel
theorem dX8_layDay_112 : decode cX8_layDay 112 = .ok (.putfield 127, 3) := by decide +kernel
theorem dX8_layDay_115 : decode cX8_layDay 115 = .ok (.aload_n 0, 1) := by decide +kernel
theorem dX8_layDay_116 : decode cX8_layDay 116 = .ok (.iconst 0, 1) := by decide +kernel
theorem dX8_layDay_117 : decode cX8_layDay 117 = .ok (.putfield 130, 3) := by decide +kernel
theorem dX8_layDay_120 : decode cX8_layDay 120 = .ok (.iconst 0, 1) := by decide +kernel
theorem dX8_layDay_121 : decode cX8_layDay 121 = .ok (.istore_n 2, 1) := by decide +kernel
theorem dX8_layDay_122 : decode cX8_layDay 122 = .ok (.iload_n 2, 1) := by decide +kernel
theorem dX8_layDay_123 : decode cX8_layDay 123 = .ok (.aload_n 0, 1) := by decide +kernel
theorem dX8_layDay_124 : decode cX8_layDay 124 = .ok (.invokevirtual 133, 3) := by decide +kernel
theorem dX8_layDay_127 : decode cX8_layDay 127 = .ok (.if_icmp .ge 137, 3) := by decide +kernel
theorem dX8_layDay_130 : decode cX8_layDay 130 = .ok (.iconst 1, 1) := by decide +kernel
theorem dX8_layDay_131 : decode cX8_layDay 131 = .ok (.istore_n 3, 1) := by decide +kernel
theorem dX8_layDay_132 : decode cX8_layDay 132 = .ok (.aload_n 0, 1) := by decide +kernel
theorem dX8_layDay_133 : decode cX8_layDay 133 = .ok (.iload_n 2, 1) := by decide +kernel
theorem dX8_layDay_134 : decode cX8_layDay 134 = .ok (.iconst 5, 1) := by decide +kernel
theorem dX8_layDay_135 : decode cX8_layDay 135 = .ok (.invokevirtual 136, 3) := by decide +kernel
theorem dX8_layDay_138 : decode cX8_layDay 138 = .ok (.iconst 1, 1) := by decide +kernel
theorem dX8_layDay_139 : decode cX8_layDay 139 = .ok (.if_icmp .ne 34, 3) := by decide +kernel
theorem dX8_layDay_142 : decode cX8_layDay 142 = .ok (.aload_n 0, 1) := by decide +kernel
theorem dX8_layDay_143 : decode cX8_layDay 143 = .ok (.getfield 72, 3) := by decide +kernel
theorem dX8_layDay_146 : decode cX8_layDay 146 = .ok (.aload_n 0, 1) := by decide +kernel
theorem dX8_layDay_147 : decode cX8_layDay 147 = .ok (.getfield 130, 3) := by decide +kernel
theorem dX8_layDay_150 : decode cX8_layDay 150 = .ok (.ishr, 1) := by decide +kernel
theorem dX8_layDay_151 : decode cX8_layDay 151 = .ok (.iconst 1, 1) := by decide +kernel
theorem dX8_layDay_152 : decode cX8_layDay 152 = .ok (.iand, 1) := by decide +kernel
theorem dX8_layDay_153 : decode cX8_layDay 153 = .ok (.iconst 1, 1) := by decide +kernel
theorem dX8_layDay_154 : decode cX8_layDay 154 = .ok (.if_icmp .ne 7, 3) := by decide +kernel
theorem dX8_layDay_157 : decode cX8_layDay 157 = .ok (.iconst 1, 1) := by decide +kernel
theorem dX8_layDay_158 : decode cX8_layDay 158 = .ok (.goto 4, 3) := by decide +kernel
theorem dX8_layDay_161 : decode cX8_layDay 161 = .ok (.iconst 0, 1) := by decide +kernel
theorem dX8_layDay_162 : decode cX8_layDay 162 = .ok (.istore_n 3, 1) := by decide +kernel
theorem dX8_layDay_163 : decode cX8_layDay 163 = .ok (.aload_n 0, 1) := by decide +kernel
theorem dX8_layDay_164 : decode cX8_layDay 164 = .ok (.dup, 1) := by decide +kernel
theorem dX8_layDay_165 : decode cX8_layDay 165 = .ok (.getfield 130, 3) := by decide +kernel
theorem dX8_layDay_168 : decode cX8_layDay 168 = .ok (.iconst 1, 1) := by decide +kernel
theorem dX8_layDay_169 : decode cX8_layDay 169 = .ok (.iadd, 1) := by decide +kernel
theorem dX8_layDay_170 : decode cX8_layDay 170 = .ok (.putfield 130, 3) := by decide +kernel
theorem dX8_layDay_173 : decode cX8_layDay 173 = .ok (.aload_n 0, 1) := by decide +kernel
theorem dX8_layDay_174 : decode cX8_layDay 174 = .ok (.iload_n 2, 1) := by decide +kernel
theorem dX8_layDay_175 : decode cX8_layDay 175 = .ok (.iconst 0, 1) := by decide +kernel
theorem dX8_layDay_176 : decode cX8_layDay 176 = .ok (.invokevirtual 136, 3) := by decide +kernel
theorem dX8_layDay_179 : decode cX8_layDay 179 = .ok (.iload_n 1, 1) := by decide +kernel
theorem dX8_layDay_180 : decode cX8_layDay 180 = .ok (.if_icmp .gt 7, 3) := by decide +kernel
theorem dX8_layDay_183 : decode cX8_layDay 183 = .ok (.iconst 1, 1) := by decide +kernel
theorem dX8_layDay_184 : decode cX8_layDay 184 = .ok (.goto 4, 3) := by decide +kernel
theorem dX8_layDay_187 : decode cX8_layDay 187 = .ok (.iconst 0, 1) := by decide +kernel
theorem dX8_layDay_188 : decode cX8_layDay 188 = .ok (.istore 4, 2) := by decide +kernel
theorem dX8_layDay_190 : decode cX8_layDay 190 = .ok (.aload_n 0, 1) := by decide +kernel
theorem dX8_layDay_191 : decode cX8_layDay 191 = .ok (.iload_n 2, 1) := by decide +kernel
theorem dX8_layDay_192 : decode cX8_layDay 192 = .ok (.iconst 1, 1) := by decide +kernel
theorem dX8_layDay_193 : decode cX8_layDay 193 = .ok (.invokevirtual 136, 3) := by decide +kernel
theorem dX8_layDay_196 : decode cX8_layDay 196 = .ok (.iconst 4, 1) := by decide +kernel
theorem dX8_layDay_197 : decode cX8_layDay 197 = .ok (.if_icmp .ne 23, 3) := by decide +kernel
theorem dX8_layDay_200 : decode cX8_layDay 200 = .ok (.aload_n 0, 1) := by decide +kernel
theorem dX8_layDay_201 : decode cX8_layDay 201 = .ok (.getfield 51, 3) := by decide +kernel
theorem dX8_layDay_204 : decode cX8_layDay 204 = .ok (.aload_n 0, 1) := by decide +kernel
theorem dX8_layDay_205 : decode cX8_layDay 205 = .ok (.getfield 124, 3) := by decide +kernel
theorem dX8_layDay_208 : decode cX8_layDay 208 = .ok (.iload_n 2, 1) := by decide +kernel
theorem dX8_layDay_209 : decode cX8_layDay 209 = .ok (.iastore, 1) := by decide +kernel
theorem dX8_layDay_210 : decode cX8_layDay 210 = .ok (.aload_n 0, 1) := by decide +kernel
theorem dX8_layDay_211 : decode cX8_layDay 211 = .ok (.dup, 1) := by decide +kernel
theorem dX8_layDay_212 : decode cX8_layDay 212 = .ok (.getfield 124, 3) := by decide +kernel
theorem dX8_layDay_215 : decode cX8_layDay 215 = .ok (.iconst 1, 1) := by decide +kernel
theorem dX8_layDay_216 : decode cX8_layDay 216 = .ok (.iadd, 1) := by decide +kernel
theorem dX8_layDay_217 : decode cX8_layDay 217 = .ok (.putfield 124, 3) := by decide +kernel
theorem dX8_layDay_220 : decode cX8_layDay 220 = .ok (.iload_n 3, 1) := by decide +kernel
theorem dX8_layDay_221 : decode cX8_layDay 221 = .ok (.ifCond .eq 37, 3) := by decide +kernel
theorem dX8_layDay_224 : decode cX8_layDay 224 = .ok (.iload 4, 2) := by decide +kernel
theorem dX8_layDay_226 : decode cX8_layDay 226 = .ok (.ifCond .eq 32, 3) := by decide +kernel
theorem dX8_layDay_229 : decode cX8_layDay 229 = .ok (.aload_n 0, 1) := by decide +kernel
theorem dX8_layDay_230 : decode cX8_layDay 230 = .ok (.iload_n 2, 1) := by decide +kernel
theorem dX8_layDay_231 : decode cX8_layDay 231 = .ok (.aload_n 0, 1) := by decide +kernel
theorem dX8_layDay_232 : decode cX8_layDay 232 = .ok (.iload_n 2, 1) := by decide +kernel
theorem dX8_layDay_233 : decode cX8_layDay 233 = .ok (.iconst 1, 1) := by decide +kernel
theorem dX8_layDay_234 : decode cX8_layDay 234 = .ok (.invokevirtual 136, 3) := by decide +kernel
theorem dX8_layDay_237 : decode cX8_layDay 237 = .ok (.aload_n 0, 1) := by decide +kernel
theorem dX8_layDay_238 : decode cX8_layDay 238 = .ok (.iload_n 2, 1) := by decide +kernel
theorem dX8_layDay_239 : decode cX8_layDay 239 = .ok (.iconst 2, 1) := by decide +kernel
theorem dX8_layDay_240 : decode cX8_layDay 240 = .ok (.invokevirtual 136, 3) := by decide +kernel
theorem dX8_layDay_243 : decode cX8_layDay 243 = .ok (.aload_n 0, 1) := by decide +kernel
theorem dX8_layDay_244 : decode cX8_layDay 244 = .ok (.iload_n 2, 1) := by decide +kernel
theorem dX8_layDay_245 : decode cX8_layDay 245 = .ok (.iconst 3, 1) := by decide +kernel
theorem dX8_layDay_246 : decode cX8_layDay 246 = .ok (.invokevirtual 136, 3) := by decide +kernel
theorem dX8_layDay_249 : decode cX8_layDay 249 = .ok (.aload_n 0, 1) := by decide +kernel
theorem dX8_layDay_250 : decode cX8_layDay 250 = .ok (.iload_n 2, 1) := by decide +kernel
theorem dX8_layDay_251 : decode cX8_layDay 251 = .ok (.iconst 4, 1) := by decide +kernel
theorem dX8_layDay_252 : decode cX8_layDay 252 = .ok (.invokevirtual 136, 3) := by decide +kernel
theorem dX8_layDay_255 : decode cX8_layDay 255 = .ok (.invokevirtual 140, 3) := by decide +kernel
theorem dX8_layDay_258 : decode cX8_layDay 258 = .ok (.iinc 2 1, 3) := by decide +kernel
theorem dX8_layDay_261 : decode cX8_layDay 261 = .ok (.goto (-139), 3) := by decide +kernel
theorem dX8_layDay_264 : decode cX8_layDay 264 = .ok (.iconst 0, 1) := by decide +kernel
theorem dX8_layDay_265 : decode cX8_layDay 265 = .ok (.istore_n 2, 1) := by decide +kernel
theorem dX8_layDay_266 : decode cX8_layDay 266 = .ok (.iload_n 2, 1) := by decide +kernel
theorem dX8_layDay_267 : decode cX8_layDay 267 = .ok (.bipush 40, 2) := by decide +kernel
theorem dX8_layDay_269 : decode cX8_layDay 269 = .ok (.if_icmp .ge 34, 3) := by decide +kernel
theorem dX8_layDay_272 : decode cX8_layDay 272 = .ok (.aload_n 0, 1) := by decide +kernel
theorem dX8_layDay_273 : decode cX8_layDay 273 = .ok (.getfield 39, 3) := by decide +kernel
theorem dX8_layDay_276 : decode cX8_layDay 276 = .ok (.iload_n 2, 1) := by decide +kernel
theorem dX8_layDay_277 : decode cX8_layDay 277 = .ok (.aload_n 0, 1) := by decide +kernel
theorem dX8_layDay_278 : decode cX8_layDay 278 = .ok (.getfield 39, 3) := by decide +kernel
theorem dX8_layDay_281 : decode cX8_layDay 281 = .ok (.iload_n 2, 1) := by decide +kernel
theorem dX8_layDay_282 : decode cX8_layDay 282 = .ok (.iaload, 1) := by decide +kernel
theorem dX8_layDay_283 : decode cX8_layDay 283 = .ok (.ifCond .ge 7, 3) := by decide +kernel
theorem dX8_layDay_286 : decode cX8_layDay 286 = .ok (.iconst 0, 1) := by decide +kernel
theorem dX8_layDay_287 : decode cX8_layDay 287 = .ok (.goto 9, 3) := by decide +kernel
theorem dX8_layDay_290 : decode cX8_layDay 290 = .ok (.aload_n 0, 1) := by decide +kernel
theorem dX8_layDay_291 : decode cX8_layDay 291 = .ok (.getfield 39, 3) := by decide +kernel
theorem dX8_layDay_294 : decode cX8_layDay 294 = .ok (.iload_n 2, 1) := by decide +kernel
theorem dX8_layDay_295 : decode cX8_layDay 295 = .ok (.iaload, 1) := by decide +kernel
theorem dX8_layDay_296 : decode cX8_layDay 296 = .ok (.iastore, 1) := by decide +kernel
theorem dX8_layDay_297 : decode cX8_layDay 297 = .ok (.iinc 2 1, 3) := by decide +kernel
theorem dX8_layDay_300 : decode cX8_layDay 300 = .ok (.goto (-34), 3) := by decide +kernel
theorem dX8_layDay_303 : decode cX8_layDay 303 = .ok (.iconst 0, 1) := by decide +kernel
theorem dX8_layDay_304 : decode cX8_layDay 304 = .ok (.istore_n 2, 1) := by decide +kernel
theorem dX8_layDay_305 : decode cX8_layDay 305 = .ok (.iload_n 2, 1) := by decide +kernel
theorem dX8_layDay_306 : decode cX8_layDay 306 = .ok (.bipush 100, 2) := by decide +kernel
theorem dX8_layDay_308 : decode cX8_layDay 308 = .ok (.if_icmp .ge 34, 3) := by decide +kernel
theorem dX8_layDay_311 : decode cX8_layDay 311 = .ok (.aload_n 0, 1) := by decide +kernel
theorem dX8_layDay_312 : decode cX8_layDay 312 = .ok (.getfield 48, 3) := by decide +kernel
theorem dX8_layDay_315 : decode cX8_layDay 315 = .ok (.iload_n 2, 1) := by decide +kernel
theorem dX8_layDay_316 : decode cX8_layDay 316 = .ok (.aload_n 0, 1) := by decide +kernel
theorem dX8_layDay_317 : decode cX8_layDay 317 = .ok (.getfield 48, 3) := by decide +kernel
theorem dX8_layDay_320 : decode cX8_layDay 320 = .ok (.iload_n 2, 1) := by decide +kernel
theorem dX8_layDay_321 : decode cX8_layDay 321 = .ok (.iaload, 1) := by decide +kernel
theorem dX8_layDay_322 : decode cX8_layDay 322 = .ok (.ifCond .ge 7, 3) := by decide +kernel
theorem dX8_layDay_325 : decode cX8_layDay 325 = .ok (.iconst 0, 1) := by decide +kernel
theorem dX8_layDay_326 : decode cX8_layDay 326 = .ok (.goto 9, 3) := by decide +kernel
theorem dX8_layDay_329 : decode cX8_layDay 329 = .ok (.aload_n 0, 1) := by decide +kernel
theorem dX8_layDay_330 : decode cX8_layDay 330 = .ok (.getfield 48, 3) := by decide +kernel
theorem dX8_layDay_333 : decode cX8_layDay 333 = .ok (.iload_n 2, 1) := by decide +kernel
theorem dX8_layDay_334 : decode cX8_layDay 334 = .ok (.iaload, 1) := by decide +kernel
theorem dX8_layDay_335 : decode cX8_layDay 335 = .ok (.iastore, 1) := by decide +kernel
theorem dX8_layDay_336 : decode cX8_layDay 336 = .ok (.iinc 2 1, 3) := by decide +kernel
theorem dX8_layDay_339 : decode cX8_layDay 339 = .ok (.goto (-34), 3) := by decide +kernel
theorem dX8_layDay_342 : decode cX8_layDay 342 = .ok (.return_, 1) := by decide +kernel
def f_X8_layDay_b305 (n : Nat) (x1 : Int32) : Nat → Int32 → m_M → Option m_M
  | 0, _, _ => none
  | u + 1, x2, M =>
    if (100 : Int32) ≤ x2 then
  some M
  else
  m_gd (m_in x2 100) (
  if (0 : Int32) ≤ (M.1 184 x2.toNatClampNeg) then
  m_bd (m_sI M 184 x2.toNatClampNeg (M.1 184 x2.toNatClampNeg)) fun M4 =>
  f_X8_layDay_b305 n x1 u (x2 + 1) M4
  else
  m_bd (m_sI M 184 x2.toNatClampNeg 0) fun M5 =>
  f_X8_layDay_b305 n x1 u (x2 + 1) M5)
def f_X8_layDay_b266 (n : Nat) (x1 : Int32) : Nat → Int32 → m_M → Option m_M
  | 0, _, _ => none
  | u + 1, x2, M =>
    if (40 : Int32) ≤ x2 then
  f_X8_layDay_b305 n x1 n 0 M
  else
  m_gd (m_in x2 40) (
  if (0 : Int32) ≤ (M.1 181 x2.toNatClampNeg) then
  m_bd (m_sI M 181 x2.toNatClampNeg (M.1 181 x2.toNatClampNeg)) fun M9 =>
  f_X8_layDay_b266 n x1 u (x2 + 1) M9
  else
  m_bd (m_sI M 181 x2.toNatClampNeg 0) fun M10 =>
  f_X8_layDay_b266 n x1 u (x2 + 1) M10)
def f_X8_layDay_b220 (n : Nat) (x1 : Int32) (q122 : Int32 → m_M → Option m_M) (x2 : Int32) (x3 : Int32) (x4 : Int32) (M : m_M) : Option m_M :=
  if x3 = 0 then
  q122 (x2 + 1) M
  else
  if x4 = 0 then
  q122 (x2 + 1) M
  else
  m_ob (f_X8_of x2 1 M) fun r13 =>
  m_ob (f_X8_of x2 2 M) fun r14 =>
  m_ob (f_X8_of x2 3 M) fun r15 =>
  m_ob (f_X8_of x2 4 M) fun r16 =>
  m_ob (f_X8_lay x2 r13 r14 r15 r16 M) fun M17 =>
  q122 (x2 + 1) M17
def f_X8_layDay_b188 (n : Nat) (x1 : Int32) (q122 : Int32 → m_M → Option m_M) (x2 : Int32) (x3 : Int32) (s0 : Int32) (M : m_M) : Option m_M :=
  m_ob (f_X8_of x2 1 M) fun r18 =>
  if r18 = 4 then
  m_gd (m_in (M.1 172 22) 60) (
  m_bd (m_sI M 185 ((M.1 172 22).toNatClampNeg) x2) fun M21 =>
  m_bd (m_sI M21 172 22 ((M21.1 172 22) + (1 : Int32))) fun M22 =>
  f_X8_layDay_b220 n x1 q122 x2 x3 s0 M22)
  else
  f_X8_layDay_b220 n x1 q122 x2 x3 s0 M
def f_X8_layDay_b173 (n : Nat) (x1 : Int32) (q122 : Int32 → m_M → Option m_M) (x2 : Int32) (x3 : Int32) (M : m_M) : Option m_M :=
  m_ob (f_X8_of x2 0 M) fun r23 =>
  if x1 < r23 then
  f_X8_layDay_b188 n x1 q122 x2 x3 0 M
  else
  f_X8_layDay_b188 n x1 q122 x2 x3 1 M
def f_X8_layDay_b162 (n : Nat) (x1 : Int32) (q122 : Int32 → m_M → Option m_M) (x2 : Int32) (s0 : Int32) (M : m_M) : Option m_M :=
  m_bd (m_sI M 172 25 ((M.1 172 25) + (1 : Int32))) fun M25 =>
  f_X8_layDay_b173 n x1 q122 x2 s0 M25
def f_X8_layDay_b122 (n : Nat) (x1 : Int32) : Nat → Int32 → m_M → Option m_M
  | 0, _, _ => none
  | u + 1, x2, M =>
    m_bd (f_X8_notes M) fun r26 =>
  if r26 ≤ x2 then
  f_X8_layDay_b266 n x1 n 0 M
  else
  m_ob (f_X8_of x2 5 M) fun r28 =>
  if r28 = 1 then
  if (((M.1 172 24) >>> ((M.1 172 25) &&& 31)) &&& (1 : Int32)) = 1 then
  f_X8_layDay_b162 n x1 (f_X8_layDay_b122 n x1 u) x2 1 M
  else
  f_X8_layDay_b162 n x1 (f_X8_layDay_b122 n x1 u) x2 0 M
  else
  f_X8_layDay_b173 n x1 (f_X8_layDay_b122 n x1 u) x2 1 M
def f_X8_layDay_b75 (n : Nat) (x1 : Int32) (q7 : Int32 → m_M → Option m_M) : Nat → Int32 → Int32 → m_M → Option m_M
  | 0, _, _, _ => none
  | u + 1, x2, x3, M =>
    if (10 : Int32) ≤ x3 then
  q7 (x2 + 1) M
  else
  m_gd (m_in (((10 : Int32) * x2) + x3) 100) (
  m_bd (m_sI M 184 ((((10 : Int32) * x2) + x3).toNatClampNeg) 0) fun M33 =>
  f_X8_layDay_b75 n x1 q7 u x2 (x3 + 1) M33)
def f_X8_layDay_b29 (n : Nat) (x1 : Int32) (q7 : Int32 → m_M → Option m_M) : Nat → Int32 → Int32 → m_M → Option m_M
  | 0, _, _, _ => none
  | u + 1, x2, x3, M =>
    if (4 : Int32) ≤ x3 then
  f_X8_layDay_b75 n x1 q7 n x2 0 M
  else
  m_gd (m_in (((4 : Int32) * x2) + x3) 40) (
  m_bd (m_sI M 181 ((((4 : Int32) * x2) + x3).toNatClampNeg) 0) fun M36 =>
  m_bd (m_sI M36 182 ((((4 : Int32) * x2) + x3).toNatClampNeg) 0) fun M37 =>
  m_bd (m_sI M37 183 ((((4 : Int32) * x2) + x3).toNatClampNeg) 0) fun M38 =>
  f_X8_layDay_b29 n x1 q7 u x2 (x3 + 1) M38)
def f_X8_layDay_b7 (n : Nat) (x1 : Int32) : Nat → Int32 → m_M → Option m_M
  | 0, _, _ => none
  | u + 1, x2, M =>
    if (10 : Int32) ≤ x2 then
  m_bd (m_sI M 172 22 0) fun M40 =>
  m_bd (m_sI M40 172 23 0) fun M41 =>
  m_bd (m_sI M41 172 25 0) fun M42 =>
  f_X8_layDay_b122 n x1 n 0 M42
  else
  m_gd (m_in x2 10) (
  m_bd (m_sI M 177 x2.toNatClampNeg (-1)) fun M44 =>
  m_bd (m_sI M44 178 x2.toNatClampNeg (-1)) fun M45 =>
  f_X8_layDay_b29 n x1 (f_X8_layDay_b7 n x1 u) n x2 0 M45)
def f_X8_layDay (n : Nat) (x1 : Int32) (M : m_M) : Option m_M :=
  m_bd (m_sI M 172 26 x1) fun M46 =>
  f_X8_layDay_b7 n x1 n 0 M46
set_option maxHeartbeats 4000000 in
set_option maxRecDepth 100000 in
theorem c_X8_layDay (l : Launch) (G : m_G) {n : Nat} {x1 : Int32} {M : m_M} {M0 : m_M}  (hres : f_X8_layDay n x1 M = some M0) : Met l yX8_layDay (m_U yX8_layDay cX8_layDay 5 none) (m_R 2 48) (m_Pc G [.ref (m_ad G 172), .int x1] M) (m_Qv G M0) 0 0 (m_A G) := by
  refine m_i0 (n := 5) RX8 rfl (by decide) (Nat.le_of_ble_eq_true rfl) ?_
  intro p e s m args below meth c X hr hlk hSt hP hS ls hl
  have hl : lv_has ls 5 [(0, .ref (m_ad G 172)), (1, .int x1)] := hl
  have B305 : ∀ (u : Nat) (x2 : Int32) (M : m_M) (H : Heap) (locs : List Loc) (ls : Array Slot), m_P G M H → va_S (m_A G) s.heap H locs → lv_has ls 5 [(0, .ref (m_ad G 172)), (2, .int x2)] → f_X8_layDay_b305 n x1 u x2 M = some M0 → W p l e (m_R 2 48) s m args below meth c H locs 0 0 (MQ below (m_Qv G M0) args s 0 0 (m_A G)) (F0 m 305 ls []) := by
    intro u
    induction u with
    | zero =>
      intro x2 M H locs ls hP hS hl hres
      cases hres
    | succ u ih =>
      intro x2 M H locs ls hP hS hl hres
      rw [f_X8_layDay_b305] at hres
      refine lv_iload_n X.1 X.2.1 dX8_layDay_305 rfl (lv_at hl 1 rfl) ?_
      refine lv_bipush (v := 100) X.1 X.2.1 dX8_layDay_306 (by decide) ?_
      refine lv_icmp_ge (tgt := 342) X.1 X.2.1 dX8_layDay_308 (by decide) (fun hc1 => ?_) (fun hc1 => ?_)
      · have hres := m_it hres hc1
        exact m_rv X hr hlk hP hS (Option.some.inj hres) dX8_layDay_342
      · have hres := m_if hres hc1
        refine lv_aload_n X.1 X.2.1 dX8_layDay_311 rfl (lv_at hl 0 rfl) ?_
        refine m_g8 (v := .ref (m_ad G 184)) X hSt hP m_z_172 14 (by decide) rfl k_f_X8_48 dX8_layDay_312 ?_
        refine lv_iload_n X.1 X.2.1 dX8_layDay_315 rfl (lv_at hl 1 rfl) ?_
        refine lv_aload_n X.1 X.2.1 dX8_layDay_316 rfl (lv_at hl 0 rfl) ?_
        refine m_g8 (v := .ref (m_ad G 184)) X hSt hP m_z_172 14 (by decide) rfl k_f_X8_48 dX8_layDay_317 ?_
        refine lv_iload_n X.1 X.2.1 dX8_layDay_320 rfl (lv_at hl 1 rfl) ?_
        obtain ⟨hg2, hres⟩ := m_gd_e hres
        refine m_ia (j := x2.toNatClampNeg) X hSt hP m_z_184 hg2 rfl dX8_layDay_321 ?_
        refine lv_if_ge (tgt := 329) X.1 X.2.1 dX8_layDay_322 (by decide) (fun hc3 => ?_) (fun hc3 => ?_)
        · have hres := m_it hres hc3
          refine lv_aload_n X.1 X.2.1 dX8_layDay_329 rfl (lv_at hl 0 rfl) ?_
          refine m_g8 (v := .ref (m_ad G 184)) X hSt hP m_z_172 14 (by decide) rfl k_f_X8_48 dX8_layDay_330 ?_
          refine lv_iload_n X.1 X.2.1 dX8_layDay_333 rfl (lv_at hl 1 rfl) ?_
          refine m_ia (j := x2.toNatClampNeg) X hSt hP m_z_184 hg2 rfl dX8_layDay_334 ?_
          obtain ⟨M4, eM4, hres⟩ := m_bd_e hres
          refine m_is (j := x2.toNatClampNeg) X hSt hP hS m_z_184 hg2 rfl dX8_layDay_335 eM4 (fun H locs hP hS => ?_)
          refine lv_iinc (v := (x2 + 1)) (lv' := [(2, .int (x2 + 1)), (0, .ref (m_ad G 172))]) X.1 X.2.1 dX8_layDay_336 hl (k := 1) rfl rfl (by decide) rfl (fun ls hl => ?_)
          refine lv_goto (tgt := 305) X.1 X.2.1 dX8_layDay_339 (by decide) ?_
          exact ih (x2 + 1) M4 _ _ _ hP hS (lv_sub hl [1, 0] rfl) hres
        · have hres := m_if hres hc3
          refine lv_iconst (v := 0) X.1 X.2.1 dX8_layDay_325 (by decide) ?_
          refine lv_goto (tgt := 335) X.1 X.2.1 dX8_layDay_326 (by decide) ?_
          obtain ⟨M5, eM5, hres⟩ := m_bd_e hres
          refine m_is (j := x2.toNatClampNeg) X hSt hP hS m_z_184 hg2 rfl dX8_layDay_335 eM5 (fun H locs hP hS => ?_)
          refine lv_iinc (v := (x2 + 1)) (lv' := [(2, .int (x2 + 1)), (0, .ref (m_ad G 172))]) X.1 X.2.1 dX8_layDay_336 hl (k := 1) rfl rfl (by decide) rfl (fun ls hl => ?_)
          refine lv_goto (tgt := 305) X.1 X.2.1 dX8_layDay_339 (by decide) ?_
          exact ih (x2 + 1) M5 _ _ _ hP hS (lv_sub hl [1, 0] rfl) hres
  have B266 : ∀ (u : Nat) (x2 : Int32) (M : m_M) (H : Heap) (locs : List Loc) (ls : Array Slot), m_P G M H → va_S (m_A G) s.heap H locs → lv_has ls 5 [(0, .ref (m_ad G 172)), (2, .int x2)] → f_X8_layDay_b266 n x1 u x2 M = some M0 → W p l e (m_R 2 48) s m args below meth c H locs 0 0 (MQ below (m_Qv G M0) args s 0 0 (m_A G)) (F0 m 266 ls []) := by
    intro u
    induction u with
    | zero =>
      intro x2 M H locs ls hP hS hl hres
      cases hres
    | succ u ih =>
      intro x2 M H locs ls hP hS hl hres
      rw [f_X8_layDay_b266] at hres
      refine lv_iload_n X.1 X.2.1 dX8_layDay_266 rfl (lv_at hl 1 rfl) ?_
      refine lv_bipush (v := 40) X.1 X.2.1 dX8_layDay_267 (by decide) ?_
      refine lv_icmp_ge (tgt := 303) X.1 X.2.1 dX8_layDay_269 (by decide) (fun hc6 => ?_) (fun hc6 => ?_)
      · have hres := m_it hres hc6
        refine lv_iconst (v := 0) X.1 X.2.1 dX8_layDay_303 (by decide) ?_
        refine lv_istore_n (lv' := [(2, .int 0), (0, .ref (m_ad G 172))]) X.1 X.2.1 dX8_layDay_304 rfl hl (by decide) rfl (fun ls hl => ?_)
        exact B305 n 0 M _ _ _ hP hS (lv_sub hl [1, 0] rfl) hres
      · have hres := m_if hres hc6
        refine lv_aload_n X.1 X.2.1 dX8_layDay_272 rfl (lv_at hl 0 rfl) ?_
        refine m_g8 (v := .ref (m_ad G 181)) X hSt hP m_z_172 11 (by decide) rfl k_f_X8_39 dX8_layDay_273 ?_
        refine lv_iload_n X.1 X.2.1 dX8_layDay_276 rfl (lv_at hl 1 rfl) ?_
        refine lv_aload_n X.1 X.2.1 dX8_layDay_277 rfl (lv_at hl 0 rfl) ?_
        refine m_g8 (v := .ref (m_ad G 181)) X hSt hP m_z_172 11 (by decide) rfl k_f_X8_39 dX8_layDay_278 ?_
        refine lv_iload_n X.1 X.2.1 dX8_layDay_281 rfl (lv_at hl 1 rfl) ?_
        obtain ⟨hg7, hres⟩ := m_gd_e hres
        refine m_ia (j := x2.toNatClampNeg) X hSt hP m_z_181 hg7 rfl dX8_layDay_282 ?_
        refine lv_if_ge (tgt := 290) X.1 X.2.1 dX8_layDay_283 (by decide) (fun hc8 => ?_) (fun hc8 => ?_)
        · have hres := m_it hres hc8
          refine lv_aload_n X.1 X.2.1 dX8_layDay_290 rfl (lv_at hl 0 rfl) ?_
          refine m_g8 (v := .ref (m_ad G 181)) X hSt hP m_z_172 11 (by decide) rfl k_f_X8_39 dX8_layDay_291 ?_
          refine lv_iload_n X.1 X.2.1 dX8_layDay_294 rfl (lv_at hl 1 rfl) ?_
          refine m_ia (j := x2.toNatClampNeg) X hSt hP m_z_181 hg7 rfl dX8_layDay_295 ?_
          obtain ⟨M9, eM9, hres⟩ := m_bd_e hres
          refine m_is (j := x2.toNatClampNeg) X hSt hP hS m_z_181 hg7 rfl dX8_layDay_296 eM9 (fun H locs hP hS => ?_)
          refine lv_iinc (v := (x2 + 1)) (lv' := [(2, .int (x2 + 1)), (0, .ref (m_ad G 172))]) X.1 X.2.1 dX8_layDay_297 hl (k := 1) rfl rfl (by decide) rfl (fun ls hl => ?_)
          refine lv_goto (tgt := 266) X.1 X.2.1 dX8_layDay_300 (by decide) ?_
          exact ih (x2 + 1) M9 _ _ _ hP hS (lv_sub hl [1, 0] rfl) hres
        · have hres := m_if hres hc8
          refine lv_iconst (v := 0) X.1 X.2.1 dX8_layDay_286 (by decide) ?_
          refine lv_goto (tgt := 296) X.1 X.2.1 dX8_layDay_287 (by decide) ?_
          obtain ⟨M10, eM10, hres⟩ := m_bd_e hres
          refine m_is (j := x2.toNatClampNeg) X hSt hP hS m_z_181 hg7 rfl dX8_layDay_296 eM10 (fun H locs hP hS => ?_)
          refine lv_iinc (v := (x2 + 1)) (lv' := [(2, .int (x2 + 1)), (0, .ref (m_ad G 172))]) X.1 X.2.1 dX8_layDay_297 hl (k := 1) rfl rfl (by decide) rfl (fun ls hl => ?_)
          refine lv_goto (tgt := 266) X.1 X.2.1 dX8_layDay_300 (by decide) ?_
          exact ih (x2 + 1) M10 _ _ _ hP hS (lv_sub hl [1, 0] rfl) hres
  have B220 : ∀ (q122 : Int32 → m_M → Option m_M) (hq122 : ∀ (x2 : Int32) (M : m_M) (H : Heap) (locs : List Loc) (ls : Array Slot), m_P G M H → va_S (m_A G) s.heap H locs → lv_has ls 5 [(0, .ref (m_ad G 172)), (1, .int x1), (2, .int x2)] → q122 x2 M = some M0 → W p l e (m_R 2 48) s m args below meth c H locs 0 0 (MQ below (m_Qv G M0) args s 0 0 (m_A G)) (F0 m 122 ls [])) (x2 : Int32) (x3 : Int32) (x4 : Int32) (M : m_M) (H : Heap) (locs : List Loc) (ls : Array Slot), m_P G M H → va_S (m_A G) s.heap H locs → lv_has ls 5 [(0, .ref (m_ad G 172)), (1, .int x1), (2, .int x2), (3, .int x3), (4, .int x4)] → f_X8_layDay_b220 n x1 q122 x2 x3 x4 M = some M0 → W p l e (m_R 2 48) s m args below meth c H locs 0 0 (MQ below (m_Qv G M0) args s 0 0 (m_A G)) (F0 m 220 ls []) := by
    intro q122 hq122 x2 x3 x4 M H locs ls hP hS hl hres
    unfold f_X8_layDay_b220 at hres
    refine lv_iload_n X.1 X.2.1 dX8_layDay_220 rfl (lv_at hl 3 rfl) ?_
    refine lv_if_eq (tgt := 258) X.1 X.2.1 dX8_layDay_221 (by decide) (fun hc11 => ?_) (fun hc11 => ?_)
    · have hres := m_it hres hc11
      refine lv_iinc (v := (x2 + 1)) (lv' := [(2, .int (x2 + 1)), (0, .ref (m_ad G 172)), (1, .int x1), (3, .int x3), (4, .int x4)]) X.1 X.2.1 dX8_layDay_258 hl (k := 2) rfl rfl (by decide) rfl (fun ls hl => ?_)
      refine lv_goto (tgt := 122) X.1 X.2.1 dX8_layDay_261 (by decide) ?_
      exact hq122 (x2 + 1) M _ _ _ hP hS (lv_sub hl [1, 2, 0] rfl) hres
    · have hres := m_if hres hc11
      refine lv_iload X.1 X.2.1 dX8_layDay_224 (lv_at hl 4 rfl) ?_
      refine lv_if_eq (tgt := 258) X.1 X.2.1 dX8_layDay_226 (by decide) (fun hc12 => ?_) (fun hc12 => ?_)
      · have hres := m_it hres hc12
        refine lv_iinc (v := (x2 + 1)) (lv' := [(2, .int (x2 + 1)), (0, .ref (m_ad G 172)), (1, .int x1), (3, .int x3), (4, .int x4)]) X.1 X.2.1 dX8_layDay_258 hl (k := 2) rfl rfl (by decide) rfl (fun ls hl => ?_)
        refine lv_goto (tgt := 122) X.1 X.2.1 dX8_layDay_261 (by decide) ?_
        exact hq122 (x2 + 1) M _ _ _ hP hS (lv_sub hl [1, 2, 0] rfl) hres
      · have hres := m_if hres hc12
        refine lv_aload_n X.1 X.2.1 dX8_layDay_229 rfl (lv_at hl 0 rfl) ?_
        refine lv_iload_n X.1 X.2.1 dX8_layDay_230 rfl (lv_at hl 2 rfl) ?_
        refine lv_aload_n X.1 X.2.1 dX8_layDay_231 rfl (lv_at hl 0 rfl) ?_
        refine lv_iload_n X.1 X.2.1 dX8_layDay_232 rfl (lv_at hl 2 rfl) ?_
        refine lv_iconst (v := 1) X.1 X.2.1 dX8_layDay_233 (by decide) ?_
        obtain ⟨r13, err13, hres⟩ := m_ob_e hres
        refine m_bi (m_cV (n := 2) (As := [.int x2, .int 1]) (rest := [.int x2, .ref (m_ad G 172)]) X hSt hP hS hl.1 (c_X8_of l G  err13) k_c_yX8_of k_m_X8_136 k_i_yX8_of k_s_yX8_of k_n_X8 (by decide +kernel) (m_rc8 hSt hP m_z_172) rfl rfl ⟨Nat.le_of_ble_eq_true rfl, Nat.le_of_ble_eq_true rfl⟩ (Nat.le_of_ble_eq_true rfl) ⟨Nat.zero_le _, Nat.zero_le _⟩ dX8_layDay_234) hS (fun H locs hP hS => ?_)
        refine lv_aload_n X.1 X.2.1 dX8_layDay_237 rfl (lv_at hl 0 rfl) ?_
        refine lv_iload_n X.1 X.2.1 dX8_layDay_238 rfl (lv_at hl 2 rfl) ?_
        refine lv_iconst (v := 2) X.1 X.2.1 dX8_layDay_239 (by decide) ?_
        obtain ⟨r14, err14, hres⟩ := m_ob_e hres
        refine m_bi (m_cV (n := 2) (As := [.int x2, .int 2]) (rest := [.int r13, .int x2, .ref (m_ad G 172)]) X hSt hP hS hl.1 (c_X8_of l G  err14) k_c_yX8_of k_m_X8_136 k_i_yX8_of k_s_yX8_of k_n_X8 (by decide +kernel) (m_rc8 hSt hP m_z_172) rfl rfl ⟨Nat.le_of_ble_eq_true rfl, Nat.le_of_ble_eq_true rfl⟩ (Nat.le_of_ble_eq_true rfl) ⟨Nat.zero_le _, Nat.zero_le _⟩ dX8_layDay_240) hS (fun H locs hP hS => ?_)
        refine lv_aload_n X.1 X.2.1 dX8_layDay_243 rfl (lv_at hl 0 rfl) ?_
        refine lv_iload_n X.1 X.2.1 dX8_layDay_244 rfl (lv_at hl 2 rfl) ?_
        refine lv_iconst (v := 3) X.1 X.2.1 dX8_layDay_245 (by decide) ?_
        obtain ⟨r15, err15, hres⟩ := m_ob_e hres
        refine m_bi (m_cV (n := 2) (As := [.int x2, .int 3]) (rest := [.int r14, .int r13, .int x2, .ref (m_ad G 172)]) X hSt hP hS hl.1 (c_X8_of l G  err15) k_c_yX8_of k_m_X8_136 k_i_yX8_of k_s_yX8_of k_n_X8 (by decide +kernel) (m_rc8 hSt hP m_z_172) rfl rfl ⟨Nat.le_of_ble_eq_true rfl, Nat.le_of_ble_eq_true rfl⟩ (Nat.le_of_ble_eq_true rfl) ⟨Nat.zero_le _, Nat.zero_le _⟩ dX8_layDay_246) hS (fun H locs hP hS => ?_)
        refine lv_aload_n X.1 X.2.1 dX8_layDay_249 rfl (lv_at hl 0 rfl) ?_
        refine lv_iload_n X.1 X.2.1 dX8_layDay_250 rfl (lv_at hl 2 rfl) ?_
        refine lv_iconst (v := 4) X.1 X.2.1 dX8_layDay_251 (by decide) ?_
        obtain ⟨r16, err16, hres⟩ := m_ob_e hres
        refine m_bi (m_cV (n := 2) (As := [.int x2, .int 4]) (rest := [.int r15, .int r14, .int r13, .int x2, .ref (m_ad G 172)]) X hSt hP hS hl.1 (c_X8_of l G  err16) k_c_yX8_of k_m_X8_136 k_i_yX8_of k_s_yX8_of k_n_X8 (by decide +kernel) (m_rc8 hSt hP m_z_172) rfl rfl ⟨Nat.le_of_ble_eq_true rfl, Nat.le_of_ble_eq_true rfl⟩ (Nat.le_of_ble_eq_true rfl) ⟨Nat.zero_le _, Nat.zero_le _⟩ dX8_layDay_252) hS (fun H locs hP hS => ?_)
        obtain ⟨M17, eM17, hres⟩ := m_ob_e hres
        refine m_bv (m_cV (n := 5) (As := [.int x2, .int r13, .int r14, .int r15, .int r16]) (rest := []) X hSt hP hS hl.1 (c_X8_lay l G  eM17) k_c_yX8_lay k_m_X8_140 k_i_yX8_lay k_s_yX8_lay k_n_X8 (by decide +kernel) (m_rc8 hSt hP m_z_172) rfl rfl ⟨Nat.le_of_ble_eq_true rfl, Nat.le_of_ble_eq_true rfl⟩ (Nat.le_of_ble_eq_true rfl) ⟨Nat.zero_le _, Nat.zero_le _⟩ dX8_layDay_255) hS (fun H locs hP hS => ?_)
        refine lv_iinc (v := (x2 + 1)) (lv' := [(2, .int (x2 + 1)), (0, .ref (m_ad G 172)), (1, .int x1), (3, .int x3), (4, .int x4)]) X.1 X.2.1 dX8_layDay_258 hl (k := 2) rfl rfl (by decide) rfl (fun ls hl => ?_)
        refine lv_goto (tgt := 122) X.1 X.2.1 dX8_layDay_261 (by decide) ?_
        exact hq122 (x2 + 1) M17 _ _ _ hP hS (lv_sub hl [1, 2, 0] rfl) hres
  have B188 : ∀ (q122 : Int32 → m_M → Option m_M) (hq122 : ∀ (x2 : Int32) (M : m_M) (H : Heap) (locs : List Loc) (ls : Array Slot), m_P G M H → va_S (m_A G) s.heap H locs → lv_has ls 5 [(0, .ref (m_ad G 172)), (1, .int x1), (2, .int x2)] → q122 x2 M = some M0 → W p l e (m_R 2 48) s m args below meth c H locs 0 0 (MQ below (m_Qv G M0) args s 0 0 (m_A G)) (F0 m 122 ls [])) (x2 : Int32) (x3 : Int32) (s0 : Int32) (M : m_M) (H : Heap) (locs : List Loc) (ls : Array Slot), m_P G M H → va_S (m_A G) s.heap H locs → lv_has ls 5 [(0, .ref (m_ad G 172)), (1, .int x1), (2, .int x2), (3, .int x3)] → f_X8_layDay_b188 n x1 q122 x2 x3 s0 M = some M0 → W p l e (m_R 2 48) s m args below meth c H locs 0 0 (MQ below (m_Qv G M0) args s 0 0 (m_A G)) (F0 m 188 ls [.int s0]) := by
    intro q122 hq122 x2 x3 s0 M H locs ls hP hS hl hres
    unfold f_X8_layDay_b188 at hres
    refine lv_istore (lv' := [(4, .int s0), (0, .ref (m_ad G 172)), (1, .int x1), (2, .int x2), (3, .int x3)]) X.1 X.2.1 dX8_layDay_188 hl (by decide) rfl (fun ls hl => ?_)
    refine lv_aload_n X.1 X.2.1 dX8_layDay_190 rfl (lv_at hl 1 rfl) ?_
    refine lv_iload_n X.1 X.2.1 dX8_layDay_191 rfl (lv_at hl 3 rfl) ?_
    refine lv_iconst (v := 1) X.1 X.2.1 dX8_layDay_192 (by decide) ?_
    obtain ⟨r18, err18, hres⟩ := m_ob_e hres
    refine m_bi (m_cV (n := 2) (As := [.int x2, .int 1]) (rest := []) X hSt hP hS hl.1 (c_X8_of l G  err18) k_c_yX8_of k_m_X8_136 k_i_yX8_of k_s_yX8_of k_n_X8 (by decide +kernel) (m_rc8 hSt hP m_z_172) rfl rfl ⟨Nat.le_of_ble_eq_true rfl, Nat.le_of_ble_eq_true rfl⟩ (Nat.le_of_ble_eq_true rfl) ⟨Nat.zero_le _, Nat.zero_le _⟩ dX8_layDay_193) hS (fun H locs hP hS => ?_)
    refine lv_iconst (v := 4) X.1 X.2.1 dX8_layDay_196 (by decide) ?_
    refine lv_icmp_ne (tgt := 220) X.1 X.2.1 dX8_layDay_197 (by decide) (fun hc19 => ?_) (fun hc19 => ?_)
    · have hres := m_if hres hc19
      exact B220 q122 hq122 x2 x3 s0 M _ _ _ hP hS (lv_sub hl [1, 2, 3, 4, 0] rfl) hres
    · have hres := m_it hres hc19
      refine lv_aload_n X.1 X.2.1 dX8_layDay_200 rfl (lv_at hl 1 rfl) ?_
      refine m_g8 (v := .ref (m_ad G 185)) X hSt hP m_z_172 15 (by decide) rfl k_f_X8_51 dX8_layDay_201 ?_
      refine lv_aload_n X.1 X.2.1 dX8_layDay_204 rfl (lv_at hl 1 rfl) ?_
      refine m_g8 (v := .int (M.1 172 22)) X hSt hP m_z_172 22 (by decide) rfl k_f_X8_124 dX8_layDay_205 ?_
      refine lv_iload_n X.1 X.2.1 dX8_layDay_208 rfl (lv_at hl 3 rfl) ?_
      obtain ⟨hg20, hres⟩ := m_gd_e hres
      obtain ⟨M21, eM21, hres⟩ := m_bd_e hres
      refine m_is (j := ((M.1 172 22).toNatClampNeg)) X hSt hP hS m_z_185 hg20 rfl dX8_layDay_209 eM21 (fun H locs hP hS => ?_)
      refine lv_aload_n X.1 X.2.1 dX8_layDay_210 rfl (lv_at hl 1 rfl) ?_
      refine lv_dup X.1 X.2.1 dX8_layDay_211 rfl ?_
      refine m_g8 (v := .int (M21.1 172 22)) X hSt hP m_z_172 22 (by decide) rfl k_f_X8_124 dX8_layDay_212 ?_
      refine lv_iconst (v := 1) X.1 X.2.1 dX8_layDay_215 (by decide) ?_
      refine lv_iadd X.1 X.2.1 dX8_layDay_216 ?_
      obtain ⟨M22, eM22, hres⟩ := m_bd_e hres
      refine m_pi8 X hSt hP hS m_z_172 22 (by decide) eM22 rfl rfl (by decide) k_f_X8_124 dX8_layDay_217 (fun H locs hP hS => ?_)
      exact B220 q122 hq122 x2 x3 s0 M22 _ _ _ hP hS (lv_sub hl [1, 2, 3, 4, 0] rfl) hres
  have B173 : ∀ (q122 : Int32 → m_M → Option m_M) (hq122 : ∀ (x2 : Int32) (M : m_M) (H : Heap) (locs : List Loc) (ls : Array Slot), m_P G M H → va_S (m_A G) s.heap H locs → lv_has ls 5 [(0, .ref (m_ad G 172)), (1, .int x1), (2, .int x2)] → q122 x2 M = some M0 → W p l e (m_R 2 48) s m args below meth c H locs 0 0 (MQ below (m_Qv G M0) args s 0 0 (m_A G)) (F0 m 122 ls [])) (x2 : Int32) (x3 : Int32) (M : m_M) (H : Heap) (locs : List Loc) (ls : Array Slot), m_P G M H → va_S (m_A G) s.heap H locs → lv_has ls 5 [(0, .ref (m_ad G 172)), (1, .int x1), (2, .int x2), (3, .int x3)] → f_X8_layDay_b173 n x1 q122 x2 x3 M = some M0 → W p l e (m_R 2 48) s m args below meth c H locs 0 0 (MQ below (m_Qv G M0) args s 0 0 (m_A G)) (F0 m 173 ls []) := by
    intro q122 hq122 x2 x3 M H locs ls hP hS hl hres
    unfold f_X8_layDay_b173 at hres
    refine lv_aload_n X.1 X.2.1 dX8_layDay_173 rfl (lv_at hl 0 rfl) ?_
    refine lv_iload_n X.1 X.2.1 dX8_layDay_174 rfl (lv_at hl 2 rfl) ?_
    refine lv_iconst (v := 0) X.1 X.2.1 dX8_layDay_175 (by decide) ?_
    obtain ⟨r23, err23, hres⟩ := m_ob_e hres
    refine m_bi (m_cV (n := 2) (As := [.int x2, .int 0]) (rest := []) X hSt hP hS hl.1 (c_X8_of l G  err23) k_c_yX8_of k_m_X8_136 k_i_yX8_of k_s_yX8_of k_n_X8 (by decide +kernel) (m_rc8 hSt hP m_z_172) rfl rfl ⟨Nat.le_of_ble_eq_true rfl, Nat.le_of_ble_eq_true rfl⟩ (Nat.le_of_ble_eq_true rfl) ⟨Nat.zero_le _, Nat.zero_le _⟩ dX8_layDay_176) hS (fun H locs hP hS => ?_)
    refine lv_iload_n X.1 X.2.1 dX8_layDay_179 rfl (lv_at hl 1 rfl) ?_
    refine lv_icmp_gt (tgt := 187) X.1 X.2.1 dX8_layDay_180 (by decide) (fun hc24 => ?_) (fun hc24 => ?_)
    · have hres := m_it hres hc24
      refine lv_iconst (v := 0) X.1 X.2.1 dX8_layDay_187 (by decide) ?_
      exact B188 q122 hq122 x2 x3 0 M _ _ _ hP hS (lv_sub hl [0, 1, 2, 3] rfl) hres
    · have hres := m_if hres hc24
      refine lv_iconst (v := 1) X.1 X.2.1 dX8_layDay_183 (by decide) ?_
      refine lv_goto (tgt := 188) X.1 X.2.1 dX8_layDay_184 (by decide) ?_
      exact B188 q122 hq122 x2 x3 1 M _ _ _ hP hS (lv_sub hl [0, 1, 2, 3] rfl) hres
  have B162 : ∀ (q122 : Int32 → m_M → Option m_M) (hq122 : ∀ (x2 : Int32) (M : m_M) (H : Heap) (locs : List Loc) (ls : Array Slot), m_P G M H → va_S (m_A G) s.heap H locs → lv_has ls 5 [(0, .ref (m_ad G 172)), (1, .int x1), (2, .int x2)] → q122 x2 M = some M0 → W p l e (m_R 2 48) s m args below meth c H locs 0 0 (MQ below (m_Qv G M0) args s 0 0 (m_A G)) (F0 m 122 ls [])) (x2 : Int32) (s0 : Int32) (M : m_M) (H : Heap) (locs : List Loc) (ls : Array Slot), m_P G M H → va_S (m_A G) s.heap H locs → lv_has ls 5 [(0, .ref (m_ad G 172)), (1, .int x1), (2, .int x2)] → f_X8_layDay_b162 n x1 q122 x2 s0 M = some M0 → W p l e (m_R 2 48) s m args below meth c H locs 0 0 (MQ below (m_Qv G M0) args s 0 0 (m_A G)) (F0 m 162 ls [.int s0]) := by
    intro q122 hq122 x2 s0 M H locs ls hP hS hl hres
    unfold f_X8_layDay_b162 at hres
    refine lv_istore_n (lv' := [(3, .int s0), (0, .ref (m_ad G 172)), (1, .int x1), (2, .int x2)]) X.1 X.2.1 dX8_layDay_162 rfl hl (by decide) rfl (fun ls hl => ?_)
    refine lv_aload_n X.1 X.2.1 dX8_layDay_163 rfl (lv_at hl 1 rfl) ?_
    refine lv_dup X.1 X.2.1 dX8_layDay_164 rfl ?_
    refine m_g8 (v := .int (M.1 172 25)) X hSt hP m_z_172 25 (by decide) rfl k_f_X8_130 dX8_layDay_165 ?_
    refine lv_iconst (v := 1) X.1 X.2.1 dX8_layDay_168 (by decide) ?_
    refine lv_iadd X.1 X.2.1 dX8_layDay_169 ?_
    obtain ⟨M25, eM25, hres⟩ := m_bd_e hres
    refine m_pi8 X hSt hP hS m_z_172 25 (by decide) eM25 rfl rfl (by decide) k_f_X8_130 dX8_layDay_170 (fun H locs hP hS => ?_)
    exact B173 q122 hq122 x2 s0 M25 _ _ _ hP hS (lv_sub hl [1, 2, 3, 0] rfl) hres
  have B122 : ∀ (u : Nat) (x2 : Int32) (M : m_M) (H : Heap) (locs : List Loc) (ls : Array Slot), m_P G M H → va_S (m_A G) s.heap H locs → lv_has ls 5 [(0, .ref (m_ad G 172)), (1, .int x1), (2, .int x2)] → f_X8_layDay_b122 n x1 u x2 M = some M0 → W p l e (m_R 2 48) s m args below meth c H locs 0 0 (MQ below (m_Qv G M0) args s 0 0 (m_A G)) (F0 m 122 ls []) := by
    intro u
    induction u with
    | zero =>
      intro x2 M H locs ls hP hS hl hres
      cases hres
    | succ u ih =>
      intro x2 M H locs ls hP hS hl hres
      rw [f_X8_layDay_b122] at hres
      refine lv_iload_n X.1 X.2.1 dX8_layDay_122 rfl (lv_at hl 2 rfl) ?_
      refine lv_aload_n X.1 X.2.1 dX8_layDay_123 rfl (lv_at hl 0 rfl) ?_
      obtain ⟨r26, err26, hres⟩ := m_bd_e hres
      refine m_bi (m_cV (n := 0) (As := []) (rest := [.int x2]) X hSt hP hS hl.1 (c_X8_notes l G  err26) k_c_yX8_notes k_m_X8_133 k_i_yX8_notes k_s_yX8_notes k_n_X8 (by decide +kernel) (m_rc8 hSt hP m_z_172) rfl rfl ⟨Nat.le_of_ble_eq_true rfl, Nat.le_of_ble_eq_true rfl⟩ (Nat.le_of_ble_eq_true rfl) ⟨Nat.zero_le _, Nat.zero_le _⟩ dX8_layDay_124) hS (fun H locs hP hS => ?_)
      refine lv_icmp_ge (tgt := 264) X.1 X.2.1 dX8_layDay_127 (by decide) (fun hc27 => ?_) (fun hc27 => ?_)
      · have hres := m_it hres hc27
        refine lv_iconst (v := 0) X.1 X.2.1 dX8_layDay_264 (by decide) ?_
        refine lv_istore_n (lv' := [(2, .int 0), (0, .ref (m_ad G 172)), (1, .int x1)]) X.1 X.2.1 dX8_layDay_265 rfl hl (by decide) rfl (fun ls hl => ?_)
        exact B266 n 0 M _ _ _ hP hS (lv_sub hl [1, 0] rfl) hres
      · have hres := m_if hres hc27
        refine lv_iconst (v := 1) X.1 X.2.1 dX8_layDay_130 (by decide) ?_
        refine lv_istore_n (lv' := [(3, .int 1), (0, .ref (m_ad G 172)), (1, .int x1), (2, .int x2)]) X.1 X.2.1 dX8_layDay_131 rfl hl (by decide) rfl (fun ls hl => ?_)
        refine lv_aload_n X.1 X.2.1 dX8_layDay_132 rfl (lv_at hl 1 rfl) ?_
        refine lv_iload_n X.1 X.2.1 dX8_layDay_133 rfl (lv_at hl 3 rfl) ?_
        refine lv_iconst (v := 5) X.1 X.2.1 dX8_layDay_134 (by decide) ?_
        obtain ⟨r28, err28, hres⟩ := m_ob_e hres
        refine m_bi (m_cV (n := 2) (As := [.int x2, .int 5]) (rest := []) X hSt hP hS hl.1 (c_X8_of l G  err28) k_c_yX8_of k_m_X8_136 k_i_yX8_of k_s_yX8_of k_n_X8 (by decide +kernel) (m_rc8 hSt hP m_z_172) rfl rfl ⟨Nat.le_of_ble_eq_true rfl, Nat.le_of_ble_eq_true rfl⟩ (Nat.le_of_ble_eq_true rfl) ⟨Nat.zero_le _, Nat.zero_le _⟩ dX8_layDay_135) hS (fun H locs hP hS => ?_)
        refine lv_iconst (v := 1) X.1 X.2.1 dX8_layDay_138 (by decide) ?_
        refine lv_icmp_ne (tgt := 173) X.1 X.2.1 dX8_layDay_139 (by decide) (fun hc29 => ?_) (fun hc29 => ?_)
        · have hres := m_if hres hc29
          exact B173 (f_X8_layDay_b122 n x1 u) ih x2 1 M _ _ _ hP hS (lv_sub hl [1, 2, 3, 0] rfl) hres
        · have hres := m_it hres hc29
          refine lv_aload_n X.1 X.2.1 dX8_layDay_142 rfl (lv_at hl 1 rfl) ?_
          refine m_g8 (v := .int (M.1 172 24)) X hSt hP m_z_172 24 (by decide) rfl k_f_X8_72 dX8_layDay_143 ?_
          refine lv_aload_n X.1 X.2.1 dX8_layDay_146 rfl (lv_at hl 1 rfl) ?_
          refine m_g8 (v := .int (M.1 172 25)) X hSt hP m_z_172 25 (by decide) rfl k_f_X8_130 dX8_layDay_147 ?_
          refine lv_ishr X.1 X.2.1 dX8_layDay_150 ?_
          refine lv_iconst (v := 1) X.1 X.2.1 dX8_layDay_151 (by decide) ?_
          refine lv_iand X.1 X.2.1 dX8_layDay_152 ?_
          refine lv_iconst (v := 1) X.1 X.2.1 dX8_layDay_153 (by decide) ?_
          refine lv_icmp_ne (tgt := 161) X.1 X.2.1 dX8_layDay_154 (by decide) (fun hc30 => ?_) (fun hc30 => ?_)
          · have hres := m_if hres hc30
            refine lv_iconst (v := 0) X.1 X.2.1 dX8_layDay_161 (by decide) ?_
            exact B162 (f_X8_layDay_b122 n x1 u) ih x2 0 M _ _ _ hP hS (lv_sub hl [1, 2, 3] rfl) hres
          · have hres := m_it hres hc30
            refine lv_iconst (v := 1) X.1 X.2.1 dX8_layDay_157 (by decide) ?_
            refine lv_goto (tgt := 162) X.1 X.2.1 dX8_layDay_158 (by decide) ?_
            exact B162 (f_X8_layDay_b122 n x1 u) ih x2 1 M _ _ _ hP hS (lv_sub hl [1, 2, 3] rfl) hres
  have B75 : ∀ (q7 : Int32 → m_M → Option m_M) (hq7 : ∀ (x2 : Int32) (M : m_M) (H : Heap) (locs : List Loc) (ls : Array Slot), m_P G M H → va_S (m_A G) s.heap H locs → lv_has ls 5 [(0, .ref (m_ad G 172)), (1, .int x1), (2, .int x2)] → q7 x2 M = some M0 → W p l e (m_R 2 48) s m args below meth c H locs 0 0 (MQ below (m_Qv G M0) args s 0 0 (m_A G)) (F0 m 7 ls [])) (u : Nat) (x2 : Int32) (x3 : Int32) (M : m_M) (H : Heap) (locs : List Loc) (ls : Array Slot), m_P G M H → va_S (m_A G) s.heap H locs → lv_has ls 5 [(0, .ref (m_ad G 172)), (1, .int x1), (2, .int x2), (3, .int x3)] → f_X8_layDay_b75 n x1 q7 u x2 x3 M = some M0 → W p l e (m_R 2 48) s m args below meth c H locs 0 0 (MQ below (m_Qv G M0) args s 0 0 (m_A G)) (F0 m 75 ls []) := by
    intro q7 hq7 u
    induction u with
    | zero =>
      intro x2 x3 M H locs ls hP hS hl hres
      cases hres
    | succ u ih =>
      intro x2 x3 M H locs ls hP hS hl hres
      rw [f_X8_layDay_b75] at hres
      refine lv_iload_n X.1 X.2.1 dX8_layDay_75 rfl (lv_at hl 3 rfl) ?_
      refine lv_bipush (v := 10) X.1 X.2.1 dX8_layDay_76 (by decide) ?_
      refine lv_icmp_ge (tgt := 99) X.1 X.2.1 dX8_layDay_78 (by decide) (fun hc31 => ?_) (fun hc31 => ?_)
      · have hres := m_it hres hc31
        refine lv_iinc (v := (x2 + 1)) (lv' := [(2, .int (x2 + 1)), (0, .ref (m_ad G 172)), (1, .int x1), (3, .int x3)]) X.1 X.2.1 dX8_layDay_99 hl (k := 2) rfl rfl (by decide) rfl (fun ls hl => ?_)
        refine lv_goto (tgt := 7) X.1 X.2.1 dX8_layDay_102 (by decide) ?_
        exact hq7 (x2 + 1) M _ _ _ hP hS (lv_sub hl [1, 2, 0] rfl) hres
      · have hres := m_if hres hc31
        refine lv_aload_n X.1 X.2.1 dX8_layDay_81 rfl (lv_at hl 0 rfl) ?_
        refine m_g8 (v := .ref (m_ad G 184)) X hSt hP m_z_172 14 (by decide) rfl k_f_X8_48 dX8_layDay_82 ?_
        refine lv_bipush (v := 10) X.1 X.2.1 dX8_layDay_85 (by decide) ?_
        refine lv_iload_n X.1 X.2.1 dX8_layDay_87 rfl (lv_at hl 2 rfl) ?_
        refine lv_imul X.1 X.2.1 dX8_layDay_88 ?_
        refine lv_iload_n X.1 X.2.1 dX8_layDay_89 rfl (lv_at hl 3 rfl) ?_
        refine lv_iadd X.1 X.2.1 dX8_layDay_90 ?_
        refine lv_iconst (v := 0) X.1 X.2.1 dX8_layDay_91 (by decide) ?_
        obtain ⟨hg32, hres⟩ := m_gd_e hres
        obtain ⟨M33, eM33, hres⟩ := m_bd_e hres
        refine m_is (j := ((((10 : Int32) * x2) + x3).toNatClampNeg)) X hSt hP hS m_z_184 hg32 rfl dX8_layDay_92 eM33 (fun H locs hP hS => ?_)
        refine lv_iinc (v := (x3 + 1)) (lv' := [(3, .int (x3 + 1)), (0, .ref (m_ad G 172)), (1, .int x1), (2, .int x2)]) X.1 X.2.1 dX8_layDay_93 hl (k := 3) rfl rfl (by decide) rfl (fun ls hl => ?_)
        refine lv_goto (tgt := 75) X.1 X.2.1 dX8_layDay_96 (by decide) ?_
        exact ih x2 (x3 + 1) M33 _ _ _ hP hS (lv_sub hl [1, 2, 3, 0] rfl) hres
  have B29 : ∀ (q7 : Int32 → m_M → Option m_M) (hq7 : ∀ (x2 : Int32) (M : m_M) (H : Heap) (locs : List Loc) (ls : Array Slot), m_P G M H → va_S (m_A G) s.heap H locs → lv_has ls 5 [(0, .ref (m_ad G 172)), (1, .int x1), (2, .int x2)] → q7 x2 M = some M0 → W p l e (m_R 2 48) s m args below meth c H locs 0 0 (MQ below (m_Qv G M0) args s 0 0 (m_A G)) (F0 m 7 ls [])) (u : Nat) (x2 : Int32) (x3 : Int32) (M : m_M) (H : Heap) (locs : List Loc) (ls : Array Slot), m_P G M H → va_S (m_A G) s.heap H locs → lv_has ls 5 [(0, .ref (m_ad G 172)), (1, .int x1), (2, .int x2), (3, .int x3)] → f_X8_layDay_b29 n x1 q7 u x2 x3 M = some M0 → W p l e (m_R 2 48) s m args below meth c H locs 0 0 (MQ below (m_Qv G M0) args s 0 0 (m_A G)) (F0 m 29 ls []) := by
    intro q7 hq7 u
    induction u with
    | zero =>
      intro x2 x3 M H locs ls hP hS hl hres
      cases hres
    | succ u ih =>
      intro x2 x3 M H locs ls hP hS hl hres
      rw [f_X8_layDay_b29] at hres
      refine lv_iload_n X.1 X.2.1 dX8_layDay_29 rfl (lv_at hl 3 rfl) ?_
      refine lv_iconst (v := 4) X.1 X.2.1 dX8_layDay_30 (by decide) ?_
      refine lv_icmp_ge (tgt := 73) X.1 X.2.1 dX8_layDay_31 (by decide) (fun hc34 => ?_) (fun hc34 => ?_)
      · have hres := m_it hres hc34
        refine lv_iconst (v := 0) X.1 X.2.1 dX8_layDay_73 (by decide) ?_
        refine lv_istore_n (lv' := [(3, .int 0), (0, .ref (m_ad G 172)), (1, .int x1), (2, .int x2)]) X.1 X.2.1 dX8_layDay_74 rfl hl (by decide) rfl (fun ls hl => ?_)
        exact B75 q7 hq7 n x2 0 M _ _ _ hP hS (lv_sub hl [1, 2, 3, 0] rfl) hres
      · have hres := m_if hres hc34
        refine lv_aload_n X.1 X.2.1 dX8_layDay_34 rfl (lv_at hl 0 rfl) ?_
        refine m_g8 (v := .ref (m_ad G 181)) X hSt hP m_z_172 11 (by decide) rfl k_f_X8_39 dX8_layDay_35 ?_
        refine lv_iconst (v := 4) X.1 X.2.1 dX8_layDay_38 (by decide) ?_
        refine lv_iload_n X.1 X.2.1 dX8_layDay_39 rfl (lv_at hl 2 rfl) ?_
        refine lv_imul X.1 X.2.1 dX8_layDay_40 ?_
        refine lv_iload_n X.1 X.2.1 dX8_layDay_41 rfl (lv_at hl 3 rfl) ?_
        refine lv_iadd X.1 X.2.1 dX8_layDay_42 ?_
        refine lv_iconst (v := 0) X.1 X.2.1 dX8_layDay_43 (by decide) ?_
        obtain ⟨hg35, hres⟩ := m_gd_e hres
        obtain ⟨M36, eM36, hres⟩ := m_bd_e hres
        refine m_is (j := ((((4 : Int32) * x2) + x3).toNatClampNeg)) X hSt hP hS m_z_181 hg35 rfl dX8_layDay_44 eM36 (fun H locs hP hS => ?_)
        refine lv_aload_n X.1 X.2.1 dX8_layDay_45 rfl (lv_at hl 0 rfl) ?_
        refine m_g8 (v := .ref (m_ad G 182)) X hSt hP m_z_172 12 (by decide) rfl k_f_X8_42 dX8_layDay_46 ?_
        refine lv_iconst (v := 4) X.1 X.2.1 dX8_layDay_49 (by decide) ?_
        refine lv_iload_n X.1 X.2.1 dX8_layDay_50 rfl (lv_at hl 2 rfl) ?_
        refine lv_imul X.1 X.2.1 dX8_layDay_51 ?_
        refine lv_iload_n X.1 X.2.1 dX8_layDay_52 rfl (lv_at hl 3 rfl) ?_
        refine lv_iadd X.1 X.2.1 dX8_layDay_53 ?_
        refine lv_iconst (v := 0) X.1 X.2.1 dX8_layDay_54 (by decide) ?_
        obtain ⟨M37, eM37, hres⟩ := m_bd_e hres
        refine m_zs (j := ((((4 : Int32) * x2) + x3).toNatClampNeg)) X hSt hP hS m_z_182 hg35 rfl (by decide)  dX8_layDay_55 eM37 (fun H locs hP hS => ?_)
        refine lv_aload_n X.1 X.2.1 dX8_layDay_56 rfl (lv_at hl 0 rfl) ?_
        refine m_g8 (v := .ref (m_ad G 183)) X hSt hP m_z_172 13 (by decide) rfl k_f_X8_45 dX8_layDay_57 ?_
        refine lv_iconst (v := 4) X.1 X.2.1 dX8_layDay_60 (by decide) ?_
        refine lv_iload_n X.1 X.2.1 dX8_layDay_61 rfl (lv_at hl 2 rfl) ?_
        refine lv_imul X.1 X.2.1 dX8_layDay_62 ?_
        refine lv_iload_n X.1 X.2.1 dX8_layDay_63 rfl (lv_at hl 3 rfl) ?_
        refine lv_iadd X.1 X.2.1 dX8_layDay_64 ?_
        refine lv_iconst (v := 0) X.1 X.2.1 dX8_layDay_65 (by decide) ?_
        obtain ⟨M38, eM38, hres⟩ := m_bd_e hres
        refine m_zs (j := ((((4 : Int32) * x2) + x3).toNatClampNeg)) X hSt hP hS m_z_183 hg35 rfl (by decide)  dX8_layDay_66 eM38 (fun H locs hP hS => ?_)
        refine lv_iinc (v := (x3 + 1)) (lv' := [(3, .int (x3 + 1)), (0, .ref (m_ad G 172)), (1, .int x1), (2, .int x2)]) X.1 X.2.1 dX8_layDay_67 hl (k := 3) rfl rfl (by decide) rfl (fun ls hl => ?_)
        refine lv_goto (tgt := 29) X.1 X.2.1 dX8_layDay_70 (by decide) ?_
        exact ih x2 (x3 + 1) M38 _ _ _ hP hS (lv_sub hl [1, 2, 3, 0] rfl) hres
  have B7 : ∀ (u : Nat) (x2 : Int32) (M : m_M) (H : Heap) (locs : List Loc) (ls : Array Slot), m_P G M H → va_S (m_A G) s.heap H locs → lv_has ls 5 [(0, .ref (m_ad G 172)), (1, .int x1), (2, .int x2)] → f_X8_layDay_b7 n x1 u x2 M = some M0 → W p l e (m_R 2 48) s m args below meth c H locs 0 0 (MQ below (m_Qv G M0) args s 0 0 (m_A G)) (F0 m 7 ls []) := by
    intro u
    induction u with
    | zero =>
      intro x2 M H locs ls hP hS hl hres
      cases hres
    | succ u ih =>
      intro x2 M H locs ls hP hS hl hres
      rw [f_X8_layDay_b7] at hres
      refine lv_iload_n X.1 X.2.1 dX8_layDay_7 rfl (lv_at hl 2 rfl) ?_
      refine lv_bipush (v := 10) X.1 X.2.1 dX8_layDay_8 (by decide) ?_
      refine lv_icmp_ge (tgt := 105) X.1 X.2.1 dX8_layDay_10 (by decide) (fun hc39 => ?_) (fun hc39 => ?_)
      · have hres := m_it hres hc39
        refine lv_aload_n X.1 X.2.1 dX8_layDay_105 rfl (lv_at hl 0 rfl) ?_
        refine lv_iconst (v := 0) X.1 X.2.1 dX8_layDay_106 (by decide) ?_
        obtain ⟨M40, eM40, hres⟩ := m_bd_e hres
        refine m_pi8 X hSt hP hS m_z_172 22 (by decide) eM40 rfl rfl (by decide) k_f_X8_124 dX8_layDay_107 (fun H locs hP hS => ?_)
        refine lv_aload_n X.1 X.2.1 dX8_layDay_110 rfl (lv_at hl 0 rfl) ?_
        refine lv_iconst (v := 0) X.1 X.2.1 dX8_layDay_111 (by decide) ?_
        obtain ⟨M41, eM41, hres⟩ := m_bd_e hres
        refine m_pi8 X hSt hP hS m_z_172 23 (by decide) eM41 rfl rfl (by decide) k_f_X8_127 dX8_layDay_112 (fun H locs hP hS => ?_)
        refine lv_aload_n X.1 X.2.1 dX8_layDay_115 rfl (lv_at hl 0 rfl) ?_
        refine lv_iconst (v := 0) X.1 X.2.1 dX8_layDay_116 (by decide) ?_
        obtain ⟨M42, eM42, hres⟩ := m_bd_e hres
        refine m_pi8 X hSt hP hS m_z_172 25 (by decide) eM42 rfl rfl (by decide) k_f_X8_130 dX8_layDay_117 (fun H locs hP hS => ?_)
        refine lv_iconst (v := 0) X.1 X.2.1 dX8_layDay_120 (by decide) ?_
        refine lv_istore_n (lv' := [(2, .int 0), (0, .ref (m_ad G 172)), (1, .int x1)]) X.1 X.2.1 dX8_layDay_121 rfl hl (by decide) rfl (fun ls hl => ?_)
        exact B122 n 0 M42 _ _ _ hP hS (lv_sub hl [1, 2, 0] rfl) hres
      · have hres := m_if hres hc39
        refine lv_aload_n X.1 X.2.1 dX8_layDay_13 rfl (lv_at hl 0 rfl) ?_
        refine m_g8 (v := .ref (m_ad G 177)) X hSt hP m_z_172 7 (by decide) rfl k_f_X8_27 dX8_layDay_14 ?_
        refine lv_iload_n X.1 X.2.1 dX8_layDay_17 rfl (lv_at hl 2 rfl) ?_
        refine lv_iconst (v := (-1)) X.1 X.2.1 dX8_layDay_18 (by decide) ?_
        obtain ⟨hg43, hres⟩ := m_gd_e hres
        obtain ⟨M44, eM44, hres⟩ := m_bd_e hres
        refine m_is (j := x2.toNatClampNeg) X hSt hP hS m_z_177 hg43 rfl dX8_layDay_19 eM44 (fun H locs hP hS => ?_)
        refine lv_aload_n X.1 X.2.1 dX8_layDay_20 rfl (lv_at hl 0 rfl) ?_
        refine m_g8 (v := .ref (m_ad G 178)) X hSt hP m_z_172 8 (by decide) rfl k_f_X8_30 dX8_layDay_21 ?_
        refine lv_iload_n X.1 X.2.1 dX8_layDay_24 rfl (lv_at hl 2 rfl) ?_
        refine lv_iconst (v := (-1)) X.1 X.2.1 dX8_layDay_25 (by decide) ?_
        obtain ⟨M45, eM45, hres⟩ := m_bd_e hres
        refine m_is (j := x2.toNatClampNeg) X hSt hP hS m_z_178 hg43 rfl dX8_layDay_26 eM45 (fun H locs hP hS => ?_)
        refine lv_iconst (v := 0) X.1 X.2.1 dX8_layDay_27 (by decide) ?_
        refine lv_istore_n (lv' := [(3, .int 0), (0, .ref (m_ad G 172)), (1, .int x1), (2, .int x2)]) X.1 X.2.1 dX8_layDay_28 rfl hl (by decide) rfl (fun ls hl => ?_)
        exact B29 (f_X8_layDay_b7 n x1 u) ih n x2 0 M45 _ _ _ hP hS (lv_sub hl [1, 2, 3, 0] rfl) hres
  unfold f_X8_layDay at hres
  refine lv_aload_n X.1 X.2.1 dX8_layDay_0 rfl (lv_at hl 0 rfl) ?_
  refine lv_iload_n X.1 X.2.1 dX8_layDay_1 rfl (lv_at hl 1 rfl) ?_
  obtain ⟨M46, eM46, hres⟩ := m_bd_e hres
  refine m_pi8 X hSt hP hS m_z_172 26 (by decide) eM46 rfl rfl (by decide) k_f_X8_121 dX8_layDay_2 (fun H locs hP hS => ?_)
  refine lv_iconst (v := 0) X.1 X.2.1 dX8_layDay_5 (by decide) ?_
  refine lv_istore_n (lv' := [(2, .int 0), (0, .ref (m_ad G 172)), (1, .int x1)]) X.1 X.2.1 dX8_layDay_6 rfl hl (by decide) rfl (fun ls hl => ?_)
  exact B7 n 0 M46 _ _ _ hP hS (lv_sub hl [1, 2, 0] rfl) hres
theorem dX8_isIn_0 : decode cX8_isIn 0 = .ok (.lload_n 0, 1) := by decide +kernel
theorem dX8_isIn_1 : decode cX8_isIn 1 = .ok (.lload_n 2, 1) := by decide +kernel
theorem dX8_isIn_2 : decode cX8_isIn 2 = .ok (.lcmp, 1) := by decide +kernel
theorem dX8_isIn_3 : decode cX8_isIn 3 = .ok (.ifCond .lt 14, 3) := by decide +kernel
theorem dX8_isIn_6 : decode cX8_isIn 6 = .ok (.lload_n 0, 1) := by decide +kernel
theorem dX8_isIn_7 : decode cX8_isIn 7 = .ok (.lload 4, 2) := by decide +kernel
theorem dX8_isIn_9 : decode cX8_isIn 9 = .ok (.lcmp, 1) := by decide +kernel
theorem dX8_isIn_10 : decode cX8_isIn 10 = .ok (.ifCond .gt 7, 3) := by decide +kernel
theorem dX8_isIn_13 : decode cX8_isIn 13 = .ok (.iconst 1, 1) := by decide +kernel
theorem dX8_isIn_14 : decode cX8_isIn 14 = .ok (.goto 4, 3) := by decide +kernel
theorem dX8_isIn_17 : decode cX8_isIn 17 = .ok (.iconst 0, 1) := by decide +kernel
theorem dX8_isIn_18 : decode cX8_isIn 18 = .ok (.ireturn, 1) := by decide +kernel
def f_X8_isIn (x0 : Int64) (x2 : Int64) (x4 : Int64) : Int32 :=
  if x0 < x2 then
  0
  else
  if x4 < x0 then
  0
  else
  1
set_option maxHeartbeats 4000000 in
set_option maxRecDepth 100000 in
theorem c_X8_isIn (l : Launch) (G : m_G) {x0 : Int64} {x2 : Int64} {x4 : Int64} {M : m_M} {r0 : Int32}  (hres : f_X8_isIn x0 x2 x4 = r0) : Met l yX8_isIn (m_U yX8_isIn cX8_isIn 6 (some .boolean)) (m_R 0 0) (m_Pc G [.long x0, .long x2, .long x4] M) (m_Qz G r0 M) 0 0 (m_A G) := by
  refine m_i0 (n := 6) RX8 rfl (by decide) (Nat.le_of_ble_eq_true rfl) ?_
  intro p e s m args below meth c X hr hlk hSt hP hS ls hl
  have hl : lv_has ls 6 [(0, .long x0), (2, .long x2), (4, .long x4)] := hl
  unfold f_X8_isIn at hres
  refine lv_lload_n X.1 X.2.1 dX8_isIn_0 rfl (lv_at hl 0 rfl) ?_
  refine lv_lload_n X.1 X.2.1 dX8_isIn_1 rfl (lv_at hl 1 rfl) ?_
  refine m_llt (tgt := 17) X dX8_isIn_2 dX8_isIn_3 (by decide) (fun hc1 => ?_) (fun hc1 => ?_)
  · have hres := m_it hres hc1
    refine lv_iconst (v := 0) X.1 X.2.1 dX8_isIn_17 (by decide) ?_
    exact m_rz X hr hlk hP hS hres rfl (by decide) dX8_isIn_18
  · have hres := m_if hres hc1
    refine lv_lload_n X.1 X.2.1 dX8_isIn_6 rfl (lv_at hl 0 rfl) ?_
    refine lv_lload X.1 X.2.1 dX8_isIn_7 (lv_at hl 2 rfl) ?_
    refine m_lgt (tgt := 17) X dX8_isIn_9 dX8_isIn_10 (by decide) (fun hc2 => ?_) (fun hc2 => ?_)
    · have hres := m_it hres hc2
      refine lv_iconst (v := 0) X.1 X.2.1 dX8_isIn_17 (by decide) ?_
      exact m_rz X hr hlk hP hS hres rfl (by decide) dX8_isIn_18
    · have hres := m_if hres hc2
      refine lv_iconst (v := 1) X.1 X.2.1 dX8_isIn_13 (by decide) ?_
      refine lv_goto (tgt := 18) X.1 X.2.1 dX8_isIn_14 (by decide) ?_
      exact m_rz X hr hlk hP hS hres rfl (by decide) dX8_isIn_18
