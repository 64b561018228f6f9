/-! WALKS 13: X8_image X8_in X8_isPlace X8_mayShare X8_isRest X8_isSmall X8_isUnder X8_layLine X8_line X8_look X8_may X8_namesB X8_namesV -/
theorem dX8_image_0 : decode cX8_image 0 = .ok (.iload_n 1, 1) := by decide +kernel
theorem dX8_image_1 : decode cX8_image 1 = .ok (.invokestatic 269, 3) := by decide +kernel
theorem dX8_image_4 : decode cX8_image 4 = .ok (.ifCond .ne 6, 3) := by decide +kernel
theorem dX8_image_7 : decode cX8_image 7 = .ok (.bipush (-2), 2) := by decide +kernel
theorem dX8_image_9 : decode cX8_image 9 = .ok (.ireturn, 1) := by decide +kernel
theorem dX8_image_10 : decode cX8_image 10 = .ok (.iconst 0, 1) := by decide +kernel
theorem dX8_image_11 : decode cX8_image 11 = .ok (.istore_n 2, 1) := by decide +kernel
theorem dX8_image_12 : decode cX8_image 12 = .ok (.iload_n 2, 1) := by decide +kernel
theorem dX8_image_13 : decode cX8_image 13 = .ok (.sipush 471, 3) := by decide +kernel
theorem dX8_image_16 : decode cX8_image 16 = .ok (.if_icmp .ge 27, 3) := by decide +kernel
theorem dX8_image_19 : decode cX8_image 19 = .ok (.aload_n 0, 1) := by decide +kernel
theorem dX8_image_20 : decode cX8_image 20 = .ok (.getfield 13, 3) := by decide +kernel
theorem dX8_image_23 : decode cX8_image 23 = .ok (.sipush 471, 3) := by decide +kernel
theorem dX8_image_26 : decode cX8_image 26 = .ok (.iload_n 1, 1) := by decide +kernel
theorem dX8_image_27 : decode cX8_image 27 = .ok (.imul, 1) := by decide +kernel
theorem dX8_image_28 : decode cX8_image 28 = .ok (.iload_n 2, 1) := by decide +kernel
theorem dX8_image_29 : decode cX8_image 29 = .ok (.iadd, 1) := by decide +kernel
theorem dX8_image_30 : decode cX8_image 30 = .ok (.aload_n 0, 1) := by decide +kernel
theorem dX8_image_31 : decode cX8_image 31 = .ok (.getfield 7, 3) := by decide +kernel
theorem dX8_image_34 : decode cX8_image 34 = .ok (.iload_n 2, 1) := by decide +kernel
theorem dX8_image_35 : decode cX8_image 35 = .ok (.iaload, 1) := by decide +kernel
theorem dX8_image_36 : decode cX8_image 36 = .ok (.iastore, 1) := by decide +kernel
theorem dX8_image_37 : decode cX8_image 37 = .ok (.iinc 2 1, 3) := by decide +kernel
theorem dX8_image_40 : decode cX8_image 40 = .ok (.goto (-28), 3) := by decide +kernel
theorem dX8_image_43 : decode cX8_image 43 = .ok (.aload_n 0, 1) := by decide +kernel
theorem dX8_image_44 : decode cX8_image 44 = .ok (.getfield 16, 3) := by decide +kernel
theorem dX8_image_47 : decode cX8_image 47 = .ok (.iload_n 1, 1) := by decide +kernel
theorem dX8_image_48 : decode cX8_image 48 = .ok (.iconst 1, 1) := by decide +kernel
theorem dX8_image_49 : decode cX8_image 49 = .ok (.bastore, 1) := by decide +kernel
theorem dX8_image_50 : decode cX8_image 50 = .ok (.iconst 1, 1) := by decide +kernel
theorem dX8_image_51 : decode cX8_image 51 = .ok (.ireturn, 1) := by decide +kernel
def f_X8_image_b12 (n : Nat) (x1 : Int32) : Nat → Int32 → m_M → Option (Int32 × m_M)
  | 0, _, _ => none
  | u + 1, x2, M =>
    if (471 : Int32) ≤ x2 then
  m_gd (m_in x1 2) (
  m_bd (m_sI M 175 x1.toNatClampNeg 1) fun M3 =>
  some (1, M3))
  else
  m_gd (m_in x2 471) (
  m_gd (m_in (((471 : Int32) * x1) + x2) 942) (
  m_bd (m_sI M 174 ((((471 : Int32) * x1) + x2).toNatClampNeg) (M.1 173 x2.toNatClampNeg)) fun M6 =>
  f_X8_image_b12 n x1 u (x2 + 1) M6))
def f_X8_image (n : Nat) (x1 : Int32) (M : m_M) : Option (Int32 × m_M) :=
  m_bd (f_X8_isLaw x1) fun r7 =>
  if r7 = 0 then
  some ((-2), M)
  else
  f_X8_image_b12 n x1 n 0 M
set_option maxHeartbeats 4000000 in
set_option maxRecDepth 100000 in
theorem c_X8_image (l : Launch) (G : m_G) {n : Nat} {x1 : Int32} {M : m_M} {r0 : Int32} {M0 : m_M}  (hres : f_X8_image n x1 M = some (r0, M0)) : Met l yX8_image (m_U yX8_image cX8_image 3 (some .int)) (m_R 2 45) (m_Pc G [.ref (m_ad G 172), .int x1] M) (m_Qi G r0 M0) 0 0 (m_A G) := by
  refine m_i0 (n := 3) RX8 rfl (by decide) (Nat.le_of_ble_eq_true rfl) ?_
  intro p e s m args below meth c X hr hlk hSt hP hS ls hl
  have hl : lv_has ls 3 [(0, .ref (m_ad G 172)), (1, .int x1)] := hl
  have B12 : ∀ (u : Nat) (x2 : Int32) (M : m_M) (H : Heap) (locs : List Loc) (ls : Array Slot), m_P G M H → va_S (m_A G) s.heap H locs → lv_has ls 3 [(0, .ref (m_ad G 172)), (1, .int x1), (2, .int x2)] → f_X8_image_b12 n x1 u x2 M = some (r0, M0) → W p l e (m_R 2 45) s m args below meth c H locs 0 0 (MQ below (m_Qi G r0 M0) args s 0 0 (m_A G)) (F0 m 12 ls []) := by
    intro u
    induction u with
    | zero =>
      intro x2 M H locs ls hP hS hl hres
      cases hres
    | succ u ih =>
      intro x2 M H locs ls hP hS hl hres
      rw [f_X8_image_b12] at hres
      refine lv_iload_n X.1 X.2.1 dX8_image_12 rfl (lv_at hl 2 rfl) ?_
      refine lv_sipush (v := 471) X.1 X.2.1 dX8_image_13 (by decide) ?_
      refine lv_icmp_ge (tgt := 43) X.1 X.2.1 dX8_image_16 (by decide) (fun hc1 => ?_) (fun hc1 => ?_)
      · have hres := m_it hres hc1
        refine lv_aload_n X.1 X.2.1 dX8_image_43 rfl (lv_at hl 0 rfl) ?_
        refine m_g8 (v := .ref (m_ad G 175)) X hSt hP m_z_172 2 (by decide) rfl k_f_X8_16 dX8_image_44 ?_
        refine lv_iload_n X.1 X.2.1 dX8_image_47 rfl (lv_at hl 1 rfl) ?_
        refine lv_iconst (v := 1) X.1 X.2.1 dX8_image_48 (by decide) ?_
        obtain ⟨hg2, hres⟩ := m_gd_e hres
        obtain ⟨M3, eM3, hres⟩ := m_bd_e hres
        refine m_zs (j := x1.toNatClampNeg) X hSt hP hS m_z_175 hg2 rfl (by decide)  dX8_image_49 eM3 (fun H locs hP hS => ?_)
        refine lv_iconst (v := 1) X.1 X.2.1 dX8_image_50 (by decide) ?_
        exact m_ri X hr hlk hP hS (Prod.mk.inj (Option.some.inj hres)).1 (Prod.mk.inj (Option.some.inj hres)).2 dX8_image_51
      · have hres := m_if hres hc1
        refine lv_aload_n X.1 X.2.1 dX8_image_19 rfl (lv_at hl 0 rfl) ?_
        refine m_g8 (v := .ref (m_ad G 174)) X hSt hP m_z_172 1 (by decide) rfl k_f_X8_13 dX8_image_20 ?_
        refine lv_sipush (v := 471) X.1 X.2.1 dX8_image_23 (by decide) ?_
        refine lv_iload_n X.1 X.2.1 dX8_image_26 rfl (lv_at hl 1 rfl) ?_
        refine lv_imul X.1 X.2.1 dX8_image_27 ?_
        refine lv_iload_n X.1 X.2.1 dX8_image_28 rfl (lv_at hl 2 rfl) ?_
        refine lv_iadd X.1 X.2.1 dX8_image_29 ?_
        refine lv_aload_n X.1 X.2.1 dX8_image_30 rfl (lv_at hl 0 rfl) ?_
        refine m_g8 (v := .ref (m_ad G 173)) X hSt hP m_z_172 0 (by decide) rfl k_f_X8_7 dX8_image_31 ?_
        refine lv_iload_n X.1 X.2.1 dX8_image_34 rfl (lv_at hl 2 rfl) ?_
        obtain ⟨hg4, hres⟩ := m_gd_e hres
        refine m_ia (j := x2.toNatClampNeg) X hSt hP m_z_173 hg4 rfl dX8_image_35 ?_
        obtain ⟨hg5, hres⟩ := m_gd_e hres
        obtain ⟨M6, eM6, hres⟩ := m_bd_e hres
        refine m_is (j := ((((471 : Int32) * x1) + x2).toNatClampNeg)) X hSt hP hS m_z_174 hg5 rfl dX8_image_36 eM6 (fun H locs hP hS => ?_)
        refine lv_iinc (v := (x2 + 1)) (lv' := [(2, .int (x2 + 1)), (0, .ref (m_ad G 172)), (1, .int x1)]) X.1 X.2.1 dX8_image_37 hl (k := 2) rfl rfl (by decide) rfl (fun ls hl => ?_)
        refine lv_goto (tgt := 12) X.1 X.2.1 dX8_image_40 (by decide) ?_
        exact ih (x2 + 1) M6 _ _ _ hP hS (lv_sub hl [1, 2, 0] rfl) hres
  unfold f_X8_image at hres
  refine lv_iload_n X.1 X.2.1 dX8_image_0 rfl (lv_at hl 1 rfl) ?_
  obtain ⟨r7, err7, hres⟩ := m_bd_e hres
  refine m_bz (m_cS (n := 1) (As := [.int x1]) (rest := []) X hSt hP hS hl.1 (c_X8_isLaw l G (M := M)  err7) k_c_yX8_isLaw k_m_X8_269 k_t_yX8_isLaw k_n_X8 (by decide +kernel) rfl rfl ⟨Nat.le_of_ble_eq_true rfl, Nat.le_of_ble_eq_true rfl⟩ (Nat.le_of_ble_eq_true rfl) ⟨Nat.zero_le _, Nat.zero_le _⟩ dX8_image_1) hS (fun H locs hP hS hz8 => ?_)
  refine lv_if_ne (tgt := 10) X.1 X.2.1 dX8_image_4 (by decide) (fun hc9 => ?_) (fun hc9 => ?_)
  · have hres := m_if hres hc9
    refine lv_iconst (v := 0) X.1 X.2.1 dX8_image_10 (by decide) ?_
    refine lv_istore_n (lv' := [(2, .int 0), (0, .ref (m_ad G 172)), (1, .int x1)]) X.1 X.2.1 dX8_image_11 rfl hl (by decide) rfl (fun ls hl => ?_)
    exact B12 n 0 M _ _ _ hP hS (lv_sub hl [1, 2, 0] rfl) hres
  · have hres := m_it hres hc9
    refine lv_bipush (v := (-2)) X.1 X.2.1 dX8_image_7 (by decide) ?_
    exact m_ri X hr hlk hP hS (Prod.mk.inj (Option.some.inj hres)).1 (Prod.mk.inj (Option.some.inj hres)).2 dX8_image_9
theorem dX8_in_0 : decode cX8_in 0 = .ok (.aload_n 0, 1) := by decide +kernel
theorem dX8_in_1 : decode cX8_in 1 = .ok (.iload_n 1, 1) := by decide +kernel
theorem dX8_in_2 : decode cX8_in 2 = .ok (.invokevirtual 148, 3) := by decide +kernel
theorem dX8_in_5 : decode cX8_in 5 = .ok (.ifCond .eq 22, 3) := by decide +kernel
theorem dX8_in_8 : decode cX8_in 8 = .ok (.iload_n 2, 1) := by decide +kernel
theorem dX8_in_9 : decode cX8_in 9 = .ok (.i2l, 1) := by decide +kernel
theorem dX8_in_10 : decode cX8_in 10 = .ok (.lconst 0, 1) := by decide +kernel
theorem dX8_in_11 : decode cX8_in 11 = .ok (.ldc2_w 353, 3) := by decide +kernel
theorem dX8_in_14 : decode cX8_in 14 = .ok (.invokestatic 111, 3) := by decide +kernel
theorem dX8_in_17 : decode cX8_in 17 = .ok (.ifCond .eq 10, 3) := by decide +kernel
theorem dX8_in_20 : decode cX8_in 20 = .ok (.iload_n 3, 1) := by decide +kernel
theorem dX8_in_21 : decode cX8_in 21 = .ok (.invokestatic 347, 3) := by decide +kernel
theorem dX8_in_24 : decode cX8_in 24 = .ok (.ifCond .ne 6, 3) := by decide +kernel
theorem dX8_in_27 : decode cX8_in 27 = .ok (.bipush (-2), 2) := by decide +kernel
theorem dX8_in_29 : decode cX8_in 29 = .ok (.ireturn, 1) := by decide +kernel
theorem dX8_in_30 : decode cX8_in 30 = .ok (.aload_n 0, 1) := by decide +kernel
theorem dX8_in_31 : decode cX8_in 31 = .ok (.iload_n 3, 1) := by decide +kernel
theorem dX8_in_32 : decode cX8_in 32 = .ok (.invokevirtual 350, 3) := by decide +kernel
theorem dX8_in_35 : decode cX8_in 35 = .ok (.iload_n 2, 1) := by decide +kernel
theorem dX8_in_36 : decode cX8_in 36 = .ok (.iconst 4, 1) := by decide +kernel
theorem dX8_in_37 : decode cX8_in 37 = .ok (.if_icmp .ne 11, 3) := by decide +kernel
theorem dX8_in_40 : decode cX8_in 40 = .ok (.aload_n 0, 1) := by decide +kernel
theorem dX8_in_41 : decode cX8_in 41 = .ok (.iload_n 1, 1) := by decide +kernel
theorem dX8_in_42 : decode cX8_in 42 = .ok (.invokevirtual 326, 3) := by decide +kernel
theorem dX8_in_45 : decode cX8_in 45 = .ok (.goto 13, 3) := by decide +kernel
theorem dX8_in_48 : decode cX8_in 48 = .ok (.aload_n 0, 1) := by decide +kernel
theorem dX8_in_49 : decode cX8_in 49 = .ok (.getfield 39, 3) := by decide +kernel
theorem dX8_in_52 : decode cX8_in 52 = .ok (.iconst 4, 1) := by decide +kernel
theorem dX8_in_53 : decode cX8_in 53 = .ok (.iload_n 1, 1) := by decide +kernel
theorem dX8_in_54 : decode cX8_in 54 = .ok (.imul, 1) := by decide +kernel
theorem dX8_in_55 : decode cX8_in 55 = .ok (.iload_n 2, 1) := by decide +kernel
theorem dX8_in_56 : decode cX8_in 56 = .ok (.iadd, 1) := by decide +kernel
theorem dX8_in_57 : decode cX8_in 57 = .ok (.iaload, 1) := by decide +kernel
theorem dX8_in_58 : decode cX8_in 58 = .ok (.ireturn, 1) := by decide +kernel
def f_X8_in (n : Nat) (x1 : Int32) (x2 : Int32) (x3 : Int32) (M : m_M) : Option (Int32 × m_M) :=
  m_bd (f_X8_isPerson x1 M) fun r1 =>
  if r1 = 0 then
  some ((-2), M)
  else
  m_bd (f_X8_isIn x2.toInt64 0 4) fun r4 =>
  if r4 = 0 then
  some ((-2), M)
  else
  m_bd (f_X8_isDay x3) fun r7 =>
  if r7 = 0 then
  some ((-2), M)
  else
  m_ob (f_X8_layToday n x3 M) fun M10 =>
  if x2 = 4 then
  m_ob (f_X8_inAll x1 M10) fun r13 =>
  some (r13, M10)
  else
  m_gd (m_in (((4 : Int32) * x1) + x2) 40) (
  some ((M10.1 181 ((((4 : Int32) * x1) + x2).toNatClampNeg)), M10))
set_option maxHeartbeats 4000000 in
set_option maxRecDepth 100000 in
theorem c_X8_in (l : Launch) (G : m_G) {n : Nat} {x1 : Int32} {x2 : Int32} {x3 : Int32} {M : m_M} {r0 : Int32} {M0 : m_M}  (hres : f_X8_in n x1 x2 x3 M = some (r0, M0)) : Met l yX8_in (m_U yX8_in cX8_in 4 (some .int)) (m_R 8 182) (m_Pc G [.ref (m_ad G 172), .int x1, .int x2, .int x3] M) (m_Qi G r0 M0) 0 0 (m_A G) := by
  refine m_i0 (n := 4) RX8 rfl (by decide) (Nat.le_of_ble_eq_true rfl) ?_
  intro p e s m args below meth c X hr hlk hSt hP hS ls hl
  have hl : lv_has ls 4 [(0, .ref (m_ad G 172)), (1, .int x1), (2, .int x2), (3, .int x3)] := hl
  unfold f_X8_in at hres
  refine lv_aload_n X.1 X.2.1 dX8_in_0 rfl (lv_at hl 0 rfl) ?_
  refine lv_iload_n X.1 X.2.1 dX8_in_1 rfl (lv_at hl 1 rfl) ?_
  obtain ⟨r1, err1, hres⟩ := m_bd_e hres
  refine m_bz (m_cV (n := 1) (As := [.int x1]) (rest := []) X hSt hP hS hl.1 (c_X8_isPerson l G  err1) k_c_yX8_isPerson k_m_X8_148 k_i_yX8_isPerson k_s_yX8_isPerson k_n_X8 (by decide +kernel) (m_rc8 hSt hP m_z_172) rfl rfl ⟨Nat.le_of_ble_eq_true rfl, Nat.le_of_ble_eq_true rfl⟩ (Nat.le_of_ble_eq_true rfl) ⟨Nat.zero_le _, Nat.zero_le _⟩ dX8_in_2) hS (fun H locs hP hS hz2 => ?_)
  refine lv_if_eq (tgt := 27) X.1 X.2.1 dX8_in_5 (by decide) (fun hc3 => ?_) (fun hc3 => ?_)
  · have hres := m_it hres hc3
    refine lv_bipush (v := (-2)) X.1 X.2.1 dX8_in_27 (by decide) ?_
    exact m_ri X hr hlk hP hS (Prod.mk.inj (Option.some.inj hres)).1 (Prod.mk.inj (Option.some.inj hres)).2 dX8_in_29
  · have hres := m_if hres hc3
    refine lv_iload_n X.1 X.2.1 dX8_in_8 rfl (lv_at hl 2 rfl) ?_
    refine lv_i2l (v := x2.toInt64) X.1 X.2.1 dX8_in_9 rfl ?_
    refine lv_lconst (v := 0) X.1 X.2.1 dX8_in_10 (by decide) ?_
    refine lv_ldc2 (v := 4) X.1 X.2.1 X.2.2.2.1 (X.2.2.2.2 _ k_l_X8_353) dX8_in_11 ?_
    obtain ⟨r4, err4, hres⟩ := m_bd_e hres
    refine m_bz (m_cS (n := 3) (As := [.long x2.toInt64, .long 0, .long 4]) (rest := []) X hSt hP hS hl.1 (c_X8_isIn l G (M := M)  err4) k_c_yX8_isIn k_m_X8_111 k_t_yX8_isIn k_n_X8 (by decide +kernel) rfl rfl ⟨Nat.le_of_ble_eq_true rfl, Nat.le_of_ble_eq_true rfl⟩ (Nat.le_of_ble_eq_true rfl) ⟨Nat.zero_le _, Nat.zero_le _⟩ dX8_in_14) hS (fun H locs hP hS hz5 => ?_)
    refine lv_if_eq (tgt := 27) X.1 X.2.1 dX8_in_17 (by decide) (fun hc6 => ?_) (fun hc6 => ?_)
    · have hres := m_it hres hc6
      refine lv_bipush (v := (-2)) X.1 X.2.1 dX8_in_27 (by decide) ?_
      exact m_ri X hr hlk hP hS (Prod.mk.inj (Option.some.inj hres)).1 (Prod.mk.inj (Option.some.inj hres)).2 dX8_in_29
    · have hres := m_if hres hc6
      refine lv_iload_n X.1 X.2.1 dX8_in_20 rfl (lv_at hl 3 rfl) ?_
      obtain ⟨r7, err7, hres⟩ := m_bd_e hres
      refine m_bz (m_cS (n := 1) (As := [.int x3]) (rest := []) X hSt hP hS hl.1 (c_X8_isDay l G (M := M)  err7) k_c_yX8_isDay k_m_X8_347 k_t_yX8_isDay k_n_X8 (by decide +kernel) rfl rfl ⟨Nat.le_of_ble_eq_true rfl, Nat.le_of_ble_eq_true rfl⟩ (Nat.le_of_ble_eq_true rfl) ⟨Nat.zero_le _, Nat.zero_le _⟩ dX8_in_21) hS (fun H locs hP hS hz8 => ?_)
      refine lv_if_ne (tgt := 30) X.1 X.2.1 dX8_in_24 (by decide) (fun hc9 => ?_) (fun hc9 => ?_)
      · have hres := m_if hres hc9
        refine lv_aload_n X.1 X.2.1 dX8_in_30 rfl (lv_at hl 0 rfl) ?_
        refine lv_iload_n X.1 X.2.1 dX8_in_31 rfl (lv_at hl 3 rfl) ?_
        obtain ⟨M10, eM10, hres⟩ := m_ob_e hres
        refine m_bv (m_cV (n := 1) (As := [.int x3]) (rest := []) X hSt hP hS hl.1 (c_X8_layToday l G  eM10) k_c_yX8_layToday k_m_X8_350 k_i_yX8_layToday k_s_yX8_layToday k_n_X8 (by decide +kernel) (m_rc8 hSt hP m_z_172) rfl rfl ⟨Nat.le_of_ble_eq_true rfl, Nat.le_of_ble_eq_true rfl⟩ (Nat.le_of_ble_eq_true rfl) ⟨Nat.zero_le _, Nat.zero_le _⟩ dX8_in_32) hS (fun H locs hP hS => ?_)
        refine lv_iload_n X.1 X.2.1 dX8_in_35 rfl (lv_at hl 2 rfl) ?_
        refine lv_iconst (v := 4) X.1 X.2.1 dX8_in_36 (by decide) ?_
        refine lv_icmp_ne (tgt := 48) X.1 X.2.1 dX8_in_37 (by decide) (fun hc11 => ?_) (fun hc11 => ?_)
        · have hres := m_if hres hc11
          refine lv_aload_n X.1 X.2.1 dX8_in_48 rfl (lv_at hl 0 rfl) ?_
          refine m_g8 (v := .ref (m_ad G 181)) X hSt hP m_z_172 11 (by decide) rfl k_f_X8_39 dX8_in_49 ?_
          refine lv_iconst (v := 4) X.1 X.2.1 dX8_in_52 (by decide) ?_
          refine lv_iload_n X.1 X.2.1 dX8_in_53 rfl (lv_at hl 1 rfl) ?_
          refine lv_imul X.1 X.2.1 dX8_in_54 ?_
          refine lv_iload_n X.1 X.2.1 dX8_in_55 rfl (lv_at hl 2 rfl) ?_
          refine lv_iadd X.1 X.2.1 dX8_in_56 ?_
          obtain ⟨hg12, hres⟩ := m_gd_e hres
          refine m_ia (j := ((((4 : Int32) * x1) + x2).toNatClampNeg)) X hSt hP m_z_181 hg12 rfl dX8_in_57 ?_
          exact m_ri X hr hlk hP hS (Prod.mk.inj (Option.some.inj hres)).1 (Prod.mk.inj (Option.some.inj hres)).2 dX8_in_58
        · have hres := m_it hres hc11
          refine lv_aload_n X.1 X.2.1 dX8_in_40 rfl (lv_at hl 0 rfl) ?_
          refine lv_iload_n X.1 X.2.1 dX8_in_41 rfl (lv_at hl 1 rfl) ?_
          obtain ⟨r13, err13, hres⟩ := m_ob_e hres
          refine m_bi (m_cV (n := 1) (As := [.int x1]) (rest := []) X hSt hP hS hl.1 (c_X8_inAll l G  err13) k_c_yX8_inAll k_m_X8_326 k_i_yX8_inAll k_s_yX8_inAll k_n_X8 (by decide +kernel) (m_rc8 hSt hP m_z_172) rfl rfl ⟨Nat.le_of_ble_eq_true rfl, Nat.le_of_ble_eq_true rfl⟩ (Nat.le_of_ble_eq_true rfl) ⟨Nat.zero_le _, Nat.zero_le _⟩ dX8_in_42) hS (fun H locs hP hS => ?_)
          refine lv_goto (tgt := 58) X.1 X.2.1 dX8_in_45 (by decide) ?_
          exact m_ri X hr hlk hP hS (Prod.mk.inj (Option.some.inj hres)).1 (Prod.mk.inj (Option.some.inj hres)).2 dX8_in_58
      · have hres := m_it hres hc9
        refine lv_bipush (v := (-2)) X.1 X.2.1 dX8_in_27 (by decide) ?_
        exact m_ri X hr hlk hP hS (Prod.mk.inj (Option.some.inj hres)).1 (Prod.mk.inj (Option.some.inj hres)).2 dX8_in_29
theorem dX8_isPlace_0 : decode cX8_isPlace 0 = .ok (.iload_n 1, 1) := by decide +kernel
theorem dX8_isPlace_1 : decode cX8_isPlace 1 = .ok (.i2l, 1) := by decide +kernel
theorem dX8_isPlace_2 : decode cX8_isPlace 2 = .ok (.lconst 0, 1) := by decide +kernel
theorem dX8_isPlace_3 : decode cX8_isPlace 3 = .ok (.aload_n 0, 1) := by decide +kernel
theorem dX8_isPlace_4 : decode cX8_isPlace 4 = .ok (.invokevirtual 400, 3) := by decide +kernel
theorem dX8_isPlace_7 : decode cX8_isPlace 7 = .ok (.iconst 1, 1) := by decide +kernel
theorem dX8_isPlace_8 : decode cX8_isPlace 8 = .ok (.isub, 1) := by decide +kernel
theorem dX8_isPlace_9 : decode cX8_isPlace 9 = .ok (.i2l, 1) := by decide +kernel
theorem dX8_isPlace_10 : decode cX8_isPlace 10 = .ok (.invokestatic 111, 3) := by decide +kernel
theorem dX8_isPlace_13 : decode cX8_isPlace 13 = .ok (.ireturn, 1) := by decide +kernel
def f_X8_isPlace (x1 : Int32) (M : m_M) : Int32 :=
  m_bd (f_X8_lined M) fun r1 =>
  m_bd (f_X8_isIn x1.toInt64 0 ((r1 - (1 : Int32)).toInt64)) fun r2 =>
  r2
set_option maxHeartbeats 4000000 in
set_option maxRecDepth 100000 in
theorem c_X8_isPlace (l : Launch) (G : m_G) {x1 : Int32} {M : m_M} {r0 : Int32}  (hres : f_X8_isPlace x1 M = r0) : Met l yX8_isPlace (m_U yX8_isPlace cX8_isPlace 2 (some .boolean)) (m_R 1 25) (m_Pc G [.ref (m_ad G 172), .int x1] M) (m_Qz G r0 M) 0 0 (m_A G) := by
  refine m_i0 (n := 2) RX8 rfl (by decide) (Nat.le_of_ble_eq_true rfl) ?_
  intro p e s m args below meth c X hr hlk hSt hP hS ls hl
  have hl : lv_has ls 2 [(0, .ref (m_ad G 172)), (1, .int x1)] := hl
  unfold f_X8_isPlace at hres
  refine lv_iload_n X.1 X.2.1 dX8_isPlace_0 rfl (lv_at hl 1 rfl) ?_
  refine lv_i2l (v := x1.toInt64) X.1 X.2.1 dX8_isPlace_1 rfl ?_
  refine lv_lconst (v := 0) X.1 X.2.1 dX8_isPlace_2 (by decide) ?_
  refine lv_aload_n X.1 X.2.1 dX8_isPlace_3 rfl (lv_at hl 0 rfl) ?_
  obtain ⟨r1, err1, hres⟩ := m_bd_e hres
  refine m_bi (m_cV (n := 0) (As := []) (rest := [.long 0, .long x1.toInt64]) X hSt hP hS hl.1 (c_X8_lined l G  err1) k_c_yX8_lined k_m_X8_400 k_i_yX8_lined k_s_yX8_lined k_n_X8 (by decide +kernel) (m_rc8 hSt hP m_z_172) rfl rfl ⟨Nat.le_of_ble_eq_true rfl, Nat.le_of_ble_eq_true rfl⟩ (Nat.le_of_ble_eq_true rfl) ⟨Nat.zero_le _, Nat.zero_le _⟩ dX8_isPlace_4) hS (fun H locs hP hS => ?_)
  refine lv_iconst (v := 1) X.1 X.2.1 dX8_isPlace_7 (by decide) ?_
  refine lv_isub X.1 X.2.1 dX8_isPlace_8 ?_
  refine lv_i2l (v := (r1 - (1 : Int32)).toInt64) X.1 X.2.1 dX8_isPlace_9 rfl ?_
  obtain ⟨r2, err2, hres⟩ := m_bd_e hres
  refine m_bz (m_cS (n := 3) (As := [.long x1.toInt64, .long 0, .long ((r1 - (1 : Int32)).toInt64)]) (rest := []) X hSt hP hS hl.1 (c_X8_isIn l G (M := M)  err2) k_c_yX8_isIn k_m_X8_111 k_t_yX8_isIn k_n_X8 (by decide +kernel) rfl rfl ⟨Nat.le_of_ble_eq_true rfl, Nat.le_of_ble_eq_true rfl⟩ (Nat.le_of_ble_eq_true rfl) ⟨Nat.zero_le _, Nat.zero_le _⟩ dX8_isPlace_10) hS (fun H locs hP hS hz3 => ?_)
  exact m_rz X hr hlk hP hS hres rfl hz3 dX8_isPlace_13
theorem dX8_mayShare_0 : decode cX8_mayShare 0 = .ok (.aload_n 0, 1) := by decide +kernel
theorem dX8_mayShare_1 : decode cX8_mayShare 1 = .ok (.aload_n 0, 1) := by decide +kernel
theorem dX8_mayShare_2 : decode cX8_mayShare 2 = .ok (.getfield 7, 3) := by decide +kernel
theorem dX8_mayShare_5 : decode cX8_mayShare 5 = .ok (.sipush 462, 3) := by decide +kernel
theorem dX8_mayShare_8 : decode cX8_mayShare 8 = .ok (.iload_n 1, 1) := by decide +kernel
theorem dX8_mayShare_9 : decode cX8_mayShare 9 = .ok (.iadd, 1) := by decide +kernel
theorem dX8_mayShare_10 : decode cX8_mayShare 10 = .ok (.iaload, 1) := by decide +kernel
theorem dX8_mayShare_11 : decode cX8_mayShare 11 = .ok (.invokevirtual 403, 3) := by decide +kernel
theorem dX8_mayShare_14 : decode cX8_mayShare 14 = .ok (.ifCond .eq 25, 3) := by decide +kernel
theorem dX8_mayShare_17 : decode cX8_mayShare 17 = .ok (.aload_n 0, 1) := by decide +kernel
theorem dX8_mayShare_18 : decode cX8_mayShare 18 = .ok (.getfield 69, 3) := by decide +kernel
theorem dX8_mayShare_21 : decode cX8_mayShare 21 = .ok (.aload_n 0, 1) := by decide +kernel
theorem dX8_mayShare_22 : decode cX8_mayShare 22 = .ok (.getfield 7, 3) := by decide +kernel
theorem dX8_mayShare_25 : decode cX8_mayShare 25 = .ok (.sipush 462, 3) := by decide +kernel
theorem dX8_mayShare_28 : decode cX8_mayShare 28 = .ok (.iload_n 1, 1) := by decide +kernel
theorem dX8_mayShare_29 : decode cX8_mayShare 29 = .ok (.iadd, 1) := by decide +kernel
theorem dX8_mayShare_30 : decode cX8_mayShare 30 = .ok (.iaload, 1) := by decide +kernel
theorem dX8_mayShare_31 : decode cX8_mayShare 31 = .ok (.baload, 1) := by decide +kernel
theorem dX8_mayShare_32 : decode cX8_mayShare 32 = .ok (.ifCond .eq 7, 3) := by decide +kernel
theorem dX8_mayShare_35 : decode cX8_mayShare 35 = .ok (.iconst 1, 1) := by decide +kernel
theorem dX8_mayShare_36 : decode cX8_mayShare 36 = .ok (.goto 4, 3) := by decide +kernel
theorem dX8_mayShare_39 : decode cX8_mayShare 39 = .ok (.iconst 0, 1) := by decide +kernel
theorem dX8_mayShare_40 : decode cX8_mayShare 40 = .ok (.ireturn, 1) := by decide +kernel
def f_X8_mayShare (x1 : Int32) (M : m_M) : Option Int32 :=
  m_gd (m_in ((462 : Int32) + x1) 471) (
  m_ob (f_X8_isLaid (M.1 173 (((462 : Int32) + x1).toNatClampNeg)) M) fun r2 =>
  if r2 = 0 then
  some 0
  else
  m_gd (m_in (M.1 173 (((462 : Int32) + x1).toNatClampNeg)) 60) (
  if (M.1 191 ((M.1 173 (((462 : Int32) + x1).toNatClampNeg)).toNatClampNeg)) = 0 then
  some 0
  else
  some 1))
set_option maxHeartbeats 4000000 in
set_option maxRecDepth 100000 in
theorem c_X8_mayShare (l : Launch) (G : m_G) {x1 : Int32} {M : m_M} {r0 : Int32}  (hres : f_X8_mayShare x1 M = some r0) : Met l yX8_mayShare (m_U yX8_mayShare cX8_mayShare 2 (some .boolean)) (m_R 2 43) (m_Pc G [.ref (m_ad G 172), .int x1] M) (m_Qz G r0 M) 0 0 (m_A G) := by
  refine m_i0 (n := 2) RX8 rfl (by decide) (Nat.le_of_ble_eq_true rfl) ?_
  intro p e s m args below meth c X hr hlk hSt hP hS ls hl
  have hl : lv_has ls 2 [(0, .ref (m_ad G 172)), (1, .int x1)] := hl
  unfold f_X8_mayShare at hres
  refine lv_aload_n X.1 X.2.1 dX8_mayShare_0 rfl (lv_at hl 0 rfl) ?_
  refine lv_aload_n X.1 X.2.1 dX8_mayShare_1 rfl (lv_at hl 0 rfl) ?_
  refine m_g8 (v := .ref (m_ad G 173)) X hSt hP m_z_172 0 (by decide) rfl k_f_X8_7 dX8_mayShare_2 ?_
  refine lv_sipush (v := 462) X.1 X.2.1 dX8_mayShare_5 (by decide) ?_
  refine lv_iload_n X.1 X.2.1 dX8_mayShare_8 rfl (lv_at hl 1 rfl) ?_
  refine lv_iadd X.1 X.2.1 dX8_mayShare_9 ?_
  obtain ⟨hg1, hres⟩ := m_gd_e hres
  refine m_ia (j := (((462 : Int32) + x1).toNatClampNeg)) X hSt hP m_z_173 hg1 rfl dX8_mayShare_10 ?_
  obtain ⟨r2, err2, hres⟩ := m_ob_e hres
  refine m_bz (m_cV (n := 1) (As := [.int (M.1 173 (((462 : Int32) + x1).toNatClampNeg))]) (rest := []) X hSt hP hS hl.1 (c_X8_isLaid l G  err2) k_c_yX8_isLaid k_m_X8_403 k_i_yX8_isLaid k_s_yX8_isLaid k_n_X8 (by decide +kernel) (m_rc8 hSt hP m_z_172) rfl rfl ⟨Nat.le_of_ble_eq_true rfl, Nat.le_of_ble_eq_true rfl⟩ (Nat.le_of_ble_eq_true rfl) ⟨Nat.zero_le _, Nat.zero_le _⟩ dX8_mayShare_11) hS (fun H locs hP hS hz3 => ?_)
  refine lv_if_eq (tgt := 39) X.1 X.2.1 dX8_mayShare_14 (by decide) (fun hc4 => ?_) (fun hc4 => ?_)
  · have hres := m_it hres hc4
    refine lv_iconst (v := 0) X.1 X.2.1 dX8_mayShare_39 (by decide) ?_
    exact m_rz X hr hlk hP hS (Option.some.inj hres) rfl (by decide) dX8_mayShare_40
  · have hres := m_if hres hc4
    refine lv_aload_n X.1 X.2.1 dX8_mayShare_17 rfl (lv_at hl 0 rfl) ?_
    refine m_g8 (v := .ref (m_ad G 191)) X hSt hP m_z_172 21 (by decide) rfl k_f_X8_69 dX8_mayShare_18 ?_
    refine lv_aload_n X.1 X.2.1 dX8_mayShare_21 rfl (lv_at hl 0 rfl) ?_
    refine m_g8 (v := .ref (m_ad G 173)) X hSt hP m_z_172 0 (by decide) rfl k_f_X8_7 dX8_mayShare_22 ?_
    refine lv_sipush (v := 462) X.1 X.2.1 dX8_mayShare_25 (by decide) ?_
    refine lv_iload_n X.1 X.2.1 dX8_mayShare_28 rfl (lv_at hl 1 rfl) ?_
    refine lv_iadd X.1 X.2.1 dX8_mayShare_29 ?_
    refine m_ia (j := (((462 : Int32) + x1).toNatClampNeg)) X hSt hP m_z_173 hg1 rfl dX8_mayShare_30 ?_
    obtain ⟨hg5, hres⟩ := m_gd_e hres
    refine m_za (j := ((M.1 173 (((462 : Int32) + x1).toNatClampNeg)).toNatClampNeg)) X hSt hP m_z_191 hg5 rfl dX8_mayShare_31 ?_
    refine lv_if_eq (tgt := 39) X.1 X.2.1 dX8_mayShare_32 (by decide) (fun hc6 => ?_) (fun hc6 => ?_)
    · have hres := m_it hres hc6
      refine lv_iconst (v := 0) X.1 X.2.1 dX8_mayShare_39 (by decide) ?_
      exact m_rz X hr hlk hP hS (Option.some.inj hres) rfl (by decide) dX8_mayShare_40
    · have hres := m_if hres hc6
      refine lv_iconst (v := 1) X.1 X.2.1 dX8_mayShare_35 (by decide) ?_
      refine lv_goto (tgt := 40) X.1 X.2.1 dX8_mayShare_36 (by decide) ?_
      exact m_rz X hr hlk hP hS (Option.some.inj hres) rfl (by decide) dX8_mayShare_40
theorem dX8_isRest_0 : decode cX8_isRest 0 = .ok (.iconst 0, 1) := by decide +kernel
theorem dX8_isRest_1 : decode cX8_isRest 1 = .ok (.istore_n 2, 1) := by decide +kernel
theorem dX8_isRest_2 : decode cX8_isRest 2 = .ok (.iload_n 2, 1) := by decide +kernel
theorem dX8_isRest_3 : decode cX8_isRest 3 = .ok (.aload_n 0, 1) := by decide +kernel
theorem dX8_isRest_4 : decode cX8_isRest 4 = .ok (.invokevirtual 400, 3) := by decide +kernel
theorem dX8_isRest_7 : decode cX8_isRest 7 = .ok (.if_icmp .ge 28, 3) := by decide +kernel
theorem dX8_isRest_10 : decode cX8_isRest 10 = .ok (.iload_n 1, 1) := by decide +kernel
theorem dX8_isRest_11 : decode cX8_isRest 11 = .ok (.iload_n 2, 1) := by decide +kernel
theorem dX8_isRest_12 : decode cX8_isRest 12 = .ok (.ishr, 1) := by decide +kernel
theorem dX8_isRest_13 : decode cX8_isRest 13 = .ok (.iconst 1, 1) := by decide +kernel
theorem dX8_isRest_14 : decode cX8_isRest 14 = .ok (.iand, 1) := by decide +kernel
theorem dX8_isRest_15 : decode cX8_isRest 15 = .ok (.iconst 1, 1) := by decide +kernel
theorem dX8_isRest_16 : decode cX8_isRest 16 = .ok (.if_icmp .ne 13, 3) := by decide +kernel
theorem dX8_isRest_19 : decode cX8_isRest 19 = .ok (.aload_n 0, 1) := by decide +kernel
theorem dX8_isRest_20 : decode cX8_isRest 20 = .ok (.iload_n 2, 1) := by decide +kernel
theorem dX8_isRest_21 : decode cX8_isRest 21 = .ok (.invokevirtual 424, 3) := by decide +kernel
theorem dX8_isRest_24 : decode cX8_isRest 24 = .ok (.ifCond .ne 5, 3) := by decide +kernel
theorem dX8_isRest_27 : decode cX8_isRest 27 = .ok (.iconst 0, 1) := by decide +kernel
theorem dX8_isRest_28 : decode cX8_isRest 28 = .ok (.ireturn, 1) := by decide +kernel
theorem dX8_isRest_29 : decode cX8_isRest 29 = .ok (.iinc 2 1, 3) := by decide +kernel
theorem dX8_isRest_32 : decode cX8_isRest 32 = .ok (.goto (-30), 3) := by decide +kernel
theorem dX8_isRest_35 : decode cX8_isRest 35 = .ok (.iconst 0, 1) := by decide +kernel
theorem dX8_isRest_36 : decode cX8_isRest 36 = .ok (.istore_n 2, 1) := by decide +kernel
theorem dX8_isRest_37 : decode cX8_isRest 37 = .ok (.iload_n 2, 1) := by decide +kernel
theorem dX8_isRest_38 : decode cX8_isRest 38 = .ok (.aload_n 0, 1) := by decide +kernel
theorem dX8_isRest_39 : decode cX8_isRest 39 = .ok (.invokevirtual 400, 3) := by decide +kernel
theorem dX8_isRest_42 : decode cX8_isRest 42 = .ok (.if_icmp .ge 63, 3) := by decide +kernel
theorem dX8_isRest_45 : decode cX8_isRest 45 = .ok (.aload_n 0, 1) := by decide +kernel
theorem dX8_isRest_46 : decode cX8_isRest 46 = .ok (.iload_n 2, 1) := by decide +kernel
theorem dX8_isRest_47 : decode cX8_isRest 47 = .ok (.invokevirtual 424, 3) := by decide +kernel
theorem dX8_isRest_50 : decode cX8_isRest 50 = .ok (.ifCond .eq 49, 3) := by decide +kernel
theorem dX8_isRest_53 : decode cX8_isRest 53 = .ok (.aload_n 0, 1) := by decide +kernel
theorem dX8_isRest_54 : decode cX8_isRest 54 = .ok (.iload_n 2, 1) := by decide +kernel
theorem dX8_isRest_55 : decode cX8_isRest 55 = .ok (.iload_n 1, 1) := by decide +kernel
theorem dX8_isRest_56 : decode cX8_isRest 56 = .ok (.invokevirtual 427, 3) := by decide +kernel
theorem dX8_isRest_59 : decode cX8_isRest 59 = .ok (.aload_n 0, 1) := by decide +kernel
theorem dX8_isRest_60 : decode cX8_isRest 60 = .ok (.getfield 367, 3) := by decide +kernel
theorem dX8_isRest_63 : decode cX8_isRest 63 = .ok (.lstore_n 3, 1) := by decide +kernel
theorem dX8_isRest_64 : decode cX8_isRest 64 = .ok (.aload_n 0, 1) := by decide +kernel
theorem dX8_isRest_65 : decode cX8_isRest 65 = .ok (.getfield 370, 3) := by decide +kernel
theorem dX8_isRest_68 : decode cX8_isRest 68 = .ok (.lstore 5, 2) := by decide +kernel
theorem dX8_isRest_70 : decode cX8_isRest 70 = .ok (.aload_n 0, 1) := by decide +kernel
theorem dX8_isRest_71 : decode cX8_isRest 71 = .ok (.iload_n 2, 1) := by decide +kernel
theorem dX8_isRest_72 : decode cX8_isRest 72 = .ok (.iload_n 1, 1) := by decide +kernel
theorem dX8_isRest_73 : decode cX8_isRest 73 = .ok (.iconst 1, 1) := by decide +kernel
theorem dX8_isRest_74 : decode cX8_isRest 74 = .ok (.iload_n 2, 1) := by decide +kernel
theorem dX8_isRest_75 : decode cX8_isRest 75 = .ok (.ishl, 1) := by decide +kernel
theorem dX8_isRest_76 : decode cX8_isRest 76 = .ok (.ixor, 1) := by decide +kernel
theorem dX8_isRest_77 : decode cX8_isRest 77 = .ok (.invokevirtual 427, 3) := by decide +kernel
theorem dX8_isRest_80 : decode cX8_isRest 80 = .ok (.aload_n 0, 1) := by decide +kernel
theorem dX8_isRest_81 : decode cX8_isRest 81 = .ok (.getfield 367, 3) := by decide +kernel
theorem dX8_isRest_84 : decode cX8_isRest 84 = .ok (.lload 5, 2) := by decide +kernel
theorem dX8_isRest_86 : decode cX8_isRest 86 = .ok (.lmul, 1) := by decide +kernel
theorem dX8_isRest_87 : decode cX8_isRest 87 = .ok (.lload_n 3, 1) := by decide +kernel
theorem dX8_isRest_88 : decode cX8_isRest 88 = .ok (.aload_n 0, 1) := by decide +kernel
theorem dX8_isRest_89 : decode cX8_isRest 89 = .ok (.getfield 370, 3) := by decide +kernel
theorem dX8_isRest_92 : decode cX8_isRest 92 = .ok (.lmul, 1) := by decide +kernel
theorem dX8_isRest_93 : decode cX8_isRest 93 = .ok (.lcmp, 1) := by decide +kernel
theorem dX8_isRest_94 : decode cX8_isRest 94 = .ok (.ifCond .le 5, 3) := by decide +kernel
theorem dX8_isRest_97 : decode cX8_isRest 97 = .ok (.iconst 0, 1) := by decide +kernel
theorem dX8_isRest_98 : decode cX8_isRest 98 = .ok (.ireturn, 1) := by decide +kernel
theorem dX8_isRest_99 : decode cX8_isRest 99 = .ok (.iinc 2 1, 3) := by decide +kernel
theorem dX8_isRest_102 : decode cX8_isRest 102 = .ok (.goto (-65), 3) := by decide +kernel
theorem dX8_isRest_105 : decode cX8_isRest 105 = .ok (.iconst 1, 1) := by decide +kernel
theorem dX8_isRest_106 : decode cX8_isRest 106 = .ok (.ireturn, 1) := by decide +kernel
def f_X8_isRest_b37 (n : Nat) (x1 : Int32) : Nat → Int32 → m_M → Option (Int32 × m_M)
  | 0, _, _ => none
  | u + 1, x2, M =>
    m_bd (f_X8_lined M) fun r1 =>
  if r1 ≤ x2 then
  some (1, M)
  else
  m_ob (f_X8_mayShare x2 M) fun r3 =>
  if r3 = 0 then
  f_X8_isRest_b37 n x1 u (x2 + 1) M
  else
  m_ob (f_X8_getsBy n x2 x1 M) fun M6 =>
  m_ob (f_X8_getsBy n x2 (x1 ^^^ ((1 : Int32) <<< (x2 &&& 31))) M6) fun M7 =>
  if ((M7.2 172 46) * (M6.2 172 47)) ≤ ((M6.2 172 46) * (M7.2 172 47)) then
  f_X8_isRest_b37 n x1 u (x2 + 1) M7
  else
  some (0, M7)
def f_X8_isRest_b2 (n : Nat) (x1 : Int32) : Nat → Int32 → m_M → Option (Int32 × m_M)
  | 0, _, _ => none
  | u + 1, x2, M =>
    m_bd (f_X8_lined M) fun r9 =>
  if r9 ≤ x2 then
  f_X8_isRest_b37 n x1 n 0 M
  else
  if ((x1 >>> (x2 &&& 31)) &&& (1 : Int32)) = 1 then
  m_ob (f_X8_mayShare x2 M) fun r12 =>
  if r12 = 0 then
  some (0, M)
  else
  f_X8_isRest_b2 n x1 u (x2 + 1) M
  else
  f_X8_isRest_b2 n x1 u (x2 + 1) M
def f_X8_isRest (n : Nat) (x1 : Int32) (M : m_M) : Option (Int32 × m_M) :=
  f_X8_isRest_b2 n x1 n 0 M
set_option maxHeartbeats 4000000 in
set_option maxRecDepth 100000 in
theorem c_X8_isRest (l : Launch) (G : m_G) {n : Nat} {x1 : Int32} {M : m_M} {r0 : Int32} {M0 : m_M}  (hres : f_X8_isRest n x1 M = some (r0, M0)) : Met l yX8_isRest (m_U yX8_isRest cX8_isRest 7 (some .boolean)) (m_R 5 122) (m_Pc G [.ref (m_ad G 172), .int x1] M) (m_Qz G r0 M0) 0 0 (m_A G) := by
  refine m_i0 (n := 7) RX8 rfl (by decide) (Nat.le_of_ble_eq_true rfl) ?_
  intro p e s m args below meth c X hr hlk hSt hP hS ls hl
  have hl : lv_has ls 7 [(0, .ref (m_ad G 172)), (1, .int x1)] := hl
  have B37 : ∀ (u : Nat) (x2 : Int32) (M : m_M) (H : Heap) (locs : List Loc) (ls : Array Slot), m_P G M H → va_S (m_A G) s.heap H locs → lv_has ls 7 [(0, .ref (m_ad G 172)), (1, .int x1), (2, .int x2)] → f_X8_isRest_b37 n x1 u x2 M = some (r0, M0) → W p l e (m_R 5 122) s m args below meth c H locs 0 0 (MQ below (m_Qz G r0 M0) args s 0 0 (m_A G)) (F0 m 37 ls []) := by
    intro u
    induction u with
    | zero =>
      intro x2 M H locs ls hP hS hl hres
      cases hres
    | succ u ih =>
      intro x2 M H locs ls hP hS hl hres
      rw [f_X8_isRest_b37] at hres
      refine lv_iload_n X.1 X.2.1 dX8_isRest_37 rfl (lv_at hl 2 rfl) ?_
      refine lv_aload_n X.1 X.2.1 dX8_isRest_38 rfl (lv_at hl 0 rfl) ?_
      obtain ⟨r1, err1, hres⟩ := m_bd_e hres
      refine m_bi (m_cV (n := 0) (As := []) (rest := [.int x2]) X hSt hP hS hl.1 (c_X8_lined l G  err1) k_c_yX8_lined k_m_X8_400 k_i_yX8_lined k_s_yX8_lined k_n_X8 (by decide +kernel) (m_rc8 hSt hP m_z_172) rfl rfl ⟨Nat.le_of_ble_eq_true rfl, Nat.le_of_ble_eq_true rfl⟩ (Nat.le_of_ble_eq_true rfl) ⟨Nat.zero_le _, Nat.zero_le _⟩ dX8_isRest_39) hS (fun H locs hP hS => ?_)
      refine lv_icmp_ge (tgt := 105) X.1 X.2.1 dX8_isRest_42 (by decide) (fun hc2 => ?_) (fun hc2 => ?_)
      · have hres := m_it hres hc2
        refine lv_iconst (v := 1) X.1 X.2.1 dX8_isRest_105 (by decide) ?_
        exact m_rz X hr hlk hP hS (Prod.mk.inj (Option.some.inj hres)).1 (Prod.mk.inj (Option.some.inj hres)).2 (by decide) dX8_isRest_106
      · have hres := m_if hres hc2
        refine lv_aload_n X.1 X.2.1 dX8_isRest_45 rfl (lv_at hl 0 rfl) ?_
        refine lv_iload_n X.1 X.2.1 dX8_isRest_46 rfl (lv_at hl 2 rfl) ?_
        obtain ⟨r3, err3, hres⟩ := m_ob_e hres
        refine m_bz (m_cV (n := 1) (As := [.int x2]) (rest := []) X hSt hP hS hl.1 (c_X8_mayShare l G  err3) k_c_yX8_mayShare k_m_X8_424 k_i_yX8_mayShare k_s_yX8_mayShare k_n_X8 (by decide +kernel) (m_rc8 hSt hP m_z_172) rfl rfl ⟨Nat.le_of_ble_eq_true rfl, Nat.le_of_ble_eq_true rfl⟩ (Nat.le_of_ble_eq_true rfl) ⟨Nat.zero_le _, Nat.zero_le _⟩ dX8_isRest_47) hS (fun H locs hP hS hz4 => ?_)
        refine lv_if_eq (tgt := 99) X.1 X.2.1 dX8_isRest_50 (by decide) (fun hc5 => ?_) (fun hc5 => ?_)
        · have hres := m_it hres hc5
          refine lv_iinc (v := (x2 + 1)) (lv' := [(2, .int (x2 + 1)), (0, .ref (m_ad G 172)), (1, .int x1)]) X.1 X.2.1 dX8_isRest_99 hl (k := 2) rfl rfl (by decide) rfl (fun ls hl => ?_)
          refine lv_goto (tgt := 37) X.1 X.2.1 dX8_isRest_102 (by decide) ?_
          exact ih (x2 + 1) M _ _ _ hP hS (lv_sub hl [1, 2, 0] rfl) hres
        · have hres := m_if hres hc5
          refine lv_aload_n X.1 X.2.1 dX8_isRest_53 rfl (lv_at hl 0 rfl) ?_
          refine lv_iload_n X.1 X.2.1 dX8_isRest_54 rfl (lv_at hl 2 rfl) ?_
          refine lv_iload_n X.1 X.2.1 dX8_isRest_55 rfl (lv_at hl 1 rfl) ?_
          obtain ⟨M6, eM6, hres⟩ := m_ob_e hres
          refine m_bv (m_cV (n := 2) (As := [.int x2, .int x1]) (rest := []) X hSt hP hS hl.1 (c_X8_getsBy l G  eM6) k_c_yX8_getsBy k_m_X8_427 k_i_yX8_getsBy k_s_yX8_getsBy k_n_X8 (by decide +kernel) (m_rc8 hSt hP m_z_172) rfl rfl ⟨Nat.le_of_ble_eq_true rfl, Nat.le_of_ble_eq_true rfl⟩ (Nat.le_of_ble_eq_true rfl) ⟨Nat.zero_le _, Nat.zero_le _⟩ dX8_isRest_56) hS (fun H locs hP hS => ?_)
          refine lv_aload_n X.1 X.2.1 dX8_isRest_59 rfl (lv_at hl 0 rfl) ?_
          refine m_g8 (v := .long (M6.2 172 46)) X hSt hP m_z_172 46 (by decide) rfl k_f_X8_367 dX8_isRest_60 ?_
          refine lv_lstore_n (lv' := [(3, .long (M6.2 172 46)), (0, .ref (m_ad G 172)), (1, .int x1), (2, .int x2)]) X.1 X.2.1 dX8_isRest_63 rfl hl (by decide) rfl (fun ls hl => ?_)
          refine lv_aload_n X.1 X.2.1 dX8_isRest_64 rfl (lv_at hl 1 rfl) ?_
          refine m_g8 (v := .long (M6.2 172 47)) X hSt hP m_z_172 47 (by decide) rfl k_f_X8_370 dX8_isRest_65 ?_
          refine lv_lstore (lv' := [(5, .long (M6.2 172 47)), (3, .long (M6.2 172 46)), (0, .ref (m_ad G 172)), (1, .int x1), (2, .int x2)]) X.1 X.2.1 dX8_isRest_68 hl (by decide) rfl (fun ls hl => ?_)
          refine lv_aload_n X.1 X.2.1 dX8_isRest_70 rfl (lv_at hl 2 rfl) ?_
          refine lv_iload_n X.1 X.2.1 dX8_isRest_71 rfl (lv_at hl 4 rfl) ?_
          refine lv_iload_n X.1 X.2.1 dX8_isRest_72 rfl (lv_at hl 3 rfl) ?_
          refine lv_iconst (v := 1) X.1 X.2.1 dX8_isRest_73 (by decide) ?_
          refine lv_iload_n X.1 X.2.1 dX8_isRest_74 rfl (lv_at hl 4 rfl) ?_
          refine lv_ishl X.1 X.2.1 dX8_isRest_75 ?_
          refine lv_ixor X.1 X.2.1 dX8_isRest_76 ?_
          obtain ⟨M7, eM7, hres⟩ := m_ob_e hres
          refine m_bv (m_cV (n := 2) (As := [.int x2, .int (x1 ^^^ ((1 : Int32) <<< (x2 &&& 31)))]) (rest := []) X hSt hP hS hl.1 (c_X8_getsBy l G  eM7) k_c_yX8_getsBy k_m_X8_427 k_i_yX8_getsBy k_s_yX8_getsBy k_n_X8 (by decide +kernel) (m_rc8 hSt hP m_z_172) rfl rfl ⟨Nat.le_of_ble_eq_true rfl, Nat.le_of_ble_eq_true rfl⟩ (Nat.le_of_ble_eq_true rfl) ⟨Nat.zero_le _, Nat.zero_le _⟩ dX8_isRest_77) hS (fun H locs hP hS => ?_)
          refine lv_aload_n X.1 X.2.1 dX8_isRest_80 rfl (lv_at hl 2 rfl) ?_
          refine m_g8 (v := .long (M7.2 172 46)) X hSt hP m_z_172 46 (by decide) rfl k_f_X8_367 dX8_isRest_81 ?_
          refine lv_lload X.1 X.2.1 dX8_isRest_84 (lv_at hl 0 rfl) ?_
          refine lv_lmul X.1 X.2.1 dX8_isRest_86 ?_
          refine lv_lload_n X.1 X.2.1 dX8_isRest_87 rfl (lv_at hl 1 rfl) ?_
          refine lv_aload_n X.1 X.2.1 dX8_isRest_88 rfl (lv_at hl 2 rfl) ?_
          refine m_g8 (v := .long (M7.2 172 47)) X hSt hP m_z_172 47 (by decide) rfl k_f_X8_370 dX8_isRest_89 ?_
          refine lv_lmul X.1 X.2.1 dX8_isRest_92 ?_
          refine m_lle (tgt := 99) X dX8_isRest_93 dX8_isRest_94 (by decide) (fun hc8 => ?_) (fun hc8 => ?_)
          · have hres := m_it hres hc8
            refine lv_iinc (v := (x2 + 1)) (lv' := [(2, .int (x2 + 1)), (5, .long (M6.2 172 47)), (3, .long (M6.2 172 46)), (0, .ref (m_ad G 172)), (1, .int x1)]) X.1 X.2.1 dX8_isRest_99 hl (k := 4) rfl rfl (by decide) rfl (fun ls hl => ?_)
            refine lv_goto (tgt := 37) X.1 X.2.1 dX8_isRest_102 (by decide) ?_
            exact ih (x2 + 1) M7 _ _ _ hP hS (lv_sub hl [3, 4, 0] rfl) hres
          · have hres := m_if hres hc8
            refine lv_iconst (v := 0) X.1 X.2.1 dX8_isRest_97 (by decide) ?_
            exact m_rz X hr hlk hP hS (Prod.mk.inj (Option.some.inj hres)).1 (Prod.mk.inj (Option.some.inj hres)).2 (by decide) dX8_isRest_98
  have B2 : ∀ (u : Nat) (x2 : Int32) (M : m_M) (H : Heap) (locs : List Loc) (ls : Array Slot), m_P G M H → va_S (m_A G) s.heap H locs → lv_has ls 7 [(0, .ref (m_ad G 172)), (1, .int x1), (2, .int x2)] → f_X8_isRest_b2 n x1 u x2 M = some (r0, M0) → W p l e (m_R 5 122) s m args below meth c H locs 0 0 (MQ below (m_Qz G r0 M0) args s 0 0 (m_A G)) (F0 m 2 ls []) := by
    intro u
    induction u with
    | zero =>
      intro x2 M H locs ls hP hS hl hres
      cases hres
    | succ u ih =>
      intro x2 M H locs ls hP hS hl hres
      rw [f_X8_isRest_b2] at hres
      refine lv_iload_n X.1 X.2.1 dX8_isRest_2 rfl (lv_at hl 2 rfl) ?_
      refine lv_aload_n X.1 X.2.1 dX8_isRest_3 rfl (lv_at hl 0 rfl) ?_
      obtain ⟨r9, err9, hres⟩ := m_bd_e hres
      refine m_bi (m_cV (n := 0) (As := []) (rest := [.int x2]) X hSt hP hS hl.1 (c_X8_lined l G  err9) k_c_yX8_lined k_m_X8_400 k_i_yX8_lined k_s_yX8_lined k_n_X8 (by decide +kernel) (m_rc8 hSt hP m_z_172) rfl rfl ⟨Nat.le_of_ble_eq_true rfl, Nat.le_of_ble_eq_true rfl⟩ (Nat.le_of_ble_eq_true rfl) ⟨Nat.zero_le _, Nat.zero_le _⟩ dX8_isRest_4) hS (fun H locs hP hS => ?_)
      refine lv_icmp_ge (tgt := 35) X.1 X.2.1 dX8_isRest_7 (by decide) (fun hc10 => ?_) (fun hc10 => ?_)
      · have hres := m_it hres hc10
        refine lv_iconst (v := 0) X.1 X.2.1 dX8_isRest_35 (by decide) ?_
        refine lv_istore_n (lv' := [(2, .int 0), (0, .ref (m_ad G 172)), (1, .int x1)]) X.1 X.2.1 dX8_isRest_36 rfl hl (by decide) rfl (fun ls hl => ?_)
        exact B37 n 0 M _ _ _ hP hS (lv_sub hl [1, 2, 0] rfl) hres
      · have hres := m_if hres hc10
        refine lv_iload_n X.1 X.2.1 dX8_isRest_10 rfl (lv_at hl 1 rfl) ?_
        refine lv_iload_n X.1 X.2.1 dX8_isRest_11 rfl (lv_at hl 2 rfl) ?_
        refine lv_ishr X.1 X.2.1 dX8_isRest_12 ?_
        refine lv_iconst (v := 1) X.1 X.2.1 dX8_isRest_13 (by decide) ?_
        refine lv_iand X.1 X.2.1 dX8_isRest_14 ?_
        refine lv_iconst (v := 1) X.1 X.2.1 dX8_isRest_15 (by decide) ?_
        refine lv_icmp_ne (tgt := 29) X.1 X.2.1 dX8_isRest_16 (by decide) (fun hc11 => ?_) (fun hc11 => ?_)
        · have hres := m_if hres hc11
          refine lv_iinc (v := (x2 + 1)) (lv' := [(2, .int (x2 + 1)), (0, .ref (m_ad G 172)), (1, .int x1)]) X.1 X.2.1 dX8_isRest_29 hl (k := 2) rfl rfl (by decide) rfl (fun ls hl => ?_)
          refine lv_goto (tgt := 2) X.1 X.2.1 dX8_isRest_32 (by decide) ?_
          exact ih (x2 + 1) M _ _ _ hP hS (lv_sub hl [1, 2, 0] rfl) hres
        · have hres := m_it hres hc11
          refine lv_aload_n X.1 X.2.1 dX8_isRest_19 rfl (lv_at hl 0 rfl) ?_
          refine lv_iload_n X.1 X.2.1 dX8_isRest_20 rfl (lv_at hl 2 rfl) ?_
          obtain ⟨r12, err12, hres⟩ := m_ob_e hres
          refine m_bz (m_cV (n := 1) (As := [.int x2]) (rest := []) X hSt hP hS hl.1 (c_X8_mayShare l G  err12) k_c_yX8_mayShare k_m_X8_424 k_i_yX8_mayShare k_s_yX8_mayShare k_n_X8 (by decide +kernel) (m_rc8 hSt hP m_z_172) rfl rfl ⟨Nat.le_of_ble_eq_true rfl, Nat.le_of_ble_eq_true rfl⟩ (Nat.le_of_ble_eq_true rfl) ⟨Nat.zero_le _, Nat.zero_le _⟩ dX8_isRest_21) hS (fun H locs hP hS hz13 => ?_)
          refine lv_if_ne (tgt := 29) X.1 X.2.1 dX8_isRest_24 (by decide) (fun hc14 => ?_) (fun hc14 => ?_)
          · have hres := m_if hres hc14
            refine lv_iinc (v := (x2 + 1)) (lv' := [(2, .int (x2 + 1)), (0, .ref (m_ad G 172)), (1, .int x1)]) X.1 X.2.1 dX8_isRest_29 hl (k := 2) rfl rfl (by decide) rfl (fun ls hl => ?_)
            refine lv_goto (tgt := 2) X.1 X.2.1 dX8_isRest_32 (by decide) ?_
            exact ih (x2 + 1) M _ _ _ hP hS (lv_sub hl [1, 2, 0] rfl) hres
          · have hres := m_it hres hc14
            refine lv_iconst (v := 0) X.1 X.2.1 dX8_isRest_27 (by decide) ?_
            exact m_rz X hr hlk hP hS (Prod.mk.inj (Option.some.inj hres)).1 (Prod.mk.inj (Option.some.inj hres)).2 (by decide) dX8_isRest_28
  unfold f_X8_isRest at hres
  refine lv_iconst (v := 0) X.1 X.2.1 dX8_isRest_0 (by decide) ?_
  refine lv_istore_n (lv' := [(2, .int 0), (0, .ref (m_ad G 172)), (1, .int x1)]) X.1 X.2.1 dX8_isRest_1 rfl hl (by decide) rfl (fun ls hl => ?_)
  exact B2 n 0 M _ _ _ hP hS (lv_sub hl [1, 2, 0] rfl) hres
theorem dX8_isSmall_0 : decode cX8_isSmall 0 = .ok (.iload_n 0, 1) := by decide +kernel
theorem dX8_isSmall_1 : decode cX8_isSmall 1 = .ok (.i2l, 1) := by decide +kernel
theorem dX8_isSmall_2 : decode cX8_isSmall 2 = .ok (.ldc2_w 201, 3) := by decide +kernel
theorem dX8_isSmall_5 : decode cX8_isSmall 5 = .ok (.ldc2_w 203, 3) := by decide +kernel
theorem dX8_isSmall_8 : decode cX8_isSmall 8 = .ok (.invokestatic 111, 3) := by decide +kernel
theorem dX8_isSmall_11 : decode cX8_isSmall 11 = .ok (.ireturn, 1) := by decide +kernel
def f_X8_isSmall (x0 : Int32) : Int32 :=
  m_bd (f_X8_isIn x0.toInt64 97 122) fun r1 =>
  r1
set_option maxHeartbeats 4000000 in
set_option maxRecDepth 100000 in
theorem c_X8_isSmall (l : Launch) (G : m_G) {x0 : Int32} {M : m_M} {r0 : Int32}  (hres : f_X8_isSmall x0 = r0) : Met l yX8_isSmall (m_U yX8_isSmall cX8_isSmall 1 (some .boolean)) (m_R 1 25) (m_Pc G [.int x0] M) (m_Qz G r0 M) 0 0 (m_A G) := by
  refine m_i0 (n := 1) RX8 rfl (by decide) (Nat.le_of_ble_eq_true rfl) ?_
  intro p e s m args below meth c X hr hlk hSt hP hS ls hl
  have hl : lv_has ls 1 [(0, .int x0)] := hl
  unfold f_X8_isSmall at hres
  refine lv_iload_n X.1 X.2.1 dX8_isSmall_0 rfl (lv_at hl 0 rfl) ?_
  refine lv_i2l (v := x0.toInt64) X.1 X.2.1 dX8_isSmall_1 rfl ?_
  refine lv_ldc2 (v := 97) X.1 X.2.1 X.2.2.2.1 (X.2.2.2.2 _ k_l_X8_201) dX8_isSmall_2 ?_
  refine lv_ldc2 (v := 122) X.1 X.2.1 X.2.2.2.1 (X.2.2.2.2 _ k_l_X8_203) dX8_isSmall_5 ?_
  obtain ⟨r1, err1, hres⟩ := m_bd_e hres
  refine m_bz (m_cS (n := 3) (As := [.long x0.toInt64, .long 97, .long 122]) (rest := []) X hSt hP hS hl.1 (c_X8_isIn l G (M := M)  err1) k_c_yX8_isIn k_m_X8_111 k_t_yX8_isIn k_n_X8 (by decide +kernel) rfl rfl ⟨Nat.le_of_ble_eq_true rfl, Nat.le_of_ble_eq_true rfl⟩ (Nat.le_of_ble_eq_true rfl) ⟨Nat.zero_le _, Nat.zero_le _⟩ dX8_isSmall_8) hS (fun H locs hP hS hz2 => ?_)
  exact m_rz X hr hlk hP hS hres rfl hz2 dX8_isSmall_11
theorem dX8_isUnder_0 : decode cX8_isUnder 0 = .ok (.iload_n 1, 1) := by decide +kernel
theorem dX8_isUnder_1 : decode cX8_isUnder 1 = .ok (.istore_n 3, 1) := by decide +kernel
theorem dX8_isUnder_2 : decode cX8_isUnder 2 = .ok (.iload_n 3, 1) := by decide +kernel
theorem dX8_isUnder_3 : decode cX8_isUnder 3 = .ok (.iconst (-1), 1) := by decide +kernel
theorem dX8_isUnder_4 : decode cX8_isUnder 4 = .ok (.if_icmp .eq 18, 3) := by decide +kernel
theorem dX8_isUnder_7 : decode cX8_isUnder 7 = .ok (.iload_n 3, 1) := by decide +kernel
theorem dX8_isUnder_8 : decode cX8_isUnder 8 = .ok (.iload_n 2, 1) := by decide +kernel
theorem dX8_isUnder_9 : decode cX8_isUnder 9 = .ok (.if_icmp .eq 13, 3) := by decide +kernel
theorem dX8_isUnder_12 : decode cX8_isUnder 12 = .ok (.aload_n 0, 1) := by decide +kernel
theorem dX8_isUnder_13 : decode cX8_isUnder 13 = .ok (.getfield 27, 3) := by decide +kernel
theorem dX8_isUnder_16 : decode cX8_isUnder 16 = .ok (.iload_n 3, 1) := by decide +kernel
theorem dX8_isUnder_17 : decode cX8_isUnder 17 = .ok (.iaload, 1) := by decide +kernel
theorem dX8_isUnder_18 : decode cX8_isUnder 18 = .ok (.istore_n 3, 1) := by decide +kernel
theorem dX8_isUnder_19 : decode cX8_isUnder 19 = .ok (.goto (-17), 3) := by decide +kernel
theorem dX8_isUnder_22 : decode cX8_isUnder 22 = .ok (.iload_n 3, 1) := by decide +kernel
theorem dX8_isUnder_23 : decode cX8_isUnder 23 = .ok (.iload_n 2, 1) := by decide +kernel
theorem dX8_isUnder_24 : decode cX8_isUnder 24 = .ok (.if_icmp .ne 7, 3) := by decide +kernel
theorem dX8_isUnder_27 : decode cX8_isUnder 27 = .ok (.iconst 1, 1) := by decide +kernel
theorem dX8_isUnder_28 : decode cX8_isUnder 28 = .ok (.goto 4, 3) := by decide +kernel
theorem dX8_isUnder_31 : decode cX8_isUnder 31 = .ok (.iconst 0, 1) := by decide +kernel
theorem dX8_isUnder_32 : decode cX8_isUnder 32 = .ok (.ireturn, 1) := by decide +kernel
def f_X8_isUnder_b22 (n : Nat) (x1 : Int32) (x2 : Int32) (M : m_M) (x3 : Int32) : Option Int32 :=
  if x3 = x2 then
  some 1
  else
  some 0
def f_X8_isUnder_b2 (n : Nat) (x1 : Int32) (x2 : Int32) (M : m_M) : Nat → Int32 → Option Int32
  | 0, _ => none
  | u + 1, x3 =>
    if x3 = (-1) then
  f_X8_isUnder_b22 n x1 x2 M x3
  else
  if x3 = x2 then
  f_X8_isUnder_b22 n x1 x2 M x3
  else
  m_gd (m_in x3 10) (
  f_X8_isUnder_b2 n x1 x2 M u (M.1 177 x3.toNatClampNeg))
def f_X8_isUnder (n : Nat) (x1 : Int32) (x2 : Int32) (M : m_M) : Option Int32 :=
  f_X8_isUnder_b2 n x1 x2 M n x1
set_option maxHeartbeats 4000000 in
set_option maxRecDepth 100000 in
theorem c_X8_isUnder (l : Launch) (G : m_G) {n : Nat} {x1 : Int32} {x2 : Int32} {M : m_M} {r0 : Int32}  (hres : f_X8_isUnder n x1 x2 M = some r0) : Met l yX8_isUnder (m_U yX8_isUnder cX8_isUnder 4 (some .boolean)) (m_R 0 0) (m_Pc G [.ref (m_ad G 172), .int x1, .int x2] M) (m_Qz G r0 M) 0 0 (m_A G) := by
  refine m_i0 (n := 4) RX8 rfl (by decide) (Nat.le_of_ble_eq_true rfl) ?_
  intro p e s m args below meth c X hr hlk hSt hP hS ls hl
  have hl : lv_has ls 4 [(0, .ref (m_ad G 172)), (1, .int x1), (2, .int x2)] := hl
  have B22 : ∀  (x3 : Int32) (H : Heap) (locs : List Loc) (ls : Array Slot), m_P G M H → va_S (m_A G) s.heap H locs → lv_has ls 4 [(2, .int x2), (3, .int x3)] → f_X8_isUnder_b22 n x1 x2 M x3 = some r0 → W p l e (m_R 0 0) s m args below meth c H locs 0 0 (MQ below (m_Qz G r0 M) args s 0 0 (m_A G)) (F0 m 22 ls []) := by
    intro x3 H locs ls hP hS hl hres
    unfold f_X8_isUnder_b22 at hres
    refine lv_iload_n X.1 X.2.1 dX8_isUnder_22 rfl (lv_at hl 1 rfl) ?_
    refine lv_iload_n X.1 X.2.1 dX8_isUnder_23 rfl (lv_at hl 0 rfl) ?_
    refine lv_icmp_ne (tgt := 31) X.1 X.2.1 dX8_isUnder_24 (by decide) (fun hc1 => ?_) (fun hc1 => ?_)
    · have hres := m_if hres hc1
      refine lv_iconst (v := 0) X.1 X.2.1 dX8_isUnder_31 (by decide) ?_
      exact m_rz X hr hlk hP hS (Option.some.inj hres) rfl (by decide) dX8_isUnder_32
    · have hres := m_it hres hc1
      refine lv_iconst (v := 1) X.1 X.2.1 dX8_isUnder_27 (by decide) ?_
      refine lv_goto (tgt := 32) X.1 X.2.1 dX8_isUnder_28 (by decide) ?_
      exact m_rz X hr hlk hP hS (Option.some.inj hres) rfl (by decide) dX8_isUnder_32
  have B2 : ∀ (u : Nat) (x3 : Int32) (H : Heap) (locs : List Loc) (ls : Array Slot), m_P G M H → va_S (m_A G) s.heap H locs → lv_has ls 4 [(0, .ref (m_ad G 172)), (2, .int x2), (3, .int x3)] → f_X8_isUnder_b2 n x1 x2 M u x3 = some r0 → W p l e (m_R 0 0) s m args below meth c H locs 0 0 (MQ below (m_Qz G r0 M) args s 0 0 (m_A G)) (F0 m 2 ls []) := by
    intro u
    induction u with
    | zero =>
      intro x3 H locs ls hP hS hl hres
      cases hres
    | succ u ih =>
      intro x3 H locs ls hP hS hl hres
      rw [f_X8_isUnder_b2] at hres
      refine lv_iload_n X.1 X.2.1 dX8_isUnder_2 rfl (lv_at hl 2 rfl) ?_
      refine lv_iconst (v := (-1)) X.1 X.2.1 dX8_isUnder_3 (by decide) ?_
      refine lv_icmp_eq (tgt := 22) X.1 X.2.1 dX8_isUnder_4 (by decide) (fun hc2 => ?_) (fun hc2 => ?_)
      · have hres := m_it hres hc2
        exact B22 x3 _ _ _ hP hS (lv_sub hl [1, 2] rfl) hres
      · have hres := m_if hres hc2
        refine lv_iload_n X.1 X.2.1 dX8_isUnder_7 rfl (lv_at hl 2 rfl) ?_
        refine lv_iload_n X.1 X.2.1 dX8_isUnder_8 rfl (lv_at hl 1 rfl) ?_
        refine lv_icmp_eq (tgt := 22) X.1 X.2.1 dX8_isUnder_9 (by decide) (fun hc3 => ?_) (fun hc3 => ?_)
        · have hres := m_it hres hc3
          exact B22 x3 _ _ _ hP hS (lv_sub hl [1, 2] rfl) hres
        · have hres := m_if hres hc3
          refine lv_aload_n X.1 X.2.1 dX8_isUnder_12 rfl (lv_at hl 0 rfl) ?_
          refine m_g8 (v := .ref (m_ad G 177)) X hSt hP m_z_172 7 (by decide) rfl k_f_X8_27 dX8_isUnder_13 ?_
          refine lv_iload_n X.1 X.2.1 dX8_isUnder_16 rfl (lv_at hl 2 rfl) ?_
          obtain ⟨hg4, hres⟩ := m_gd_e hres
          refine m_ia (j := x3.toNatClampNeg) X hSt hP m_z_177 hg4 rfl dX8_isUnder_17 ?_
          refine lv_istore_n (lv' := [(3, .int (M.1 177 x3.toNatClampNeg)), (0, .ref (m_ad G 172)), (2, .int x2)]) X.1 X.2.1 dX8_isUnder_18 rfl hl (by decide) rfl (fun ls hl => ?_)
          refine lv_goto (tgt := 2) X.1 X.2.1 dX8_isUnder_19 (by decide) ?_
          exact ih (M.1 177 x3.toNatClampNeg) _ _ _ hP hS (lv_sub hl [1, 2, 0] rfl) hres
  unfold f_X8_isUnder at hres
  refine lv_iload_n X.1 X.2.1 dX8_isUnder_0 rfl (lv_at hl 1 rfl) ?_
  refine lv_istore_n (lv' := [(3, .int x1), (0, .ref (m_ad G 172)), (1, .int x1), (2, .int x2)]) X.1 X.2.1 dX8_isUnder_1 rfl hl (by decide) rfl (fun ls hl => ?_)
  exact B2 n x1 _ _ _ hP hS (lv_sub hl [1, 3, 0] rfl) hres
theorem dX8_layLine_0 : decode cX8_layLine 0 = .ok (.aload_n 0, 1) := by decide +kernel
theorem dX8_layLine_1 : decode cX8_layLine 1 = .ok (.iload_n 1, 1) := by decide +kernel
theorem dX8_layLine_2 : decode cX8_layLine 2 = .ok (.invokevirtual 350, 3) := by decide +kernel
theorem dX8_layLine_5 : decode cX8_layLine 5 = .ok (.iconst 0, 1) := by decide +kernel
theorem dX8_layLine_6 : decode cX8_layLine 6 = .ok (.istore_n 2, 1) := by decide +kernel
theorem dX8_layLine_7 : decode cX8_layLine 7 = .ok (.iload_n 2, 1) := by decide +kernel
theorem dX8_layLine_8 : decode cX8_layLine 8 = .ok (.aload_n 0, 1) := by decide +kernel
theorem dX8_layLine_9 : decode cX8_layLine 9 = .ok (.invokevirtual 400, 3) := by decide +kernel
theorem dX8_layLine_12 : decode cX8_layLine 12 = .ok (.if_icmp .ge 101, 3) := by decide +kernel
theorem dX8_layLine_15 : decode cX8_layLine 15 = .ok (.aload_n 0, 1) := by decide +kernel
theorem dX8_layLine_16 : decode cX8_layLine 16 = .ok (.getfield 7, 3) := by decide +kernel
theorem dX8_layLine_19 : decode cX8_layLine 19 = .ok (.sipush 462, 3) := by decide +kernel
theorem dX8_layLine_22 : decode cX8_layLine 22 = .ok (.iload_n 2, 1) := by decide +kernel
theorem dX8_layLine_23 : decode cX8_layLine 23 = .ok (.iadd, 1) := by decide +kernel
theorem dX8_layLine_24 : decode cX8_layLine 24 = .ok (.iaload, 1) := by decide +kernel
theorem dX8_layLine_25 : decode cX8_layLine 25 = .ok (.istore_n 3, 1) := by decide +kernel
theorem dX8_layLine_26 : decode cX8_layLine 26 = .ok (.aload_n 0, 1) := by decide +kernel
theorem dX8_layLine_27 : decode cX8_layLine 27 = .ok (.iload_n 3, 1) := by decide +kernel
theorem dX8_layLine_28 : decode cX8_layLine 28 = .ok (.invokevirtual 403, 3) := by decide +kernel
theorem dX8_layLine_31 : decode cX8_layLine 31 = .ok (.ifCond .eq 15, 3) := by decide +kernel
theorem dX8_layLine_34 : decode cX8_layLine 34 = .ok (.aload_n 0, 1) := by decide +kernel
theorem dX8_layLine_35 : decode cX8_layLine 35 = .ok (.iload_n 3, 1) := by decide +kernel
theorem dX8_layLine_36 : decode cX8_layLine 36 = .ok (.invokevirtual 373, 3) := by decide +kernel
theorem dX8_layLine_39 : decode cX8_layLine 39 = .ok (.ifCond .eq 7, 3) := by decide +kernel
theorem dX8_layLine_42 : decode cX8_layLine 42 = .ok (.iconst 1, 1) := by decide +kernel
theorem dX8_layLine_43 : decode cX8_layLine 43 = .ok (.goto 4, 3) := by decide +kernel
theorem dX8_layLine_46 : decode cX8_layLine 46 = .ok (.iconst 0, 1) := by decide +kernel
theorem dX8_layLine_47 : decode cX8_layLine 47 = .ok (.istore 4, 2) := by decide +kernel
theorem dX8_layLine_49 : decode cX8_layLine 49 = .ok (.aload_n 0, 1) := by decide +kernel
theorem dX8_layLine_50 : decode cX8_layLine 50 = .ok (.getfield 89, 3) := by decide +kernel
theorem dX8_layLine_53 : decode cX8_layLine 53 = .ok (.iload_n 2, 1) := by decide +kernel
theorem dX8_layLine_54 : decode cX8_layLine 54 = .ok (.iload 4, 2) := by decide +kernel
theorem dX8_layLine_56 : decode cX8_layLine 56 = .ok (.ifCond .eq 22, 3) := by decide +kernel
theorem dX8_layLine_59 : decode cX8_layLine 59 = .ok (.aload_n 0, 1) := by decide +kernel
theorem dX8_layLine_60 : decode cX8_layLine 60 = .ok (.aload_n 0, 1) := by decide +kernel
theorem dX8_layLine_61 : decode cX8_layLine 61 = .ok (.iload_n 3, 1) := by decide +kernel
theorem dX8_layLine_62 : decode cX8_layLine 62 = .ok (.invokevirtual 361, 3) := by decide +kernel
theorem dX8_layLine_65 : decode cX8_layLine 65 = .ok (.iconst 0, 1) := by decide +kernel
theorem dX8_layLine_66 : decode cX8_layLine 66 = .ok (.iconst 0, 1) := by decide +kernel
theorem dX8_layLine_67 : decode cX8_layLine 67 = .ok (.aload_n 0, 1) := by decide +kernel
theorem dX8_layLine_68 : decode cX8_layLine 68 = .ok (.iload_n 3, 1) := by decide +kernel
theorem dX8_layLine_69 : decode cX8_layLine 69 = .ok (.invokevirtual 376, 3) := by decide +kernel
theorem dX8_layLine_72 : decode cX8_layLine 72 = .ok (.invokevirtual 337, 3) := by decide +kernel
theorem dX8_layLine_75 : decode cX8_layLine 75 = .ok (.goto 4, 3) := by decide +kernel
theorem dX8_layLine_78 : decode cX8_layLine 78 = .ok (.iconst 0, 1) := by decide +kernel
theorem dX8_layLine_79 : decode cX8_layLine 79 = .ok (.iastore, 1) := by decide +kernel
theorem dX8_layLine_80 : decode cX8_layLine 80 = .ok (.aload_n 0, 1) := by decide +kernel
theorem dX8_layLine_81 : decode cX8_layLine 81 = .ok (.getfield 92, 3) := by decide +kernel
theorem dX8_layLine_84 : decode cX8_layLine 84 = .ok (.iload_n 2, 1) := by decide +kernel
theorem dX8_layLine_85 : decode cX8_layLine 85 = .ok (.iload 4, 2) := by decide +kernel
theorem dX8_layLine_87 : decode cX8_layLine 87 = .ok (.ifCond .eq 11, 3) := by decide +kernel
theorem dX8_layLine_90 : decode cX8_layLine 90 = .ok (.aload_n 0, 1) := by decide +kernel
theorem dX8_layLine_91 : decode cX8_layLine 91 = .ok (.iload_n 3, 1) := by decide +kernel
theorem dX8_layLine_92 : decode cX8_layLine 92 = .ok (.invokevirtual 171, 3) := by decide +kernel
theorem dX8_layLine_95 : decode cX8_layLine 95 = .ok (.goto 4, 3) := by decide +kernel
theorem dX8_layLine_98 : decode cX8_layLine 98 = .ok (.iconst 0, 1) := by decide +kernel
theorem dX8_layLine_99 : decode cX8_layLine 99 = .ok (.iastore, 1) := by decide +kernel
theorem dX8_layLine_100 : decode cX8_layLine 100 = .ok (.aload_n 0, 1) := by decide +kernel
theorem dX8_layLine_101 : decode cX8_layLine 101 = .ok (.getfield 98, 3) := by decide +kernel
theorem dX8_layLine_104 : decode cX8_layLine 104 = .ok (.iload_n 2, 1) := by decide +kernel
theorem dX8_layLine_105 : decode cX8_layLine 105 = .ok (.iload_n 2, 1) := by decide +kernel
theorem dX8_layLine_106 : decode cX8_layLine 106 = .ok (.iastore, 1) := by decide +kernel
theorem dX8_layLine_107 : decode cX8_layLine 107 = .ok (.iinc 2 1, 3) := by decide +kernel
theorem dX8_layLine_110 : decode cX8_layLine 110 = .ok (.goto (-103), 3) := by decide +kernel
theorem dX8_layLine_113 : decode cX8_layLine 113 = .ok (.return_, 1) := by decide +kernel
def f_X8_layLine_b99 (n : Nat) (x1 : Int32) (q7 : Int32 → m_M → Option m_M) (x2 : Int32) (s1 : Int32) (s2 : Int32) (M : m_M) : Option m_M :=
  m_gd (m_in s1 6) (
  m_bd (m_sI M 197 s1.toNatClampNeg s2) fun M2 =>
  m_gd (m_in x2 6) (
  m_bd (m_sI M2 199 x2.toNatClampNeg x2) fun M4 =>
  q7 (x2 + 1) M4))
def f_X8_layLine_b79 (n : Nat) (x1 : Int32) (q7 : Int32 → m_M → Option m_M) (x2 : Int32) (x3 : Int32) (x4 : Int32) (s1 : Int32) (s2 : Int32) (M : m_M) : Option m_M :=
  m_gd (m_in s1 6) (
  m_bd (m_sI M 196 s1.toNatClampNeg s2) fun M6 =>
  if x4 = 0 then
  f_X8_layLine_b99 n x1 q7 x2 x2 0 M6
  else
  m_ob (f_X8_owedOf x3 M6) fun r8 =>
  f_X8_layLine_b99 n x1 q7 x2 x2 r8 M6)
def f_X8_layLine_b47 (n : Nat) (x1 : Int32) (q7 : Int32 → m_M → Option m_M) (x2 : Int32) (x3 : Int32) (s0 : Int32) (M : m_M) : Option m_M :=
  if s0 = 0 then
  f_X8_layLine_b79 n x1 q7 x2 x3 s0 x2 0 M
  else
  m_ob (f_X8_manOf x3 M) fun r10 =>
  m_ob (f_X8_hiddenOf n x3 M) fun r11 =>
  m_o2 (f_X8_netOf n r10 0 0 r11 M) fun r12 M13 =>
  f_X8_layLine_b79 n x1 q7 x2 x3 s0 x2 r12 M13
def f_X8_layLine_b7 (n : Nat) (x1 : Int32) : Nat → Int32 → m_M → Option m_M
  | 0, _, _ => none
  | u + 1, x2, M =>
    m_bd (f_X8_lined M) fun r14 =>
  if r14 ≤ x2 then
  some M
  else
  m_gd (m_in ((462 : Int32) + x2) 471) (
  m_bd (M.1 173 (((462 : Int32) + x2).toNatClampNeg)) fun t17 =>
  m_ob (f_X8_isLaid t17 M) fun r18 =>
  if r18 = 0 then
  f_X8_layLine_b47 n x1 (f_X8_layLine_b7 n x1 u) x2 t17 0 M
  else
  m_ob (f_X8_isOpen t17 M) fun r21 =>
  if r21 = 0 then
  f_X8_layLine_b47 n x1 (f_X8_layLine_b7 n x1 u) x2 t17 0 M
  else
  f_X8_layLine_b47 n x1 (f_X8_layLine_b7 n x1 u) x2 t17 1 M)
def f_X8_layLine (n : Nat) (x1 : Int32) (M : m_M) : Option m_M :=
  m_ob (f_X8_layToday n x1 M) fun M24 =>
  f_X8_layLine_b7 n x1 n 0 M24
set_option maxHeartbeats 4000000 in
set_option maxRecDepth 100000 in
theorem c_X8_layLine (l : Launch) (G : m_G) {n : Nat} {x1 : Int32} {M : m_M} {M0 : m_M}  (hres : f_X8_layLine n x1 M = some M0) : Met l yX8_layLine (m_U yX8_layLine cX8_layLine 5 none) (m_R 8 182) (m_Pc G [.ref (m_ad G 172), .int x1] M) (m_Qv G M0) 0 0 (m_A G) := by
  refine m_i0 (n := 5) RX8 rfl (by decide) (Nat.le_of_ble_eq_true rfl) ?_
  intro p e s m args below meth c X hr hlk hSt hP hS ls hl
  have hl : lv_has ls 5 [(0, .ref (m_ad G 172)), (1, .int x1)] := hl
  have B99 : ∀ (q7 : Int32 → m_M → Option m_M) (hq7 : ∀ (x2 : Int32) (M : m_M) (H : Heap) (locs : List Loc) (ls : Array Slot), m_P G M H → va_S (m_A G) s.heap H locs → lv_has ls 5 [(0, .ref (m_ad G 172)), (2, .int x2)] → q7 x2 M = some M0 → W p l e (m_R 8 182) s m args below meth c H locs 0 0 (MQ below (m_Qv G M0) args s 0 0 (m_A G)) (F0 m 7 ls [])) (x2 : Int32) (s1 : Int32) (s2 : Int32) (M : m_M) (H : Heap) (locs : List Loc) (ls : Array Slot), m_P G M H → va_S (m_A G) s.heap H locs → lv_has ls 5 [(0, .ref (m_ad G 172)), (2, .int x2)] → f_X8_layLine_b99 n x1 q7 x2 s1 s2 M = some M0 → W p l e (m_R 8 182) s m args below meth c H locs 0 0 (MQ below (m_Qv G M0) args s 0 0 (m_A G)) (F0 m 99 ls [.int s2, .int s1, .ref (m_ad G 197)]) := by
    intro q7 hq7 x2 s1 s2 M H locs ls hP hS hl hres
    unfold f_X8_layLine_b99 at hres
    obtain ⟨hg1, hres⟩ := m_gd_e hres
    obtain ⟨M2, eM2, hres⟩ := m_bd_e hres
    refine m_is (j := s1.toNatClampNeg) X hSt hP hS m_z_197 hg1 rfl dX8_layLine_99 eM2 (fun H locs hP hS => ?_)
    refine lv_aload_n X.1 X.2.1 dX8_layLine_100 rfl (lv_at hl 0 rfl) ?_
    refine m_g8 (v := .ref (m_ad G 199)) X hSt hP m_z_172 51 (by decide) rfl k_f_X8_98 dX8_layLine_101 ?_
    refine lv_iload_n X.1 X.2.1 dX8_layLine_104 rfl (lv_at hl 1 rfl) ?_
    refine lv_iload_n X.1 X.2.1 dX8_layLine_105 rfl (lv_at hl 1 rfl) ?_
    obtain ⟨hg3, hres⟩ := m_gd_e hres
    obtain ⟨M4, eM4, hres⟩ := m_bd_e hres
    refine m_is (j := x2.toNatClampNeg) X hSt hP hS m_z_199 hg3 rfl dX8_layLine_106 eM4 (fun H locs hP hS => ?_)
    refine lv_iinc (v := (x2 + 1)) (lv' := [(2, .int (x2 + 1)), (0, .ref (m_ad G 172))]) X.1 X.2.1 dX8_layLine_107 hl (k := 1) rfl rfl (by decide) rfl (fun ls hl => ?_)
    refine lv_goto (tgt := 7) X.1 X.2.1 dX8_layLine_110 (by decide) ?_
    exact hq7 (x2 + 1) M4 _ _ _ hP hS (lv_sub hl [1, 0] rfl) hres
  have B79 : ∀ (q7 : Int32 → m_M → Option m_M) (hq7 : ∀ (x2 : Int32) (M : m_M) (H : Heap) (locs : List Loc) (ls : Array Slot), m_P G M H → va_S (m_A G) s.heap H locs → lv_has ls 5 [(0, .ref (m_ad G 172)), (2, .int x2)] → q7 x2 M = some M0 → W p l e (m_R 8 182) s m args below meth c H locs 0 0 (MQ below (m_Qv G M0) args s 0 0 (m_A G)) (F0 m 7 ls [])) (x2 : Int32) (x3 : Int32) (x4 : Int32) (s1 : Int32) (s2 : Int32) (M : m_M) (H : Heap) (locs : List Loc) (ls : Array Slot), m_P G M H → va_S (m_A G) s.heap H locs → lv_has ls 5 [(0, .ref (m_ad G 172)), (2, .int x2), (3, .int x3), (4, .int x4)] → f_X8_layLine_b79 n x1 q7 x2 x3 x4 s1 s2 M = some M0 → W p l e (m_R 8 182) s m args below meth c H locs 0 0 (MQ below (m_Qv G M0) args s 0 0 (m_A G)) (F0 m 79 ls [.int s2, .int s1, .ref (m_ad G 196)]) := by
    intro q7 hq7 x2 x3 x4 s1 s2 M H locs ls hP hS hl hres
    unfold f_X8_layLine_b79 at hres
    obtain ⟨hg5, hres⟩ := m_gd_e hres
    obtain ⟨M6, eM6, hres⟩ := m_bd_e hres
    refine m_is (j := s1.toNatClampNeg) X hSt hP hS m_z_196 hg5 rfl dX8_layLine_79 eM6 (fun H locs hP hS => ?_)
    refine lv_aload_n X.1 X.2.1 dX8_layLine_80 rfl (lv_at hl 0 rfl) ?_
    refine m_g8 (v := .ref (m_ad G 197)) X hSt hP m_z_172 49 (by decide) rfl k_f_X8_92 dX8_layLine_81 ?_
    refine lv_iload_n X.1 X.2.1 dX8_layLine_84 rfl (lv_at hl 1 rfl) ?_
    refine lv_iload X.1 X.2.1 dX8_layLine_85 (lv_at hl 3 rfl) ?_
    refine lv_if_eq (tgt := 98) X.1 X.2.1 dX8_layLine_87 (by decide) (fun hc7 => ?_) (fun hc7 => ?_)
    · have hres := m_it hres hc7
      refine lv_iconst (v := 0) X.1 X.2.1 dX8_layLine_98 (by decide) ?_
      exact B99 q7 hq7 x2 x2 0 M6 _ _ _ hP hS (lv_sub hl [0, 1] rfl) hres
    · have hres := m_if hres hc7
      refine lv_aload_n X.1 X.2.1 dX8_layLine_90 rfl (lv_at hl 0 rfl) ?_
      refine lv_iload_n X.1 X.2.1 dX8_layLine_91 rfl (lv_at hl 2 rfl) ?_
      obtain ⟨r8, err8, hres⟩ := m_ob_e hres
      refine m_bi (m_cV (n := 1) (As := [.int x3]) (rest := [.int x2, .ref (m_ad G 197)]) X hSt hP hS hl.1 (c_X8_owedOf l G  err8) k_c_yX8_owedOf k_m_X8_171 k_i_yX8_owedOf k_s_yX8_owedOf k_n_X8 (by decide +kernel) (m_rc8 hSt hP m_z_172) rfl rfl ⟨Nat.le_of_ble_eq_true rfl, Nat.le_of_ble_eq_true rfl⟩ (Nat.le_of_ble_eq_true rfl) ⟨Nat.zero_le _, Nat.zero_le _⟩ dX8_layLine_92) hS (fun H locs hP hS => ?_)
      refine lv_goto (tgt := 99) X.1 X.2.1 dX8_layLine_95 (by decide) ?_
      exact B99 q7 hq7 x2 x2 r8 M6 _ _ _ hP hS (lv_sub hl [0, 1] rfl) hres
  have B47 : ∀ (q7 : Int32 → m_M → Option m_M) (hq7 : ∀ (x2 : Int32) (M : m_M) (H : Heap) (locs : List Loc) (ls : Array Slot), m_P G M H → va_S (m_A G) s.heap H locs → lv_has ls 5 [(0, .ref (m_ad G 172)), (2, .int x2)] → q7 x2 M = some M0 → W p l e (m_R 8 182) s m args below meth c H locs 0 0 (MQ below (m_Qv G M0) args s 0 0 (m_A G)) (F0 m 7 ls [])) (x2 : Int32) (x3 : Int32) (s0 : Int32) (M : m_M) (H : Heap) (locs : List Loc) (ls : Array Slot), m_P G M H → va_S (m_A G) s.heap H locs → lv_has ls 5 [(0, .ref (m_ad G 172)), (2, .int x2), (3, .int x3)] → f_X8_layLine_b47 n x1 q7 x2 x3 s0 M = some M0 → W p l e (m_R 8 182) s m args below meth c H locs 0 0 (MQ below (m_Qv G M0) args s 0 0 (m_A G)) (F0 m 47 ls [.int s0]) := by
    intro q7 hq7 x2 x3 s0 M H locs ls hP hS hl hres
    unfold f_X8_layLine_b47 at hres
    refine lv_istore (lv' := [(4, .int s0), (0, .ref (m_ad G 172)), (2, .int x2), (3, .int x3)]) X.1 X.2.1 dX8_layLine_47 hl (by decide) rfl (fun ls hl => ?_)
    refine lv_aload_n X.1 X.2.1 dX8_layLine_49 rfl (lv_at hl 1 rfl) ?_
    refine m_g8 (v := .ref (m_ad G 196)) X hSt hP m_z_172 48 (by decide) rfl k_f_X8_89 dX8_layLine_50 ?_
    refine lv_iload_n X.1 X.2.1 dX8_layLine_53 rfl (lv_at hl 2 rfl) ?_
    refine lv_iload X.1 X.2.1 dX8_layLine_54 (lv_at hl 0 rfl) ?_
    refine lv_if_eq (tgt := 78) X.1 X.2.1 dX8_layLine_56 (by decide) (fun hc9 => ?_) (fun hc9 => ?_)
    · have hres := m_it hres hc9
      refine lv_iconst (v := 0) X.1 X.2.1 dX8_layLine_78 (by decide) ?_
      exact B79 q7 hq7 x2 x3 s0 x2 0 M _ _ _ hP hS (lv_sub hl [1, 2, 3, 0] rfl) hres
    · have hres := m_if hres hc9
      refine lv_aload_n X.1 X.2.1 dX8_layLine_59 rfl (lv_at hl 1 rfl) ?_
      refine lv_aload_n X.1 X.2.1 dX8_layLine_60 rfl (lv_at hl 1 rfl) ?_
      refine lv_iload_n X.1 X.2.1 dX8_layLine_61 rfl (lv_at hl 3 rfl) ?_
      obtain ⟨r10, err10, hres⟩ := m_ob_e hres
      refine m_bi (m_cV (n := 1) (As := [.int x3]) (rest := [.ref (m_ad G 172), .int x2, .ref (m_ad G 196)]) X hSt hP hS hl.1 (c_X8_manOf l G  err10) k_c_yX8_manOf k_m_X8_361 k_i_yX8_manOf k_s_yX8_manOf k_n_X8 (by decide +kernel) (m_rc8 hSt hP m_z_172) rfl rfl ⟨Nat.le_of_ble_eq_true rfl, Nat.le_of_ble_eq_true rfl⟩ (Nat.le_of_ble_eq_true rfl) ⟨Nat.zero_le _, Nat.zero_le _⟩ dX8_layLine_62) hS (fun H locs hP hS => ?_)
      refine lv_iconst (v := 0) X.1 X.2.1 dX8_layLine_65 (by decide) ?_
      refine lv_iconst (v := 0) X.1 X.2.1 dX8_layLine_66 (by decide) ?_
      refine lv_aload_n X.1 X.2.1 dX8_layLine_67 rfl (lv_at hl 1 rfl) ?_
      refine lv_iload_n X.1 X.2.1 dX8_layLine_68 rfl (lv_at hl 3 rfl) ?_
      obtain ⟨r11, err11, hres⟩ := m_ob_e hres
      refine m_bi (m_cV (n := 1) (As := [.int x3]) (rest := [.int 0, .int 0, .int r10, .ref (m_ad G 172), .int x2, .ref (m_ad G 196)]) X hSt hP hS hl.1 (c_X8_hiddenOf l G  err11) k_c_yX8_hiddenOf k_m_X8_376 k_i_yX8_hiddenOf k_s_yX8_hiddenOf k_n_X8 (by decide +kernel) (m_rc8 hSt hP m_z_172) rfl rfl ⟨Nat.le_of_ble_eq_true rfl, Nat.le_of_ble_eq_true rfl⟩ (Nat.le_of_ble_eq_true rfl) ⟨Nat.zero_le _, Nat.zero_le _⟩ dX8_layLine_69) hS (fun H locs hP hS => ?_)
      obtain ⟨r12, M13, err12, hres⟩ := m_o2_e hres
      refine m_bi (m_cV (n := 4) (As := [.int r10, .int 0, .int 0, .int r11]) (rest := [.int x2, .ref (m_ad G 196)]) X hSt hP hS hl.1 (c_X8_netOf l G  err12) k_c_yX8_netOf k_m_X8_337 k_i_yX8_netOf k_s_yX8_netOf k_n_X8 (by decide +kernel) (m_rc8 hSt hP m_z_172) rfl rfl ⟨Nat.le_of_ble_eq_true rfl, Nat.le_of_ble_eq_true rfl⟩ (Nat.le_of_ble_eq_true rfl) ⟨Nat.zero_le _, Nat.zero_le _⟩ dX8_layLine_72) hS (fun H locs hP hS => ?_)
      refine lv_goto (tgt := 79) X.1 X.2.1 dX8_layLine_75 (by decide) ?_
      exact B79 q7 hq7 x2 x3 s0 x2 r12 M13 _ _ _ hP hS (lv_sub hl [1, 2, 3, 0] rfl) hres
  have B7 : ∀ (u : Nat) (x2 : Int32) (M : m_M) (H : Heap) (locs : List Loc) (ls : Array Slot), m_P G M H → va_S (m_A G) s.heap H locs → lv_has ls 5 [(0, .ref (m_ad G 172)), (2, .int x2)] → f_X8_layLine_b7 n x1 u x2 M = some M0 → W p l e (m_R 8 182) s m args below meth c H locs 0 0 (MQ below (m_Qv G M0) args s 0 0 (m_A G)) (F0 m 7 ls []) := by
    intro u
    induction u with
    | zero =>
      intro x2 M H locs ls hP hS hl hres
      cases hres
    | succ u ih =>
      intro x2 M H locs ls hP hS hl hres
      rw [f_X8_layLine_b7] at hres
      refine lv_iload_n X.1 X.2.1 dX8_layLine_7 rfl (lv_at hl 1 rfl) ?_
      refine lv_aload_n X.1 X.2.1 dX8_layLine_8 rfl (lv_at hl 0 rfl) ?_
      obtain ⟨r14, err14, hres⟩ := m_bd_e hres
      refine m_bi (m_cV (n := 0) (As := []) (rest := [.int x2]) X hSt hP hS hl.1 (c_X8_lined l G  err14) k_c_yX8_lined k_m_X8_400 k_i_yX8_lined k_s_yX8_lined k_n_X8 (by decide +kernel) (m_rc8 hSt hP m_z_172) rfl rfl ⟨Nat.le_of_ble_eq_true rfl, Nat.le_of_ble_eq_true rfl⟩ (Nat.le_of_ble_eq_true rfl) ⟨Nat.zero_le _, Nat.zero_le _⟩ dX8_layLine_9) hS (fun H locs hP hS => ?_)
      refine lv_icmp_ge (tgt := 113) X.1 X.2.1 dX8_layLine_12 (by decide) (fun hc15 => ?_) (fun hc15 => ?_)
      · have hres := m_it hres hc15
        exact m_rv X hr hlk hP hS (Option.some.inj hres) dX8_layLine_113
      · have hres := m_if hres hc15
        refine lv_aload_n X.1 X.2.1 dX8_layLine_15 rfl (lv_at hl 0 rfl) ?_
        refine m_g8 (v := .ref (m_ad G 173)) X hSt hP m_z_172 0 (by decide) rfl k_f_X8_7 dX8_layLine_16 ?_
        refine lv_sipush (v := 462) X.1 X.2.1 dX8_layLine_19 (by decide) ?_
        refine lv_iload_n X.1 X.2.1 dX8_layLine_22 rfl (lv_at hl 1 rfl) ?_
        refine lv_iadd X.1 X.2.1 dX8_layLine_23 ?_
        obtain ⟨hg16, hres⟩ := m_gd_e hres
        refine m_ia (j := (((462 : Int32) + x2).toNatClampNeg)) X hSt hP m_z_173 hg16 rfl dX8_layLine_24 ?_
        obtain ⟨t17, et17, hres⟩ := m_bd_e hres
        refine m_ti et17 ?_
        refine lv_istore_n (lv' := [(3, .int t17), (0, .ref (m_ad G 172)), (2, .int x2)]) X.1 X.2.1 dX8_layLine_25 rfl hl (by decide) rfl (fun ls hl => ?_)
        refine lv_aload_n X.1 X.2.1 dX8_layLine_26 rfl (lv_at hl 1 rfl) ?_
        refine lv_iload_n X.1 X.2.1 dX8_layLine_27 rfl (lv_at hl 0 rfl) ?_
        obtain ⟨r18, err18, hres⟩ := m_ob_e hres
        refine m_bz (m_cV (n := 1) (As := [.int t17]) (rest := []) X hSt hP hS hl.1 (c_X8_isLaid l G  err18) k_c_yX8_isLaid k_m_X8_403 k_i_yX8_isLaid k_s_yX8_isLaid k_n_X8 (by decide +kernel) (m_rc8 hSt hP m_z_172) rfl rfl ⟨Nat.le_of_ble_eq_true rfl, Nat.le_of_ble_eq_true rfl⟩ (Nat.le_of_ble_eq_true rfl) ⟨Nat.zero_le _, Nat.zero_le _⟩ dX8_layLine_28) hS (fun H locs hP hS hz19 => ?_)
        refine lv_if_eq (tgt := 46) X.1 X.2.1 dX8_layLine_31 (by decide) (fun hc20 => ?_) (fun hc20 => ?_)
        · have hres := m_it hres hc20
          refine lv_iconst (v := 0) X.1 X.2.1 dX8_layLine_46 (by decide) ?_
          exact B47 (f_X8_layLine_b7 n x1 u) ih x2 t17 0 M _ _ _ hP hS (lv_sub hl [1, 2, 0] rfl) hres
        · have hres := m_if hres hc20
          refine lv_aload_n X.1 X.2.1 dX8_layLine_34 rfl (lv_at hl 1 rfl) ?_
          refine lv_iload_n X.1 X.2.1 dX8_layLine_35 rfl (lv_at hl 0 rfl) ?_
          obtain ⟨r21, err21, hres⟩ := m_ob_e hres
          refine m_bz (m_cV (n := 1) (As := [.int t17]) (rest := []) X hSt hP hS hl.1 (c_X8_isOpen l G  err21) k_c_yX8_isOpen k_m_X8_373 k_i_yX8_isOpen k_s_yX8_isOpen k_n_X8 (by decide +kernel) (m_rc8 hSt hP m_z_172) rfl rfl ⟨Nat.le_of_ble_eq_true rfl, Nat.le_of_ble_eq_true rfl⟩ (Nat.le_of_ble_eq_true rfl) ⟨Nat.zero_le _, Nat.zero_le _⟩ dX8_layLine_36) hS (fun H locs hP hS hz22 => ?_)
          refine lv_if_eq (tgt := 46) X.1 X.2.1 dX8_layLine_39 (by decide) (fun hc23 => ?_) (fun hc23 => ?_)
          · have hres := m_it hres hc23
            refine lv_iconst (v := 0) X.1 X.2.1 dX8_layLine_46 (by decide) ?_
            exact B47 (f_X8_layLine_b7 n x1 u) ih x2 t17 0 M _ _ _ hP hS (lv_sub hl [1, 2, 0] rfl) hres
          · have hres := m_if hres hc23
            refine lv_iconst (v := 1) X.1 X.2.1 dX8_layLine_42 (by decide) ?_
            refine lv_goto (tgt := 47) X.1 X.2.1 dX8_layLine_43 (by decide) ?_
            exact B47 (f_X8_layLine_b7 n x1 u) ih x2 t17 1 M _ _ _ hP hS (lv_sub hl [1, 2, 0] rfl) hres
  unfold f_X8_layLine at hres
  refine lv_aload_n X.1 X.2.1 dX8_layLine_0 rfl (lv_at hl 0 rfl) ?_
  refine lv_iload_n X.1 X.2.1 dX8_layLine_1 rfl (lv_at hl 1 rfl) ?_
  obtain ⟨M24, eM24, hres⟩ := m_ob_e hres
  refine m_bv (m_cV (n := 1) (As := [.int x1]) (rest := []) X hSt hP hS hl.1 (c_X8_layToday l G  eM24) k_c_yX8_layToday k_m_X8_350 k_i_yX8_layToday k_s_yX8_layToday k_n_X8 (by decide +kernel) (m_rc8 hSt hP m_z_172) rfl rfl ⟨Nat.le_of_ble_eq_true rfl, Nat.le_of_ble_eq_true rfl⟩ (Nat.le_of_ble_eq_true rfl) ⟨Nat.zero_le _, Nat.zero_le _⟩ dX8_layLine_2) hS (fun H locs hP hS => ?_)
  refine lv_iconst (v := 0) X.1 X.2.1 dX8_layLine_5 (by decide) ?_
  refine lv_istore_n (lv' := [(2, .int 0), (0, .ref (m_ad G 172)), (1, .int x1)]) X.1 X.2.1 dX8_layLine_6 rfl hl (by decide) rfl (fun ls hl => ?_)
  exact B7 n 0 M24 _ _ _ hP hS (lv_sub hl [1, 0] rfl) hres
theorem dX8_line_0 : decode cX8_line 0 = .ok (.aload_n 0, 1) := by decide +kernel
theorem dX8_line_1 : decode cX8_line 1 = .ok (.bipush 31, 2) := by decide +kernel
theorem dX8_line_3 : decode cX8_line 3 = .ok (.putfield 72, 3) := by decide +kernel
theorem dX8_line_6 : decode cX8_line 6 = .ok (.aload_n 0, 1) := by decide +kernel
theorem dX8_line_7 : decode cX8_line 7 = .ok (.sipush 999, 3) := by decide +kernel
theorem dX8_line_10 : decode cX8_line 10 = .ok (.invokevirtual 174, 3) := by decide +kernel
theorem dX8_line_13 : decode cX8_line 13 = .ok (.aload_n 0, 1) := by decide +kernel
theorem dX8_line_14 : decode cX8_line 14 = .ok (.iload_n 1, 1) := by decide +kernel
theorem dX8_line_15 : decode cX8_line 15 = .ok (.invokevirtual 158, 3) := by decide +kernel
theorem dX8_line_18 : decode cX8_line 18 = .ok (.ifCond .ne 6, 3) := by decide +kernel
theorem dX8_line_21 : decode cX8_line 21 = .ok (.bipush (-2), 2) := by decide +kernel
theorem dX8_line_23 : decode cX8_line 23 = .ok (.ireturn, 1) := by decide +kernel
theorem dX8_line_24 : decode cX8_line 24 = .ok (.iconst 0, 1) := by decide +kernel
theorem dX8_line_25 : decode cX8_line 25 = .ok (.istore_n 2, 1) := by decide +kernel
theorem dX8_line_26 : decode cX8_line 26 = .ok (.iload_n 2, 1) := by decide +kernel
theorem dX8_line_27 : decode cX8_line 27 = .ok (.aload_n 0, 1) := by decide +kernel
theorem dX8_line_28 : decode cX8_line 28 = .ok (.invokevirtual 400, 3) := by decide +kernel
theorem dX8_line_31 : decode cX8_line 31 = .ok (.if_icmp .ge 26, 3) := by decide +kernel
theorem dX8_line_34 : decode cX8_line 34 = .ok (.aload_n 0, 1) := by decide +kernel
theorem dX8_line_35 : decode cX8_line 35 = .ok (.getfield 7, 3) := by decide +kernel
theorem dX8_line_38 : decode cX8_line 38 = .ok (.sipush 462, 3) := by decide +kernel
theorem dX8_line_41 : decode cX8_line 41 = .ok (.iload_n 2, 1) := by decide +kernel
theorem dX8_line_42 : decode cX8_line 42 = .ok (.iadd, 1) := by decide +kernel
theorem dX8_line_43 : decode cX8_line 43 = .ok (.iaload, 1) := by decide +kernel
theorem dX8_line_44 : decode cX8_line 44 = .ok (.iload_n 1, 1) := by decide +kernel
theorem dX8_line_45 : decode cX8_line 45 = .ok (.if_icmp .ne 6, 3) := by decide +kernel
theorem dX8_line_48 : decode cX8_line 48 = .ok (.bipush (-3), 2) := by decide +kernel
theorem dX8_line_50 : decode cX8_line 50 = .ok (.ireturn, 1) := by decide +kernel
theorem dX8_line_51 : decode cX8_line 51 = .ok (.iinc 2 1, 3) := by decide +kernel
theorem dX8_line_54 : decode cX8_line 54 = .ok (.goto (-28), 3) := by decide +kernel
theorem dX8_line_57 : decode cX8_line 57 = .ok (.aload_n 0, 1) := by decide +kernel
theorem dX8_line_58 : decode cX8_line 58 = .ok (.invokevirtual 400, 3) := by decide +kernel
theorem dX8_line_61 : decode cX8_line 61 = .ok (.bipush 6, 2) := by decide +kernel
theorem dX8_line_63 : decode cX8_line 63 = .ok (.if_icmp .ne 6, 3) := by decide +kernel
theorem dX8_line_66 : decode cX8_line 66 = .ok (.bipush (-4), 2) := by decide +kernel
theorem dX8_line_68 : decode cX8_line 68 = .ok (.ireturn, 1) := by decide +kernel
theorem dX8_line_69 : decode cX8_line 69 = .ok (.aload_n 0, 1) := by decide +kernel
theorem dX8_line_70 : decode cX8_line 70 = .ok (.getfield 7, 3) := by decide +kernel
theorem dX8_line_73 : decode cX8_line 73 = .ok (.sipush 462, 3) := by decide +kernel
theorem dX8_line_76 : decode cX8_line 76 = .ok (.aload_n 0, 1) := by decide +kernel
theorem dX8_line_77 : decode cX8_line 77 = .ok (.invokevirtual 400, 3) := by decide +kernel
theorem dX8_line_80 : decode cX8_line 80 = .ok (.iadd, 1) := by decide +kernel
theorem dX8_line_81 : decode cX8_line 81 = .ok (.iload_n 1, 1) := by decide +kernel
theorem dX8_line_82 : decode cX8_line 82 = .ok (.iastore, 1) := by decide +kernel
theorem dX8_line_83 : decode cX8_line 83 = .ok (.aload_n 0, 1) := by decide +kernel
theorem dX8_line_84 : decode cX8_line 84 = .ok (.getfield 7, 3) := by decide +kernel
theorem dX8_line_87 : decode cX8_line 87 = .ok (.sipush 470, 3) := by decide +kernel
theorem dX8_line_90 : decode cX8_line 90 = .ok (.dup2, 1) := by decide +kernel
theorem dX8_line_91 : decode cX8_line 91 = .ok (.iaload, 1) := by decide +kernel
theorem dX8_line_92 : decode cX8_line 92 = .ok (.iconst 1, 1) := by decide +kernel
theorem dX8_line_93 : decode cX8_line 93 = .ok (.iadd, 1) := by decide +kernel
theorem dX8_line_94 : decode cX8_line 94 = .ok (.iastore, 1) := by decide +kernel
theorem dX8_line_95 : decode cX8_line 95 = .ok (.aload_n 0, 1) := by decide +kernel
theorem dX8_line_96 : decode cX8_line 96 = .ok (.invokevirtual 400, 3) := by decide +kernel
theorem dX8_line_99 : decode cX8_line 99 = .ok (.ireturn, 1) := by decide +kernel
def f_X8_line_b26 (n : Nat) (x1 : Int32) : Nat → Int32 → m_M → Option (Int32 × m_M)
  | 0, _, _ => none
  | u + 1, x2, M =>
    m_bd (f_X8_lined M) fun r1 =>
  if r1 ≤ x2 then
  m_bd (f_X8_lined M) fun r3 =>
  if r3 = 6 then
  some ((-4), M)
  else
  m_bd (f_X8_lined M) fun r5 =>
  m_gd (m_in ((462 : Int32) + r5) 471) (
  m_bd (m_sI M 173 (((462 : Int32) + r5).toNatClampNeg) x1) fun M7 =>
  m_bd (m_sI M7 173 470 ((M7.1 173 470) + (1 : Int32))) fun M8 =>
  m_bd (f_X8_lined M8) fun r9 =>
  some (r9, M8))
  else
  m_gd (m_in ((462 : Int32) + x2) 471) (
  if (M.1 173 (((462 : Int32) + x2).toNatClampNeg)) = x1 then
  some ((-3), M)
  else
  f_X8_line_b26 n x1 u (x2 + 1) M)
def f_X8_line (n : Nat) (x1 : Int32) (M : m_M) : Option (Int32 × m_M) :=
  m_bd (m_sI M 172 24 31) fun M12 =>
  m_ob (f_X8_layDay n 999 M12) fun M13 =>
  m_bd (f_X8_isDeal x1 M13) fun r14 =>
  if r14 = 0 then
  some ((-2), M13)
  else
  f_X8_line_b26 n x1 n 0 M13
set_option maxHeartbeats 4000000 in
set_option maxRecDepth 100000 in
theorem c_X8_line (l : Launch) (G : m_G) {n : Nat} {x1 : Int32} {M : m_M} {r0 : Int32} {M0 : m_M}  (hres : f_X8_line n x1 M = some (r0, M0)) : Met l yX8_line (m_U yX8_line cX8_line 3 (some .int)) (m_R 3 72) (m_Pc G [.ref (m_ad G 172), .int x1] M) (m_Qi G r0 M0) 0 0 (m_A G) := by
  refine m_i0 (n := 3) RX8 rfl (by decide) (Nat.le_of_ble_eq_true rfl) ?_
  intro p e s m args below meth c X hr hlk hSt hP hS ls hl
  have hl : lv_has ls 3 [(0, .ref (m_ad G 172)), (1, .int x1)] := hl
  have B26 : ∀ (u : Nat) (x2 : Int32) (M : m_M) (H : Heap) (locs : List Loc) (ls : Array Slot), m_P G M H → va_S (m_A G) s.heap H locs → lv_has ls 3 [(0, .ref (m_ad G 172)), (1, .int x1), (2, .int x2)] → f_X8_line_b26 n x1 u x2 M = some (r0, M0) → W p l e (m_R 3 72) s m args below meth c H locs 0 0 (MQ below (m_Qi G r0 M0) args s 0 0 (m_A G)) (F0 m 26 ls []) := by
    intro u
    induction u with
    | zero =>
      intro x2 M H locs ls hP hS hl hres
      cases hres
    | succ u ih =>
      intro x2 M H locs ls hP hS hl hres
      rw [f_X8_line_b26] at hres
      refine lv_iload_n X.1 X.2.1 dX8_line_26 rfl (lv_at hl 2 rfl) ?_
      refine lv_aload_n X.1 X.2.1 dX8_line_27 rfl (lv_at hl 0 rfl) ?_
      obtain ⟨r1, err1, hres⟩ := m_bd_e hres
      refine m_bi (m_cV (n := 0) (As := []) (rest := [.int x2]) X hSt hP hS hl.1 (c_X8_lined l G  err1) k_c_yX8_lined k_m_X8_400 k_i_yX8_lined k_s_yX8_lined k_n_X8 (by decide +kernel) (m_rc8 hSt hP m_z_172) rfl rfl ⟨Nat.le_of_ble_eq_true rfl, Nat.le_of_ble_eq_true rfl⟩ (Nat.le_of_ble_eq_true rfl) ⟨Nat.zero_le _, Nat.zero_le _⟩ dX8_line_28) hS (fun H locs hP hS => ?_)
      refine lv_icmp_ge (tgt := 57) X.1 X.2.1 dX8_line_31 (by decide) (fun hc2 => ?_) (fun hc2 => ?_)
      · have hres := m_it hres hc2
        refine lv_aload_n X.1 X.2.1 dX8_line_57 rfl (lv_at hl 0 rfl) ?_
        obtain ⟨r3, err3, hres⟩ := m_bd_e hres
        refine m_bi (m_cV (n := 0) (As := []) (rest := []) X hSt hP hS hl.1 (c_X8_lined l G  err3) k_c_yX8_lined k_m_X8_400 k_i_yX8_lined k_s_yX8_lined k_n_X8 (by decide +kernel) (m_rc8 hSt hP m_z_172) rfl rfl ⟨Nat.le_of_ble_eq_true rfl, Nat.le_of_ble_eq_true rfl⟩ (Nat.le_of_ble_eq_true rfl) ⟨Nat.zero_le _, Nat.zero_le _⟩ dX8_line_58) hS (fun H locs hP hS => ?_)
        refine lv_bipush (v := 6) X.1 X.2.1 dX8_line_61 (by decide) ?_
        refine lv_icmp_ne (tgt := 69) X.1 X.2.1 dX8_line_63 (by decide) (fun hc4 => ?_) (fun hc4 => ?_)
        · have hres := m_if hres hc4
          refine lv_aload_n X.1 X.2.1 dX8_line_69 rfl (lv_at hl 0 rfl) ?_
          refine m_g8 (v := .ref (m_ad G 173)) X hSt hP m_z_172 0 (by decide) rfl k_f_X8_7 dX8_line_70 ?_
          refine lv_sipush (v := 462) X.1 X.2.1 dX8_line_73 (by decide) ?_
          refine lv_aload_n X.1 X.2.1 dX8_line_76 rfl (lv_at hl 0 rfl) ?_
          obtain ⟨r5, err5, hres⟩ := m_bd_e hres
          refine m_bi (m_cV (n := 0) (As := []) (rest := [.int 462, .ref (m_ad G 173)]) X hSt hP hS hl.1 (c_X8_lined l G  err5) k_c_yX8_lined k_m_X8_400 k_i_yX8_lined k_s_yX8_lined k_n_X8 (by decide +kernel) (m_rc8 hSt hP m_z_172) rfl rfl ⟨Nat.le_of_ble_eq_true rfl, Nat.le_of_ble_eq_true rfl⟩ (Nat.le_of_ble_eq_true rfl) ⟨Nat.zero_le _, Nat.zero_le _⟩ dX8_line_77) hS (fun H locs hP hS => ?_)
          refine lv_iadd X.1 X.2.1 dX8_line_80 ?_
          refine lv_iload_n X.1 X.2.1 dX8_line_81 rfl (lv_at hl 1 rfl) ?_
          obtain ⟨hg6, hres⟩ := m_gd_e hres
          obtain ⟨M7, eM7, hres⟩ := m_bd_e hres
          refine m_is (j := (((462 : Int32) + r5).toNatClampNeg)) X hSt hP hS m_z_173 hg6 rfl dX8_line_82 eM7 (fun H locs hP hS => ?_)
          refine lv_aload_n X.1 X.2.1 dX8_line_83 rfl (lv_at hl 0 rfl) ?_
          refine m_g8 (v := .ref (m_ad G 173)) X hSt hP m_z_172 0 (by decide) rfl k_f_X8_7 dX8_line_84 ?_
          refine lv_sipush (v := 470) X.1 X.2.1 dX8_line_87 (by decide) ?_
          refine lv_dup2_11 X.1 X.2.1 dX8_line_90 rfl rfl ?_
          refine m_ia (j := 470) X hSt hP m_z_173 (by decide +kernel) (by decide +kernel) dX8_line_91 ?_
          refine lv_iconst (v := 1) X.1 X.2.1 dX8_line_92 (by decide) ?_
          refine lv_iadd X.1 X.2.1 dX8_line_93 ?_
          obtain ⟨M8, eM8, hres⟩ := m_bd_e hres
          refine m_is (j := 470) X hSt hP hS m_z_173 (by decide +kernel) (by decide +kernel) dX8_line_94 eM8 (fun H locs hP hS => ?_)
          refine lv_aload_n X.1 X.2.1 dX8_line_95 rfl (lv_at hl 0 rfl) ?_
          obtain ⟨r9, err9, hres⟩ := m_bd_e hres
          refine m_bi (m_cV (n := 0) (As := []) (rest := []) X hSt hP hS hl.1 (c_X8_lined l G  err9) k_c_yX8_lined k_m_X8_400 k_i_yX8_lined k_s_yX8_lined k_n_X8 (by decide +kernel) (m_rc8 hSt hP m_z_172) rfl rfl ⟨Nat.le_of_ble_eq_true rfl, Nat.le_of_ble_eq_true rfl⟩ (Nat.le_of_ble_eq_true rfl) ⟨Nat.zero_le _, Nat.zero_le _⟩ dX8_line_96) hS (fun H locs hP hS => ?_)
          exact m_ri X hr hlk hP hS (Prod.mk.inj (Option.some.inj hres)).1 (Prod.mk.inj (Option.some.inj hres)).2 dX8_line_99
        · have hres := m_it hres hc4
          refine lv_bipush (v := (-4)) X.1 X.2.1 dX8_line_66 (by decide) ?_
          exact m_ri X hr hlk hP hS (Prod.mk.inj (Option.some.inj hres)).1 (Prod.mk.inj (Option.some.inj hres)).2 dX8_line_68
      · have hres := m_if hres hc2
        refine lv_aload_n X.1 X.2.1 dX8_line_34 rfl (lv_at hl 0 rfl) ?_
        refine m_g8 (v := .ref (m_ad G 173)) X hSt hP m_z_172 0 (by decide) rfl k_f_X8_7 dX8_line_35 ?_
        refine lv_sipush (v := 462) X.1 X.2.1 dX8_line_38 (by decide) ?_
        refine lv_iload_n X.1 X.2.1 dX8_line_41 rfl (lv_at hl 2 rfl) ?_
        refine lv_iadd X.1 X.2.1 dX8_line_42 ?_
        obtain ⟨hg10, hres⟩ := m_gd_e hres
        refine m_ia (j := (((462 : Int32) + x2).toNatClampNeg)) X hSt hP m_z_173 hg10 rfl dX8_line_43 ?_
        refine lv_iload_n X.1 X.2.1 dX8_line_44 rfl (lv_at hl 1 rfl) ?_
        refine lv_icmp_ne (tgt := 51) X.1 X.2.1 dX8_line_45 (by decide) (fun hc11 => ?_) (fun hc11 => ?_)
        · have hres := m_if hres hc11
          refine lv_iinc (v := (x2 + 1)) (lv' := [(2, .int (x2 + 1)), (0, .ref (m_ad G 172)), (1, .int x1)]) X.1 X.2.1 dX8_line_51 hl (k := 2) rfl rfl (by decide) rfl (fun ls hl => ?_)
          refine lv_goto (tgt := 26) X.1 X.2.1 dX8_line_54 (by decide) ?_
          exact ih (x2 + 1) M _ _ _ hP hS (lv_sub hl [1, 2, 0] rfl) hres
        · have hres := m_it hres hc11
          refine lv_bipush (v := (-3)) X.1 X.2.1 dX8_line_48 (by decide) ?_
          exact m_ri X hr hlk hP hS (Prod.mk.inj (Option.some.inj hres)).1 (Prod.mk.inj (Option.some.inj hres)).2 dX8_line_50
  unfold f_X8_line at hres
  refine lv_aload_n X.1 X.2.1 dX8_line_0 rfl (lv_at hl 0 rfl) ?_
  refine lv_bipush (v := 31) X.1 X.2.1 dX8_line_1 (by decide) ?_
  obtain ⟨M12, eM12, hres⟩ := m_bd_e hres
  refine m_pi8 X hSt hP hS m_z_172 24 (by decide) eM12 rfl rfl (by decide) k_f_X8_72 dX8_line_3 (fun H locs hP hS => ?_)
  refine lv_aload_n X.1 X.2.1 dX8_line_6 rfl (lv_at hl 0 rfl) ?_
  refine lv_sipush (v := 999) X.1 X.2.1 dX8_line_7 (by decide) ?_
  obtain ⟨M13, eM13, hres⟩ := m_ob_e hres
  refine m_bv (m_cV (n := 1) (As := [.int 999]) (rest := []) X hSt hP hS hl.1 (c_X8_layDay l G  eM13) k_c_yX8_layDay k_m_X8_174 k_i_yX8_layDay k_s_yX8_layDay k_n_X8 (by decide +kernel) (m_rc8 hSt hP m_z_172) rfl rfl ⟨Nat.le_of_ble_eq_true rfl, Nat.le_of_ble_eq_true rfl⟩ (Nat.le_of_ble_eq_true rfl) ⟨Nat.zero_le _, Nat.zero_le _⟩ dX8_line_10) hS (fun H locs hP hS => ?_)
  refine lv_aload_n X.1 X.2.1 dX8_line_13 rfl (lv_at hl 0 rfl) ?_
  refine lv_iload_n X.1 X.2.1 dX8_line_14 rfl (lv_at hl 1 rfl) ?_
  obtain ⟨r14, err14, hres⟩ := m_bd_e hres
  refine m_bz (m_cV (n := 1) (As := [.int x1]) (rest := []) X hSt hP hS hl.1 (c_X8_isDeal l G  err14) k_c_yX8_isDeal k_m_X8_158 k_i_yX8_isDeal k_s_yX8_isDeal k_n_X8 (by decide +kernel) (m_rc8 hSt hP m_z_172) rfl rfl ⟨Nat.le_of_ble_eq_true rfl, Nat.le_of_ble_eq_true rfl⟩ (Nat.le_of_ble_eq_true rfl) ⟨Nat.zero_le _, Nat.zero_le _⟩ dX8_line_15) hS (fun H locs hP hS hz15 => ?_)
  refine lv_if_ne (tgt := 24) X.1 X.2.1 dX8_line_18 (by decide) (fun hc16 => ?_) (fun hc16 => ?_)
  · have hres := m_if hres hc16
    refine lv_iconst (v := 0) X.1 X.2.1 dX8_line_24 (by decide) ?_
    refine lv_istore_n (lv' := [(2, .int 0), (0, .ref (m_ad G 172)), (1, .int x1)]) X.1 X.2.1 dX8_line_25 rfl hl (by decide) rfl (fun ls hl => ?_)
    exact B26 n 0 M13 _ _ _ hP hS (lv_sub hl [1, 2, 0] rfl) hres
  · have hres := m_it hres hc16
    refine lv_bipush (v := (-2)) X.1 X.2.1 dX8_line_21 (by decide) ?_
    exact m_ri X hr hlk hP hS (Prod.mk.inj (Option.some.inj hres)).1 (Prod.mk.inj (Option.some.inj hres)).2 dX8_line_23
theorem dX8_look_0 : decode cX8_look 0 = .ok (.aload_n 0, 1) := by decide +kernel
theorem dX8_look_1 : decode cX8_look 1 = .ok (.iload_n 1, 1) := by decide +kernel
theorem dX8_look_2 : decode cX8_look 2 = .ok (.putfield 209, 3) := by decide +kernel
theorem dX8_look_5 : decode cX8_look 5 = .ok (.aload_n 0, 1) := by decide +kernel
theorem dX8_look_6 : decode cX8_look 6 = .ok (.getfield 209, 3) := by decide +kernel
theorem dX8_look_9 : decode cX8_look 9 = .ok (.aload_n 0, 1) := by decide +kernel
theorem dX8_look_10 : decode cX8_look 10 = .ok (.getfield 196, 3) := by decide +kernel
theorem dX8_look_13 : decode cX8_look 13 = .ok (.if_icmp .ge 30, 3) := by decide +kernel
theorem dX8_look_16 : decode cX8_look 16 = .ok (.aload_n 0, 1) := by decide +kernel
theorem dX8_look_17 : decode cX8_look 17 = .ok (.getfield 20, 3) := by decide +kernel
theorem dX8_look_20 : decode cX8_look 20 = .ok (.aload_n 0, 1) := by decide +kernel
theorem dX8_look_21 : decode cX8_look 21 = .ok (.getfield 209, 3) := by decide +kernel
theorem dX8_look_24 : decode cX8_look 24 = .ok (.iaload, 1) := by decide +kernel
theorem dX8_look_25 : decode cX8_look 25 = .ok (.bipush 32, 2) := by decide +kernel
theorem dX8_look_27 : decode cX8_look 27 = .ok (.if_icmp .ne 16, 3) := by decide +kernel
theorem dX8_look_30 : decode cX8_look 30 = .ok (.aload_n 0, 1) := by decide +kernel
theorem dX8_look_31 : decode cX8_look 31 = .ok (.dup, 1) := by decide +kernel
theorem dX8_look_32 : decode cX8_look 32 = .ok (.getfield 209, 3) := by decide +kernel
theorem dX8_look_35 : decode cX8_look 35 = .ok (.iconst 1, 1) := by decide +kernel
theorem dX8_look_36 : decode cX8_look 36 = .ok (.iadd, 1) := by decide +kernel
theorem dX8_look_37 : decode cX8_look 37 = .ok (.putfield 209, 3) := by decide +kernel
theorem dX8_look_40 : decode cX8_look 40 = .ok (.goto (-35), 3) := by decide +kernel
theorem dX8_look_43 : decode cX8_look 43 = .ok (.aload_n 0, 1) := by decide +kernel
theorem dX8_look_44 : decode cX8_look 44 = .ok (.iconst 0, 1) := by decide +kernel
theorem dX8_look_45 : decode cX8_look 45 = .ok (.putfield 212, 3) := by decide +kernel
theorem dX8_look_48 : decode cX8_look 48 = .ok (.aload_n 0, 1) := by decide +kernel
theorem dX8_look_49 : decode cX8_look 49 = .ok (.iconst 0, 1) := by decide +kernel
theorem dX8_look_50 : decode cX8_look 50 = .ok (.putfield 215, 3) := by decide +kernel
theorem dX8_look_53 : decode cX8_look 53 = .ok (.aload_n 0, 1) := by decide +kernel
theorem dX8_look_54 : decode cX8_look 54 = .ok (.getfield 209, 3) := by decide +kernel
theorem dX8_look_57 : decode cX8_look 57 = .ok (.aload_n 0, 1) := by decide +kernel
theorem dX8_look_58 : decode cX8_look 58 = .ok (.getfield 196, 3) := by decide +kernel
theorem dX8_look_61 : decode cX8_look 61 = .ok (.if_icmp .ne 9, 3) := by decide +kernel
theorem dX8_look_64 : decode cX8_look 64 = .ok (.aload_n 0, 1) := by decide +kernel
theorem dX8_look_65 : decode cX8_look 65 = .ok (.iconst 0, 1) := by decide +kernel
theorem dX8_look_66 : decode cX8_look 66 = .ok (.putfield 218, 3) := by decide +kernel
theorem dX8_look_69 : decode cX8_look 69 = .ok (.return_, 1) := by decide +kernel
theorem dX8_look_70 : decode cX8_look 70 = .ok (.aload_n 0, 1) := by decide +kernel
theorem dX8_look_71 : decode cX8_look 71 = .ok (.getfield 20, 3) := by decide +kernel
theorem dX8_look_74 : decode cX8_look 74 = .ok (.aload_n 0, 1) := by decide +kernel
theorem dX8_look_75 : decode cX8_look 75 = .ok (.getfield 209, 3) := by decide +kernel
theorem dX8_look_78 : decode cX8_look 78 = .ok (.iaload, 1) := by decide +kernel
theorem dX8_look_79 : decode cX8_look 79 = .ok (.istore_n 2, 1) := by decide +kernel
theorem dX8_look_80 : decode cX8_look 80 = .ok (.aload_n 0, 1) := by decide +kernel
theorem dX8_look_81 : decode cX8_look 81 = .ok (.iconst 1, 1) := by decide +kernel
theorem dX8_look_82 : decode cX8_look 82 = .ok (.putfield 212, 3) := by decide +kernel
theorem dX8_look_85 : decode cX8_look 85 = .ok (.aload_n 0, 1) := by decide +kernel
theorem dX8_look_86 : decode cX8_look 86 = .ok (.iload_n 2, 1) := by decide +kernel
theorem dX8_look_87 : decode cX8_look 87 = .ok (.invokestatic 221, 3) := by decide +kernel
theorem dX8_look_90 : decode cX8_look 90 = .ok (.ifCond .eq 7, 3) := by decide +kernel
theorem dX8_look_93 : decode cX8_look 93 = .ok (.iconst 1, 1) := by decide +kernel
theorem dX8_look_94 : decode cX8_look 94 = .ok (.goto 35, 3) := by decide +kernel
theorem dX8_look_97 : decode cX8_look 97 = .ok (.iload_n 2, 1) := by decide +kernel
theorem dX8_look_98 : decode cX8_look 98 = .ok (.invokestatic 224, 3) := by decide +kernel
theorem dX8_look_101 : decode cX8_look 101 = .ok (.ifCond .eq 7, 3) := by decide +kernel
theorem dX8_look_104 : decode cX8_look 104 = .ok (.iconst 2, 1) := by decide +kernel
theorem dX8_look_105 : decode cX8_look 105 = .ok (.goto 24, 3) := by decide +kernel
theorem dX8_look_108 : decode cX8_look 108 = .ok (.iload_n 2, 1) := by decide +kernel
theorem dX8_look_109 : decode cX8_look 109 = .ok (.bipush 45, 2) := by decide +kernel
theorem dX8_look_111 : decode cX8_look 111 = .ok (.if_icmp .ne 7, 3) := by decide +kernel
theorem dX8_look_114 : decode cX8_look 114 = .ok (.iconst 3, 1) := by decide +kernel
theorem dX8_look_115 : decode cX8_look 115 = .ok (.goto 14, 3) := by decide +kernel
theorem dX8_look_118 : decode cX8_look 118 = .ok (.iload_n 2, 1) := by decide +kernel
theorem dX8_look_119 : decode cX8_look 119 = .ok (.bipush 59, 2) := by decide +kernel
theorem dX8_look_121 : decode cX8_look 121 = .ok (.if_icmp .ne 7, 3) := by decide +kernel
theorem dX8_look_124 : decode cX8_look 124 = .ok (.iconst 4, 1) := by decide +kernel
theorem dX8_look_125 : decode cX8_look 125 = .ok (.goto 4, 3) := by decide +kernel
theorem dX8_look_128 : decode cX8_look 128 = .ok (.iconst 5, 1) := by decide +kernel
theorem dX8_look_129 : decode cX8_look 129 = .ok (.putfield 218, 3) := by decide +kernel
theorem dX8_look_132 : decode cX8_look 132 = .ok (.aload_n 0, 1) := by decide +kernel
theorem dX8_look_133 : decode cX8_look 133 = .ok (.getfield 218, 3) := by decide +kernel
theorem dX8_look_136 : decode cX8_look 136 = .ok (.iconst 3, 1) := by decide +kernel
theorem dX8_look_137 : decode cX8_look 137 = .ok (.if_icmp .ge 83, 3) := by decide +kernel
theorem dX8_look_140 : decode cX8_look 140 = .ok (.aload_n 0, 1) := by decide +kernel
theorem dX8_look_141 : decode cX8_look 141 = .ok (.getfield 209, 3) := by decide +kernel
theorem dX8_look_144 : decode cX8_look 144 = .ok (.aload_n 0, 1) := by decide +kernel
theorem dX8_look_145 : decode cX8_look 145 = .ok (.getfield 212, 3) := by decide +kernel
theorem dX8_look_148 : decode cX8_look 148 = .ok (.iadd, 1) := by decide +kernel
theorem dX8_look_149 : decode cX8_look 149 = .ok (.aload_n 0, 1) := by decide +kernel
theorem dX8_look_150 : decode cX8_look 150 = .ok (.getfield 196, 3) := by decide +kernel
theorem dX8_look_153 : decode cX8_look 153 = .ok (.if_icmp .ge 67, 3) := by decide +kernel
theorem dX8_look_156 : decode cX8_look 156 = .ok (.aload_n 0, 1) := by decide +kernel
theorem dX8_look_157 : decode cX8_look 157 = .ok (.getfield 218, 3) := by decide +kernel
theorem dX8_look_160 : decode cX8_look 160 = .ok (.iconst 1, 1) := by decide +kernel
theorem dX8_look_161 : decode cX8_look 161 = .ok (.if_icmp .ne 26, 3) := by decide +kernel
theorem dX8_look_164 : decode cX8_look 164 = .ok (.aload_n 0, 1) := by decide +kernel
theorem dX8_look_165 : decode cX8_look 165 = .ok (.getfield 20, 3) := by decide +kernel
theorem dX8_look_168 : decode cX8_look 168 = .ok (.aload_n 0, 1) := by decide +kernel
theorem dX8_look_169 : decode cX8_look 169 = .ok (.getfield 209, 3) := by decide +kernel
theorem dX8_look_172 : decode cX8_look 172 = .ok (.aload_n 0, 1) := by decide +kernel
theorem dX8_look_173 : decode cX8_look 173 = .ok (.getfield 212, 3) := by decide +kernel
theorem dX8_look_176 : decode cX8_look 176 = .ok (.iadd, 1) := by decide +kernel
theorem dX8_look_177 : decode cX8_look 177 = .ok (.iaload, 1) := by decide +kernel
theorem dX8_look_178 : decode cX8_look 178 = .ok (.invokestatic 221, 3) := by decide +kernel
theorem dX8_look_181 : decode cX8_look 181 = .ok (.ifCond .eq 39, 3) := by decide +kernel
theorem dX8_look_184 : decode cX8_look 184 = .ok (.goto 23, 3) := by decide +kernel
theorem dX8_look_187 : decode cX8_look 187 = .ok (.aload_n 0, 1) := by decide +kernel
theorem dX8_look_188 : decode cX8_look 188 = .ok (.getfield 20, 3) := by decide +kernel
theorem dX8_look_191 : decode cX8_look 191 = .ok (.aload_n 0, 1) := by decide +kernel
theorem dX8_look_192 : decode cX8_look 192 = .ok (.getfield 209, 3) := by decide +kernel
theorem dX8_look_195 : decode cX8_look 195 = .ok (.aload_n 0, 1) := by decide +kernel
theorem dX8_look_196 : decode cX8_look 196 = .ok (.getfield 212, 3) := by decide +kernel
theorem dX8_look_199 : decode cX8_look 199 = .ok (.iadd, 1) := by decide +kernel
theorem dX8_look_200 : decode cX8_look 200 = .ok (.iaload, 1) := by decide +kernel
theorem dX8_look_201 : decode cX8_look 201 = .ok (.invokestatic 224, 3) := by decide +kernel
theorem dX8_look_204 : decode cX8_look 204 = .ok (.ifCond .eq 16, 3) := by decide +kernel
theorem dX8_look_207 : decode cX8_look 207 = .ok (.aload_n 0, 1) := by decide +kernel
theorem dX8_look_208 : decode cX8_look 208 = .ok (.dup, 1) := by decide +kernel
theorem dX8_look_209 : decode cX8_look 209 = .ok (.getfield 212, 3) := by decide +kernel
theorem dX8_look_212 : decode cX8_look 212 = .ok (.iconst 1, 1) := by decide +kernel
theorem dX8_look_213 : decode cX8_look 213 = .ok (.iadd, 1) := by decide +kernel
theorem dX8_look_214 : decode cX8_look 214 = .ok (.putfield 212, 3) := by decide +kernel
theorem dX8_look_217 : decode cX8_look 217 = .ok (.goto (-85), 3) := by decide +kernel
theorem dX8_look_220 : decode cX8_look 220 = .ok (.iconst 0, 1) := by decide +kernel
theorem dX8_look_221 : decode cX8_look 221 = .ok (.istore_n 3, 1) := by decide +kernel
theorem dX8_look_222 : decode cX8_look 222 = .ok (.iload_n 3, 1) := by decide +kernel
theorem dX8_look_223 : decode cX8_look 223 = .ok (.aload_n 0, 1) := by decide +kernel
theorem dX8_look_224 : decode cX8_look 224 = .ok (.getfield 212, 3) := by decide +kernel
theorem dX8_look_227 : decode cX8_look 227 = .ok (.if_icmp .ge 55, 3) := by decide +kernel
theorem dX8_look_230 : decode cX8_look 230 = .ok (.aload_n 0, 1) := by decide +kernel
theorem dX8_look_231 : decode cX8_look 231 = .ok (.getfield 218, 3) := by decide +kernel
theorem dX8_look_234 : decode cX8_look 234 = .ok (.iconst 2, 1) := by decide +kernel
theorem dX8_look_235 : decode cX8_look 235 = .ok (.if_icmp .ne 47, 3) := by decide +kernel
theorem dX8_look_238 : decode cX8_look 238 = .ok (.aload_n 0, 1) := by decide +kernel
theorem dX8_look_239 : decode cX8_look 239 = .ok (.iload_n 3, 1) := by decide +kernel
theorem dX8_look_240 : decode cX8_look 240 = .ok (.iconst 4, 1) := by decide +kernel
theorem dX8_look_241 : decode cX8_look 241 = .ok (.if_icmp .ge 28, 3) := by decide +kernel
theorem dX8_look_244 : decode cX8_look 244 = .ok (.bipush 10, 2) := by decide +kernel
theorem dX8_look_246 : decode cX8_look 246 = .ok (.aload_n 0, 1) := by decide +kernel
theorem dX8_look_247 : decode cX8_look 247 = .ok (.getfield 215, 3) := by decide +kernel
theorem dX8_look_250 : decode cX8_look 250 = .ok (.imul, 1) := by decide +kernel
theorem dX8_look_251 : decode cX8_look 251 = .ok (.aload_n 0, 1) := by decide +kernel
theorem dX8_look_252 : decode cX8_look 252 = .ok (.getfield 20, 3) := by decide +kernel
theorem dX8_look_255 : decode cX8_look 255 = .ok (.aload_n 0, 1) := by decide +kernel
theorem dX8_look_256 : decode cX8_look 256 = .ok (.getfield 209, 3) := by decide +kernel
theorem dX8_look_259 : decode cX8_look 259 = .ok (.iload_n 3, 1) := by decide +kernel
theorem dX8_look_260 : decode cX8_look 260 = .ok (.iadd, 1) := by decide +kernel
theorem dX8_look_261 : decode cX8_look 261 = .ok (.iaload, 1) := by decide +kernel
theorem dX8_look_262 : decode cX8_look 262 = .ok (.iadd, 1) := by decide +kernel
theorem dX8_look_263 : decode cX8_look 263 = .ok (.bipush 48, 2) := by decide +kernel
theorem dX8_look_265 : decode cX8_look 265 = .ok (.isub, 1) := by decide +kernel
theorem dX8_look_266 : decode cX8_look 266 = .ok (.goto 7, 3) := by decide +kernel
theorem dX8_look_269 : decode cX8_look 269 = .ok (.aload_n 0, 1) := by decide +kernel
theorem dX8_look_270 : decode cX8_look 270 = .ok (.getfield 215, 3) := by decide +kernel
theorem dX8_look_273 : decode cX8_look 273 = .ok (.putfield 215, 3) := by decide +kernel
theorem dX8_look_276 : decode cX8_look 276 = .ok (.iinc 3 1, 3) := by decide +kernel
theorem dX8_look_279 : decode cX8_look 279 = .ok (.goto (-57), 3) := by decide +kernel
theorem dX8_look_282 : decode cX8_look 282 = .ok (.aload_n 0, 1) := by decide +kernel
theorem dX8_look_283 : decode cX8_look 283 = .ok (.aload_n 0, 1) := by decide +kernel
theorem dX8_look_284 : decode cX8_look 284 = .ok (.getfield 218, 3) := by decide +kernel
theorem dX8_look_287 : decode cX8_look 287 = .ok (.iconst 2, 1) := by decide +kernel
theorem dX8_look_288 : decode cX8_look 288 = .ok (.if_icmp .ne 15, 3) := by decide +kernel
theorem dX8_look_291 : decode cX8_look 291 = .ok (.aload_n 0, 1) := by decide +kernel
theorem dX8_look_292 : decode cX8_look 292 = .ok (.getfield 212, 3) := by decide +kernel
theorem dX8_look_295 : decode cX8_look 295 = .ok (.iconst 4, 1) := by decide +kernel
theorem dX8_look_296 : decode cX8_look 296 = .ok (.if_icmp .le 7, 3) := by decide +kernel
theorem dX8_look_299 : decode cX8_look 299 = .ok (.iconst 5, 1) := by decide +kernel
theorem dX8_look_300 : decode cX8_look 300 = .ok (.goto 7, 3) := by decide +kernel
theorem dX8_look_303 : decode cX8_look 303 = .ok (.aload_n 0, 1) := by decide +kernel
theorem dX8_look_304 : decode cX8_look 304 = .ok (.getfield 218, 3) := by decide +kernel
theorem dX8_look_307 : decode cX8_look 307 = .ok (.putfield 218, 3) := by decide +kernel
theorem dX8_look_310 : decode cX8_look 310 = .ok (.return_, 1) := by decide +kernel
def f_X8_look_b282 (n : Nat) (x1 : Int32) (M : m_M) : Option m_M :=
  if (M.1 172 29) = 2 then
  if (M.1 172 28) ≤ 4 then
  m_bd (m_sI M 172 29 (M.1 172 29)) fun M4 =>
  some M4
  else
  m_bd (m_sI M 172 29 5) fun M5 =>
  some M5
  else
  m_bd (m_sI M 172 29 (M.1 172 29)) fun M2 =>
  some M2
def f_X8_look_b222 (n : Nat) (x1 : Int32) : Nat → Int32 → m_M → Option m_M
  | 0, _, _ => none
  | u + 1, x3, M =>
    if (M.1 172 28) ≤ x3 then
  f_X8_look_b282 n x1 M
  else
  if (M.1 172 29) = 2 then
  if (4 : Int32) ≤ x3 then
  m_bd (m_sI M 172 30 (M.1 172 30)) fun M9 =>
  f_X8_look_b222 n x1 u (x3 + 1) M9
  else
  m_gd (m_in ((M.1 172 27) + x3) 300) (
  m_bd (m_sI M 172 30 ((((10 : Int32) * (M.1 172 30)) + (M.1 176 (((M.1 172 27) + x3).toNatClampNeg))) - (48 : Int32))) fun M11 =>
  f_X8_look_b222 n x1 u (x3 + 1) M11)
  else
  f_X8_look_b282 n x1 M
def f_X8_look_b207 (n : Nat) (x1 : Int32) (q132 : m_M → Option m_M) (M : m_M) : Option m_M :=
  m_bd (m_sI M 172 28 ((M.1 172 28) + (1 : Int32))) fun M12 =>
  q132 M12
def f_X8_look_b132 (n : Nat) (x1 : Int32) : Nat → m_M → Option m_M
  | 0, _ => none
  | u + 1, M =>
    if (3 : Int32) ≤ (M.1 172 29) then
  f_X8_look_b222 n x1 n 0 M
  else
  if (M.1 172 4) ≤ ((M.1 172 27) + (M.1 172 28)) then
  f_X8_look_b222 n x1 n 0 M
  else
  if (M.1 172 29) = 1 then
  m_gd (m_in ((M.1 172 27) + (M.1 172 28)) 300) (
  m_bd (f_X8_isSmall (M.1 176 (((M.1 172 27) + (M.1 172 28)).toNatClampNeg))) fun r21 =>
  if r21 = 0 then
  f_X8_look_b222 n x1 n 0 M
  else
  f_X8_look_b207 n x1 (f_X8_look_b132 n x1 u) M)
  else
  m_gd (m_in ((M.1 172 27) + (M.1 172 28)) 300) (
  m_bd (f_X8_isFigure (M.1 176 (((M.1 172 27) + (M.1 172 28)).toNatClampNeg))) fun r17 =>
  if r17 = 0 then
  f_X8_look_b222 n x1 n 0 M
  else
  f_X8_look_b207 n x1 (f_X8_look_b132 n x1 u) M)
def f_X8_look_b43 (n : Nat) (x1 : Int32) (M : m_M) : Option m_M :=
  m_bd (m_sI M 172 28 0) fun M24 =>
  m_bd (m_sI M24 172 30 0) fun M25 =>
  if (M25.1 172 27) = (M25.1 172 4) then
  m_bd (m_sI M25 172 29 0) fun M43 =>
  some M43
  else
  m_gd (m_in (M25.1 172 27) 300) (
  m_bd (M25.1 176 ((M25.1 172 27).toNatClampNeg)) fun t28 =>
  m_bd (m_sI M25 172 28 1) fun M29 =>
  m_bd (f_X8_isSmall t28) fun r30 =>
  if r30 = 0 then
  m_bd (f_X8_isFigure t28) fun r33 =>
  if r33 = 0 then
  if t28 = 45 then
  m_bd (m_sI M29 172 29 3) fun M40 =>
  f_X8_look_b132 n x1 n M40
  else
  if t28 = 59 then
  m_bd (m_sI M29 172 29 4) fun M39 =>
  f_X8_look_b132 n x1 n M39
  else
  m_bd (m_sI M29 172 29 5) fun M38 =>
  f_X8_look_b132 n x1 n M38
  else
  m_bd (m_sI M29 172 29 2) fun M41 =>
  f_X8_look_b132 n x1 n M41
  else
  m_bd (m_sI M29 172 29 1) fun M42 =>
  f_X8_look_b132 n x1 n M42)
def f_X8_look_b5 (n : Nat) (x1 : Int32) : Nat → m_M → Option m_M
  | 0, _ => none
  | u + 1, M =>
    if (M.1 172 4) ≤ (M.1 172 27) then
  f_X8_look_b43 n x1 M
  else
  m_gd (m_in (M.1 172 27) 300) (
  if (M.1 176 ((M.1 172 27).toNatClampNeg)) = 32 then
  m_bd (m_sI M 172 27 ((M.1 172 27) + (1 : Int32))) fun M47 =>
  f_X8_look_b5 n x1 u M47
  else
  f_X8_look_b43 n x1 M)
def f_X8_look (n : Nat) (x1 : Int32) (M : m_M) : Option m_M :=
  m_bd (m_sI M 172 27 x1) fun M48 =>
  f_X8_look_b5 n x1 n M48
set_option maxHeartbeats 4000000 in
set_option maxRecDepth 100000 in
theorem c_X8_look (l : Launch) (G : m_G) {n : Nat} {x1 : Int32} {M : m_M} {M0 : m_M}  (hres : f_X8_look n x1 M = some M0) : Met l yX8_look (m_U yX8_look cX8_look 4 none) (m_R 2 45) (m_Pc G [.ref (m_ad G 172), .int x1] M) (m_Qv G M0) 0 0 (m_A G) := by
  refine m_i0 (n := 4) RX8 rfl (by decide) (Nat.le_of_ble_eq_true rfl) ?_
  intro p e s m args below meth c X hr hlk hSt hP hS ls hl
  have hl : lv_has ls 4 [(0, .ref (m_ad G 172)), (1, .int x1)] := hl
  have B282 : ∀  (M : m_M) (H : Heap) (locs : List Loc) (ls : Array Slot), m_P G M H → va_S (m_A G) s.heap H locs → lv_has ls 4 [(0, .ref (m_ad G 172))] → f_X8_look_b282 n x1 M = some M0 → W p l e (m_R 2 45) s m args below meth c H locs 0 0 (MQ below (m_Qv G M0) args s 0 0 (m_A G)) (F0 m 282 ls []) := by
    intro M H locs ls hP hS hl hres
    unfold f_X8_look_b282 at hres
    refine lv_aload_n X.1 X.2.1 dX8_look_282 rfl (lv_at hl 0 rfl) ?_
    refine lv_aload_n X.1 X.2.1 dX8_look_283 rfl (lv_at hl 0 rfl) ?_
    refine m_g8 (v := .int (M.1 172 29)) X hSt hP m_z_172 29 (by decide) rfl k_f_X8_218 dX8_look_284 ?_
    refine lv_iconst (v := 2) X.1 X.2.1 dX8_look_287 (by decide) ?_
    refine lv_icmp_ne (tgt := 303) X.1 X.2.1 dX8_look_288 (by decide) (fun hc1 => ?_) (fun hc1 => ?_)
    · have hres := m_if hres hc1
      refine lv_aload_n X.1 X.2.1 dX8_look_303 rfl (lv_at hl 0 rfl) ?_
      refine m_g8 (v := .int (M.1 172 29)) X hSt hP m_z_172 29 (by decide) rfl k_f_X8_218 dX8_look_304 ?_
      obtain ⟨M2, eM2, hres⟩ := m_bd_e hres
      refine m_pi8 X hSt hP hS m_z_172 29 (by decide) eM2 rfl rfl (by decide) k_f_X8_218 dX8_look_307 (fun H locs hP hS => ?_)
      exact m_rv X hr hlk hP hS (Option.some.inj hres) dX8_look_310
    · have hres := m_it hres hc1
      refine lv_aload_n X.1 X.2.1 dX8_look_291 rfl (lv_at hl 0 rfl) ?_
      refine m_g8 (v := .int (M.1 172 28)) X hSt hP m_z_172 28 (by decide) rfl k_f_X8_212 dX8_look_292 ?_
      refine lv_iconst (v := 4) X.1 X.2.1 dX8_look_295 (by decide) ?_
      refine lv_icmp_le (tgt := 303) X.1 X.2.1 dX8_look_296 (by decide) (fun hc3 => ?_) (fun hc3 => ?_)
      · have hres := m_it hres hc3
        refine lv_aload_n X.1 X.2.1 dX8_look_303 rfl (lv_at hl 0 rfl) ?_
        refine m_g8 (v := .int (M.1 172 29)) X hSt hP m_z_172 29 (by decide) rfl k_f_X8_218 dX8_look_304 ?_
        obtain ⟨M4, eM4, hres⟩ := m_bd_e hres
        refine m_pi8 X hSt hP hS m_z_172 29 (by decide) eM4 rfl rfl (by decide) k_f_X8_218 dX8_look_307 (fun H locs hP hS => ?_)
        exact m_rv X hr hlk hP hS (Option.some.inj hres) dX8_look_310
      · have hres := m_if hres hc3
        refine lv_iconst (v := 5) X.1 X.2.1 dX8_look_299 (by decide) ?_
        refine lv_goto (tgt := 307) X.1 X.2.1 dX8_look_300 (by decide) ?_
        obtain ⟨M5, eM5, hres⟩ := m_bd_e hres
        refine m_pi8 X hSt hP hS m_z_172 29 (by decide) eM5 rfl rfl (by decide) k_f_X8_218 dX8_look_307 (fun H locs hP hS => ?_)
        exact m_rv X hr hlk hP hS (Option.some.inj hres) dX8_look_310
  have B222 : ∀ (u : Nat) (x3 : Int32) (M : m_M) (H : Heap) (locs : List Loc) (ls : Array Slot), m_P G M H → va_S (m_A G) s.heap H locs → lv_has ls 4 [(0, .ref (m_ad G 172)), (3, .int x3)] → f_X8_look_b222 n x1 u x3 M = some M0 → W p l e (m_R 2 45) s m args below meth c H locs 0 0 (MQ below (m_Qv G M0) args s 0 0 (m_A G)) (F0 m 222 ls []) := by
    intro u
    induction u with
    | zero =>
      intro x3 M H locs ls hP hS hl hres
      cases hres
    | succ u ih =>
      intro x3 M H locs ls hP hS hl hres
      rw [f_X8_look_b222] at hres
      refine lv_iload_n X.1 X.2.1 dX8_look_222 rfl (lv_at hl 1 rfl) ?_
      refine lv_aload_n X.1 X.2.1 dX8_look_223 rfl (lv_at hl 0 rfl) ?_
      refine m_g8 (v := .int (M.1 172 28)) X hSt hP m_z_172 28 (by decide) rfl k_f_X8_212 dX8_look_224 ?_
      refine lv_icmp_ge (tgt := 282) X.1 X.2.1 dX8_look_227 (by decide) (fun hc6 => ?_) (fun hc6 => ?_)
      · have hres := m_it hres hc6
        exact B282 M _ _ _ hP hS (lv_sub hl [0] rfl) hres
      · have hres := m_if hres hc6
        refine lv_aload_n X.1 X.2.1 dX8_look_230 rfl (lv_at hl 0 rfl) ?_
        refine m_g8 (v := .int (M.1 172 29)) X hSt hP m_z_172 29 (by decide) rfl k_f_X8_218 dX8_look_231 ?_
        refine lv_iconst (v := 2) X.1 X.2.1 dX8_look_234 (by decide) ?_
        refine lv_icmp_ne (tgt := 282) X.1 X.2.1 dX8_look_235 (by decide) (fun hc7 => ?_) (fun hc7 => ?_)
        · have hres := m_if hres hc7
          exact B282 M _ _ _ hP hS (lv_sub hl [0] rfl) hres
        · have hres := m_it hres hc7
          refine lv_aload_n X.1 X.2.1 dX8_look_238 rfl (lv_at hl 0 rfl) ?_
          refine lv_iload_n X.1 X.2.1 dX8_look_239 rfl (lv_at hl 1 rfl) ?_
          refine lv_iconst (v := 4) X.1 X.2.1 dX8_look_240 (by decide) ?_
          refine lv_icmp_ge (tgt := 269) X.1 X.2.1 dX8_look_241 (by decide) (fun hc8 => ?_) (fun hc8 => ?_)
          · have hres := m_it hres hc8
            refine lv_aload_n X.1 X.2.1 dX8_look_269 rfl (lv_at hl 0 rfl) ?_
            refine m_g8 (v := .int (M.1 172 30)) X hSt hP m_z_172 30 (by decide) rfl k_f_X8_215 dX8_look_270 ?_
            obtain ⟨M9, eM9, hres⟩ := m_bd_e hres
            refine m_pi8 X hSt hP hS m_z_172 30 (by decide) eM9 rfl rfl (by decide) k_f_X8_215 dX8_look_273 (fun H locs hP hS => ?_)
            refine lv_iinc (v := (x3 + 1)) (lv' := [(3, .int (x3 + 1)), (0, .ref (m_ad G 172))]) X.1 X.2.1 dX8_look_276 hl (k := 1) rfl rfl (by decide) rfl (fun ls hl => ?_)
            refine lv_goto (tgt := 222) X.1 X.2.1 dX8_look_279 (by decide) ?_
            exact ih (x3 + 1) M9 _ _ _ hP hS (lv_sub hl [1, 0] rfl) hres
          · have hres := m_if hres hc8
            refine lv_bipush (v := 10) X.1 X.2.1 dX8_look_244 (by decide) ?_
            refine lv_aload_n X.1 X.2.1 dX8_look_246 rfl (lv_at hl 0 rfl) ?_
            refine m_g8 (v := .int (M.1 172 30)) X hSt hP m_z_172 30 (by decide) rfl k_f_X8_215 dX8_look_247 ?_
            refine lv_imul X.1 X.2.1 dX8_look_250 ?_
            refine lv_aload_n X.1 X.2.1 dX8_look_251 rfl (lv_at hl 0 rfl) ?_
            refine m_g8 (v := .ref (m_ad G 176)) X hSt hP m_z_172 3 (by decide) rfl k_f_X8_20 dX8_look_252 ?_
            refine lv_aload_n X.1 X.2.1 dX8_look_255 rfl (lv_at hl 0 rfl) ?_
            refine m_g8 (v := .int (M.1 172 27)) X hSt hP m_z_172 27 (by decide) rfl k_f_X8_209 dX8_look_256 ?_
            refine lv_iload_n X.1 X.2.1 dX8_look_259 rfl (lv_at hl 1 rfl) ?_
            refine lv_iadd X.1 X.2.1 dX8_look_260 ?_
            obtain ⟨hg10, hres⟩ := m_gd_e hres
            refine m_ia (j := (((M.1 172 27) + x3).toNatClampNeg)) X hSt hP m_z_176 hg10 rfl dX8_look_261 ?_
            refine lv_iadd X.1 X.2.1 dX8_look_262 ?_
            refine lv_bipush (v := 48) X.1 X.2.1 dX8_look_263 (by decide) ?_
            refine lv_isub X.1 X.2.1 dX8_look_265 ?_
            refine lv_goto (tgt := 273) X.1 X.2.1 dX8_look_266 (by decide) ?_
            obtain ⟨M11, eM11, hres⟩ := m_bd_e hres
            refine m_pi8 X hSt hP hS m_z_172 30 (by decide) eM11 rfl rfl (by decide) k_f_X8_215 dX8_look_273 (fun H locs hP hS => ?_)
            refine lv_iinc (v := (x3 + 1)) (lv' := [(3, .int (x3 + 1)), (0, .ref (m_ad G 172))]) X.1 X.2.1 dX8_look_276 hl (k := 1) rfl rfl (by decide) rfl (fun ls hl => ?_)
            refine lv_goto (tgt := 222) X.1 X.2.1 dX8_look_279 (by decide) ?_
            exact ih (x3 + 1) M11 _ _ _ hP hS (lv_sub hl [1, 0] rfl) hres
  have B207 : ∀ (q132 : m_M → Option m_M) (hq132 : ∀ (M : m_M) (H : Heap) (locs : List Loc) (ls : Array Slot), m_P G M H → va_S (m_A G) s.heap H locs → lv_has ls 4 [(0, .ref (m_ad G 172))] → q132 M = some M0 → W p l e (m_R 2 45) s m args below meth c H locs 0 0 (MQ below (m_Qv G M0) args s 0 0 (m_A G)) (F0 m 132 ls [])) (M : m_M) (H : Heap) (locs : List Loc) (ls : Array Slot), m_P G M H → va_S (m_A G) s.heap H locs → lv_has ls 4 [(0, .ref (m_ad G 172))] → f_X8_look_b207 n x1 q132 M = some M0 → W p l e (m_R 2 45) s m args below meth c H locs 0 0 (MQ below (m_Qv G M0) args s 0 0 (m_A G)) (F0 m 207 ls []) := by
    intro q132 hq132 M H locs ls hP hS hl hres
    unfold f_X8_look_b207 at hres
    refine lv_aload_n X.1 X.2.1 dX8_look_207 rfl (lv_at hl 0 rfl) ?_
    refine lv_dup X.1 X.2.1 dX8_look_208 rfl ?_
    refine m_g8 (v := .int (M.1 172 28)) X hSt hP m_z_172 28 (by decide) rfl k_f_X8_212 dX8_look_209 ?_
    refine lv_iconst (v := 1) X.1 X.2.1 dX8_look_212 (by decide) ?_
    refine lv_iadd X.1 X.2.1 dX8_look_213 ?_
    obtain ⟨M12, eM12, hres⟩ := m_bd_e hres
    refine m_pi8 X hSt hP hS m_z_172 28 (by decide) eM12 rfl rfl (by decide) k_f_X8_212 dX8_look_214 (fun H locs hP hS => ?_)
    refine lv_goto (tgt := 132) X.1 X.2.1 dX8_look_217 (by decide) ?_
    exact hq132 M12 _ _ _ hP hS (lv_sub hl [0] rfl) hres
  have B132 : ∀ (u : Nat) (M : m_M) (H : Heap) (locs : List Loc) (ls : Array Slot), m_P G M H → va_S (m_A G) s.heap H locs → lv_has ls 4 [(0, .ref (m_ad G 172))] → f_X8_look_b132 n x1 u M = some M0 → W p l e (m_R 2 45) s m args below meth c H locs 0 0 (MQ below (m_Qv G M0) args s 0 0 (m_A G)) (F0 m 132 ls []) := by
    intro u
    induction u with
    | zero =>
      intro M H locs ls hP hS hl hres
      cases hres
    | succ u ih =>
      intro M H locs ls hP hS hl hres
      rw [f_X8_look_b132] at hres
      refine lv_aload_n X.1 X.2.1 dX8_look_132 rfl (lv_at hl 0 rfl) ?_
      refine m_g8 (v := .int (M.1 172 29)) X hSt hP m_z_172 29 (by decide) rfl k_f_X8_218 dX8_look_133 ?_
      refine lv_iconst (v := 3) X.1 X.2.1 dX8_look_136 (by decide) ?_
      refine lv_icmp_ge (tgt := 220) X.1 X.2.1 dX8_look_137 (by decide) (fun hc13 => ?_) (fun hc13 => ?_)
      · have hres := m_it hres hc13
        refine lv_iconst (v := 0) X.1 X.2.1 dX8_look_220 (by decide) ?_
        refine lv_istore_n (lv' := [(3, .int 0), (0, .ref (m_ad G 172))]) X.1 X.2.1 dX8_look_221 rfl hl (by decide) rfl (fun ls hl => ?_)
        exact B222 n 0 M _ _ _ hP hS (lv_sub hl [1, 0] rfl) hres
      · have hres := m_if hres hc13
        refine lv_aload_n X.1 X.2.1 dX8_look_140 rfl (lv_at hl 0 rfl) ?_
        refine m_g8 (v := .int (M.1 172 27)) X hSt hP m_z_172 27 (by decide) rfl k_f_X8_209 dX8_look_141 ?_
        refine lv_aload_n X.1 X.2.1 dX8_look_144 rfl (lv_at hl 0 rfl) ?_
        refine m_g8 (v := .int (M.1 172 28)) X hSt hP m_z_172 28 (by decide) rfl k_f_X8_212 dX8_look_145 ?_
        refine lv_iadd X.1 X.2.1 dX8_look_148 ?_
        refine lv_aload_n X.1 X.2.1 dX8_look_149 rfl (lv_at hl 0 rfl) ?_
        refine m_g8 (v := .int (M.1 172 4)) X hSt hP m_z_172 4 (by decide) rfl k_f_X8_196 dX8_look_150 ?_
        refine lv_icmp_ge (tgt := 220) X.1 X.2.1 dX8_look_153 (by decide) (fun hc14 => ?_) (fun hc14 => ?_)
        · have hres := m_it hres hc14
          refine lv_iconst (v := 0) X.1 X.2.1 dX8_look_220 (by decide) ?_
          refine lv_istore_n (lv' := [(3, .int 0), (0, .ref (m_ad G 172))]) X.1 X.2.1 dX8_look_221 rfl hl (by decide) rfl (fun ls hl => ?_)
          exact B222 n 0 M _ _ _ hP hS (lv_sub hl [1, 0] rfl) hres
        · have hres := m_if hres hc14
          refine lv_aload_n X.1 X.2.1 dX8_look_156 rfl (lv_at hl 0 rfl) ?_
          refine m_g8 (v := .int (M.1 172 29)) X hSt hP m_z_172 29 (by decide) rfl k_f_X8_218 dX8_look_157 ?_
          refine lv_iconst (v := 1) X.1 X.2.1 dX8_look_160 (by decide) ?_
          refine lv_icmp_ne (tgt := 187) X.1 X.2.1 dX8_look_161 (by decide) (fun hc15 => ?_) (fun hc15 => ?_)
          · have hres := m_if hres hc15
            refine lv_aload_n X.1 X.2.1 dX8_look_187 rfl (lv_at hl 0 rfl) ?_
            refine m_g8 (v := .ref (m_ad G 176)) X hSt hP m_z_172 3 (by decide) rfl k_f_X8_20 dX8_look_188 ?_
            refine lv_aload_n X.1 X.2.1 dX8_look_191 rfl (lv_at hl 0 rfl) ?_
            refine m_g8 (v := .int (M.1 172 27)) X hSt hP m_z_172 27 (by decide) rfl k_f_X8_209 dX8_look_192 ?_
            refine lv_aload_n X.1 X.2.1 dX8_look_195 rfl (lv_at hl 0 rfl) ?_
            refine m_g8 (v := .int (M.1 172 28)) X hSt hP m_z_172 28 (by decide) rfl k_f_X8_212 dX8_look_196 ?_
            refine lv_iadd X.1 X.2.1 dX8_look_199 ?_
            obtain ⟨hg16, hres⟩ := m_gd_e hres
            refine m_ia (j := (((M.1 172 27) + (M.1 172 28)).toNatClampNeg)) X hSt hP m_z_176 hg16 rfl dX8_look_200 ?_
            obtain ⟨r17, err17, hres⟩ := m_bd_e hres
            refine m_bz (m_cS (n := 1) (As := [.int (M.1 176 (((M.1 172 27) + (M.1 172 28)).toNatClampNeg))]) (rest := []) X hSt hP hS hl.1 (c_X8_isFigure l G (M := M)  err17) k_c_yX8_isFigure k_m_X8_224 k_t_yX8_isFigure k_n_X8 (by decide +kernel) rfl rfl ⟨Nat.le_of_ble_eq_true rfl, Nat.le_of_ble_eq_true rfl⟩ (Nat.le_of_ble_eq_true rfl) ⟨Nat.zero_le _, Nat.zero_le _⟩ dX8_look_201) hS (fun H locs hP hS hz18 => ?_)
            refine lv_if_eq (tgt := 220) X.1 X.2.1 dX8_look_204 (by decide) (fun hc19 => ?_) (fun hc19 => ?_)
            · have hres := m_it hres hc19
              refine lv_iconst (v := 0) X.1 X.2.1 dX8_look_220 (by decide) ?_
              refine lv_istore_n (lv' := [(3, .int 0), (0, .ref (m_ad G 172))]) X.1 X.2.1 dX8_look_221 rfl hl (by decide) rfl (fun ls hl => ?_)
              exact B222 n 0 M _ _ _ hP hS (lv_sub hl [1, 0] rfl) hres
            · have hres := m_if hres hc19
              exact B207 (f_X8_look_b132 n x1 u) ih M _ _ _ hP hS (lv_sub hl [0] rfl) hres
          · have hres := m_it hres hc15
            refine lv_aload_n X.1 X.2.1 dX8_look_164 rfl (lv_at hl 0 rfl) ?_
            refine m_g8 (v := .ref (m_ad G 176)) X hSt hP m_z_172 3 (by decide) rfl k_f_X8_20 dX8_look_165 ?_
            refine lv_aload_n X.1 X.2.1 dX8_look_168 rfl (lv_at hl 0 rfl) ?_
            refine m_g8 (v := .int (M.1 172 27)) X hSt hP m_z_172 27 (by decide) rfl k_f_X8_209 dX8_look_169 ?_
            refine lv_aload_n X.1 X.2.1 dX8_look_172 rfl (lv_at hl 0 rfl) ?_
            refine m_g8 (v := .int (M.1 172 28)) X hSt hP m_z_172 28 (by decide) rfl k_f_X8_212 dX8_look_173 ?_
            refine lv_iadd X.1 X.2.1 dX8_look_176 ?_
            obtain ⟨hg20, hres⟩ := m_gd_e hres
            refine m_ia (j := (((M.1 172 27) + (M.1 172 28)).toNatClampNeg)) X hSt hP m_z_176 hg20 rfl dX8_look_177 ?_
            obtain ⟨r21, err21, hres⟩ := m_bd_e hres
            refine m_bz (m_cS (n := 1) (As := [.int (M.1 176 (((M.1 172 27) + (M.1 172 28)).toNatClampNeg))]) (rest := []) X hSt hP hS hl.1 (c_X8_isSmall l G (M := M)  err21) k_c_yX8_isSmall k_m_X8_221 k_t_yX8_isSmall k_n_X8 (by decide +kernel) rfl rfl ⟨Nat.le_of_ble_eq_true rfl, Nat.le_of_ble_eq_true rfl⟩ (Nat.le_of_ble_eq_true rfl) ⟨Nat.zero_le _, Nat.zero_le _⟩ dX8_look_178) hS (fun H locs hP hS hz22 => ?_)
            refine lv_if_eq (tgt := 220) X.1 X.2.1 dX8_look_181 (by decide) (fun hc23 => ?_) (fun hc23 => ?_)
            · have hres := m_it hres hc23
              refine lv_iconst (v := 0) X.1 X.2.1 dX8_look_220 (by decide) ?_
              refine lv_istore_n (lv' := [(3, .int 0), (0, .ref (m_ad G 172))]) X.1 X.2.1 dX8_look_221 rfl hl (by decide) rfl (fun ls hl => ?_)
              exact B222 n 0 M _ _ _ hP hS (lv_sub hl [1, 0] rfl) hres
            · have hres := m_if hres hc23
              refine lv_goto (tgt := 207) X.1 X.2.1 dX8_look_184 (by decide) ?_
              exact B207 (f_X8_look_b132 n x1 u) ih M _ _ _ hP hS (lv_sub hl [0] rfl) hres
  have B43 : ∀  (M : m_M) (H : Heap) (locs : List Loc) (ls : Array Slot), m_P G M H → va_S (m_A G) s.heap H locs → lv_has ls 4 [(0, .ref (m_ad G 172))] → f_X8_look_b43 n x1 M = some M0 → W p l e (m_R 2 45) s m args below meth c H locs 0 0 (MQ below (m_Qv G M0) args s 0 0 (m_A G)) (F0 m 43 ls []) := by
    intro M H locs ls hP hS hl hres
    unfold f_X8_look_b43 at hres
    refine lv_aload_n X.1 X.2.1 dX8_look_43 rfl (lv_at hl 0 rfl) ?_
    refine lv_iconst (v := 0) X.1 X.2.1 dX8_look_44 (by decide) ?_
    obtain ⟨M24, eM24, hres⟩ := m_bd_e hres
    refine m_pi8 X hSt hP hS m_z_172 28 (by decide) eM24 rfl rfl (by decide) k_f_X8_212 dX8_look_45 (fun H locs hP hS => ?_)
    refine lv_aload_n X.1 X.2.1 dX8_look_48 rfl (lv_at hl 0 rfl) ?_
    refine lv_iconst (v := 0) X.1 X.2.1 dX8_look_49 (by decide) ?_
    obtain ⟨M25, eM25, hres⟩ := m_bd_e hres
    refine m_pi8 X hSt hP hS m_z_172 30 (by decide) eM25 rfl rfl (by decide) k_f_X8_215 dX8_look_50 (fun H locs hP hS => ?_)
    refine lv_aload_n X.1 X.2.1 dX8_look_53 rfl (lv_at hl 0 rfl) ?_
    refine m_g8 (v := .int (M25.1 172 27)) X hSt hP m_z_172 27 (by decide) rfl k_f_X8_209 dX8_look_54 ?_
    refine lv_aload_n X.1 X.2.1 dX8_look_57 rfl (lv_at hl 0 rfl) ?_
    refine m_g8 (v := .int (M25.1 172 4)) X hSt hP m_z_172 4 (by decide) rfl k_f_X8_196 dX8_look_58 ?_
    refine lv_icmp_ne (tgt := 70) X.1 X.2.1 dX8_look_61 (by decide) (fun hc26 => ?_) (fun hc26 => ?_)
    · have hres := m_if hres hc26
      refine lv_aload_n X.1 X.2.1 dX8_look_70 rfl (lv_at hl 0 rfl) ?_
      refine m_g8 (v := .ref (m_ad G 176)) X hSt hP m_z_172 3 (by decide) rfl k_f_X8_20 dX8_look_71 ?_
      refine lv_aload_n X.1 X.2.1 dX8_look_74 rfl (lv_at hl 0 rfl) ?_
      refine m_g8 (v := .int (M25.1 172 27)) X hSt hP m_z_172 27 (by decide) rfl k_f_X8_209 dX8_look_75 ?_
      obtain ⟨hg27, hres⟩ := m_gd_e hres
      refine m_ia (j := ((M25.1 172 27).toNatClampNeg)) X hSt hP m_z_176 hg27 rfl dX8_look_78 ?_
      obtain ⟨t28, et28, hres⟩ := m_bd_e hres
      refine m_ti et28 ?_
      refine lv_istore_n (lv' := [(2, .int t28), (0, .ref (m_ad G 172))]) X.1 X.2.1 dX8_look_79 rfl hl (by decide) rfl (fun ls hl => ?_)
      refine lv_aload_n X.1 X.2.1 dX8_look_80 rfl (lv_at hl 1 rfl) ?_
      refine lv_iconst (v := 1) X.1 X.2.1 dX8_look_81 (by decide) ?_
      obtain ⟨M29, eM29, hres⟩ := m_bd_e hres
      refine m_pi8 X hSt hP hS m_z_172 28 (by decide) eM29 rfl rfl (by decide) k_f_X8_212 dX8_look_82 (fun H locs hP hS => ?_)
      refine lv_aload_n X.1 X.2.1 dX8_look_85 rfl (lv_at hl 1 rfl) ?_
      refine lv_iload_n X.1 X.2.1 dX8_look_86 rfl (lv_at hl 0 rfl) ?_
      obtain ⟨r30, err30, hres⟩ := m_bd_e hres
      refine m_bz (m_cS (n := 1) (As := [.int t28]) (rest := [.ref (m_ad G 172)]) X hSt hP hS hl.1 (c_X8_isSmall l G (M := M29)  err30) k_c_yX8_isSmall k_m_X8_221 k_t_yX8_isSmall k_n_X8 (by decide +kernel) rfl rfl ⟨Nat.le_of_ble_eq_true rfl, Nat.le_of_ble_eq_true rfl⟩ (Nat.le_of_ble_eq_true rfl) ⟨Nat.zero_le _, Nat.zero_le _⟩ dX8_look_87) hS (fun H locs hP hS hz31 => ?_)
      refine lv_if_eq (tgt := 97) X.1 X.2.1 dX8_look_90 (by decide) (fun hc32 => ?_) (fun hc32 => ?_)
      · have hres := m_it hres hc32
        refine lv_iload_n X.1 X.2.1 dX8_look_97 rfl (lv_at hl 0 rfl) ?_
        obtain ⟨r33, err33, hres⟩ := m_bd_e hres
        refine m_bz (m_cS (n := 1) (As := [.int t28]) (rest := [.ref (m_ad G 172)]) X hSt hP hS hl.1 (c_X8_isFigure l G (M := M29)  err33) k_c_yX8_isFigure k_m_X8_224 k_t_yX8_isFigure k_n_X8 (by decide +kernel) rfl rfl ⟨Nat.le_of_ble_eq_true rfl, Nat.le_of_ble_eq_true rfl⟩ (Nat.le_of_ble_eq_true rfl) ⟨Nat.zero_le _, Nat.zero_le _⟩ dX8_look_98) hS (fun H locs hP hS hz34 => ?_)
        refine lv_if_eq (tgt := 108) X.1 X.2.1 dX8_look_101 (by decide) (fun hc35 => ?_) (fun hc35 => ?_)
        · have hres := m_it hres hc35
          refine lv_iload_n X.1 X.2.1 dX8_look_108 rfl (lv_at hl 0 rfl) ?_
          refine lv_bipush (v := 45) X.1 X.2.1 dX8_look_109 (by decide) ?_
          refine lv_icmp_ne (tgt := 118) X.1 X.2.1 dX8_look_111 (by decide) (fun hc36 => ?_) (fun hc36 => ?_)
          · have hres := m_if hres hc36
            refine lv_iload_n X.1 X.2.1 dX8_look_118 rfl (lv_at hl 0 rfl) ?_
            refine lv_bipush (v := 59) X.1 X.2.1 dX8_look_119 (by decide) ?_
            refine lv_icmp_ne (tgt := 128) X.1 X.2.1 dX8_look_121 (by decide) (fun hc37 => ?_) (fun hc37 => ?_)
            · have hres := m_if hres hc37
              refine lv_iconst (v := 5) X.1 X.2.1 dX8_look_128 (by decide) ?_
              obtain ⟨M38, eM38, hres⟩ := m_bd_e hres
              refine m_pi8 X hSt hP hS m_z_172 29 (by decide) eM38 rfl rfl (by decide) k_f_X8_218 dX8_look_129 (fun H locs hP hS => ?_)
              exact B132 n M38 _ _ _ hP hS (lv_sub hl [1] rfl) hres
            · have hres := m_it hres hc37
              refine lv_iconst (v := 4) X.1 X.2.1 dX8_look_124 (by decide) ?_
              refine lv_goto (tgt := 129) X.1 X.2.1 dX8_look_125 (by decide) ?_
              obtain ⟨M39, eM39, hres⟩ := m_bd_e hres
              refine m_pi8 X hSt hP hS m_z_172 29 (by decide) eM39 rfl rfl (by decide) k_f_X8_218 dX8_look_129 (fun H locs hP hS => ?_)
              exact B132 n M39 _ _ _ hP hS (lv_sub hl [1] rfl) hres
          · have hres := m_it hres hc36
            refine lv_iconst (v := 3) X.1 X.2.1 dX8_look_114 (by decide) ?_
            refine lv_goto (tgt := 129) X.1 X.2.1 dX8_look_115 (by decide) ?_
            obtain ⟨M40, eM40, hres⟩ := m_bd_e hres
            refine m_pi8 X hSt hP hS m_z_172 29 (by decide) eM40 rfl rfl (by decide) k_f_X8_218 dX8_look_129 (fun H locs hP hS => ?_)
            exact B132 n M40 _ _ _ hP hS (lv_sub hl [1] rfl) hres
        · have hres := m_if hres hc35
          refine lv_iconst (v := 2) X.1 X.2.1 dX8_look_104 (by decide) ?_
          refine lv_goto (tgt := 129) X.1 X.2.1 dX8_look_105 (by decide) ?_
          obtain ⟨M41, eM41, hres⟩ := m_bd_e hres
          refine m_pi8 X hSt hP hS m_z_172 29 (by decide) eM41 rfl rfl (by decide) k_f_X8_218 dX8_look_129 (fun H locs hP hS => ?_)
          exact B132 n M41 _ _ _ hP hS (lv_sub hl [1] rfl) hres
      · have hres := m_if hres hc32
        refine lv_iconst (v := 1) X.1 X.2.1 dX8_look_93 (by decide) ?_
        refine lv_goto (tgt := 129) X.1 X.2.1 dX8_look_94 (by decide) ?_
        obtain ⟨M42, eM42, hres⟩ := m_bd_e hres
        refine m_pi8 X hSt hP hS m_z_172 29 (by decide) eM42 rfl rfl (by decide) k_f_X8_218 dX8_look_129 (fun H locs hP hS => ?_)
        exact B132 n M42 _ _ _ hP hS (lv_sub hl [1] rfl) hres
    · have hres := m_it hres hc26
      refine lv_aload_n X.1 X.2.1 dX8_look_64 rfl (lv_at hl 0 rfl) ?_
      refine lv_iconst (v := 0) X.1 X.2.1 dX8_look_65 (by decide) ?_
      obtain ⟨M43, eM43, hres⟩ := m_bd_e hres
      refine m_pi8 X hSt hP hS m_z_172 29 (by decide) eM43 rfl rfl (by decide) k_f_X8_218 dX8_look_66 (fun H locs hP hS => ?_)
      exact m_rv X hr hlk hP hS (Option.some.inj hres) dX8_look_69
  have B5 : ∀ (u : Nat) (M : m_M) (H : Heap) (locs : List Loc) (ls : Array Slot), m_P G M H → va_S (m_A G) s.heap H locs → lv_has ls 4 [(0, .ref (m_ad G 172))] → f_X8_look_b5 n x1 u M = some M0 → W p l e (m_R 2 45) s m args below meth c H locs 0 0 (MQ below (m_Qv G M0) args s 0 0 (m_A G)) (F0 m 5 ls []) := by
    intro u
    induction u with
    | zero =>
      intro M H locs ls hP hS hl hres
      cases hres
    | succ u ih =>
      intro M H locs ls hP hS hl hres
      rw [f_X8_look_b5] at hres
      refine lv_aload_n X.1 X.2.1 dX8_look_5 rfl (lv_at hl 0 rfl) ?_
      refine m_g8 (v := .int (M.1 172 27)) X hSt hP m_z_172 27 (by decide) rfl k_f_X8_209 dX8_look_6 ?_
      refine lv_aload_n X.1 X.2.1 dX8_look_9 rfl (lv_at hl 0 rfl) ?_
      refine m_g8 (v := .int (M.1 172 4)) X hSt hP m_z_172 4 (by decide) rfl k_f_X8_196 dX8_look_10 ?_
      refine lv_icmp_ge (tgt := 43) X.1 X.2.1 dX8_look_13 (by decide) (fun hc44 => ?_) (fun hc44 => ?_)
      · have hres := m_it hres hc44
        exact B43 M _ _ _ hP hS (lv_sub hl [0] rfl) hres
      · have hres := m_if hres hc44
        refine lv_aload_n X.1 X.2.1 dX8_look_16 rfl (lv_at hl 0 rfl) ?_
        refine m_g8 (v := .ref (m_ad G 176)) X hSt hP m_z_172 3 (by decide) rfl k_f_X8_20 dX8_look_17 ?_
        refine lv_aload_n X.1 X.2.1 dX8_look_20 rfl (lv_at hl 0 rfl) ?_
        refine m_g8 (v := .int (M.1 172 27)) X hSt hP m_z_172 27 (by decide) rfl k_f_X8_209 dX8_look_21 ?_
        obtain ⟨hg45, hres⟩ := m_gd_e hres
        refine m_ia (j := ((M.1 172 27).toNatClampNeg)) X hSt hP m_z_176 hg45 rfl dX8_look_24 ?_
        refine lv_bipush (v := 32) X.1 X.2.1 dX8_look_25 (by decide) ?_
        refine lv_icmp_ne (tgt := 43) X.1 X.2.1 dX8_look_27 (by decide) (fun hc46 => ?_) (fun hc46 => ?_)
        · have hres := m_if hres hc46
          exact B43 M _ _ _ hP hS (lv_sub hl [0] rfl) hres
        · have hres := m_it hres hc46
          refine lv_aload_n X.1 X.2.1 dX8_look_30 rfl (lv_at hl 0 rfl) ?_
          refine lv_dup X.1 X.2.1 dX8_look_31 rfl ?_
          refine m_g8 (v := .int (M.1 172 27)) X hSt hP m_z_172 27 (by decide) rfl k_f_X8_209 dX8_look_32 ?_
          refine lv_iconst (v := 1) X.1 X.2.1 dX8_look_35 (by decide) ?_
          refine lv_iadd X.1 X.2.1 dX8_look_36 ?_
          obtain ⟨M47, eM47, hres⟩ := m_bd_e hres
          refine m_pi8 X hSt hP hS m_z_172 27 (by decide) eM47 rfl rfl (by decide) k_f_X8_209 dX8_look_37 (fun H locs hP hS => ?_)
          refine lv_goto (tgt := 5) X.1 X.2.1 dX8_look_40 (by decide) ?_
          exact ih M47 _ _ _ hP hS (lv_sub hl [0] rfl) hres
  unfold f_X8_look at hres
  refine lv_aload_n X.1 X.2.1 dX8_look_0 rfl (lv_at hl 0 rfl) ?_
  refine lv_iload_n X.1 X.2.1 dX8_look_1 rfl (lv_at hl 1 rfl) ?_
  obtain ⟨M48, eM48, hres⟩ := m_bd_e hres
  refine m_pi8 X hSt hP hS m_z_172 27 (by decide) eM48 rfl rfl (by decide) k_f_X8_209 dX8_look_2 (fun H locs hP hS => ?_)
  exact B5 n M48 _ _ _ hP hS (lv_sub hl [0] rfl) hres
theorem dX8_may_0 : decode cX8_may 0 = .ok (.iload_n 1, 1) := by decide +kernel
theorem dX8_may_1 : decode cX8_may 1 = .ok (.tableswitch 279 0 14 #[75, 279, 95, 95, 279, 116, 131, 150, 161, 180, 209, 279, 225, 247, 263], 75) := by decide +kernel
theorem dX8_may_76 : decode cX8_may 76 = .ok (.iload_n 3, 1) := by decide +kernel
theorem dX8_may_77 : decode cX8_may 77 = .ok (.iconst (-1), 1) := by decide +kernel
theorem dX8_may_78 : decode cX8_may 78 = .ok (.if_icmp .eq 12, 3) := by decide +kernel
theorem dX8_may_81 : decode cX8_may 81 = .ok (.aload_n 0, 1) := by decide +kernel
theorem dX8_may_82 : decode cX8_may 82 = .ok (.iload_n 3, 1) := by decide +kernel
theorem dX8_may_83 : decode cX8_may 83 = .ok (.iload_n 2, 1) := by decide +kernel
theorem dX8_may_84 : decode cX8_may 84 = .ok (.invokevirtual 163, 3) := by decide +kernel
theorem dX8_may_87 : decode cX8_may 87 = .ok (.ifCond .ne 7, 3) := by decide +kernel
theorem dX8_may_90 : decode cX8_may 90 = .ok (.iconst 1, 1) := by decide +kernel
theorem dX8_may_91 : decode cX8_may 91 = .ok (.goto 4, 3) := by decide +kernel
theorem dX8_may_94 : decode cX8_may 94 = .ok (.iconst 0, 1) := by decide +kernel
theorem dX8_may_95 : decode cX8_may 95 = .ok (.ireturn, 1) := by decide +kernel
theorem dX8_may_96 : decode cX8_may 96 = .ok (.aload_n 0, 1) := by decide +kernel
theorem dX8_may_97 : decode cX8_may 97 = .ok (.getfield 39, 3) := by decide +kernel
theorem dX8_may_100 : decode cX8_may 100 = .ok (.iconst 4, 1) := by decide +kernel
theorem dX8_may_101 : decode cX8_may 101 = .ok (.iload_n 2, 1) := by decide +kernel
theorem dX8_may_102 : decode cX8_may 102 = .ok (.imul, 1) := by decide +kernel
theorem dX8_may_103 : decode cX8_may 103 = .ok (.iload_n 3, 1) := by decide +kernel
theorem dX8_may_104 : decode cX8_may 104 = .ok (.iadd, 1) := by decide +kernel
theorem dX8_may_105 : decode cX8_may 105 = .ok (.iaload, 1) := by decide +kernel
theorem dX8_may_106 : decode cX8_may 106 = .ok (.iload 4, 2) := by decide +kernel
theorem dX8_may_108 : decode cX8_may 108 = .ok (.if_icmp .lt 7, 3) := by decide +kernel
theorem dX8_may_111 : decode cX8_may 111 = .ok (.iconst 1, 1) := by decide +kernel
theorem dX8_may_112 : decode cX8_may 112 = .ok (.goto 4, 3) := by decide +kernel
theorem dX8_may_115 : decode cX8_may 115 = .ok (.iconst 0, 1) := by decide +kernel
theorem dX8_may_116 : decode cX8_may 116 = .ok (.ireturn, 1) := by decide +kernel
theorem dX8_may_117 : decode cX8_may 117 = .ok (.aload_n 0, 1) := by decide +kernel
theorem dX8_may_118 : decode cX8_may 118 = .ok (.getfield 63, 3) := by decide +kernel
theorem dX8_may_121 : decode cX8_may 121 = .ok (.iload_n 2, 1) := by decide +kernel
theorem dX8_may_122 : decode cX8_may 122 = .ok (.baload, 1) := by decide +kernel
theorem dX8_may_123 : decode cX8_may 123 = .ok (.ifCond .ne 7, 3) := by decide +kernel
theorem dX8_may_126 : decode cX8_may 126 = .ok (.iconst 1, 1) := by decide +kernel
theorem dX8_may_127 : decode cX8_may 127 = .ok (.goto 4, 3) := by decide +kernel
theorem dX8_may_130 : decode cX8_may 130 = .ok (.iconst 0, 1) := by decide +kernel
theorem dX8_may_131 : decode cX8_may 131 = .ok (.ireturn, 1) := by decide +kernel
theorem dX8_may_132 : decode cX8_may 132 = .ok (.aload_n 0, 1) := by decide +kernel
theorem dX8_may_133 : decode cX8_may 133 = .ok (.getfield 42, 3) := by decide +kernel
theorem dX8_may_136 : decode cX8_may 136 = .ok (.iconst 4, 1) := by decide +kernel
theorem dX8_may_137 : decode cX8_may 137 = .ok (.iload_n 2, 1) := by decide +kernel
theorem dX8_may_138 : decode cX8_may 138 = .ok (.imul, 1) := by decide +kernel
theorem dX8_may_139 : decode cX8_may 139 = .ok (.iload_n 3, 1) := by decide +kernel
theorem dX8_may_140 : decode cX8_may 140 = .ok (.iadd, 1) := by decide +kernel
theorem dX8_may_141 : decode cX8_may 141 = .ok (.baload, 1) := by decide +kernel
theorem dX8_may_142 : decode cX8_may 142 = .ok (.ifCond .ne 7, 3) := by decide +kernel
theorem dX8_may_145 : decode cX8_may 145 = .ok (.iconst 1, 1) := by decide +kernel
theorem dX8_may_146 : decode cX8_may 146 = .ok (.goto 4, 3) := by decide +kernel
theorem dX8_may_149 : decode cX8_may 149 = .ok (.iconst 0, 1) := by decide +kernel
theorem dX8_may_150 : decode cX8_may 150 = .ok (.ireturn, 1) := by decide +kernel
theorem dX8_may_151 : decode cX8_may 151 = .ok (.aload_n 0, 1) := by decide +kernel
theorem dX8_may_152 : decode cX8_may 152 = .ok (.getfield 42, 3) := by decide +kernel
theorem dX8_may_155 : decode cX8_may 155 = .ok (.iconst 4, 1) := by decide +kernel
theorem dX8_may_156 : decode cX8_may 156 = .ok (.iload_n 2, 1) := by decide +kernel
theorem dX8_may_157 : decode cX8_may 157 = .ok (.imul, 1) := by decide +kernel
theorem dX8_may_158 : decode cX8_may 158 = .ok (.iload_n 3, 1) := by decide +kernel
theorem dX8_may_159 : decode cX8_may 159 = .ok (.iadd, 1) := by decide +kernel
theorem dX8_may_160 : decode cX8_may 160 = .ok (.baload, 1) := by decide +kernel
theorem dX8_may_161 : decode cX8_may 161 = .ok (.ireturn, 1) := by decide +kernel
theorem dX8_may_162 : decode cX8_may 162 = .ok (.aload_n 0, 1) := by decide +kernel
theorem dX8_may_163 : decode cX8_may 163 = .ok (.getfield 45, 3) := by decide +kernel
theorem dX8_may_166 : decode cX8_may 166 = .ok (.iconst 4, 1) := by decide +kernel
theorem dX8_may_167 : decode cX8_may 167 = .ok (.iload_n 2, 1) := by decide +kernel
theorem dX8_may_168 : decode cX8_may 168 = .ok (.imul, 1) := by decide +kernel
theorem dX8_may_169 : decode cX8_may 169 = .ok (.iload_n 3, 1) := by decide +kernel
theorem dX8_may_170 : decode cX8_may 170 = .ok (.iadd, 1) := by decide +kernel
theorem dX8_may_171 : decode cX8_may 171 = .ok (.baload, 1) := by decide +kernel
theorem dX8_may_172 : decode cX8_may 172 = .ok (.ifCond .ne 7, 3) := by decide +kernel
theorem dX8_may_175 : decode cX8_may 175 = .ok (.iconst 1, 1) := by decide +kernel
theorem dX8_may_176 : decode cX8_may 176 = .ok (.goto 4, 3) := by decide +kernel
theorem dX8_may_179 : decode cX8_may 179 = .ok (.iconst 0, 1) := by decide +kernel
theorem dX8_may_180 : decode cX8_may 180 = .ok (.ireturn, 1) := by decide +kernel
theorem dX8_may_181 : decode cX8_may 181 = .ok (.aload_n 0, 1) := by decide +kernel
theorem dX8_may_182 : decode cX8_may 182 = .ok (.getfield 57, 3) := by decide +kernel
theorem dX8_may_185 : decode cX8_may 185 = .ok (.iload_n 2, 1) := by decide +kernel
theorem dX8_may_186 : decode cX8_may 186 = .ok (.iaload, 1) := by decide +kernel
theorem dX8_may_187 : decode cX8_may 187 = .ok (.iload 4, 2) := by decide +kernel
theorem dX8_may_189 : decode cX8_may 189 = .ok (.iadd, 1) := by decide +kernel
theorem dX8_may_190 : decode cX8_may 190 = .ok (.aload_n 0, 1) := by decide +kernel
theorem dX8_may_191 : decode cX8_may 191 = .ok (.aload_n 0, 1) := by decide +kernel
theorem dX8_may_192 : decode cX8_may 192 = .ok (.getfield 51, 3) := by decide +kernel
theorem dX8_may_195 : decode cX8_may 195 = .ok (.iload_n 2, 1) := by decide +kernel
theorem dX8_may_196 : decode cX8_may 196 = .ok (.iaload, 1) := by decide +kernel
theorem dX8_may_197 : decode cX8_may 197 = .ok (.iconst 4, 1) := by decide +kernel
theorem dX8_may_198 : decode cX8_may 198 = .ok (.invokevirtual 136, 3) := by decide +kernel
theorem dX8_may_201 : decode cX8_may 201 = .ok (.if_icmp .gt 7, 3) := by decide +kernel
theorem dX8_may_204 : decode cX8_may 204 = .ok (.iconst 1, 1) := by decide +kernel
theorem dX8_may_205 : decode cX8_may 205 = .ok (.goto 4, 3) := by decide +kernel
theorem dX8_may_208 : decode cX8_may 208 = .ok (.iconst 0, 1) := by decide +kernel
theorem dX8_may_209 : decode cX8_may 209 = .ok (.ireturn, 1) := by decide +kernel
theorem dX8_may_210 : decode cX8_may 210 = .ok (.aload_n 0, 1) := by decide +kernel
theorem dX8_may_211 : decode cX8_may 211 = .ok (.iload_n 2, 1) := by decide +kernel
theorem dX8_may_212 : decode cX8_may 212 = .ok (.invokevirtual 167, 3) := by decide +kernel
theorem dX8_may_215 : decode cX8_may 215 = .ok (.iload 4, 2) := by decide +kernel
theorem dX8_may_217 : decode cX8_may 217 = .ok (.if_icmp .lt 7, 3) := by decide +kernel
theorem dX8_may_220 : decode cX8_may 220 = .ok (.iconst 1, 1) := by decide +kernel
theorem dX8_may_221 : decode cX8_may 221 = .ok (.goto 4, 3) := by decide +kernel
theorem dX8_may_224 : decode cX8_may 224 = .ok (.iconst 0, 1) := by decide +kernel
theorem dX8_may_225 : decode cX8_may 225 = .ok (.ireturn, 1) := by decide +kernel
theorem dX8_may_226 : decode cX8_may 226 = .ok (.aload_n 0, 1) := by decide +kernel
theorem dX8_may_227 : decode cX8_may 227 = .ok (.getfield 48, 3) := by decide +kernel
theorem dX8_may_230 : decode cX8_may 230 = .ok (.bipush 10, 2) := by decide +kernel
theorem dX8_may_232 : decode cX8_may 232 = .ok (.iload_n 2, 1) := by decide +kernel
theorem dX8_may_233 : decode cX8_may 233 = .ok (.imul, 1) := by decide +kernel
theorem dX8_may_234 : decode cX8_may 234 = .ok (.iload_n 3, 1) := by decide +kernel
theorem dX8_may_235 : decode cX8_may 235 = .ok (.iadd, 1) := by decide +kernel
theorem dX8_may_236 : decode cX8_may 236 = .ok (.iaload, 1) := by decide +kernel
theorem dX8_may_237 : decode cX8_may 237 = .ok (.iload 4, 2) := by decide +kernel
theorem dX8_may_239 : decode cX8_may 239 = .ok (.if_icmp .lt 7, 3) := by decide +kernel
theorem dX8_may_242 : decode cX8_may 242 = .ok (.iconst 1, 1) := by decide +kernel
theorem dX8_may_243 : decode cX8_may 243 = .ok (.goto 4, 3) := by decide +kernel
theorem dX8_may_246 : decode cX8_may 246 = .ok (.iconst 0, 1) := by decide +kernel
theorem dX8_may_247 : decode cX8_may 247 = .ok (.ireturn, 1) := by decide +kernel
theorem dX8_may_248 : decode cX8_may 248 = .ok (.aload_n 0, 1) := by decide +kernel
theorem dX8_may_249 : decode cX8_may 249 = .ok (.iload_n 2, 1) := by decide +kernel
theorem dX8_may_250 : decode cX8_may 250 = .ok (.invokevirtual 171, 3) := by decide +kernel
theorem dX8_may_253 : decode cX8_may 253 = .ok (.iload 4, 2) := by decide +kernel
theorem dX8_may_255 : decode cX8_may 255 = .ok (.if_icmp .lt 7, 3) := by decide +kernel
theorem dX8_may_258 : decode cX8_may 258 = .ok (.iconst 1, 1) := by decide +kernel
theorem dX8_may_259 : decode cX8_may 259 = .ok (.goto 4, 3) := by decide +kernel
theorem dX8_may_262 : decode cX8_may 262 = .ok (.iconst 0, 1) := by decide +kernel
theorem dX8_may_263 : decode cX8_may 263 = .ok (.ireturn, 1) := by decide +kernel
theorem dX8_may_264 : decode cX8_may 264 = .ok (.aload_n 0, 1) := by decide +kernel
theorem dX8_may_265 : decode cX8_may 265 = .ok (.getfield 27, 3) := by decide +kernel
theorem dX8_may_268 : decode cX8_may 268 = .ok (.iload_n 2, 1) := by decide +kernel
theorem dX8_may_269 : decode cX8_may 269 = .ok (.iaload, 1) := by decide +kernel
theorem dX8_may_270 : decode cX8_may 270 = .ok (.iconst (-1), 1) := by decide +kernel
theorem dX8_may_271 : decode cX8_may 271 = .ok (.if_icmp .eq 7, 3) := by decide +kernel
theorem dX8_may_274 : decode cX8_may 274 = .ok (.iconst 1, 1) := by decide +kernel
theorem dX8_may_275 : decode cX8_may 275 = .ok (.goto 4, 3) := by decide +kernel
theorem dX8_may_278 : decode cX8_may 278 = .ok (.iconst 0, 1) := by decide +kernel
theorem dX8_may_279 : decode cX8_may 279 = .ok (.ireturn, 1) := by decide +kernel
theorem dX8_may_280 : decode cX8_may 280 = .ok (.iconst 1, 1) := by decide +kernel
theorem dX8_may_281 : decode cX8_may 281 = .ok (.ireturn, 1) := by decide +kernel
def f_X8_may (n : Nat) (x1 : Int32) (x2 : Int32) (x3 : Int32) (x4 : Int32) (M : m_M) : Option Int32 :=
  if x1 = 0 then
  if x3 = (-1) then
  some 1
  else
  m_ob (f_X8_isUnder n x3 x2 M) fun r3 =>
  if r3 = 0 then
  some 1
  else
  some 0
  else
  if x1 = 2 ∨ x1 = 3 then
  m_gd (m_in (((4 : Int32) * x2) + x3) 40) (
  if (M.1 181 ((((4 : Int32) * x2) + x3).toNatClampNeg)) < x4 then
  some 0
  else
  some 1)
  else
  if x1 = 5 then
  m_gd (m_in x2 60) (
  if (M.1 189 x2.toNatClampNeg) = 0 then
  some 1
  else
  some 0)
  else
  if x1 = 6 then
  m_gd (m_in (((4 : Int32) * x2) + x3) 40) (
  if (M.1 182 ((((4 : Int32) * x2) + x3).toNatClampNeg)) = 0 then
  some 1
  else
  some 0)
  else
  if x1 = 7 then
  m_gd (m_in (((4 : Int32) * x2) + x3) 40) (
  m_gd (m_B (M.1 182 ((((4 : Int32) * x2) + x3).toNatClampNeg))) (some (M.1 182 ((((4 : Int32) * x2) + x3).toNatClampNeg))))
  else
  if x1 = 8 then
  m_gd (m_in (((4 : Int32) * x2) + x3) 40) (
  if (M.1 183 ((((4 : Int32) * x2) + x3).toNatClampNeg)) = 0 then
  some 1
  else
  some 0)
  else
  if x1 = 9 then
  m_gd (m_in x2 60) (
  m_ob (f_X8_of (M.1 185 x2.toNatClampNeg) 4 M) fun r23 =>
  if r23 < ((M.1 187 x2.toNatClampNeg) + x4) then
  some 0
  else
  some 1)
  else
  if x1 = 10 then
  m_ob (f_X8_thereOf x2 M) fun r26 =>
  if r26 < x4 then
  some 0
  else
  some 1
  else
  if x1 = 12 then
  m_gd (m_in (((10 : Int32) * x2) + x3) 100) (
  if (M.1 184 ((((10 : Int32) * x2) + x3).toNatClampNeg)) < x4 then
  some 0
  else
  some 1)
  else
  if x1 = 13 then
  m_ob (f_X8_owedOf x2 M) fun r32 =>
  if r32 < x4 then
  some 0
  else
  some 1
  else
  if x1 = 14 then
  m_gd (m_in x2 10) (
  if (M.1 177 x2.toNatClampNeg) = (-1) then
  some 0
  else
  some 1)
  else
  some 1
set_option maxHeartbeats 4000000 in
set_option maxRecDepth 100000 in
theorem c_X8_may (l : Launch) (G : m_G) {n : Nat} {x1 : Int32} {x2 : Int32} {x3 : Int32} {x4 : Int32} {M : m_M} {r0 : Int32}  (hres : f_X8_may n x1 x2 x3 x4 M = some r0) : Met l yX8_may (m_U yX8_may cX8_may 5 (some .boolean)) (m_R 2 44) (m_Pc G [.ref (m_ad G 172), .int x1, .int x2, .int x3, .int x4] M) (m_Qz G r0 M) 0 0 (m_A G) := by
  refine m_i0 (n := 5) RX8 rfl (by decide) (Nat.le_of_ble_eq_true rfl) ?_
  intro p e s m args below meth c X hr hlk hSt hP hS ls hl
  have hl : lv_has ls 5 [(0, .ref (m_ad G 172)), (1, .int x1), (2, .int x2), (3, .int x3), (4, .int x4)] := hl
  unfold f_X8_may at hres
  refine lv_iload_n X.1 X.2.1 dX8_may_0 rfl (lv_at hl 1 rfl) ?_
  by_cases hc1 : x1 = 0
  · have hres := m_it hres hc1
    refine m_tin (tgt := 76) X dX8_may_1 ⟨_, hc1, by decide, by decide, rfl⟩ (by decide) ?_
    refine lv_iload_n X.1 X.2.1 dX8_may_76 rfl (lv_at hl 3 rfl) ?_
    refine lv_iconst (v := (-1)) X.1 X.2.1 dX8_may_77 (by decide) ?_
    refine lv_icmp_eq (tgt := 90) X.1 X.2.1 dX8_may_78 (by decide) (fun hc2 => ?_) (fun hc2 => ?_)
    · have hres := m_it hres hc2
      refine lv_iconst (v := 1) X.1 X.2.1 dX8_may_90 (by decide) ?_
      refine lv_goto (tgt := 95) X.1 X.2.1 dX8_may_91 (by decide) ?_
      exact m_rz X hr hlk hP hS (Option.some.inj hres) rfl (by decide) dX8_may_95
    · have hres := m_if hres hc2
      refine lv_aload_n X.1 X.2.1 dX8_may_81 rfl (lv_at hl 0 rfl) ?_
      refine lv_iload_n X.1 X.2.1 dX8_may_82 rfl (lv_at hl 3 rfl) ?_
      refine lv_iload_n X.1 X.2.1 dX8_may_83 rfl (lv_at hl 2 rfl) ?_
      obtain ⟨r3, err3, hres⟩ := m_ob_e hres
      refine m_bz (m_cV (n := 2) (As := [.int x3, .int x2]) (rest := []) X hSt hP hS hl.1 (c_X8_isUnder l G  err3) k_c_yX8_isUnder k_m_X8_163 k_i_yX8_isUnder k_s_yX8_isUnder k_n_X8 (by decide +kernel) (m_rc8 hSt hP m_z_172) rfl rfl ⟨Nat.le_of_ble_eq_true rfl, Nat.le_of_ble_eq_true rfl⟩ (Nat.le_of_ble_eq_true rfl) ⟨Nat.zero_le _, Nat.zero_le _⟩ dX8_may_84) hS (fun H locs hP hS hz4 => ?_)
      refine lv_if_ne (tgt := 94) X.1 X.2.1 dX8_may_87 (by decide) (fun hc5 => ?_) (fun hc5 => ?_)
      · have hres := m_if hres hc5
        refine lv_iconst (v := 0) X.1 X.2.1 dX8_may_94 (by decide) ?_
        exact m_rz X hr hlk hP hS (Option.some.inj hres) rfl (by decide) dX8_may_95
      · have hres := m_it hres hc5
        refine lv_iconst (v := 1) X.1 X.2.1 dX8_may_90 (by decide) ?_
        refine lv_goto (tgt := 95) X.1 X.2.1 dX8_may_91 (by decide) ?_
        exact m_rz X hr hlk hP hS (Option.some.inj hres) rfl (by decide) dX8_may_95
  · have hres := m_if hres hc1
    by_cases hc6 : x1 = 2 ∨ x1 = 3
    · have hres := m_it hres hc6
      refine m_tin (tgt := 96) X dX8_may_1 (by rcases hc6 with h | h <;> exact ⟨_, h, by decide, by decide, rfl⟩) (by decide) ?_
      refine lv_aload_n X.1 X.2.1 dX8_may_96 rfl (lv_at hl 0 rfl) ?_
      refine m_g8 (v := .ref (m_ad G 181)) X hSt hP m_z_172 11 (by decide) rfl k_f_X8_39 dX8_may_97 ?_
      refine lv_iconst (v := 4) X.1 X.2.1 dX8_may_100 (by decide) ?_
      refine lv_iload_n X.1 X.2.1 dX8_may_101 rfl (lv_at hl 2 rfl) ?_
      refine lv_imul X.1 X.2.1 dX8_may_102 ?_
      refine lv_iload_n X.1 X.2.1 dX8_may_103 rfl (lv_at hl 3 rfl) ?_
      refine lv_iadd X.1 X.2.1 dX8_may_104 ?_
      obtain ⟨hg7, hres⟩ := m_gd_e hres
      refine m_ia (j := ((((4 : Int32) * x2) + x3).toNatClampNeg)) X hSt hP m_z_181 hg7 rfl dX8_may_105 ?_
      refine lv_iload X.1 X.2.1 dX8_may_106 (lv_at hl 4 rfl) ?_
      refine lv_icmp_lt (tgt := 115) X.1 X.2.1 dX8_may_108 (by decide) (fun hc8 => ?_) (fun hc8 => ?_)
      · have hres := m_it hres hc8
        refine lv_iconst (v := 0) X.1 X.2.1 dX8_may_115 (by decide) ?_
        exact m_rz X hr hlk hP hS (Option.some.inj hres) rfl (by decide) dX8_may_116
      · have hres := m_if hres hc8
        refine lv_iconst (v := 1) X.1 X.2.1 dX8_may_111 (by decide) ?_
        refine lv_goto (tgt := 116) X.1 X.2.1 dX8_may_112 (by decide) ?_
        exact m_rz X hr hlk hP hS (Option.some.inj hres) rfl (by decide) dX8_may_116
    · have hres := m_if hres hc6
      by_cases hc9 : x1 = 5
      · have hres := m_it hres hc9
        refine m_tin (tgt := 117) X dX8_may_1 ⟨_, hc9, by decide, by decide, rfl⟩ (by decide) ?_
        refine lv_aload_n X.1 X.2.1 dX8_may_117 rfl (lv_at hl 0 rfl) ?_
        refine m_g8 (v := .ref (m_ad G 189)) X hSt hP m_z_172 19 (by decide) rfl k_f_X8_63 dX8_may_118 ?_
        refine lv_iload_n X.1 X.2.1 dX8_may_121 rfl (lv_at hl 2 rfl) ?_
        obtain ⟨hg10, hres⟩ := m_gd_e hres
        refine m_za (j := x2.toNatClampNeg) X hSt hP m_z_189 hg10 rfl dX8_may_122 ?_
        refine lv_if_ne (tgt := 130) X.1 X.2.1 dX8_may_123 (by decide) (fun hc11 => ?_) (fun hc11 => ?_)
        · have hres := m_if hres hc11
          refine lv_iconst (v := 0) X.1 X.2.1 dX8_may_130 (by decide) ?_
          exact m_rz X hr hlk hP hS (Option.some.inj hres) rfl (by decide) dX8_may_131
        · have hres := m_it hres hc11
          refine lv_iconst (v := 1) X.1 X.2.1 dX8_may_126 (by decide) ?_
          refine lv_goto (tgt := 131) X.1 X.2.1 dX8_may_127 (by decide) ?_
          exact m_rz X hr hlk hP hS (Option.some.inj hres) rfl (by decide) dX8_may_131
      · have hres := m_if hres hc9
        by_cases hc12 : x1 = 6
        · have hres := m_it hres hc12
          refine m_tin (tgt := 132) X dX8_may_1 ⟨_, hc12, by decide, by decide, rfl⟩ (by decide) ?_
          refine lv_aload_n X.1 X.2.1 dX8_may_132 rfl (lv_at hl 0 rfl) ?_
          refine m_g8 (v := .ref (m_ad G 182)) X hSt hP m_z_172 12 (by decide) rfl k_f_X8_42 dX8_may_133 ?_
          refine lv_iconst (v := 4) X.1 X.2.1 dX8_may_136 (by decide) ?_
          refine lv_iload_n X.1 X.2.1 dX8_may_137 rfl (lv_at hl 2 rfl) ?_
          refine lv_imul X.1 X.2.1 dX8_may_138 ?_
          refine lv_iload_n X.1 X.2.1 dX8_may_139 rfl (lv_at hl 3 rfl) ?_
          refine lv_iadd X.1 X.2.1 dX8_may_140 ?_
          obtain ⟨hg13, hres⟩ := m_gd_e hres
          refine m_za (j := ((((4 : Int32) * x2) + x3).toNatClampNeg)) X hSt hP m_z_182 hg13 rfl dX8_may_141 ?_
          refine lv_if_ne (tgt := 149) X.1 X.2.1 dX8_may_142 (by decide) (fun hc14 => ?_) (fun hc14 => ?_)
          · have hres := m_if hres hc14
            refine lv_iconst (v := 0) X.1 X.2.1 dX8_may_149 (by decide) ?_
            exact m_rz X hr hlk hP hS (Option.some.inj hres) rfl (by decide) dX8_may_150
          · have hres := m_it hres hc14
            refine lv_iconst (v := 1) X.1 X.2.1 dX8_may_145 (by decide) ?_
            refine lv_goto (tgt := 150) X.1 X.2.1 dX8_may_146 (by decide) ?_
            exact m_rz X hr hlk hP hS (Option.some.inj hres) rfl (by decide) dX8_may_150
        · have hres := m_if hres hc12
          by_cases hc15 : x1 = 7
          · have hres := m_it hres hc15
            refine m_tin (tgt := 151) X dX8_may_1 ⟨_, hc15, by decide, by decide, rfl⟩ (by decide) ?_
            refine lv_aload_n X.1 X.2.1 dX8_may_151 rfl (lv_at hl 0 rfl) ?_
            refine m_g8 (v := .ref (m_ad G 182)) X hSt hP m_z_172 12 (by decide) rfl k_f_X8_42 dX8_may_152 ?_
            refine lv_iconst (v := 4) X.1 X.2.1 dX8_may_155 (by decide) ?_
            refine lv_iload_n X.1 X.2.1 dX8_may_156 rfl (lv_at hl 2 rfl) ?_
            refine lv_imul X.1 X.2.1 dX8_may_157 ?_
            refine lv_iload_n X.1 X.2.1 dX8_may_158 rfl (lv_at hl 3 rfl) ?_
            refine lv_iadd X.1 X.2.1 dX8_may_159 ?_
            obtain ⟨hg16, hres⟩ := m_gd_e hres
            refine m_za (j := ((((4 : Int32) * x2) + x3).toNatClampNeg)) X hSt hP m_z_182 hg16 rfl dX8_may_160 ?_
            obtain ⟨hb17, hres⟩ := m_gd_e hres
            exact m_rz X hr hlk hP hS (Option.some.inj hres) rfl hb17 dX8_may_161
          · have hres := m_if hres hc15
            by_cases hc18 : x1 = 8
            · have hres := m_it hres hc18
              refine m_tin (tgt := 162) X dX8_may_1 ⟨_, hc18, by decide, by decide, rfl⟩ (by decide) ?_
              refine lv_aload_n X.1 X.2.1 dX8_may_162 rfl (lv_at hl 0 rfl) ?_
              refine m_g8 (v := .ref (m_ad G 183)) X hSt hP m_z_172 13 (by decide) rfl k_f_X8_45 dX8_may_163 ?_
              refine lv_iconst (v := 4) X.1 X.2.1 dX8_may_166 (by decide) ?_
              refine lv_iload_n X.1 X.2.1 dX8_may_167 rfl (lv_at hl 2 rfl) ?_
              refine lv_imul X.1 X.2.1 dX8_may_168 ?_
              refine lv_iload_n X.1 X.2.1 dX8_may_169 rfl (lv_at hl 3 rfl) ?_
              refine lv_iadd X.1 X.2.1 dX8_may_170 ?_
              obtain ⟨hg19, hres⟩ := m_gd_e hres
              refine m_za (j := ((((4 : Int32) * x2) + x3).toNatClampNeg)) X hSt hP m_z_183 hg19 rfl dX8_may_171 ?_
              refine lv_if_ne (tgt := 179) X.1 X.2.1 dX8_may_172 (by decide) (fun hc20 => ?_) (fun hc20 => ?_)
              · have hres := m_if hres hc20
                refine lv_iconst (v := 0) X.1 X.2.1 dX8_may_179 (by decide) ?_
                exact m_rz X hr hlk hP hS (Option.some.inj hres) rfl (by decide) dX8_may_180
              · have hres := m_it hres hc20
                refine lv_iconst (v := 1) X.1 X.2.1 dX8_may_175 (by decide) ?_
                refine lv_goto (tgt := 180) X.1 X.2.1 dX8_may_176 (by decide) ?_
                exact m_rz X hr hlk hP hS (Option.some.inj hres) rfl (by decide) dX8_may_180
            · have hres := m_if hres hc18
              by_cases hc21 : x1 = 9
              · have hres := m_it hres hc21
                refine m_tin (tgt := 181) X dX8_may_1 ⟨_, hc21, by decide, by decide, rfl⟩ (by decide) ?_
                refine lv_aload_n X.1 X.2.1 dX8_may_181 rfl (lv_at hl 0 rfl) ?_
                refine m_g8 (v := .ref (m_ad G 187)) X hSt hP m_z_172 17 (by decide) rfl k_f_X8_57 dX8_may_182 ?_
                refine lv_iload_n X.1 X.2.1 dX8_may_185 rfl (lv_at hl 2 rfl) ?_
                obtain ⟨hg22, hres⟩ := m_gd_e hres
                refine m_ia (j := x2.toNatClampNeg) X hSt hP m_z_187 hg22 rfl dX8_may_186 ?_
                refine lv_iload X.1 X.2.1 dX8_may_187 (lv_at hl 4 rfl) ?_
                refine lv_iadd X.1 X.2.1 dX8_may_189 ?_
                refine lv_aload_n X.1 X.2.1 dX8_may_190 rfl (lv_at hl 0 rfl) ?_
                refine lv_aload_n X.1 X.2.1 dX8_may_191 rfl (lv_at hl 0 rfl) ?_
                refine m_g8 (v := .ref (m_ad G 185)) X hSt hP m_z_172 15 (by decide) rfl k_f_X8_51 dX8_may_192 ?_
                refine lv_iload_n X.1 X.2.1 dX8_may_195 rfl (lv_at hl 2 rfl) ?_
                refine m_ia (j := x2.toNatClampNeg) X hSt hP m_z_185 hg22 rfl dX8_may_196 ?_
                refine lv_iconst (v := 4) X.1 X.2.1 dX8_may_197 (by decide) ?_
                obtain ⟨r23, err23, hres⟩ := m_ob_e hres
                refine m_bi (m_cV (n := 2) (As := [.int (M.1 185 x2.toNatClampNeg), .int 4]) (rest := [.int ((M.1 187 x2.toNatClampNeg) + x4)]) X hSt hP hS hl.1 (c_X8_of l G  err23) k_c_yX8_of k_m_X8_136 k_i_yX8_of k_s_yX8_of k_n_X8 (by decide +kernel) (m_rc8 hSt hP m_z_172) rfl rfl ⟨Nat.le_of_ble_eq_true rfl, Nat.le_of_ble_eq_true rfl⟩ (Nat.le_of_ble_eq_true rfl) ⟨Nat.zero_le _, Nat.zero_le _⟩ dX8_may_198) hS (fun H locs hP hS => ?_)
                refine lv_icmp_gt (tgt := 208) X.1 X.2.1 dX8_may_201 (by decide) (fun hc24 => ?_) (fun hc24 => ?_)
                · have hres := m_it hres hc24
                  refine lv_iconst (v := 0) X.1 X.2.1 dX8_may_208 (by decide) ?_
                  exact m_rz X hr hlk hP hS (Option.some.inj hres) rfl (by decide) dX8_may_209
                · have hres := m_if hres hc24
                  refine lv_iconst (v := 1) X.1 X.2.1 dX8_may_204 (by decide) ?_
                  refine lv_goto (tgt := 209) X.1 X.2.1 dX8_may_205 (by decide) ?_
                  exact m_rz X hr hlk hP hS (Option.some.inj hres) rfl (by decide) dX8_may_209
              · have hres := m_if hres hc21
                by_cases hc25 : x1 = 10
                · have hres := m_it hres hc25
                  refine m_tin (tgt := 210) X dX8_may_1 ⟨_, hc25, by decide, by decide, rfl⟩ (by decide) ?_
                  refine lv_aload_n X.1 X.2.1 dX8_may_210 rfl (lv_at hl 0 rfl) ?_
                  refine lv_iload_n X.1 X.2.1 dX8_may_211 rfl (lv_at hl 2 rfl) ?_
                  obtain ⟨r26, err26, hres⟩ := m_ob_e hres
                  refine m_bi (m_cV (n := 1) (As := [.int x2]) (rest := []) X hSt hP hS hl.1 (c_X8_thereOf l G  err26) k_c_yX8_thereOf k_m_X8_167 k_i_yX8_thereOf k_s_yX8_thereOf k_n_X8 (by decide +kernel) (m_rc8 hSt hP m_z_172) rfl rfl ⟨Nat.le_of_ble_eq_true rfl, Nat.le_of_ble_eq_true rfl⟩ (Nat.le_of_ble_eq_true rfl) ⟨Nat.zero_le _, Nat.zero_le _⟩ dX8_may_212) hS (fun H locs hP hS => ?_)
                  refine lv_iload X.1 X.2.1 dX8_may_215 (lv_at hl 4 rfl) ?_
                  refine lv_icmp_lt (tgt := 224) X.1 X.2.1 dX8_may_217 (by decide) (fun hc27 => ?_) (fun hc27 => ?_)
                  · have hres := m_it hres hc27
                    refine lv_iconst (v := 0) X.1 X.2.1 dX8_may_224 (by decide) ?_
                    exact m_rz X hr hlk hP hS (Option.some.inj hres) rfl (by decide) dX8_may_225
                  · have hres := m_if hres hc27
                    refine lv_iconst (v := 1) X.1 X.2.1 dX8_may_220 (by decide) ?_
                    refine lv_goto (tgt := 225) X.1 X.2.1 dX8_may_221 (by decide) ?_
                    exact m_rz X hr hlk hP hS (Option.some.inj hres) rfl (by decide) dX8_may_225
                · have hres := m_if hres hc25
                  by_cases hc28 : x1 = 12
                  · have hres := m_it hres hc28
                    refine m_tin (tgt := 226) X dX8_may_1 ⟨_, hc28, by decide, by decide, rfl⟩ (by decide) ?_
                    refine lv_aload_n X.1 X.2.1 dX8_may_226 rfl (lv_at hl 0 rfl) ?_
                    refine m_g8 (v := .ref (m_ad G 184)) X hSt hP m_z_172 14 (by decide) rfl k_f_X8_48 dX8_may_227 ?_
                    refine lv_bipush (v := 10) X.1 X.2.1 dX8_may_230 (by decide) ?_
                    refine lv_iload_n X.1 X.2.1 dX8_may_232 rfl (lv_at hl 2 rfl) ?_
                    refine lv_imul X.1 X.2.1 dX8_may_233 ?_
                    refine lv_iload_n X.1 X.2.1 dX8_may_234 rfl (lv_at hl 3 rfl) ?_
                    refine lv_iadd X.1 X.2.1 dX8_may_235 ?_
                    obtain ⟨hg29, hres⟩ := m_gd_e hres
                    refine m_ia (j := ((((10 : Int32) * x2) + x3).toNatClampNeg)) X hSt hP m_z_184 hg29 rfl dX8_may_236 ?_
                    refine lv_iload X.1 X.2.1 dX8_may_237 (lv_at hl 4 rfl) ?_
                    refine lv_icmp_lt (tgt := 246) X.1 X.2.1 dX8_may_239 (by decide) (fun hc30 => ?_) (fun hc30 => ?_)
                    · have hres := m_it hres hc30
                      refine lv_iconst (v := 0) X.1 X.2.1 dX8_may_246 (by decide) ?_
                      exact m_rz X hr hlk hP hS (Option.some.inj hres) rfl (by decide) dX8_may_247
                    · have hres := m_if hres hc30
                      refine lv_iconst (v := 1) X.1 X.2.1 dX8_may_242 (by decide) ?_
                      refine lv_goto (tgt := 247) X.1 X.2.1 dX8_may_243 (by decide) ?_
                      exact m_rz X hr hlk hP hS (Option.some.inj hres) rfl (by decide) dX8_may_247
                  · have hres := m_if hres hc28
                    by_cases hc31 : x1 = 13
                    · have hres := m_it hres hc31
                      refine m_tin (tgt := 248) X dX8_may_1 ⟨_, hc31, by decide, by decide, rfl⟩ (by decide) ?_
                      refine lv_aload_n X.1 X.2.1 dX8_may_248 rfl (lv_at hl 0 rfl) ?_
                      refine lv_iload_n X.1 X.2.1 dX8_may_249 rfl (lv_at hl 2 rfl) ?_
                      obtain ⟨r32, err32, hres⟩ := m_ob_e hres
                      refine m_bi (m_cV (n := 1) (As := [.int x2]) (rest := []) X hSt hP hS hl.1 (c_X8_owedOf l G  err32) k_c_yX8_owedOf k_m_X8_171 k_i_yX8_owedOf k_s_yX8_owedOf k_n_X8 (by decide +kernel) (m_rc8 hSt hP m_z_172) rfl rfl ⟨Nat.le_of_ble_eq_true rfl, Nat.le_of_ble_eq_true rfl⟩ (Nat.le_of_ble_eq_true rfl) ⟨Nat.zero_le _, Nat.zero_le _⟩ dX8_may_250) hS (fun H locs hP hS => ?_)
                      refine lv_iload X.1 X.2.1 dX8_may_253 (lv_at hl 4 rfl) ?_
                      refine lv_icmp_lt (tgt := 262) X.1 X.2.1 dX8_may_255 (by decide) (fun hc33 => ?_) (fun hc33 => ?_)
                      · have hres := m_it hres hc33
                        refine lv_iconst (v := 0) X.1 X.2.1 dX8_may_262 (by decide) ?_
                        exact m_rz X hr hlk hP hS (Option.some.inj hres) rfl (by decide) dX8_may_263
                      · have hres := m_if hres hc33
                        refine lv_iconst (v := 1) X.1 X.2.1 dX8_may_258 (by decide) ?_
                        refine lv_goto (tgt := 263) X.1 X.2.1 dX8_may_259 (by decide) ?_
                        exact m_rz X hr hlk hP hS (Option.some.inj hres) rfl (by decide) dX8_may_263
                    · have hres := m_if hres hc31
                      by_cases hc34 : x1 = 14
                      · have hres := m_it hres hc34
                        refine m_tin (tgt := 264) X dX8_may_1 ⟨_, hc34, by decide, by decide, rfl⟩ (by decide) ?_
                        refine lv_aload_n X.1 X.2.1 dX8_may_264 rfl (lv_at hl 0 rfl) ?_
                        refine m_g8 (v := .ref (m_ad G 177)) X hSt hP m_z_172 7 (by decide) rfl k_f_X8_27 dX8_may_265 ?_
                        refine lv_iload_n X.1 X.2.1 dX8_may_268 rfl (lv_at hl 2 rfl) ?_
                        obtain ⟨hg35, hres⟩ := m_gd_e hres
                        refine m_ia (j := x2.toNatClampNeg) X hSt hP m_z_177 hg35 rfl dX8_may_269 ?_
                        refine lv_iconst (v := (-1)) X.1 X.2.1 dX8_may_270 (by decide) ?_
                        refine lv_icmp_eq (tgt := 278) X.1 X.2.1 dX8_may_271 (by decide) (fun hc36 => ?_) (fun hc36 => ?_)
                        · have hres := m_it hres hc36
                          refine lv_iconst (v := 0) X.1 X.2.1 dX8_may_278 (by decide) ?_
                          exact m_rz X hr hlk hP hS (Option.some.inj hres) rfl (by decide) dX8_may_279
                        · have hres := m_if hres hc36
                          refine lv_iconst (v := 1) X.1 X.2.1 dX8_may_274 (by decide) ?_
                          refine lv_goto (tgt := 279) X.1 X.2.1 dX8_may_275 (by decide) ?_
                          exact m_rz X hr hlk hP hS (Option.some.inj hres) rfl (by decide) dX8_may_279
                      · have hres := m_if hres hc34
                        refine m_tdf (tgt := 280) X dX8_may_1 (by
    by_cases hd0 : x1 = 1
    · exact Or.inr ⟨_, hd0, by decide, by decide, rfl⟩
    by_cases hd1 : x1 = 4
    · exact Or.inr ⟨_, hd1, by decide, by decide, rfl⟩
    by_cases hd2 : x1 = 11
    · exact Or.inr ⟨_, hd2, by decide, by decide, rfl⟩
    have := m_ne (z := 0) hc1 (by decide)
    have := m_ne (z := 2) (not_or.mp hc6).1 (by decide)
    have := m_ne (z := 3) (not_or.mp hc6).2 (by decide)
    have := m_ne (z := 5) hc9 (by decide)
    have := m_ne (z := 6) hc12 (by decide)
    have := m_ne (z := 7) hc15 (by decide)
    have := m_ne (z := 8) hc18 (by decide)
    have := m_ne (z := 9) hc21 (by decide)
    have := m_ne (z := 10) hc25 (by decide)
    have := m_ne (z := 12) hc28 (by decide)
    have := m_ne (z := 13) hc31 (by decide)
    have := m_ne (z := 14) hc34 (by decide)
    have := m_ne (z := 1) hd0 (by decide)
    have := m_ne (z := 4) hd1 (by decide)
    have := m_ne (z := 11) hd2 (by decide)
    exact Or.inl (by omega)) (by decide) ?_
                        refine lv_iconst (v := 1) X.1 X.2.1 dX8_may_280 (by decide) ?_
                        exact m_rz X hr hlk hP hS (Option.some.inj hres) rfl (by decide) dX8_may_281
theorem dX8_namesB_0 : decode cX8_namesB 0 = .ok (.iload_n 0, 1) := by decide +kernel
theorem dX8_namesB_1 : decode cX8_namesB 1 = .ok (.iconst 5, 1) := by decide +kernel
theorem dX8_namesB_2 : decode cX8_namesB 2 = .ok (.if_icmp .eq 25, 3) := by decide +kernel
theorem dX8_namesB_5 : decode cX8_namesB 5 = .ok (.iload_n 0, 1) := by decide +kernel
theorem dX8_namesB_6 : decode cX8_namesB 6 = .ok (.bipush 9, 2) := by decide +kernel
theorem dX8_namesB_8 : decode cX8_namesB 8 = .ok (.if_icmp .eq 19, 3) := by decide +kernel
theorem dX8_namesB_11 : decode cX8_namesB 11 = .ok (.iload_n 0, 1) := by decide +kernel
theorem dX8_namesB_12 : decode cX8_namesB 12 = .ok (.bipush 10, 2) := by decide +kernel
theorem dX8_namesB_14 : decode cX8_namesB 14 = .ok (.if_icmp .eq 13, 3) := by decide +kernel
theorem dX8_namesB_17 : decode cX8_namesB 17 = .ok (.iload_n 0, 1) := by decide +kernel
theorem dX8_namesB_18 : decode cX8_namesB 18 = .ok (.bipush 13, 2) := by decide +kernel
theorem dX8_namesB_20 : decode cX8_namesB 20 = .ok (.if_icmp .eq 7, 3) := by decide +kernel
theorem dX8_namesB_23 : decode cX8_namesB 23 = .ok (.iconst 1, 1) := by decide +kernel
theorem dX8_namesB_24 : decode cX8_namesB 24 = .ok (.goto 4, 3) := by decide +kernel
theorem dX8_namesB_27 : decode cX8_namesB 27 = .ok (.iconst 0, 1) := by decide +kernel
theorem dX8_namesB_28 : decode cX8_namesB 28 = .ok (.ireturn, 1) := by decide +kernel
def f_X8_namesB (x0 : Int32) : Int32 :=
  if x0 = 5 then
  0
  else
  if x0 = 9 then
  0
  else
  if x0 = 10 then
  0
  else
  if x0 = 13 then
  0
  else
  1
set_option maxHeartbeats 4000000 in
set_option maxRecDepth 100000 in
theorem c_X8_namesB (l : Launch) (G : m_G) {x0 : Int32} {M : m_M} {r0 : Int32}  (hres : f_X8_namesB x0 = r0) : Met l yX8_namesB (m_U yX8_namesB cX8_namesB 1 (some .boolean)) (m_R 0 0) (m_Pc G [.int x0] M) (m_Qz G r0 M) 0 0 (m_A G) := by
  refine m_i0 (n := 1) RX8 rfl (by decide) (Nat.le_of_ble_eq_true rfl) ?_
  intro p e s m args below meth c X hr hlk hSt hP hS ls hl
  have hl : lv_has ls 1 [(0, .int x0)] := hl
  unfold f_X8_namesB at hres
  refine lv_iload_n X.1 X.2.1 dX8_namesB_0 rfl (lv_at hl 0 rfl) ?_
  refine lv_iconst (v := 5) X.1 X.2.1 dX8_namesB_1 (by decide) ?_
  refine lv_icmp_eq (tgt := 27) X.1 X.2.1 dX8_namesB_2 (by decide) (fun hc1 => ?_) (fun hc1 => ?_)
  · have hres := m_it hres hc1
    refine lv_iconst (v := 0) X.1 X.2.1 dX8_namesB_27 (by decide) ?_
    exact m_rz X hr hlk hP hS hres rfl (by decide) dX8_namesB_28
  · have hres := m_if hres hc1
    refine lv_iload_n X.1 X.2.1 dX8_namesB_5 rfl (lv_at hl 0 rfl) ?_
    refine lv_bipush (v := 9) X.1 X.2.1 dX8_namesB_6 (by decide) ?_
    refine lv_icmp_eq (tgt := 27) X.1 X.2.1 dX8_namesB_8 (by decide) (fun hc2 => ?_) (fun hc2 => ?_)
    · have hres := m_it hres hc2
      refine lv_iconst (v := 0) X.1 X.2.1 dX8_namesB_27 (by decide) ?_
      exact m_rz X hr hlk hP hS hres rfl (by decide) dX8_namesB_28
    · have hres := m_if hres hc2
      refine lv_iload_n X.1 X.2.1 dX8_namesB_11 rfl (lv_at hl 0 rfl) ?_
      refine lv_bipush (v := 10) X.1 X.2.1 dX8_namesB_12 (by decide) ?_
      refine lv_icmp_eq (tgt := 27) X.1 X.2.1 dX8_namesB_14 (by decide) (fun hc3 => ?_) (fun hc3 => ?_)
      · have hres := m_it hres hc3
        refine lv_iconst (v := 0) X.1 X.2.1 dX8_namesB_27 (by decide) ?_
        exact m_rz X hr hlk hP hS hres rfl (by decide) dX8_namesB_28
      · have hres := m_if hres hc3
        refine lv_iload_n X.1 X.2.1 dX8_namesB_17 rfl (lv_at hl 0 rfl) ?_
        refine lv_bipush (v := 13) X.1 X.2.1 dX8_namesB_18 (by decide) ?_
        refine lv_icmp_eq (tgt := 27) X.1 X.2.1 dX8_namesB_20 (by decide) (fun hc4 => ?_) (fun hc4 => ?_)
        · have hres := m_it hres hc4
          refine lv_iconst (v := 0) X.1 X.2.1 dX8_namesB_27 (by decide) ?_
          exact m_rz X hr hlk hP hS hres rfl (by decide) dX8_namesB_28
        · have hres := m_if hres hc4
          refine lv_iconst (v := 1) X.1 X.2.1 dX8_namesB_23 (by decide) ?_
          refine lv_goto (tgt := 28) X.1 X.2.1 dX8_namesB_24 (by decide) ?_
          exact m_rz X hr hlk hP hS hres rfl (by decide) dX8_namesB_28
theorem dX8_namesV_0 : decode cX8_namesV 0 = .ok (.iload_n 0, 1) := by decide +kernel
theorem dX8_namesV_1 : decode cX8_namesV 1 = .ok (.iconst 1, 1) := by decide +kernel
theorem dX8_namesV_2 : decode cX8_namesV 2 = .ok (.if_icmp .lt 8, 3) := by decide +kernel
theorem dX8_namesV_5 : decode cX8_namesV 5 = .ok (.iload_n 0, 1) := by decide +kernel
theorem dX8_namesV_6 : decode cX8_namesV 6 = .ok (.iconst 4, 1) := by decide +kernel
theorem dX8_namesV_7 : decode cX8_namesV 7 = .ok (.if_icmp .le 15, 3) := by decide +kernel
theorem dX8_namesV_10 : decode cX8_namesV 10 = .ok (.iload_n 0, 1) := by decide +kernel
theorem dX8_namesV_11 : decode cX8_namesV 11 = .ok (.bipush 9, 2) := by decide +kernel
theorem dX8_namesV_13 : decode cX8_namesV 13 = .ok (.if_icmp .lt 13, 3) := by decide +kernel
theorem dX8_namesV_16 : decode cX8_namesV 16 = .ok (.iload_n 0, 1) := by decide +kernel
theorem dX8_namesV_17 : decode cX8_namesV 17 = .ok (.bipush 13, 2) := by decide +kernel
theorem dX8_namesV_19 : decode cX8_namesV 19 = .ok (.if_icmp .gt 7, 3) := by decide +kernel
theorem dX8_namesV_22 : decode cX8_namesV 22 = .ok (.iconst 1, 1) := by decide +kernel
theorem dX8_namesV_23 : decode cX8_namesV 23 = .ok (.goto 4, 3) := by decide +kernel
theorem dX8_namesV_26 : decode cX8_namesV 26 = .ok (.iconst 0, 1) := by decide +kernel
theorem dX8_namesV_27 : decode cX8_namesV 27 = .ok (.ireturn, 1) := by decide +kernel
def f_X8_namesV_b10 (x0 : Int32)  : Int32 :=
  if x0 < 9 then
  0
  else
  if (13 : Int32) < x0 then
  0
  else
  1
def f_X8_namesV (x0 : Int32) : Int32 :=
  if x0 < 1 then
  f_X8_namesV_b10 x0
  else
  if x0 ≤ 4 then
  1
  else
  f_X8_namesV_b10 x0
set_option maxHeartbeats 4000000 in
set_option maxRecDepth 100000 in
theorem c_X8_namesV (l : Launch) (G : m_G) {x0 : Int32} {M : m_M} {r0 : Int32}  (hres : f_X8_namesV x0 = r0) : Met l yX8_namesV (m_U yX8_namesV cX8_namesV 1 (some .boolean)) (m_R 0 0) (m_Pc G [.int x0] M) (m_Qz G r0 M) 0 0 (m_A G) := by
  refine m_i0 (n := 1) RX8 rfl (by decide) (Nat.le_of_ble_eq_true rfl) ?_
  intro p e s m args below meth c X hr hlk hSt hP hS ls hl
  have hl : lv_has ls 1 [(0, .int x0)] := hl
  have B10 : ∀  (H : Heap) (locs : List Loc) (ls : Array Slot), m_P G M H → va_S (m_A G) s.heap H locs → lv_has ls 1 [(0, .int x0)] → f_X8_namesV_b10 x0 = r0 → W p l e (m_R 0 0) s m args below meth c H locs 0 0 (MQ below (m_Qz G r0 M) args s 0 0 (m_A G)) (F0 m 10 ls []) := by
    intro H locs ls hP hS hl hres
    unfold f_X8_namesV_b10 at hres
    refine lv_iload_n X.1 X.2.1 dX8_namesV_10 rfl (lv_at hl 0 rfl) ?_
    refine lv_bipush (v := 9) X.1 X.2.1 dX8_namesV_11 (by decide) ?_
    refine lv_icmp_lt (tgt := 26) X.1 X.2.1 dX8_namesV_13 (by decide) (fun hc1 => ?_) (fun hc1 => ?_)
    · have hres := m_it hres hc1
      refine lv_iconst (v := 0) X.1 X.2.1 dX8_namesV_26 (by decide) ?_
      exact m_rz X hr hlk hP hS hres rfl (by decide) dX8_namesV_27
    · have hres := m_if hres hc1
      refine lv_iload_n X.1 X.2.1 dX8_namesV_16 rfl (lv_at hl 0 rfl) ?_
      refine lv_bipush (v := 13) X.1 X.2.1 dX8_namesV_17 (by decide) ?_
      refine lv_icmp_gt (tgt := 26) X.1 X.2.1 dX8_namesV_19 (by decide) (fun hc2 => ?_) (fun hc2 => ?_)
      · have hres := m_it hres hc2
        refine lv_iconst (v := 0) X.1 X.2.1 dX8_namesV_26 (by decide) ?_
        exact m_rz X hr hlk hP hS hres rfl (by decide) dX8_namesV_27
      · have hres := m_if hres hc2
        refine lv_iconst (v := 1) X.1 X.2.1 dX8_namesV_22 (by decide) ?_
        refine lv_goto (tgt := 27) X.1 X.2.1 dX8_namesV_23 (by decide) ?_
        exact m_rz X hr hlk hP hS hres rfl (by decide) dX8_namesV_27
  unfold f_X8_namesV at hres
  refine lv_iload_n X.1 X.2.1 dX8_namesV_0 rfl (lv_at hl 0 rfl) ?_
  refine lv_iconst (v := 1) X.1 X.2.1 dX8_namesV_1 (by decide) ?_
  refine lv_icmp_lt (tgt := 10) X.1 X.2.1 dX8_namesV_2 (by decide) (fun hc3 => ?_) (fun hc3 => ?_)
  · have hres := m_it hres hc3
    exact B10 _ _ _ hP hS (lv_sub hl [0] rfl) hres
  · have hres := m_if hres hc3
    refine lv_iload_n X.1 X.2.1 dX8_namesV_5 rfl (lv_at hl 0 rfl) ?_
    refine lv_iconst (v := 4) X.1 X.2.1 dX8_namesV_6 (by decide) ?_
    refine lv_icmp_le (tgt := 22) X.1 X.2.1 dX8_namesV_7 (by decide) (fun hc4 => ?_) (fun hc4 => ?_)
    · have hres := m_it hres hc4
      refine lv_iconst (v := 1) X.1 X.2.1 dX8_namesV_22 (by decide) ?_
      refine lv_goto (tgt := 27) X.1 X.2.1 dX8_namesV_23 (by decide) ?_
      exact m_rz X hr hlk hP hS hres rfl (by decide) dX8_namesV_27
    · have hres := m_if hres hc4
      exact B10 _ _ _ hP hS (lv_sub hl [0] rfl) hres
