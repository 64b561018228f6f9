/-! WALKS 1: X0_start X4_peek X4_isDigit X4_blame X4_step X4_digits X4_opened J0_isLatin1_aae02 J0_coder_7d493 J0_length_8abf5 J1_canEncode_9a6ad J1_indexOfChar_4cfef J1_indexOf_4cfef J0_indexOf_7cf53 J0_indexOf_0f7a4 X4_operand X4_unit X4_term X4_sum X4_held X4_both X4_value X7_isDeal X7_isDay X5_restart -/
theorem dX0_start_0 : decode cX0_start 0 = .ok (.aload_n 0, 1) := by decide +kernel
theorem dX0_start_1 : decode cX0_start 1 = .ok (.iload_n 1, 1) := by decide +kernel
theorem dX0_start_2 : decode cX0_start 2 = .ok (.putfield 7, 3) := by decide +kernel
theorem dX0_start_5 : decode cX0_start 5 = .ok (.aload_n 0, 1) := by decide +kernel
theorem dX0_start_6 : decode cX0_start 6 = .ok (.iload_n 2, 1) := by decide +kernel
theorem dX0_start_7 : decode cX0_start 7 = .ok (.putfield 13, 3) := by decide +kernel
theorem dX0_start_10 : decode cX0_start 10 = .ok (.aload_n 0, 1) := by decide +kernel
theorem dX0_start_11 : decode cX0_start 11 = .ok (.iload_n 3, 1) := by decide +kernel
theorem dX0_start_12 : decode cX0_start 12 = .ok (.putfield 16, 3) := by decide +kernel
theorem dX0_start_15 : decode cX0_start 15 = .ok (.aload_n 0, 1) := by decide +kernel
theorem dX0_start_16 : decode cX0_start 16 = .ok (.iconst 0, 1) := by decide +kernel
theorem dX0_start_17 : decode cX0_start 17 = .ok (.putfield 19, 3) := by decide +kernel
theorem dX0_start_20 : decode cX0_start 20 = .ok (.aload_n 0, 1) := by decide +kernel
theorem dX0_start_21 : decode cX0_start 21 = .ok (.iconst 0, 1) := by decide +kernel
theorem dX0_start_22 : decode cX0_start 22 = .ok (.putfield 22, 3) := by decide +kernel
theorem dX0_start_25 : decode cX0_start 25 = .ok (.aload_n 0, 1) := by decide +kernel
theorem dX0_start_26 : decode cX0_start 26 = .ok (.iconst 0, 1) := by decide +kernel
theorem dX0_start_27 : decode cX0_start 27 = .ok (.putfield 25, 3) := by decide +kernel
theorem dX0_start_30 : decode cX0_start 30 = .ok (.aload_n 0, 1) := by decide +kernel
theorem dX0_start_31 : decode cX0_start 31 = .ok (.aload 4, 2) := by decide +kernel
theorem dX0_start_33 : decode cX0_start 33 = .ok (.getfield 28, 3) := by decide +kernel
theorem dX0_start_36 : decode cX0_start 36 = .ok (.putfield 33, 3) := by decide +kernel
theorem dX0_start_39 : decode cX0_start 39 = .ok (.aload_n 0, 1) := by decide +kernel
theorem dX0_start_40 : decode cX0_start 40 = .ok (.iconst 0, 1) := by decide +kernel
theorem dX0_start_41 : decode cX0_start 41 = .ok (.putfield 36, 3) := by decide +kernel
theorem dX0_start_44 : decode cX0_start 44 = .ok (.aload_n 0, 1) := by decide +kernel
theorem dX0_start_45 : decode cX0_start 45 = .ok (.aload 4, 2) := by decide +kernel
theorem dX0_start_47 : decode cX0_start 47 = .ok (.getfield 40, 3) := by decide +kernel
theorem dX0_start_50 : decode cX0_start 50 = .ok (.iload_n 2, 1) := by decide +kernel
theorem dX0_start_51 : decode cX0_start 51 = .ok (.baload, 1) := by decide +kernel
theorem dX0_start_52 : decode cX0_start 52 = .ok (.putfield 44, 3) := by decide +kernel
theorem dX0_start_55 : decode cX0_start 55 = .ok (.aload_n 0, 1) := by decide +kernel
theorem dX0_start_56 : decode cX0_start 56 = .ok (.aload 4, 2) := by decide +kernel
theorem dX0_start_58 : decode cX0_start 58 = .ok (.getfield 47, 3) := by decide +kernel
theorem dX0_start_61 : decode cX0_start 61 = .ok (.iload_n 2, 1) := by decide +kernel
theorem dX0_start_62 : decode cX0_start 62 = .ok (.baload, 1) := by decide +kernel
theorem dX0_start_63 : decode cX0_start 63 = .ok (.putfield 50, 3) := by decide +kernel
theorem dX0_start_66 : decode cX0_start 66 = .ok (.return_, 1) := by decide +kernel
def f_X0_start (k0 : Nat) (x1 : Int32) (x2 : Int32) (x3 : Int32) (k4 : Nat) (M : m_M) : Option m_M :=
  m_bd (m_sI M k0 0 x1) fun M1 =>
  m_bd (m_sI M1 k0 1 x2) fun M2 =>
  m_bd (m_sI M2 k0 2 x3) fun M3 =>
  m_bd (m_sI M3 k0 3 0) fun M4 =>
  m_bd (m_sI M4 k0 4 0) fun M5 =>
  m_bd (m_sI M5 k0 5 0) fun M6 =>
  m_bd (m_sI M6 k0 6 (M6.1 k4 4)) fun M7 =>
  m_bd (m_sI M7 k0 7 0) fun M8 =>
  m_gd (m_in x2 4) (
  m_gd (m_B (M8.1 (k4 + 3) x2.toNatClampNeg)) (
  m_bd (m_sI M8 k0 8 (M8.1 (k4 + 3) x2.toNatClampNeg)) fun M10 =>
  m_gd (m_B (M10.1 (k4 + 4) x2.toNatClampNeg)) (
  m_bd (m_sI M10 k0 9 (M10.1 (k4 + 4) x2.toNatClampNeg)) fun M12 =>
  some M12)))
set_option maxHeartbeats 4000000 in
set_option maxRecDepth 100000 in
theorem c_X0_start (l : Launch) (G : m_G) {k0 : Nat} {x1 : Int32} {x2 : Int32} {x3 : Int32} {k4 : Nat} {M : m_M} {M0 : m_M} (hk0 : m_isDeal k0) (hk4 : m_isPerson k4) (hres : f_X0_start k0 x1 x2 x3 k4 M = some M0) : Met l yX0_start (m_U yX0_start cX0_start 5 none) (m_R 0 0) (m_Pc G [.ref (m_ad G k0), .int x1, .int x2, .int x3, .ref (m_ad G k4)] M) (m_Qv G M0) 0 0 (m_A G) := by
  refine m_i0 (n := 5) RX0 rfl (by decide) (Nat.le_of_ble_eq_true rfl) ?_
  intro p e s m args below meth c X hr hlk hSt hP hS ls hl
  have hl : lv_has ls 5 [(0, .ref (m_ad G k0)), (1, .int x1), (2, .int x2), (3, .int x3), (4, .ref (m_ad G k4))] := hl
  unfold f_X0_start at hres
  refine lv_aload_n X.1 X.2.1 dX0_start_0 rfl (lv_at hl 0 rfl) ?_
  refine lv_iload_n X.1 X.2.1 dX0_start_1 rfl (lv_at hl 1 rfl) ?_
  obtain ⟨M1, eM1, hres⟩ := m_bd_e hres
  refine m_pi0 X hSt hP hS hk0 0 (by decide) eM1 rfl rfl (by decide) k_f_X0_7 dX0_start_2 (fun H locs hP hS => ?_)
  refine lv_aload_n X.1 X.2.1 dX0_start_5 rfl (lv_at hl 0 rfl) ?_
  refine lv_iload_n X.1 X.2.1 dX0_start_6 rfl (lv_at hl 2 rfl) ?_
  obtain ⟨M2, eM2, hres⟩ := m_bd_e hres
  refine m_pi0 X hSt hP hS hk0 1 (by decide) eM2 rfl rfl (by decide) k_f_X0_13 dX0_start_7 (fun H locs hP hS => ?_)
  refine lv_aload_n X.1 X.2.1 dX0_start_10 rfl (lv_at hl 0 rfl) ?_
  refine lv_iload_n X.1 X.2.1 dX0_start_11 rfl (lv_at hl 3 rfl) ?_
  obtain ⟨M3, eM3, hres⟩ := m_bd_e hres
  refine m_pi0 X hSt hP hS hk0 2 (by decide) eM3 rfl rfl (by decide) k_f_X0_16 dX0_start_12 (fun H locs hP hS => ?_)
  refine lv_aload_n X.1 X.2.1 dX0_start_15 rfl (lv_at hl 0 rfl) ?_
  refine lv_iconst (v := 0) X.1 X.2.1 dX0_start_16 (by decide) ?_
  obtain ⟨M4, eM4, hres⟩ := m_bd_e hres
  refine m_pi0 X hSt hP hS hk0 3 (by decide) eM4 rfl rfl (by decide) k_f_X0_19 dX0_start_17 (fun H locs hP hS => ?_)
  refine lv_aload_n X.1 X.2.1 dX0_start_20 rfl (lv_at hl 0 rfl) ?_
  refine lv_iconst (v := 0) X.1 X.2.1 dX0_start_21 (by decide) ?_
  obtain ⟨M5, eM5, hres⟩ := m_bd_e hres
  refine m_pi0 X hSt hP hS hk0 4 (by decide) eM5 rfl rfl (by decide) k_f_X0_22 dX0_start_22 (fun H locs hP hS => ?_)
  refine lv_aload_n X.1 X.2.1 dX0_start_25 rfl (lv_at hl 0 rfl) ?_
  refine lv_iconst (v := 0) X.1 X.2.1 dX0_start_26 (by decide) ?_
  obtain ⟨M6, eM6, hres⟩ := m_bd_e hres
  refine m_pi0 X hSt hP hS hk0 5 (by decide) eM6 rfl rfl (by decide) k_f_X0_25 dX0_start_27 (fun H locs hP hS => ?_)
  refine lv_aload_n X.1 X.2.1 dX0_start_30 rfl (lv_at hl 0 rfl) ?_
  refine lv_aload X.1 X.2.1 dX0_start_31 (lv_at hl 4 rfl) ?_
  refine m_g5 (v := .int (M6.1 k4 4)) X hSt hP hk4.1 4 (by decide) rfl k_f_X0_28 dX0_start_33 ?_
  obtain ⟨M7, eM7, hres⟩ := m_bd_e hres
  refine m_pi0 X hSt hP hS hk0 6 (by decide) eM7 rfl rfl (by decide) k_f_X0_33 dX0_start_36 (fun H locs hP hS => ?_)
  refine lv_aload_n X.1 X.2.1 dX0_start_39 rfl (lv_at hl 0 rfl) ?_
  refine lv_iconst (v := 0) X.1 X.2.1 dX0_start_40 (by decide) ?_
  obtain ⟨M8, eM8, hres⟩ := m_bd_e hres
  refine m_pz0 X hSt hP hS hk0 7 (by decide) (by decide) eM8 rfl rfl (by decide) k_f_X0_36 dX0_start_41 (fun H locs hP hS => ?_)
  refine lv_aload_n X.1 X.2.1 dX0_start_44 rfl (lv_at hl 0 rfl) ?_
  refine lv_aload X.1 X.2.1 dX0_start_45 (lv_at hl 4 rfl) ?_
  refine m_g5 (v := .ref (m_ad G (k4 + 3))) X hSt hP hk4.1 9 (by decide) rfl k_f_X0_40 dX0_start_47 ?_
  refine lv_iload_n X.1 X.2.1 dX0_start_50 rfl (lv_at hl 2 rfl) ?_
  obtain ⟨hg9, hres⟩ := m_gd_e hres
  refine m_za (j := x2.toNatClampNeg) X hSt hP hk4.2.2.2.1 hg9 rfl dX0_start_51 ?_
  obtain ⟨hb11, hres⟩ := m_gd_e hres
  obtain ⟨M10, eM10, hres⟩ := m_bd_e hres
  refine m_pz0 X hSt hP hS hk0 8 (by decide) hb11 eM10 rfl rfl (by decide) k_f_X0_44 dX0_start_52 (fun H locs hP hS => ?_)
  refine lv_aload_n X.1 X.2.1 dX0_start_55 rfl (lv_at hl 0 rfl) ?_
  refine lv_aload X.1 X.2.1 dX0_start_56 (lv_at hl 4 rfl) ?_
  refine m_g5 (v := .ref (m_ad G (k4 + 4))) X hSt hP hk4.1 10 (by decide) rfl k_f_X0_47 dX0_start_58 ?_
  refine lv_iload_n X.1 X.2.1 dX0_start_61 rfl (lv_at hl 2 rfl) ?_
  refine m_za (j := x2.toNatClampNeg) X hSt hP hk4.2.2.2.2 hg9 rfl dX0_start_62 ?_
  obtain ⟨hb13, hres⟩ := m_gd_e hres
  obtain ⟨M12, eM12, hres⟩ := m_bd_e hres
  refine m_pz0 X hSt hP hS hk0 9 (by decide) hb13 eM12 rfl rfl (by decide) k_f_X0_50 dX0_start_63 (fun H locs hP hS => ?_)
  exact m_rv X hr hlk hP hS (Option.some.inj hres) dX0_start_66
theorem dX4_peek_0 : decode cX4_peek 0 = .ok (.aload_n 0, 1) := by decide +kernel
theorem dX4_peek_1 : decode cX4_peek 1 = .ok (.getfield 58, 3) := by decide +kernel
theorem dX4_peek_4 : decode cX4_peek 4 = .ok (.aload_n 0, 1) := by decide +kernel
theorem dX4_peek_5 : decode cX4_peek 5 = .ok (.getfield 29, 3) := by decide +kernel
theorem dX4_peek_8 : decode cX4_peek 8 = .ok (.if_icmp .ge 30, 3) := by decide +kernel
theorem dX4_peek_11 : decode cX4_peek 11 = .ok (.aload_n 0, 1) := by decide +kernel
theorem dX4_peek_12 : decode cX4_peek 12 = .ok (.getfield 9, 3) := by decide +kernel
theorem dX4_peek_15 : decode cX4_peek 15 = .ok (.aload_n 0, 1) := by decide +kernel
theorem dX4_peek_16 : decode cX4_peek 16 = .ok (.getfield 58, 3) := by decide +kernel
theorem dX4_peek_19 : decode cX4_peek 19 = .ok (.iaload, 1) := by decide +kernel
theorem dX4_peek_20 : decode cX4_peek 20 = .ok (.bipush 32, 2) := by decide +kernel
theorem dX4_peek_22 : decode cX4_peek 22 = .ok (.if_icmp .ne 16, 3) := by decide +kernel
theorem dX4_peek_25 : decode cX4_peek 25 = .ok (.aload_n 0, 1) := by decide +kernel
theorem dX4_peek_26 : decode cX4_peek 26 = .ok (.dup, 1) := by decide +kernel
theorem dX4_peek_27 : decode cX4_peek 27 = .ok (.getfield 58, 3) := by decide +kernel
theorem dX4_peek_30 : decode cX4_peek 30 = .ok (.iconst 1, 1) := by decide +kernel
theorem dX4_peek_31 : decode cX4_peek 31 = .ok (.iadd, 1) := by decide +kernel
theorem dX4_peek_32 : decode cX4_peek 32 = .ok (.putfield 58, 3) := by decide +kernel
theorem dX4_peek_35 : decode cX4_peek 35 = .ok (.goto (-35), 3) := by decide +kernel
theorem dX4_peek_38 : decode cX4_peek 38 = .ok (.aload_n 0, 1) := by decide +kernel
theorem dX4_peek_39 : decode cX4_peek 39 = .ok (.getfield 58, 3) := by decide +kernel
theorem dX4_peek_42 : decode cX4_peek 42 = .ok (.aload_n 0, 1) := by decide +kernel
theorem dX4_peek_43 : decode cX4_peek 43 = .ok (.getfield 29, 3) := by decide +kernel
theorem dX4_peek_46 : decode cX4_peek 46 = .ok (.if_icmp .ge 23, 3) := by decide +kernel
theorem dX4_peek_49 : decode cX4_peek 49 = .ok (.aload_n 0, 1) := by decide +kernel
theorem dX4_peek_50 : decode cX4_peek 50 = .ok (.getfield 25, 3) := by decide +kernel
theorem dX4_peek_53 : decode cX4_peek 53 = .ok (.iconst (-1), 1) := by decide +kernel
theorem dX4_peek_54 : decode cX4_peek 54 = .ok (.if_icmp .ne 15, 3) := by decide +kernel
theorem dX4_peek_57 : decode cX4_peek 57 = .ok (.aload_n 0, 1) := by decide +kernel
theorem dX4_peek_58 : decode cX4_peek 58 = .ok (.getfield 9, 3) := by decide +kernel
theorem dX4_peek_61 : decode cX4_peek 61 = .ok (.aload_n 0, 1) := by decide +kernel
theorem dX4_peek_62 : decode cX4_peek 62 = .ok (.getfield 58, 3) := by decide +kernel
theorem dX4_peek_65 : decode cX4_peek 65 = .ok (.iaload, 1) := by decide +kernel
theorem dX4_peek_66 : decode cX4_peek 66 = .ok (.goto 4, 3) := by decide +kernel
theorem dX4_peek_69 : decode cX4_peek 69 = .ok (.iconst (-1), 1) := by decide +kernel
theorem dX4_peek_70 : decode cX4_peek 70 = .ok (.ireturn, 1) := by decide +kernel
def f_X4_peek_b38 (n : Nat) (k0 : Nat) (M : m_M) : Option (Int32 × m_M) :=
  if (M.1 k0 1) ≤ (M.1 k0 6) then
  some ((-1), M)
  else
  if (M.1 k0 7) = (-1) then
  m_gd (m_in (M.1 k0 6) 50) (
  some ((M.1 (k0 + 1) ((M.1 k0 6).toNatClampNeg)), M))
  else
  some ((-1), M)
def f_X4_peek_b0 (n : Nat) (k0 : Nat) : Nat → m_M → Option (Int32 × m_M)
  | 0, _ => none
  | u + 1, M =>
    if (M.1 k0 1) ≤ (M.1 k0 6) then
  f_X4_peek_b38 n k0 M
  else
  m_gd (m_in (M.1 k0 6) 50) (
  if (M.1 (k0 + 1) ((M.1 k0 6).toNatClampNeg)) = 32 then
  m_bd (m_sI M k0 6 ((M.1 k0 6) + (1 : Int32))) fun M7 =>
  f_X4_peek_b0 n k0 u M7
  else
  f_X4_peek_b38 n k0 M)
def f_X4_peek (n : Nat) (k0 : Nat) (M : m_M) : Option (Int32 × m_M) :=
  if (M.1 k0 1) ≤ (M.1 k0 6) then
  f_X4_peek_b38 n k0 M
  else
  m_gd (m_in (M.1 k0 6) 50) (
  if (M.1 (k0 + 1) ((M.1 k0 6).toNatClampNeg)) = 32 then
  m_bd (m_sI M k0 6 ((M.1 k0 6) + (1 : Int32))) fun M11 =>
  f_X4_peek_b0 n k0 n M11
  else
  f_X4_peek_b38 n k0 M)
set_option maxHeartbeats 4000000 in
set_option maxRecDepth 100000 in
theorem c_X4_peek (l : Launch) (G : m_G) {n : Nat} {k0 : Nat} {M : m_M} {r0 : Int32} {M0 : m_M} (hk0 : m_isLaw k0) (hres : f_X4_peek n k0 M = some (r0, M0)) : Met l yX4_peek (m_U yX4_peek cX4_peek 1 (some .int)) (m_R 0 0) (m_Pc G [.ref (m_ad G k0)] M) (m_Qi G r0 M0) 0 0 (m_A G) := by
  refine m_i0 (n := 1) RX4 rfl (by decide) (Nat.le_of_ble_eq_true rfl) ?_
  intro p e s m args below meth c X hr hlk hSt hP hS ls hl
  have hl : lv_has ls 1 [(0, .ref (m_ad G k0))] := hl
  have B38 : ∀  (M : m_M) (H : Heap) (locs : List Loc) (ls : Array Slot), m_P G M H → va_S (m_A G) s.heap H locs → lv_has ls 1 [(0, .ref (m_ad G k0))] → f_X4_peek_b38 n k0 M = some (r0, M0) → W p l e (m_R 0 0) s m args below meth c H locs 0 0 (MQ below (m_Qi G r0 M0) args s 0 0 (m_A G)) (F0 m 38 ls []) := by
    intro M H locs ls hP hS hl hres
    unfold f_X4_peek_b38 at hres
    refine lv_aload_n X.1 X.2.1 dX4_peek_38 rfl (lv_at hl 0 rfl) ?_
    refine m_g4 (v := .int (M.1 k0 6)) X hSt hP hk0.1 6 (by decide) rfl k_f_X4_58 dX4_peek_39 ?_
    refine lv_aload_n X.1 X.2.1 dX4_peek_42 rfl (lv_at hl 0 rfl) ?_
    refine m_g4 (v := .int (M.1 k0 1)) X hSt hP hk0.1 1 (by decide) rfl k_f_X4_29 dX4_peek_43 ?_
    refine lv_icmp_ge (tgt := 69) X.1 X.2.1 dX4_peek_46 (by decide) (fun hc1 => ?_) (fun hc1 => ?_)
    · have hres := m_it hres hc1
      refine lv_iconst (v := (-1)) X.1 X.2.1 dX4_peek_69 (by decide) ?_
      exact m_ri X hr hlk hP hS (Prod.mk.inj (Option.some.inj hres)).1 (Prod.mk.inj (Option.some.inj hres)).2 dX4_peek_70
    · have hres := m_if hres hc1
      refine lv_aload_n X.1 X.2.1 dX4_peek_49 rfl (lv_at hl 0 rfl) ?_
      refine m_g4 (v := .int (M.1 k0 7)) X hSt hP hk0.1 7 (by decide) rfl k_f_X4_25 dX4_peek_50 ?_
      refine lv_iconst (v := (-1)) X.1 X.2.1 dX4_peek_53 (by decide) ?_
      refine lv_icmp_ne (tgt := 69) X.1 X.2.1 dX4_peek_54 (by decide) (fun hc2 => ?_) (fun hc2 => ?_)
      · have hres := m_if hres hc2
        refine lv_iconst (v := (-1)) X.1 X.2.1 dX4_peek_69 (by decide) ?_
        exact m_ri X hr hlk hP hS (Prod.mk.inj (Option.some.inj hres)).1 (Prod.mk.inj (Option.some.inj hres)).2 dX4_peek_70
      · have hres := m_it hres hc2
        refine lv_aload_n X.1 X.2.1 dX4_peek_57 rfl (lv_at hl 0 rfl) ?_
        refine m_g4 (v := .ref (m_ad G (k0 + 1))) X hSt hP hk0.1 0 (by decide) rfl k_f_X4_9 dX4_peek_58 ?_
        refine lv_aload_n X.1 X.2.1 dX4_peek_61 rfl (lv_at hl 0 rfl) ?_
        refine m_g4 (v := .int (M.1 k0 6)) X hSt hP hk0.1 6 (by decide) rfl k_f_X4_58 dX4_peek_62 ?_
        obtain ⟨hg3, hres⟩ := m_gd_e hres
        refine m_ia (j := ((M.1 k0 6).toNatClampNeg)) X hSt hP hk0.2.1 hg3 rfl dX4_peek_65 ?_
        refine lv_goto (tgt := 70) X.1 X.2.1 dX4_peek_66 (by decide) ?_
        exact m_ri X hr hlk hP hS (Prod.mk.inj (Option.some.inj hres)).1 (Prod.mk.inj (Option.some.inj hres)).2 dX4_peek_70
  have B0 : ∀ (u : Nat) (M : m_M) (H : Heap) (locs : List Loc) (ls : Array Slot), m_P G M H → va_S (m_A G) s.heap H locs → lv_has ls 1 [(0, .ref (m_ad G k0))] → f_X4_peek_b0 n k0 u M = some (r0, M0) → W p l e (m_R 0 0) s m args below meth c H locs 0 0 (MQ below (m_Qi G r0 M0) args s 0 0 (m_A G)) (F0 m 0 ls []) := by
    intro u
    induction u with
    | zero =>
      intro M H locs ls hP hS hl hres
      cases hres
    | succ u ih =>
      intro M H locs ls hP hS hl hres
      rw [f_X4_peek_b0] at hres
      refine lv_aload_n X.1 X.2.1 dX4_peek_0 rfl (lv_at hl 0 rfl) ?_
      refine m_g4 (v := .int (M.1 k0 6)) X hSt hP hk0.1 6 (by decide) rfl k_f_X4_58 dX4_peek_1 ?_
      refine lv_aload_n X.1 X.2.1 dX4_peek_4 rfl (lv_at hl 0 rfl) ?_
      refine m_g4 (v := .int (M.1 k0 1)) X hSt hP hk0.1 1 (by decide) rfl k_f_X4_29 dX4_peek_5 ?_
      refine lv_icmp_ge (tgt := 38) X.1 X.2.1 dX4_peek_8 (by decide) (fun hc4 => ?_) (fun hc4 => ?_)
      · have hres := m_it hres hc4
        exact B38 M _ _ _ hP hS (lv_sub hl [0] rfl) hres
      · have hres := m_if hres hc4
        refine lv_aload_n X.1 X.2.1 dX4_peek_11 rfl (lv_at hl 0 rfl) ?_
        refine m_g4 (v := .ref (m_ad G (k0 + 1))) X hSt hP hk0.1 0 (by decide) rfl k_f_X4_9 dX4_peek_12 ?_
        refine lv_aload_n X.1 X.2.1 dX4_peek_15 rfl (lv_at hl 0 rfl) ?_
        refine m_g4 (v := .int (M.1 k0 6)) X hSt hP hk0.1 6 (by decide) rfl k_f_X4_58 dX4_peek_16 ?_
        obtain ⟨hg5, hres⟩ := m_gd_e hres
        refine m_ia (j := ((M.1 k0 6).toNatClampNeg)) X hSt hP hk0.2.1 hg5 rfl dX4_peek_19 ?_
        refine lv_bipush (v := 32) X.1 X.2.1 dX4_peek_20 (by decide) ?_
        refine lv_icmp_ne (tgt := 38) X.1 X.2.1 dX4_peek_22 (by decide) (fun hc6 => ?_) (fun hc6 => ?_)
        · have hres := m_if hres hc6
          exact B38 M _ _ _ hP hS (lv_sub hl [0] rfl) hres
        · have hres := m_it hres hc6
          refine lv_aload_n X.1 X.2.1 dX4_peek_25 rfl (lv_at hl 0 rfl) ?_
          refine lv_dup X.1 X.2.1 dX4_peek_26 rfl ?_
          refine m_g4 (v := .int (M.1 k0 6)) X hSt hP hk0.1 6 (by decide) rfl k_f_X4_58 dX4_peek_27 ?_
          refine lv_iconst (v := 1) X.1 X.2.1 dX4_peek_30 (by decide) ?_
          refine lv_iadd X.1 X.2.1 dX4_peek_31 ?_
          obtain ⟨M7, eM7, hres⟩ := m_bd_e hres
          refine m_pi4 X hSt hP hS hk0.1 6 (by decide) eM7 rfl rfl (by decide) k_f_X4_58 dX4_peek_32 (fun H locs hP hS => ?_)
          refine lv_goto (tgt := 0) X.1 X.2.1 dX4_peek_35 (by decide) ?_
          exact ih M7 _ _ _ hP hS (lv_sub hl [0] rfl) hres
  unfold f_X4_peek at hres
  refine lv_aload_n X.1 X.2.1 dX4_peek_0 rfl (lv_at hl 0 rfl) ?_
  refine m_g4 (v := .int (M.1 k0 6)) X hSt hP hk0.1 6 (by decide) rfl k_f_X4_58 dX4_peek_1 ?_
  refine lv_aload_n X.1 X.2.1 dX4_peek_4 rfl (lv_at hl 0 rfl) ?_
  refine m_g4 (v := .int (M.1 k0 1)) X hSt hP hk0.1 1 (by decide) rfl k_f_X4_29 dX4_peek_5 ?_
  refine lv_icmp_ge (tgt := 38) X.1 X.2.1 dX4_peek_8 (by decide) (fun hc8 => ?_) (fun hc8 => ?_)
  · have hres := m_it hres hc8
    exact B38 M _ _ _ hP hS (lv_sub hl [0] rfl) hres
  · have hres := m_if hres hc8
    refine lv_aload_n X.1 X.2.1 dX4_peek_11 rfl (lv_at hl 0 rfl) ?_
    refine m_g4 (v := .ref (m_ad G (k0 + 1))) X hSt hP hk0.1 0 (by decide) rfl k_f_X4_9 dX4_peek_12 ?_
    refine lv_aload_n X.1 X.2.1 dX4_peek_15 rfl (lv_at hl 0 rfl) ?_
    refine m_g4 (v := .int (M.1 k0 6)) X hSt hP hk0.1 6 (by decide) rfl k_f_X4_58 dX4_peek_16 ?_
    obtain ⟨hg9, hres⟩ := m_gd_e hres
    refine m_ia (j := ((M.1 k0 6).toNatClampNeg)) X hSt hP hk0.2.1 hg9 rfl dX4_peek_19 ?_
    refine lv_bipush (v := 32) X.1 X.2.1 dX4_peek_20 (by decide) ?_
    refine lv_icmp_ne (tgt := 38) X.1 X.2.1 dX4_peek_22 (by decide) (fun hc10 => ?_) (fun hc10 => ?_)
    · have hres := m_if hres hc10
      exact B38 M _ _ _ hP hS (lv_sub hl [0] rfl) hres
    · have hres := m_it hres hc10
      refine lv_aload_n X.1 X.2.1 dX4_peek_25 rfl (lv_at hl 0 rfl) ?_
      refine lv_dup X.1 X.2.1 dX4_peek_26 rfl ?_
      refine m_g4 (v := .int (M.1 k0 6)) X hSt hP hk0.1 6 (by decide) rfl k_f_X4_58 dX4_peek_27 ?_
      refine lv_iconst (v := 1) X.1 X.2.1 dX4_peek_30 (by decide) ?_
      refine lv_iadd X.1 X.2.1 dX4_peek_31 ?_
      obtain ⟨M11, eM11, hres⟩ := m_bd_e hres
      refine m_pi4 X hSt hP hS hk0.1 6 (by decide) eM11 rfl rfl (by decide) k_f_X4_58 dX4_peek_32 (fun H locs hP hS => ?_)
      refine lv_goto (tgt := 0) X.1 X.2.1 dX4_peek_35 (by decide) ?_
      exact B0 n M11 _ _ _ hP hS (lv_sub hl [0] rfl) hres
theorem dX4_isDigit_0 : decode cX4_isDigit 0 = .ok (.iload_n 0, 1) := by decide +kernel
theorem dX4_isDigit_1 : decode cX4_isDigit 1 = .ok (.bipush 48, 2) := by decide +kernel
theorem dX4_isDigit_3 : decode cX4_isDigit 3 = .ok (.if_icmp .lt 13, 3) := by decide +kernel
theorem dX4_isDigit_6 : decode cX4_isDigit 6 = .ok (.iload_n 0, 1) := by decide +kernel
theorem dX4_isDigit_7 : decode cX4_isDigit 7 = .ok (.bipush 57, 2) := by decide +kernel
theorem dX4_isDigit_9 : decode cX4_isDigit 9 = .ok (.if_icmp .gt 7, 3) := by decide +kernel
theorem dX4_isDigit_12 : decode cX4_isDigit 12 = .ok (.iconst 1, 1) := by decide +kernel
theorem dX4_isDigit_13 : decode cX4_isDigit 13 = .ok (.goto 4, 3) := by decide +kernel
theorem dX4_isDigit_16 : decode cX4_isDigit 16 = .ok (.iconst 0, 1) := by decide +kernel
theorem dX4_isDigit_17 : decode cX4_isDigit 17 = .ok (.ireturn, 1) := by decide +kernel
def f_X4_isDigit (x0 : Int32) : Int32 :=
  if x0 < 48 then
  0
  else
  if (57 : Int32) < x0 then
  0
  else
  1
set_option maxHeartbeats 4000000 in
set_option maxRecDepth 100000 in
theorem c_X4_isDigit (l : Launch) (G : m_G) {x0 : Int32} {M : m_M} {r0 : Int32}  (hres : f_X4_isDigit x0 = r0) : Met l yX4_isDigit (m_U yX4_isDigit cX4_isDigit 1 (some .boolean)) (m_R 0 0) (m_Pc G [.int x0] M) (m_Qz G r0 M) 0 0 (m_A G) := by
  refine m_i0 (n := 1) RX4 rfl (by decide) (Nat.le_of_ble_eq_true rfl) ?_
  intro p e s m args below meth c X hr hlk hSt hP hS ls hl
  have hl : lv_has ls 1 [(0, .int x0)] := hl
  unfold f_X4_isDigit at hres
  refine lv_iload_n X.1 X.2.1 dX4_isDigit_0 rfl (lv_at hl 0 rfl) ?_
  refine lv_bipush (v := 48) X.1 X.2.1 dX4_isDigit_1 (by decide) ?_
  refine lv_icmp_lt (tgt := 16) X.1 X.2.1 dX4_isDigit_3 (by decide) (fun hc1 => ?_) (fun hc1 => ?_)
  · have hres := m_it hres hc1
    refine lv_iconst (v := 0) X.1 X.2.1 dX4_isDigit_16 (by decide) ?_
    exact m_rz X hr hlk hP hS hres rfl (by decide) dX4_isDigit_17
  · have hres := m_if hres hc1
    refine lv_iload_n X.1 X.2.1 dX4_isDigit_6 rfl (lv_at hl 0 rfl) ?_
    refine lv_bipush (v := 57) X.1 X.2.1 dX4_isDigit_7 (by decide) ?_
    refine lv_icmp_gt (tgt := 16) X.1 X.2.1 dX4_isDigit_9 (by decide) (fun hc2 => ?_) (fun hc2 => ?_)
    · have hres := m_it hres hc2
      refine lv_iconst (v := 0) X.1 X.2.1 dX4_isDigit_16 (by decide) ?_
      exact m_rz X hr hlk hP hS hres rfl (by decide) dX4_isDigit_17
    · have hres := m_if hres hc2
      refine lv_iconst (v := 1) X.1 X.2.1 dX4_isDigit_12 (by decide) ?_
      refine lv_goto (tgt := 17) X.1 X.2.1 dX4_isDigit_13 (by decide) ?_
      exact m_rz X hr hlk hP hS hres rfl (by decide) dX4_isDigit_17
theorem dX4_blame_0 : decode cX4_blame 0 = .ok (.aload_n 0, 1) := by decide +kernel
theorem dX4_blame_1 : decode cX4_blame 1 = .ok (.getfield 25, 3) := by decide +kernel
theorem dX4_blame_4 : decode cX4_blame 4 = .ok (.iconst (-1), 1) := by decide +kernel
theorem dX4_blame_5 : decode cX4_blame 5 = .ok (.if_icmp .ne 13, 3) := by decide +kernel
theorem dX4_blame_8 : decode cX4_blame 8 = .ok (.aload_n 0, 1) := by decide +kernel
theorem dX4_blame_9 : decode cX4_blame 9 = .ok (.bipush 10, 2) := by decide +kernel
theorem dX4_blame_11 : decode cX4_blame 11 = .ok (.iload_n 1, 1) := by decide +kernel
theorem dX4_blame_12 : decode cX4_blame 12 = .ok (.imul, 1) := by decide +kernel
theorem dX4_blame_13 : decode cX4_blame 13 = .ok (.iload_n 2, 1) := by decide +kernel
theorem dX4_blame_14 : decode cX4_blame 14 = .ok (.iadd, 1) := by decide +kernel
theorem dX4_blame_15 : decode cX4_blame 15 = .ok (.putfield 25, 3) := by decide +kernel
theorem dX4_blame_18 : decode cX4_blame 18 = .ok (.return_, 1) := by decide +kernel
def f_X4_blame (k0 : Nat) (x1 : Int32) (x2 : Int32) (M : m_M) : m_M :=
  if (M.1 k0 7) = (-1) then
  m_bd (m_sI M k0 7 (((10 : Int32) * x1) + x2)) fun M2 =>
  M2
  else
  M
set_option maxHeartbeats 4000000 in
set_option maxRecDepth 100000 in
theorem c_X4_blame (l : Launch) (G : m_G) {k0 : Nat} {x1 : Int32} {x2 : Int32} {M : m_M} {M0 : m_M} (hk0 : m_isLaw k0) (hres : f_X4_blame k0 x1 x2 M = M0) : Met l yX4_blame (m_U yX4_blame cX4_blame 3 none) (m_R 0 0) (m_Pc G [.ref (m_ad G k0), .int x1, .int x2] M) (m_Qv G M0) 0 0 (m_A G) := by
  refine m_i0 (n := 3) RX4 rfl (by decide) (Nat.le_of_ble_eq_true rfl) ?_
  intro p e s m args below meth c X hr hlk hSt hP hS ls hl
  have hl : lv_has ls 3 [(0, .ref (m_ad G k0)), (1, .int x1), (2, .int x2)] := hl
  unfold f_X4_blame at hres
  refine lv_aload_n X.1 X.2.1 dX4_blame_0 rfl (lv_at hl 0 rfl) ?_
  refine m_g4 (v := .int (M.1 k0 7)) X hSt hP hk0.1 7 (by decide) rfl k_f_X4_25 dX4_blame_1 ?_
  refine lv_iconst (v := (-1)) X.1 X.2.1 dX4_blame_4 (by decide) ?_
  refine lv_icmp_ne (tgt := 18) X.1 X.2.1 dX4_blame_5 (by decide) (fun hc1 => ?_) (fun hc1 => ?_)
  · have hres := m_if hres hc1
    exact m_rv X hr hlk hP hS hres dX4_blame_18
  · have hres := m_it hres hc1
    refine lv_aload_n X.1 X.2.1 dX4_blame_8 rfl (lv_at hl 0 rfl) ?_
    refine lv_bipush (v := 10) X.1 X.2.1 dX4_blame_9 (by decide) ?_
    refine lv_iload_n X.1 X.2.1 dX4_blame_11 rfl (lv_at hl 1 rfl) ?_
    refine lv_imul X.1 X.2.1 dX4_blame_12 ?_
    refine lv_iload_n X.1 X.2.1 dX4_blame_13 rfl (lv_at hl 2 rfl) ?_
    refine lv_iadd X.1 X.2.1 dX4_blame_14 ?_
    obtain ⟨M2, eM2, hres⟩ := m_bd_e hres
    refine m_pi4 X hSt hP hS hk0.1 7 (by decide) eM2 rfl rfl (by decide) k_f_X4_25 dX4_blame_15 (fun H locs hP hS => ?_)
    exact m_rv X hr hlk hP hS hres dX4_blame_18
theorem dX4_step_0 : decode cX4_step 0 = .ok (.aload_n 0, 1) := by decide +kernel
theorem dX4_step_1 : decode cX4_step 1 = .ok (.getfield 61, 3) := by decide +kernel
theorem dX4_step_4 : decode cX4_step 4 = .ok (.bipush 50, 2) := by decide +kernel
theorem dX4_step_6 : decode cX4_step 6 = .ok (.if_icmp .lt 4, 3) := by decide +kernel
theorem dX4_step_9 : decode cX4_step 9 = .ok (.return_, 1) := by decide +kernel
theorem dX4_step_10 : decode cX4_step 10 = .ok (.aload_n 0, 1) := by decide +kernel
theorem dX4_step_11 : decode cX4_step 11 = .ok (.getfield 15, 3) := by decide +kernel
theorem dX4_step_14 : decode cX4_step 14 = .ok (.aload_n 0, 1) := by decide +kernel
theorem dX4_step_15 : decode cX4_step 15 = .ok (.getfield 61, 3) := by decide +kernel
theorem dX4_step_18 : decode cX4_step 18 = .ok (.iload_n 1, 1) := by decide +kernel
theorem dX4_step_19 : decode cX4_step 19 = .ok (.iastore, 1) := by decide +kernel
theorem dX4_step_20 : decode cX4_step 20 = .ok (.aload_n 0, 1) := by decide +kernel
theorem dX4_step_21 : decode cX4_step 21 = .ok (.getfield 18, 3) := by decide +kernel
theorem dX4_step_24 : decode cX4_step 24 = .ok (.aload_n 0, 1) := by decide +kernel
theorem dX4_step_25 : decode cX4_step 25 = .ok (.getfield 61, 3) := by decide +kernel
theorem dX4_step_28 : decode cX4_step 28 = .ok (.lload_n 2, 1) := by decide +kernel
theorem dX4_step_29 : decode cX4_step 29 = .ok (.lastore, 1) := by decide +kernel
theorem dX4_step_30 : decode cX4_step 30 = .ok (.aload_n 0, 1) := by decide +kernel
theorem dX4_step_31 : decode cX4_step 31 = .ok (.dup, 1) := by decide +kernel
theorem dX4_step_32 : decode cX4_step 32 = .ok (.getfield 61, 3) := by decide +kernel
theorem dX4_step_35 : decode cX4_step 35 = .ok (.iconst 1, 1) := by decide +kernel
theorem dX4_step_36 : decode cX4_step 36 = .ok (.iadd, 1) := by decide +kernel
theorem dX4_step_37 : decode cX4_step 37 = .ok (.putfield 61, 3) := by decide +kernel
theorem dX4_step_40 : decode cX4_step 40 = .ok (.return_, 1) := by decide +kernel
def f_X4_step (k0 : Nat) (x1 : Int32) (x2 : Int64) (M : m_M) : Option m_M :=
  if (M.1 k0 5) < 50 then
  m_gd (m_in (M.1 k0 5) 50) (
  m_bd (m_sI M (k0 + 2) ((M.1 k0 5).toNatClampNeg) x1) fun M3 =>
  m_gd (m_in (M3.1 k0 5) 50) (
  m_bd (m_sL M3 (k0 + 3) ((M3.1 k0 5).toNatClampNeg) x2) fun M5 =>
  m_bd (m_sI M5 k0 5 ((M5.1 k0 5) + (1 : Int32))) fun M6 =>
  some M6))
  else
  some M
set_option maxHeartbeats 4000000 in
set_option maxRecDepth 100000 in
theorem c_X4_step (l : Launch) (G : m_G) {k0 : Nat} {x1 : Int32} {x2 : Int64} {M : m_M} {M0 : m_M} (hk0 : m_isLaw k0) (hres : f_X4_step k0 x1 x2 M = some M0) : Met l yX4_step (m_U yX4_step cX4_step 4 none) (m_R 0 0) (m_Pc G [.ref (m_ad G k0), .int x1, .long x2] M) (m_Qv G M0) 0 0 (m_A G) := by
  refine m_i0 (n := 4) RX4 rfl (by decide) (Nat.le_of_ble_eq_true rfl) ?_
  intro p e s m args below meth c X hr hlk hSt hP hS ls hl
  have hl : lv_has ls 4 [(0, .ref (m_ad G k0)), (1, .int x1), (2, .long x2)] := hl
  unfold f_X4_step at hres
  refine lv_aload_n X.1 X.2.1 dX4_step_0 rfl (lv_at hl 0 rfl) ?_
  refine m_g4 (v := .int (M.1 k0 5)) X hSt hP hk0.1 5 (by decide) rfl k_f_X4_61 dX4_step_1 ?_
  refine lv_bipush (v := 50) X.1 X.2.1 dX4_step_4 (by decide) ?_
  refine lv_icmp_lt (tgt := 10) X.1 X.2.1 dX4_step_6 (by decide) (fun hc1 => ?_) (fun hc1 => ?_)
  · have hres := m_it hres hc1
    refine lv_aload_n X.1 X.2.1 dX4_step_10 rfl (lv_at hl 0 rfl) ?_
    refine m_g4 (v := .ref (m_ad G (k0 + 2))) X hSt hP hk0.1 2 (by decide) rfl k_f_X4_15 dX4_step_11 ?_
    refine lv_aload_n X.1 X.2.1 dX4_step_14 rfl (lv_at hl 0 rfl) ?_
    refine m_g4 (v := .int (M.1 k0 5)) X hSt hP hk0.1 5 (by decide) rfl k_f_X4_61 dX4_step_15 ?_
    refine lv_iload_n X.1 X.2.1 dX4_step_18 rfl (lv_at hl 1 rfl) ?_
    obtain ⟨hg2, hres⟩ := m_gd_e hres
    obtain ⟨M3, eM3, hres⟩ := m_bd_e hres
    refine m_is (j := ((M.1 k0 5).toNatClampNeg)) X hSt hP hS hk0.2.2.1 hg2 rfl dX4_step_19 eM3 (fun H locs hP hS => ?_)
    refine lv_aload_n X.1 X.2.1 dX4_step_20 rfl (lv_at hl 0 rfl) ?_
    refine m_g4 (v := .ref (m_ad G (k0 + 3))) X hSt hP hk0.1 3 (by decide) rfl k_f_X4_18 dX4_step_21 ?_
    refine lv_aload_n X.1 X.2.1 dX4_step_24 rfl (lv_at hl 0 rfl) ?_
    refine m_g4 (v := .int (M3.1 k0 5)) X hSt hP hk0.1 5 (by decide) rfl k_f_X4_61 dX4_step_25 ?_
    refine lv_lload_n X.1 X.2.1 dX4_step_28 rfl (lv_at hl 2 rfl) ?_
    obtain ⟨hg4, hres⟩ := m_gd_e hres
    obtain ⟨M5, eM5, hres⟩ := m_bd_e hres
    refine m_ls (j := ((M3.1 k0 5).toNatClampNeg)) X hSt hP hS hk0.2.2.2.1 hg4 rfl dX4_step_29 eM5 (fun H locs hP hS => ?_)
    refine lv_aload_n X.1 X.2.1 dX4_step_30 rfl (lv_at hl 0 rfl) ?_
    refine lv_dup X.1 X.2.1 dX4_step_31 rfl ?_
    refine m_g4 (v := .int (M5.1 k0 5)) X hSt hP hk0.1 5 (by decide) rfl k_f_X4_61 dX4_step_32 ?_
    refine lv_iconst (v := 1) X.1 X.2.1 dX4_step_35 (by decide) ?_
    refine lv_iadd X.1 X.2.1 dX4_step_36 ?_
    obtain ⟨M6, eM6, hres⟩ := m_bd_e hres
    refine m_pi4 X hSt hP hS hk0.1 5 (by decide) eM6 rfl rfl (by decide) k_f_X4_61 dX4_step_37 (fun H locs hP hS => ?_)
    exact m_rv X hr hlk hP hS (Option.some.inj hres) dX4_step_40
  · have hres := m_if hres hc1
    exact m_rv X hr hlk hP hS (Option.some.inj hres) dX4_step_9
theorem dX4_digits_0 : decode cX4_digits 0 = .ok (.aload_n 0, 1) := by decide +kernel
theorem dX4_digits_1 : decode cX4_digits 1 = .ok (.getfield 58, 3) := by decide +kernel
theorem dX4_digits_4 : decode cX4_digits 4 = .ok (.istore_n 1, 1) := by decide +kernel
theorem dX4_digits_5 : decode cX4_digits 5 = .ok (.lconst 0, 1) := by decide +kernel
theorem dX4_digits_6 : decode cX4_digits 6 = .ok (.lstore_n 2, 1) := by decide +kernel
theorem dX4_digits_7 : decode cX4_digits 7 = .ok (.aload_n 0, 1) := by decide +kernel
theorem dX4_digits_8 : decode cX4_digits 8 = .ok (.getfield 58, 3) := by decide +kernel
theorem dX4_digits_11 : decode cX4_digits 11 = .ok (.aload_n 0, 1) := by decide +kernel
theorem dX4_digits_12 : decode cX4_digits 12 = .ok (.getfield 29, 3) := by decide +kernel
theorem dX4_digits_15 : decode cX4_digits 15 = .ok (.if_icmp .ge 62, 3) := by decide +kernel
theorem dX4_digits_18 : decode cX4_digits 18 = .ok (.aload_n 0, 1) := by decide +kernel
theorem dX4_digits_19 : decode cX4_digits 19 = .ok (.getfield 9, 3) := by decide +kernel
theorem dX4_digits_22 : decode cX4_digits 22 = .ok (.aload_n 0, 1) := by decide +kernel
theorem dX4_digits_23 : decode cX4_digits 23 = .ok (.getfield 58, 3) := by decide +kernel
theorem dX4_digits_26 : decode cX4_digits 26 = .ok (.iaload, 1) := by decide +kernel
theorem dX4_digits_27 : decode cX4_digits 27 = .ok (.invokestatic 98, 3) := by decide +kernel
theorem dX4_digits_30 : decode cX4_digits 30 = .ok (.ifCond .eq 47, 3) := by decide +kernel
theorem dX4_digits_33 : decode cX4_digits 33 = .ok (.aload_n 0, 1) := by decide +kernel
theorem dX4_digits_34 : decode cX4_digits 34 = .ok (.getfield 58, 3) := by decide +kernel
theorem dX4_digits_37 : decode cX4_digits 37 = .ok (.iload_n 1, 1) := by decide +kernel
theorem dX4_digits_38 : decode cX4_digits 38 = .ok (.isub, 1) := by decide +kernel
theorem dX4_digits_39 : decode cX4_digits 39 = .ok (.bipush 6, 2) := by decide +kernel
theorem dX4_digits_41 : decode cX4_digits 41 = .ok (.if_icmp .ge 23, 3) := by decide +kernel
theorem dX4_digits_44 : decode cX4_digits 44 = .ok (.ldc2_w 116, 3) := by decide +kernel
theorem dX4_digits_47 : decode cX4_digits 47 = .ok (.lload_n 2, 1) := by decide +kernel
theorem dX4_digits_48 : decode cX4_digits 48 = .ok (.lmul, 1) := by decide +kernel
theorem dX4_digits_49 : decode cX4_digits 49 = .ok (.aload_n 0, 1) := by decide +kernel
theorem dX4_digits_50 : decode cX4_digits 50 = .ok (.getfield 9, 3) := by decide +kernel
theorem dX4_digits_53 : decode cX4_digits 53 = .ok (.aload_n 0, 1) := by decide +kernel
theorem dX4_digits_54 : decode cX4_digits 54 = .ok (.getfield 58, 3) := by decide +kernel
theorem dX4_digits_57 : decode cX4_digits 57 = .ok (.iaload, 1) := by decide +kernel
theorem dX4_digits_58 : decode cX4_digits 58 = .ok (.bipush 48, 2) := by decide +kernel
theorem dX4_digits_60 : decode cX4_digits 60 = .ok (.isub, 1) := by decide +kernel
theorem dX4_digits_61 : decode cX4_digits 61 = .ok (.i2l, 1) := by decide +kernel
theorem dX4_digits_62 : decode cX4_digits 62 = .ok (.ladd, 1) := by decide +kernel
theorem dX4_digits_63 : decode cX4_digits 63 = .ok (.lstore_n 2, 1) := by decide +kernel
theorem dX4_digits_64 : decode cX4_digits 64 = .ok (.aload_n 0, 1) := by decide +kernel
theorem dX4_digits_65 : decode cX4_digits 65 = .ok (.dup, 1) := by decide +kernel
theorem dX4_digits_66 : decode cX4_digits 66 = .ok (.getfield 58, 3) := by decide +kernel
theorem dX4_digits_69 : decode cX4_digits 69 = .ok (.iconst 1, 1) := by decide +kernel
theorem dX4_digits_70 : decode cX4_digits 70 = .ok (.iadd, 1) := by decide +kernel
theorem dX4_digits_71 : decode cX4_digits 71 = .ok (.putfield 58, 3) := by decide +kernel
theorem dX4_digits_74 : decode cX4_digits 74 = .ok (.goto (-67), 3) := by decide +kernel
theorem dX4_digits_77 : decode cX4_digits 77 = .ok (.aload_n 0, 1) := by decide +kernel
theorem dX4_digits_78 : decode cX4_digits 78 = .ok (.getfield 58, 3) := by decide +kernel
theorem dX4_digits_81 : decode cX4_digits 81 = .ok (.iload_n 1, 1) := by decide +kernel
theorem dX4_digits_82 : decode cX4_digits 82 = .ok (.isub, 1) := by decide +kernel
theorem dX4_digits_83 : decode cX4_digits 83 = .ok (.bipush 6, 2) := by decide +kernel
theorem dX4_digits_85 : decode cX4_digits 85 = .ok (.if_icmp .le 9, 3) := by decide +kernel
theorem dX4_digits_88 : decode cX4_digits 88 = .ok (.aload_n 0, 1) := by decide +kernel
theorem dX4_digits_89 : decode cX4_digits 89 = .ok (.iload_n 1, 1) := by decide +kernel
theorem dX4_digits_90 : decode cX4_digits 90 = .ok (.iconst 2, 1) := by decide +kernel
theorem dX4_digits_91 : decode cX4_digits 91 = .ok (.invokevirtual 72, 3) := by decide +kernel
theorem dX4_digits_94 : decode cX4_digits 94 = .ok (.aload_n 0, 1) := by decide +kernel
theorem dX4_digits_95 : decode cX4_digits 95 = .ok (.bipush 110, 2) := by decide +kernel
theorem dX4_digits_97 : decode cX4_digits 97 = .ok (.lload_n 2, 1) := by decide +kernel
theorem dX4_digits_98 : decode cX4_digits 98 = .ok (.invokevirtual 79, 3) := by decide +kernel
theorem dX4_digits_101 : decode cX4_digits 101 = .ok (.return_, 1) := by decide +kernel
def f_X4_digits_b77 (n : Nat) (k0 : Nat) (x1 : Int32) (x2 : Int64) (M : m_M) : Option m_M :=
  if ((M.1 k0 6) - x1) ≤ 6 then
  m_ob (f_X4_step k0 110 x2 M) fun M2 =>
  some M2
  else
  m_bd (f_X4_blame k0 x1 2 M) fun M3 =>
  m_ob (f_X4_step k0 110 x2 M3) fun M4 =>
  some M4
def f_X4_digits_b64 (n : Nat) (k0 : Nat) (q7 : Int32 → Int64 → m_M → Option m_M) (x1 : Int32) (x2 : Int64) (M : m_M) : Option m_M :=
  m_bd (m_sI M k0 6 ((M.1 k0 6) + (1 : Int32))) fun M5 =>
  q7 x1 x2 M5
def f_X4_digits_b7 (n : Nat) (k0 : Nat) : Nat → Int32 → Int64 → m_M → Option m_M
  | 0, _, _, _ => none
  | u + 1, x1, x2, M =>
    if (M.1 k0 1) ≤ (M.1 k0 6) then
  f_X4_digits_b77 n k0 x1 x2 M
  else
  m_gd (m_in (M.1 k0 6) 50) (
  m_bd (f_X4_isDigit (M.1 (k0 + 1) ((M.1 k0 6).toNatClampNeg))) fun r8 =>
  if r8 = 0 then
  f_X4_digits_b77 n k0 x1 x2 M
  else
  if (6 : Int32) ≤ ((M.1 k0 6) - x1) then
  f_X4_digits_b64 n k0 (f_X4_digits_b7 n k0 u) x1 x2 M
  else
  m_bd (((10 : Int64) * x2) + (((M.1 (k0 + 1) ((M.1 k0 6).toNatClampNeg)) - (48 : Int32)).toInt64)) fun t12 =>
  f_X4_digits_b64 n k0 (f_X4_digits_b7 n k0 u) x1 t12 M)
def f_X4_digits (n : Nat) (k0 : Nat) (M : m_M) : Option m_M :=
  f_X4_digits_b7 n k0 n (M.1 k0 6) 0 M
set_option maxHeartbeats 4000000 in
set_option maxRecDepth 100000 in
theorem c_X4_digits (l : Launch) (G : m_G) {n : Nat} {k0 : Nat} {M : m_M} {M0 : m_M} (hk0 : m_isLaw k0) (hres : f_X4_digits n k0 M = some M0) : Met l yX4_digits (m_U yX4_digits cX4_digits 4 none) (m_R 1 23) (m_Pc G [.ref (m_ad G k0)] M) (m_Qv G M0) 0 0 (m_A G) := by
  refine m_i0 (n := 4) RX4 rfl (by decide) (Nat.le_of_ble_eq_true rfl) ?_
  intro p e s m args below meth c X hr hlk hSt hP hS ls hl
  have hl : lv_has ls 4 [(0, .ref (m_ad G k0))] := hl
  have B77 : ∀  (x1 : Int32) (x2 : Int64) (M : m_M) (H : Heap) (locs : List Loc) (ls : Array Slot), m_P G M H → va_S (m_A G) s.heap H locs → lv_has ls 4 [(0, .ref (m_ad G k0)), (1, .int x1), (2, .long x2)] → f_X4_digits_b77 n k0 x1 x2 M = some M0 → W p l e (m_R 1 23) s m args below meth c H locs 0 0 (MQ below (m_Qv G M0) args s 0 0 (m_A G)) (F0 m 77 ls []) := by
    intro x1 x2 M H locs ls hP hS hl hres
    unfold f_X4_digits_b77 at hres
    refine lv_aload_n X.1 X.2.1 dX4_digits_77 rfl (lv_at hl 0 rfl) ?_
    refine m_g4 (v := .int (M.1 k0 6)) X hSt hP hk0.1 6 (by decide) rfl k_f_X4_58 dX4_digits_78 ?_
    refine lv_iload_n X.1 X.2.1 dX4_digits_81 rfl (lv_at hl 1 rfl) ?_
    refine lv_isub X.1 X.2.1 dX4_digits_82 ?_
    refine lv_bipush (v := 6) X.1 X.2.1 dX4_digits_83 (by decide) ?_
    refine lv_icmp_le (tgt := 94) X.1 X.2.1 dX4_digits_85 (by decide) (fun hc1 => ?_) (fun hc1 => ?_)
    · have hres := m_it hres hc1
      refine lv_aload_n X.1 X.2.1 dX4_digits_94 rfl (lv_at hl 0 rfl) ?_
      refine lv_bipush (v := 110) X.1 X.2.1 dX4_digits_95 (by decide) ?_
      refine lv_lload_n X.1 X.2.1 dX4_digits_97 rfl (lv_at hl 2 rfl) ?_
      obtain ⟨M2, eM2, hres⟩ := m_ob_e hres
      refine m_bv (m_cV (n := 2) (As := [.int 110, .long x2]) (rest := []) X hSt hP hS hl.1 (c_X4_step l G hk0 eM2) k_c_yX4_step k_m_X4_79 k_i_yX4_step k_s_yX4_step k_n_X4 (by decide +kernel) (m_rc4 hSt hP hk0.1) rfl rfl ⟨Nat.le_of_ble_eq_true rfl, Nat.le_of_ble_eq_true rfl⟩ (Nat.le_of_ble_eq_true rfl) ⟨Nat.zero_le _, Nat.zero_le _⟩ dX4_digits_98) hS (fun H locs hP hS => ?_)
      exact m_rv X hr hlk hP hS (Option.some.inj hres) dX4_digits_101
    · have hres := m_if hres hc1
      refine lv_aload_n X.1 X.2.1 dX4_digits_88 rfl (lv_at hl 0 rfl) ?_
      refine lv_iload_n X.1 X.2.1 dX4_digits_89 rfl (lv_at hl 1 rfl) ?_
      refine lv_iconst (v := 2) X.1 X.2.1 dX4_digits_90 (by decide) ?_
      obtain ⟨M3, eM3, hres⟩ := m_bd_e hres
      refine m_bv (m_cV (n := 2) (As := [.int x1, .int 2]) (rest := []) X hSt hP hS hl.1 (c_X4_blame l G hk0 eM3) k_c_yX4_blame k_m_X4_72 k_i_yX4_blame k_s_yX4_blame k_n_X4 (by decide +kernel) (m_rc4 hSt hP hk0.1) rfl rfl ⟨Nat.le_of_ble_eq_true rfl, Nat.le_of_ble_eq_true rfl⟩ (Nat.le_of_ble_eq_true rfl) ⟨Nat.zero_le _, Nat.zero_le _⟩ dX4_digits_91) hS (fun H locs hP hS => ?_)
      refine lv_aload_n X.1 X.2.1 dX4_digits_94 rfl (lv_at hl 0 rfl) ?_
      refine lv_bipush (v := 110) X.1 X.2.1 dX4_digits_95 (by decide) ?_
      refine lv_lload_n X.1 X.2.1 dX4_digits_97 rfl (lv_at hl 2 rfl) ?_
      obtain ⟨M4, eM4, hres⟩ := m_ob_e hres
      refine m_bv (m_cV (n := 2) (As := [.int 110, .long x2]) (rest := []) X hSt hP hS hl.1 (c_X4_step l G hk0 eM4) k_c_yX4_step k_m_X4_79 k_i_yX4_step k_s_yX4_step k_n_X4 (by decide +kernel) (m_rc4 hSt hP hk0.1) rfl rfl ⟨Nat.le_of_ble_eq_true rfl, Nat.le_of_ble_eq_true rfl⟩ (Nat.le_of_ble_eq_true rfl) ⟨Nat.zero_le _, Nat.zero_le _⟩ dX4_digits_98) hS (fun H locs hP hS => ?_)
      exact m_rv X hr hlk hP hS (Option.some.inj hres) dX4_digits_101
  have B64 : ∀ (q7 : Int32 → Int64 → m_M → Option m_M) (hq7 : ∀ (x1 : Int32) (x2 : Int64) (M : m_M) (H : Heap) (locs : List Loc) (ls : Array Slot), m_P G M H → va_S (m_A G) s.heap H locs → lv_has ls 4 [(0, .ref (m_ad G k0)), (1, .int x1), (2, .long x2)] → q7 x1 x2 M = some M0 → W p l e (m_R 1 23) s m args below meth c H locs 0 0 (MQ below (m_Qv G M0) args s 0 0 (m_A G)) (F0 m 7 ls [])) (x1 : Int32) (x2 : Int64) (M : m_M) (H : Heap) (locs : List Loc) (ls : Array Slot), m_P G M H → va_S (m_A G) s.heap H locs → lv_has ls 4 [(0, .ref (m_ad G k0)), (1, .int x1), (2, .long x2)] → f_X4_digits_b64 n k0 q7 x1 x2 M = some M0 → W p l e (m_R 1 23) s m args below meth c H locs 0 0 (MQ below (m_Qv G M0) args s 0 0 (m_A G)) (F0 m 64 ls []) := by
    intro q7 hq7 x1 x2 M H locs ls hP hS hl hres
    unfold f_X4_digits_b64 at hres
    refine lv_aload_n X.1 X.2.1 dX4_digits_64 rfl (lv_at hl 0 rfl) ?_
    refine lv_dup X.1 X.2.1 dX4_digits_65 rfl ?_
    refine m_g4 (v := .int (M.1 k0 6)) X hSt hP hk0.1 6 (by decide) rfl k_f_X4_58 dX4_digits_66 ?_
    refine lv_iconst (v := 1) X.1 X.2.1 dX4_digits_69 (by decide) ?_
    refine lv_iadd X.1 X.2.1 dX4_digits_70 ?_
    obtain ⟨M5, eM5, hres⟩ := m_bd_e hres
    refine m_pi4 X hSt hP hS hk0.1 6 (by decide) eM5 rfl rfl (by decide) k_f_X4_58 dX4_digits_71 (fun H locs hP hS => ?_)
    refine lv_goto (tgt := 7) X.1 X.2.1 dX4_digits_74 (by decide) ?_
    exact hq7 x1 x2 M5 _ _ _ hP hS (lv_sub hl [0, 1, 2] rfl) hres
  have B7 : ∀ (u : Nat) (x1 : Int32) (x2 : Int64) (M : m_M) (H : Heap) (locs : List Loc) (ls : Array Slot), m_P G M H → va_S (m_A G) s.heap H locs → lv_has ls 4 [(0, .ref (m_ad G k0)), (1, .int x1), (2, .long x2)] → f_X4_digits_b7 n k0 u x1 x2 M = some M0 → W p l e (m_R 1 23) s m args below meth c H locs 0 0 (MQ below (m_Qv G M0) args s 0 0 (m_A G)) (F0 m 7 ls []) := by
    intro u
    induction u with
    | zero =>
      intro x1 x2 M H locs ls hP hS hl hres
      cases hres
    | succ u ih =>
      intro x1 x2 M H locs ls hP hS hl hres
      rw [f_X4_digits_b7] at hres
      refine lv_aload_n X.1 X.2.1 dX4_digits_7 rfl (lv_at hl 0 rfl) ?_
      refine m_g4 (v := .int (M.1 k0 6)) X hSt hP hk0.1 6 (by decide) rfl k_f_X4_58 dX4_digits_8 ?_
      refine lv_aload_n X.1 X.2.1 dX4_digits_11 rfl (lv_at hl 0 rfl) ?_
      refine m_g4 (v := .int (M.1 k0 1)) X hSt hP hk0.1 1 (by decide) rfl k_f_X4_29 dX4_digits_12 ?_
      refine lv_icmp_ge (tgt := 77) X.1 X.2.1 dX4_digits_15 (by decide) (fun hc6 => ?_) (fun hc6 => ?_)
      · have hres := m_it hres hc6
        exact B77 x1 x2 M _ _ _ hP hS (lv_sub hl [0, 1, 2] rfl) hres
      · have hres := m_if hres hc6
        refine lv_aload_n X.1 X.2.1 dX4_digits_18 rfl (lv_at hl 0 rfl) ?_
        refine m_g4 (v := .ref (m_ad G (k0 + 1))) X hSt hP hk0.1 0 (by decide) rfl k_f_X4_9 dX4_digits_19 ?_
        refine lv_aload_n X.1 X.2.1 dX4_digits_22 rfl (lv_at hl 0 rfl) ?_
        refine m_g4 (v := .int (M.1 k0 6)) X hSt hP hk0.1 6 (by decide) rfl k_f_X4_58 dX4_digits_23 ?_
        obtain ⟨hg7, hres⟩ := m_gd_e hres
        refine m_ia (j := ((M.1 k0 6).toNatClampNeg)) X hSt hP hk0.2.1 hg7 rfl dX4_digits_26 ?_
        obtain ⟨r8, err8, hres⟩ := m_bd_e hres
        refine m_bz (m_cS (n := 1) (As := [.int (M.1 (k0 + 1) ((M.1 k0 6).toNatClampNeg))]) (rest := []) X hSt hP hS hl.1 (c_X4_isDigit l G (M := M)  err8) k_c_yX4_isDigit k_m_X4_98 k_t_yX4_isDigit k_n_X4 (by decide +kernel) rfl rfl ⟨Nat.le_of_ble_eq_true rfl, Nat.le_of_ble_eq_true rfl⟩ (Nat.le_of_ble_eq_true rfl) ⟨Nat.zero_le _, Nat.zero_le _⟩ dX4_digits_27) hS (fun H locs hP hS hz9 => ?_)
        refine lv_if_eq (tgt := 77) X.1 X.2.1 dX4_digits_30 (by decide) (fun hc10 => ?_) (fun hc10 => ?_)
        · have hres := m_it hres hc10
          exact B77 x1 x2 M _ _ _ hP hS (lv_sub hl [0, 1, 2] rfl) hres
        · have hres := m_if hres hc10
          refine lv_aload_n X.1 X.2.1 dX4_digits_33 rfl (lv_at hl 0 rfl) ?_
          refine m_g4 (v := .int (M.1 k0 6)) X hSt hP hk0.1 6 (by decide) rfl k_f_X4_58 dX4_digits_34 ?_
          refine lv_iload_n X.1 X.2.1 dX4_digits_37 rfl (lv_at hl 1 rfl) ?_
          refine lv_isub X.1 X.2.1 dX4_digits_38 ?_
          refine lv_bipush (v := 6) X.1 X.2.1 dX4_digits_39 (by decide) ?_
          refine lv_icmp_ge (tgt := 64) X.1 X.2.1 dX4_digits_41 (by decide) (fun hc11 => ?_) (fun hc11 => ?_)
          · have hres := m_it hres hc11
            exact B64 (f_X4_digits_b7 n k0 u) ih x1 x2 M _ _ _ hP hS (lv_sub hl [0, 1, 2] rfl) hres
          · have hres := m_if hres hc11
            refine lv_ldc2 (v := 10) X.1 X.2.1 X.2.2.2.1 (X.2.2.2.2 _ k_l_X4_116) dX4_digits_44 ?_
            refine lv_lload_n X.1 X.2.1 dX4_digits_47 rfl (lv_at hl 2 rfl) ?_
            refine lv_lmul X.1 X.2.1 dX4_digits_48 ?_
            refine lv_aload_n X.1 X.2.1 dX4_digits_49 rfl (lv_at hl 0 rfl) ?_
            refine m_g4 (v := .ref (m_ad G (k0 + 1))) X hSt hP hk0.1 0 (by decide) rfl k_f_X4_9 dX4_digits_50 ?_
            refine lv_aload_n X.1 X.2.1 dX4_digits_53 rfl (lv_at hl 0 rfl) ?_
            refine m_g4 (v := .int (M.1 k0 6)) X hSt hP hk0.1 6 (by decide) rfl k_f_X4_58 dX4_digits_54 ?_
            refine m_ia (j := ((M.1 k0 6).toNatClampNeg)) X hSt hP hk0.2.1 hg7 rfl dX4_digits_57 ?_
            refine lv_bipush (v := 48) X.1 X.2.1 dX4_digits_58 (by decide) ?_
            refine lv_isub X.1 X.2.1 dX4_digits_60 ?_
            refine lv_i2l (v := ((M.1 (k0 + 1) ((M.1 k0 6).toNatClampNeg)) - (48 : Int32)).toInt64) X.1 X.2.1 dX4_digits_61 rfl ?_
            refine lv_ladd X.1 X.2.1 dX4_digits_62 ?_
            obtain ⟨t12, et12, hres⟩ := m_bd_e hres
            refine m_tl et12 ?_
            refine lv_lstore_n (lv' := [(2, .long t12), (0, .ref (m_ad G k0)), (1, .int x1)]) X.1 X.2.1 dX4_digits_63 rfl hl (by decide) rfl (fun ls hl => ?_)
            exact B64 (f_X4_digits_b7 n k0 u) ih x1 t12 M _ _ _ hP hS (lv_sub hl [1, 2, 0] rfl) hres
  unfold f_X4_digits at hres
  refine lv_aload_n X.1 X.2.1 dX4_digits_0 rfl (lv_at hl 0 rfl) ?_
  refine m_g4 (v := .int (M.1 k0 6)) X hSt hP hk0.1 6 (by decide) rfl k_f_X4_58 dX4_digits_1 ?_
  refine lv_istore_n (lv' := [(1, .int (M.1 k0 6)), (0, .ref (m_ad G k0))]) X.1 X.2.1 dX4_digits_4 rfl hl (by decide) rfl (fun ls hl => ?_)
  refine lv_lconst (v := 0) X.1 X.2.1 dX4_digits_5 (by decide) ?_
  refine lv_lstore_n (lv' := [(2, .long 0), (1, .int (M.1 k0 6)), (0, .ref (m_ad G k0))]) X.1 X.2.1 dX4_digits_6 rfl hl (by decide) rfl (fun ls hl => ?_)
  exact B7 n (M.1 k0 6) 0 M _ _ _ hP hS (lv_sub hl [2, 1, 0] rfl) hres
theorem dX4_opened_0 : decode cX4_opened 0 = .ok (.iload_n 1, 1) := by decide +kernel
theorem dX4_opened_1 : decode cX4_opened 1 = .ok (.bipush 8, 2) := by decide +kernel
theorem dX4_opened_3 : decode cX4_opened 3 = .ok (.if_icmp .lt 13, 3) := by decide +kernel
theorem dX4_opened_6 : decode cX4_opened 6 = .ok (.aload_n 0, 1) := by decide +kernel
theorem dX4_opened_7 : decode cX4_opened 7 = .ok (.aload_n 0, 1) := by decide +kernel
theorem dX4_opened_8 : decode cX4_opened 8 = .ok (.getfield 58, 3) := by decide +kernel
theorem dX4_opened_11 : decode cX4_opened 11 = .ok (.iconst 3, 1) := by decide +kernel
theorem dX4_opened_12 : decode cX4_opened 12 = .ok (.invokevirtual 72, 3) := by decide +kernel
theorem dX4_opened_15 : decode cX4_opened 15 = .ok (.return_, 1) := by decide +kernel
theorem dX4_opened_16 : decode cX4_opened 16 = .ok (.aload_n 0, 1) := by decide +kernel
theorem dX4_opened_17 : decode cX4_opened 17 = .ok (.dup, 1) := by decide +kernel
theorem dX4_opened_18 : decode cX4_opened 18 = .ok (.getfield 58, 3) := by decide +kernel
theorem dX4_opened_21 : decode cX4_opened 21 = .ok (.iconst 1, 1) := by decide +kernel
theorem dX4_opened_22 : decode cX4_opened 22 = .ok (.iadd, 1) := by decide +kernel
theorem dX4_opened_23 : decode cX4_opened 23 = .ok (.putfield 58, 3) := by decide +kernel
theorem dX4_opened_26 : decode cX4_opened 26 = .ok (.aload_n 0, 1) := by decide +kernel
theorem dX4_opened_27 : decode cX4_opened 27 = .ok (.iload_n 1, 1) := by decide +kernel
theorem dX4_opened_28 : decode cX4_opened 28 = .ok (.iconst 1, 1) := by decide +kernel
theorem dX4_opened_29 : decode cX4_opened 29 = .ok (.iadd, 1) := by decide +kernel
theorem dX4_opened_30 : decode cX4_opened 30 = .ok (.invokevirtual 64, 3) := by decide +kernel
theorem dX4_opened_33 : decode cX4_opened 33 = .ok (.aload_n 0, 1) := by decide +kernel
theorem dX4_opened_34 : decode cX4_opened 34 = .ok (.invokevirtual 68, 3) := by decide +kernel
theorem dX4_opened_37 : decode cX4_opened 37 = .ok (.bipush 41, 2) := by decide +kernel
theorem dX4_opened_39 : decode cX4_opened 39 = .ok (.if_icmp .ne 16, 3) := by decide +kernel
theorem dX4_opened_42 : decode cX4_opened 42 = .ok (.aload_n 0, 1) := by decide +kernel
theorem dX4_opened_43 : decode cX4_opened 43 = .ok (.dup, 1) := by decide +kernel
theorem dX4_opened_44 : decode cX4_opened 44 = .ok (.getfield 58, 3) := by decide +kernel
theorem dX4_opened_47 : decode cX4_opened 47 = .ok (.iconst 1, 1) := by decide +kernel
theorem dX4_opened_48 : decode cX4_opened 48 = .ok (.iadd, 1) := by decide +kernel
theorem dX4_opened_49 : decode cX4_opened 49 = .ok (.putfield 58, 3) := by decide +kernel
theorem dX4_opened_52 : decode cX4_opened 52 = .ok (.goto 12, 3) := by decide +kernel
theorem dX4_opened_55 : decode cX4_opened 55 = .ok (.aload_n 0, 1) := by decide +kernel
theorem dX4_opened_56 : decode cX4_opened 56 = .ok (.aload_n 0, 1) := by decide +kernel
theorem dX4_opened_57 : decode cX4_opened 57 = .ok (.getfield 58, 3) := by decide +kernel
theorem dX4_opened_60 : decode cX4_opened 60 = .ok (.iconst 1, 1) := by decide +kernel
theorem dX4_opened_61 : decode cX4_opened 61 = .ok (.invokevirtual 72, 3) := by decide +kernel
theorem dX4_opened_64 : decode cX4_opened 64 = .ok (.return_, 1) := by decide +kernel
def f_X4_opened (n : Nat) (rv : Nat → Int32 → m_M → Option m_M) (k0 : Nat) (x1 : Int32) (M : m_M) : Option m_M :=
  if x1 < 8 then
  m_bd (m_sI M k0 6 ((M.1 k0 6) + (1 : Int32))) fun M2 =>
  m_ob (rv k0 (x1 + (1 : Int32)) M2) fun M3 =>
  m_o2 (f_X4_peek n k0 M3) fun r4 M5 =>
  if r4 = 41 then
  m_bd (m_sI M5 k0 6 ((M5.1 k0 6) + (1 : Int32))) fun M8 =>
  some M8
  else
  m_bd (f_X4_blame k0 (M5.1 k0 6) 1 M5) fun M7 =>
  some M7
  else
  m_bd (f_X4_blame k0 (M.1 k0 6) 3 M) fun M9 =>
  some M9
set_option maxHeartbeats 4000000 in
set_option maxRecDepth 100000 in
theorem c_X4_opened (l : Launch) (G : m_G) {n : Nat} {rv : Nat → Int32 → m_M → Option m_M} {k0 : Nat} {x1 : Int32} {M : m_M} {M0 : m_M} {fv wv : Nat} (hrv : ∀ (k0 : Nat) (x1 : Int32) (M M0 : m_M), m_isLaw k0 → rv k0 x1 M = some M0 → Met l yX4_value (m_U yX4_value cX4_value 3 none) (m_R fv wv) (m_Pc G [.ref (m_ad G k0), .int x1] M) (m_Qv G M0) 0 0 (m_A G)) (hk0 : m_isLaw k0) (hres : f_X4_opened n rv k0 x1 M = some M0) : Met l yX4_opened (m_U yX4_opened cX4_opened 2 none) (m_R (fv + 1) (wv + 22)) (m_Pc G [.ref (m_ad G k0), .int x1] M) (m_Qv G M0) 0 0 (m_A G) := by
  refine m_i0 (n := 2) RX4 rfl (by decide) (Nat.le_of_ble_eq_true rfl) ?_
  intro p e s m args below meth c X hr hlk hSt hP hS ls hl
  have hl : lv_has ls 2 [(0, .ref (m_ad G k0)), (1, .int x1)] := hl
  unfold f_X4_opened at hres
  refine lv_iload_n X.1 X.2.1 dX4_opened_0 rfl (lv_at hl 1 rfl) ?_
  refine lv_bipush (v := 8) X.1 X.2.1 dX4_opened_1 (by decide) ?_
  refine lv_icmp_lt (tgt := 16) X.1 X.2.1 dX4_opened_3 (by decide) (fun hc1 => ?_) (fun hc1 => ?_)
  · have hres := m_it hres hc1
    refine lv_aload_n X.1 X.2.1 dX4_opened_16 rfl (lv_at hl 0 rfl) ?_
    refine lv_dup X.1 X.2.1 dX4_opened_17 rfl ?_
    refine m_g4 (v := .int (M.1 k0 6)) X hSt hP hk0.1 6 (by decide) rfl k_f_X4_58 dX4_opened_18 ?_
    refine lv_iconst (v := 1) X.1 X.2.1 dX4_opened_21 (by decide) ?_
    refine lv_iadd X.1 X.2.1 dX4_opened_22 ?_
    obtain ⟨M2, eM2, hres⟩ := m_bd_e hres
    refine m_pi4 X hSt hP hS hk0.1 6 (by decide) eM2 rfl rfl (by decide) k_f_X4_58 dX4_opened_23 (fun H locs hP hS => ?_)
    refine lv_aload_n X.1 X.2.1 dX4_opened_26 rfl (lv_at hl 0 rfl) ?_
    refine lv_iload_n X.1 X.2.1 dX4_opened_27 rfl (lv_at hl 1 rfl) ?_
    refine lv_iconst (v := 1) X.1 X.2.1 dX4_opened_28 (by decide) ?_
    refine lv_iadd X.1 X.2.1 dX4_opened_29 ?_
    obtain ⟨M3, eM3, hres⟩ := m_ob_e hres
    refine m_bv (m_cV (n := 1) (As := [.int (x1 + (1 : Int32))]) (rest := []) X hSt hP hS hl.1 (hrv k0 (x1 + (1 : Int32)) M2 _ hk0 eM3) k_c_yX4_value k_m_X4_64 k_i_yX4_value k_s_yX4_value k_n_X4 (by decide +kernel) (m_rc4 hSt hP hk0.1) rfl rfl ⟨by show fv + 1 ≤ (fv + 1); omega, by show 8 + (3 + 11) + wv ≤ (wv + 22); omega⟩ (Nat.le_of_ble_eq_true rfl) ⟨Nat.zero_le _, Nat.zero_le _⟩ dX4_opened_30) hS (fun H locs hP hS => ?_)
    refine lv_aload_n X.1 X.2.1 dX4_opened_33 rfl (lv_at hl 0 rfl) ?_
    obtain ⟨r4, M5, err4, hres⟩ := m_o2_e hres
    refine m_bi (m_cV (n := 0) (As := []) (rest := []) X hSt hP hS hl.1 (c_X4_peek l G hk0 err4) k_c_yX4_peek k_m_X4_68 k_i_yX4_peek k_s_yX4_peek k_n_X4 (by decide +kernel) (m_rc4 hSt hP hk0.1) rfl rfl ⟨by show 0 + 1 ≤ (fv + 1); omega, by show 8 + (1 + 11) + 0 ≤ (wv + 22); omega⟩ (Nat.le_of_ble_eq_true rfl) ⟨Nat.zero_le _, Nat.zero_le _⟩ dX4_opened_34) hS (fun H locs hP hS => ?_)
    refine lv_bipush (v := 41) X.1 X.2.1 dX4_opened_37 (by decide) ?_
    refine lv_icmp_ne (tgt := 55) X.1 X.2.1 dX4_opened_39 (by decide) (fun hc6 => ?_) (fun hc6 => ?_)
    · have hres := m_if hres hc6
      refine lv_aload_n X.1 X.2.1 dX4_opened_55 rfl (lv_at hl 0 rfl) ?_
      refine lv_aload_n X.1 X.2.1 dX4_opened_56 rfl (lv_at hl 0 rfl) ?_
      refine m_g4 (v := .int (M5.1 k0 6)) X hSt hP hk0.1 6 (by decide) rfl k_f_X4_58 dX4_opened_57 ?_
      refine lv_iconst (v := 1) X.1 X.2.1 dX4_opened_60 (by decide) ?_
      obtain ⟨M7, eM7, hres⟩ := m_bd_e hres
      refine m_bv (m_cV (n := 2) (As := [.int (M5.1 k0 6), .int 1]) (rest := []) X hSt hP hS hl.1 (c_X4_blame l G hk0 eM7) k_c_yX4_blame k_m_X4_72 k_i_yX4_blame k_s_yX4_blame k_n_X4 (by decide +kernel) (m_rc4 hSt hP hk0.1) rfl rfl ⟨by show 0 + 1 ≤ (fv + 1); omega, by show 8 + (3 + 11) + 0 ≤ (wv + 22); omega⟩ (Nat.le_of_ble_eq_true rfl) ⟨Nat.zero_le _, Nat.zero_le _⟩ dX4_opened_61) hS (fun H locs hP hS => ?_)
      exact m_rv X hr hlk hP hS (Option.some.inj hres) dX4_opened_64
    · have hres := m_it hres hc6
      refine lv_aload_n X.1 X.2.1 dX4_opened_42 rfl (lv_at hl 0 rfl) ?_
      refine lv_dup X.1 X.2.1 dX4_opened_43 rfl ?_
      refine m_g4 (v := .int (M5.1 k0 6)) X hSt hP hk0.1 6 (by decide) rfl k_f_X4_58 dX4_opened_44 ?_
      refine lv_iconst (v := 1) X.1 X.2.1 dX4_opened_47 (by decide) ?_
      refine lv_iadd X.1 X.2.1 dX4_opened_48 ?_
      obtain ⟨M8, eM8, hres⟩ := m_bd_e hres
      refine m_pi4 X hSt hP hS hk0.1 6 (by decide) eM8 rfl rfl (by decide) k_f_X4_58 dX4_opened_49 (fun H locs hP hS => ?_)
      refine lv_goto (tgt := 64) X.1 X.2.1 dX4_opened_52 (by decide) ?_
      exact m_rv X hr hlk hP hS (Option.some.inj hres) dX4_opened_64
  · have hres := m_if hres hc1
    refine lv_aload_n X.1 X.2.1 dX4_opened_6 rfl (lv_at hl 0 rfl) ?_
    refine lv_aload_n X.1 X.2.1 dX4_opened_7 rfl (lv_at hl 0 rfl) ?_
    refine m_g4 (v := .int (M.1 k0 6)) X hSt hP hk0.1 6 (by decide) rfl k_f_X4_58 dX4_opened_8 ?_
    refine lv_iconst (v := 3) X.1 X.2.1 dX4_opened_11 (by decide) ?_
    obtain ⟨M9, eM9, hres⟩ := m_bd_e hres
    refine m_bv (m_cV (n := 2) (As := [.int (M.1 k0 6), .int 3]) (rest := []) X hSt hP hS hl.1 (c_X4_blame l G hk0 eM9) k_c_yX4_blame k_m_X4_72 k_i_yX4_blame k_s_yX4_blame k_n_X4 (by decide +kernel) (m_rc4 hSt hP hk0.1) rfl rfl ⟨by show 0 + 1 ≤ (fv + 1); omega, by show 8 + (3 + 11) + 0 ≤ (wv + 22); omega⟩ (Nat.le_of_ble_eq_true rfl) ⟨Nat.zero_le _, Nat.zero_le _⟩ dX4_opened_12) hS (fun H locs hP hS => ?_)
    exact m_rv X hr hlk hP hS (Option.some.inj hres) dX4_opened_15
theorem dJ0_isLatin1_aae02_0 : decode cJ0_isLatin1_aae02 0 = .ok (.getstatic 38, 3) := by decide +kernel
theorem dJ0_isLatin1_aae02_3 : decode cJ0_isLatin1_aae02 3 = .ok (.ifCond .eq 14, 3) := by decide +kernel
theorem dJ0_isLatin1_aae02_6 : decode cJ0_isLatin1_aae02 6 = .ok (.aload_n 0, 1) := by decide +kernel
theorem dJ0_isLatin1_aae02_7 : decode cJ0_isLatin1_aae02 7 = .ok (.getfield 15, 3) := by decide +kernel
theorem dJ0_isLatin1_aae02_10 : decode cJ0_isLatin1_aae02 10 = .ok (.ifCond .ne 7, 3) := by decide +kernel
theorem dJ0_isLatin1_aae02_13 : decode cJ0_isLatin1_aae02 13 = .ok (.iconst 1, 1) := by decide +kernel
theorem dJ0_isLatin1_aae02_14 : decode cJ0_isLatin1_aae02 14 = .ok (.goto 4, 3) := by decide +kernel
theorem dJ0_isLatin1_aae02_18 : decode cJ0_isLatin1_aae02 18 = .ok (.ireturn, 1) := by decide +kernel
def f_J0_isLatin1_aae02 (k0 : Nat) : Int32 :=
  1
set_option maxHeartbeats 4000000 in
set_option maxRecDepth 100000 in
theorem c_J0_isLatin1_aae02 (l : Launch) (G : m_G) {k0 : Nat} {M : m_M} {r0 : Int32} (hk0 : k0 < 9) (hres : f_J0_isLatin1_aae02 k0 = r0) : Met l yJ0_isLatin1_aae02 (m_U yJ0_isLatin1_aae02 cJ0_isLatin1_aae02 1 (some .boolean)) (m_R 0 0) (m_Pc G [.ref (m_K G k0)] M) (m_Qz G r0 M) 0 0 (m_A G) := by
  refine m_i0 (n := 1) RJ0 rfl (by decide) (Nat.le_of_ble_eq_true rfl) ?_
  intro p e s m args below meth c X hr hlk hSt hP hS ls hl
  have hl : lv_has ls 1 [(0, .ref (m_K G k0))] := hl
  unfold f_J0_isLatin1_aae02 at hres
  refine m_sk X hSt hS k_f_J0_38 dJ0_isLatin1_aae02_0 ?_
  refine lv_if_eq (tgt := 17) X.1 X.2.1 dJ0_isLatin1_aae02_3 (by decide) (fun hc => ?_) (fun hc => ?_)
  · exact absurd hc (by decide)
  · refine lv_aload_n X.1 X.2.1 dJ0_isLatin1_aae02_6 rfl (lv_at hl 0 rfl) ?_
    refine m_sc X hSt hS hk0 k_f_J0_15 dJ0_isLatin1_aae02_7 ?_
    refine lv_if_ne (tgt := 17) X.1 X.2.1 dJ0_isLatin1_aae02_10 (by decide) (fun hc => ?_) (fun hc => ?_)
    · exact absurd hc (by decide)
    · refine lv_iconst (v := 1) X.1 X.2.1 dJ0_isLatin1_aae02_13 (by decide) ?_
      refine lv_goto (tgt := 18) X.1 X.2.1 dJ0_isLatin1_aae02_14 (by decide) ?_
      exact m_rz X hr hlk hP hS hres rfl (by decide) dJ0_isLatin1_aae02_18
theorem dJ0_coder_7d493_0 : decode cJ0_coder_7d493 0 = .ok (.getstatic 38, 3) := by decide +kernel
theorem dJ0_coder_7d493_3 : decode cJ0_coder_7d493 3 = .ok (.ifCond .eq 10, 3) := by decide +kernel
theorem dJ0_coder_7d493_6 : decode cJ0_coder_7d493 6 = .ok (.aload_n 0, 1) := by decide +kernel
theorem dJ0_coder_7d493_7 : decode cJ0_coder_7d493 7 = .ok (.getfield 15, 3) := by decide +kernel
theorem dJ0_coder_7d493_10 : decode cJ0_coder_7d493 10 = .ok (.goto 4, 3) := by decide +kernel
theorem dJ0_coder_7d493_14 : decode cJ0_coder_7d493 14 = .ok (.ireturn, 1) := by decide +kernel
def f_J0_coder_7d493 (k0 : Nat) : Int32 :=
  0
set_option maxHeartbeats 4000000 in
set_option maxRecDepth 100000 in
theorem c_J0_coder_7d493 (l : Launch) (G : m_G) {k0 : Nat} {M : m_M} {r0 : Int32} (hk0 : k0 < 9) (hres : f_J0_coder_7d493 k0 = r0) : Met l yJ0_coder_7d493 (m_U yJ0_coder_7d493 cJ0_coder_7d493 1 (some .byte)) (m_R 0 0) (m_Pc G [.ref (m_K G k0)] M) (m_Qn .byte G r0 M) 0 0 (m_A G) := by
  refine m_i0 (n := 1) RJ0 rfl (by decide) (Nat.le_of_ble_eq_true rfl) ?_
  intro p e s m args below meth c X hr hlk hSt hP hS ls hl
  have hl : lv_has ls 1 [(0, .ref (m_K G k0))] := hl
  unfold f_J0_coder_7d493 at hres
  refine m_sk X hSt hS k_f_J0_38 dJ0_coder_7d493_0 ?_
  refine lv_if_eq (tgt := 13) X.1 X.2.1 dJ0_coder_7d493_3 (by decide) (fun hc => ?_) (fun hc => ?_)
  · exact absurd hc (by decide)
  · refine lv_aload_n X.1 X.2.1 dJ0_coder_7d493_6 rfl (lv_at hl 0 rfl) ?_
    refine m_sc X hSt hS hk0 k_f_J0_15 dJ0_coder_7d493_7 ?_
    refine lv_goto (tgt := 14) X.1 X.2.1 dJ0_coder_7d493_10 (by decide) ?_
    exact m_rn X hr hlk hP hS hres rfl rfl dJ0_coder_7d493_14
theorem dJ0_length_8abf5_0 : decode cJ0_length_8abf5 0 = .ok (.aload_n 0, 1) := by decide +kernel
theorem dJ0_length_8abf5_1 : decode cJ0_length_8abf5 1 = .ok (.getfield 9, 3) := by decide +kernel
theorem dJ0_length_8abf5_4 : decode cJ0_length_8abf5 4 = .ok (.arraylength, 1) := by decide +kernel
theorem dJ0_length_8abf5_5 : decode cJ0_length_8abf5 5 = .ok (.aload_n 0, 1) := by decide +kernel
theorem dJ0_length_8abf5_6 : decode cJ0_length_8abf5 6 = .ok (.invokevirtual 335, 3) := by decide +kernel
theorem dJ0_length_8abf5_9 : decode cJ0_length_8abf5 9 = .ok (.ishr, 1) := by decide +kernel
theorem dJ0_length_8abf5_10 : decode cJ0_length_8abf5 10 = .ok (.ireturn, 1) := by decide +kernel
def f_J0_length_8abf5 (k0 : Nat) : Int32 :=
  ((nI (m_len k0)) >>> ((0 : Int32) &&& 31))
set_option maxHeartbeats 4000000 in
set_option maxRecDepth 100000 in
theorem c_J0_length_8abf5 (l : Launch) (G : m_G) {k0 : Nat} {M : m_M} {r0 : Int32} (hk0 : k0 < 9) (hres : f_J0_length_8abf5 k0 = r0) : Met l yJ0_length_8abf5 (m_U yJ0_length_8abf5 cJ0_length_8abf5 1 (some .int)) (m_R 1 20) (m_Pc G [.ref (m_K G k0)] M) (m_Qi G r0 M) 0 0 (m_A G) := by
  refine m_i0 (n := 1) RJ0 rfl (by decide) (Nat.le_of_ble_eq_true rfl) ?_
  intro p e s m args below meth c X hr hlk hSt hP hS ls hl
  have hl : lv_has ls 1 [(0, .ref (m_K G k0))] := hl
  unfold f_J0_length_8abf5 at hres
  refine lv_aload_n X.1 X.2.1 dJ0_length_8abf5_0 rfl (lv_at hl 0 rfl) ?_
  refine m_sv X hSt hS hk0 k_f_J0_9 dJ0_length_8abf5_1 ?_
  refine m_sn X hSt hS hk0 dJ0_length_8abf5_4 ?_
  refine lv_aload_n X.1 X.2.1 dJ0_length_8abf5_5 rfl (lv_at hl 0 rfl) ?_
  refine m_bn (m_cV (n := 0) (As := []) (rest := [.int (nI (m_len k0))]) X hSt hP hS hl.1 (c_J0_coder_7d493 l G (M := M) hk0 (show f_J0_coder_7d493 k0 = 0 from rfl)) k_c_yJ0_coder_7d493 k_m_J0_335 k_i_yJ0_coder_7d493 k_s_yJ0_coder_7d493 k_n_J0 (by decide +kernel) (m_rcS hSt hS hk0) rfl rfl ⟨Nat.le_of_ble_eq_true rfl, Nat.le_of_ble_eq_true rfl⟩ (Nat.le_of_ble_eq_true rfl) ⟨Nat.zero_le _, Nat.zero_le _⟩ dJ0_length_8abf5_6) hS (fun H locs hP hS hz2 => ?_)
  refine lv_ishr X.1 X.2.1 dJ0_length_8abf5_9 ?_
  exact m_ri X hr hlk hP hS hres rfl dJ0_length_8abf5_10
theorem dJ1_canEncode_9a6ad_0 : decode cJ1_canEncode_9a6ad 0 = .ok (.iload_n 0, 1) := by decide +kernel
theorem dJ1_canEncode_9a6ad_1 : decode cJ1_canEncode_9a6ad 1 = .ok (.ifCond .lt 14, 3) := by decide +kernel
theorem dJ1_canEncode_9a6ad_4 : decode cJ1_canEncode_9a6ad 4 = .ok (.iload_n 0, 1) := by decide +kernel
theorem dJ1_canEncode_9a6ad_5 : decode cJ1_canEncode_9a6ad 5 = .ok (.sipush 255, 3) := by decide +kernel
theorem dJ1_canEncode_9a6ad_8 : decode cJ1_canEncode_9a6ad 8 = .ok (.if_icmp .gt 7, 3) := by decide +kernel
theorem dJ1_canEncode_9a6ad_11 : decode cJ1_canEncode_9a6ad 11 = .ok (.iconst 1, 1) := by decide +kernel
theorem dJ1_canEncode_9a6ad_12 : decode cJ1_canEncode_9a6ad 12 = .ok (.goto 4, 3) := by decide +kernel
theorem dJ1_canEncode_9a6ad_15 : decode cJ1_canEncode_9a6ad 15 = .ok (.iconst 0, 1) := by decide +kernel
theorem dJ1_canEncode_9a6ad_16 : decode cJ1_canEncode_9a6ad 16 = .ok (.ireturn, 1) := by decide +kernel
def f_J1_canEncode_9a6ad (x0 : Int32) : Int32 :=
  if x0 < 0 then
  0
  else
  if (255 : Int32) < x0 then
  0
  else
  1
set_option maxHeartbeats 4000000 in
set_option maxRecDepth 100000 in
theorem c_J1_canEncode_9a6ad (l : Launch) (G : m_G) {x0 : Int32} {M : m_M} {r0 : Int32}  (hres : f_J1_canEncode_9a6ad x0 = r0) : Met l yJ1_canEncode_9a6ad (m_U yJ1_canEncode_9a6ad cJ1_canEncode_9a6ad 1 (some .boolean)) (m_R 0 0) (m_Pc G [.int x0] M) (m_Qz G r0 M) 0 0 (m_A G) := by
  refine m_i0 (n := 1) RJ1 rfl (by decide) (Nat.le_of_ble_eq_true rfl) ?_
  intro p e s m args below meth c X hr hlk hSt hP hS ls hl
  have hl : lv_has ls 1 [(0, .int x0)] := hl
  unfold f_J1_canEncode_9a6ad at hres
  refine lv_iload_n X.1 X.2.1 dJ1_canEncode_9a6ad_0 rfl (lv_at hl 0 rfl) ?_
  refine lv_if_lt (tgt := 15) X.1 X.2.1 dJ1_canEncode_9a6ad_1 (by decide) (fun hc1 => ?_) (fun hc1 => ?_)
  · have hres := m_it hres hc1
    refine lv_iconst (v := 0) X.1 X.2.1 dJ1_canEncode_9a6ad_15 (by decide) ?_
    exact m_rz X hr hlk hP hS hres rfl (by decide) dJ1_canEncode_9a6ad_16
  · have hres := m_if hres hc1
    refine lv_iload_n X.1 X.2.1 dJ1_canEncode_9a6ad_4 rfl (lv_at hl 0 rfl) ?_
    refine lv_sipush (v := 255) X.1 X.2.1 dJ1_canEncode_9a6ad_5 (by decide) ?_
    refine lv_icmp_gt (tgt := 15) X.1 X.2.1 dJ1_canEncode_9a6ad_8 (by decide) (fun hc2 => ?_) (fun hc2 => ?_)
    · have hres := m_it hres hc2
      refine lv_iconst (v := 0) X.1 X.2.1 dJ1_canEncode_9a6ad_15 (by decide) ?_
      exact m_rz X hr hlk hP hS hres rfl (by decide) dJ1_canEncode_9a6ad_16
    · have hres := m_if hres hc2
      refine lv_iconst (v := 1) X.1 X.2.1 dJ1_canEncode_9a6ad_11 (by decide) ?_
      refine lv_goto (tgt := 16) X.1 X.2.1 dJ1_canEncode_9a6ad_12 (by decide) ?_
      exact m_rz X hr hlk hP hS hres rfl (by decide) dJ1_canEncode_9a6ad_16
theorem dJ1_indexOfChar_4cfef_0 : decode cJ1_indexOfChar_4cfef 0 = .ok (.iload_n 1, 1) := by decide +kernel
theorem dJ1_indexOfChar_4cfef_1 : decode cJ1_indexOfChar_4cfef 1 = .ok (.i2b, 1) := by decide +kernel
theorem dJ1_indexOfChar_4cfef_2 : decode cJ1_indexOfChar_4cfef 2 = .ok (.istore 4, 2) := by decide +kernel
theorem dJ1_indexOfChar_4cfef_4 : decode cJ1_indexOfChar_4cfef 4 = .ok (.iload_n 2, 1) := by decide +kernel
theorem dJ1_indexOfChar_4cfef_5 : decode cJ1_indexOfChar_4cfef 5 = .ok (.istore 5, 2) := by decide +kernel
theorem dJ1_indexOfChar_4cfef_7 : decode cJ1_indexOfChar_4cfef 7 = .ok (.iload 5, 2) := by decide +kernel
theorem dJ1_indexOfChar_4cfef_9 : decode cJ1_indexOfChar_4cfef 9 = .ok (.iload_n 3, 1) := by decide +kernel
theorem dJ1_indexOfChar_4cfef_10 : decode cJ1_indexOfChar_4cfef 10 = .ok (.if_icmp .ge 21, 3) := by decide +kernel
theorem dJ1_indexOfChar_4cfef_13 : decode cJ1_indexOfChar_4cfef 13 = .ok (.aload_n 0, 1) := by decide +kernel
theorem dJ1_indexOfChar_4cfef_14 : decode cJ1_indexOfChar_4cfef 14 = .ok (.iload 5, 2) := by decide +kernel
theorem dJ1_indexOfChar_4cfef_16 : decode cJ1_indexOfChar_4cfef 16 = .ok (.baload, 1) := by decide +kernel
theorem dJ1_indexOfChar_4cfef_17 : decode cJ1_indexOfChar_4cfef 17 = .ok (.iload 4, 2) := by decide +kernel
theorem dJ1_indexOfChar_4cfef_19 : decode cJ1_indexOfChar_4cfef 19 = .ok (.if_icmp .ne 6, 3) := by decide +kernel
theorem dJ1_indexOfChar_4cfef_22 : decode cJ1_indexOfChar_4cfef 22 = .ok (.iload 5, 2) := by decide +kernel
theorem dJ1_indexOfChar_4cfef_24 : decode cJ1_indexOfChar_4cfef 24 = .ok (.ireturn, 1) := by decide +kernel
theorem dJ1_indexOfChar_4cfef_25 : decode cJ1_indexOfChar_4cfef 25 = .ok (.iinc 5 1, 3) := by decide +kernel
theorem dJ1_indexOfChar_4cfef_28 : decode cJ1_indexOfChar_4cfef 28 = .ok (.goto (-21), 3) := by decide +kernel
theorem dJ1_indexOfChar_4cfef_31 : decode cJ1_indexOfChar_4cfef 31 = .ok (.iconst (-1), 1) := by decide +kernel
theorem dJ1_indexOfChar_4cfef_32 : decode cJ1_indexOfChar_4cfef 32 = .ok (.ireturn, 1) := by decide +kernel
def f_J1_indexOfChar_4cfef_b7 (n : Nat) (k0 : Nat) (x1 : Int32) (x2 : Int32) (x3 : Int32) : Nat → Int32 → Int32 → Option Int32
  | 0, _, _ => none
  | u + 1, x4, x5 =>
    if x3 ≤ x5 then
  some (-1)
  else
  m_gd (m_in x5 (m_len k0)) (
  if (m_ch k0 x5.toNatClampNeg) = x4 then
  some x5
  else
  f_J1_indexOfChar_4cfef_b7 n k0 x1 x2 x3 u x4 (x5 + 1))
def f_J1_indexOfChar_4cfef (n : Nat) (k0 : Nat) (x1 : Int32) (x2 : Int32) (x3 : Int32) : Option Int32 :=
  f_J1_indexOfChar_4cfef_b7 n k0 x1 x2 x3 n x1.toInt8.toInt32 x2
set_option maxHeartbeats 4000000 in
set_option maxRecDepth 100000 in
theorem c_J1_indexOfChar_4cfef (l : Launch) (G : m_G) {n : Nat} {k0 : Nat} {x1 : Int32} {x2 : Int32} {x3 : Int32} {M : m_M} {r0 : Int32} (hk0 : k0 < 9) (hres : f_J1_indexOfChar_4cfef n k0 x1 x2 x3 = some r0) : Met l yJ1_indexOfChar_4cfef (m_U yJ1_indexOfChar_4cfef cJ1_indexOfChar_4cfef 6 (some .int)) (m_R 0 0) (m_Pc G [.ref (m_V G k0), .int x1, .int x2, .int x3] M) (m_Qi G r0 M) 0 0 (m_A G) := by
  refine m_i0 (n := 6) RJ1 rfl (by decide) (Nat.le_of_ble_eq_true rfl) ?_
  intro p e s m args below meth c X hr hlk hSt hP hS ls hl
  have hl : lv_has ls 6 [(0, .ref (m_V G k0)), (1, .int x1), (2, .int x2), (3, .int x3)] := hl
  have B7 : ∀ (u : Nat) (x4 : Int32) (x5 : Int32) (H : Heap) (locs : List Loc) (ls : Array Slot), m_P G M H → va_S (m_A G) s.heap H locs → lv_has ls 6 [(0, .ref (m_V G k0)), (3, .int x3), (4, .int x4), (5, .int x5)] → f_J1_indexOfChar_4cfef_b7 n k0 x1 x2 x3 u x4 x5 = some r0 → W p l e (m_R 0 0) s m args below meth c H locs 0 0 (MQ below (m_Qi G r0 M) args s 0 0 (m_A G)) (F0 m 7 ls []) := by
    intro u
    induction u with
    | zero =>
      intro x4 x5 H locs ls hP hS hl hres
      cases hres
    | succ u ih =>
      intro x4 x5 H locs ls hP hS hl hres
      rw [f_J1_indexOfChar_4cfef_b7] at hres
      refine lv_iload X.1 X.2.1 dJ1_indexOfChar_4cfef_7 (lv_at hl 3 rfl) ?_
      refine lv_iload_n X.1 X.2.1 dJ1_indexOfChar_4cfef_9 rfl (lv_at hl 1 rfl) ?_
      refine lv_icmp_ge (tgt := 31) X.1 X.2.1 dJ1_indexOfChar_4cfef_10 (by decide) (fun hc1 => ?_) (fun hc1 => ?_)
      · have hres := m_it hres hc1
        refine lv_iconst (v := (-1)) X.1 X.2.1 dJ1_indexOfChar_4cfef_31 (by decide) ?_
        exact m_ri X hr hlk hP hS (Option.some.inj hres) rfl dJ1_indexOfChar_4cfef_32
      · have hres := m_if hres hc1
        refine lv_aload_n X.1 X.2.1 dJ1_indexOfChar_4cfef_13 rfl (lv_at hl 0 rfl) ?_
        refine lv_iload X.1 X.2.1 dJ1_indexOfChar_4cfef_14 (lv_at hl 3 rfl) ?_
        obtain ⟨hg2, hres⟩ := m_gd_e hres
        refine m_sb X hSt hS hk0 hg2 dJ1_indexOfChar_4cfef_16 ?_
        refine lv_iload X.1 X.2.1 dJ1_indexOfChar_4cfef_17 (lv_at hl 2 rfl) ?_
        refine lv_icmp_ne (tgt := 25) X.1 X.2.1 dJ1_indexOfChar_4cfef_19 (by decide) (fun hc3 => ?_) (fun hc3 => ?_)
        · have hres := m_if hres hc3
          refine lv_iinc (v := (x5 + 1)) (lv' := [(5, .int (x5 + 1)), (0, .ref (m_V G k0)), (3, .int x3), (4, .int x4)]) X.1 X.2.1 dJ1_indexOfChar_4cfef_25 hl (k := 3) rfl rfl (by decide) rfl (fun ls hl => ?_)
          refine lv_goto (tgt := 7) X.1 X.2.1 dJ1_indexOfChar_4cfef_28 (by decide) ?_
          exact ih x4 (x5 + 1) _ _ _ hP hS (lv_sub hl [1, 2, 3, 0] rfl) hres
        · have hres := m_it hres hc3
          refine lv_iload X.1 X.2.1 dJ1_indexOfChar_4cfef_22 (lv_at hl 3 rfl) ?_
          exact m_ri X hr hlk hP hS (Option.some.inj hres) rfl dJ1_indexOfChar_4cfef_24
  unfold f_J1_indexOfChar_4cfef at hres
  refine lv_iload_n X.1 X.2.1 dJ1_indexOfChar_4cfef_0 rfl (lv_at hl 1 rfl) ?_
  refine lv_i2b (v := x1.toInt8.toInt32) X.1 X.2.1 dJ1_indexOfChar_4cfef_1 rfl ?_
  refine lv_istore (lv' := [(4, .int x1.toInt8.toInt32), (0, .ref (m_V G k0)), (1, .int x1), (2, .int x2), (3, .int x3)]) X.1 X.2.1 dJ1_indexOfChar_4cfef_2 hl (by decide) rfl (fun ls hl => ?_)
  refine lv_iload_n X.1 X.2.1 dJ1_indexOfChar_4cfef_4 rfl (lv_at hl 3 rfl) ?_
  refine lv_istore (lv' := [(5, .int x2), (4, .int x1.toInt8.toInt32), (0, .ref (m_V G k0)), (1, .int x1), (2, .int x2), (3, .int x3)]) X.1 X.2.1 dJ1_indexOfChar_4cfef_5 hl (by decide) rfl (fun ls hl => ?_)
  exact B7 n x1.toInt8.toInt32 x2 _ _ _ hP hS (lv_sub hl [2, 5, 1, 0] rfl) hres
theorem dJ1_indexOf_4cfef_0 : decode cJ1_indexOf_4cfef 0 = .ok (.iload_n 1, 1) := by decide +kernel
theorem dJ1_indexOf_4cfef_1 : decode cJ1_indexOf_4cfef 1 = .ok (.invokestatic 88, 3) := by decide +kernel
theorem dJ1_indexOf_4cfef_4 : decode cJ1_indexOf_4cfef 4 = .ok (.ifCond .ne 5, 3) := by decide +kernel
theorem dJ1_indexOf_4cfef_7 : decode cJ1_indexOf_4cfef 7 = .ok (.iconst (-1), 1) := by decide +kernel
theorem dJ1_indexOf_4cfef_8 : decode cJ1_indexOf_4cfef 8 = .ok (.ireturn, 1) := by decide +kernel
theorem dJ1_indexOf_4cfef_9 : decode cJ1_indexOf_4cfef 9 = .ok (.iload_n 2, 1) := by decide +kernel
theorem dJ1_indexOf_4cfef_10 : decode cJ1_indexOf_4cfef 10 = .ok (.iconst 0, 1) := by decide +kernel
theorem dJ1_indexOf_4cfef_11 : decode cJ1_indexOf_4cfef 11 = .ok (.invokestatic 92, 3) := by decide +kernel
theorem dJ1_indexOf_4cfef_14 : decode cJ1_indexOf_4cfef 14 = .ok (.istore_n 2, 1) := by decide +kernel
theorem dJ1_indexOf_4cfef_15 : decode cJ1_indexOf_4cfef 15 = .ok (.iload_n 3, 1) := by decide +kernel
theorem dJ1_indexOf_4cfef_16 : decode cJ1_indexOf_4cfef 16 = .ok (.aload_n 0, 1) := by decide +kernel
theorem dJ1_indexOf_4cfef_17 : decode cJ1_indexOf_4cfef 17 = .ok (.arraylength, 1) := by decide +kernel
theorem dJ1_indexOf_4cfef_18 : decode cJ1_indexOf_4cfef 18 = .ok (.invokestatic 38, 3) := by decide +kernel
theorem dJ1_indexOf_4cfef_21 : decode cJ1_indexOf_4cfef 21 = .ok (.istore_n 3, 1) := by decide +kernel
theorem dJ1_indexOf_4cfef_22 : decode cJ1_indexOf_4cfef 22 = .ok (.iload_n 2, 1) := by decide +kernel
theorem dJ1_indexOf_4cfef_23 : decode cJ1_indexOf_4cfef 23 = .ok (.iload_n 3, 1) := by decide +kernel
theorem dJ1_indexOf_4cfef_24 : decode cJ1_indexOf_4cfef 24 = .ok (.if_icmp .lt 5, 3) := by decide +kernel
theorem dJ1_indexOf_4cfef_27 : decode cJ1_indexOf_4cfef 27 = .ok (.iconst (-1), 1) := by decide +kernel
theorem dJ1_indexOf_4cfef_28 : decode cJ1_indexOf_4cfef 28 = .ok (.ireturn, 1) := by decide +kernel
theorem dJ1_indexOf_4cfef_29 : decode cJ1_indexOf_4cfef 29 = .ok (.aload_n 0, 1) := by decide +kernel
theorem dJ1_indexOf_4cfef_30 : decode cJ1_indexOf_4cfef 30 = .ok (.iload_n 1, 1) := by decide +kernel
theorem dJ1_indexOf_4cfef_31 : decode cJ1_indexOf_4cfef 31 = .ok (.iload_n 2, 1) := by decide +kernel
theorem dJ1_indexOf_4cfef_32 : decode cJ1_indexOf_4cfef 32 = .ok (.iload_n 3, 1) := by decide +kernel
theorem dJ1_indexOf_4cfef_33 : decode cJ1_indexOf_4cfef 33 = .ok (.invokestatic 95, 3) := by decide +kernel
theorem dJ1_indexOf_4cfef_36 : decode cJ1_indexOf_4cfef 36 = .ok (.ireturn, 1) := by decide +kernel
def f_J1_indexOf_4cfef (n : Nat) (k0 : Nat) (x1 : Int32) (x2 : Int32) (x3 : Int32) : Option Int32 :=
  m_bd (f_J1_canEncode_9a6ad x1) fun r1 =>
  if r1 = 0 then
  some (-1)
  else
  m_bd (m_max x2 0) fun r4 =>
  m_bd (m_min x3 (nI (m_len k0))) fun r5 =>
  if r4 < r5 then
  m_ob (f_J1_indexOfChar_4cfef n k0 x1 r4 r5) fun r7 =>
  some r7
  else
  some (-1)
set_option maxHeartbeats 4000000 in
set_option maxRecDepth 100000 in
theorem c_J1_indexOf_4cfef (l : Launch) (G : m_G) {n : Nat} {k0 : Nat} {x1 : Int32} {x2 : Int32} {x3 : Int32} {M : m_M} {r0 : Int32} (hk0 : k0 < 9) (hres : f_J1_indexOf_4cfef n k0 x1 x2 x3 = some r0) : Met l yJ1_indexOf_4cfef (m_U yJ1_indexOf_4cfef cJ1_indexOf_4cfef 4 (some .int)) (m_R 1 30) (m_Pc G [.ref (m_V G k0), .int x1, .int x2, .int x3] M) (m_Qi G r0 M) 0 0 (m_A G) := by
  refine m_i0 (n := 4) RJ1 rfl (by decide) (Nat.le_of_ble_eq_true rfl) ?_
  intro p e s m args below meth c X hr hlk hSt hP hS ls hl
  have hl : lv_has ls 4 [(0, .ref (m_V G k0)), (1, .int x1), (2, .int x2), (3, .int x3)] := hl
  unfold f_J1_indexOf_4cfef at hres
  refine lv_iload_n X.1 X.2.1 dJ1_indexOf_4cfef_0 rfl (lv_at hl 1 rfl) ?_
  obtain ⟨r1, err1, hres⟩ := m_bd_e hres
  refine m_bz (m_cS (n := 1) (As := [.int x1]) (rest := []) X hSt hP hS hl.1 (c_J1_canEncode_9a6ad l G (M := M)  err1) k_c_yJ1_canEncode_9a6ad k_m_J1_88 k_t_yJ1_canEncode_9a6ad k_n_J1 (by decide +kernel) rfl rfl ⟨Nat.le_of_ble_eq_true rfl, Nat.le_of_ble_eq_true rfl⟩ (Nat.le_of_ble_eq_true rfl) ⟨Nat.zero_le _, Nat.zero_le _⟩ dJ1_indexOf_4cfef_1) hS (fun H locs hP hS hz2 => ?_)
  refine lv_if_ne (tgt := 9) X.1 X.2.1 dJ1_indexOf_4cfef_4 (by decide) (fun hc3 => ?_) (fun hc3 => ?_)
  · have hres := m_if hres hc3
    refine lv_iload_n X.1 X.2.1 dJ1_indexOf_4cfef_9 rfl (lv_at hl 2 rfl) ?_
    refine lv_iconst (v := 0) X.1 X.2.1 dJ1_indexOf_4cfef_10 (by decide) ?_
    obtain ⟨r4, err4, hres⟩ := m_bd_e hres
    refine m_mx (rest := []) X hl.1 k_m_J1_92 k_t_yJ9_max_7cf53 k_n_J9 k_c_yJ9_max_7cf53 (Nat.le_of_ble_eq_true rfl) (Nat.le_of_ble_eq_true rfl) ⟨Nat.zero_le _, Nat.zero_le _⟩ dJ1_indexOf_4cfef_11 err4 ?_
    refine lv_istore_n (lv' := [(2, .int r4), (0, .ref (m_V G k0)), (1, .int x1), (3, .int x3)]) X.1 X.2.1 dJ1_indexOf_4cfef_14 rfl hl (by decide) rfl (fun ls hl => ?_)
    refine lv_iload_n X.1 X.2.1 dJ1_indexOf_4cfef_15 rfl (lv_at hl 3 rfl) ?_
    refine lv_aload_n X.1 X.2.1 dJ1_indexOf_4cfef_16 rfl (lv_at hl 1 rfl) ?_
    refine m_sn X hSt hS hk0 dJ1_indexOf_4cfef_17 ?_
    obtain ⟨r5, err5, hres⟩ := m_bd_e hres
    refine m_mn (rest := []) X hl.1 k_m_J1_38 k_t_yJ9_min_7cf53 k_n_J9 k_c_yJ9_min_7cf53 (Nat.le_of_ble_eq_true rfl) (Nat.le_of_ble_eq_true rfl) ⟨Nat.zero_le _, Nat.zero_le _⟩ dJ1_indexOf_4cfef_18 err5 ?_
    refine lv_istore_n (lv' := [(3, .int r5), (2, .int r4), (0, .ref (m_V G k0)), (1, .int x1)]) X.1 X.2.1 dJ1_indexOf_4cfef_21 rfl hl (by decide) rfl (fun ls hl => ?_)
    refine lv_iload_n X.1 X.2.1 dJ1_indexOf_4cfef_22 rfl (lv_at hl 1 rfl) ?_
    refine lv_iload_n X.1 X.2.1 dJ1_indexOf_4cfef_23 rfl (lv_at hl 0 rfl) ?_
    refine lv_icmp_lt (tgt := 29) X.1 X.2.1 dJ1_indexOf_4cfef_24 (by decide) (fun hc6 => ?_) (fun hc6 => ?_)
    · have hres := m_it hres hc6
      refine lv_aload_n X.1 X.2.1 dJ1_indexOf_4cfef_29 rfl (lv_at hl 2 rfl) ?_
      refine lv_iload_n X.1 X.2.1 dJ1_indexOf_4cfef_30 rfl (lv_at hl 3 rfl) ?_
      refine lv_iload_n X.1 X.2.1 dJ1_indexOf_4cfef_31 rfl (lv_at hl 1 rfl) ?_
      refine lv_iload_n X.1 X.2.1 dJ1_indexOf_4cfef_32 rfl (lv_at hl 0 rfl) ?_
      obtain ⟨r7, err7, hres⟩ := m_ob_e hres
      refine m_bi (m_cS (n := 4) (As := [.ref (m_V G k0), .int x1, .int r4, .int r5]) (rest := []) X hSt hP hS hl.1 (c_J1_indexOfChar_4cfef l G (M := M) hk0 err7) k_c_yJ1_indexOfChar_4cfef k_m_J1_95 k_t_yJ1_indexOfChar_4cfef k_n_J1 (by decide +kernel) rfl rfl ⟨Nat.le_of_ble_eq_true rfl, Nat.le_of_ble_eq_true rfl⟩ (Nat.le_of_ble_eq_true rfl) ⟨Nat.zero_le _, Nat.zero_le _⟩ dJ1_indexOf_4cfef_33) hS (fun H locs hP hS => ?_)
      exact m_ri X hr hlk hP hS (Option.some.inj hres) rfl dJ1_indexOf_4cfef_36
    · have hres := m_if hres hc6
      refine lv_iconst (v := (-1)) X.1 X.2.1 dJ1_indexOf_4cfef_27 (by decide) ?_
      exact m_ri X hr hlk hP hS (Option.some.inj hres) rfl dJ1_indexOf_4cfef_28
  · have hres := m_it hres hc3
    refine lv_iconst (v := (-1)) X.1 X.2.1 dJ1_indexOf_4cfef_7 (by decide) ?_
    exact m_ri X hr hlk hP hS (Option.some.inj hres) rfl dJ1_indexOf_4cfef_8
theorem dJ0_indexOf_7cf53_0 : decode cJ0_indexOf_7cf53 0 = .ok (.aload_n 0, 1) := by decide +kernel
theorem dJ0_indexOf_7cf53_1 : decode cJ0_indexOf_7cf53 1 = .ok (.invokevirtual 492, 3) := by decide +kernel
theorem dJ0_indexOf_7cf53_4 : decode cJ0_indexOf_7cf53 4 = .ok (.ifCond .eq 19, 3) := by decide +kernel
theorem dJ0_indexOf_7cf53_7 : decode cJ0_indexOf_7cf53 7 = .ok (.aload_n 0, 1) := by decide +kernel
theorem dJ0_indexOf_7cf53_8 : decode cJ0_indexOf_7cf53 8 = .ok (.getfield 9, 3) := by decide +kernel
theorem dJ0_indexOf_7cf53_11 : decode cJ0_indexOf_7cf53 11 = .ok (.iload_n 1, 1) := by decide +kernel
theorem dJ0_indexOf_7cf53_12 : decode cJ0_indexOf_7cf53 12 = .ok (.iload_n 2, 1) := by decide +kernel
theorem dJ0_indexOf_7cf53_13 : decode cJ0_indexOf_7cf53 13 = .ok (.aload_n 0, 1) := by decide +kernel
theorem dJ0_indexOf_7cf53_14 : decode cJ0_indexOf_7cf53 14 = .ok (.invokevirtual 505, 3) := by decide +kernel
theorem dJ0_indexOf_7cf53_17 : decode cJ0_indexOf_7cf53 17 = .ok (.invokestatic 637, 3) := by decide +kernel
theorem dJ0_indexOf_7cf53_20 : decode cJ0_indexOf_7cf53 20 = .ok (.goto 16, 3) := by decide +kernel
theorem dJ0_indexOf_7cf53_36 : decode cJ0_indexOf_7cf53 36 = .ok (.ireturn, 1) := by decide +kernel
def f_J0_indexOf_7cf53 (n : Nat) (k0 : Nat) (x1 : Int32) (x2 : Int32) : Option Int32 :=
  m_bd (f_J0_length_8abf5 k0) fun r3 =>
  m_ob (f_J1_indexOf_4cfef n k0 x1 x2 r3) fun r4 =>
  some r4
set_option maxHeartbeats 4000000 in
set_option maxRecDepth 100000 in
theorem c_J0_indexOf_7cf53 (l : Launch) (G : m_G) {n : Nat} {k0 : Nat} {x1 : Int32} {x2 : Int32} {M : m_M} {r0 : Int32} (hk0 : k0 < 9) (hres : f_J0_indexOf_7cf53 n k0 x1 x2 = some r0) : Met l yJ0_indexOf_7cf53 (m_U yJ0_indexOf_7cf53 cJ0_indexOf_7cf53 3 (some .int)) (m_R 2 53) (m_Pc G [.ref (m_K G k0), .int x1, .int x2] M) (m_Qi G r0 M) 0 0 (m_A G) := by
  refine m_i0 (n := 3) RJ0 rfl (by decide) (Nat.le_of_ble_eq_true rfl) ?_
  intro p e s m args below meth c X hr hlk hSt hP hS ls hl
  have hl : lv_has ls 3 [(0, .ref (m_K G k0)), (1, .int x1), (2, .int x2)] := hl
  unfold f_J0_indexOf_7cf53 at hres
  refine lv_aload_n X.1 X.2.1 dJ0_indexOf_7cf53_0 rfl (lv_at hl 0 rfl) ?_
  refine m_bz (m_cV (n := 0) (As := []) (rest := []) X hSt hP hS hl.1 (c_J0_isLatin1_aae02 l G (M := M) hk0 (show f_J0_isLatin1_aae02 k0 = 1 from rfl)) k_c_yJ0_isLatin1_aae02 k_m_J0_492 k_i_yJ0_isLatin1_aae02 k_s_yJ0_isLatin1_aae02 k_n_J0 (by decide +kernel) (m_rcS hSt hS hk0) rfl rfl ⟨Nat.le_of_ble_eq_true rfl, Nat.le_of_ble_eq_true rfl⟩ (Nat.le_of_ble_eq_true rfl) ⟨Nat.zero_le _, Nat.zero_le _⟩ dJ0_indexOf_7cf53_1) hS (fun H locs hP hS hz2 => ?_)
  refine lv_if_eq (tgt := 23) X.1 X.2.1 dJ0_indexOf_7cf53_4 (by decide) (fun hc => ?_) (fun hc => ?_)
  · exact absurd hc (by decide)
  · refine lv_aload_n X.1 X.2.1 dJ0_indexOf_7cf53_7 rfl (lv_at hl 0 rfl) ?_
    refine m_sv X hSt hS hk0 k_f_J0_9 dJ0_indexOf_7cf53_8 ?_
    refine lv_iload_n X.1 X.2.1 dJ0_indexOf_7cf53_11 rfl (lv_at hl 1 rfl) ?_
    refine lv_iload_n X.1 X.2.1 dJ0_indexOf_7cf53_12 rfl (lv_at hl 2 rfl) ?_
    refine lv_aload_n X.1 X.2.1 dJ0_indexOf_7cf53_13 rfl (lv_at hl 0 rfl) ?_
    obtain ⟨r3, err3, hres⟩ := m_bd_e hres
    refine m_bi (m_cV (n := 0) (As := []) (rest := [.int x2, .int x1, .ref (m_V G k0)]) X hSt hP hS hl.1 (c_J0_length_8abf5 l G (M := M) hk0 err3) k_c_yJ0_length_8abf5 k_m_J0_505 k_i_yJ0_length_8abf5 k_s_yJ0_length_8abf5 k_n_J0 (by decide +kernel) (m_rcS hSt hS hk0) rfl rfl ⟨Nat.le_of_ble_eq_true rfl, Nat.le_of_ble_eq_true rfl⟩ (Nat.le_of_ble_eq_true rfl) ⟨Nat.zero_le _, Nat.zero_le _⟩ dJ0_indexOf_7cf53_14) hS (fun H locs hP hS => ?_)
    obtain ⟨r4, err4, hres⟩ := m_ob_e hres
    refine m_bi (m_cS (n := 4) (As := [.ref (m_V G k0), .int x1, .int x2, .int r3]) (rest := []) X hSt hP hS hl.1 (c_J1_indexOf_4cfef l G (M := M) hk0 err4) k_c_yJ1_indexOf_4cfef k_m_J0_637 k_t_yJ1_indexOf_4cfef k_n_J1 (by decide +kernel) rfl rfl ⟨Nat.le_of_ble_eq_true rfl, Nat.le_of_ble_eq_true rfl⟩ (Nat.le_of_ble_eq_true rfl) ⟨Nat.zero_le _, Nat.zero_le _⟩ dJ0_indexOf_7cf53_17) hS (fun H locs hP hS => ?_)
    refine lv_goto (tgt := 36) X.1 X.2.1 dJ0_indexOf_7cf53_20 (by decide) ?_
    exact m_ri X hr hlk hP hS (Option.some.inj hres) rfl dJ0_indexOf_7cf53_36
theorem dJ0_indexOf_0f7a4_0 : decode cJ0_indexOf_0f7a4 0 = .ok (.aload_n 0, 1) := by decide +kernel
theorem dJ0_indexOf_0f7a4_1 : decode cJ0_indexOf_0f7a4 1 = .ok (.iload_n 1, 1) := by decide +kernel
theorem dJ0_indexOf_0f7a4_2 : decode cJ0_indexOf_0f7a4 2 = .ok (.iconst 0, 1) := by decide +kernel
theorem dJ0_indexOf_0f7a4_3 : decode cJ0_indexOf_0f7a4 3 = .ok (.invokevirtual 633, 3) := by decide +kernel
theorem dJ0_indexOf_0f7a4_6 : decode cJ0_indexOf_0f7a4 6 = .ok (.ireturn, 1) := by decide +kernel
def f_J0_indexOf_0f7a4 (n : Nat) (k0 : Nat) (x1 : Int32) : Option Int32 :=
  m_ob (f_J0_indexOf_7cf53 n k0 x1 0) fun r1 =>
  some r1
set_option maxHeartbeats 4000000 in
set_option maxRecDepth 100000 in
theorem c_J0_indexOf_0f7a4 (l : Launch) (G : m_G) {n : Nat} {k0 : Nat} {x1 : Int32} {M : m_M} {r0 : Int32} (hk0 : k0 < 9) (hres : f_J0_indexOf_0f7a4 n k0 x1 = some r0) : Met l yJ0_indexOf_0f7a4 (m_U yJ0_indexOf_0f7a4 cJ0_indexOf_0f7a4 2 (some .int)) (m_R 3 75) (m_Pc G [.ref (m_K G k0), .int x1] M) (m_Qi G r0 M) 0 0 (m_A G) := by
  refine m_i0 (n := 2) RJ0 rfl (by decide) (Nat.le_of_ble_eq_true rfl) ?_
  intro p e s m args below meth c X hr hlk hSt hP hS ls hl
  have hl : lv_has ls 2 [(0, .ref (m_K G k0)), (1, .int x1)] := hl
  unfold f_J0_indexOf_0f7a4 at hres
  refine lv_aload_n X.1 X.2.1 dJ0_indexOf_0f7a4_0 rfl (lv_at hl 0 rfl) ?_
  refine lv_iload_n X.1 X.2.1 dJ0_indexOf_0f7a4_1 rfl (lv_at hl 1 rfl) ?_
  refine lv_iconst (v := 0) X.1 X.2.1 dJ0_indexOf_0f7a4_2 (by decide) ?_
  obtain ⟨r1, err1, hres⟩ := m_ob_e hres
  refine m_bi (m_cV (n := 2) (As := [.int x1, .int 0]) (rest := []) X hSt hP hS hl.1 (c_J0_indexOf_7cf53 l G (M := M) hk0 err1) k_c_yJ0_indexOf_7cf53 k_m_J0_633 k_i_yJ0_indexOf_7cf53 k_s_yJ0_indexOf_7cf53 k_n_J0 (by decide +kernel) (m_rcS hSt hS hk0) rfl rfl ⟨Nat.le_of_ble_eq_true rfl, Nat.le_of_ble_eq_true rfl⟩ (Nat.le_of_ble_eq_true rfl) ⟨Nat.zero_le _, Nat.zero_le _⟩ dJ0_indexOf_0f7a4_3) hS (fun H locs hP hS => ?_)
  exact m_ri X hr hlk hP hS (Option.some.inj hres) rfl dJ0_indexOf_0f7a4_6
theorem dX4_operand_0 : decode cX4_operand 0 = .ok (.aload_n 0, 1) := by decide +kernel
theorem dX4_operand_1 : decode cX4_operand 1 = .ok (.invokevirtual 68, 3) := by decide +kernel
theorem dX4_operand_4 : decode cX4_operand 4 = .ok (.istore_n 2, 1) := by decide +kernel
theorem dX4_operand_5 : decode cX4_operand 5 = .ok (.iload_n 2, 1) := by decide +kernel
theorem dX4_operand_6 : decode cX4_operand 6 = .ok (.invokestatic 98, 3) := by decide +kernel
theorem dX4_operand_9 : decode cX4_operand 9 = .ok (.ifCond .eq 10, 3) := by decide +kernel
theorem dX4_operand_12 : decode cX4_operand 12 = .ok (.aload_n 0, 1) := by decide +kernel
theorem dX4_operand_13 : decode cX4_operand 13 = .ok (.invokevirtual 102, 3) := by decide +kernel
theorem dX4_operand_16 : decode cX4_operand 16 = .ok (.goto 68, 3) := by decide +kernel
theorem dX4_operand_19 : decode cX4_operand 19 = .ok (.iload_n 2, 1) := by decide +kernel
theorem dX4_operand_20 : decode cX4_operand 20 = .ok (.bipush 40, 2) := by decide +kernel
theorem dX4_operand_22 : decode cX4_operand 22 = .ok (.if_icmp .ne 11, 3) := by decide +kernel
theorem dX4_operand_25 : decode cX4_operand 25 = .ok (.aload_n 0, 1) := by decide +kernel
theorem dX4_operand_26 : decode cX4_operand 26 = .ok (.iload_n 1, 1) := by decide +kernel
theorem dX4_operand_27 : decode cX4_operand 27 = .ok (.invokevirtual 105, 3) := by decide +kernel
theorem dX4_operand_30 : decode cX4_operand 30 = .ok (.goto 54, 3) := by decide +kernel
theorem dX4_operand_33 : decode cX4_operand 33 = .ok (.iload_n 2, 1) := by decide +kernel
theorem dX4_operand_34 : decode cX4_operand 34 = .ok (.iconst (-1), 1) := by decide +kernel
theorem dX4_operand_35 : decode cX4_operand 35 = .ok (.if_icmp .eq 40, 3) := by decide +kernel
theorem dX4_operand_38 : decode cX4_operand 38 = .ok (.ldc 108, 2) := by decide +kernel
theorem dX4_operand_40 : decode cX4_operand 40 = .ok (.iload_n 2, 1) := by decide +kernel
theorem dX4_operand_41 : decode cX4_operand 41 = .ok (.i2c, 1) := by decide +kernel
theorem dX4_operand_42 : decode cX4_operand 42 = .ok (.invokevirtual 110, 3) := by decide +kernel
theorem dX4_operand_45 : decode cX4_operand 45 = .ok (.ifCond .lt 30, 3) := by decide +kernel
theorem dX4_operand_48 : decode cX4_operand 48 = .ok (.aload_n 0, 1) := by decide +kernel
theorem dX4_operand_49 : decode cX4_operand 49 = .ok (.dup, 1) := by decide +kernel
theorem dX4_operand_50 : decode cX4_operand 50 = .ok (.getfield 58, 3) := by decide +kernel
theorem dX4_operand_53 : decode cX4_operand 53 = .ok (.iconst 1, 1) := by decide +kernel
theorem dX4_operand_54 : decode cX4_operand 54 = .ok (.iadd, 1) := by decide +kernel
theorem dX4_operand_55 : decode cX4_operand 55 = .ok (.putfield 58, 3) := by decide +kernel
theorem dX4_operand_58 : decode cX4_operand 58 = .ok (.aload_n 0, 1) := by decide +kernel
theorem dX4_operand_59 : decode cX4_operand 59 = .ok (.bipush 118, 2) := by decide +kernel
theorem dX4_operand_61 : decode cX4_operand 61 = .ok (.ldc 108, 2) := by decide +kernel
theorem dX4_operand_63 : decode cX4_operand 63 = .ok (.iload_n 2, 1) := by decide +kernel
theorem dX4_operand_64 : decode cX4_operand 64 = .ok (.i2c, 1) := by decide +kernel
theorem dX4_operand_65 : decode cX4_operand 65 = .ok (.invokevirtual 110, 3) := by decide +kernel
theorem dX4_operand_68 : decode cX4_operand 68 = .ok (.i2l, 1) := by decide +kernel
theorem dX4_operand_69 : decode cX4_operand 69 = .ok (.invokevirtual 79, 3) := by decide +kernel
theorem dX4_operand_72 : decode cX4_operand 72 = .ok (.goto 12, 3) := by decide +kernel
theorem dX4_operand_75 : decode cX4_operand 75 = .ok (.aload_n 0, 1) := by decide +kernel
theorem dX4_operand_76 : decode cX4_operand 76 = .ok (.aload_n 0, 1) := by decide +kernel
theorem dX4_operand_77 : decode cX4_operand 77 = .ok (.getfield 58, 3) := by decide +kernel
theorem dX4_operand_80 : decode cX4_operand 80 = .ok (.iconst 1, 1) := by decide +kernel
theorem dX4_operand_81 : decode cX4_operand 81 = .ok (.invokevirtual 72, 3) := by decide +kernel
theorem dX4_operand_84 : decode cX4_operand 84 = .ok (.return_, 1) := by decide +kernel
def f_X4_operand (n : Nat) (rv : Nat → Int32 → m_M → Option m_M) (k0 : Nat) (x1 : Int32) (M : m_M) : Option m_M :=
  m_o2 (f_X4_peek n k0 M) fun r1 M2 =>
  m_bd (f_X4_isDigit r1) fun r3 =>
  if r3 = 0 then
  if r1 = 40 then
  m_ob (f_X4_opened n rv k0 x1 M2) fun M15 =>
  some M15
  else
  if r1 = (-1) then
  m_bd (f_X4_blame k0 (M2.1 k0 6) 1 M2) fun M8 =>
  some M8
  else
  m_ob (f_J0_indexOf_0f7a4 n 8 ((r1.toUInt32 % 65536).toInt32)) fun r9 =>
  if r9 < 0 then
  m_bd (f_X4_blame k0 (M2.1 k0 6) 1 M2) fun M11 =>
  some M11
  else
  m_bd (m_sI M2 k0 6 ((M2.1 k0 6) + (1 : Int32))) fun M12 =>
  m_ob (f_J0_indexOf_0f7a4 n 8 ((r1.toUInt32 % 65536).toInt32)) fun r13 =>
  m_ob (f_X4_step k0 118 r13.toInt64 M12) fun M14 =>
  some M14
  else
  m_ob (f_X4_digits n k0 M2) fun M16 =>
  some M16
set_option maxHeartbeats 4000000 in
set_option maxRecDepth 100000 in
theorem c_X4_operand (l : Launch) (G : m_G) {n : Nat} {rv : Nat → Int32 → m_M → Option m_M} {k0 : Nat} {x1 : Int32} {M : m_M} {M0 : m_M} {fv wv : Nat} (hrv : ∀ (k0 : Nat) (x1 : Int32) (M M0 : m_M), m_isLaw k0 → rv k0 x1 M = some M0 → Met l yX4_value (m_U yX4_value cX4_value 3 none) (m_R fv wv) (m_Pc G [.ref (m_ad G k0), .int x1] M) (m_Qv G M0) 0 0 (m_A G)) (hk0 : m_isLaw k0) (hres : f_X4_operand n rv k0 x1 M = some M0) : Met l yX4_operand (m_U yX4_operand cX4_operand 3 none) (m_R (fv + 4) (wv + 96)) (m_Pc G [.ref (m_ad G k0), .int x1] M) (m_Qv G M0) 0 0 (m_A G) := by
  refine m_i0 (n := 3) RX4 rfl (by decide) (Nat.le_of_ble_eq_true rfl) ?_
  intro p e s m args below meth c X hr hlk hSt hP hS ls hl
  have hl : lv_has ls 3 [(0, .ref (m_ad G k0)), (1, .int x1)] := hl
  unfold f_X4_operand at hres
  refine lv_aload_n X.1 X.2.1 dX4_operand_0 rfl (lv_at hl 0 rfl) ?_
  obtain ⟨r1, M2, err1, hres⟩ := m_o2_e hres
  refine m_bi (m_cV (n := 0) (As := []) (rest := []) X hSt hP hS hl.1 (c_X4_peek l G hk0 err1) k_c_yX4_peek k_m_X4_68 k_i_yX4_peek k_s_yX4_peek k_n_X4 (by decide +kernel) (m_rc4 hSt hP hk0.1) rfl rfl ⟨by show 0 + 1 ≤ (fv + 4); omega, by show 8 + (1 + 11) + 0 ≤ (wv + 96); omega⟩ (Nat.le_of_ble_eq_true rfl) ⟨Nat.zero_le _, Nat.zero_le _⟩ dX4_operand_1) hS (fun H locs hP hS => ?_)
  refine lv_istore_n (lv' := [(2, .int r1), (0, .ref (m_ad G k0)), (1, .int x1)]) X.1 X.2.1 dX4_operand_4 rfl hl (by decide) rfl (fun ls hl => ?_)
  refine lv_iload_n X.1 X.2.1 dX4_operand_5 rfl (lv_at hl 0 rfl) ?_
  obtain ⟨r3, err3, hres⟩ := m_bd_e hres
  refine m_bz (m_cS (n := 1) (As := [.int r1]) (rest := []) X hSt hP hS hl.1 (c_X4_isDigit l G (M := M2)  err3) k_c_yX4_isDigit k_m_X4_98 k_t_yX4_isDigit k_n_X4 (by decide +kernel) rfl rfl ⟨by show 0 + 1 ≤ (fv + 4); omega, by show 8 + (1 + 11) + 0 ≤ (wv + 96); omega⟩ (Nat.le_of_ble_eq_true rfl) ⟨Nat.zero_le _, Nat.zero_le _⟩ dX4_operand_6) hS (fun H locs hP hS hz4 => ?_)
  refine lv_if_eq (tgt := 19) X.1 X.2.1 dX4_operand_9 (by decide) (fun hc5 => ?_) (fun hc5 => ?_)
  · have hres := m_it hres hc5
    refine lv_iload_n X.1 X.2.1 dX4_operand_19 rfl (lv_at hl 0 rfl) ?_
    refine lv_bipush (v := 40) X.1 X.2.1 dX4_operand_20 (by decide) ?_
    refine lv_icmp_ne (tgt := 33) X.1 X.2.1 dX4_operand_22 (by decide) (fun hc6 => ?_) (fun hc6 => ?_)
    · have hres := m_if hres hc6
      refine lv_iload_n X.1 X.2.1 dX4_operand_33 rfl (lv_at hl 0 rfl) ?_
      refine lv_iconst (v := (-1)) X.1 X.2.1 dX4_operand_34 (by decide) ?_
      refine lv_icmp_eq (tgt := 75) X.1 X.2.1 dX4_operand_35 (by decide) (fun hc7 => ?_) (fun hc7 => ?_)
      · have hres := m_it hres hc7
        refine lv_aload_n X.1 X.2.1 dX4_operand_75 rfl (lv_at hl 1 rfl) ?_
        refine lv_aload_n X.1 X.2.1 dX4_operand_76 rfl (lv_at hl 1 rfl) ?_
        refine m_g4 (v := .int (M2.1 k0 6)) X hSt hP hk0.1 6 (by decide) rfl k_f_X4_58 dX4_operand_77 ?_
        refine lv_iconst (v := 1) X.1 X.2.1 dX4_operand_80 (by decide) ?_
        obtain ⟨M8, eM8, hres⟩ := m_bd_e hres
        refine m_bv (m_cV (n := 2) (As := [.int (M2.1 k0 6), .int 1]) (rest := []) X hSt hP hS hl.1 (c_X4_blame l G hk0 eM8) k_c_yX4_blame k_m_X4_72 k_i_yX4_blame k_s_yX4_blame k_n_X4 (by decide +kernel) (m_rc4 hSt hP hk0.1) rfl rfl ⟨by show 0 + 1 ≤ (fv + 4); omega, by show 8 + (3 + 11) + 0 ≤ (wv + 96); omega⟩ (Nat.le_of_ble_eq_true rfl) ⟨Nat.zero_le _, Nat.zero_le _⟩ dX4_operand_81) hS (fun H locs hP hS => ?_)
        exact m_rv X hr hlk hP hS (Option.some.inj hres) dX4_operand_84
      · have hres := m_if hres hc7
        refine m_ld8 X hSt dX4_operand_38 ?_
        refine lv_iload_n X.1 X.2.1 dX4_operand_40 rfl (lv_at hl 0 rfl) ?_
        refine lv_i2c (v := (r1.toUInt32 % 65536).toInt32) X.1 X.2.1 dX4_operand_41 rfl ?_
        obtain ⟨r9, err9, hres⟩ := m_ob_e hres
        refine m_bi (m_cV (n := 1) (As := [.int ((r1.toUInt32 % 65536).toInt32)]) (rest := []) X hSt hP hS hl.1 (c_J0_indexOf_0f7a4 l G (M := M2) (by decide) err9) k_c_yJ0_indexOf_0f7a4 k_m_X4_110 k_i_yJ0_indexOf_0f7a4 k_s_yJ0_indexOf_0f7a4 k_n_J0 (by decide +kernel) (m_rcS hSt hS (by decide)) rfl rfl ⟨by show 3 + 1 ≤ (fv + 4); omega, by show 8 + (2 + 11) + 75 ≤ (wv + 96); omega⟩ (Nat.le_of_ble_eq_true rfl) ⟨Nat.zero_le _, Nat.zero_le _⟩ dX4_operand_42) hS (fun H locs hP hS => ?_)
        refine lv_if_lt (tgt := 75) X.1 X.2.1 dX4_operand_45 (by decide) (fun hc10 => ?_) (fun hc10 => ?_)
        · have hres := m_it hres hc10
          refine lv_aload_n X.1 X.2.1 dX4_operand_75 rfl (lv_at hl 1 rfl) ?_
          refine lv_aload_n X.1 X.2.1 dX4_operand_76 rfl (lv_at hl 1 rfl) ?_
          refine m_g4 (v := .int (M2.1 k0 6)) X hSt hP hk0.1 6 (by decide) rfl k_f_X4_58 dX4_operand_77 ?_
          refine lv_iconst (v := 1) X.1 X.2.1 dX4_operand_80 (by decide) ?_
          obtain ⟨M11, eM11, hres⟩ := m_bd_e hres
          refine m_bv (m_cV (n := 2) (As := [.int (M2.1 k0 6), .int 1]) (rest := []) X hSt hP hS hl.1 (c_X4_blame l G hk0 eM11) k_c_yX4_blame k_m_X4_72 k_i_yX4_blame k_s_yX4_blame k_n_X4 (by decide +kernel) (m_rc4 hSt hP hk0.1) rfl rfl ⟨by show 0 + 1 ≤ (fv + 4); omega, by show 8 + (3 + 11) + 0 ≤ (wv + 96); omega⟩ (Nat.le_of_ble_eq_true rfl) ⟨Nat.zero_le _, Nat.zero_le _⟩ dX4_operand_81) hS (fun H locs hP hS => ?_)
          exact m_rv X hr hlk hP hS (Option.some.inj hres) dX4_operand_84
        · have hres := m_if hres hc10
          refine lv_aload_n X.1 X.2.1 dX4_operand_48 rfl (lv_at hl 1 rfl) ?_
          refine lv_dup X.1 X.2.1 dX4_operand_49 rfl ?_
          refine m_g4 (v := .int (M2.1 k0 6)) X hSt hP hk0.1 6 (by decide) rfl k_f_X4_58 dX4_operand_50 ?_
          refine lv_iconst (v := 1) X.1 X.2.1 dX4_operand_53 (by decide) ?_
          refine lv_iadd X.1 X.2.1 dX4_operand_54 ?_
          obtain ⟨M12, eM12, hres⟩ := m_bd_e hres
          refine m_pi4 X hSt hP hS hk0.1 6 (by decide) eM12 rfl rfl (by decide) k_f_X4_58 dX4_operand_55 (fun H locs hP hS => ?_)
          refine lv_aload_n X.1 X.2.1 dX4_operand_58 rfl (lv_at hl 1 rfl) ?_
          refine lv_bipush (v := 118) X.1 X.2.1 dX4_operand_59 (by decide) ?_
          refine m_ld8 X hSt dX4_operand_61 ?_
          refine lv_iload_n X.1 X.2.1 dX4_operand_63 rfl (lv_at hl 0 rfl) ?_
          refine lv_i2c (v := (r1.toUInt32 % 65536).toInt32) X.1 X.2.1 dX4_operand_64 rfl ?_
          obtain ⟨r13, err13, hres⟩ := m_ob_e hres
          refine m_bi (m_cV (n := 1) (As := [.int ((r1.toUInt32 % 65536).toInt32)]) (rest := [.int 118, .ref (m_ad G k0)]) X hSt hP hS hl.1 (c_J0_indexOf_0f7a4 l G (M := M12) (by decide) err13) k_c_yJ0_indexOf_0f7a4 k_m_X4_110 k_i_yJ0_indexOf_0f7a4 k_s_yJ0_indexOf_0f7a4 k_n_J0 (by decide +kernel) (m_rcS hSt hS (by decide)) rfl rfl ⟨by show 3 + 1 ≤ (fv + 4); omega, by show 8 + (2 + 11) + 75 ≤ (wv + 96); omega⟩ (Nat.le_of_ble_eq_true rfl) ⟨Nat.zero_le _, Nat.zero_le _⟩ dX4_operand_65) hS (fun H locs hP hS => ?_)
          refine lv_i2l (v := r13.toInt64) X.1 X.2.1 dX4_operand_68 rfl ?_
          obtain ⟨M14, eM14, hres⟩ := m_ob_e hres
          refine m_bv (m_cV (n := 2) (As := [.int 118, .long r13.toInt64]) (rest := []) X hSt hP hS hl.1 (c_X4_step l G hk0 eM14) k_c_yX4_step k_m_X4_79 k_i_yX4_step k_s_yX4_step k_n_X4 (by decide +kernel) (m_rc4 hSt hP hk0.1) rfl rfl ⟨by show 0 + 1 ≤ (fv + 4); omega, by show 8 + (4 + 11) + 0 ≤ (wv + 96); omega⟩ (Nat.le_of_ble_eq_true rfl) ⟨Nat.zero_le _, Nat.zero_le _⟩ dX4_operand_69) hS (fun H locs hP hS => ?_)
          refine lv_goto (tgt := 84) X.1 X.2.1 dX4_operand_72 (by decide) ?_
          exact m_rv X hr hlk hP hS (Option.some.inj hres) dX4_operand_84
    · have hres := m_it hres hc6
      refine lv_aload_n X.1 X.2.1 dX4_operand_25 rfl (lv_at hl 1 rfl) ?_
      refine lv_iload_n X.1 X.2.1 dX4_operand_26 rfl (lv_at hl 2 rfl) ?_
      obtain ⟨M15, eM15, hres⟩ := m_ob_e hres
      refine m_bv (m_cV (n := 1) (As := [.int x1]) (rest := []) X hSt hP hS hl.1 (c_X4_opened l G (fv := fv) (wv := wv) hrv hk0 eM15) k_c_yX4_opened k_m_X4_105 k_i_yX4_opened k_s_yX4_opened k_n_X4 (by decide +kernel) (m_rc4 hSt hP hk0.1) rfl rfl ⟨by show fv + 1 + 1 ≤ (fv + 4); omega, by show 8 + (2 + 11) + (wv + 22) ≤ (wv + 96); omega⟩ (Nat.le_of_ble_eq_true rfl) ⟨Nat.zero_le _, Nat.zero_le _⟩ dX4_operand_27) hS (fun H locs hP hS => ?_)
      refine lv_goto (tgt := 84) X.1 X.2.1 dX4_operand_30 (by decide) ?_
      exact m_rv X hr hlk hP hS (Option.some.inj hres) dX4_operand_84
  · have hres := m_if hres hc5
    refine lv_aload_n X.1 X.2.1 dX4_operand_12 rfl (lv_at hl 1 rfl) ?_
    obtain ⟨M16, eM16, hres⟩ := m_ob_e hres
    refine m_bv (m_cV (n := 0) (As := []) (rest := []) X hSt hP hS hl.1 (c_X4_digits l G hk0 eM16) k_c_yX4_digits k_m_X4_102 k_i_yX4_digits k_s_yX4_digits k_n_X4 (by decide +kernel) (m_rc4 hSt hP hk0.1) rfl rfl ⟨by show 1 + 1 ≤ (fv + 4); omega, by show 8 + (4 + 11) + 23 ≤ (wv + 96); omega⟩ (Nat.le_of_ble_eq_true rfl) ⟨Nat.zero_le _, Nat.zero_le _⟩ dX4_operand_13) hS (fun H locs hP hS => ?_)
    refine lv_goto (tgt := 84) X.1 X.2.1 dX4_operand_16 (by decide) ?_
    exact m_rv X hr hlk hP hS (Option.some.inj hres) dX4_operand_84
theorem dX4_unit_0 : decode cX4_unit 0 = .ok (.aload_n 0, 1) := by decide +kernel
theorem dX4_unit_1 : decode cX4_unit 1 = .ok (.getfield 58, 3) := by decide +kernel
theorem dX4_unit_4 : decode cX4_unit 4 = .ok (.istore_n 2, 1) := by decide +kernel
theorem dX4_unit_5 : decode cX4_unit 5 = .ok (.iconst 0, 1) := by decide +kernel
theorem dX4_unit_6 : decode cX4_unit 6 = .ok (.istore_n 3, 1) := by decide +kernel
theorem dX4_unit_7 : decode cX4_unit 7 = .ok (.iload_n 3, 1) := by decide +kernel
theorem dX4_unit_8 : decode cX4_unit 8 = .ok (.bipush 50, 2) := by decide +kernel
theorem dX4_unit_10 : decode cX4_unit 10 = .ok (.if_icmp .ge 37, 3) := by decide +kernel
theorem dX4_unit_13 : decode cX4_unit 13 = .ok (.aload_n 0, 1) := by decide +kernel
theorem dX4_unit_14 : decode cX4_unit 14 = .ok (.invokevirtual 68, 3) := by decide +kernel
theorem dX4_unit_17 : decode cX4_unit 17 = .ok (.bipush 33, 2) := by decide +kernel
theorem dX4_unit_19 : decode cX4_unit 19 = .ok (.if_icmp .eq 12, 3) := by decide +kernel
theorem dX4_unit_22 : decode cX4_unit 22 = .ok (.aload_n 0, 1) := by decide +kernel
theorem dX4_unit_23 : decode cX4_unit 23 = .ok (.invokevirtual 68, 3) := by decide +kernel
theorem dX4_unit_26 : decode cX4_unit 26 = .ok (.bipush 45, 2) := by decide +kernel
theorem dX4_unit_28 : decode cX4_unit 28 = .ok (.if_icmp .ne 19, 3) := by decide +kernel
theorem dX4_unit_31 : decode cX4_unit 31 = .ok (.aload_n 0, 1) := by decide +kernel
theorem dX4_unit_32 : decode cX4_unit 32 = .ok (.dup, 1) := by decide +kernel
theorem dX4_unit_33 : decode cX4_unit 33 = .ok (.getfield 58, 3) := by decide +kernel
theorem dX4_unit_36 : decode cX4_unit 36 = .ok (.iconst 1, 1) := by decide +kernel
theorem dX4_unit_37 : decode cX4_unit 37 = .ok (.iadd, 1) := by decide +kernel
theorem dX4_unit_38 : decode cX4_unit 38 = .ok (.putfield 58, 3) := by decide +kernel
theorem dX4_unit_41 : decode cX4_unit 41 = .ok (.iinc 3 1, 3) := by decide +kernel
theorem dX4_unit_44 : decode cX4_unit 44 = .ok (.goto (-37), 3) := by decide +kernel
theorem dX4_unit_47 : decode cX4_unit 47 = .ok (.aload_n 0, 1) := by decide +kernel
theorem dX4_unit_48 : decode cX4_unit 48 = .ok (.getfield 58, 3) := by decide +kernel
theorem dX4_unit_51 : decode cX4_unit 51 = .ok (.istore_n 3, 1) := by decide +kernel
theorem dX4_unit_52 : decode cX4_unit 52 = .ok (.aload_n 0, 1) := by decide +kernel
theorem dX4_unit_53 : decode cX4_unit 53 = .ok (.iload_n 1, 1) := by decide +kernel
theorem dX4_unit_54 : decode cX4_unit 54 = .ok (.invokevirtual 95, 3) := by decide +kernel
theorem dX4_unit_57 : decode cX4_unit 57 = .ok (.iload_n 3, 1) := by decide +kernel
theorem dX4_unit_58 : decode cX4_unit 58 = .ok (.iconst 1, 1) := by decide +kernel
theorem dX4_unit_59 : decode cX4_unit 59 = .ok (.isub, 1) := by decide +kernel
theorem dX4_unit_60 : decode cX4_unit 60 = .ok (.istore 4, 2) := by decide +kernel
theorem dX4_unit_62 : decode cX4_unit 62 = .ok (.iload 4, 2) := by decide +kernel
theorem dX4_unit_64 : decode cX4_unit 64 = .ok (.iload_n 2, 1) := by decide +kernel
theorem dX4_unit_65 : decode cX4_unit 65 = .ok (.if_icmp .lt 47, 3) := by decide +kernel
theorem dX4_unit_68 : decode cX4_unit 68 = .ok (.aload_n 0, 1) := by decide +kernel
theorem dX4_unit_69 : decode cX4_unit 69 = .ok (.getfield 9, 3) := by decide +kernel
theorem dX4_unit_72 : decode cX4_unit 72 = .ok (.iload 4, 2) := by decide +kernel
theorem dX4_unit_74 : decode cX4_unit 74 = .ok (.iaload, 1) := by decide +kernel
theorem dX4_unit_75 : decode cX4_unit 75 = .ok (.bipush 33, 2) := by decide +kernel
theorem dX4_unit_77 : decode cX4_unit 77 = .ok (.if_icmp .ne 10, 3) := by decide +kernel
theorem dX4_unit_80 : decode cX4_unit 80 = .ok (.aload_n 0, 1) := by decide +kernel
theorem dX4_unit_81 : decode cX4_unit 81 = .ok (.bipush 33, 2) := by decide +kernel
theorem dX4_unit_83 : decode cX4_unit 83 = .ok (.lconst 0, 1) := by decide +kernel
theorem dX4_unit_84 : decode cX4_unit 84 = .ok (.invokevirtual 79, 3) := by decide +kernel
theorem dX4_unit_87 : decode cX4_unit 87 = .ok (.aload_n 0, 1) := by decide +kernel
theorem dX4_unit_88 : decode cX4_unit 88 = .ok (.getfield 9, 3) := by decide +kernel
theorem dX4_unit_91 : decode cX4_unit 91 = .ok (.iload 4, 2) := by decide +kernel
theorem dX4_unit_93 : decode cX4_unit 93 = .ok (.iaload, 1) := by decide +kernel
theorem dX4_unit_94 : decode cX4_unit 94 = .ok (.bipush 45, 2) := by decide +kernel
theorem dX4_unit_96 : decode cX4_unit 96 = .ok (.if_icmp .ne 10, 3) := by decide +kernel
theorem dX4_unit_99 : decode cX4_unit 99 = .ok (.aload_n 0, 1) := by decide +kernel
theorem dX4_unit_100 : decode cX4_unit 100 = .ok (.bipush 126, 2) := by decide +kernel
theorem dX4_unit_102 : decode cX4_unit 102 = .ok (.lconst 0, 1) := by decide +kernel
theorem dX4_unit_103 : decode cX4_unit 103 = .ok (.invokevirtual 79, 3) := by decide +kernel
theorem dX4_unit_106 : decode cX4_unit 106 = .ok (.iinc 4 (-1), 3) := by decide +kernel
theorem dX4_unit_109 : decode cX4_unit 109 = .ok (.goto (-47), 3) := by decide +kernel
theorem dX4_unit_112 : decode cX4_unit 112 = .ok (.return_, 1) := by decide +kernel
def f_X4_unit_b87 (n : Nat) (rv : Nat → Int32 → m_M → Option m_M) (k0 : Nat) (x1 : Int32) (q62 : Int32 → Int32 → m_M → Option m_M) (x2 : Int32) (x4 : Int32) (M : m_M) : Option m_M :=
  m_gd (m_in x4 50) (
  if (M.1 (k0 + 1) x4.toNatClampNeg) = 45 then
  m_ob (f_X4_step k0 126 0 M) fun M3 =>
  q62 x2 (x4 + (-1)) M3
  else
  q62 x2 (x4 + (-1)) M)
def f_X4_unit_b62 (n : Nat) (rv : Nat → Int32 → m_M → Option m_M) (k0 : Nat) (x1 : Int32) : Nat → Int32 → Int32 → m_M → Option m_M
  | 0, _, _, _ => none
  | u + 1, x2, x4, M =>
    if x4 < x2 then
  some M
  else
  m_gd (m_in x4 50) (
  if (M.1 (k0 + 1) x4.toNatClampNeg) = 33 then
  m_ob (f_X4_step k0 33 0 M) fun M7 =>
  f_X4_unit_b87 n rv k0 x1 (f_X4_unit_b62 n rv k0 x1 u) x2 x4 M7
  else
  f_X4_unit_b87 n rv k0 x1 (f_X4_unit_b62 n rv k0 x1 u) x2 x4 M)
def f_X4_unit_b47 (n : Nat) (rv : Nat → Int32 → m_M → Option m_M) (k0 : Nat) (x1 : Int32) (x2 : Int32) (M : m_M) : Option m_M :=
  m_ob (f_X4_operand n rv k0 x1 M) fun M8 =>
  f_X4_unit_b62 n rv k0 x1 n x2 ((M.1 k0 6) - (1 : Int32)) M8
def f_X4_unit_b31 (n : Nat) (rv : Nat → Int32 → m_M → Option m_M) (k0 : Nat) (x1 : Int32) (q7 : Int32 → Int32 → m_M → Option m_M) (x2 : Int32) (x3 : Int32) (M : m_M) : Option m_M :=
  m_bd (m_sI M k0 6 ((M.1 k0 6) + (1 : Int32))) fun M9 =>
  q7 x2 (x3 + 1) M9
def f_X4_unit_b7 (n : Nat) (rv : Nat → Int32 → m_M → Option m_M) (k0 : Nat) (x1 : Int32) : Nat → Int32 → Int32 → m_M → Option m_M
  | 0, _, _, _ => none
  | u + 1, x2, x3, M =>
    if (50 : Int32) ≤ x3 then
  f_X4_unit_b47 n rv k0 x1 x2 M
  else
  m_o2 (f_X4_peek n k0 M) fun r11 M12 =>
  if r11 = 33 then
  f_X4_unit_b31 n rv k0 x1 (f_X4_unit_b7 n rv k0 x1 u) x2 x3 M12
  else
  m_o2 (f_X4_peek n k0 M12) fun r14 M15 =>
  if r14 = 45 then
  f_X4_unit_b31 n rv k0 x1 (f_X4_unit_b7 n rv k0 x1 u) x2 x3 M15
  else
  f_X4_unit_b47 n rv k0 x1 x2 M15
def f_X4_unit (n : Nat) (rv : Nat → Int32 → m_M → Option m_M) (k0 : Nat) (x1 : Int32) (M : m_M) : Option m_M :=
  f_X4_unit_b7 n rv k0 x1 n (M.1 k0 6) 0 M
set_option maxHeartbeats 4000000 in
set_option maxRecDepth 100000 in
theorem c_X4_unit (l : Launch) (G : m_G) {n : Nat} {rv : Nat → Int32 → m_M → Option m_M} {k0 : Nat} {x1 : Int32} {M : m_M} {M0 : m_M} {fv wv : Nat} (hrv : ∀ (k0 : Nat) (x1 : Int32) (M M0 : m_M), m_isLaw k0 → rv k0 x1 M = some M0 → Met l yX4_value (m_U yX4_value cX4_value 3 none) (m_R fv wv) (m_Pc G [.ref (m_ad G k0), .int x1] M) (m_Qv G M0) 0 0 (m_A G)) (hk0 : m_isLaw k0) (hres : f_X4_unit n rv k0 x1 M = some M0) : Met l yX4_unit (m_U yX4_unit cX4_unit 5 none) (m_R (fv + 5) (wv + 118)) (m_Pc G [.ref (m_ad G k0), .int x1] M) (m_Qv G M0) 0 0 (m_A G) := by
  refine m_i0 (n := 5) RX4 rfl (by decide) (Nat.le_of_ble_eq_true rfl) ?_
  intro p e s m args below meth c X hr hlk hSt hP hS ls hl
  have hl : lv_has ls 5 [(0, .ref (m_ad G k0)), (1, .int x1)] := hl
  have B87 : ∀ (q62 : Int32 → Int32 → m_M → Option m_M) (hq62 : ∀ (x2 : Int32) (x4 : Int32) (M : m_M) (H : Heap) (locs : List Loc) (ls : Array Slot), m_P G M H → va_S (m_A G) s.heap H locs → lv_has ls 5 [(0, .ref (m_ad G k0)), (2, .int x2), (4, .int x4)] → q62 x2 x4 M = some M0 → W p l e (m_R (fv + 5) (wv + 118)) s m args below meth c H locs 0 0 (MQ below (m_Qv G M0) args s 0 0 (m_A G)) (F0 m 62 ls [])) (x2 : Int32) (x4 : Int32) (M : m_M) (H : Heap) (locs : List Loc) (ls : Array Slot), m_P G M H → va_S (m_A G) s.heap H locs → lv_has ls 5 [(0, .ref (m_ad G k0)), (2, .int x2), (4, .int x4)] → f_X4_unit_b87 n rv k0 x1 q62 x2 x4 M = some M0 → W p l e (m_R (fv + 5) (wv + 118)) s m args below meth c H locs 0 0 (MQ below (m_Qv G M0) args s 0 0 (m_A G)) (F0 m 87 ls []) := by
    intro q62 hq62 x2 x4 M H locs ls hP hS hl hres
    unfold f_X4_unit_b87 at hres
    refine lv_aload_n X.1 X.2.1 dX4_unit_87 rfl (lv_at hl 0 rfl) ?_
    refine m_g4 (v := .ref (m_ad G (k0 + 1))) X hSt hP hk0.1 0 (by decide) rfl k_f_X4_9 dX4_unit_88 ?_
    refine lv_iload X.1 X.2.1 dX4_unit_91 (lv_at hl 2 rfl) ?_
    obtain ⟨hg1, hres⟩ := m_gd_e hres
    refine m_ia (j := x4.toNatClampNeg) X hSt hP hk0.2.1 hg1 rfl dX4_unit_93 ?_
    refine lv_bipush (v := 45) X.1 X.2.1 dX4_unit_94 (by decide) ?_
    refine lv_icmp_ne (tgt := 106) X.1 X.2.1 dX4_unit_96 (by decide) (fun hc2 => ?_) (fun hc2 => ?_)
    · have hres := m_if hres hc2
      refine lv_iinc (v := (x4 + (-1))) (lv' := [(4, .int (x4 + (-1))), (0, .ref (m_ad G k0)), (2, .int x2)]) X.1 X.2.1 dX4_unit_106 hl (k := 2) rfl rfl (by decide) rfl (fun ls hl => ?_)
      refine lv_goto (tgt := 62) X.1 X.2.1 dX4_unit_109 (by decide) ?_
      exact hq62 x2 (x4 + (-1)) M _ _ _ hP hS (lv_sub hl [1, 2, 0] rfl) hres
    · have hres := m_it hres hc2
      refine lv_aload_n X.1 X.2.1 dX4_unit_99 rfl (lv_at hl 0 rfl) ?_
      refine lv_bipush (v := 126) X.1 X.2.1 dX4_unit_100 (by decide) ?_
      refine lv_lconst (v := 0) X.1 X.2.1 dX4_unit_102 (by decide) ?_
      obtain ⟨M3, eM3, hres⟩ := m_ob_e hres
      refine m_bv (m_cV (n := 2) (As := [.int 126, .long 0]) (rest := []) X hSt hP hS hl.1 (c_X4_step l G hk0 eM3) k_c_yX4_step k_m_X4_79 k_i_yX4_step k_s_yX4_step k_n_X4 (by decide +kernel) (m_rc4 hSt hP hk0.1) rfl rfl ⟨by show 0 + 1 ≤ (fv + 5); omega, by show 8 + (4 + 11) + 0 ≤ (wv + 118); omega⟩ (Nat.le_of_ble_eq_true rfl) ⟨Nat.zero_le _, Nat.zero_le _⟩ dX4_unit_103) hS (fun H locs hP hS => ?_)
      refine lv_iinc (v := (x4 + (-1))) (lv' := [(4, .int (x4 + (-1))), (0, .ref (m_ad G k0)), (2, .int x2)]) X.1 X.2.1 dX4_unit_106 hl (k := 2) rfl rfl (by decide) rfl (fun ls hl => ?_)
      refine lv_goto (tgt := 62) X.1 X.2.1 dX4_unit_109 (by decide) ?_
      exact hq62 x2 (x4 + (-1)) M3 _ _ _ hP hS (lv_sub hl [1, 2, 0] rfl) hres
  have B62 : ∀ (u : Nat) (x2 : Int32) (x4 : Int32) (M : m_M) (H : Heap) (locs : List Loc) (ls : Array Slot), m_P G M H → va_S (m_A G) s.heap H locs → lv_has ls 5 [(0, .ref (m_ad G k0)), (2, .int x2), (4, .int x4)] → f_X4_unit_b62 n rv k0 x1 u x2 x4 M = some M0 → W p l e (m_R (fv + 5) (wv + 118)) s m args below meth c H locs 0 0 (MQ below (m_Qv G M0) args s 0 0 (m_A G)) (F0 m 62 ls []) := by
    intro u
    induction u with
    | zero =>
      intro x2 x4 M H locs ls hP hS hl hres
      cases hres
    | succ u ih =>
      intro x2 x4 M H locs ls hP hS hl hres
      rw [f_X4_unit_b62] at hres
      refine lv_iload X.1 X.2.1 dX4_unit_62 (lv_at hl 2 rfl) ?_
      refine lv_iload_n X.1 X.2.1 dX4_unit_64 rfl (lv_at hl 1 rfl) ?_
      refine lv_icmp_lt (tgt := 112) X.1 X.2.1 dX4_unit_65 (by decide) (fun hc4 => ?_) (fun hc4 => ?_)
      · have hres := m_it hres hc4
        exact m_rv X hr hlk hP hS (Option.some.inj hres) dX4_unit_112
      · have hres := m_if hres hc4
        refine lv_aload_n X.1 X.2.1 dX4_unit_68 rfl (lv_at hl 0 rfl) ?_
        refine m_g4 (v := .ref (m_ad G (k0 + 1))) X hSt hP hk0.1 0 (by decide) rfl k_f_X4_9 dX4_unit_69 ?_
        refine lv_iload X.1 X.2.1 dX4_unit_72 (lv_at hl 2 rfl) ?_
        obtain ⟨hg5, hres⟩ := m_gd_e hres
        refine m_ia (j := x4.toNatClampNeg) X hSt hP hk0.2.1 hg5 rfl dX4_unit_74 ?_
        refine lv_bipush (v := 33) X.1 X.2.1 dX4_unit_75 (by decide) ?_
        refine lv_icmp_ne (tgt := 87) X.1 X.2.1 dX4_unit_77 (by decide) (fun hc6 => ?_) (fun hc6 => ?_)
        · have hres := m_if hres hc6
          exact B87 (f_X4_unit_b62 n rv k0 x1 u) ih x2 x4 M _ _ _ hP hS (lv_sub hl [0, 1, 2] rfl) hres
        · have hres := m_it hres hc6
          refine lv_aload_n X.1 X.2.1 dX4_unit_80 rfl (lv_at hl 0 rfl) ?_
          refine lv_bipush (v := 33) X.1 X.2.1 dX4_unit_81 (by decide) ?_
          refine lv_lconst (v := 0) X.1 X.2.1 dX4_unit_83 (by decide) ?_
          obtain ⟨M7, eM7, hres⟩ := m_ob_e hres
          refine m_bv (m_cV (n := 2) (As := [.int 33, .long 0]) (rest := []) X hSt hP hS hl.1 (c_X4_step l G hk0 eM7) k_c_yX4_step k_m_X4_79 k_i_yX4_step k_s_yX4_step k_n_X4 (by decide +kernel) (m_rc4 hSt hP hk0.1) rfl rfl ⟨by show 0 + 1 ≤ (fv + 5); omega, by show 8 + (4 + 11) + 0 ≤ (wv + 118); omega⟩ (Nat.le_of_ble_eq_true rfl) ⟨Nat.zero_le _, Nat.zero_le _⟩ dX4_unit_84) hS (fun H locs hP hS => ?_)
          exact B87 (f_X4_unit_b62 n rv k0 x1 u) ih x2 x4 M7 _ _ _ hP hS (lv_sub hl [0, 1, 2] rfl) hres
  have B47 : ∀  (x2 : Int32) (M : m_M) (H : Heap) (locs : List Loc) (ls : Array Slot), m_P G M H → va_S (m_A G) s.heap H locs → lv_has ls 5 [(0, .ref (m_ad G k0)), (1, .int x1), (2, .int x2)] → f_X4_unit_b47 n rv k0 x1 x2 M = some M0 → W p l e (m_R (fv + 5) (wv + 118)) s m args below meth c H locs 0 0 (MQ below (m_Qv G M0) args s 0 0 (m_A G)) (F0 m 47 ls []) := by
    intro x2 M H locs ls hP hS hl hres
    unfold f_X4_unit_b47 at hres
    refine lv_aload_n X.1 X.2.1 dX4_unit_47 rfl (lv_at hl 0 rfl) ?_
    refine m_g4 (v := .int (M.1 k0 6)) X hSt hP hk0.1 6 (by decide) rfl k_f_X4_58 dX4_unit_48 ?_
    refine lv_istore_n (lv' := [(3, .int (M.1 k0 6)), (0, .ref (m_ad G k0)), (1, .int x1), (2, .int x2)]) X.1 X.2.1 dX4_unit_51 rfl hl (by decide) rfl (fun ls hl => ?_)
    refine lv_aload_n X.1 X.2.1 dX4_unit_52 rfl (lv_at hl 1 rfl) ?_
    refine lv_iload_n X.1 X.2.1 dX4_unit_53 rfl (lv_at hl 2 rfl) ?_
    obtain ⟨M8, eM8, hres⟩ := m_ob_e hres
    refine m_bv (m_cV (n := 1) (As := [.int x1]) (rest := []) X hSt hP hS hl.1 (c_X4_operand l G (fv := fv) (wv := wv) hrv hk0 eM8) k_c_yX4_operand k_m_X4_95 k_i_yX4_operand k_s_yX4_operand k_n_X4 (by decide +kernel) (m_rc4 hSt hP hk0.1) rfl rfl ⟨by show fv + 4 + 1 ≤ (fv + 5); omega, by show 8 + (3 + 11) + (wv + 96) ≤ (wv + 118); omega⟩ (Nat.le_of_ble_eq_true rfl) ⟨Nat.zero_le _, Nat.zero_le _⟩ dX4_unit_54) hS (fun H locs hP hS => ?_)
    refine lv_iload_n X.1 X.2.1 dX4_unit_57 rfl (lv_at hl 0 rfl) ?_
    refine lv_iconst (v := 1) X.1 X.2.1 dX4_unit_58 (by decide) ?_
    refine lv_isub X.1 X.2.1 dX4_unit_59 ?_
    refine lv_istore (lv' := [(4, .int ((M.1 k0 6) - (1 : Int32))), (3, .int (M.1 k0 6)), (0, .ref (m_ad G k0)), (1, .int x1), (2, .int x2)]) X.1 X.2.1 dX4_unit_60 hl (by decide) rfl (fun ls hl => ?_)
    exact B62 n x2 ((M.1 k0 6) - (1 : Int32)) M8 _ _ _ hP hS (lv_sub hl [2, 4, 0] rfl) hres
  have B31 : ∀ (q7 : Int32 → Int32 → m_M → Option m_M) (hq7 : ∀ (x2 : Int32) (x3 : Int32) (M : m_M) (H : Heap) (locs : List Loc) (ls : Array Slot), m_P G M H → va_S (m_A G) s.heap H locs → lv_has ls 5 [(0, .ref (m_ad G k0)), (1, .int x1), (2, .int x2), (3, .int x3)] → q7 x2 x3 M = some M0 → W p l e (m_R (fv + 5) (wv + 118)) s m args below meth c H locs 0 0 (MQ below (m_Qv G M0) args s 0 0 (m_A G)) (F0 m 7 ls [])) (x2 : Int32) (x3 : Int32) (M : m_M) (H : Heap) (locs : List Loc) (ls : Array Slot), m_P G M H → va_S (m_A G) s.heap H locs → lv_has ls 5 [(0, .ref (m_ad G k0)), (1, .int x1), (2, .int x2), (3, .int x3)] → f_X4_unit_b31 n rv k0 x1 q7 x2 x3 M = some M0 → W p l e (m_R (fv + 5) (wv + 118)) s m args below meth c H locs 0 0 (MQ below (m_Qv G M0) args s 0 0 (m_A G)) (F0 m 31 ls []) := by
    intro q7 hq7 x2 x3 M H locs ls hP hS hl hres
    unfold f_X4_unit_b31 at hres
    refine lv_aload_n X.1 X.2.1 dX4_unit_31 rfl (lv_at hl 0 rfl) ?_
    refine lv_dup X.1 X.2.1 dX4_unit_32 rfl ?_
    refine m_g4 (v := .int (M.1 k0 6)) X hSt hP hk0.1 6 (by decide) rfl k_f_X4_58 dX4_unit_33 ?_
    refine lv_iconst (v := 1) X.1 X.2.1 dX4_unit_36 (by decide) ?_
    refine lv_iadd X.1 X.2.1 dX4_unit_37 ?_
    obtain ⟨M9, eM9, hres⟩ := m_bd_e hres
    refine m_pi4 X hSt hP hS hk0.1 6 (by decide) eM9 rfl rfl (by decide) k_f_X4_58 dX4_unit_38 (fun H locs hP hS => ?_)
    refine lv_iinc (v := (x3 + 1)) (lv' := [(3, .int (x3 + 1)), (0, .ref (m_ad G k0)), (1, .int x1), (2, .int x2)]) X.1 X.2.1 dX4_unit_41 hl (k := 3) rfl rfl (by decide) rfl (fun ls hl => ?_)
    refine lv_goto (tgt := 7) X.1 X.2.1 dX4_unit_44 (by decide) ?_
    exact hq7 x2 (x3 + 1) M9 _ _ _ hP hS (lv_sub hl [1, 2, 3, 0] rfl) hres
  have B7 : ∀ (u : Nat) (x2 : Int32) (x3 : Int32) (M : m_M) (H : Heap) (locs : List Loc) (ls : Array Slot), m_P G M H → va_S (m_A G) s.heap H locs → lv_has ls 5 [(0, .ref (m_ad G k0)), (1, .int x1), (2, .int x2), (3, .int x3)] → f_X4_unit_b7 n rv k0 x1 u x2 x3 M = some M0 → W p l e (m_R (fv + 5) (wv + 118)) s m args below meth c H locs 0 0 (MQ below (m_Qv G M0) args s 0 0 (m_A G)) (F0 m 7 ls []) := by
    intro u
    induction u with
    | zero =>
      intro x2 x3 M H locs ls hP hS hl hres
      cases hres
    | succ u ih =>
      intro x2 x3 M H locs ls hP hS hl hres
      rw [f_X4_unit_b7] at hres
      refine lv_iload_n X.1 X.2.1 dX4_unit_7 rfl (lv_at hl 3 rfl) ?_
      refine lv_bipush (v := 50) X.1 X.2.1 dX4_unit_8 (by decide) ?_
      refine lv_icmp_ge (tgt := 47) X.1 X.2.1 dX4_unit_10 (by decide) (fun hc10 => ?_) (fun hc10 => ?_)
      · have hres := m_it hres hc10
        exact B47 x2 M _ _ _ hP hS (lv_sub hl [0, 1, 2] rfl) hres
      · have hres := m_if hres hc10
        refine lv_aload_n X.1 X.2.1 dX4_unit_13 rfl (lv_at hl 0 rfl) ?_
        obtain ⟨r11, M12, err11, hres⟩ := m_o2_e hres
        refine m_bi (m_cV (n := 0) (As := []) (rest := []) X hSt hP hS hl.1 (c_X4_peek l G hk0 err11) k_c_yX4_peek k_m_X4_68 k_i_yX4_peek k_s_yX4_peek k_n_X4 (by decide +kernel) (m_rc4 hSt hP hk0.1) rfl rfl ⟨by show 0 + 1 ≤ (fv + 5); omega, by show 8 + (1 + 11) + 0 ≤ (wv + 118); omega⟩ (Nat.le_of_ble_eq_true rfl) ⟨Nat.zero_le _, Nat.zero_le _⟩ dX4_unit_14) hS (fun H locs hP hS => ?_)
        refine lv_bipush (v := 33) X.1 X.2.1 dX4_unit_17 (by decide) ?_
        refine lv_icmp_eq (tgt := 31) X.1 X.2.1 dX4_unit_19 (by decide) (fun hc13 => ?_) (fun hc13 => ?_)
        · have hres := m_it hres hc13
          exact B31 (f_X4_unit_b7 n rv k0 x1 u) ih x2 x3 M12 _ _ _ hP hS (lv_sub hl [0, 1, 2, 3] rfl) hres
        · have hres := m_if hres hc13
          refine lv_aload_n X.1 X.2.1 dX4_unit_22 rfl (lv_at hl 0 rfl) ?_
          obtain ⟨r14, M15, err14, hres⟩ := m_o2_e hres
          refine m_bi (m_cV (n := 0) (As := []) (rest := []) X hSt hP hS hl.1 (c_X4_peek l G hk0 err14) k_c_yX4_peek k_m_X4_68 k_i_yX4_peek k_s_yX4_peek k_n_X4 (by decide +kernel) (m_rc4 hSt hP hk0.1) rfl rfl ⟨by show 0 + 1 ≤ (fv + 5); omega, by show 8 + (1 + 11) + 0 ≤ (wv + 118); omega⟩ (Nat.le_of_ble_eq_true rfl) ⟨Nat.zero_le _, Nat.zero_le _⟩ dX4_unit_23) hS (fun H locs hP hS => ?_)
          refine lv_bipush (v := 45) X.1 X.2.1 dX4_unit_26 (by decide) ?_
          refine lv_icmp_ne (tgt := 47) X.1 X.2.1 dX4_unit_28 (by decide) (fun hc16 => ?_) (fun hc16 => ?_)
          · have hres := m_if hres hc16
            exact B47 x2 M15 _ _ _ hP hS (lv_sub hl [0, 1, 2] rfl) hres
          · have hres := m_it hres hc16
            exact B31 (f_X4_unit_b7 n rv k0 x1 u) ih x2 x3 M15 _ _ _ hP hS (lv_sub hl [0, 1, 2, 3] rfl) hres
  unfold f_X4_unit at hres
  refine lv_aload_n X.1 X.2.1 dX4_unit_0 rfl (lv_at hl 0 rfl) ?_
  refine m_g4 (v := .int (M.1 k0 6)) X hSt hP hk0.1 6 (by decide) rfl k_f_X4_58 dX4_unit_1 ?_
  refine lv_istore_n (lv' := [(2, .int (M.1 k0 6)), (0, .ref (m_ad G k0)), (1, .int x1)]) X.1 X.2.1 dX4_unit_4 rfl hl (by decide) rfl (fun ls hl => ?_)
  refine lv_iconst (v := 0) X.1 X.2.1 dX4_unit_5 (by decide) ?_
  refine lv_istore_n (lv' := [(3, .int 0), (2, .int (M.1 k0 6)), (0, .ref (m_ad G k0)), (1, .int x1)]) X.1 X.2.1 dX4_unit_6 rfl hl (by decide) rfl (fun ls hl => ?_)
  exact B7 n (M.1 k0 6) 0 M _ _ _ hP hS (lv_sub hl [2, 3, 1, 0] rfl) hres
theorem dX4_term_0 : decode cX4_term 0 = .ok (.aload_n 0, 1) := by decide +kernel
theorem dX4_term_1 : decode cX4_term 1 = .ok (.iload_n 1, 1) := by decide +kernel
theorem dX4_term_2 : decode cX4_term 2 = .ok (.invokevirtual 92, 3) := by decide +kernel
theorem dX4_term_5 : decode cX4_term 5 = .ok (.iconst 0, 1) := by decide +kernel
theorem dX4_term_6 : decode cX4_term 6 = .ok (.istore_n 2, 1) := by decide +kernel
theorem dX4_term_7 : decode cX4_term 7 = .ok (.iload_n 2, 1) := by decide +kernel
theorem dX4_term_8 : decode cX4_term 8 = .ok (.bipush 50, 2) := by decide +kernel
theorem dX4_term_10 : decode cX4_term 10 = .ok (.if_icmp .ge 48, 3) := by decide +kernel
theorem dX4_term_13 : decode cX4_term 13 = .ok (.aload_n 0, 1) := by decide +kernel
theorem dX4_term_14 : decode cX4_term 14 = .ok (.invokevirtual 68, 3) := by decide +kernel
theorem dX4_term_17 : decode cX4_term 17 = .ok (.istore_n 3, 1) := by decide +kernel
theorem dX4_term_18 : decode cX4_term 18 = .ok (.iload_n 3, 1) := by decide +kernel
theorem dX4_term_19 : decode cX4_term 19 = .ok (.bipush 42, 2) := by decide +kernel
theorem dX4_term_21 : decode cX4_term 21 = .ok (.if_icmp .eq 10, 3) := by decide +kernel
theorem dX4_term_24 : decode cX4_term 24 = .ok (.iload_n 3, 1) := by decide +kernel
theorem dX4_term_25 : decode cX4_term 25 = .ok (.bipush 47, 2) := by decide +kernel
theorem dX4_term_27 : decode cX4_term 27 = .ok (.if_icmp .eq 4, 3) := by decide +kernel
theorem dX4_term_30 : decode cX4_term 30 = .ok (.return_, 1) := by decide +kernel
theorem dX4_term_31 : decode cX4_term 31 = .ok (.aload_n 0, 1) := by decide +kernel
theorem dX4_term_32 : decode cX4_term 32 = .ok (.dup, 1) := by decide +kernel
theorem dX4_term_33 : decode cX4_term 33 = .ok (.getfield 58, 3) := by decide +kernel
theorem dX4_term_36 : decode cX4_term 36 = .ok (.iconst 1, 1) := by decide +kernel
theorem dX4_term_37 : decode cX4_term 37 = .ok (.iadd, 1) := by decide +kernel
theorem dX4_term_38 : decode cX4_term 38 = .ok (.putfield 58, 3) := by decide +kernel
theorem dX4_term_41 : decode cX4_term 41 = .ok (.aload_n 0, 1) := by decide +kernel
theorem dX4_term_42 : decode cX4_term 42 = .ok (.iload_n 1, 1) := by decide +kernel
theorem dX4_term_43 : decode cX4_term 43 = .ok (.invokevirtual 92, 3) := by decide +kernel
theorem dX4_term_46 : decode cX4_term 46 = .ok (.aload_n 0, 1) := by decide +kernel
theorem dX4_term_47 : decode cX4_term 47 = .ok (.iload_n 3, 1) := by decide +kernel
theorem dX4_term_48 : decode cX4_term 48 = .ok (.lconst 0, 1) := by decide +kernel
theorem dX4_term_49 : decode cX4_term 49 = .ok (.invokevirtual 79, 3) := by decide +kernel
theorem dX4_term_52 : decode cX4_term 52 = .ok (.iinc 2 1, 3) := by decide +kernel
theorem dX4_term_55 : decode cX4_term 55 = .ok (.goto (-48), 3) := by decide +kernel
theorem dX4_term_58 : decode cX4_term 58 = .ok (.return_, 1) := by decide +kernel
def f_X4_term_b31 (n : Nat) (rv : Nat → Int32 → m_M → Option m_M) (k0 : Nat) (x1 : Int32) (q7 : Int32 → m_M → Option m_M) (x2 : Int32) (x3 : Int32) (M : m_M) : Option m_M :=
  m_bd (m_sI M k0 6 ((M.1 k0 6) + (1 : Int32))) fun M1 =>
  m_ob (f_X4_unit n rv k0 x1 M1) fun M2 =>
  m_ob (f_X4_step k0 x3 0 M2) fun M3 =>
  q7 (x2 + 1) M3
def f_X4_term_b7 (n : Nat) (rv : Nat → Int32 → m_M → Option m_M) (k0 : Nat) (x1 : Int32) : Nat → Int32 → m_M → Option m_M
  | 0, _, _ => none
  | u + 1, x2, M =>
    if (50 : Int32) ≤ x2 then
  some M
  else
  m_o2 (f_X4_peek n k0 M) fun r5 M6 =>
  if r5 = 42 then
  f_X4_term_b31 n rv k0 x1 (f_X4_term_b7 n rv k0 x1 u) x2 r5 M6
  else
  if r5 = 47 then
  f_X4_term_b31 n rv k0 x1 (f_X4_term_b7 n rv k0 x1 u) x2 r5 M6
  else
  some M6
def f_X4_term (n : Nat) (rv : Nat → Int32 → m_M → Option m_M) (k0 : Nat) (x1 : Int32) (M : m_M) : Option m_M :=
  m_ob (f_X4_unit n rv k0 x1 M) fun M9 =>
  f_X4_term_b7 n rv k0 x1 n 0 M9
set_option maxHeartbeats 4000000 in
set_option maxRecDepth 100000 in
theorem c_X4_term (l : Launch) (G : m_G) {n : Nat} {rv : Nat → Int32 → m_M → Option m_M} {k0 : Nat} {x1 : Int32} {M : m_M} {M0 : m_M} {fv wv : Nat} (hrv : ∀ (k0 : Nat) (x1 : Int32) (M M0 : m_M), m_isLaw k0 → rv k0 x1 M = some M0 → Met l yX4_value (m_U yX4_value cX4_value 3 none) (m_R fv wv) (m_Pc G [.ref (m_ad G k0), .int x1] M) (m_Qv G M0) 0 0 (m_A G)) (hk0 : m_isLaw k0) (hres : f_X4_term n rv k0 x1 M = some M0) : Met l yX4_term (m_U yX4_term cX4_term 4 none) (m_R (fv + 6) (wv + 142)) (m_Pc G [.ref (m_ad G k0), .int x1] M) (m_Qv G M0) 0 0 (m_A G) := by
  refine m_i0 (n := 4) RX4 rfl (by decide) (Nat.le_of_ble_eq_true rfl) ?_
  intro p e s m args below meth c X hr hlk hSt hP hS ls hl
  have hl : lv_has ls 4 [(0, .ref (m_ad G k0)), (1, .int x1)] := hl
  have B31 : ∀ (q7 : Int32 → m_M → Option m_M) (hq7 : ∀ (x2 : Int32) (M : m_M) (H : Heap) (locs : List Loc) (ls : Array Slot), m_P G M H → va_S (m_A G) s.heap H locs → lv_has ls 4 [(0, .ref (m_ad G k0)), (1, .int x1), (2, .int x2)] → q7 x2 M = some M0 → W p l e (m_R (fv + 6) (wv + 142)) s m args below meth c H locs 0 0 (MQ below (m_Qv G M0) args s 0 0 (m_A G)) (F0 m 7 ls [])) (x2 : Int32) (x3 : Int32) (M : m_M) (H : Heap) (locs : List Loc) (ls : Array Slot), m_P G M H → va_S (m_A G) s.heap H locs → lv_has ls 4 [(0, .ref (m_ad G k0)), (1, .int x1), (2, .int x2), (3, .int x3)] → f_X4_term_b31 n rv k0 x1 q7 x2 x3 M = some M0 → W p l e (m_R (fv + 6) (wv + 142)) s m args below meth c H locs 0 0 (MQ below (m_Qv G M0) args s 0 0 (m_A G)) (F0 m 31 ls []) := by
    intro q7 hq7 x2 x3 M H locs ls hP hS hl hres
    unfold f_X4_term_b31 at hres
    refine lv_aload_n X.1 X.2.1 dX4_term_31 rfl (lv_at hl 0 rfl) ?_
    refine lv_dup X.1 X.2.1 dX4_term_32 rfl ?_
    refine m_g4 (v := .int (M.1 k0 6)) X hSt hP hk0.1 6 (by decide) rfl k_f_X4_58 dX4_term_33 ?_
    refine lv_iconst (v := 1) X.1 X.2.1 dX4_term_36 (by decide) ?_
    refine lv_iadd X.1 X.2.1 dX4_term_37 ?_
    obtain ⟨M1, eM1, hres⟩ := m_bd_e hres
    refine m_pi4 X hSt hP hS hk0.1 6 (by decide) eM1 rfl rfl (by decide) k_f_X4_58 dX4_term_38 (fun H locs hP hS => ?_)
    refine lv_aload_n X.1 X.2.1 dX4_term_41 rfl (lv_at hl 0 rfl) ?_
    refine lv_iload_n X.1 X.2.1 dX4_term_42 rfl (lv_at hl 1 rfl) ?_
    obtain ⟨M2, eM2, hres⟩ := m_ob_e hres
    refine m_bv (m_cV (n := 1) (As := [.int x1]) (rest := []) X hSt hP hS hl.1 (c_X4_unit l G (fv := fv) (wv := wv) hrv hk0 eM2) k_c_yX4_unit k_m_X4_92 k_i_yX4_unit k_s_yX4_unit k_n_X4 (by decide +kernel) (m_rc4 hSt hP hk0.1) rfl rfl ⟨by show fv + 5 + 1 ≤ (fv + 6); omega, by show 8 + (5 + 11) + (wv + 118) ≤ (wv + 142); omega⟩ (Nat.le_of_ble_eq_true rfl) ⟨Nat.zero_le _, Nat.zero_le _⟩ dX4_term_43) hS (fun H locs hP hS => ?_)
    refine lv_aload_n X.1 X.2.1 dX4_term_46 rfl (lv_at hl 0 rfl) ?_
    refine lv_iload_n X.1 X.2.1 dX4_term_47 rfl (lv_at hl 3 rfl) ?_
    refine lv_lconst (v := 0) X.1 X.2.1 dX4_term_48 (by decide) ?_
    obtain ⟨M3, eM3, hres⟩ := m_ob_e hres
    refine m_bv (m_cV (n := 2) (As := [.int x3, .long 0]) (rest := []) X hSt hP hS hl.1 (c_X4_step l G hk0 eM3) k_c_yX4_step k_m_X4_79 k_i_yX4_step k_s_yX4_step k_n_X4 (by decide +kernel) (m_rc4 hSt hP hk0.1) rfl rfl ⟨by show 0 + 1 ≤ (fv + 6); omega, by show 8 + (4 + 11) + 0 ≤ (wv + 142); omega⟩ (Nat.le_of_ble_eq_true rfl) ⟨Nat.zero_le _, Nat.zero_le _⟩ dX4_term_49) hS (fun H locs hP hS => ?_)
    refine lv_iinc (v := (x2 + 1)) (lv' := [(2, .int (x2 + 1)), (0, .ref (m_ad G k0)), (1, .int x1), (3, .int x3)]) X.1 X.2.1 dX4_term_52 hl (k := 2) rfl rfl (by decide) rfl (fun ls hl => ?_)
    refine lv_goto (tgt := 7) X.1 X.2.1 dX4_term_55 (by decide) ?_
    exact hq7 (x2 + 1) M3 _ _ _ hP hS (lv_sub hl [1, 2, 0] rfl) hres
  have B7 : ∀ (u : Nat) (x2 : Int32) (M : m_M) (H : Heap) (locs : List Loc) (ls : Array Slot), m_P G M H → va_S (m_A G) s.heap H locs → lv_has ls 4 [(0, .ref (m_ad G k0)), (1, .int x1), (2, .int x2)] → f_X4_term_b7 n rv k0 x1 u x2 M = some M0 → W p l e (m_R (fv + 6) (wv + 142)) s m args below meth c H locs 0 0 (MQ below (m_Qv G M0) args s 0 0 (m_A G)) (F0 m 7 ls []) := by
    intro u
    induction u with
    | zero =>
      intro x2 M H locs ls hP hS hl hres
      cases hres
    | succ u ih =>
      intro x2 M H locs ls hP hS hl hres
      rw [f_X4_term_b7] at hres
      refine lv_iload_n X.1 X.2.1 dX4_term_7 rfl (lv_at hl 2 rfl) ?_
      refine lv_bipush (v := 50) X.1 X.2.1 dX4_term_8 (by decide) ?_
      refine lv_icmp_ge (tgt := 58) X.1 X.2.1 dX4_term_10 (by decide) (fun hc4 => ?_) (fun hc4 => ?_)
      · have hres := m_it hres hc4
        exact m_rv X hr hlk hP hS (Option.some.inj hres) dX4_term_58
      · have hres := m_if hres hc4
        refine lv_aload_n X.1 X.2.1 dX4_term_13 rfl (lv_at hl 0 rfl) ?_
        obtain ⟨r5, M6, err5, hres⟩ := m_o2_e hres
        refine m_bi (m_cV (n := 0) (As := []) (rest := []) X hSt hP hS hl.1 (c_X4_peek l G hk0 err5) k_c_yX4_peek k_m_X4_68 k_i_yX4_peek k_s_yX4_peek k_n_X4 (by decide +kernel) (m_rc4 hSt hP hk0.1) rfl rfl ⟨by show 0 + 1 ≤ (fv + 6); omega, by show 8 + (1 + 11) + 0 ≤ (wv + 142); omega⟩ (Nat.le_of_ble_eq_true rfl) ⟨Nat.zero_le _, Nat.zero_le _⟩ dX4_term_14) hS (fun H locs hP hS => ?_)
        refine lv_istore_n (lv' := [(3, .int r5), (0, .ref (m_ad G k0)), (1, .int x1), (2, .int x2)]) X.1 X.2.1 dX4_term_17 rfl hl (by decide) rfl (fun ls hl => ?_)
        refine lv_iload_n X.1 X.2.1 dX4_term_18 rfl (lv_at hl 0 rfl) ?_
        refine lv_bipush (v := 42) X.1 X.2.1 dX4_term_19 (by decide) ?_
        refine lv_icmp_eq (tgt := 31) X.1 X.2.1 dX4_term_21 (by decide) (fun hc7 => ?_) (fun hc7 => ?_)
        · have hres := m_it hres hc7
          exact B31 (f_X4_term_b7 n rv k0 x1 u) ih x2 r5 M6 _ _ _ hP hS (lv_sub hl [1, 2, 3, 0] rfl) hres
        · have hres := m_if hres hc7
          refine lv_iload_n X.1 X.2.1 dX4_term_24 rfl (lv_at hl 0 rfl) ?_
          refine lv_bipush (v := 47) X.1 X.2.1 dX4_term_25 (by decide) ?_
          refine lv_icmp_eq (tgt := 31) X.1 X.2.1 dX4_term_27 (by decide) (fun hc8 => ?_) (fun hc8 => ?_)
          · have hres := m_it hres hc8
            exact B31 (f_X4_term_b7 n rv k0 x1 u) ih x2 r5 M6 _ _ _ hP hS (lv_sub hl [1, 2, 3, 0] rfl) hres
          · have hres := m_if hres hc8
            exact m_rv X hr hlk hP hS (Option.some.inj hres) dX4_term_30
  unfold f_X4_term at hres
  refine lv_aload_n X.1 X.2.1 dX4_term_0 rfl (lv_at hl 0 rfl) ?_
  refine lv_iload_n X.1 X.2.1 dX4_term_1 rfl (lv_at hl 1 rfl) ?_
  obtain ⟨M9, eM9, hres⟩ := m_ob_e hres
  refine m_bv (m_cV (n := 1) (As := [.int x1]) (rest := []) X hSt hP hS hl.1 (c_X4_unit l G (fv := fv) (wv := wv) hrv hk0 eM9) k_c_yX4_unit k_m_X4_92 k_i_yX4_unit k_s_yX4_unit k_n_X4 (by decide +kernel) (m_rc4 hSt hP hk0.1) rfl rfl ⟨by show fv + 5 + 1 ≤ (fv + 6); omega, by show 8 + (5 + 11) + (wv + 118) ≤ (wv + 142); omega⟩ (Nat.le_of_ble_eq_true rfl) ⟨Nat.zero_le _, Nat.zero_le _⟩ dX4_term_2) hS (fun H locs hP hS => ?_)
  refine lv_iconst (v := 0) X.1 X.2.1 dX4_term_5 (by decide) ?_
  refine lv_istore_n (lv' := [(2, .int 0), (0, .ref (m_ad G k0)), (1, .int x1)]) X.1 X.2.1 dX4_term_6 rfl hl (by decide) rfl (fun ls hl => ?_)
  exact B7 n 0 M9 _ _ _ hP hS (lv_sub hl [1, 2, 0] rfl) hres
theorem dX4_sum_0 : decode cX4_sum 0 = .ok (.aload_n 0, 1) := by decide +kernel
theorem dX4_sum_1 : decode cX4_sum 1 = .ok (.iload_n 1, 1) := by decide +kernel
theorem dX4_sum_2 : decode cX4_sum 2 = .ok (.invokevirtual 89, 3) := by decide +kernel
theorem dX4_sum_5 : decode cX4_sum 5 = .ok (.iconst 0, 1) := by decide +kernel
theorem dX4_sum_6 : decode cX4_sum 6 = .ok (.istore_n 2, 1) := by decide +kernel
theorem dX4_sum_7 : decode cX4_sum 7 = .ok (.iload_n 2, 1) := by decide +kernel
theorem dX4_sum_8 : decode cX4_sum 8 = .ok (.bipush 50, 2) := by decide +kernel
theorem dX4_sum_10 : decode cX4_sum 10 = .ok (.if_icmp .ge 48, 3) := by decide +kernel
theorem dX4_sum_13 : decode cX4_sum 13 = .ok (.aload_n 0, 1) := by decide +kernel
theorem dX4_sum_14 : decode cX4_sum 14 = .ok (.invokevirtual 68, 3) := by decide +kernel
theorem dX4_sum_17 : decode cX4_sum 17 = .ok (.istore_n 3, 1) := by decide +kernel
theorem dX4_sum_18 : decode cX4_sum 18 = .ok (.iload_n 3, 1) := by decide +kernel
theorem dX4_sum_19 : decode cX4_sum 19 = .ok (.bipush 43, 2) := by decide +kernel
theorem dX4_sum_21 : decode cX4_sum 21 = .ok (.if_icmp .eq 10, 3) := by decide +kernel
theorem dX4_sum_24 : decode cX4_sum 24 = .ok (.iload_n 3, 1) := by decide +kernel
theorem dX4_sum_25 : decode cX4_sum 25 = .ok (.bipush 45, 2) := by decide +kernel
theorem dX4_sum_27 : decode cX4_sum 27 = .ok (.if_icmp .eq 4, 3) := by decide +kernel
theorem dX4_sum_30 : decode cX4_sum 30 = .ok (.return_, 1) := by decide +kernel
theorem dX4_sum_31 : decode cX4_sum 31 = .ok (.aload_n 0, 1) := by decide +kernel
theorem dX4_sum_32 : decode cX4_sum 32 = .ok (.dup, 1) := by decide +kernel
theorem dX4_sum_33 : decode cX4_sum 33 = .ok (.getfield 58, 3) := by decide +kernel
theorem dX4_sum_36 : decode cX4_sum 36 = .ok (.iconst 1, 1) := by decide +kernel
theorem dX4_sum_37 : decode cX4_sum 37 = .ok (.iadd, 1) := by decide +kernel
theorem dX4_sum_38 : decode cX4_sum 38 = .ok (.putfield 58, 3) := by decide +kernel
theorem dX4_sum_41 : decode cX4_sum 41 = .ok (.aload_n 0, 1) := by decide +kernel
theorem dX4_sum_42 : decode cX4_sum 42 = .ok (.iload_n 1, 1) := by decide +kernel
theorem dX4_sum_43 : decode cX4_sum 43 = .ok (.invokevirtual 89, 3) := by decide +kernel
theorem dX4_sum_46 : decode cX4_sum 46 = .ok (.aload_n 0, 1) := by decide +kernel
theorem dX4_sum_47 : decode cX4_sum 47 = .ok (.iload_n 3, 1) := by decide +kernel
theorem dX4_sum_48 : decode cX4_sum 48 = .ok (.lconst 0, 1) := by decide +kernel
theorem dX4_sum_49 : decode cX4_sum 49 = .ok (.invokevirtual 79, 3) := by decide +kernel
theorem dX4_sum_52 : decode cX4_sum 52 = .ok (.iinc 2 1, 3) := by decide +kernel
theorem dX4_sum_55 : decode cX4_sum 55 = .ok (.goto (-48), 3) := by decide +kernel
theorem dX4_sum_58 : decode cX4_sum 58 = .ok (.return_, 1) := by decide +kernel
def f_X4_sum_b31 (n : Nat) (rv : Nat → Int32 → m_M → Option m_M) (k0 : Nat) (x1 : Int32) (q7 : Int32 → m_M → Option m_M) (x2 : Int32) (x3 : Int32) (M : m_M) : Option m_M :=
  m_bd (m_sI M k0 6 ((M.1 k0 6) + (1 : Int32))) fun M1 =>
  m_ob (f_X4_term n rv k0 x1 M1) fun M2 =>
  m_ob (f_X4_step k0 x3 0 M2) fun M3 =>
  q7 (x2 + 1) M3
def f_X4_sum_b7 (n : Nat) (rv : Nat → Int32 → m_M → Option m_M) (k0 : Nat) (x1 : Int32) : Nat → Int32 → m_M → Option m_M
  | 0, _, _ => none
  | u + 1, x2, M =>
    if (50 : Int32) ≤ x2 then
  some M
  else
  m_o2 (f_X4_peek n k0 M) fun r5 M6 =>
  if r5 = 43 then
  f_X4_sum_b31 n rv k0 x1 (f_X4_sum_b7 n rv k0 x1 u) x2 r5 M6
  else
  if r5 = 45 then
  f_X4_sum_b31 n rv k0 x1 (f_X4_sum_b7 n rv k0 x1 u) x2 r5 M6
  else
  some M6
def f_X4_sum (n : Nat) (rv : Nat → Int32 → m_M → Option m_M) (k0 : Nat) (x1 : Int32) (M : m_M) : Option m_M :=
  m_ob (f_X4_term n rv k0 x1 M) fun M9 =>
  f_X4_sum_b7 n rv k0 x1 n 0 M9
set_option maxHeartbeats 4000000 in
set_option maxRecDepth 100000 in
theorem c_X4_sum (l : Launch) (G : m_G) {n : Nat} {rv : Nat → Int32 → m_M → Option m_M} {k0 : Nat} {x1 : Int32} {M : m_M} {M0 : m_M} {fv wv : Nat} (hrv : ∀ (k0 : Nat) (x1 : Int32) (M M0 : m_M), m_isLaw k0 → rv k0 x1 M = some M0 → Met l yX4_value (m_U yX4_value cX4_value 3 none) (m_R fv wv) (m_Pc G [.ref (m_ad G k0), .int x1] M) (m_Qv G M0) 0 0 (m_A G)) (hk0 : m_isLaw k0) (hres : f_X4_sum n rv k0 x1 M = some M0) : Met l yX4_sum (m_U yX4_sum cX4_sum 4 none) (m_R (fv + 7) (wv + 165)) (m_Pc G [.ref (m_ad G k0), .int x1] M) (m_Qv G M0) 0 0 (m_A G) := by
  refine m_i0 (n := 4) RX4 rfl (by decide) (Nat.le_of_ble_eq_true rfl) ?_
  intro p e s m args below meth c X hr hlk hSt hP hS ls hl
  have hl : lv_has ls 4 [(0, .ref (m_ad G k0)), (1, .int x1)] := hl
  have B31 : ∀ (q7 : Int32 → m_M → Option m_M) (hq7 : ∀ (x2 : Int32) (M : m_M) (H : Heap) (locs : List Loc) (ls : Array Slot), m_P G M H → va_S (m_A G) s.heap H locs → lv_has ls 4 [(0, .ref (m_ad G k0)), (1, .int x1), (2, .int x2)] → q7 x2 M = some M0 → W p l e (m_R (fv + 7) (wv + 165)) s m args below meth c H locs 0 0 (MQ below (m_Qv G M0) args s 0 0 (m_A G)) (F0 m 7 ls [])) (x2 : Int32) (x3 : Int32) (M : m_M) (H : Heap) (locs : List Loc) (ls : Array Slot), m_P G M H → va_S (m_A G) s.heap H locs → lv_has ls 4 [(0, .ref (m_ad G k0)), (1, .int x1), (2, .int x2), (3, .int x3)] → f_X4_sum_b31 n rv k0 x1 q7 x2 x3 M = some M0 → W p l e (m_R (fv + 7) (wv + 165)) s m args below meth c H locs 0 0 (MQ below (m_Qv G M0) args s 0 0 (m_A G)) (F0 m 31 ls []) := by
    intro q7 hq7 x2 x3 M H locs ls hP hS hl hres
    unfold f_X4_sum_b31 at hres
    refine lv_aload_n X.1 X.2.1 dX4_sum_31 rfl (lv_at hl 0 rfl) ?_
    refine lv_dup X.1 X.2.1 dX4_sum_32 rfl ?_
    refine m_g4 (v := .int (M.1 k0 6)) X hSt hP hk0.1 6 (by decide) rfl k_f_X4_58 dX4_sum_33 ?_
    refine lv_iconst (v := 1) X.1 X.2.1 dX4_sum_36 (by decide) ?_
    refine lv_iadd X.1 X.2.1 dX4_sum_37 ?_
    obtain ⟨M1, eM1, hres⟩ := m_bd_e hres
    refine m_pi4 X hSt hP hS hk0.1 6 (by decide) eM1 rfl rfl (by decide) k_f_X4_58 dX4_sum_38 (fun H locs hP hS => ?_)
    refine lv_aload_n X.1 X.2.1 dX4_sum_41 rfl (lv_at hl 0 rfl) ?_
    refine lv_iload_n X.1 X.2.1 dX4_sum_42 rfl (lv_at hl 1 rfl) ?_
    obtain ⟨M2, eM2, hres⟩ := m_ob_e hres
    refine m_bv (m_cV (n := 1) (As := [.int x1]) (rest := []) X hSt hP hS hl.1 (c_X4_term l G (fv := fv) (wv := wv) hrv hk0 eM2) k_c_yX4_term k_m_X4_89 k_i_yX4_term k_s_yX4_term k_n_X4 (by decide +kernel) (m_rc4 hSt hP hk0.1) rfl rfl ⟨by show fv + 6 + 1 ≤ (fv + 7); omega, by show 8 + (4 + 11) + (wv + 142) ≤ (wv + 165); omega⟩ (Nat.le_of_ble_eq_true rfl) ⟨Nat.zero_le _, Nat.zero_le _⟩ dX4_sum_43) hS (fun H locs hP hS => ?_)
    refine lv_aload_n X.1 X.2.1 dX4_sum_46 rfl (lv_at hl 0 rfl) ?_
    refine lv_iload_n X.1 X.2.1 dX4_sum_47 rfl (lv_at hl 3 rfl) ?_
    refine lv_lconst (v := 0) X.1 X.2.1 dX4_sum_48 (by decide) ?_
    obtain ⟨M3, eM3, hres⟩ := m_ob_e hres
    refine m_bv (m_cV (n := 2) (As := [.int x3, .long 0]) (rest := []) X hSt hP hS hl.1 (c_X4_step l G hk0 eM3) k_c_yX4_step k_m_X4_79 k_i_yX4_step k_s_yX4_step k_n_X4 (by decide +kernel) (m_rc4 hSt hP hk0.1) rfl rfl ⟨by show 0 + 1 ≤ (fv + 7); omega, by show 8 + (4 + 11) + 0 ≤ (wv + 165); omega⟩ (Nat.le_of_ble_eq_true rfl) ⟨Nat.zero_le _, Nat.zero_le _⟩ dX4_sum_49) hS (fun H locs hP hS => ?_)
    refine lv_iinc (v := (x2 + 1)) (lv' := [(2, .int (x2 + 1)), (0, .ref (m_ad G k0)), (1, .int x1), (3, .int x3)]) X.1 X.2.1 dX4_sum_52 hl (k := 2) rfl rfl (by decide) rfl (fun ls hl => ?_)
    refine lv_goto (tgt := 7) X.1 X.2.1 dX4_sum_55 (by decide) ?_
    exact hq7 (x2 + 1) M3 _ _ _ hP hS (lv_sub hl [1, 2, 0] rfl) hres
  have B7 : ∀ (u : Nat) (x2 : Int32) (M : m_M) (H : Heap) (locs : List Loc) (ls : Array Slot), m_P G M H → va_S (m_A G) s.heap H locs → lv_has ls 4 [(0, .ref (m_ad G k0)), (1, .int x1), (2, .int x2)] → f_X4_sum_b7 n rv k0 x1 u x2 M = some M0 → W p l e (m_R (fv + 7) (wv + 165)) s m args below meth c H locs 0 0 (MQ below (m_Qv G M0) args s 0 0 (m_A G)) (F0 m 7 ls []) := by
    intro u
    induction u with
    | zero =>
      intro x2 M H locs ls hP hS hl hres
      cases hres
    | succ u ih =>
      intro x2 M H locs ls hP hS hl hres
      rw [f_X4_sum_b7] at hres
      refine lv_iload_n X.1 X.2.1 dX4_sum_7 rfl (lv_at hl 2 rfl) ?_
      refine lv_bipush (v := 50) X.1 X.2.1 dX4_sum_8 (by decide) ?_
      refine lv_icmp_ge (tgt := 58) X.1 X.2.1 dX4_sum_10 (by decide) (fun hc4 => ?_) (fun hc4 => ?_)
      · have hres := m_it hres hc4
        exact m_rv X hr hlk hP hS (Option.some.inj hres) dX4_sum_58
      · have hres := m_if hres hc4
        refine lv_aload_n X.1 X.2.1 dX4_sum_13 rfl (lv_at hl 0 rfl) ?_
        obtain ⟨r5, M6, err5, hres⟩ := m_o2_e hres
        refine m_bi (m_cV (n := 0) (As := []) (rest := []) X hSt hP hS hl.1 (c_X4_peek l G hk0 err5) k_c_yX4_peek k_m_X4_68 k_i_yX4_peek k_s_yX4_peek k_n_X4 (by decide +kernel) (m_rc4 hSt hP hk0.1) rfl rfl ⟨by show 0 + 1 ≤ (fv + 7); omega, by show 8 + (1 + 11) + 0 ≤ (wv + 165); omega⟩ (Nat.le_of_ble_eq_true rfl) ⟨Nat.zero_le _, Nat.zero_le _⟩ dX4_sum_14) hS (fun H locs hP hS => ?_)
        refine lv_istore_n (lv' := [(3, .int r5), (0, .ref (m_ad G k0)), (1, .int x1), (2, .int x2)]) X.1 X.2.1 dX4_sum_17 rfl hl (by decide) rfl (fun ls hl => ?_)
        refine lv_iload_n X.1 X.2.1 dX4_sum_18 rfl (lv_at hl 0 rfl) ?_
        refine lv_bipush (v := 43) X.1 X.2.1 dX4_sum_19 (by decide) ?_
        refine lv_icmp_eq (tgt := 31) X.1 X.2.1 dX4_sum_21 (by decide) (fun hc7 => ?_) (fun hc7 => ?_)
        · have hres := m_it hres hc7
          exact B31 (f_X4_sum_b7 n rv k0 x1 u) ih x2 r5 M6 _ _ _ hP hS (lv_sub hl [1, 2, 3, 0] rfl) hres
        · have hres := m_if hres hc7
          refine lv_iload_n X.1 X.2.1 dX4_sum_24 rfl (lv_at hl 0 rfl) ?_
          refine lv_bipush (v := 45) X.1 X.2.1 dX4_sum_25 (by decide) ?_
          refine lv_icmp_eq (tgt := 31) X.1 X.2.1 dX4_sum_27 (by decide) (fun hc8 => ?_) (fun hc8 => ?_)
          · have hres := m_it hres hc8
            exact B31 (f_X4_sum_b7 n rv k0 x1 u) ih x2 r5 M6 _ _ _ hP hS (lv_sub hl [1, 2, 3, 0] rfl) hres
          · have hres := m_if hres hc8
            exact m_rv X hr hlk hP hS (Option.some.inj hres) dX4_sum_30
  unfold f_X4_sum at hres
  refine lv_aload_n X.1 X.2.1 dX4_sum_0 rfl (lv_at hl 0 rfl) ?_
  refine lv_iload_n X.1 X.2.1 dX4_sum_1 rfl (lv_at hl 1 rfl) ?_
  obtain ⟨M9, eM9, hres⟩ := m_ob_e hres
  refine m_bv (m_cV (n := 1) (As := [.int x1]) (rest := []) X hSt hP hS hl.1 (c_X4_term l G (fv := fv) (wv := wv) hrv hk0 eM9) k_c_yX4_term k_m_X4_89 k_i_yX4_term k_s_yX4_term k_n_X4 (by decide +kernel) (m_rc4 hSt hP hk0.1) rfl rfl ⟨by show fv + 6 + 1 ≤ (fv + 7); omega, by show 8 + (4 + 11) + (wv + 142) ≤ (wv + 165); omega⟩ (Nat.le_of_ble_eq_true rfl) ⟨Nat.zero_le _, Nat.zero_le _⟩ dX4_sum_2) hS (fun H locs hP hS => ?_)
  refine lv_iconst (v := 0) X.1 X.2.1 dX4_sum_5 (by decide) ?_
  refine lv_istore_n (lv' := [(2, .int 0), (0, .ref (m_ad G k0)), (1, .int x1)]) X.1 X.2.1 dX4_sum_6 rfl hl (by decide) rfl (fun ls hl => ?_)
  exact B7 n 0 M9 _ _ _ hP hS (lv_sub hl [1, 2, 0] rfl) hres
theorem dX4_held_0 : decode cX4_held 0 = .ok (.aload_n 0, 1) := by decide +kernel
theorem dX4_held_1 : decode cX4_held 1 = .ok (.iload_n 1, 1) := by decide +kernel
theorem dX4_held_2 : decode cX4_held 2 = .ok (.invokevirtual 86, 3) := by decide +kernel
theorem dX4_held_5 : decode cX4_held 5 = .ok (.aload_n 0, 1) := by decide +kernel
theorem dX4_held_6 : decode cX4_held 6 = .ok (.invokevirtual 68, 3) := by decide +kernel
theorem dX4_held_9 : decode cX4_held 9 = .ok (.istore_n 2, 1) := by decide +kernel
theorem dX4_held_10 : decode cX4_held 10 = .ok (.iload_n 2, 1) := by decide +kernel
theorem dX4_held_11 : decode cX4_held 11 = .ok (.bipush 60, 2) := by decide +kernel
theorem dX4_held_13 : decode cX4_held 13 = .ok (.if_icmp .eq 16, 3) := by decide +kernel
theorem dX4_held_16 : decode cX4_held 16 = .ok (.iload_n 2, 1) := by decide +kernel
theorem dX4_held_17 : decode cX4_held 17 = .ok (.bipush 62, 2) := by decide +kernel
theorem dX4_held_19 : decode cX4_held 19 = .ok (.if_icmp .eq 10, 3) := by decide +kernel
theorem dX4_held_22 : decode cX4_held 22 = .ok (.iload_n 2, 1) := by decide +kernel
theorem dX4_held_23 : decode cX4_held 23 = .ok (.bipush 61, 2) := by decide +kernel
theorem dX4_held_25 : decode cX4_held 25 = .ok (.if_icmp .eq 4, 3) := by decide +kernel
theorem dX4_held_28 : decode cX4_held 28 = .ok (.return_, 1) := by decide +kernel
theorem dX4_held_29 : decode cX4_held 29 = .ok (.aload_n 0, 1) := by decide +kernel
theorem dX4_held_30 : decode cX4_held 30 = .ok (.dup, 1) := by decide +kernel
theorem dX4_held_31 : decode cX4_held 31 = .ok (.getfield 58, 3) := by decide +kernel
theorem dX4_held_34 : decode cX4_held 34 = .ok (.iconst 1, 1) := by decide +kernel
theorem dX4_held_35 : decode cX4_held 35 = .ok (.iadd, 1) := by decide +kernel
theorem dX4_held_36 : decode cX4_held 36 = .ok (.putfield 58, 3) := by decide +kernel
theorem dX4_held_39 : decode cX4_held 39 = .ok (.aload_n 0, 1) := by decide +kernel
theorem dX4_held_40 : decode cX4_held 40 = .ok (.iload_n 1, 1) := by decide +kernel
theorem dX4_held_41 : decode cX4_held 41 = .ok (.invokevirtual 86, 3) := by decide +kernel
theorem dX4_held_44 : decode cX4_held 44 = .ok (.aload_n 0, 1) := by decide +kernel
theorem dX4_held_45 : decode cX4_held 45 = .ok (.iload_n 2, 1) := by decide +kernel
theorem dX4_held_46 : decode cX4_held 46 = .ok (.lconst 0, 1) := by decide +kernel
theorem dX4_held_47 : decode cX4_held 47 = .ok (.invokevirtual 79, 3) := by decide +kernel
theorem dX4_held_50 : decode cX4_held 50 = .ok (.return_, 1) := by decide +kernel
def f_X4_held_b29 (n : Nat) (rv : Nat → Int32 → m_M → Option m_M) (k0 : Nat) (x1 : Int32) (x2 : Int32) (M : m_M) : Option m_M :=
  m_bd (m_sI M k0 6 ((M.1 k0 6) + (1 : Int32))) fun M1 =>
  m_ob (f_X4_sum n rv k0 x1 M1) fun M2 =>
  m_ob (f_X4_step k0 x2 0 M2) fun M3 =>
  some M3
def f_X4_held (n : Nat) (rv : Nat → Int32 → m_M → Option m_M) (k0 : Nat) (x1 : Int32) (M : m_M) : Option m_M :=
  m_ob (f_X4_sum n rv k0 x1 M) fun M4 =>
  m_o2 (f_X4_peek n k0 M4) fun r5 M6 =>
  if r5 = 60 then
  f_X4_held_b29 n rv k0 x1 r5 M6
  else
  if r5 = 62 then
  f_X4_held_b29 n rv k0 x1 r5 M6
  else
  if r5 = 61 then
  f_X4_held_b29 n rv k0 x1 r5 M6
  else
  some M6
set_option maxHeartbeats 4000000 in
set_option maxRecDepth 100000 in
theorem c_X4_held (l : Launch) (G : m_G) {n : Nat} {rv : Nat → Int32 → m_M → Option m_M} {k0 : Nat} {x1 : Int32} {M : m_M} {M0 : m_M} {fv wv : Nat} (hrv : ∀ (k0 : Nat) (x1 : Int32) (M M0 : m_M), m_isLaw k0 → rv k0 x1 M = some M0 → Met l yX4_value (m_U yX4_value cX4_value 3 none) (m_R fv wv) (m_Pc G [.ref (m_ad G k0), .int x1] M) (m_Qv G M0) 0 0 (m_A G)) (hk0 : m_isLaw k0) (hres : f_X4_held n rv k0 x1 M = some M0) : Met l yX4_held (m_U yX4_held cX4_held 3 none) (m_R (fv + 8) (wv + 188)) (m_Pc G [.ref (m_ad G k0), .int x1] M) (m_Qv G M0) 0 0 (m_A G) := by
  refine m_i0 (n := 3) RX4 rfl (by decide) (Nat.le_of_ble_eq_true rfl) ?_
  intro p e s m args below meth c X hr hlk hSt hP hS ls hl
  have hl : lv_has ls 3 [(0, .ref (m_ad G k0)), (1, .int x1)] := hl
  have B29 : ∀  (x2 : Int32) (M : m_M) (H : Heap) (locs : List Loc) (ls : Array Slot), m_P G M H → va_S (m_A G) s.heap H locs → lv_has ls 3 [(0, .ref (m_ad G k0)), (1, .int x1), (2, .int x2)] → f_X4_held_b29 n rv k0 x1 x2 M = some M0 → W p l e (m_R (fv + 8) (wv + 188)) s m args below meth c H locs 0 0 (MQ below (m_Qv G M0) args s 0 0 (m_A G)) (F0 m 29 ls []) := by
    intro x2 M H locs ls hP hS hl hres
    unfold f_X4_held_b29 at hres
    refine lv_aload_n X.1 X.2.1 dX4_held_29 rfl (lv_at hl 0 rfl) ?_
    refine lv_dup X.1 X.2.1 dX4_held_30 rfl ?_
    refine m_g4 (v := .int (M.1 k0 6)) X hSt hP hk0.1 6 (by decide) rfl k_f_X4_58 dX4_held_31 ?_
    refine lv_iconst (v := 1) X.1 X.2.1 dX4_held_34 (by decide) ?_
    refine lv_iadd X.1 X.2.1 dX4_held_35 ?_
    obtain ⟨M1, eM1, hres⟩ := m_bd_e hres
    refine m_pi4 X hSt hP hS hk0.1 6 (by decide) eM1 rfl rfl (by decide) k_f_X4_58 dX4_held_36 (fun H locs hP hS => ?_)
    refine lv_aload_n X.1 X.2.1 dX4_held_39 rfl (lv_at hl 0 rfl) ?_
    refine lv_iload_n X.1 X.2.1 dX4_held_40 rfl (lv_at hl 1 rfl) ?_
    obtain ⟨M2, eM2, hres⟩ := m_ob_e hres
    refine m_bv (m_cV (n := 1) (As := [.int x1]) (rest := []) X hSt hP hS hl.1 (c_X4_sum l G (fv := fv) (wv := wv) hrv hk0 eM2) k_c_yX4_sum k_m_X4_86 k_i_yX4_sum k_s_yX4_sum k_n_X4 (by decide +kernel) (m_rc4 hSt hP hk0.1) rfl rfl ⟨by show fv + 7 + 1 ≤ (fv + 8); omega, by show 8 + (4 + 11) + (wv + 165) ≤ (wv + 188); omega⟩ (Nat.le_of_ble_eq_true rfl) ⟨Nat.zero_le _, Nat.zero_le _⟩ dX4_held_41) hS (fun H locs hP hS => ?_)
    refine lv_aload_n X.1 X.2.1 dX4_held_44 rfl (lv_at hl 0 rfl) ?_
    refine lv_iload_n X.1 X.2.1 dX4_held_45 rfl (lv_at hl 2 rfl) ?_
    refine lv_lconst (v := 0) X.1 X.2.1 dX4_held_46 (by decide) ?_
    obtain ⟨M3, eM3, hres⟩ := m_ob_e hres
    refine m_bv (m_cV (n := 2) (As := [.int x2, .long 0]) (rest := []) X hSt hP hS hl.1 (c_X4_step l G hk0 eM3) k_c_yX4_step k_m_X4_79 k_i_yX4_step k_s_yX4_step k_n_X4 (by decide +kernel) (m_rc4 hSt hP hk0.1) rfl rfl ⟨by show 0 + 1 ≤ (fv + 8); omega, by show 8 + (4 + 11) + 0 ≤ (wv + 188); omega⟩ (Nat.le_of_ble_eq_true rfl) ⟨Nat.zero_le _, Nat.zero_le _⟩ dX4_held_47) hS (fun H locs hP hS => ?_)
    exact m_rv X hr hlk hP hS (Option.some.inj hres) dX4_held_50
  unfold f_X4_held at hres
  refine lv_aload_n X.1 X.2.1 dX4_held_0 rfl (lv_at hl 0 rfl) ?_
  refine lv_iload_n X.1 X.2.1 dX4_held_1 rfl (lv_at hl 1 rfl) ?_
  obtain ⟨M4, eM4, hres⟩ := m_ob_e hres
  refine m_bv (m_cV (n := 1) (As := [.int x1]) (rest := []) X hSt hP hS hl.1 (c_X4_sum l G (fv := fv) (wv := wv) hrv hk0 eM4) k_c_yX4_sum k_m_X4_86 k_i_yX4_sum k_s_yX4_sum k_n_X4 (by decide +kernel) (m_rc4 hSt hP hk0.1) rfl rfl ⟨by show fv + 7 + 1 ≤ (fv + 8); omega, by show 8 + (4 + 11) + (wv + 165) ≤ (wv + 188); omega⟩ (Nat.le_of_ble_eq_true rfl) ⟨Nat.zero_le _, Nat.zero_le _⟩ dX4_held_2) hS (fun H locs hP hS => ?_)
  refine lv_aload_n X.1 X.2.1 dX4_held_5 rfl (lv_at hl 0 rfl) ?_
  obtain ⟨r5, M6, err5, hres⟩ := m_o2_e hres
  refine m_bi (m_cV (n := 0) (As := []) (rest := []) X hSt hP hS hl.1 (c_X4_peek l G hk0 err5) k_c_yX4_peek k_m_X4_68 k_i_yX4_peek k_s_yX4_peek k_n_X4 (by decide +kernel) (m_rc4 hSt hP hk0.1) rfl rfl ⟨by show 0 + 1 ≤ (fv + 8); omega, by show 8 + (1 + 11) + 0 ≤ (wv + 188); omega⟩ (Nat.le_of_ble_eq_true rfl) ⟨Nat.zero_le _, Nat.zero_le _⟩ dX4_held_6) hS (fun H locs hP hS => ?_)
  refine lv_istore_n (lv' := [(2, .int r5), (0, .ref (m_ad G k0)), (1, .int x1)]) X.1 X.2.1 dX4_held_9 rfl hl (by decide) rfl (fun ls hl => ?_)
  refine lv_iload_n X.1 X.2.1 dX4_held_10 rfl (lv_at hl 0 rfl) ?_
  refine lv_bipush (v := 60) X.1 X.2.1 dX4_held_11 (by decide) ?_
  refine lv_icmp_eq (tgt := 29) X.1 X.2.1 dX4_held_13 (by decide) (fun hc7 => ?_) (fun hc7 => ?_)
  · have hres := m_it hres hc7
    exact B29 r5 M6 _ _ _ hP hS (lv_sub hl [1, 2, 0] rfl) hres
  · have hres := m_if hres hc7
    refine lv_iload_n X.1 X.2.1 dX4_held_16 rfl (lv_at hl 0 rfl) ?_
    refine lv_bipush (v := 62) X.1 X.2.1 dX4_held_17 (by decide) ?_
    refine lv_icmp_eq (tgt := 29) X.1 X.2.1 dX4_held_19 (by decide) (fun hc8 => ?_) (fun hc8 => ?_)
    · have hres := m_it hres hc8
      exact B29 r5 M6 _ _ _ hP hS (lv_sub hl [1, 2, 0] rfl) hres
    · have hres := m_if hres hc8
      refine lv_iload_n X.1 X.2.1 dX4_held_22 rfl (lv_at hl 0 rfl) ?_
      refine lv_bipush (v := 61) X.1 X.2.1 dX4_held_23 (by decide) ?_
      refine lv_icmp_eq (tgt := 29) X.1 X.2.1 dX4_held_25 (by decide) (fun hc9 => ?_) (fun hc9 => ?_)
      · have hres := m_it hres hc9
        exact B29 r5 M6 _ _ _ hP hS (lv_sub hl [1, 2, 0] rfl) hres
      · have hres := m_if hres hc9
        exact m_rv X hr hlk hP hS (Option.some.inj hres) dX4_held_28
theorem dX4_both_0 : decode cX4_both 0 = .ok (.aload_n 0, 1) := by decide +kernel
theorem dX4_both_1 : decode cX4_both 1 = .ok (.iload_n 1, 1) := by decide +kernel
theorem dX4_both_2 : decode cX4_both 2 = .ok (.invokevirtual 83, 3) := by decide +kernel
theorem dX4_both_5 : decode cX4_both 5 = .ok (.iconst 0, 1) := by decide +kernel
theorem dX4_both_6 : decode cX4_both 6 = .ok (.istore_n 2, 1) := by decide +kernel
theorem dX4_both_7 : decode cX4_both 7 = .ok (.iload_n 2, 1) := by decide +kernel
theorem dX4_both_8 : decode cX4_both 8 = .ok (.bipush 50, 2) := by decide +kernel
theorem dX4_both_10 : decode cX4_both 10 = .ok (.if_icmp .ge 40, 3) := by decide +kernel
theorem dX4_both_13 : decode cX4_both 13 = .ok (.aload_n 0, 1) := by decide +kernel
theorem dX4_both_14 : decode cX4_both 14 = .ok (.invokevirtual 68, 3) := by decide +kernel
theorem dX4_both_17 : decode cX4_both 17 = .ok (.bipush 38, 2) := by decide +kernel
theorem dX4_both_19 : decode cX4_both 19 = .ok (.if_icmp .ne 31, 3) := by decide +kernel
theorem dX4_both_22 : decode cX4_both 22 = .ok (.aload_n 0, 1) := by decide +kernel
theorem dX4_both_23 : decode cX4_both 23 = .ok (.dup, 1) := by decide +kernel
theorem dX4_both_24 : decode cX4_both 24 = .ok (.getfield 58, 3) := by decide +kernel
theorem dX4_both_27 : decode cX4_both 27 = .ok (.iconst 1, 1) := by decide +kernel
theorem dX4_both_28 : decode cX4_both 28 = .ok (.iadd, 1) := by decide +kernel
theorem dX4_both_29 : decode cX4_both 29 = .ok (.putfield 58, 3) := by decide +kernel
theorem dX4_both_32 : decode cX4_both 32 = .ok (.aload_n 0, 1) := by decide +kernel
theorem dX4_both_33 : decode cX4_both 33 = .ok (.iload_n 1, 1) := by decide +kernel
theorem dX4_both_34 : decode cX4_both 34 = .ok (.invokevirtual 83, 3) := by decide +kernel
theorem dX4_both_37 : decode cX4_both 37 = .ok (.aload_n 0, 1) := by decide +kernel
theorem dX4_both_38 : decode cX4_both 38 = .ok (.bipush 38, 2) := by decide +kernel
theorem dX4_both_40 : decode cX4_both 40 = .ok (.lconst 0, 1) := by decide +kernel
theorem dX4_both_41 : decode cX4_both 41 = .ok (.invokevirtual 79, 3) := by decide +kernel
theorem dX4_both_44 : decode cX4_both 44 = .ok (.iinc 2 1, 3) := by decide +kernel
theorem dX4_both_47 : decode cX4_both 47 = .ok (.goto (-40), 3) := by decide +kernel
theorem dX4_both_50 : decode cX4_both 50 = .ok (.return_, 1) := by decide +kernel
def f_X4_both_b7 (n : Nat) (rv : Nat → Int32 → m_M → Option m_M) (k0 : Nat) (x1 : Int32) : Nat → Int32 → m_M → Option m_M
  | 0, _, _ => none
  | u + 1, x2, M =>
    if (50 : Int32) ≤ x2 then
  some M
  else
  m_o2 (f_X4_peek n k0 M) fun r2 M3 =>
  if r2 = 38 then
  m_bd (m_sI M3 k0 6 ((M3.1 k0 6) + (1 : Int32))) fun M5 =>
  m_ob (f_X4_held n rv k0 x1 M5) fun M6 =>
  m_ob (f_X4_step k0 38 0 M6) fun M7 =>
  f_X4_both_b7 n rv k0 x1 u (x2 + 1) M7
  else
  some M3
def f_X4_both (n : Nat) (rv : Nat → Int32 → m_M → Option m_M) (k0 : Nat) (x1 : Int32) (M : m_M) : Option m_M :=
  m_ob (f_X4_held n rv k0 x1 M) fun M8 =>
  f_X4_both_b7 n rv k0 x1 n 0 M8
set_option maxHeartbeats 4000000 in
set_option maxRecDepth 100000 in
theorem c_X4_both (l : Launch) (G : m_G) {n : Nat} {rv : Nat → Int32 → m_M → Option m_M} {k0 : Nat} {x1 : Int32} {M : m_M} {M0 : m_M} {fv wv : Nat} (hrv : ∀ (k0 : Nat) (x1 : Int32) (M M0 : m_M), m_isLaw k0 → rv k0 x1 M = some M0 → Met l yX4_value (m_U yX4_value cX4_value 3 none) (m_R fv wv) (m_Pc G [.ref (m_ad G k0), .int x1] M) (m_Qv G M0) 0 0 (m_A G)) (hk0 : m_isLaw k0) (hres : f_X4_both n rv k0 x1 M = some M0) : Met l yX4_both (m_U yX4_both cX4_both 3 none) (m_R (fv + 9) (wv + 210)) (m_Pc G [.ref (m_ad G k0), .int x1] M) (m_Qv G M0) 0 0 (m_A G) := by
  refine m_i0 (n := 3) RX4 rfl (by decide) (Nat.le_of_ble_eq_true rfl) ?_
  intro p e s m args below meth c X hr hlk hSt hP hS ls hl
  have hl : lv_has ls 3 [(0, .ref (m_ad G k0)), (1, .int x1)] := hl
  have B7 : ∀ (u : Nat) (x2 : Int32) (M : m_M) (H : Heap) (locs : List Loc) (ls : Array Slot), m_P G M H → va_S (m_A G) s.heap H locs → lv_has ls 3 [(0, .ref (m_ad G k0)), (1, .int x1), (2, .int x2)] → f_X4_both_b7 n rv k0 x1 u x2 M = some M0 → W p l e (m_R (fv + 9) (wv + 210)) s m args below meth c H locs 0 0 (MQ below (m_Qv G M0) args s 0 0 (m_A G)) (F0 m 7 ls []) := by
    intro u
    induction u with
    | zero =>
      intro x2 M H locs ls hP hS hl hres
      cases hres
    | succ u ih =>
      intro x2 M H locs ls hP hS hl hres
      rw [f_X4_both_b7] at hres
      refine lv_iload_n X.1 X.2.1 dX4_both_7 rfl (lv_at hl 2 rfl) ?_
      refine lv_bipush (v := 50) X.1 X.2.1 dX4_both_8 (by decide) ?_
      refine lv_icmp_ge (tgt := 50) X.1 X.2.1 dX4_both_10 (by decide) (fun hc1 => ?_) (fun hc1 => ?_)
      · have hres := m_it hres hc1
        exact m_rv X hr hlk hP hS (Option.some.inj hres) dX4_both_50
      · have hres := m_if hres hc1
        refine lv_aload_n X.1 X.2.1 dX4_both_13 rfl (lv_at hl 0 rfl) ?_
        obtain ⟨r2, M3, err2, hres⟩ := m_o2_e hres
        refine m_bi (m_cV (n := 0) (As := []) (rest := []) X hSt hP hS hl.1 (c_X4_peek l G hk0 err2) k_c_yX4_peek k_m_X4_68 k_i_yX4_peek k_s_yX4_peek k_n_X4 (by decide +kernel) (m_rc4 hSt hP hk0.1) rfl rfl ⟨by show 0 + 1 ≤ (fv + 9); omega, by show 8 + (1 + 11) + 0 ≤ (wv + 210); omega⟩ (Nat.le_of_ble_eq_true rfl) ⟨Nat.zero_le _, Nat.zero_le _⟩ dX4_both_14) hS (fun H locs hP hS => ?_)
        refine lv_bipush (v := 38) X.1 X.2.1 dX4_both_17 (by decide) ?_
        refine lv_icmp_ne (tgt := 50) X.1 X.2.1 dX4_both_19 (by decide) (fun hc4 => ?_) (fun hc4 => ?_)
        · have hres := m_if hres hc4
          exact m_rv X hr hlk hP hS (Option.some.inj hres) dX4_both_50
        · have hres := m_it hres hc4
          refine lv_aload_n X.1 X.2.1 dX4_both_22 rfl (lv_at hl 0 rfl) ?_
          refine lv_dup X.1 X.2.1 dX4_both_23 rfl ?_
          refine m_g4 (v := .int (M3.1 k0 6)) X hSt hP hk0.1 6 (by decide) rfl k_f_X4_58 dX4_both_24 ?_
          refine lv_iconst (v := 1) X.1 X.2.1 dX4_both_27 (by decide) ?_
          refine lv_iadd X.1 X.2.1 dX4_both_28 ?_
          obtain ⟨M5, eM5, hres⟩ := m_bd_e hres
          refine m_pi4 X hSt hP hS hk0.1 6 (by decide) eM5 rfl rfl (by decide) k_f_X4_58 dX4_both_29 (fun H locs hP hS => ?_)
          refine lv_aload_n X.1 X.2.1 dX4_both_32 rfl (lv_at hl 0 rfl) ?_
          refine lv_iload_n X.1 X.2.1 dX4_both_33 rfl (lv_at hl 1 rfl) ?_
          obtain ⟨M6, eM6, hres⟩ := m_ob_e hres
          refine m_bv (m_cV (n := 1) (As := [.int x1]) (rest := []) X hSt hP hS hl.1 (c_X4_held l G (fv := fv) (wv := wv) hrv hk0 eM6) k_c_yX4_held k_m_X4_83 k_i_yX4_held k_s_yX4_held k_n_X4 (by decide +kernel) (m_rc4 hSt hP hk0.1) rfl rfl ⟨by show fv + 8 + 1 ≤ (fv + 9); omega, by show 8 + (3 + 11) + (wv + 188) ≤ (wv + 210); omega⟩ (Nat.le_of_ble_eq_true rfl) ⟨Nat.zero_le _, Nat.zero_le _⟩ dX4_both_34) hS (fun H locs hP hS => ?_)
          refine lv_aload_n X.1 X.2.1 dX4_both_37 rfl (lv_at hl 0 rfl) ?_
          refine lv_bipush (v := 38) X.1 X.2.1 dX4_both_38 (by decide) ?_
          refine lv_lconst (v := 0) X.1 X.2.1 dX4_both_40 (by decide) ?_
          obtain ⟨M7, eM7, hres⟩ := m_ob_e hres
          refine m_bv (m_cV (n := 2) (As := [.int 38, .long 0]) (rest := []) X hSt hP hS hl.1 (c_X4_step l G hk0 eM7) k_c_yX4_step k_m_X4_79 k_i_yX4_step k_s_yX4_step k_n_X4 (by decide +kernel) (m_rc4 hSt hP hk0.1) rfl rfl ⟨by show 0 + 1 ≤ (fv + 9); omega, by show 8 + (4 + 11) + 0 ≤ (wv + 210); omega⟩ (Nat.le_of_ble_eq_true rfl) ⟨Nat.zero_le _, Nat.zero_le _⟩ dX4_both_41) hS (fun H locs hP hS => ?_)
          refine lv_iinc (v := (x2 + 1)) (lv' := [(2, .int (x2 + 1)), (0, .ref (m_ad G k0)), (1, .int x1)]) X.1 X.2.1 dX4_both_44 hl (k := 2) rfl rfl (by decide) rfl (fun ls hl => ?_)
          refine lv_goto (tgt := 7) X.1 X.2.1 dX4_both_47 (by decide) ?_
          exact ih (x2 + 1) M7 _ _ _ hP hS (lv_sub hl [1, 2, 0] rfl) hres
  unfold f_X4_both at hres
  refine lv_aload_n X.1 X.2.1 dX4_both_0 rfl (lv_at hl 0 rfl) ?_
  refine lv_iload_n X.1 X.2.1 dX4_both_1 rfl (lv_at hl 1 rfl) ?_
  obtain ⟨M8, eM8, hres⟩ := m_ob_e hres
  refine m_bv (m_cV (n := 1) (As := [.int x1]) (rest := []) X hSt hP hS hl.1 (c_X4_held l G (fv := fv) (wv := wv) hrv hk0 eM8) k_c_yX4_held k_m_X4_83 k_i_yX4_held k_s_yX4_held k_n_X4 (by decide +kernel) (m_rc4 hSt hP hk0.1) rfl rfl ⟨by show fv + 8 + 1 ≤ (fv + 9); omega, by show 8 + (3 + 11) + (wv + 188) ≤ (wv + 210); omega⟩ (Nat.le_of_ble_eq_true rfl) ⟨Nat.zero_le _, Nat.zero_le _⟩ dX4_both_2) hS (fun H locs hP hS => ?_)
  refine lv_iconst (v := 0) X.1 X.2.1 dX4_both_5 (by decide) ?_
  refine lv_istore_n (lv' := [(2, .int 0), (0, .ref (m_ad G k0)), (1, .int x1)]) X.1 X.2.1 dX4_both_6 rfl hl (by decide) rfl (fun ls hl => ?_)
  exact B7 n 0 M8 _ _ _ hP hS (lv_sub hl [1, 2, 0] rfl) hres
theorem dX4_value_0 : decode cX4_value 0 = .ok (.aload_n 0, 1) := by decide +kernel
theorem dX4_value_1 : decode cX4_value 1 = .ok (.iload_n 1, 1) := by decide +kernel
theorem dX4_value_2 : decode cX4_value 2 = .ok (.invokevirtual 76, 3) := by decide +kernel
theorem dX4_value_5 : decode cX4_value 5 = .ok (.iconst 0, 1) := by decide +kernel
theorem dX4_value_6 : decode cX4_value 6 = .ok (.istore_n 2, 1) := by decide +kernel
theorem dX4_value_7 : decode cX4_value 7 = .ok (.iload_n 2, 1) := by decide +kernel
theorem dX4_value_8 : decode cX4_value 8 = .ok (.bipush 50, 2) := by decide +kernel
theorem dX4_value_10 : decode cX4_value 10 = .ok (.if_icmp .ge 40, 3) := by decide +kernel
theorem dX4_value_13 : decode cX4_value 13 = .ok (.aload_n 0, 1) := by decide +kernel
theorem dX4_value_14 : decode cX4_value 14 = .ok (.invokevirtual 68, 3) := by decide +kernel
theorem dX4_value_17 : decode cX4_value 17 = .ok (.bipush 124, 2) := by decide +kernel
theorem dX4_value_19 : decode cX4_value 19 = .ok (.if_icmp .ne 31, 3) := by decide +kernel
theorem dX4_value_22 : decode cX4_value 22 = .ok (.aload_n 0, 1) := by decide +kernel
theorem dX4_value_23 : decode cX4_value 23 = .ok (.dup, 1) := by decide +kernel
theorem dX4_value_24 : decode cX4_value 24 = .ok (.getfield 58, 3) := by decide +kernel
theorem dX4_value_27 : decode cX4_value 27 = .ok (.iconst 1, 1) := by decide +kernel
theorem dX4_value_28 : decode cX4_value 28 = .ok (.iadd, 1) := by decide +kernel
theorem dX4_value_29 : decode cX4_value 29 = .ok (.putfield 58, 3) := by decide +kernel
theorem dX4_value_32 : decode cX4_value 32 = .ok (.aload_n 0, 1) := by decide +kernel
theorem dX4_value_33 : decode cX4_value 33 = .ok (.iload_n 1, 1) := by decide +kernel
theorem dX4_value_34 : decode cX4_value 34 = .ok (.invokevirtual 76, 3) := by decide +kernel
theorem dX4_value_37 : decode cX4_value 37 = .ok (.aload_n 0, 1) := by decide +kernel
theorem dX4_value_38 : decode cX4_value 38 = .ok (.bipush 124, 2) := by decide +kernel
theorem dX4_value_40 : decode cX4_value 40 = .ok (.lconst 0, 1) := by decide +kernel
theorem dX4_value_41 : decode cX4_value 41 = .ok (.invokevirtual 79, 3) := by decide +kernel
theorem dX4_value_44 : decode cX4_value 44 = .ok (.iinc 2 1, 3) := by decide +kernel
theorem dX4_value_47 : decode cX4_value 47 = .ok (.goto (-40), 3) := by decide +kernel
theorem dX4_value_50 : decode cX4_value 50 = .ok (.return_, 1) := by decide +kernel
def f_X4_value_b7 (n : Nat) (rv : Nat → Int32 → m_M → Option m_M) (k0 : Nat) (x1 : Int32) : Nat → Int32 → m_M → Option m_M
  | 0, _, _ => none
  | u + 1, x2, M =>
    if (50 : Int32) ≤ x2 then
  some M
  else
  m_o2 (f_X4_peek n k0 M) fun r2 M3 =>
  if r2 = 124 then
  m_bd (m_sI M3 k0 6 ((M3.1 k0 6) + (1 : Int32))) fun M5 =>
  m_ob (f_X4_both n rv k0 x1 M5) fun M6 =>
  m_ob (f_X4_step k0 124 0 M6) fun M7 =>
  f_X4_value_b7 n rv k0 x1 u (x2 + 1) M7
  else
  some M3
def fb_X4_value (n : Nat) (rv : Nat → Int32 → m_M → Option m_M) (k0 : Nat) (x1 : Int32) (M : m_M) : Option m_M :=
  m_ob (f_X4_both n rv k0 x1 M) fun M8 =>
  f_X4_value_b7 n rv k0 x1 n 0 M8
set_option maxHeartbeats 4000000 in
set_option maxRecDepth 100000 in
theorem cb_X4_value (l : Launch) (G : m_G) {n : Nat} {rv : Nat → Int32 → m_M → Option m_M} {k0 : Nat} {x1 : Int32} {M : m_M} {M0 : m_M} {fv wv : Nat} (hrv : ∀ (k0 : Nat) (x1 : Int32) (M M0 : m_M), m_isLaw k0 → rv k0 x1 M = some M0 → Met l yX4_value (m_U yX4_value cX4_value 3 none) (m_R fv wv) (m_Pc G [.ref (m_ad G k0), .int x1] M) (m_Qv G M0) 0 0 (m_A G)) (hk0 : m_isLaw k0) (hres : fb_X4_value n rv k0 x1 M = some M0) : Met l yX4_value (m_U yX4_value cX4_value 3 none) (m_R (fv + 10) (wv + 232)) (m_Pc G [.ref (m_ad G k0), .int x1] M) (m_Qv G M0) 0 0 (m_A G) := by
  refine m_i0 (n := 3) RX4 rfl (by decide) (Nat.le_of_ble_eq_true rfl) ?_
  intro p e s m args below meth c X hr hlk hSt hP hS ls hl
  have hl : lv_has ls 3 [(0, .ref (m_ad G k0)), (1, .int x1)] := hl
  have B7 : ∀ (u : Nat) (x2 : Int32) (M : m_M) (H : Heap) (locs : List Loc) (ls : Array Slot), m_P G M H → va_S (m_A G) s.heap H locs → lv_has ls 3 [(0, .ref (m_ad G k0)), (1, .int x1), (2, .int x2)] → f_X4_value_b7 n rv k0 x1 u x2 M = some M0 → W p l e (m_R (fv + 10) (wv + 232)) s m args below meth c H locs 0 0 (MQ below (m_Qv G M0) args s 0 0 (m_A G)) (F0 m 7 ls []) := by
    intro u
    induction u with
    | zero =>
      intro x2 M H locs ls hP hS hl hres
      cases hres
    | succ u ih =>
      intro x2 M H locs ls hP hS hl hres
      rw [f_X4_value_b7] at hres
      refine lv_iload_n X.1 X.2.1 dX4_value_7 rfl (lv_at hl 2 rfl) ?_
      refine lv_bipush (v := 50) X.1 X.2.1 dX4_value_8 (by decide) ?_
      refine lv_icmp_ge (tgt := 50) X.1 X.2.1 dX4_value_10 (by decide) (fun hc1 => ?_) (fun hc1 => ?_)
      · have hres := m_it hres hc1
        exact m_rv X hr hlk hP hS (Option.some.inj hres) dX4_value_50
      · have hres := m_if hres hc1
        refine lv_aload_n X.1 X.2.1 dX4_value_13 rfl (lv_at hl 0 rfl) ?_
        obtain ⟨r2, M3, err2, hres⟩ := m_o2_e hres
        refine m_bi (m_cV (n := 0) (As := []) (rest := []) X hSt hP hS hl.1 (c_X4_peek l G hk0 err2) k_c_yX4_peek k_m_X4_68 k_i_yX4_peek k_s_yX4_peek k_n_X4 (by decide +kernel) (m_rc4 hSt hP hk0.1) rfl rfl ⟨by show 0 + 1 ≤ (fv + 10); omega, by show 8 + (1 + 11) + 0 ≤ (wv + 232); omega⟩ (Nat.le_of_ble_eq_true rfl) ⟨Nat.zero_le _, Nat.zero_le _⟩ dX4_value_14) hS (fun H locs hP hS => ?_)
        refine lv_bipush (v := 124) X.1 X.2.1 dX4_value_17 (by decide) ?_
        refine lv_icmp_ne (tgt := 50) X.1 X.2.1 dX4_value_19 (by decide) (fun hc4 => ?_) (fun hc4 => ?_)
        · have hres := m_if hres hc4
          exact m_rv X hr hlk hP hS (Option.some.inj hres) dX4_value_50
        · have hres := m_it hres hc4
          refine lv_aload_n X.1 X.2.1 dX4_value_22 rfl (lv_at hl 0 rfl) ?_
          refine lv_dup X.1 X.2.1 dX4_value_23 rfl ?_
          refine m_g4 (v := .int (M3.1 k0 6)) X hSt hP hk0.1 6 (by decide) rfl k_f_X4_58 dX4_value_24 ?_
          refine lv_iconst (v := 1) X.1 X.2.1 dX4_value_27 (by decide) ?_
          refine lv_iadd X.1 X.2.1 dX4_value_28 ?_
          obtain ⟨M5, eM5, hres⟩ := m_bd_e hres
          refine m_pi4 X hSt hP hS hk0.1 6 (by decide) eM5 rfl rfl (by decide) k_f_X4_58 dX4_value_29 (fun H locs hP hS => ?_)
          refine lv_aload_n X.1 X.2.1 dX4_value_32 rfl (lv_at hl 0 rfl) ?_
          refine lv_iload_n X.1 X.2.1 dX4_value_33 rfl (lv_at hl 1 rfl) ?_
          obtain ⟨M6, eM6, hres⟩ := m_ob_e hres
          refine m_bv (m_cV (n := 1) (As := [.int x1]) (rest := []) X hSt hP hS hl.1 (c_X4_both l G (fv := fv) (wv := wv) hrv hk0 eM6) k_c_yX4_both k_m_X4_76 k_i_yX4_both k_s_yX4_both k_n_X4 (by decide +kernel) (m_rc4 hSt hP hk0.1) rfl rfl ⟨by show fv + 9 + 1 ≤ (fv + 10); omega, by show 8 + (3 + 11) + (wv + 210) ≤ (wv + 232); omega⟩ (Nat.le_of_ble_eq_true rfl) ⟨Nat.zero_le _, Nat.zero_le _⟩ dX4_value_34) hS (fun H locs hP hS => ?_)
          refine lv_aload_n X.1 X.2.1 dX4_value_37 rfl (lv_at hl 0 rfl) ?_
          refine lv_bipush (v := 124) X.1 X.2.1 dX4_value_38 (by decide) ?_
          refine lv_lconst (v := 0) X.1 X.2.1 dX4_value_40 (by decide) ?_
          obtain ⟨M7, eM7, hres⟩ := m_ob_e hres
          refine m_bv (m_cV (n := 2) (As := [.int 124, .long 0]) (rest := []) X hSt hP hS hl.1 (c_X4_step l G hk0 eM7) k_c_yX4_step k_m_X4_79 k_i_yX4_step k_s_yX4_step k_n_X4 (by decide +kernel) (m_rc4 hSt hP hk0.1) rfl rfl ⟨by show 0 + 1 ≤ (fv + 10); omega, by show 8 + (4 + 11) + 0 ≤ (wv + 232); omega⟩ (Nat.le_of_ble_eq_true rfl) ⟨Nat.zero_le _, Nat.zero_le _⟩ dX4_value_41) hS (fun H locs hP hS => ?_)
          refine lv_iinc (v := (x2 + 1)) (lv' := [(2, .int (x2 + 1)), (0, .ref (m_ad G k0)), (1, .int x1)]) X.1 X.2.1 dX4_value_44 hl (k := 2) rfl rfl (by decide) rfl (fun ls hl => ?_)
          refine lv_goto (tgt := 7) X.1 X.2.1 dX4_value_47 (by decide) ?_
          exact ih (x2 + 1) M7 _ _ _ hP hS (lv_sub hl [1, 2, 0] rfl) hres
  unfold fb_X4_value at hres
  refine lv_aload_n X.1 X.2.1 dX4_value_0 rfl (lv_at hl 0 rfl) ?_
  refine lv_iload_n X.1 X.2.1 dX4_value_1 rfl (lv_at hl 1 rfl) ?_
  obtain ⟨M8, eM8, hres⟩ := m_ob_e hres
  refine m_bv (m_cV (n := 1) (As := [.int x1]) (rest := []) X hSt hP hS hl.1 (c_X4_both l G (fv := fv) (wv := wv) hrv hk0 eM8) k_c_yX4_both k_m_X4_76 k_i_yX4_both k_s_yX4_both k_n_X4 (by decide +kernel) (m_rc4 hSt hP hk0.1) rfl rfl ⟨by show fv + 9 + 1 ≤ (fv + 10); omega, by show 8 + (3 + 11) + (wv + 210) ≤ (wv + 232); omega⟩ (Nat.le_of_ble_eq_true rfl) ⟨Nat.zero_le _, Nat.zero_le _⟩ dX4_value_2) hS (fun H locs hP hS => ?_)
  refine lv_iconst (v := 0) X.1 X.2.1 dX4_value_5 (by decide) ?_
  refine lv_istore_n (lv' := [(2, .int 0), (0, .ref (m_ad G k0)), (1, .int x1)]) X.1 X.2.1 dX4_value_6 rfl hl (by decide) rfl (fun ls hl => ?_)
  exact B7 n 0 M8 _ _ _ hP hS (lv_sub hl [1, 2, 0] rfl) hres
def f_X4_value (n : Nat) : Nat → Nat → Int32 → m_M → Option m_M
  | 0, _, _, _ => none
  | d + 1, k0, x1, M => fb_X4_value n (f_X4_value n d) k0 x1 M
theorem cd_X4_value (l : Launch) (G : m_G) {n : Nat} : ∀ (d : Nat) (k0 : Nat) (x1 : Int32) (M M0 : m_M), m_isLaw k0 → f_X4_value n d k0 x1 M = some M0 → Met l yX4_value (m_U yX4_value cX4_value 3 none) (m_R (10 * d) (232 * d)) (m_Pc G [.ref (m_ad G k0), .int x1] M) (m_Qv G M0) 0 0 (m_A G) := by
  intro d
  induction d with
  | zero =>
    intro k0 x1 M M0 hk0 hres
    cases hres
  | succ d ih =>
    intro k0 x1 M M0 hk0 hres
    rw [f_X4_value] at hres
    have hk := cb_X4_value l G (fv := 10 * d) (wv := 232 * d) ih hk0 hres
    rw [show 10 * (d + 1) = 10 * d + 10 from Nat.mul_succ _ _, show 232 * (d + 1) = 232 * d + 232 from Nat.mul_succ _ _]
    exact hk
theorem dX7_isDeal_0 : decode cX7_isDeal 0 = .ok (.iload_n 1, 1) := by decide +kernel
theorem dX7_isDeal_1 : decode cX7_isDeal 1 = .ok (.ifCond .lt 18, 3) := by decide +kernel
theorem dX7_isDeal_4 : decode cX7_isDeal 4 = .ok (.iload_n 1, 1) := by decide +kernel
theorem dX7_isDeal_5 : decode cX7_isDeal 5 = .ok (.aload_n 0, 1) := by decide +kernel
theorem dX7_isDeal_6 : decode cX7_isDeal 6 = .ok (.getfield 10, 3) := by decide +kernel
theorem dX7_isDeal_9 : decode cX7_isDeal 9 = .ok (.getfield 100, 3) := by decide +kernel
theorem dX7_isDeal_12 : decode cX7_isDeal 12 = .ok (.if_icmp .ge 7, 3) := by decide +kernel
theorem dX7_isDeal_15 : decode cX7_isDeal 15 = .ok (.iconst 1, 1) := by decide +kernel
theorem dX7_isDeal_16 : decode cX7_isDeal 16 = .ok (.goto 4, 3) := by decide +kernel
theorem dX7_isDeal_19 : decode cX7_isDeal 19 = .ok (.iconst 0, 1) := by decide +kernel
theorem dX7_isDeal_20 : decode cX7_isDeal 20 = .ok (.ireturn, 1) := by decide +kernel
def f_X7_isDeal (x1 : Int32) (M : m_M) : Int32 :=
  if x1 < 0 then
  0
  else
  if (M.1 1 2) ≤ x1 then
  0
  else
  1
set_option maxHeartbeats 4000000 in
set_option maxRecDepth 100000 in
theorem c_X7_isDeal (l : Launch) (G : m_G) {x1 : Int32} {M : m_M} {r0 : Int32}  (hres : f_X7_isDeal x1 M = r0) : Met l yX7_isDeal (m_U yX7_isDeal cX7_isDeal 2 (some .boolean)) (m_R 0 0) (m_Pc G [.ref (m_ad G 0), .int x1] M) (m_Qz G r0 M) 0 0 (m_A G) := by
  refine m_i0 (n := 2) RX7 rfl (by decide) (Nat.le_of_ble_eq_true rfl) ?_
  intro p e s m args below meth c X hr hlk hSt hP hS ls hl
  have hl : lv_has ls 2 [(0, .ref (m_ad G 0)), (1, .int x1)] := hl
  unfold f_X7_isDeal at hres
  refine lv_iload_n X.1 X.2.1 dX7_isDeal_0 rfl (lv_at hl 1 rfl) ?_
  refine lv_if_lt (tgt := 19) X.1 X.2.1 dX7_isDeal_1 (by decide) (fun hc1 => ?_) (fun hc1 => ?_)
  · have hres := m_it hres hc1
    refine lv_iconst (v := 0) X.1 X.2.1 dX7_isDeal_19 (by decide) ?_
    exact m_rz X hr hlk hP hS hres rfl (by decide) dX7_isDeal_20
  · have hres := m_if hres hc1
    refine lv_iload_n X.1 X.2.1 dX7_isDeal_4 rfl (lv_at hl 1 rfl) ?_
    refine lv_aload_n X.1 X.2.1 dX7_isDeal_5 rfl (lv_at hl 0 rfl) ?_
    refine m_g7 (v := .ref (m_ad G 1)) X hSt hP m_z_0 0 (by decide) rfl k_f_X7_10 dX7_isDeal_6 ?_
    refine m_g3 (v := .int (M.1 1 2)) X hSt hP m_kept_0.1 2 (by decide) rfl k_f_X7_100 dX7_isDeal_9 ?_
    refine lv_icmp_ge (tgt := 19) X.1 X.2.1 dX7_isDeal_12 (by decide) (fun hc2 => ?_) (fun hc2 => ?_)
    · have hres := m_it hres hc2
      refine lv_iconst (v := 0) X.1 X.2.1 dX7_isDeal_19 (by decide) ?_
      exact m_rz X hr hlk hP hS hres rfl (by decide) dX7_isDeal_20
    · have hres := m_if hres hc2
      refine lv_iconst (v := 1) X.1 X.2.1 dX7_isDeal_15 (by decide) ?_
      refine lv_goto (tgt := 20) X.1 X.2.1 dX7_isDeal_16 (by decide) ?_
      exact m_rz X hr hlk hP hS hres rfl (by decide) dX7_isDeal_20
theorem dX7_isDay_0 : decode cX7_isDay 0 = .ok (.iload_n 0, 1) := by decide +kernel
theorem dX7_isDay_1 : decode cX7_isDay 1 = .ok (.ifCond .lt 14, 3) := by decide +kernel
theorem dX7_isDay_4 : decode cX7_isDay 4 = .ok (.iload_n 0, 1) := by decide +kernel
theorem dX7_isDay_5 : decode cX7_isDay 5 = .ok (.sipush 1000, 3) := by decide +kernel
theorem dX7_isDay_8 : decode cX7_isDay 8 = .ok (.if_icmp .ge 7, 3) := by decide +kernel
theorem dX7_isDay_11 : decode cX7_isDay 11 = .ok (.iconst 1, 1) := by decide +kernel
theorem dX7_isDay_12 : decode cX7_isDay 12 = .ok (.goto 4, 3) := by decide +kernel
theorem dX7_isDay_15 : decode cX7_isDay 15 = .ok (.iconst 0, 1) := by decide +kernel
theorem dX7_isDay_16 : decode cX7_isDay 16 = .ok (.ireturn, 1) := by decide +kernel
def f_X7_isDay (x0 : Int32) : Int32 :=
  if x0 < 0 then
  0
  else
  if (1000 : Int32) ≤ x0 then
  0
  else
  1
set_option maxHeartbeats 4000000 in
set_option maxRecDepth 100000 in
theorem c_X7_isDay (l : Launch) (G : m_G) {x0 : Int32} {M : m_M} {r0 : Int32}  (hres : f_X7_isDay x0 = r0) : Met l yX7_isDay (m_U yX7_isDay cX7_isDay 1 (some .boolean)) (m_R 0 0) (m_Pc G [.int x0] M) (m_Qz G r0 M) 0 0 (m_A G) := by
  refine m_i0 (n := 1) RX7 rfl (by decide) (Nat.le_of_ble_eq_true rfl) ?_
  intro p e s m args below meth c X hr hlk hSt hP hS ls hl
  have hl : lv_has ls 1 [(0, .int x0)] := hl
  unfold f_X7_isDay at hres
  refine lv_iload_n X.1 X.2.1 dX7_isDay_0 rfl (lv_at hl 0 rfl) ?_
  refine lv_if_lt (tgt := 15) X.1 X.2.1 dX7_isDay_1 (by decide) (fun hc1 => ?_) (fun hc1 => ?_)
  · have hres := m_it hres hc1
    refine lv_iconst (v := 0) X.1 X.2.1 dX7_isDay_15 (by decide) ?_
    exact m_rz X hr hlk hP hS hres rfl (by decide) dX7_isDay_16
  · have hres := m_if hres hc1
    refine lv_iload_n X.1 X.2.1 dX7_isDay_4 rfl (lv_at hl 0 rfl) ?_
    refine lv_sipush (v := 1000) X.1 X.2.1 dX7_isDay_5 (by decide) ?_
    refine lv_icmp_ge (tgt := 15) X.1 X.2.1 dX7_isDay_8 (by decide) (fun hc2 => ?_) (fun hc2 => ?_)
    · have hres := m_it hres hc2
      refine lv_iconst (v := 0) X.1 X.2.1 dX7_isDay_15 (by decide) ?_
      exact m_rz X hr hlk hP hS hres rfl (by decide) dX7_isDay_16
    · have hres := m_if hres hc2
      refine lv_iconst (v := 1) X.1 X.2.1 dX7_isDay_11 (by decide) ?_
      refine lv_goto (tgt := 16) X.1 X.2.1 dX7_isDay_12 (by decide) ?_
      exact m_rz X hr hlk hP hS hres rfl (by decide) dX7_isDay_16
theorem dX5_restart_0 : decode cX5_restart 0 = .ok (.aload_n 0, 1) := by decide +kernel
theorem dX5_restart_1 : decode cX5_restart 1 = .ok (.iconst (-1), 1) := by decide +kernel
theorem dX5_restart_2 : decode cX5_restart 2 = .ok (.putfield 25, 3) := by decide +kernel
theorem dX5_restart_5 : decode cX5_restart 5 = .ok (.aload_n 0, 1) := by decide +kernel
theorem dX5_restart_6 : decode cX5_restart 6 = .ok (.iconst (-1), 1) := by decide +kernel
theorem dX5_restart_7 : decode cX5_restart 7 = .ok (.putfield 29, 3) := by decide +kernel
theorem dX5_restart_10 : decode cX5_restart 10 = .ok (.aload_n 0, 1) := by decide +kernel
theorem dX5_restart_11 : decode cX5_restart 11 = .ok (.iconst 0, 1) := by decide +kernel
theorem dX5_restart_12 : decode cX5_restart 12 = .ok (.putfield 32, 3) := by decide +kernel
theorem dX5_restart_15 : decode cX5_restart 15 = .ok (.aload_n 0, 1) := by decide +kernel
theorem dX5_restart_16 : decode cX5_restart 16 = .ok (.iconst 0, 1) := by decide +kernel
theorem dX5_restart_17 : decode cX5_restart 17 = .ok (.putfield 35, 3) := by decide +kernel
theorem dX5_restart_20 : decode cX5_restart 20 = .ok (.aload_n 0, 1) := by decide +kernel
theorem dX5_restart_21 : decode cX5_restart 21 = .ok (.iconst 0, 1) := by decide +kernel
theorem dX5_restart_22 : decode cX5_restart 22 = .ok (.putfield 38, 3) := by decide +kernel
theorem dX5_restart_25 : decode cX5_restart 25 = .ok (.aload_n 0, 1) := by decide +kernel
theorem dX5_restart_26 : decode cX5_restart 26 = .ok (.iconst 0, 1) := by decide +kernel
theorem dX5_restart_27 : decode cX5_restart 27 = .ok (.putfield 41, 3) := by decide +kernel
theorem dX5_restart_30 : decode cX5_restart 30 = .ok (.aload_n 0, 1) := by decide +kernel
theorem dX5_restart_31 : decode cX5_restart 31 = .ok (.iconst 0, 1) := by decide +kernel
theorem dX5_restart_32 : decode cX5_restart 32 = .ok (.putfield 44, 3) := by decide +kernel
theorem dX5_restart_35 : decode cX5_restart 35 = .ok (.iconst 0, 1) := by decide +kernel
theorem dX5_restart_36 : decode cX5_restart 36 = .ok (.istore_n 1, 1) := by decide +kernel
theorem dX5_restart_37 : decode cX5_restart 37 = .ok (.iload_n 1, 1) := by decide +kernel
theorem dX5_restart_38 : decode cX5_restart 38 = .ok (.bipush 10, 2) := by decide +kernel
theorem dX5_restart_40 : decode cX5_restart 40 = .ok (.if_icmp .ge 16, 3) := by decide +kernel
theorem dX5_restart_43 : decode cX5_restart 43 = .ok (.aload_n 0, 1) := by decide +kernel
theorem dX5_restart_44 : decode cX5_restart 44 = .ok (.getfield 15, 3) := by decide +kernel
theorem dX5_restart_47 : decode cX5_restart 47 = .ok (.iload_n 1, 1) := by decide +kernel
theorem dX5_restart_48 : decode cX5_restart 48 = .ok (.iconst 0, 1) := by decide +kernel
theorem dX5_restart_49 : decode cX5_restart 49 = .ok (.iastore, 1) := by decide +kernel
theorem dX5_restart_50 : decode cX5_restart 50 = .ok (.iinc 1 1, 3) := by decide +kernel
theorem dX5_restart_53 : decode cX5_restart 53 = .ok (.goto (-16), 3) := by decide +kernel
theorem dX5_restart_56 : decode cX5_restart 56 = .ok (.iconst 0, 1) := by decide +kernel
theorem dX5_restart_57 : decode cX5_restart 57 = .ok (.istore_n 1, 1) := by decide +kernel
theorem dX5_restart_58 : decode cX5_restart 58 = .ok (.iload_n 1, 1) := by decide +kernel
theorem dX5_restart_59 : decode cX5_restart 59 = .ok (.iconst 4, 1) := by decide +kernel
theorem dX5_restart_60 : decode cX5_restart 60 = .ok (.if_icmp .ge 30, 3) := by decide +kernel
theorem dX5_restart_63 : decode cX5_restart 63 = .ok (.aload_n 0, 1) := by decide +kernel
theorem dX5_restart_64 : decode cX5_restart 64 = .ok (.getfield 9, 3) := by decide +kernel
theorem dX5_restart_67 : decode cX5_restart 67 = .ok (.iload_n 1, 1) := by decide +kernel
theorem dX5_restart_68 : decode cX5_restart 68 = .ok (.iconst 0, 1) := by decide +kernel
theorem dX5_restart_69 : decode cX5_restart 69 = .ok (.iastore, 1) := by decide +kernel
theorem dX5_restart_70 : decode cX5_restart 70 = .ok (.aload_n 0, 1) := by decide +kernel
theorem dX5_restart_71 : decode cX5_restart 71 = .ok (.getfield 18, 3) := by decide +kernel
theorem dX5_restart_74 : decode cX5_restart 74 = .ok (.iload_n 1, 1) := by decide +kernel
theorem dX5_restart_75 : decode cX5_restart 75 = .ok (.iconst 0, 1) := by decide +kernel
theorem dX5_restart_76 : decode cX5_restart 76 = .ok (.bastore, 1) := by decide +kernel
theorem dX5_restart_77 : decode cX5_restart 77 = .ok (.aload_n 0, 1) := by decide +kernel
theorem dX5_restart_78 : decode cX5_restart 78 = .ok (.getfield 22, 3) := by decide +kernel
theorem dX5_restart_81 : decode cX5_restart 81 = .ok (.iload_n 1, 1) := by decide +kernel
theorem dX5_restart_82 : decode cX5_restart 82 = .ok (.iconst 0, 1) := by decide +kernel
theorem dX5_restart_83 : decode cX5_restart 83 = .ok (.bastore, 1) := by decide +kernel
theorem dX5_restart_84 : decode cX5_restart 84 = .ok (.iinc 1 1, 3) := by decide +kernel
theorem dX5_restart_87 : decode cX5_restart 87 = .ok (.goto (-29), 3) := by decide +kernel
theorem dX5_restart_90 : decode cX5_restart 90 = .ok (.return_, 1) := by decide +kernel
def f_X5_restart_b58 (n : Nat) (k0 : Nat) : Nat → Int32 → m_M → Option m_M
  | 0, _, _ => none
  | u + 1, x1, M =>
    if (4 : Int32) ≤ x1 then
  some M
  else
  m_gd (m_in x1 4) (
  m_bd (m_sI M (k0 + 1) x1.toNatClampNeg 0) fun M3 =>
  m_bd (m_sI M3 (k0 + 3) x1.toNatClampNeg 0) fun M4 =>
  m_bd (m_sI M4 (k0 + 4) x1.toNatClampNeg 0) fun M5 =>
  f_X5_restart_b58 n k0 u (x1 + 1) M5)
def f_X5_restart_b37 (n : Nat) (k0 : Nat) : Nat → Int32 → m_M → Option m_M
  | 0, _, _ => none
  | u + 1, x1, M =>
    if (10 : Int32) ≤ x1 then
  f_X5_restart_b58 n k0 n 0 M
  else
  m_gd (m_in x1 10) (
  m_bd (m_sI M (k0 + 2) x1.toNatClampNeg 0) fun M8 =>
  f_X5_restart_b37 n k0 u (x1 + 1) M8)
def f_X5_restart (n : Nat) (k0 : Nat) (M : m_M) : Option m_M :=
  m_bd (m_sI M k0 0 (-1)) fun M9 =>
  m_bd (m_sI M9 k0 1 (-1)) fun M10 =>
  m_bd (m_sI M10 k0 2 0) fun M11 =>
  m_bd (m_sI M11 k0 3 0) fun M12 =>
  m_bd (m_sI M12 k0 4 0) fun M13 =>
  m_bd (m_sI M13 k0 5 0) fun M14 =>
  m_bd (m_sI M14 k0 6 0) fun M15 =>
  f_X5_restart_b37 n k0 n 0 M15
set_option maxHeartbeats 4000000 in
set_option maxRecDepth 100000 in
theorem c_X5_restart (l : Launch) (G : m_G) {n : Nat} {k0 : Nat} {M : m_M} {M0 : m_M} (hk0 : m_isPerson k0) (hres : f_X5_restart n k0 M = some M0) : Met l yX5_restart (m_U yX5_restart cX5_restart 2 none) (m_R 0 0) (m_Pc G [.ref (m_ad G k0)] M) (m_Qv G M0) 0 0 (m_A G) := by
  refine m_i0 (n := 2) RX5 rfl (by decide) (Nat.le_of_ble_eq_true rfl) ?_
  intro p e s m args below meth c X hr hlk hSt hP hS ls hl
  have hl : lv_has ls 2 [(0, .ref (m_ad G k0))] := hl
  have B58 : ∀ (u : Nat) (x1 : Int32) (M : m_M) (H : Heap) (locs : List Loc) (ls : Array Slot), m_P G M H → va_S (m_A G) s.heap H locs → lv_has ls 2 [(0, .ref (m_ad G k0)), (1, .int x1)] → f_X5_restart_b58 n k0 u x1 M = some M0 → W p l e (m_R 0 0) s m args below meth c H locs 0 0 (MQ below (m_Qv G M0) args s 0 0 (m_A G)) (F0 m 58 ls []) := by
    intro u
    induction u with
    | zero =>
      intro x1 M H locs ls hP hS hl hres
      cases hres
    | succ u ih =>
      intro x1 M H locs ls hP hS hl hres
      rw [f_X5_restart_b58] at hres
      refine lv_iload_n X.1 X.2.1 dX5_restart_58 rfl (lv_at hl 1 rfl) ?_
      refine lv_iconst (v := 4) X.1 X.2.1 dX5_restart_59 (by decide) ?_
      refine lv_icmp_ge (tgt := 90) X.1 X.2.1 dX5_restart_60 (by decide) (fun hc1 => ?_) (fun hc1 => ?_)
      · have hres := m_it hres hc1
        exact m_rv X hr hlk hP hS (Option.some.inj hres) dX5_restart_90
      · have hres := m_if hres hc1
        refine lv_aload_n X.1 X.2.1 dX5_restart_63 rfl (lv_at hl 0 rfl) ?_
        refine m_g5 (v := .ref (m_ad G (k0 + 1))) X hSt hP hk0.1 7 (by decide) rfl k_f_X5_9 dX5_restart_64 ?_
        refine lv_iload_n X.1 X.2.1 dX5_restart_67 rfl (lv_at hl 1 rfl) ?_
        refine lv_iconst (v := 0) X.1 X.2.1 dX5_restart_68 (by decide) ?_
        obtain ⟨hg2, hres⟩ := m_gd_e hres
        obtain ⟨M3, eM3, hres⟩ := m_bd_e hres
        refine m_is (j := x1.toNatClampNeg) X hSt hP hS hk0.2.1 hg2 rfl dX5_restart_69 eM3 (fun H locs hP hS => ?_)
        refine lv_aload_n X.1 X.2.1 dX5_restart_70 rfl (lv_at hl 0 rfl) ?_
        refine m_g5 (v := .ref (m_ad G (k0 + 3))) X hSt hP hk0.1 9 (by decide) rfl k_f_X5_18 dX5_restart_71 ?_
        refine lv_iload_n X.1 X.2.1 dX5_restart_74 rfl (lv_at hl 1 rfl) ?_
        refine lv_iconst (v := 0) X.1 X.2.1 dX5_restart_75 (by decide) ?_
        obtain ⟨M4, eM4, hres⟩ := m_bd_e hres
        refine m_zs (j := x1.toNatClampNeg) X hSt hP hS hk0.2.2.2.1 hg2 rfl (by decide)  dX5_restart_76 eM4 (fun H locs hP hS => ?_)
        refine lv_aload_n X.1 X.2.1 dX5_restart_77 rfl (lv_at hl 0 rfl) ?_
        refine m_g5 (v := .ref (m_ad G (k0 + 4))) X hSt hP hk0.1 10 (by decide) rfl k_f_X5_22 dX5_restart_78 ?_
        refine lv_iload_n X.1 X.2.1 dX5_restart_81 rfl (lv_at hl 1 rfl) ?_
        refine lv_iconst (v := 0) X.1 X.2.1 dX5_restart_82 (by decide) ?_
        obtain ⟨M5, eM5, hres⟩ := m_bd_e hres
        refine m_zs (j := x1.toNatClampNeg) X hSt hP hS hk0.2.2.2.2 hg2 rfl (by decide)  dX5_restart_83 eM5 (fun H locs hP hS => ?_)
        refine lv_iinc (v := (x1 + 1)) (lv' := [(1, .int (x1 + 1)), (0, .ref (m_ad G k0))]) X.1 X.2.1 dX5_restart_84 hl (k := 1) rfl rfl (by decide) rfl (fun ls hl => ?_)
        refine lv_goto (tgt := 58) X.1 X.2.1 dX5_restart_87 (by decide) ?_
        exact ih (x1 + 1) M5 _ _ _ hP hS (lv_sub hl [1, 0] rfl) hres
  have B37 : ∀ (u : Nat) (x1 : Int32) (M : m_M) (H : Heap) (locs : List Loc) (ls : Array Slot), m_P G M H → va_S (m_A G) s.heap H locs → lv_has ls 2 [(0, .ref (m_ad G k0)), (1, .int x1)] → f_X5_restart_b37 n k0 u x1 M = some M0 → W p l e (m_R 0 0) s m args below meth c H locs 0 0 (MQ below (m_Qv G M0) args s 0 0 (m_A G)) (F0 m 37 ls []) := by
    intro u
    induction u with
    | zero =>
      intro x1 M H locs ls hP hS hl hres
      cases hres
    | succ u ih =>
      intro x1 M H locs ls hP hS hl hres
      rw [f_X5_restart_b37] at hres
      refine lv_iload_n X.1 X.2.1 dX5_restart_37 rfl (lv_at hl 1 rfl) ?_
      refine lv_bipush (v := 10) X.1 X.2.1 dX5_restart_38 (by decide) ?_
      refine lv_icmp_ge (tgt := 56) X.1 X.2.1 dX5_restart_40 (by decide) (fun hc6 => ?_) (fun hc6 => ?_)
      · have hres := m_it hres hc6
        refine lv_iconst (v := 0) X.1 X.2.1 dX5_restart_56 (by decide) ?_
        refine lv_istore_n (lv' := [(1, .int 0), (0, .ref (m_ad G k0))]) X.1 X.2.1 dX5_restart_57 rfl hl (by decide) rfl (fun ls hl => ?_)
        exact B58 n 0 M _ _ _ hP hS (lv_sub hl [1, 0] rfl) hres
      · have hres := m_if hres hc6
        refine lv_aload_n X.1 X.2.1 dX5_restart_43 rfl (lv_at hl 0 rfl) ?_
        refine m_g5 (v := .ref (m_ad G (k0 + 2))) X hSt hP hk0.1 8 (by decide) rfl k_f_X5_15 dX5_restart_44 ?_
        refine lv_iload_n X.1 X.2.1 dX5_restart_47 rfl (lv_at hl 1 rfl) ?_
        refine lv_iconst (v := 0) X.1 X.2.1 dX5_restart_48 (by decide) ?_
        obtain ⟨hg7, hres⟩ := m_gd_e hres
        obtain ⟨M8, eM8, hres⟩ := m_bd_e hres
        refine m_is (j := x1.toNatClampNeg) X hSt hP hS hk0.2.2.1 hg7 rfl dX5_restart_49 eM8 (fun H locs hP hS => ?_)
        refine lv_iinc (v := (x1 + 1)) (lv' := [(1, .int (x1 + 1)), (0, .ref (m_ad G k0))]) X.1 X.2.1 dX5_restart_50 hl (k := 1) rfl rfl (by decide) rfl (fun ls hl => ?_)
        refine lv_goto (tgt := 37) X.1 X.2.1 dX5_restart_53 (by decide) ?_
        exact ih (x1 + 1) M8 _ _ _ hP hS (lv_sub hl [1, 0] rfl) hres
  unfold f_X5_restart at hres
  refine lv_aload_n X.1 X.2.1 dX5_restart_0 rfl (lv_at hl 0 rfl) ?_
  refine lv_iconst (v := (-1)) X.1 X.2.1 dX5_restart_1 (by decide) ?_
  obtain ⟨M9, eM9, hres⟩ := m_bd_e hres
  refine m_pi5 X hSt hP hS hk0.1 0 (by decide) eM9 rfl rfl (by decide) k_f_X5_25 dX5_restart_2 (fun H locs hP hS => ?_)
  refine lv_aload_n X.1 X.2.1 dX5_restart_5 rfl (lv_at hl 0 rfl) ?_
  refine lv_iconst (v := (-1)) X.1 X.2.1 dX5_restart_6 (by decide) ?_
  obtain ⟨M10, eM10, hres⟩ := m_bd_e hres
  refine m_pi5 X hSt hP hS hk0.1 1 (by decide) eM10 rfl rfl (by decide) k_f_X5_29 dX5_restart_7 (fun H locs hP hS => ?_)
  refine lv_aload_n X.1 X.2.1 dX5_restart_10 rfl (lv_at hl 0 rfl) ?_
  refine lv_iconst (v := 0) X.1 X.2.1 dX5_restart_11 (by decide) ?_
  obtain ⟨M11, eM11, hres⟩ := m_bd_e hres
  refine m_pi5 X hSt hP hS hk0.1 2 (by decide) eM11 rfl rfl (by decide) k_f_X5_32 dX5_restart_12 (fun H locs hP hS => ?_)
  refine lv_aload_n X.1 X.2.1 dX5_restart_15 rfl (lv_at hl 0 rfl) ?_
  refine lv_iconst (v := 0) X.1 X.2.1 dX5_restart_16 (by decide) ?_
  obtain ⟨M12, eM12, hres⟩ := m_bd_e hres
  refine m_pi5 X hSt hP hS hk0.1 3 (by decide) eM12 rfl rfl (by decide) k_f_X5_35 dX5_restart_17 (fun H locs hP hS => ?_)
  refine lv_aload_n X.1 X.2.1 dX5_restart_20 rfl (lv_at hl 0 rfl) ?_
  refine lv_iconst (v := 0) X.1 X.2.1 dX5_restart_21 (by decide) ?_
  obtain ⟨M13, eM13, hres⟩ := m_bd_e hres
  refine m_pi5 X hSt hP hS hk0.1 4 (by decide) eM13 rfl rfl (by decide) k_f_X5_38 dX5_restart_22 (fun H locs hP hS => ?_)
  refine lv_aload_n X.1 X.2.1 dX5_restart_25 rfl (lv_at hl 0 rfl) ?_
  refine lv_iconst (v := 0) X.1 X.2.1 dX5_restart_26 (by decide) ?_
  obtain ⟨M14, eM14, hres⟩ := m_bd_e hres
  refine m_pi5 X hSt hP hS hk0.1 5 (by decide) eM14 rfl rfl (by decide) k_f_X5_41 dX5_restart_27 (fun H locs hP hS => ?_)
  refine lv_aload_n X.1 X.2.1 dX5_restart_30 rfl (lv_at hl 0 rfl) ?_
  refine lv_iconst (v := 0) X.1 X.2.1 dX5_restart_31 (by decide) ?_
  obtain ⟨M15, eM15, hres⟩ := m_bd_e hres
  refine m_pi5 X hSt hP hS hk0.1 6 (by decide) eM15 rfl rfl (by decide) k_f_X5_44 dX5_restart_32 (fun H locs hP hS => ?_)
  refine lv_iconst (v := 0) X.1 X.2.1 dX5_restart_35 (by decide) ?_
  refine lv_istore_n (lv' := [(1, .int 0), (0, .ref (m_ad G k0))]) X.1 X.2.1 dX5_restart_36 rfl hl (by decide) rfl (fun ls hl => ?_)
  exact B37 n 0 M15 _ _ _ hP hS (lv_sub hl [1, 0] rfl) hres
