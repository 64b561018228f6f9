/-! WALKS 9: X8_isDeal X8_isDay X8_isAsked X8_isEarly X8_persons X8_inAll X8_secondOf X8_ownOf X8_isFigure X8_digits X8_stands X8_nameOf X8_rank X8_workOut X8_workDown -/
theorem dX8_isDeal_0 : decode cX8_isDeal 0 = .ok (.iload_n 1, 1) := by decide +kernel
theorem dX8_isDeal_1 : decode cX8_isDeal 1 = .ok (.i2l, 1) := by decide +kernel
theorem dX8_isDeal_2 : decode cX8_isDeal 2 = .ok (.lconst 0, 1) := by decide +kernel
theorem dX8_isDeal_3 : decode cX8_isDeal 3 = .ok (.aload_n 0, 1) := by decide +kernel
theorem dX8_isDeal_4 : decode cX8_isDeal 4 = .ok (.getfield 124, 3) := by decide +kernel
theorem dX8_isDeal_7 : decode cX8_isDeal 7 = .ok (.iconst 1, 1) := by decide +kernel
theorem dX8_isDeal_8 : decode cX8_isDeal 8 = .ok (.isub, 1) := by decide +kernel
theorem dX8_isDeal_9 : decode cX8_isDeal 9 = .ok (.i2l, 1) := by decide +kernel
theorem dX8_isDeal_10 : decode cX8_isDeal 10 = .ok (.invokestatic 111, 3) := by decide +kernel
theorem dX8_isDeal_13 : decode cX8_isDeal 13 = .ok (.ireturn, 1) := by decide +kernel
def f_X8_isDeal (x1 : Int32) (M : m_M) : Int32 :=
  m_bd (f_X8_isIn x1.toInt64 0 (((M.1 172 22) - (1 : Int32)).toInt64)) fun r1 =>
  r1
set_option maxHeartbeats 4000000 in
set_option maxRecDepth 100000 in
theorem c_X8_isDeal (l : Launch) (G : m_G) {x1 : Int32} {M : m_M} {r0 : Int32}  (hres : f_X8_isDeal x1 M = r0) : Met l yX8_isDeal (m_U yX8_isDeal cX8_isDeal 2 (some .boolean)) (m_R 1 25) (m_Pc G [.ref (m_ad G 172), .int x1] M) (m_Qz G r0 M) 0 0 (m_A G) := by
  refine m_i0 (n := 2) RX8 rfl (by decide) (Nat.le_of_ble_eq_true rfl) ?_
  intro p e s m args below meth c X hr hlk hSt hP hS ls hl
  have hl : lv_has ls 2 [(0, .ref (m_ad G 172)), (1, .int x1)] := hl
  unfold f_X8_isDeal at hres
  refine lv_iload_n X.1 X.2.1 dX8_isDeal_0 rfl (lv_at hl 1 rfl) ?_
  refine lv_i2l (v := x1.toInt64) X.1 X.2.1 dX8_isDeal_1 rfl ?_
  refine lv_lconst (v := 0) X.1 X.2.1 dX8_isDeal_2 (by decide) ?_
  refine lv_aload_n X.1 X.2.1 dX8_isDeal_3 rfl (lv_at hl 0 rfl) ?_
  refine m_g8 (v := .int (M.1 172 22)) X hSt hP m_z_172 22 (by decide) rfl k_f_X8_124 dX8_isDeal_4 ?_
  refine lv_iconst (v := 1) X.1 X.2.1 dX8_isDeal_7 (by decide) ?_
  refine lv_isub X.1 X.2.1 dX8_isDeal_8 ?_
  refine lv_i2l (v := ((M.1 172 22) - (1 : Int32)).toInt64) X.1 X.2.1 dX8_isDeal_9 rfl ?_
  obtain ⟨r1, err1, hres⟩ := m_bd_e hres
  refine m_bz (m_cS (n := 3) (As := [.long x1.toInt64, .long 0, .long (((M.1 172 22) - (1 : Int32)).toInt64)]) (rest := []) X hSt hP hS hl.1 (c_X8_isIn l G (M := M)  err1) k_c_yX8_isIn k_m_X8_111 k_t_yX8_isIn k_n_X8 (by decide +kernel) rfl rfl ⟨Nat.le_of_ble_eq_true rfl, Nat.le_of_ble_eq_true rfl⟩ (Nat.le_of_ble_eq_true rfl) ⟨Nat.zero_le _, Nat.zero_le _⟩ dX8_isDeal_10) hS (fun H locs hP hS hz2 => ?_)
  exact m_rz X hr hlk hP hS hres rfl hz2 dX8_isDeal_13
theorem dX8_isDay_0 : decode cX8_isDay 0 = .ok (.iload_n 0, 1) := by decide +kernel
theorem dX8_isDay_1 : decode cX8_isDay 1 = .ok (.i2l, 1) := by decide +kernel
theorem dX8_isDay_2 : decode cX8_isDay 2 = .ok (.lconst 0, 1) := by decide +kernel
theorem dX8_isDay_3 : decode cX8_isDay 3 = .ok (.ldc2_w 119, 3) := by decide +kernel
theorem dX8_isDay_6 : decode cX8_isDay 6 = .ok (.invokestatic 111, 3) := by decide +kernel
theorem dX8_isDay_9 : decode cX8_isDay 9 = .ok (.ireturn, 1) := by decide +kernel
def f_X8_isDay (x0 : Int32) : Int32 :=
  m_bd (f_X8_isIn x0.toInt64 0 999) fun r1 =>
  r1
set_option maxHeartbeats 4000000 in
set_option maxRecDepth 100000 in
theorem c_X8_isDay (l : Launch) (G : m_G) {x0 : Int32} {M : m_M} {r0 : Int32}  (hres : f_X8_isDay x0 = r0) : Met l yX8_isDay (m_U yX8_isDay cX8_isDay 1 (some .boolean)) (m_R 1 25) (m_Pc G [.int x0] M) (m_Qz G r0 M) 0 0 (m_A G) := by
  refine m_i0 (n := 1) RX8 rfl (by decide) (Nat.le_of_ble_eq_true rfl) ?_
  intro p e s m args below meth c X hr hlk hSt hP hS ls hl
  have hl : lv_has ls 1 [(0, .int x0)] := hl
  unfold f_X8_isDay at hres
  refine lv_iload_n X.1 X.2.1 dX8_isDay_0 rfl (lv_at hl 0 rfl) ?_
  refine lv_i2l (v := x0.toInt64) X.1 X.2.1 dX8_isDay_1 rfl ?_
  refine lv_lconst (v := 0) X.1 X.2.1 dX8_isDay_2 (by decide) ?_
  refine lv_ldc2 (v := 999) X.1 X.2.1 X.2.2.2.1 (X.2.2.2.2 _ k_l_X8_119) dX8_isDay_3 ?_
  obtain ⟨r1, err1, hres⟩ := m_bd_e hres
  refine m_bz (m_cS (n := 3) (As := [.long x0.toInt64, .long 0, .long 999]) (rest := []) X hSt hP hS hl.1 (c_X8_isIn l G (M := M)  err1) k_c_yX8_isIn k_m_X8_111 k_t_yX8_isIn k_n_X8 (by decide +kernel) rfl rfl ⟨Nat.le_of_ble_eq_true rfl, Nat.le_of_ble_eq_true rfl⟩ (Nat.le_of_ble_eq_true rfl) ⟨Nat.zero_le _, Nat.zero_le _⟩ dX8_isDay_6) hS (fun H locs hP hS hz2 => ?_)
  exact m_rz X hr hlk hP hS hres rfl hz2 dX8_isDay_9
theorem dX8_isAsked_0 : decode cX8_isAsked 0 = .ok (.aload_n 0, 1) := by decide +kernel
theorem dX8_isAsked_1 : decode cX8_isAsked 1 = .ok (.bipush 31, 2) := by decide +kernel
theorem dX8_isAsked_3 : decode cX8_isAsked 3 = .ok (.putfield 72, 3) := by decide +kernel
theorem dX8_isAsked_6 : decode cX8_isAsked 6 = .ok (.aload_n 0, 1) := by decide +kernel
theorem dX8_isAsked_7 : decode cX8_isAsked 7 = .ok (.sipush 999, 3) := by decide +kernel
theorem dX8_isAsked_10 : decode cX8_isAsked 10 = .ok (.invokevirtual 174, 3) := by decide +kernel
theorem dX8_isAsked_13 : decode cX8_isAsked 13 = .ok (.aload_n 0, 1) := by decide +kernel
theorem dX8_isAsked_14 : decode cX8_isAsked 14 = .ok (.iload_n 1, 1) := by decide +kernel
theorem dX8_isAsked_15 : decode cX8_isAsked 15 = .ok (.invokevirtual 158, 3) := by decide +kernel
theorem dX8_isAsked_18 : decode cX8_isAsked 18 = .ok (.ifCond .eq 14, 3) := by decide +kernel
theorem dX8_isAsked_21 : decode cX8_isAsked 21 = .ok (.iload_n 2, 1) := by decide +kernel
theorem dX8_isAsked_22 : decode cX8_isAsked 22 = .ok (.invokestatic 347, 3) := by decide +kernel
theorem dX8_isAsked_25 : decode cX8_isAsked 25 = .ok (.ifCond .eq 7, 3) := by decide +kernel
theorem dX8_isAsked_28 : decode cX8_isAsked 28 = .ok (.iconst 1, 1) := by decide +kernel
theorem dX8_isAsked_29 : decode cX8_isAsked 29 = .ok (.goto 4, 3) := by decide +kernel
theorem dX8_isAsked_32 : decode cX8_isAsked 32 = .ok (.iconst 0, 1) := by decide +kernel
theorem dX8_isAsked_33 : decode cX8_isAsked 33 = .ok (.ireturn, 1) := by decide +kernel
def f_X8_isAsked (n : Nat) (x1 : Int32) (x2 : Int32) (M : m_M) : Option (Int32 × m_M) :=
  m_bd (m_sI M 172 24 31) fun M1 =>
  m_ob (f_X8_layDay n 999 M1) fun M2 =>
  m_bd (f_X8_isDeal x1 M2) fun r3 =>
  if r3 = 0 then
  some (0, M2)
  else
  m_bd (f_X8_isDay x2) fun r6 =>
  if r6 = 0 then
  some (0, M2)
  else
  some (1, M2)
set_option maxHeartbeats 4000000 in
set_option maxRecDepth 100000 in
theorem c_X8_isAsked (l : Launch) (G : m_G) {n : Nat} {x1 : Int32} {x2 : Int32} {M : m_M} {r0 : Int32} {M0 : m_M}  (hres : f_X8_isAsked n x1 x2 M = some (r0, M0)) : Met l yX8_isAsked (m_U yX8_isAsked cX8_isAsked 3 (some .boolean)) (m_R 3 72) (m_Pc G [.ref (m_ad G 172), .int x1, .int x2] M) (m_Qz G r0 M0) 0 0 (m_A G) := by
  refine m_i0 (n := 3) RX8 rfl (by decide) (Nat.le_of_ble_eq_true rfl) ?_
  intro p e s m args below meth c X hr hlk hSt hP hS ls hl
  have hl : lv_has ls 3 [(0, .ref (m_ad G 172)), (1, .int x1), (2, .int x2)] := hl
  unfold f_X8_isAsked at hres
  refine lv_aload_n X.1 X.2.1 dX8_isAsked_0 rfl (lv_at hl 0 rfl) ?_
  refine lv_bipush (v := 31) X.1 X.2.1 dX8_isAsked_1 (by decide) ?_
  obtain ⟨M1, eM1, hres⟩ := m_bd_e hres
  refine m_pi8 X hSt hP hS m_z_172 24 (by decide) eM1 rfl rfl (by decide) k_f_X8_72 dX8_isAsked_3 (fun H locs hP hS => ?_)
  refine lv_aload_n X.1 X.2.1 dX8_isAsked_6 rfl (lv_at hl 0 rfl) ?_
  refine lv_sipush (v := 999) X.1 X.2.1 dX8_isAsked_7 (by decide) ?_
  obtain ⟨M2, eM2, hres⟩ := m_ob_e hres
  refine m_bv (m_cV (n := 1) (As := [.int 999]) (rest := []) X hSt hP hS hl.1 (c_X8_layDay l G  eM2) k_c_yX8_layDay k_m_X8_174 k_i_yX8_layDay k_s_yX8_layDay k_n_X8 (by decide +kernel) (m_rc8 hSt hP m_z_172) rfl rfl ⟨Nat.le_of_ble_eq_true rfl, Nat.le_of_ble_eq_true rfl⟩ (Nat.le_of_ble_eq_true rfl) ⟨Nat.zero_le _, Nat.zero_le _⟩ dX8_isAsked_10) hS (fun H locs hP hS => ?_)
  refine lv_aload_n X.1 X.2.1 dX8_isAsked_13 rfl (lv_at hl 0 rfl) ?_
  refine lv_iload_n X.1 X.2.1 dX8_isAsked_14 rfl (lv_at hl 1 rfl) ?_
  obtain ⟨r3, err3, hres⟩ := m_bd_e hres
  refine m_bz (m_cV (n := 1) (As := [.int x1]) (rest := []) X hSt hP hS hl.1 (c_X8_isDeal l G  err3) k_c_yX8_isDeal k_m_X8_158 k_i_yX8_isDeal k_s_yX8_isDeal k_n_X8 (by decide +kernel) (m_rc8 hSt hP m_z_172) rfl rfl ⟨Nat.le_of_ble_eq_true rfl, Nat.le_of_ble_eq_true rfl⟩ (Nat.le_of_ble_eq_true rfl) ⟨Nat.zero_le _, Nat.zero_le _⟩ dX8_isAsked_15) hS (fun H locs hP hS hz4 => ?_)
  refine lv_if_eq (tgt := 32) X.1 X.2.1 dX8_isAsked_18 (by decide) (fun hc5 => ?_) (fun hc5 => ?_)
  · have hres := m_it hres hc5
    refine lv_iconst (v := 0) X.1 X.2.1 dX8_isAsked_32 (by decide) ?_
    exact m_rz X hr hlk hP hS (Prod.mk.inj (Option.some.inj hres)).1 (Prod.mk.inj (Option.some.inj hres)).2 (by decide) dX8_isAsked_33
  · have hres := m_if hres hc5
    refine lv_iload_n X.1 X.2.1 dX8_isAsked_21 rfl (lv_at hl 2 rfl) ?_
    obtain ⟨r6, err6, hres⟩ := m_bd_e hres
    refine m_bz (m_cS (n := 1) (As := [.int x2]) (rest := []) X hSt hP hS hl.1 (c_X8_isDay l G (M := M2)  err6) k_c_yX8_isDay k_m_X8_347 k_t_yX8_isDay k_n_X8 (by decide +kernel) rfl rfl ⟨Nat.le_of_ble_eq_true rfl, Nat.le_of_ble_eq_true rfl⟩ (Nat.le_of_ble_eq_true rfl) ⟨Nat.zero_le _, Nat.zero_le _⟩ dX8_isAsked_22) hS (fun H locs hP hS hz7 => ?_)
    refine lv_if_eq (tgt := 32) X.1 X.2.1 dX8_isAsked_25 (by decide) (fun hc8 => ?_) (fun hc8 => ?_)
    · have hres := m_it hres hc8
      refine lv_iconst (v := 0) X.1 X.2.1 dX8_isAsked_32 (by decide) ?_
      exact m_rz X hr hlk hP hS (Prod.mk.inj (Option.some.inj hres)).1 (Prod.mk.inj (Option.some.inj hres)).2 (by decide) dX8_isAsked_33
    · have hres := m_if hres hc8
      refine lv_iconst (v := 1) X.1 X.2.1 dX8_isAsked_28 (by decide) ?_
      refine lv_goto (tgt := 33) X.1 X.2.1 dX8_isAsked_29 (by decide) ?_
      exact m_rz X hr hlk hP hS (Prod.mk.inj (Option.some.inj hres)).1 (Prod.mk.inj (Option.some.inj hres)).2 (by decide) dX8_isAsked_33
theorem dX8_isEarly_0 : decode cX8_isEarly 0 = .ok (.aload_n 0, 1) := by decide +kernel
theorem dX8_isEarly_1 : decode cX8_isEarly 1 = .ok (.aload_n 0, 1) := by decide +kernel
theorem dX8_isEarly_2 : decode cX8_isEarly 2 = .ok (.getfield 51, 3) := by decide +kernel
theorem dX8_isEarly_5 : decode cX8_isEarly 5 = .ok (.iload_n 1, 1) := by decide +kernel
theorem dX8_isEarly_6 : decode cX8_isEarly 6 = .ok (.iaload, 1) := by decide +kernel
theorem dX8_isEarly_7 : decode cX8_isEarly 7 = .ok (.iconst 0, 1) := by decide +kernel
theorem dX8_isEarly_8 : decode cX8_isEarly 8 = .ok (.invokevirtual 136, 3) := by decide +kernel
theorem dX8_isEarly_11 : decode cX8_isEarly 11 = .ok (.iload_n 2, 1) := by decide +kernel
theorem dX8_isEarly_12 : decode cX8_isEarly 12 = .ok (.if_icmp .le 7, 3) := by decide +kernel
theorem dX8_isEarly_15 : decode cX8_isEarly 15 = .ok (.iconst 1, 1) := by decide +kernel
theorem dX8_isEarly_16 : decode cX8_isEarly 16 = .ok (.goto 4, 3) := by decide +kernel
theorem dX8_isEarly_19 : decode cX8_isEarly 19 = .ok (.iconst 0, 1) := by decide +kernel
theorem dX8_isEarly_20 : decode cX8_isEarly 20 = .ok (.ireturn, 1) := by decide +kernel
def f_X8_isEarly (x1 : Int32) (x2 : Int32) (M : m_M) : Option Int32 :=
  m_gd (m_in x1 60) (
  m_ob (f_X8_of (M.1 185 x1.toNatClampNeg) 0 M) fun r2 =>
  if r2 ≤ x2 then
  some 0
  else
  some 1)
set_option maxHeartbeats 4000000 in
set_option maxRecDepth 100000 in
theorem c_X8_isEarly (l : Launch) (G : m_G) {x1 : Int32} {x2 : Int32} {M : m_M} {r0 : Int32}  (hres : f_X8_isEarly x1 x2 M = some r0) : Met l yX8_isEarly (m_U yX8_isEarly cX8_isEarly 3 (some .boolean)) (m_R 1 22) (m_Pc G [.ref (m_ad G 172), .int x1, .int x2] M) (m_Qz G r0 M) 0 0 (m_A G) := by
  refine m_i0 (n := 3) RX8 rfl (by decide) (Nat.le_of_ble_eq_true rfl) ?_
  intro p e s m args below meth c X hr hlk hSt hP hS ls hl
  have hl : lv_has ls 3 [(0, .ref (m_ad G 172)), (1, .int x1), (2, .int x2)] := hl
  unfold f_X8_isEarly at hres
  refine lv_aload_n X.1 X.2.1 dX8_isEarly_0 rfl (lv_at hl 0 rfl) ?_
  refine lv_aload_n X.1 X.2.1 dX8_isEarly_1 rfl (lv_at hl 0 rfl) ?_
  refine m_g8 (v := .ref (m_ad G 185)) X hSt hP m_z_172 15 (by decide) rfl k_f_X8_51 dX8_isEarly_2 ?_
  refine lv_iload_n X.1 X.2.1 dX8_isEarly_5 rfl (lv_at hl 1 rfl) ?_
  obtain ⟨hg1, hres⟩ := m_gd_e hres
  refine m_ia (j := x1.toNatClampNeg) X hSt hP m_z_185 hg1 rfl dX8_isEarly_6 ?_
  refine lv_iconst (v := 0) X.1 X.2.1 dX8_isEarly_7 (by decide) ?_
  obtain ⟨r2, err2, hres⟩ := m_ob_e hres
  refine m_bi (m_cV (n := 2) (As := [.int (M.1 185 x1.toNatClampNeg), .int 0]) (rest := []) X hSt hP hS hl.1 (c_X8_of l G  err2) k_c_yX8_of k_m_X8_136 k_i_yX8_of k_s_yX8_of k_n_X8 (by decide +kernel) (m_rc8 hSt hP m_z_172) rfl rfl ⟨Nat.le_of_ble_eq_true rfl, Nat.le_of_ble_eq_true rfl⟩ (Nat.le_of_ble_eq_true rfl) ⟨Nat.zero_le _, Nat.zero_le _⟩ dX8_isEarly_8) hS (fun H locs hP hS => ?_)
  refine lv_iload_n X.1 X.2.1 dX8_isEarly_11 rfl (lv_at hl 2 rfl) ?_
  refine lv_icmp_le (tgt := 19) X.1 X.2.1 dX8_isEarly_12 (by decide) (fun hc3 => ?_) (fun hc3 => ?_)
  · have hres := m_it hres hc3
    refine lv_iconst (v := 0) X.1 X.2.1 dX8_isEarly_19 (by decide) ?_
    exact m_rz X hr hlk hP hS (Option.some.inj hres) rfl (by decide) dX8_isEarly_20
  · have hres := m_if hres hc3
    refine lv_iconst (v := 1) X.1 X.2.1 dX8_isEarly_15 (by decide) ?_
    refine lv_goto (tgt := 20) X.1 X.2.1 dX8_isEarly_16 (by decide) ?_
    exact m_rz X hr hlk hP hS (Option.some.inj hres) rfl (by decide) dX8_isEarly_20
theorem dX8_persons_0 : decode cX8_persons 0 = .ok (.aload_n 0, 1) := by decide +kernel
theorem dX8_persons_1 : decode cX8_persons 1 = .ok (.getfield 7, 3) := by decide +kernel
theorem dX8_persons_4 : decode cX8_persons 4 = .ok (.sipush 468, 3) := by decide +kernel
theorem dX8_persons_7 : decode cX8_persons 7 = .ok (.iaload, 1) := by decide +kernel
theorem dX8_persons_8 : decode cX8_persons 8 = .ok (.ireturn, 1) := by decide +kernel
def f_X8_persons (M : m_M) : Int32 :=
  (M.1 173 468)
set_option maxHeartbeats 4000000 in
set_option maxRecDepth 100000 in
theorem c_X8_persons (l : Launch) (G : m_G) {M : m_M} {r0 : Int32}  (hres : f_X8_persons M = r0) : Met l yX8_persons (m_U yX8_persons cX8_persons 1 (some .int)) (m_R 0 0) (m_Pc G [.ref (m_ad G 172)] M) (m_Qi G r0 M) 0 0 (m_A G) := by
  refine m_i0 (n := 1) RX8 rfl (by decide) (Nat.le_of_ble_eq_true rfl) ?_
  intro p e s m args below meth c X hr hlk hSt hP hS ls hl
  have hl : lv_has ls 1 [(0, .ref (m_ad G 172))] := hl
  unfold f_X8_persons at hres
  refine lv_aload_n X.1 X.2.1 dX8_persons_0 rfl (lv_at hl 0 rfl) ?_
  refine m_g8 (v := .ref (m_ad G 173)) X hSt hP m_z_172 0 (by decide) rfl k_f_X8_7 dX8_persons_1 ?_
  refine lv_sipush (v := 468) X.1 X.2.1 dX8_persons_4 (by decide) ?_
  refine m_ia (j := 468) X hSt hP m_z_173 (by decide +kernel) (by decide +kernel) dX8_persons_7 ?_
  exact m_ri X hr hlk hP hS hres rfl dX8_persons_8
theorem dX8_inAll_0 : decode cX8_inAll 0 = .ok (.aload_n 0, 1) := by decide +kernel
theorem dX8_inAll_1 : decode cX8_inAll 1 = .ok (.getfield 39, 3) := by decide +kernel
theorem dX8_inAll_4 : decode cX8_inAll 4 = .ok (.iconst 4, 1) := by decide +kernel
theorem dX8_inAll_5 : decode cX8_inAll 5 = .ok (.iload_n 1, 1) := by decide +kernel
theorem dX8_inAll_6 : decode cX8_inAll 6 = .ok (.imul, 1) := by decide +kernel
theorem dX8_inAll_7 : decode cX8_inAll 7 = .ok (.iaload, 1) := by decide +kernel
theorem dX8_inAll_8 : decode cX8_inAll 8 = .ok (.aload_n 0, 1) := by decide +kernel
theorem dX8_inAll_9 : decode cX8_inAll 9 = .ok (.getfield 39, 3) := by decide +kernel
theorem dX8_inAll_12 : decode cX8_inAll 12 = .ok (.iconst 4, 1) := by decide +kernel
theorem dX8_inAll_13 : decode cX8_inAll 13 = .ok (.iload_n 1, 1) := by decide +kernel
theorem dX8_inAll_14 : decode cX8_inAll 14 = .ok (.imul, 1) := by decide +kernel
theorem dX8_inAll_15 : decode cX8_inAll 15 = .ok (.iconst 1, 1) := by decide +kernel
theorem dX8_inAll_16 : decode cX8_inAll 16 = .ok (.iadd, 1) := by decide +kernel
theorem dX8_inAll_17 : decode cX8_inAll 17 = .ok (.iaload, 1) := by decide +kernel
theorem dX8_inAll_18 : decode cX8_inAll 18 = .ok (.iadd, 1) := by decide +kernel
theorem dX8_inAll_19 : decode cX8_inAll 19 = .ok (.aload_n 0, 1) := by decide +kernel
theorem dX8_inAll_20 : decode cX8_inAll 20 = .ok (.getfield 39, 3) := by decide +kernel
theorem dX8_inAll_23 : decode cX8_inAll 23 = .ok (.iconst 4, 1) := by decide +kernel
theorem dX8_inAll_24 : decode cX8_inAll 24 = .ok (.iload_n 1, 1) := by decide +kernel
theorem dX8_inAll_25 : decode cX8_inAll 25 = .ok (.imul, 1) := by decide +kernel
theorem dX8_inAll_26 : decode cX8_inAll 26 = .ok (.iconst 2, 1) := by decide +kernel
theorem dX8_inAll_27 : decode cX8_inAll 27 = .ok (.iadd, 1) := by decide +kernel
theorem dX8_inAll_28 : decode cX8_inAll 28 = .ok (.iaload, 1) := by decide +kernel
theorem dX8_inAll_29 : decode cX8_inAll 29 = .ok (.iadd, 1) := by decide +kernel
theorem dX8_inAll_30 : decode cX8_inAll 30 = .ok (.aload_n 0, 1) := by decide +kernel
theorem dX8_inAll_31 : decode cX8_inAll 31 = .ok (.getfield 39, 3) := by decide +kernel
theorem dX8_inAll_34 : decode cX8_inAll 34 = .ok (.iconst 4, 1) := by decide +kernel
theorem dX8_inAll_35 : decode cX8_inAll 35 = .ok (.iload_n 1, 1) := by decide +kernel
theorem dX8_inAll_36 : decode cX8_inAll 36 = .ok (.imul, 1) := by decide +kernel
theorem dX8_inAll_37 : decode cX8_inAll 37 = .ok (.iconst 3, 1) := by decide +kernel
theorem dX8_inAll_38 : decode cX8_inAll 38 = .ok (.iadd, 1) := by decide +kernel
theorem dX8_inAll_39 : decode cX8_inAll 39 = .ok (.iaload, 1) := by decide +kernel
theorem dX8_inAll_40 : decode cX8_inAll 40 = .ok (.iadd, 1) := by decide +kernel
theorem dX8_inAll_41 : decode cX8_inAll 41 = .ok (.ireturn, 1) := by decide +kernel
def f_X8_inAll (x1 : Int32) (M : m_M) : Option Int32 :=
  m_gd (m_in ((4 : Int32) * x1) 40) (
  m_gd (m_in (((4 : Int32) * x1) + (1 : Int32)) 40) (
  m_gd (m_in (((4 : Int32) * x1) + (2 : Int32)) 40) (
  m_gd (m_in (((4 : Int32) * x1) + (3 : Int32)) 40) (
  some ((((M.1 181 (((4 : Int32) * x1).toNatClampNeg)) + (M.1 181 ((((4 : Int32) * x1) + (1 : Int32)).toNatClampNeg))) + (M.1 181 ((((4 : Int32) * x1) + (2 : Int32)).toNatClampNeg))) + (M.1 181 ((((4 : Int32) * x1) + (3 : Int32)).toNatClampNeg)))))))
set_option maxHeartbeats 4000000 in
set_option maxRecDepth 100000 in
theorem c_X8_inAll (l : Launch) (G : m_G) {x1 : Int32} {M : m_M} {r0 : Int32}  (hres : f_X8_inAll x1 M = some r0) : Met l yX8_inAll (m_U yX8_inAll cX8_inAll 2 (some .int)) (m_R 0 0) (m_Pc G [.ref (m_ad G 172), .int x1] M) (m_Qi G r0 M) 0 0 (m_A G) := by
  refine m_i0 (n := 2) RX8 rfl (by decide) (Nat.le_of_ble_eq_true rfl) ?_
  intro p e s m args below meth c X hr hlk hSt hP hS ls hl
  have hl : lv_has ls 2 [(0, .ref (m_ad G 172)), (1, .int x1)] := hl
  unfold f_X8_inAll at hres
  refine lv_aload_n X.1 X.2.1 dX8_inAll_0 rfl (lv_at hl 0 rfl) ?_
  refine m_g8 (v := .ref (m_ad G 181)) X hSt hP m_z_172 11 (by decide) rfl k_f_X8_39 dX8_inAll_1 ?_
  refine lv_iconst (v := 4) X.1 X.2.1 dX8_inAll_4 (by decide) ?_
  refine lv_iload_n X.1 X.2.1 dX8_inAll_5 rfl (lv_at hl 1 rfl) ?_
  refine lv_imul X.1 X.2.1 dX8_inAll_6 ?_
  obtain ⟨hg1, hres⟩ := m_gd_e hres
  refine m_ia (j := (((4 : Int32) * x1).toNatClampNeg)) X hSt hP m_z_181 hg1 rfl dX8_inAll_7 ?_
  refine lv_aload_n X.1 X.2.1 dX8_inAll_8 rfl (lv_at hl 0 rfl) ?_
  refine m_g8 (v := .ref (m_ad G 181)) X hSt hP m_z_172 11 (by decide) rfl k_f_X8_39 dX8_inAll_9 ?_
  refine lv_iconst (v := 4) X.1 X.2.1 dX8_inAll_12 (by decide) ?_
  refine lv_iload_n X.1 X.2.1 dX8_inAll_13 rfl (lv_at hl 1 rfl) ?_
  refine lv_imul X.1 X.2.1 dX8_inAll_14 ?_
  refine lv_iconst (v := 1) X.1 X.2.1 dX8_inAll_15 (by decide) ?_
  refine lv_iadd X.1 X.2.1 dX8_inAll_16 ?_
  obtain ⟨hg2, hres⟩ := m_gd_e hres
  refine m_ia (j := ((((4 : Int32) * x1) + (1 : Int32)).toNatClampNeg)) X hSt hP m_z_181 hg2 rfl dX8_inAll_17 ?_
  refine lv_iadd X.1 X.2.1 dX8_inAll_18 ?_
  refine lv_aload_n X.1 X.2.1 dX8_inAll_19 rfl (lv_at hl 0 rfl) ?_
  refine m_g8 (v := .ref (m_ad G 181)) X hSt hP m_z_172 11 (by decide) rfl k_f_X8_39 dX8_inAll_20 ?_
  refine lv_iconst (v := 4) X.1 X.2.1 dX8_inAll_23 (by decide) ?_
  refine lv_iload_n X.1 X.2.1 dX8_inAll_24 rfl (lv_at hl 1 rfl) ?_
  refine lv_imul X.1 X.2.1 dX8_inAll_25 ?_
  refine lv_iconst (v := 2) X.1 X.2.1 dX8_inAll_26 (by decide) ?_
  refine lv_iadd X.1 X.2.1 dX8_inAll_27 ?_
  obtain ⟨hg3, hres⟩ := m_gd_e hres
  refine m_ia (j := ((((4 : Int32) * x1) + (2 : Int32)).toNatClampNeg)) X hSt hP m_z_181 hg3 rfl dX8_inAll_28 ?_
  refine lv_iadd X.1 X.2.1 dX8_inAll_29 ?_
  refine lv_aload_n X.1 X.2.1 dX8_inAll_30 rfl (lv_at hl 0 rfl) ?_
  refine m_g8 (v := .ref (m_ad G 181)) X hSt hP m_z_172 11 (by decide) rfl k_f_X8_39 dX8_inAll_31 ?_
  refine lv_iconst (v := 4) X.1 X.2.1 dX8_inAll_34 (by decide) ?_
  refine lv_iload_n X.1 X.2.1 dX8_inAll_35 rfl (lv_at hl 1 rfl) ?_
  refine lv_imul X.1 X.2.1 dX8_inAll_36 ?_
  refine lv_iconst (v := 3) X.1 X.2.1 dX8_inAll_37 (by decide) ?_
  refine lv_iadd X.1 X.2.1 dX8_inAll_38 ?_
  obtain ⟨hg4, hres⟩ := m_gd_e hres
  refine m_ia (j := ((((4 : Int32) * x1) + (3 : Int32)).toNatClampNeg)) X hSt hP m_z_181 hg4 rfl dX8_inAll_39 ?_
  refine lv_iadd X.1 X.2.1 dX8_inAll_40 ?_
  exact m_ri X hr hlk hP hS (Option.some.inj hres) rfl dX8_inAll_41
theorem dX8_secondOf_0 : decode cX8_secondOf 0 = .ok (.iconst 0, 1) := by decide +kernel
theorem dX8_secondOf_1 : decode cX8_secondOf 1 = .ok (.istore_n 2, 1) := by decide +kernel
theorem dX8_secondOf_2 : decode cX8_secondOf 2 = .ok (.iconst 0, 1) := by decide +kernel
theorem dX8_secondOf_3 : decode cX8_secondOf 3 = .ok (.istore_n 3, 1) := by decide +kernel
theorem dX8_secondOf_4 : decode cX8_secondOf 4 = .ok (.iload_n 3, 1) := by decide +kernel
theorem dX8_secondOf_5 : decode cX8_secondOf 5 = .ok (.aload_n 0, 1) := by decide +kernel
theorem dX8_secondOf_6 : decode cX8_secondOf 6 = .ok (.invokevirtual 107, 3) := by decide +kernel
theorem dX8_secondOf_9 : decode cX8_secondOf 9 = .ok (.if_icmp .ge 32, 3) := by decide +kernel
theorem dX8_secondOf_12 : decode cX8_secondOf 12 = .ok (.iload_n 2, 1) := by decide +kernel
theorem dX8_secondOf_13 : decode cX8_secondOf 13 = .ok (.aload_n 0, 1) := by decide +kernel
theorem dX8_secondOf_14 : decode cX8_secondOf 14 = .ok (.getfield 27, 3) := by decide +kernel
theorem dX8_secondOf_17 : decode cX8_secondOf 17 = .ok (.iload_n 3, 1) := by decide +kernel
theorem dX8_secondOf_18 : decode cX8_secondOf 18 = .ok (.iaload, 1) := by decide +kernel
theorem dX8_secondOf_19 : decode cX8_secondOf 19 = .ok (.iload_n 1, 1) := by decide +kernel
theorem dX8_secondOf_20 : decode cX8_secondOf 20 = .ok (.if_icmp .ne 12, 3) := by decide +kernel
theorem dX8_secondOf_23 : decode cX8_secondOf 23 = .ok (.aload_n 0, 1) := by decide +kernel
theorem dX8_secondOf_24 : decode cX8_secondOf 24 = .ok (.getfield 86, 3) := by decide +kernel
theorem dX8_secondOf_27 : decode cX8_secondOf 27 = .ok (.iload_n 3, 1) := by decide +kernel
theorem dX8_secondOf_28 : decode cX8_secondOf 28 = .ok (.iaload, 1) := by decide +kernel
theorem dX8_secondOf_29 : decode cX8_secondOf 29 = .ok (.goto 4, 3) := by decide +kernel
theorem dX8_secondOf_32 : decode cX8_secondOf 32 = .ok (.iconst 0, 1) := by decide +kernel
theorem dX8_secondOf_33 : decode cX8_secondOf 33 = .ok (.iadd, 1) := by decide +kernel
theorem dX8_secondOf_34 : decode cX8_secondOf 34 = .ok (.istore_n 2, 1) := by decide +kernel
theorem dX8_secondOf_35 : decode cX8_secondOf 35 = .ok (.iinc 3 1, 3) := by decide +kernel
theorem dX8_secondOf_38 : decode cX8_secondOf 38 = .ok (.goto (-34), 3) := by decide +kernel
theorem dX8_secondOf_41 : decode cX8_secondOf 41 = .ok (.iload_n 2, 1) := by decide +kernel
theorem dX8_secondOf_42 : decode cX8_secondOf 42 = .ok (.ireturn, 1) := by decide +kernel
def f_X8_secondOf_b4 (n : Nat) (x1 : Int32) (M : m_M) : Nat → Int32 → Int32 → Option Int32
  | 0, _, _ => none
  | u + 1, x2, x3 =>
    m_bd (f_X8_persons M) fun r1 =>
  if r1 ≤ x3 then
  some x2
  else
  m_gd (m_in x3 10) (
  if (M.1 177 x3.toNatClampNeg) = x1 then
  f_X8_secondOf_b4 n x1 M u (x2 + (M.1 195 x3.toNatClampNeg)) (x3 + 1)
  else
  f_X8_secondOf_b4 n x1 M u (x2 + (0 : Int32)) (x3 + 1))
def f_X8_secondOf (n : Nat) (x1 : Int32) (M : m_M) : Option Int32 :=
  f_X8_secondOf_b4 n x1 M n 0 0
set_option maxHeartbeats 4000000 in
set_option maxRecDepth 100000 in
theorem c_X8_secondOf (l : Launch) (G : m_G) {n : Nat} {x1 : Int32} {M : m_M} {r0 : Int32}  (hres : f_X8_secondOf n x1 M = some r0) : Met l yX8_secondOf (m_U yX8_secondOf cX8_secondOf 4 (some .int)) (m_R 1 20) (m_Pc G [.ref (m_ad G 172), .int x1] M) (m_Qi G r0 M) 0 0 (m_A G) := by
  refine m_i0 (n := 4) RX8 rfl (by decide) (Nat.le_of_ble_eq_true rfl) ?_
  intro p e s m args below meth c X hr hlk hSt hP hS ls hl
  have hl : lv_has ls 4 [(0, .ref (m_ad G 172)), (1, .int x1)] := hl
  have B4 : ∀ (u : Nat) (x2 : Int32) (x3 : Int32) (H : Heap) (locs : List Loc) (ls : Array Slot), m_P G M H → va_S (m_A G) s.heap H locs → lv_has ls 4 [(0, .ref (m_ad G 172)), (1, .int x1), (2, .int x2), (3, .int x3)] → f_X8_secondOf_b4 n x1 M u x2 x3 = some r0 → W p l e (m_R 1 20) s m args below meth c H locs 0 0 (MQ below (m_Qi G r0 M) args s 0 0 (m_A G)) (F0 m 4 ls []) := by
    intro u
    induction u with
    | zero =>
      intro x2 x3 H locs ls hP hS hl hres
      cases hres
    | succ u ih =>
      intro x2 x3 H locs ls hP hS hl hres
      rw [f_X8_secondOf_b4] at hres
      refine lv_iload_n X.1 X.2.1 dX8_secondOf_4 rfl (lv_at hl 3 rfl) ?_
      refine lv_aload_n X.1 X.2.1 dX8_secondOf_5 rfl (lv_at hl 0 rfl) ?_
      obtain ⟨r1, err1, hres⟩ := m_bd_e hres
      refine m_bi (m_cV (n := 0) (As := []) (rest := [.int x3]) X hSt hP hS hl.1 (c_X8_persons l G  err1) k_c_yX8_persons k_m_X8_107 k_i_yX8_persons k_s_yX8_persons k_n_X8 (by decide +kernel) (m_rc8 hSt hP m_z_172) rfl rfl ⟨Nat.le_of_ble_eq_true rfl, Nat.le_of_ble_eq_true rfl⟩ (Nat.le_of_ble_eq_true rfl) ⟨Nat.zero_le _, Nat.zero_le _⟩ dX8_secondOf_6) hS (fun H locs hP hS => ?_)
      refine lv_icmp_ge (tgt := 41) X.1 X.2.1 dX8_secondOf_9 (by decide) (fun hc2 => ?_) (fun hc2 => ?_)
      · have hres := m_it hres hc2
        refine lv_iload_n X.1 X.2.1 dX8_secondOf_41 rfl (lv_at hl 2 rfl) ?_
        exact m_ri X hr hlk hP hS (Option.some.inj hres) rfl dX8_secondOf_42
      · have hres := m_if hres hc2
        refine lv_iload_n X.1 X.2.1 dX8_secondOf_12 rfl (lv_at hl 2 rfl) ?_
        refine lv_aload_n X.1 X.2.1 dX8_secondOf_13 rfl (lv_at hl 0 rfl) ?_
        refine m_g8 (v := .ref (m_ad G 177)) X hSt hP m_z_172 7 (by decide) rfl k_f_X8_27 dX8_secondOf_14 ?_
        refine lv_iload_n X.1 X.2.1 dX8_secondOf_17 rfl (lv_at hl 3 rfl) ?_
        obtain ⟨hg3, hres⟩ := m_gd_e hres
        refine m_ia (j := x3.toNatClampNeg) X hSt hP m_z_177 hg3 rfl dX8_secondOf_18 ?_
        refine lv_iload_n X.1 X.2.1 dX8_secondOf_19 rfl (lv_at hl 1 rfl) ?_
        refine lv_icmp_ne (tgt := 32) X.1 X.2.1 dX8_secondOf_20 (by decide) (fun hc4 => ?_) (fun hc4 => ?_)
        · have hres := m_if hres hc4
          refine lv_iconst (v := 0) X.1 X.2.1 dX8_secondOf_32 (by decide) ?_
          refine lv_iadd X.1 X.2.1 dX8_secondOf_33 ?_
          refine lv_istore_n (lv' := [(2, .int (x2 + (0 : Int32))), (0, .ref (m_ad G 172)), (1, .int x1), (3, .int x3)]) X.1 X.2.1 dX8_secondOf_34 rfl hl (by decide) rfl (fun ls hl => ?_)
          refine lv_iinc (v := (x3 + 1)) (lv' := [(3, .int (x3 + 1)), (2, .int (x2 + (0 : Int32))), (0, .ref (m_ad G 172)), (1, .int x1)]) X.1 X.2.1 dX8_secondOf_35 hl (k := 3) rfl rfl (by decide) rfl (fun ls hl => ?_)
          refine lv_goto (tgt := 4) X.1 X.2.1 dX8_secondOf_38 (by decide) ?_
          exact ih (x2 + (0 : Int32)) (x3 + 1) _ _ _ hP hS (lv_sub hl [2, 3, 1, 0] rfl) hres
        · have hres := m_it hres hc4
          refine lv_aload_n X.1 X.2.1 dX8_secondOf_23 rfl (lv_at hl 0 rfl) ?_
          refine m_g8 (v := .ref (m_ad G 195)) X hSt hP m_z_172 45 (by decide) rfl k_f_X8_86 dX8_secondOf_24 ?_
          refine lv_iload_n X.1 X.2.1 dX8_secondOf_27 rfl (lv_at hl 3 rfl) ?_
          refine m_ia (j := x3.toNatClampNeg) X hSt hP m_z_195 hg3 rfl dX8_secondOf_28 ?_
          refine lv_goto (tgt := 33) X.1 X.2.1 dX8_secondOf_29 (by decide) ?_
          refine lv_iadd X.1 X.2.1 dX8_secondOf_33 ?_
          refine lv_istore_n (lv' := [(2, .int (x2 + (M.1 195 x3.toNatClampNeg))), (0, .ref (m_ad G 172)), (1, .int x1), (3, .int x3)]) X.1 X.2.1 dX8_secondOf_34 rfl hl (by decide) rfl (fun ls hl => ?_)
          refine lv_iinc (v := (x3 + 1)) (lv' := [(3, .int (x3 + 1)), (2, .int (x2 + (M.1 195 x3.toNatClampNeg))), (0, .ref (m_ad G 172)), (1, .int x1)]) X.1 X.2.1 dX8_secondOf_35 hl (k := 3) rfl rfl (by decide) rfl (fun ls hl => ?_)
          refine lv_goto (tgt := 4) X.1 X.2.1 dX8_secondOf_38 (by decide) ?_
          exact ih (x2 + (M.1 195 x3.toNatClampNeg)) (x3 + 1) _ _ _ hP hS (lv_sub hl [2, 3, 1, 0] rfl) hres
  unfold f_X8_secondOf at hres
  refine lv_iconst (v := 0) X.1 X.2.1 dX8_secondOf_0 (by decide) ?_
  refine lv_istore_n (lv' := [(2, .int 0), (0, .ref (m_ad G 172)), (1, .int x1)]) X.1 X.2.1 dX8_secondOf_1 rfl hl (by decide) rfl (fun ls hl => ?_)
  refine lv_iconst (v := 0) X.1 X.2.1 dX8_secondOf_2 (by decide) ?_
  refine lv_istore_n (lv' := [(3, .int 0), (2, .int 0), (0, .ref (m_ad G 172)), (1, .int x1)]) X.1 X.2.1 dX8_secondOf_3 rfl hl (by decide) rfl (fun ls hl => ?_)
  exact B4 n 0 0 _ _ _ hP hS (lv_sub hl [2, 3, 1, 0] rfl) hres
theorem dX8_ownOf_0 : decode cX8_ownOf 0 = .ok (.aload_n 0, 1) := by decide +kernel
theorem dX8_ownOf_1 : decode cX8_ownOf 1 = .ok (.getfield 27, 3) := by decide +kernel
theorem dX8_ownOf_4 : decode cX8_ownOf 4 = .ok (.iload_n 1, 1) := by decide +kernel
theorem dX8_ownOf_5 : decode cX8_ownOf 5 = .ok (.iaload, 1) := by decide +kernel
theorem dX8_ownOf_6 : decode cX8_ownOf 6 = .ok (.istore_n 3, 1) := by decide +kernel
theorem dX8_ownOf_7 : decode cX8_ownOf 7 = .ok (.iload_n 3, 1) := by decide +kernel
theorem dX8_ownOf_8 : decode cX8_ownOf 8 = .ok (.iconst (-1), 1) := by decide +kernel
theorem dX8_ownOf_9 : decode cX8_ownOf 9 = .ok (.if_icmp .ne 5, 3) := by decide +kernel
theorem dX8_ownOf_12 : decode cX8_ownOf 12 = .ok (.iconst 0, 1) := by decide +kernel
theorem dX8_ownOf_13 : decode cX8_ownOf 13 = .ok (.ireturn, 1) := by decide +kernel
theorem dX8_ownOf_14 : decode cX8_ownOf 14 = .ok (.iconst 0, 1) := by decide +kernel
theorem dX8_ownOf_15 : decode cX8_ownOf 15 = .ok (.istore 4, 2) := by decide +kernel
theorem dX8_ownOf_17 : decode cX8_ownOf 17 = .ok (.iconst 0, 1) := by decide +kernel
theorem dX8_ownOf_18 : decode cX8_ownOf 18 = .ok (.istore 5, 2) := by decide +kernel
theorem dX8_ownOf_20 : decode cX8_ownOf 20 = .ok (.iload 5, 2) := by decide +kernel
theorem dX8_ownOf_22 : decode cX8_ownOf 22 = .ok (.aload_n 0, 1) := by decide +kernel
theorem dX8_ownOf_23 : decode cX8_ownOf 23 = .ok (.invokevirtual 107, 3) := by decide +kernel
theorem dX8_ownOf_26 : decode cX8_ownOf 26 = .ok (.if_icmp .ge 77, 3) := by decide +kernel
theorem dX8_ownOf_29 : decode cX8_ownOf 29 = .ok (.iload_n 2, 1) := by decide +kernel
theorem dX8_ownOf_30 : decode cX8_ownOf 30 = .ok (.ifCond .ne 17, 3) := by decide +kernel
theorem dX8_ownOf_33 : decode cX8_ownOf 33 = .ok (.iload 5, 2) := by decide +kernel
theorem dX8_ownOf_35 : decode cX8_ownOf 35 = .ok (.iload_n 3, 1) := by decide +kernel
theorem dX8_ownOf_36 : decode cX8_ownOf 36 = .ok (.if_icmp .ne 7, 3) := by decide +kernel
theorem dX8_ownOf_39 : decode cX8_ownOf 39 = .ok (.iconst 1, 1) := by decide +kernel
theorem dX8_ownOf_40 : decode cX8_ownOf 40 = .ok (.goto 29, 3) := by decide +kernel
theorem dX8_ownOf_43 : decode cX8_ownOf 43 = .ok (.iconst 0, 1) := by decide +kernel
theorem dX8_ownOf_44 : decode cX8_ownOf 44 = .ok (.goto 25, 3) := by decide +kernel
theorem dX8_ownOf_47 : decode cX8_ownOf 47 = .ok (.aload_n 0, 1) := by decide +kernel
theorem dX8_ownOf_48 : decode cX8_ownOf 48 = .ok (.getfield 27, 3) := by decide +kernel
theorem dX8_ownOf_51 : decode cX8_ownOf 51 = .ok (.iload 5, 2) := by decide +kernel
theorem dX8_ownOf_53 : decode cX8_ownOf 53 = .ok (.iaload, 1) := by decide +kernel
theorem dX8_ownOf_54 : decode cX8_ownOf 54 = .ok (.iload_n 3, 1) := by decide +kernel
theorem dX8_ownOf_55 : decode cX8_ownOf 55 = .ok (.if_icmp .ne 13, 3) := by decide +kernel
theorem dX8_ownOf_58 : decode cX8_ownOf 58 = .ok (.iload 5, 2) := by decide +kernel
theorem dX8_ownOf_60 : decode cX8_ownOf 60 = .ok (.iload_n 1, 1) := by decide +kernel
theorem dX8_ownOf_61 : decode cX8_ownOf 61 = .ok (.if_icmp .eq 7, 3) := by decide +kernel
theorem dX8_ownOf_64 : decode cX8_ownOf 64 = .ok (.iconst 1, 1) := by decide +kernel
theorem dX8_ownOf_65 : decode cX8_ownOf 65 = .ok (.goto 4, 3) := by decide +kernel
theorem dX8_ownOf_68 : decode cX8_ownOf 68 = .ok (.iconst 0, 1) := by decide +kernel
theorem dX8_ownOf_69 : decode cX8_ownOf 69 = .ok (.istore 6, 2) := by decide +kernel
theorem dX8_ownOf_71 : decode cX8_ownOf 71 = .ok (.iload 4, 2) := by decide +kernel
theorem dX8_ownOf_73 : decode cX8_ownOf 73 = .ok (.iload 6, 2) := by decide +kernel
theorem dX8_ownOf_75 : decode cX8_ownOf 75 = .ok (.ifCond .eq 18, 3) := by decide +kernel
theorem dX8_ownOf_78 : decode cX8_ownOf 78 = .ok (.aload_n 0, 1) := by decide +kernel
theorem dX8_ownOf_79 : decode cX8_ownOf 79 = .ok (.getfield 48, 3) := by decide +kernel
theorem dX8_ownOf_82 : decode cX8_ownOf 82 = .ok (.bipush 10, 2) := by decide +kernel
theorem dX8_ownOf_84 : decode cX8_ownOf 84 = .ok (.iload_n 1, 1) := by decide +kernel
theorem dX8_ownOf_85 : decode cX8_ownOf 85 = .ok (.imul, 1) := by decide +kernel
theorem dX8_ownOf_86 : decode cX8_ownOf 86 = .ok (.iload 5, 2) := by decide +kernel
theorem dX8_ownOf_88 : decode cX8_ownOf 88 = .ok (.iadd, 1) := by decide +kernel
theorem dX8_ownOf_89 : decode cX8_ownOf 89 = .ok (.iaload, 1) := by decide +kernel
theorem dX8_ownOf_90 : decode cX8_ownOf 90 = .ok (.goto 4, 3) := by decide +kernel
theorem dX8_ownOf_93 : decode cX8_ownOf 93 = .ok (.iconst 0, 1) := by decide +kernel
theorem dX8_ownOf_94 : decode cX8_ownOf 94 = .ok (.iadd, 1) := by decide +kernel
theorem dX8_ownOf_95 : decode cX8_ownOf 95 = .ok (.istore 4, 2) := by decide +kernel
theorem dX8_ownOf_97 : decode cX8_ownOf 97 = .ok (.iinc 5 1, 3) := by decide +kernel
theorem dX8_ownOf_100 : decode cX8_ownOf 100 = .ok (.goto (-80), 3) := by decide +kernel
theorem dX8_ownOf_103 : decode cX8_ownOf 103 = .ok (.iload 4, 2) := by decide +kernel
theorem dX8_ownOf_105 : decode cX8_ownOf 105 = .ok (.ireturn, 1) := by decide +kernel
def f_X8_ownOf_b69 (n : Nat) (x1 : Int32) (x2 : Int32) (M : m_M) (q20 : Int32 → Int32 → Int32 → Option Int32) (x3 : Int32) (x4 : Int32) (x5 : Int32) (s0 : Int32) : Option Int32 :=
  if s0 = 0 then
  q20 x3 (x4 + (0 : Int32)) (x5 + 1)
  else
  m_gd (m_in (((10 : Int32) * x1) + x5) 100) (
  m_bd (x4 + (M.1 184 ((((10 : Int32) * x1) + x5).toNatClampNeg))) fun t3 =>
  q20 x3 t3 (x5 + 1))
def f_X8_ownOf_b20 (n : Nat) (x1 : Int32) (x2 : Int32) (M : m_M) : Nat → Int32 → Int32 → Int32 → Option Int32
  | 0, _, _, _ => none
  | u + 1, x3, x4, x5 =>
    m_bd (f_X8_persons M) fun r4 =>
  if r4 ≤ x5 then
  some x4
  else
  if x2 = 0 then
  if x5 = x3 then
  f_X8_ownOf_b69 n x1 x2 M (f_X8_ownOf_b20 n x1 x2 M u) x3 x4 x5 1
  else
  f_X8_ownOf_b69 n x1 x2 M (f_X8_ownOf_b20 n x1 x2 M u) x3 x4 x5 0
  else
  m_gd (m_in x5 10) (
  if (M.1 177 x5.toNatClampNeg) = x3 then
  if x5 = x1 then
  f_X8_ownOf_b69 n x1 x2 M (f_X8_ownOf_b20 n x1 x2 M u) x3 x4 x5 0
  else
  f_X8_ownOf_b69 n x1 x2 M (f_X8_ownOf_b20 n x1 x2 M u) x3 x4 x5 1
  else
  f_X8_ownOf_b69 n x1 x2 M (f_X8_ownOf_b20 n x1 x2 M u) x3 x4 x5 0)
def f_X8_ownOf (n : Nat) (x1 : Int32) (x2 : Int32) (M : m_M) : Option Int32 :=
  m_gd (m_in x1 10) (
  if (M.1 177 x1.toNatClampNeg) = (-1) then
  some 0
  else
  f_X8_ownOf_b20 n x1 x2 M n (M.1 177 x1.toNatClampNeg) 0 0)
set_option maxHeartbeats 4000000 in
set_option maxRecDepth 100000 in
theorem c_X8_ownOf (l : Launch) (G : m_G) {n : Nat} {x1 : Int32} {x2 : Int32} {M : m_M} {r0 : Int32}  (hres : f_X8_ownOf n x1 x2 M = some r0) : Met l yX8_ownOf (m_U yX8_ownOf cX8_ownOf 7 (some .int)) (m_R 1 20) (m_Pc G [.ref (m_ad G 172), .int x1, .int x2] M) (m_Qi G r0 M) 0 0 (m_A G) := by
  refine m_i0 (n := 7) RX8 rfl (by decide) (Nat.le_of_ble_eq_true rfl) ?_
  intro p e s m args below meth c X hr hlk hSt hP hS ls hl
  have hl : lv_has ls 7 [(0, .ref (m_ad G 172)), (1, .int x1), (2, .int x2)] := hl
  have B69 : ∀ (q20 : Int32 → Int32 → Int32 → Option Int32) (hq20 : ∀ (x3 : Int32) (x4 : Int32) (x5 : Int32) (H : Heap) (locs : List Loc) (ls : Array Slot), m_P G M H → va_S (m_A G) s.heap H locs → lv_has ls 7 [(0, .ref (m_ad G 172)), (1, .int x1), (2, .int x2), (3, .int x3), (4, .int x4), (5, .int x5)] → q20 x3 x4 x5 = some r0 → W p l e (m_R 1 20) s m args below meth c H locs 0 0 (MQ below (m_Qi G r0 M) args s 0 0 (m_A G)) (F0 m 20 ls [])) (x3 : Int32) (x4 : Int32) (x5 : Int32) (s0 : Int32) (H : Heap) (locs : List Loc) (ls : Array Slot), m_P G M H → va_S (m_A G) s.heap H locs → lv_has ls 7 [(0, .ref (m_ad G 172)), (1, .int x1), (2, .int x2), (3, .int x3), (4, .int x4), (5, .int x5)] → f_X8_ownOf_b69 n x1 x2 M q20 x3 x4 x5 s0 = some r0 → W p l e (m_R 1 20) s m args below meth c H locs 0 0 (MQ below (m_Qi G r0 M) args s 0 0 (m_A G)) (F0 m 69 ls [.int s0]) := by
    intro q20 hq20 x3 x4 x5 s0 H locs ls hP hS hl hres
    unfold f_X8_ownOf_b69 at hres
    refine lv_istore (lv' := [(6, .int s0), (0, .ref (m_ad G 172)), (1, .int x1), (2, .int x2), (3, .int x3), (4, .int x4), (5, .int x5)]) X.1 X.2.1 dX8_ownOf_69 hl (by decide) rfl (fun ls hl => ?_)
    refine lv_iload X.1 X.2.1 dX8_ownOf_71 (lv_at hl 5 rfl) ?_
    refine lv_iload X.1 X.2.1 dX8_ownOf_73 (lv_at hl 0 rfl) ?_
    refine lv_if_eq (tgt := 93) X.1 X.2.1 dX8_ownOf_75 (by decide) (fun hc1 => ?_) (fun hc1 => ?_)
    · have hres := m_it hres hc1
      refine lv_iconst (v := 0) X.1 X.2.1 dX8_ownOf_93 (by decide) ?_
      refine lv_iadd X.1 X.2.1 dX8_ownOf_94 ?_
      refine lv_istore (lv' := [(4, .int (x4 + (0 : Int32))), (6, .int s0), (0, .ref (m_ad G 172)), (1, .int x1), (2, .int x2), (3, .int x3), (5, .int x5)]) X.1 X.2.1 dX8_ownOf_95 hl (by decide) rfl (fun ls hl => ?_)
      refine lv_iinc (v := (x5 + 1)) (lv' := [(5, .int (x5 + 1)), (4, .int (x4 + (0 : Int32))), (6, .int s0), (0, .ref (m_ad G 172)), (1, .int x1), (2, .int x2), (3, .int x3)]) X.1 X.2.1 dX8_ownOf_97 hl (k := 6) rfl rfl (by decide) rfl (fun ls hl => ?_)
      refine lv_goto (tgt := 20) X.1 X.2.1 dX8_ownOf_100 (by decide) ?_
      exact hq20 x3 (x4 + (0 : Int32)) (x5 + 1) _ _ _ hP hS (lv_sub hl [3, 4, 5, 6, 1, 0] rfl) hres
    · have hres := m_if hres hc1
      refine lv_aload_n X.1 X.2.1 dX8_ownOf_78 rfl (lv_at hl 1 rfl) ?_
      refine m_g8 (v := .ref (m_ad G 184)) X hSt hP m_z_172 14 (by decide) rfl k_f_X8_48 dX8_ownOf_79 ?_
      refine lv_bipush (v := 10) X.1 X.2.1 dX8_ownOf_82 (by decide) ?_
      refine lv_iload_n X.1 X.2.1 dX8_ownOf_84 rfl (lv_at hl 2 rfl) ?_
      refine lv_imul X.1 X.2.1 dX8_ownOf_85 ?_
      refine lv_iload X.1 X.2.1 dX8_ownOf_86 (lv_at hl 6 rfl) ?_
      refine lv_iadd X.1 X.2.1 dX8_ownOf_88 ?_
      obtain ⟨hg2, hres⟩ := m_gd_e hres
      refine m_ia (j := ((((10 : Int32) * x1) + x5).toNatClampNeg)) X hSt hP m_z_184 hg2 rfl dX8_ownOf_89 ?_
      refine lv_goto (tgt := 94) X.1 X.2.1 dX8_ownOf_90 (by decide) ?_
      refine lv_iadd X.1 X.2.1 dX8_ownOf_94 ?_
      obtain ⟨t3, et3, hres⟩ := m_bd_e hres
      refine m_ti et3 ?_
      refine lv_istore (lv' := [(4, .int t3), (6, .int s0), (0, .ref (m_ad G 172)), (1, .int x1), (2, .int x2), (3, .int x3), (5, .int x5)]) X.1 X.2.1 dX8_ownOf_95 hl (by decide) rfl (fun ls hl => ?_)
      refine lv_iinc (v := (x5 + 1)) (lv' := [(5, .int (x5 + 1)), (4, .int t3), (6, .int s0), (0, .ref (m_ad G 172)), (1, .int x1), (2, .int x2), (3, .int x3)]) X.1 X.2.1 dX8_ownOf_97 hl (k := 6) rfl rfl (by decide) rfl (fun ls hl => ?_)
      refine lv_goto (tgt := 20) X.1 X.2.1 dX8_ownOf_100 (by decide) ?_
      exact hq20 x3 t3 (x5 + 1) _ _ _ hP hS (lv_sub hl [3, 4, 5, 6, 1, 0] rfl) hres
  have B20 : ∀ (u : Nat) (x3 : Int32) (x4 : Int32) (x5 : Int32) (H : Heap) (locs : List Loc) (ls : Array Slot), m_P G M H → va_S (m_A G) s.heap H locs → lv_has ls 7 [(0, .ref (m_ad G 172)), (1, .int x1), (2, .int x2), (3, .int x3), (4, .int x4), (5, .int x5)] → f_X8_ownOf_b20 n x1 x2 M u x3 x4 x5 = some r0 → W p l e (m_R 1 20) s m args below meth c H locs 0 0 (MQ below (m_Qi G r0 M) args s 0 0 (m_A G)) (F0 m 20 ls []) := by
    intro u
    induction u with
    | zero =>
      intro x3 x4 x5 H locs ls hP hS hl hres
      cases hres
    | succ u ih =>
      intro x3 x4 x5 H locs ls hP hS hl hres
      rw [f_X8_ownOf_b20] at hres
      refine lv_iload X.1 X.2.1 dX8_ownOf_20 (lv_at hl 5 rfl) ?_
      refine lv_aload_n X.1 X.2.1 dX8_ownOf_22 rfl (lv_at hl 0 rfl) ?_
      obtain ⟨r4, err4, hres⟩ := m_bd_e hres
      refine m_bi (m_cV (n := 0) (As := []) (rest := [.int x5]) X hSt hP hS hl.1 (c_X8_persons l G  err4) k_c_yX8_persons k_m_X8_107 k_i_yX8_persons k_s_yX8_persons k_n_X8 (by decide +kernel) (m_rc8 hSt hP m_z_172) rfl rfl ⟨Nat.le_of_ble_eq_true rfl, Nat.le_of_ble_eq_true rfl⟩ (Nat.le_of_ble_eq_true rfl) ⟨Nat.zero_le _, Nat.zero_le _⟩ dX8_ownOf_23) hS (fun H locs hP hS => ?_)
      refine lv_icmp_ge (tgt := 103) X.1 X.2.1 dX8_ownOf_26 (by decide) (fun hc5 => ?_) (fun hc5 => ?_)
      · have hres := m_it hres hc5
        refine lv_iload X.1 X.2.1 dX8_ownOf_103 (lv_at hl 4 rfl) ?_
        exact m_ri X hr hlk hP hS (Option.some.inj hres) rfl dX8_ownOf_105
      · have hres := m_if hres hc5
        refine lv_iload_n X.1 X.2.1 dX8_ownOf_29 rfl (lv_at hl 2 rfl) ?_
        refine lv_if_ne (tgt := 47) X.1 X.2.1 dX8_ownOf_30 (by decide) (fun hc6 => ?_) (fun hc6 => ?_)
        · have hres := m_if hres hc6
          refine lv_aload_n X.1 X.2.1 dX8_ownOf_47 rfl (lv_at hl 0 rfl) ?_
          refine m_g8 (v := .ref (m_ad G 177)) X hSt hP m_z_172 7 (by decide) rfl k_f_X8_27 dX8_ownOf_48 ?_
          refine lv_iload X.1 X.2.1 dX8_ownOf_51 (lv_at hl 5 rfl) ?_
          obtain ⟨hg7, hres⟩ := m_gd_e hres
          refine m_ia (j := x5.toNatClampNeg) X hSt hP m_z_177 hg7 rfl dX8_ownOf_53 ?_
          refine lv_iload_n X.1 X.2.1 dX8_ownOf_54 rfl (lv_at hl 3 rfl) ?_
          refine lv_icmp_ne (tgt := 68) X.1 X.2.1 dX8_ownOf_55 (by decide) (fun hc8 => ?_) (fun hc8 => ?_)
          · have hres := m_if hres hc8
            refine lv_iconst (v := 0) X.1 X.2.1 dX8_ownOf_68 (by decide) ?_
            exact B69 (f_X8_ownOf_b20 n x1 x2 M u) ih x3 x4 x5 0 _ _ _ hP hS (lv_sub hl [0, 1, 2, 3, 4, 5] rfl) hres
          · have hres := m_it hres hc8
            refine lv_iload X.1 X.2.1 dX8_ownOf_58 (lv_at hl 5 rfl) ?_
            refine lv_iload_n X.1 X.2.1 dX8_ownOf_60 rfl (lv_at hl 1 rfl) ?_
            refine lv_icmp_eq (tgt := 68) X.1 X.2.1 dX8_ownOf_61 (by decide) (fun hc9 => ?_) (fun hc9 => ?_)
            · have hres := m_it hres hc9
              refine lv_iconst (v := 0) X.1 X.2.1 dX8_ownOf_68 (by decide) ?_
              exact B69 (f_X8_ownOf_b20 n x1 x2 M u) ih x3 x4 x5 0 _ _ _ hP hS (lv_sub hl [0, 1, 2, 3, 4, 5] rfl) hres
            · have hres := m_if hres hc9
              refine lv_iconst (v := 1) X.1 X.2.1 dX8_ownOf_64 (by decide) ?_
              refine lv_goto (tgt := 69) X.1 X.2.1 dX8_ownOf_65 (by decide) ?_
              exact B69 (f_X8_ownOf_b20 n x1 x2 M u) ih x3 x4 x5 1 _ _ _ hP hS (lv_sub hl [0, 1, 2, 3, 4, 5] rfl) hres
        · have hres := m_it hres hc6
          refine lv_iload X.1 X.2.1 dX8_ownOf_33 (lv_at hl 5 rfl) ?_
          refine lv_iload_n X.1 X.2.1 dX8_ownOf_35 rfl (lv_at hl 3 rfl) ?_
          refine lv_icmp_ne (tgt := 43) X.1 X.2.1 dX8_ownOf_36 (by decide) (fun hc10 => ?_) (fun hc10 => ?_)
          · have hres := m_if hres hc10
            refine lv_iconst (v := 0) X.1 X.2.1 dX8_ownOf_43 (by decide) ?_
            refine lv_goto (tgt := 69) X.1 X.2.1 dX8_ownOf_44 (by decide) ?_
            exact B69 (f_X8_ownOf_b20 n x1 x2 M u) ih x3 x4 x5 0 _ _ _ hP hS (lv_sub hl [0, 1, 2, 3, 4, 5] rfl) hres
          · have hres := m_it hres hc10
            refine lv_iconst (v := 1) X.1 X.2.1 dX8_ownOf_39 (by decide) ?_
            refine lv_goto (tgt := 69) X.1 X.2.1 dX8_ownOf_40 (by decide) ?_
            exact B69 (f_X8_ownOf_b20 n x1 x2 M u) ih x3 x4 x5 1 _ _ _ hP hS (lv_sub hl [0, 1, 2, 3, 4, 5] rfl) hres
  unfold f_X8_ownOf at hres
  refine lv_aload_n X.1 X.2.1 dX8_ownOf_0 rfl (lv_at hl 0 rfl) ?_
  refine m_g8 (v := .ref (m_ad G 177)) X hSt hP m_z_172 7 (by decide) rfl k_f_X8_27 dX8_ownOf_1 ?_
  refine lv_iload_n X.1 X.2.1 dX8_ownOf_4 rfl (lv_at hl 1 rfl) ?_
  obtain ⟨hg11, hres⟩ := m_gd_e hres
  refine m_ia (j := x1.toNatClampNeg) X hSt hP m_z_177 hg11 rfl dX8_ownOf_5 ?_
  refine lv_istore_n (lv' := [(3, .int (M.1 177 x1.toNatClampNeg)), (0, .ref (m_ad G 172)), (1, .int x1), (2, .int x2)]) X.1 X.2.1 dX8_ownOf_6 rfl hl (by decide) rfl (fun ls hl => ?_)
  refine lv_iload_n X.1 X.2.1 dX8_ownOf_7 rfl (lv_at hl 0 rfl) ?_
  refine lv_iconst (v := (-1)) X.1 X.2.1 dX8_ownOf_8 (by decide) ?_
  refine lv_icmp_ne (tgt := 14) X.1 X.2.1 dX8_ownOf_9 (by decide) (fun hc12 => ?_) (fun hc12 => ?_)
  · have hres := m_if hres hc12
    refine lv_iconst (v := 0) X.1 X.2.1 dX8_ownOf_14 (by decide) ?_
    refine lv_istore (lv' := [(4, .int 0), (3, .int (M.1 177 x1.toNatClampNeg)), (0, .ref (m_ad G 172)), (1, .int x1), (2, .int x2)]) X.1 X.2.1 dX8_ownOf_15 hl (by decide) rfl (fun ls hl => ?_)
    refine lv_iconst (v := 0) X.1 X.2.1 dX8_ownOf_17 (by decide) ?_
    refine lv_istore (lv' := [(5, .int 0), (4, .int 0), (3, .int (M.1 177 x1.toNatClampNeg)), (0, .ref (m_ad G 172)), (1, .int x1), (2, .int x2)]) X.1 X.2.1 dX8_ownOf_18 hl (by decide) rfl (fun ls hl => ?_)
    exact B20 n (M.1 177 x1.toNatClampNeg) 0 0 _ _ _ hP hS (lv_sub hl [3, 4, 5, 2, 1, 0] rfl) hres
  · have hres := m_it hres hc12
    refine lv_iconst (v := 0) X.1 X.2.1 dX8_ownOf_12 (by decide) ?_
    exact m_ri X hr hlk hP hS (Option.some.inj hres) rfl dX8_ownOf_13
theorem dX8_isFigure_0 : decode cX8_isFigure 0 = .ok (.iload_n 0, 1) := by decide +kernel
theorem dX8_isFigure_1 : decode cX8_isFigure 1 = .ok (.i2l, 1) := by decide +kernel
theorem dX8_isFigure_2 : decode cX8_isFigure 2 = .ok (.ldc2_w 205, 3) := by decide +kernel
theorem dX8_isFigure_5 : decode cX8_isFigure 5 = .ok (.ldc2_w 207, 3) := by decide +kernel
theorem dX8_isFigure_8 : decode cX8_isFigure 8 = .ok (.invokestatic 111, 3) := by decide +kernel
theorem dX8_isFigure_11 : decode cX8_isFigure 11 = .ok (.ireturn, 1) := by decide +kernel
def f_X8_isFigure (x0 : Int32) : Int32 :=
  m_bd (f_X8_isIn x0.toInt64 48 57) fun r1 =>
  r1
set_option maxHeartbeats 4000000 in
set_option maxRecDepth 100000 in
theorem c_X8_isFigure (l : Launch) (G : m_G) {x0 : Int32} {M : m_M} {r0 : Int32}  (hres : f_X8_isFigure x0 = r0) : Met l yX8_isFigure (m_U yX8_isFigure cX8_isFigure 1 (some .boolean)) (m_R 1 25) (m_Pc G [.int x0] M) (m_Qz G r0 M) 0 0 (m_A G) := by
  refine m_i0 (n := 1) RX8 rfl (by decide) (Nat.le_of_ble_eq_true rfl) ?_
  intro p e s m args below meth c X hr hlk hSt hP hS ls hl
  have hl : lv_has ls 1 [(0, .int x0)] := hl
  unfold f_X8_isFigure at hres
  refine lv_iload_n X.1 X.2.1 dX8_isFigure_0 rfl (lv_at hl 0 rfl) ?_
  refine lv_i2l (v := x0.toInt64) X.1 X.2.1 dX8_isFigure_1 rfl ?_
  refine lv_ldc2 (v := 48) X.1 X.2.1 X.2.2.2.1 (X.2.2.2.2 _ k_l_X8_205) dX8_isFigure_2 ?_
  refine lv_ldc2 (v := 57) X.1 X.2.1 X.2.2.2.1 (X.2.2.2.2 _ k_l_X8_207) dX8_isFigure_5 ?_
  obtain ⟨r1, err1, hres⟩ := m_bd_e hres
  refine m_bz (m_cS (n := 3) (As := [.long x0.toInt64, .long 48, .long 57]) (rest := []) X hSt hP hS hl.1 (c_X8_isIn l G (M := M)  err1) k_c_yX8_isIn k_m_X8_111 k_t_yX8_isIn k_n_X8 (by decide +kernel) rfl rfl ⟨Nat.le_of_ble_eq_true rfl, Nat.le_of_ble_eq_true rfl⟩ (Nat.le_of_ble_eq_true rfl) ⟨Nat.zero_le _, Nat.zero_le _⟩ dX8_isFigure_8) hS (fun H locs hP hS hz2 => ?_)
  exact m_rz X hr hlk hP hS hres rfl hz2 dX8_isFigure_11
theorem dX8_digits_0 : decode cX8_digits 0 = .ok (.aload_n 0, 1) := by decide +kernel
theorem dX8_digits_1 : decode cX8_digits 1 = .ok (.getfield 277, 3) := by decide +kernel
theorem dX8_digits_4 : decode cX8_digits 4 = .ok (.istore_n 1, 1) := by decide +kernel
theorem dX8_digits_5 : decode cX8_digits 5 = .ok (.lconst 0, 1) := by decide +kernel
theorem dX8_digits_6 : decode cX8_digits 6 = .ok (.lstore_n 2, 1) := by decide +kernel
theorem dX8_digits_7 : decode cX8_digits 7 = .ok (.aload_n 0, 1) := by decide +kernel
theorem dX8_digits_8 : decode cX8_digits 8 = .ok (.getfield 277, 3) := by decide +kernel
theorem dX8_digits_11 : decode cX8_digits 11 = .ok (.aload_n 0, 1) := by decide +kernel
theorem dX8_digits_12 : decode cX8_digits 12 = .ok (.invokevirtual 280, 3) := by decide +kernel
theorem dX8_digits_15 : decode cX8_digits 15 = .ok (.if_icmp .ge 73, 3) := by decide +kernel
theorem dX8_digits_18 : decode cX8_digits 18 = .ok (.aload_n 0, 1) := by decide +kernel
theorem dX8_digits_19 : decode cX8_digits 19 = .ok (.aload_n 0, 1) := by decide +kernel
theorem dX8_digits_20 : decode cX8_digits 20 = .ok (.getfield 277, 3) := by decide +kernel
theorem dX8_digits_23 : decode cX8_digits 23 = .ok (.invokevirtual 283, 3) := by decide +kernel
theorem dX8_digits_26 : decode cX8_digits 26 = .ok (.invokestatic 224, 3) := by decide +kernel
theorem dX8_digits_29 : decode cX8_digits 29 = .ok (.ifCond .eq 59, 3) := by decide +kernel
theorem dX8_digits_32 : decode cX8_digits 32 = .ok (.aload_n 0, 1) := by decide +kernel
theorem dX8_digits_33 : decode cX8_digits 33 = .ok (.getfield 277, 3) := by decide +kernel
theorem dX8_digits_36 : decode cX8_digits 36 = .ok (.iload_n 1, 1) := by decide +kernel
theorem dX8_digits_37 : decode cX8_digits 37 = .ok (.isub, 1) := by decide +kernel
theorem dX8_digits_38 : decode cX8_digits 38 = .ok (.bipush 6, 2) := by decide +kernel
theorem dX8_digits_40 : decode cX8_digits 40 = .ok (.if_icmp .ne 15, 3) := by decide +kernel
theorem dX8_digits_43 : decode cX8_digits 43 = .ok (.aload_n 0, 1) := by decide +kernel
theorem dX8_digits_44 : decode cX8_digits 44 = .ok (.bipush 10, 2) := by decide +kernel
theorem dX8_digits_46 : decode cX8_digits 46 = .ok (.iload_n 1, 1) := by decide +kernel
theorem dX8_digits_47 : decode cX8_digits 47 = .ok (.imul, 1) := by decide +kernel
theorem dX8_digits_48 : decode cX8_digits 48 = .ok (.iconst 2, 1) := by decide +kernel
theorem dX8_digits_49 : decode cX8_digits 49 = .ok (.iadd, 1) := by decide +kernel
theorem dX8_digits_50 : decode cX8_digits 50 = .ok (.putfield 298, 3) := by decide +kernel
theorem dX8_digits_53 : decode cX8_digits 53 = .ok (.lconst 0, 1) := by decide +kernel
theorem dX8_digits_54 : decode cX8_digits 54 = .ok (.lreturn, 1) := by decide +kernel
theorem dX8_digits_55 : decode cX8_digits 55 = .ok (.ldc2_w 301, 3) := by decide +kernel
theorem dX8_digits_58 : decode cX8_digits 58 = .ok (.lload_n 2, 1) := by decide +kernel
theorem dX8_digits_59 : decode cX8_digits 59 = .ok (.lmul, 1) := by decide +kernel
theorem dX8_digits_60 : decode cX8_digits 60 = .ok (.aload_n 0, 1) := by decide +kernel
theorem dX8_digits_61 : decode cX8_digits 61 = .ok (.aload_n 0, 1) := by decide +kernel
theorem dX8_digits_62 : decode cX8_digits 62 = .ok (.getfield 277, 3) := by decide +kernel
theorem dX8_digits_65 : decode cX8_digits 65 = .ok (.invokevirtual 283, 3) := by decide +kernel
theorem dX8_digits_68 : decode cX8_digits 68 = .ok (.i2l, 1) := by decide +kernel
theorem dX8_digits_69 : decode cX8_digits 69 = .ok (.ladd, 1) := by decide +kernel
theorem dX8_digits_70 : decode cX8_digits 70 = .ok (.ldc2_w 205, 3) := by decide +kernel
theorem dX8_digits_73 : decode cX8_digits 73 = .ok (.lsub, 1) := by decide +kernel
theorem dX8_digits_74 : decode cX8_digits 74 = .ok (.lstore_n 2, 1) := by decide +kernel
theorem dX8_digits_75 : decode cX8_digits 75 = .ok (.aload_n 0, 1) := by decide +kernel
theorem dX8_digits_76 : decode cX8_digits 76 = .ok (.dup, 1) := by decide +kernel
theorem dX8_digits_77 : decode cX8_digits 77 = .ok (.getfield 277, 3) := by decide +kernel
theorem dX8_digits_80 : decode cX8_digits 80 = .ok (.iconst 1, 1) := by decide +kernel
theorem dX8_digits_81 : decode cX8_digits 81 = .ok (.iadd, 1) := by decide +kernel
theorem dX8_digits_82 : decode cX8_digits 82 = .ok (.putfield 277, 3) := by decide +kernel
theorem dX8_digits_85 : decode cX8_digits 85 = .ok (.goto (-78), 3) := by decide +kernel
theorem dX8_digits_88 : decode cX8_digits 88 = .ok (.lload_n 2, 1) := by decide +kernel
theorem dX8_digits_89 : decode cX8_digits 89 = .ok (.lreturn, 1) := by decide +kernel
def f_X8_digits_b7 (n : Nat) : Nat → Int32 → Int64 → m_M → Option (Int64 × m_M)
  | 0, _, _, _ => none
  | u + 1, x1, x2, M =>
    m_ob (f_X8_lawLong M) fun r1 =>
  if r1 ≤ (M.1 172 37) then
  some (x2, M)
  else
  m_ob (f_X8_charAt (M.1 172 37) M) fun r3 =>
  m_bd (f_X8_isFigure r3) fun r4 =>
  if r4 = 0 then
  some (x2, M)
  else
  if ((M.1 172 37) - x1) = 6 then
  m_bd (m_sI M 172 38 (((10 : Int32) * x1) + (2 : Int32))) fun M11 =>
  some (0, M11)
  else
  m_ob (f_X8_charAt (M.1 172 37) M) fun r8 =>
  m_bd ((((10 : Int64) * x2) + r8.toInt64) - (48 : Int64)) fun t9 =>
  m_bd (m_sI M 172 37 ((M.1 172 37) + (1 : Int32))) fun M10 =>
  f_X8_digits_b7 n u x1 t9 M10
def f_X8_digits (n : Nat) (M : m_M) : Option (Int64 × m_M) :=
  f_X8_digits_b7 n n (M.1 172 37) 0 M
set_option maxHeartbeats 4000000 in
set_option maxRecDepth 100000 in
theorem c_X8_digits (l : Launch) (G : m_G) {n : Nat} {M : m_M} {r0 : Int64} {M0 : m_M}  (hres : f_X8_digits n M = some (r0, M0)) : Met l yX8_digits (m_U yX8_digits cX8_digits 4 (some .long)) (m_R 2 45) (m_Pc G [.ref (m_ad G 172)] M) (m_Ql G r0 M0) 0 0 (m_A G) := by
  refine m_i0 (n := 4) RX8 rfl (by decide) (Nat.le_of_ble_eq_true rfl) ?_
  intro p e s m args below meth c X hr hlk hSt hP hS ls hl
  have hl : lv_has ls 4 [(0, .ref (m_ad G 172))] := hl
  have B7 : ∀ (u : Nat) (x1 : Int32) (x2 : Int64) (M : m_M) (H : Heap) (locs : List Loc) (ls : Array Slot), m_P G M H → va_S (m_A G) s.heap H locs → lv_has ls 4 [(0, .ref (m_ad G 172)), (1, .int x1), (2, .long x2)] → f_X8_digits_b7 n u x1 x2 M = some (r0, M0) → W p l e (m_R 2 45) s m args below meth c H locs 0 0 (MQ below (m_Ql G r0 M0) args s 0 0 (m_A G)) (F0 m 7 ls []) := by
    intro u
    induction u with
    | zero =>
      intro x1 x2 M H locs ls hP hS hl hres
      cases hres
    | succ u ih =>
      intro x1 x2 M H locs ls hP hS hl hres
      rw [f_X8_digits_b7] at hres
      refine lv_aload_n X.1 X.2.1 dX8_digits_7 rfl (lv_at hl 0 rfl) ?_
      refine m_g8 (v := .int (M.1 172 37)) X hSt hP m_z_172 37 (by decide) rfl k_f_X8_277 dX8_digits_8 ?_
      refine lv_aload_n X.1 X.2.1 dX8_digits_11 rfl (lv_at hl 0 rfl) ?_
      obtain ⟨r1, err1, hres⟩ := m_ob_e hres
      refine m_bi (m_cV (n := 0) (As := []) (rest := [.int (M.1 172 37)]) X hSt hP hS hl.1 (c_X8_lawLong l G  err1) k_c_yX8_lawLong k_m_X8_280 k_i_yX8_lawLong k_s_yX8_lawLong k_n_X8 (by decide +kernel) (m_rc8 hSt hP m_z_172) rfl rfl ⟨Nat.le_of_ble_eq_true rfl, Nat.le_of_ble_eq_true rfl⟩ (Nat.le_of_ble_eq_true rfl) ⟨Nat.zero_le _, Nat.zero_le _⟩ dX8_digits_12) hS (fun H locs hP hS => ?_)
      refine lv_icmp_ge (tgt := 88) X.1 X.2.1 dX8_digits_15 (by decide) (fun hc2 => ?_) (fun hc2 => ?_)
      · have hres := m_it hres hc2
        refine lv_lload_n X.1 X.2.1 dX8_digits_88 rfl (lv_at hl 2 rfl) ?_
        exact m_rl X hr hlk hP hS (Prod.mk.inj (Option.some.inj hres)).1 (Prod.mk.inj (Option.some.inj hres)).2 dX8_digits_89
      · have hres := m_if hres hc2
        refine lv_aload_n X.1 X.2.1 dX8_digits_18 rfl (lv_at hl 0 rfl) ?_
        refine lv_aload_n X.1 X.2.1 dX8_digits_19 rfl (lv_at hl 0 rfl) ?_
        refine m_g8 (v := .int (M.1 172 37)) X hSt hP m_z_172 37 (by decide) rfl k_f_X8_277 dX8_digits_20 ?_
        obtain ⟨r3, err3, hres⟩ := m_ob_e hres
        refine m_bi (m_cV (n := 1) (As := [.int (M.1 172 37)]) (rest := []) X hSt hP hS hl.1 (c_X8_charAt l G  err3) k_c_yX8_charAt k_m_X8_283 k_i_yX8_charAt k_s_yX8_charAt k_n_X8 (by decide +kernel) (m_rc8 hSt hP m_z_172) rfl rfl ⟨Nat.le_of_ble_eq_true rfl, Nat.le_of_ble_eq_true rfl⟩ (Nat.le_of_ble_eq_true rfl) ⟨Nat.zero_le _, Nat.zero_le _⟩ dX8_digits_23) hS (fun H locs hP hS => ?_)
        obtain ⟨r4, err4, hres⟩ := m_bd_e hres
        refine m_bz (m_cS (n := 1) (As := [.int r3]) (rest := []) X hSt hP hS hl.1 (c_X8_isFigure l G (M := M)  err4) k_c_yX8_isFigure k_m_X8_224 k_t_yX8_isFigure k_n_X8 (by decide +kernel) rfl rfl ⟨Nat.le_of_ble_eq_true rfl, Nat.le_of_ble_eq_true rfl⟩ (Nat.le_of_ble_eq_true rfl) ⟨Nat.zero_le _, Nat.zero_le _⟩ dX8_digits_26) hS (fun H locs hP hS hz5 => ?_)
        refine lv_if_eq (tgt := 88) X.1 X.2.1 dX8_digits_29 (by decide) (fun hc6 => ?_) (fun hc6 => ?_)
        · have hres := m_it hres hc6
          refine lv_lload_n X.1 X.2.1 dX8_digits_88 rfl (lv_at hl 2 rfl) ?_
          exact m_rl X hr hlk hP hS (Prod.mk.inj (Option.some.inj hres)).1 (Prod.mk.inj (Option.some.inj hres)).2 dX8_digits_89
        · have hres := m_if hres hc6
          refine lv_aload_n X.1 X.2.1 dX8_digits_32 rfl (lv_at hl 0 rfl) ?_
          refine m_g8 (v := .int (M.1 172 37)) X hSt hP m_z_172 37 (by decide) rfl k_f_X8_277 dX8_digits_33 ?_
          refine lv_iload_n X.1 X.2.1 dX8_digits_36 rfl (lv_at hl 1 rfl) ?_
          refine lv_isub X.1 X.2.1 dX8_digits_37 ?_
          refine lv_bipush (v := 6) X.1 X.2.1 dX8_digits_38 (by decide) ?_
          refine lv_icmp_ne (tgt := 55) X.1 X.2.1 dX8_digits_40 (by decide) (fun hc7 => ?_) (fun hc7 => ?_)
          · have hres := m_if hres hc7
            refine lv_ldc2 (v := 10) X.1 X.2.1 X.2.2.2.1 (X.2.2.2.2 _ k_l_X8_301) dX8_digits_55 ?_
            refine lv_lload_n X.1 X.2.1 dX8_digits_58 rfl (lv_at hl 2 rfl) ?_
            refine lv_lmul X.1 X.2.1 dX8_digits_59 ?_
            refine lv_aload_n X.1 X.2.1 dX8_digits_60 rfl (lv_at hl 0 rfl) ?_
            refine lv_aload_n X.1 X.2.1 dX8_digits_61 rfl (lv_at hl 0 rfl) ?_
            refine m_g8 (v := .int (M.1 172 37)) X hSt hP m_z_172 37 (by decide) rfl k_f_X8_277 dX8_digits_62 ?_
            obtain ⟨r8, err8, hres⟩ := m_ob_e hres
            refine m_bi (m_cV (n := 1) (As := [.int (M.1 172 37)]) (rest := [.long ((10 : Int64) * x2)]) X hSt hP hS hl.1 (c_X8_charAt l G  err8) k_c_yX8_charAt k_m_X8_283 k_i_yX8_charAt k_s_yX8_charAt k_n_X8 (by decide +kernel) (m_rc8 hSt hP m_z_172) rfl rfl ⟨Nat.le_of_ble_eq_true rfl, Nat.le_of_ble_eq_true rfl⟩ (Nat.le_of_ble_eq_true rfl) ⟨Nat.zero_le _, Nat.zero_le _⟩ dX8_digits_65) hS (fun H locs hP hS => ?_)
            refine lv_i2l (v := r8.toInt64) X.1 X.2.1 dX8_digits_68 rfl ?_
            refine lv_ladd X.1 X.2.1 dX8_digits_69 ?_
            refine lv_ldc2 (v := 48) X.1 X.2.1 X.2.2.2.1 (X.2.2.2.2 _ k_l_X8_205) dX8_digits_70 ?_
            refine lv_lsub X.1 X.2.1 dX8_digits_73 ?_
            obtain ⟨t9, et9, hres⟩ := m_bd_e hres
            refine m_tl et9 ?_
            refine lv_lstore_n (lv' := [(2, .long t9), (0, .ref (m_ad G 172)), (1, .int x1)]) X.1 X.2.1 dX8_digits_74 rfl hl (by decide) rfl (fun ls hl => ?_)
            refine lv_aload_n X.1 X.2.1 dX8_digits_75 rfl (lv_at hl 1 rfl) ?_
            refine lv_dup X.1 X.2.1 dX8_digits_76 rfl ?_
            refine m_g8 (v := .int (M.1 172 37)) X hSt hP m_z_172 37 (by decide) rfl k_f_X8_277 dX8_digits_77 ?_
            refine lv_iconst (v := 1) X.1 X.2.1 dX8_digits_80 (by decide) ?_
            refine lv_iadd X.1 X.2.1 dX8_digits_81 ?_
            obtain ⟨M10, eM10, hres⟩ := m_bd_e hres
            refine m_pi8 X hSt hP hS m_z_172 37 (by decide) eM10 rfl rfl (by decide) k_f_X8_277 dX8_digits_82 (fun H locs hP hS => ?_)
            refine lv_goto (tgt := 7) X.1 X.2.1 dX8_digits_85 (by decide) ?_
            exact ih x1 t9 M10 _ _ _ hP hS (lv_sub hl [1, 2, 0] rfl) hres
          · have hres := m_it hres hc7
            refine lv_aload_n X.1 X.2.1 dX8_digits_43 rfl (lv_at hl 0 rfl) ?_
            refine lv_bipush (v := 10) X.1 X.2.1 dX8_digits_44 (by decide) ?_
            refine lv_iload_n X.1 X.2.1 dX8_digits_46 rfl (lv_at hl 1 rfl) ?_
            refine lv_imul X.1 X.2.1 dX8_digits_47 ?_
            refine lv_iconst (v := 2) X.1 X.2.1 dX8_digits_48 (by decide) ?_
            refine lv_iadd X.1 X.2.1 dX8_digits_49 ?_
            obtain ⟨M11, eM11, hres⟩ := m_bd_e hres
            refine m_pi8 X hSt hP hS m_z_172 38 (by decide) eM11 rfl rfl (by decide) k_f_X8_298 dX8_digits_50 (fun H locs hP hS => ?_)
            refine lv_lconst (v := 0) X.1 X.2.1 dX8_digits_53 (by decide) ?_
            exact m_rl X hr hlk hP hS (Prod.mk.inj (Option.some.inj hres)).1 (Prod.mk.inj (Option.some.inj hres)).2 dX8_digits_54
  unfold f_X8_digits at hres
  refine lv_aload_n X.1 X.2.1 dX8_digits_0 rfl (lv_at hl 0 rfl) ?_
  refine m_g8 (v := .int (M.1 172 37)) X hSt hP m_z_172 37 (by decide) rfl k_f_X8_277 dX8_digits_1 ?_
  refine lv_istore_n (lv' := [(1, .int (M.1 172 37)), (0, .ref (m_ad G 172))]) X.1 X.2.1 dX8_digits_4 rfl hl (by decide) rfl (fun ls hl => ?_)
  refine lv_lconst (v := 0) X.1 X.2.1 dX8_digits_5 (by decide) ?_
  refine lv_lstore_n (lv' := [(2, .long 0), (1, .int (M.1 172 37)), (0, .ref (m_ad G 172))]) X.1 X.2.1 dX8_digits_6 rfl hl (by decide) rfl (fun ls hl => ?_)
  exact B7 n (M.1 172 37) 0 M _ _ _ hP hS (lv_sub hl [2, 1, 0] rfl) hres
theorem dX8_stands_0 : decode cX8_stands 0 = .ok (.lload_n 1, 1) := by decide +kernel
theorem dX8_stands_1 : decode cX8_stands 1 = .ok (.lstore_n 3, 1) := by decide +kernel
theorem dX8_stands_2 : decode cX8_stands 2 = .ok (.aload_n 0, 1) := by decide +kernel
theorem dX8_stands_3 : decode cX8_stands 3 = .ok (.getfield 286, 3) := by decide +kernel
theorem dX8_stands_6 : decode cX8_stands 6 = .ok (.ifCond .le 67, 3) := by decide +kernel
theorem dX8_stands_9 : decode cX8_stands 9 = .ok (.aload_n 0, 1) := by decide +kernel
theorem dX8_stands_10 : decode cX8_stands 10 = .ok (.getfield 80, 3) := by decide +kernel
theorem dX8_stands_13 : decode cX8_stands 13 = .ok (.aload_n 0, 1) := by decide +kernel
theorem dX8_stands_14 : decode cX8_stands 14 = .ok (.getfield 286, 3) := by decide +kernel
theorem dX8_stands_17 : decode cX8_stands 17 = .ok (.iconst 1, 1) := by decide +kernel
theorem dX8_stands_18 : decode cX8_stands 18 = .ok (.isub, 1) := by decide +kernel
theorem dX8_stands_19 : decode cX8_stands 19 = .ok (.iaload, 1) := by decide +kernel
theorem dX8_stands_20 : decode cX8_stands 20 = .ok (.sipush 1000, 3) := by decide +kernel
theorem dX8_stands_23 : decode cX8_stands 23 = .ok (.if_icmp .le 50, 3) := by decide +kernel
theorem dX8_stands_26 : decode cX8_stands 26 = .ok (.aload_n 0, 1) := by decide +kernel
theorem dX8_stands_27 : decode cX8_stands 27 = .ok (.getfield 80, 3) := by decide +kernel
theorem dX8_stands_30 : decode cX8_stands 30 = .ok (.aload_n 0, 1) := by decide +kernel
theorem dX8_stands_31 : decode cX8_stands 31 = .ok (.getfield 286, 3) := by decide +kernel
theorem dX8_stands_34 : decode cX8_stands 34 = .ok (.iconst 1, 1) := by decide +kernel
theorem dX8_stands_35 : decode cX8_stands 35 = .ok (.isub, 1) := by decide +kernel
theorem dX8_stands_36 : decode cX8_stands 36 = .ok (.iaload, 1) := by decide +kernel
theorem dX8_stands_37 : decode cX8_stands 37 = .ok (.sipush 1001, 3) := by decide +kernel
theorem dX8_stands_40 : decode cX8_stands 40 = .ok (.if_icmp .ne 17, 3) := by decide +kernel
theorem dX8_stands_43 : decode cX8_stands 43 = .ok (.lload_n 3, 1) := by decide +kernel
theorem dX8_stands_44 : decode cX8_stands 44 = .ok (.lconst 0, 1) := by decide +kernel
theorem dX8_stands_45 : decode cX8_stands 45 = .ok (.lcmp, 1) := by decide +kernel
theorem dX8_stands_46 : decode cX8_stands 46 = .ok (.ifCond .ne 7, 3) := by decide +kernel
theorem dX8_stands_49 : decode cX8_stands 49 = .ok (.lconst 1, 1) := by decide +kernel
theorem dX8_stands_50 : decode cX8_stands 50 = .ok (.goto 9, 3) := by decide +kernel
theorem dX8_stands_53 : decode cX8_stands 53 = .ok (.lconst 0, 1) := by decide +kernel
theorem dX8_stands_54 : decode cX8_stands 54 = .ok (.goto 5, 3) := by decide +kernel
theorem dX8_stands_57 : decode cX8_stands 57 = .ok (.lload_n 3, 1) := by decide +kernel
theorem dX8_stands_58 : decode cX8_stands 58 = .ok (.lneg, 1) := by decide +kernel
theorem dX8_stands_59 : decode cX8_stands 59 = .ok (.lstore_n 3, 1) := by decide +kernel
theorem dX8_stands_60 : decode cX8_stands 60 = .ok (.aload_n 0, 1) := by decide +kernel
theorem dX8_stands_61 : decode cX8_stands 61 = .ok (.dup, 1) := by decide +kernel
theorem dX8_stands_62 : decode cX8_stands 62 = .ok (.getfield 286, 3) := by decide +kernel
theorem dX8_stands_65 : decode cX8_stands 65 = .ok (.iconst 1, 1) := by decide +kernel
theorem dX8_stands_66 : decode cX8_stands 66 = .ok (.isub, 1) := by decide +kernel
theorem dX8_stands_67 : decode cX8_stands 67 = .ok (.putfield 286, 3) := by decide +kernel
theorem dX8_stands_70 : decode cX8_stands 70 = .ok (.goto (-68), 3) := by decide +kernel
theorem dX8_stands_73 : decode cX8_stands 73 = .ok (.aload_n 0, 1) := by decide +kernel
theorem dX8_stands_74 : decode cX8_stands 74 = .ok (.getfield 76, 3) := by decide +kernel
theorem dX8_stands_77 : decode cX8_stands 77 = .ok (.aload_n 0, 1) := by decide +kernel
theorem dX8_stands_78 : decode cX8_stands 78 = .ok (.getfield 289, 3) := by decide +kernel
theorem dX8_stands_81 : decode cX8_stands 81 = .ok (.lload_n 3, 1) := by decide +kernel
theorem dX8_stands_82 : decode cX8_stands 82 = .ok (.lastore, 1) := by decide +kernel
theorem dX8_stands_83 : decode cX8_stands 83 = .ok (.aload_n 0, 1) := by decide +kernel
theorem dX8_stands_84 : decode cX8_stands 84 = .ok (.dup, 1) := by decide +kernel
theorem dX8_stands_85 : decode cX8_stands 85 = .ok (.getfield 289, 3) := by decide +kernel
theorem dX8_stands_88 : decode cX8_stands 88 = .ok (.iconst 1, 1) := by decide +kernel
theorem dX8_stands_89 : decode cX8_stands 89 = .ok (.iadd, 1) := by decide +kernel
theorem dX8_stands_90 : decode cX8_stands 90 = .ok (.putfield 289, 3) := by decide +kernel
theorem dX8_stands_93 : decode cX8_stands 93 = .ok (.return_, 1) := by decide +kernel
def f_X8_stands_b73 (n : Nat) (x1 : Int64) (x3 : Int64) (M : m_M) : Option m_M :=
  m_gd (m_in (M.1 172 40) 64) (
  m_bd (m_sL M 192 ((M.1 172 40).toNatClampNeg) x3) fun M2 =>
  m_bd (m_sI M2 172 40 ((M2.1 172 40) + (1 : Int32))) fun M3 =>
  some M3)
def f_X8_stands_b59 (n : Nat) (x1 : Int64) (q2 : Int64 → m_M → Option m_M) (s0 : Int64) (M : m_M) : Option m_M :=
  m_bd (m_sI M 172 42 ((M.1 172 42) - (1 : Int32))) fun M4 =>
  q2 s0 M4
def f_X8_stands_b2 (n : Nat) (x1 : Int64) : Nat → Int64 → m_M → Option m_M
  | 0, _, _ => none
  | u + 1, x3, M =>
    if (M.1 172 42) ≤ 0 then
  f_X8_stands_b73 n x1 x3 M
  else
  m_gd (m_in ((M.1 172 42) - (1 : Int32)) 128) (
  if (M.1 193 (((M.1 172 42) - (1 : Int32)).toNatClampNeg)) ≤ 1000 then
  f_X8_stands_b73 n x1 x3 M
  else
  if (M.1 193 (((M.1 172 42) - (1 : Int32)).toNatClampNeg)) = 1001 then
  if x3 = 0 then
  f_X8_stands_b59 n x1 (f_X8_stands_b2 n x1 u) 1 M
  else
  f_X8_stands_b59 n x1 (f_X8_stands_b2 n x1 u) 0 M
  else
  f_X8_stands_b59 n x1 (f_X8_stands_b2 n x1 u) (-x3) M)
def f_X8_stands (n : Nat) (x1 : Int64) (M : m_M) : Option m_M :=
  f_X8_stands_b2 n x1 n x1 M
set_option maxHeartbeats 4000000 in
set_option maxRecDepth 100000 in
theorem c_X8_stands (l : Launch) (G : m_G) {n : Nat} {x1 : Int64} {M : m_M} {M0 : m_M}  (hres : f_X8_stands n x1 M = some M0) : Met l yX8_stands (m_U yX8_stands cX8_stands 5 none) (m_R 0 0) (m_Pc G [.ref (m_ad G 172), .long x1] M) (m_Qv G M0) 0 0 (m_A G) := by
  refine m_i0 (n := 5) RX8 rfl (by decide) (Nat.le_of_ble_eq_true rfl) ?_
  intro p e s m args below meth c X hr hlk hSt hP hS ls hl
  have hl : lv_has ls 5 [(0, .ref (m_ad G 172)), (1, .long x1)] := hl
  have B73 : ∀  (x3 : Int64) (M : m_M) (H : Heap) (locs : List Loc) (ls : Array Slot), m_P G M H → va_S (m_A G) s.heap H locs → lv_has ls 5 [(0, .ref (m_ad G 172)), (3, .long x3)] → f_X8_stands_b73 n x1 x3 M = some M0 → W p l e (m_R 0 0) s m args below meth c H locs 0 0 (MQ below (m_Qv G M0) args s 0 0 (m_A G)) (F0 m 73 ls []) := by
    intro x3 M H locs ls hP hS hl hres
    unfold f_X8_stands_b73 at hres
    refine lv_aload_n X.1 X.2.1 dX8_stands_73 rfl (lv_at hl 0 rfl) ?_
    refine m_g8 (v := .ref (m_ad G 192)) X hSt hP m_z_172 39 (by decide) rfl k_f_X8_76 dX8_stands_74 ?_
    refine lv_aload_n X.1 X.2.1 dX8_stands_77 rfl (lv_at hl 0 rfl) ?_
    refine m_g8 (v := .int (M.1 172 40)) X hSt hP m_z_172 40 (by decide) rfl k_f_X8_289 dX8_stands_78 ?_
    refine lv_lload_n X.1 X.2.1 dX8_stands_81 rfl (lv_at hl 1 rfl) ?_
    obtain ⟨hg1, hres⟩ := m_gd_e hres
    obtain ⟨M2, eM2, hres⟩ := m_bd_e hres
    refine m_ls (j := ((M.1 172 40).toNatClampNeg)) X hSt hP hS m_z_192 hg1 rfl dX8_stands_82 eM2 (fun H locs hP hS => ?_)
    refine lv_aload_n X.1 X.2.1 dX8_stands_83 rfl (lv_at hl 0 rfl) ?_
    refine lv_dup X.1 X.2.1 dX8_stands_84 rfl ?_
    refine m_g8 (v := .int (M2.1 172 40)) X hSt hP m_z_172 40 (by decide) rfl k_f_X8_289 dX8_stands_85 ?_
    refine lv_iconst (v := 1) X.1 X.2.1 dX8_stands_88 (by decide) ?_
    refine lv_iadd X.1 X.2.1 dX8_stands_89 ?_
    obtain ⟨M3, eM3, hres⟩ := m_bd_e hres
    refine m_pi8 X hSt hP hS m_z_172 40 (by decide) eM3 rfl rfl (by decide) k_f_X8_289 dX8_stands_90 (fun H locs hP hS => ?_)
    exact m_rv X hr hlk hP hS (Option.some.inj hres) dX8_stands_93
  have B59 : ∀ (q2 : Int64 → m_M → Option m_M) (hq2 : ∀ (x3 : Int64) (M : m_M) (H : Heap) (locs : List Loc) (ls : Array Slot), m_P G M H → va_S (m_A G) s.heap H locs → lv_has ls 5 [(0, .ref (m_ad G 172)), (3, .long x3)] → q2 x3 M = some M0 → W p l e (m_R 0 0) s m args below meth c H locs 0 0 (MQ below (m_Qv G M0) args s 0 0 (m_A G)) (F0 m 2 ls [])) (s0 : Int64) (M : m_M) (H : Heap) (locs : List Loc) (ls : Array Slot), m_P G M H → va_S (m_A G) s.heap H locs → lv_has ls 5 [(0, .ref (m_ad G 172))] → f_X8_stands_b59 n x1 q2 s0 M = some M0 → W p l e (m_R 0 0) s m args below meth c H locs 0 0 (MQ below (m_Qv G M0) args s 0 0 (m_A G)) (F0 m 59 ls [.long s0]) := by
    intro q2 hq2 s0 M H locs ls hP hS hl hres
    unfold f_X8_stands_b59 at hres
    refine lv_lstore_n (lv' := [(3, .long s0), (0, .ref (m_ad G 172))]) X.1 X.2.1 dX8_stands_59 rfl hl (by decide) rfl (fun ls hl => ?_)
    refine lv_aload_n X.1 X.2.1 dX8_stands_60 rfl (lv_at hl 1 rfl) ?_
    refine lv_dup X.1 X.2.1 dX8_stands_61 rfl ?_
    refine m_g8 (v := .int (M.1 172 42)) X hSt hP m_z_172 42 (by decide) rfl k_f_X8_286 dX8_stands_62 ?_
    refine lv_iconst (v := 1) X.1 X.2.1 dX8_stands_65 (by decide) ?_
    refine lv_isub X.1 X.2.1 dX8_stands_66 ?_
    obtain ⟨M4, eM4, hres⟩ := m_bd_e hres
    refine m_pi8 X hSt hP hS m_z_172 42 (by decide) eM4 rfl rfl (by decide) k_f_X8_286 dX8_stands_67 (fun H locs hP hS => ?_)
    refine lv_goto (tgt := 2) X.1 X.2.1 dX8_stands_70 (by decide) ?_
    exact hq2 s0 M4 _ _ _ hP hS (lv_sub hl [1, 0] rfl) hres
  have B2 : ∀ (u : Nat) (x3 : Int64) (M : m_M) (H : Heap) (locs : List Loc) (ls : Array Slot), m_P G M H → va_S (m_A G) s.heap H locs → lv_has ls 5 [(0, .ref (m_ad G 172)), (3, .long x3)] → f_X8_stands_b2 n x1 u x3 M = some M0 → W p l e (m_R 0 0) s m args below meth c H locs 0 0 (MQ below (m_Qv G M0) args s 0 0 (m_A G)) (F0 m 2 ls []) := by
    intro u
    induction u with
    | zero =>
      intro x3 M H locs ls hP hS hl hres
      cases hres
    | succ u ih =>
      intro x3 M H locs ls hP hS hl hres
      rw [f_X8_stands_b2] at hres
      refine lv_aload_n X.1 X.2.1 dX8_stands_2 rfl (lv_at hl 0 rfl) ?_
      refine m_g8 (v := .int (M.1 172 42)) X hSt hP m_z_172 42 (by decide) rfl k_f_X8_286 dX8_stands_3 ?_
      refine lv_if_le (tgt := 73) X.1 X.2.1 dX8_stands_6 (by decide) (fun hc5 => ?_) (fun hc5 => ?_)
      · have hres := m_it hres hc5
        exact B73 x3 M _ _ _ hP hS (lv_sub hl [0, 1] rfl) hres
      · have hres := m_if hres hc5
        refine lv_aload_n X.1 X.2.1 dX8_stands_9 rfl (lv_at hl 0 rfl) ?_
        refine m_g8 (v := .ref (m_ad G 193)) X hSt hP m_z_172 41 (by decide) rfl k_f_X8_80 dX8_stands_10 ?_
        refine lv_aload_n X.1 X.2.1 dX8_stands_13 rfl (lv_at hl 0 rfl) ?_
        refine m_g8 (v := .int (M.1 172 42)) X hSt hP m_z_172 42 (by decide) rfl k_f_X8_286 dX8_stands_14 ?_
        refine lv_iconst (v := 1) X.1 X.2.1 dX8_stands_17 (by decide) ?_
        refine lv_isub X.1 X.2.1 dX8_stands_18 ?_
        obtain ⟨hg6, hres⟩ := m_gd_e hres
        refine m_ia (j := (((M.1 172 42) - (1 : Int32)).toNatClampNeg)) X hSt hP m_z_193 hg6 rfl dX8_stands_19 ?_
        refine lv_sipush (v := 1000) X.1 X.2.1 dX8_stands_20 (by decide) ?_
        refine lv_icmp_le (tgt := 73) X.1 X.2.1 dX8_stands_23 (by decide) (fun hc7 => ?_) (fun hc7 => ?_)
        · have hres := m_it hres hc7
          exact B73 x3 M _ _ _ hP hS (lv_sub hl [0, 1] rfl) hres
        · have hres := m_if hres hc7
          refine lv_aload_n X.1 X.2.1 dX8_stands_26 rfl (lv_at hl 0 rfl) ?_
          refine m_g8 (v := .ref (m_ad G 193)) X hSt hP m_z_172 41 (by decide) rfl k_f_X8_80 dX8_stands_27 ?_
          refine lv_aload_n X.1 X.2.1 dX8_stands_30 rfl (lv_at hl 0 rfl) ?_
          refine m_g8 (v := .int (M.1 172 42)) X hSt hP m_z_172 42 (by decide) rfl k_f_X8_286 dX8_stands_31 ?_
          refine lv_iconst (v := 1) X.1 X.2.1 dX8_stands_34 (by decide) ?_
          refine lv_isub X.1 X.2.1 dX8_stands_35 ?_
          refine m_ia (j := (((M.1 172 42) - (1 : Int32)).toNatClampNeg)) X hSt hP m_z_193 hg6 rfl dX8_stands_36 ?_
          refine lv_sipush (v := 1001) X.1 X.2.1 dX8_stands_37 (by decide) ?_
          refine lv_icmp_ne (tgt := 57) X.1 X.2.1 dX8_stands_40 (by decide) (fun hc8 => ?_) (fun hc8 => ?_)
          · have hres := m_if hres hc8
            refine lv_lload_n X.1 X.2.1 dX8_stands_57 rfl (lv_at hl 1 rfl) ?_
            refine lv_lneg X.1 X.2.1 dX8_stands_58 ?_
            exact B59 (f_X8_stands_b2 n x1 u) ih (-x3) M _ _ _ hP hS (lv_sub hl [0] rfl) hres
          · have hres := m_it hres hc8
            refine lv_lload_n X.1 X.2.1 dX8_stands_43 rfl (lv_at hl 1 rfl) ?_
            refine lv_lconst (v := 0) X.1 X.2.1 dX8_stands_44 (by decide) ?_
            refine m_lne (tgt := 53) X dX8_stands_45 dX8_stands_46 (by decide) (fun hc9 => ?_) (fun hc9 => ?_)
            · have hres := m_if hres hc9
              refine lv_lconst (v := 0) X.1 X.2.1 dX8_stands_53 (by decide) ?_
              refine lv_goto (tgt := 59) X.1 X.2.1 dX8_stands_54 (by decide) ?_
              exact B59 (f_X8_stands_b2 n x1 u) ih 0 M _ _ _ hP hS (lv_sub hl [0] rfl) hres
            · have hres := m_it hres hc9
              refine lv_lconst (v := 1) X.1 X.2.1 dX8_stands_49 (by decide) ?_
              refine lv_goto (tgt := 59) X.1 X.2.1 dX8_stands_50 (by decide) ?_
              exact B59 (f_X8_stands_b2 n x1 u) ih 1 M _ _ _ hP hS (lv_sub hl [0] rfl) hres
  unfold f_X8_stands at hres
  refine lv_lload_n X.1 X.2.1 dX8_stands_0 rfl (lv_at hl 1 rfl) ?_
  refine lv_lstore_n (lv' := [(3, .long x1), (0, .ref (m_ad G 172)), (1, .long x1)]) X.1 X.2.1 dX8_stands_1 rfl hl (by decide) rfl (fun ls hl => ?_)
  exact B2 n x1 M _ _ _ hP hS (lv_sub hl [1, 0] rfl) hres
theorem dX8_nameOf_0 : decode cX8_nameOf 0 = .ok (.iload_n 0, 1) := by decide +kernel
theorem dX8_nameOf_1 : decode cX8_nameOf 1 = .ok (.bipush 103, 2) := by decide +kernel
theorem dX8_nameOf_3 : decode cX8_nameOf 3 = .ok (.if_icmp .ne 7, 3) := by decide +kernel
theorem dX8_nameOf_6 : decode cX8_nameOf 6 = .ok (.iconst 0, 1) := by decide +kernel
theorem dX8_nameOf_7 : decode cX8_nameOf 7 = .ok (.goto 44, 3) := by decide +kernel
theorem dX8_nameOf_10 : decode cX8_nameOf 10 = .ok (.iload_n 0, 1) := by decide +kernel
theorem dX8_nameOf_11 : decode cX8_nameOf 11 = .ok (.bipush 115, 2) := by decide +kernel
theorem dX8_nameOf_13 : decode cX8_nameOf 13 = .ok (.if_icmp .ne 7, 3) := by decide +kernel
theorem dX8_nameOf_16 : decode cX8_nameOf 16 = .ok (.iconst 1, 1) := by decide +kernel
theorem dX8_nameOf_17 : decode cX8_nameOf 17 = .ok (.goto 34, 3) := by decide +kernel
theorem dX8_nameOf_20 : decode cX8_nameOf 20 = .ok (.iload_n 0, 1) := by decide +kernel
theorem dX8_nameOf_21 : decode cX8_nameOf 21 = .ok (.bipush 111, 2) := by decide +kernel
theorem dX8_nameOf_23 : decode cX8_nameOf 23 = .ok (.if_icmp .ne 7, 3) := by decide +kernel
theorem dX8_nameOf_26 : decode cX8_nameOf 26 = .ok (.iconst 2, 1) := by decide +kernel
theorem dX8_nameOf_27 : decode cX8_nameOf 27 = .ok (.goto 24, 3) := by decide +kernel
theorem dX8_nameOf_30 : decode cX8_nameOf 30 = .ok (.iload_n 0, 1) := by decide +kernel
theorem dX8_nameOf_31 : decode cX8_nameOf 31 = .ok (.bipush 119, 2) := by decide +kernel
theorem dX8_nameOf_33 : decode cX8_nameOf 33 = .ok (.if_icmp .ne 7, 3) := by decide +kernel
theorem dX8_nameOf_36 : decode cX8_nameOf 36 = .ok (.iconst 3, 1) := by decide +kernel
theorem dX8_nameOf_37 : decode cX8_nameOf 37 = .ok (.goto 14, 3) := by decide +kernel
theorem dX8_nameOf_40 : decode cX8_nameOf 40 = .ok (.iload_n 0, 1) := by decide +kernel
theorem dX8_nameOf_41 : decode cX8_nameOf 41 = .ok (.bipush 104, 2) := by decide +kernel
theorem dX8_nameOf_43 : decode cX8_nameOf 43 = .ok (.if_icmp .ne 7, 3) := by decide +kernel
theorem dX8_nameOf_46 : decode cX8_nameOf 46 = .ok (.iconst 4, 1) := by decide +kernel
theorem dX8_nameOf_47 : decode cX8_nameOf 47 = .ok (.goto 4, 3) := by decide +kernel
theorem dX8_nameOf_50 : decode cX8_nameOf 50 = .ok (.iconst (-1), 1) := by decide +kernel
theorem dX8_nameOf_51 : decode cX8_nameOf 51 = .ok (.ireturn, 1) := by decide +kernel
def f_X8_nameOf (x0 : Int32) : Int32 :=
  if x0 = 103 then
  0
  else
  if x0 = 115 then
  1
  else
  if x0 = 111 then
  2
  else
  if x0 = 119 then
  3
  else
  if x0 = 104 then
  4
  else
  (-1)
set_option maxHeartbeats 4000000 in
set_option maxRecDepth 100000 in
theorem c_X8_nameOf (l : Launch) (G : m_G) {x0 : Int32} {M : m_M} {r0 : Int32}  (hres : f_X8_nameOf x0 = r0) : Met l yX8_nameOf (m_U yX8_nameOf cX8_nameOf 1 (some .int)) (m_R 0 0) (m_Pc G [.int x0] M) (m_Qi G r0 M) 0 0 (m_A G) := by
  refine m_i0 (n := 1) RX8 rfl (by decide) (Nat.le_of_ble_eq_true rfl) ?_
  intro p e s m args below meth c X hr hlk hSt hP hS ls hl
  have hl : lv_has ls 1 [(0, .int x0)] := hl
  unfold f_X8_nameOf at hres
  refine lv_iload_n X.1 X.2.1 dX8_nameOf_0 rfl (lv_at hl 0 rfl) ?_
  refine lv_bipush (v := 103) X.1 X.2.1 dX8_nameOf_1 (by decide) ?_
  refine lv_icmp_ne (tgt := 10) X.1 X.2.1 dX8_nameOf_3 (by decide) (fun hc1 => ?_) (fun hc1 => ?_)
  · have hres := m_if hres hc1
    refine lv_iload_n X.1 X.2.1 dX8_nameOf_10 rfl (lv_at hl 0 rfl) ?_
    refine lv_bipush (v := 115) X.1 X.2.1 dX8_nameOf_11 (by decide) ?_
    refine lv_icmp_ne (tgt := 20) X.1 X.2.1 dX8_nameOf_13 (by decide) (fun hc2 => ?_) (fun hc2 => ?_)
    · have hres := m_if hres hc2
      refine lv_iload_n X.1 X.2.1 dX8_nameOf_20 rfl (lv_at hl 0 rfl) ?_
      refine lv_bipush (v := 111) X.1 X.2.1 dX8_nameOf_21 (by decide) ?_
      refine lv_icmp_ne (tgt := 30) X.1 X.2.1 dX8_nameOf_23 (by decide) (fun hc3 => ?_) (fun hc3 => ?_)
      · have hres := m_if hres hc3
        refine lv_iload_n X.1 X.2.1 dX8_nameOf_30 rfl (lv_at hl 0 rfl) ?_
        refine lv_bipush (v := 119) X.1 X.2.1 dX8_nameOf_31 (by decide) ?_
        refine lv_icmp_ne (tgt := 40) X.1 X.2.1 dX8_nameOf_33 (by decide) (fun hc4 => ?_) (fun hc4 => ?_)
        · have hres := m_if hres hc4
          refine lv_iload_n X.1 X.2.1 dX8_nameOf_40 rfl (lv_at hl 0 rfl) ?_
          refine lv_bipush (v := 104) X.1 X.2.1 dX8_nameOf_41 (by decide) ?_
          refine lv_icmp_ne (tgt := 50) X.1 X.2.1 dX8_nameOf_43 (by decide) (fun hc5 => ?_) (fun hc5 => ?_)
          · have hres := m_if hres hc5
            refine lv_iconst (v := (-1)) X.1 X.2.1 dX8_nameOf_50 (by decide) ?_
            exact m_ri X hr hlk hP hS hres rfl dX8_nameOf_51
          · have hres := m_it hres hc5
            refine lv_iconst (v := 4) X.1 X.2.1 dX8_nameOf_46 (by decide) ?_
            refine lv_goto (tgt := 51) X.1 X.2.1 dX8_nameOf_47 (by decide) ?_
            exact m_ri X hr hlk hP hS hres rfl dX8_nameOf_51
        · have hres := m_it hres hc4
          refine lv_iconst (v := 3) X.1 X.2.1 dX8_nameOf_36 (by decide) ?_
          refine lv_goto (tgt := 51) X.1 X.2.1 dX8_nameOf_37 (by decide) ?_
          exact m_ri X hr hlk hP hS hres rfl dX8_nameOf_51
      · have hres := m_it hres hc3
        refine lv_iconst (v := 2) X.1 X.2.1 dX8_nameOf_26 (by decide) ?_
        refine lv_goto (tgt := 51) X.1 X.2.1 dX8_nameOf_27 (by decide) ?_
        exact m_ri X hr hlk hP hS hres rfl dX8_nameOf_51
    · have hres := m_it hres hc2
      refine lv_iconst (v := 1) X.1 X.2.1 dX8_nameOf_16 (by decide) ?_
      refine lv_goto (tgt := 51) X.1 X.2.1 dX8_nameOf_17 (by decide) ?_
      exact m_ri X hr hlk hP hS hres rfl dX8_nameOf_51
  · have hres := m_it hres hc1
    refine lv_iconst (v := 0) X.1 X.2.1 dX8_nameOf_6 (by decide) ?_
    refine lv_goto (tgt := 51) X.1 X.2.1 dX8_nameOf_7 (by decide) ?_
    exact m_ri X hr hlk hP hS hres rfl dX8_nameOf_51
theorem dX8_rank_0 : decode cX8_rank 0 = .ok (.iload_n 0, 1) := by decide +kernel
theorem dX8_rank_1 : decode cX8_rank 1 = .ok (.lookupswitch 93 #[(38, 85), (42, 91), (43, 89), (45, 89), (47, 91), (60, 87), (61, 87), (62, 87), (124, 83)], 83) := by decide +kernel
theorem dX8_rank_84 : decode cX8_rank 84 = .ok (.iconst 1, 1) := by decide +kernel
theorem dX8_rank_85 : decode cX8_rank 85 = .ok (.ireturn, 1) := by decide +kernel
theorem dX8_rank_86 : decode cX8_rank 86 = .ok (.iconst 2, 1) := by decide +kernel
theorem dX8_rank_87 : decode cX8_rank 87 = .ok (.ireturn, 1) := by decide +kernel
theorem dX8_rank_88 : decode cX8_rank 88 = .ok (.iconst 3, 1) := by decide +kernel
theorem dX8_rank_89 : decode cX8_rank 89 = .ok (.ireturn, 1) := by decide +kernel
theorem dX8_rank_90 : decode cX8_rank 90 = .ok (.iconst 4, 1) := by decide +kernel
theorem dX8_rank_91 : decode cX8_rank 91 = .ok (.ireturn, 1) := by decide +kernel
theorem dX8_rank_92 : decode cX8_rank 92 = .ok (.iconst 5, 1) := by decide +kernel
theorem dX8_rank_93 : decode cX8_rank 93 = .ok (.ireturn, 1) := by decide +kernel
theorem dX8_rank_94 : decode cX8_rank 94 = .ok (.iconst 0, 1) := by decide +kernel
theorem dX8_rank_95 : decode cX8_rank 95 = .ok (.ireturn, 1) := by decide +kernel
def f_X8_rank (x0 : Int32) : Int32 :=
  if x0 = 38 then
  2
  else
  if x0 = 42 ∨ x0 = 47 then
  5
  else
  if x0 = 43 ∨ x0 = 45 then
  4
  else
  if x0 = 60 ∨ x0 = 61 ∨ x0 = 62 then
  3
  else
  if x0 = 124 then
  1
  else
  0
set_option maxHeartbeats 4000000 in
set_option maxRecDepth 100000 in
theorem c_X8_rank (l : Launch) (G : m_G) {x0 : Int32} {M : m_M} {r0 : Int32}  (hres : f_X8_rank x0 = r0) : Met l yX8_rank (m_U yX8_rank cX8_rank 1 (some .int)) (m_R 0 0) (m_Pc G [.int x0] M) (m_Qi G r0 M) 0 0 (m_A G) := by
  refine m_i0 (n := 1) RX8 rfl (by decide) (Nat.le_of_ble_eq_true rfl) ?_
  intro p e s m args below meth c X hr hlk hSt hP hS ls hl
  have hl : lv_has ls 1 [(0, .int x0)] := hl
  unfold f_X8_rank at hres
  refine lv_iload_n X.1 X.2.1 dX8_rank_0 rfl (lv_at hl 0 rfl) ?_
  by_cases hc1 : x0 = 38
  · have hres := m_it hres hc1
    refine m_lin (tgt := 86) (off := 85) X dX8_rank_1 ⟨_, hc1, by decide⟩ (by decide) (by decide) ?_
    refine lv_iconst (v := 2) X.1 X.2.1 dX8_rank_86 (by decide) ?_
    exact m_ri X hr hlk hP hS hres rfl dX8_rank_87
  · have hres := m_if hres hc1
    by_cases hc2 : x0 = 42 ∨ x0 = 47
    · have hres := m_it hres hc2
      refine m_lin (tgt := 92) (off := 91) X dX8_rank_1 (by rcases hc2 with h | h <;> exact ⟨_, h, by decide⟩) (by decide) (by decide) ?_
      refine lv_iconst (v := 5) X.1 X.2.1 dX8_rank_92 (by decide) ?_
      exact m_ri X hr hlk hP hS hres rfl dX8_rank_93
    · have hres := m_if hres hc2
      by_cases hc3 : x0 = 43 ∨ x0 = 45
      · have hres := m_it hres hc3
        refine m_lin (tgt := 90) (off := 89) X dX8_rank_1 (by rcases hc3 with h | h <;> exact ⟨_, h, by decide⟩) (by decide) (by decide) ?_
        refine lv_iconst (v := 4) X.1 X.2.1 dX8_rank_90 (by decide) ?_
        exact m_ri X hr hlk hP hS hres rfl dX8_rank_91
      · have hres := m_if hres hc3
        by_cases hc4 : x0 = 60 ∨ x0 = 61 ∨ x0 = 62
        · have hres := m_it hres hc4
          refine m_lin (tgt := 88) (off := 87) X dX8_rank_1 (by rcases hc4 with h | h | h <;> exact ⟨_, h, by decide⟩) (by decide) (by decide) ?_
          refine lv_iconst (v := 3) X.1 X.2.1 dX8_rank_88 (by decide) ?_
          exact m_ri X hr hlk hP hS hres rfl dX8_rank_89
        · have hres := m_if hres hc4
          by_cases hc5 : x0 = 124
          · have hres := m_it hres hc5
            refine m_lin (tgt := 84) (off := 83) X dX8_rank_1 ⟨_, hc5, by decide⟩ (by decide) (by decide) ?_
            refine lv_iconst (v := 1) X.1 X.2.1 dX8_rank_84 (by decide) ?_
            exact m_ri X hr hlk hP hS hres rfl dX8_rank_85
          · have hres := m_if hres hc5
            refine lv_lookup (tgt := 94) X.1 X.2.1 dX8_rank_1 (by decide) (m_lkd (List.forall_mem_cons.mpr ⟨(m_ne (z := 38) hc1 (by decide)).symm, List.forall_mem_cons.mpr ⟨(m_ne (z := 42) (not_or.mp hc2).1 (by decide)).symm, List.forall_mem_cons.mpr ⟨(m_ne (z := 43) (not_or.mp hc3).1 (by decide)).symm, List.forall_mem_cons.mpr ⟨(m_ne (z := 45) (not_or.mp hc3).2 (by decide)).symm, List.forall_mem_cons.mpr ⟨(m_ne (z := 47) (not_or.mp hc2).2 (by decide)).symm, List.forall_mem_cons.mpr ⟨(m_ne (z := 60) (not_or.mp hc4).1 (by decide)).symm, List.forall_mem_cons.mpr ⟨(m_ne (z := 61) (not_or.mp (not_or.mp hc4).2).1 (by decide)).symm, List.forall_mem_cons.mpr ⟨(m_ne (z := 62) (not_or.mp (not_or.mp hc4).2).2 (by decide)).symm, List.forall_mem_cons.mpr ⟨(m_ne (z := 124) hc5 (by decide)).symm, List.forall_mem_nil _⟩⟩⟩⟩⟩⟩⟩⟩⟩)) (by decide) ?_
            refine lv_iconst (v := 0) X.1 X.2.1 dX8_rank_94 (by decide) ?_
            exact m_ri X hr hlk hP hS hres rfl dX8_rank_95
theorem dX8_workOut_0 : decode cX8_workOut 0 = .ok (.aload_n 0, 1) := by decide +kernel
theorem dX8_workOut_1 : decode cX8_workOut 1 = .ok (.dup, 1) := by decide +kernel
theorem dX8_workOut_2 : decode cX8_workOut 2 = .ok (.getfield 286, 3) := by decide +kernel
theorem dX8_workOut_5 : decode cX8_workOut 5 = .ok (.iconst 1, 1) := by decide +kernel
theorem dX8_workOut_6 : decode cX8_workOut 6 = .ok (.isub, 1) := by decide +kernel
theorem dX8_workOut_7 : decode cX8_workOut 7 = .ok (.putfield 286, 3) := by decide +kernel
theorem dX8_workOut_10 : decode cX8_workOut 10 = .ok (.aload_n 0, 1) := by decide +kernel
theorem dX8_workOut_11 : decode cX8_workOut 11 = .ok (.dup, 1) := by decide +kernel
theorem dX8_workOut_12 : decode cX8_workOut 12 = .ok (.getfield 289, 3) := by decide +kernel
theorem dX8_workOut_15 : decode cX8_workOut 15 = .ok (.iconst 1, 1) := by decide +kernel
theorem dX8_workOut_16 : decode cX8_workOut 16 = .ok (.isub, 1) := by decide +kernel
theorem dX8_workOut_17 : decode cX8_workOut 17 = .ok (.putfield 289, 3) := by decide +kernel
theorem dX8_workOut_20 : decode cX8_workOut 20 = .ok (.aload_n 0, 1) := by decide +kernel
theorem dX8_workOut_21 : decode cX8_workOut 21 = .ok (.getfield 76, 3) := by decide +kernel
theorem dX8_workOut_24 : decode cX8_workOut 24 = .ok (.aload_n 0, 1) := by decide +kernel
theorem dX8_workOut_25 : decode cX8_workOut 25 = .ok (.getfield 289, 3) := by decide +kernel
theorem dX8_workOut_28 : decode cX8_workOut 28 = .ok (.iconst 1, 1) := by decide +kernel
theorem dX8_workOut_29 : decode cX8_workOut 29 = .ok (.isub, 1) := by decide +kernel
theorem dX8_workOut_30 : decode cX8_workOut 30 = .ok (.laload, 1) := by decide +kernel
theorem dX8_workOut_31 : decode cX8_workOut 31 = .ok (.lstore_n 1, 1) := by decide +kernel
theorem dX8_workOut_32 : decode cX8_workOut 32 = .ok (.aload_n 0, 1) := by decide +kernel
theorem dX8_workOut_33 : decode cX8_workOut 33 = .ok (.getfield 76, 3) := by decide +kernel
theorem dX8_workOut_36 : decode cX8_workOut 36 = .ok (.aload_n 0, 1) := by decide +kernel
theorem dX8_workOut_37 : decode cX8_workOut 37 = .ok (.getfield 289, 3) := by decide +kernel
theorem dX8_workOut_40 : decode cX8_workOut 40 = .ok (.laload, 1) := by decide +kernel
theorem dX8_workOut_41 : decode cX8_workOut 41 = .ok (.lstore_n 3, 1) := by decide +kernel
theorem dX8_workOut_42 : decode cX8_workOut 42 = .ok (.lconst 0, 1) := by decide +kernel
theorem dX8_workOut_43 : decode cX8_workOut 43 = .ok (.lstore 5, 2) := by decide +kernel
theorem dX8_workOut_45 : decode cX8_workOut 45 = .ok (.aload_n 0, 1) := by decide +kernel
theorem dX8_workOut_46 : decode cX8_workOut 46 = .ok (.getfield 80, 3) := by decide +kernel
theorem dX8_workOut_49 : decode cX8_workOut 49 = .ok (.aload_n 0, 1) := by decide +kernel
theorem dX8_workOut_50 : decode cX8_workOut 50 = .ok (.getfield 286, 3) := by decide +kernel
theorem dX8_workOut_53 : decode cX8_workOut 53 = .ok (.iaload, 1) := by decide +kernel
theorem dX8_workOut_54 : decode cX8_workOut 54 = .ok (.lookupswitch 190 #[(38, 96), (42, 182), (43, 166), (45, 174), (60, 118), (61, 150), (62, 134), (124, 74)], 74) := by decide +kernel
theorem dX8_workOut_128 : decode cX8_workOut 128 = .ok (.lload_n 1, 1) := by decide +kernel
theorem dX8_workOut_129 : decode cX8_workOut 129 = .ok (.lconst 0, 1) := by decide +kernel
theorem dX8_workOut_130 : decode cX8_workOut 130 = .ok (.lcmp, 1) := by decide +kernel
theorem dX8_workOut_131 : decode cX8_workOut 131 = .ok (.ifCond .ne 9, 3) := by decide +kernel
theorem dX8_workOut_134 : decode cX8_workOut 134 = .ok (.lload_n 3, 1) := by decide +kernel
theorem dX8_workOut_135 : decode cX8_workOut 135 = .ok (.lconst 0, 1) := by decide +kernel
theorem dX8_workOut_136 : decode cX8_workOut 136 = .ok (.lcmp, 1) := by decide +kernel
theorem dX8_workOut_137 : decode cX8_workOut 137 = .ok (.ifCond .eq 7, 3) := by decide +kernel
theorem dX8_workOut_140 : decode cX8_workOut 140 = .ok (.lconst 1, 1) := by decide +kernel
theorem dX8_workOut_141 : decode cX8_workOut 141 = .ok (.goto 4, 3) := by decide +kernel
theorem dX8_workOut_144 : decode cX8_workOut 144 = .ok (.lconst 0, 1) := by decide +kernel
theorem dX8_workOut_145 : decode cX8_workOut 145 = .ok (.lstore 5, 2) := by decide +kernel
theorem dX8_workOut_147 : decode cX8_workOut 147 = .ok (.goto 112, 3) := by decide +kernel
theorem dX8_workOut_150 : decode cX8_workOut 150 = .ok (.lload_n 1, 1) := by decide +kernel
theorem dX8_workOut_151 : decode cX8_workOut 151 = .ok (.lconst 0, 1) := by decide +kernel
theorem dX8_workOut_152 : decode cX8_workOut 152 = .ok (.lcmp, 1) := by decide +kernel
theorem dX8_workOut_153 : decode cX8_workOut 153 = .ok (.ifCond .eq 13, 3) := by decide +kernel
theorem dX8_workOut_156 : decode cX8_workOut 156 = .ok (.lload_n 3, 1) := by decide +kernel
theorem dX8_workOut_157 : decode cX8_workOut 157 = .ok (.lconst 0, 1) := by decide +kernel
theorem dX8_workOut_158 : decode cX8_workOut 158 = .ok (.lcmp, 1) := by decide +kernel
theorem dX8_workOut_159 : decode cX8_workOut 159 = .ok (.ifCond .eq 7, 3) := by decide +kernel
theorem dX8_workOut_162 : decode cX8_workOut 162 = .ok (.lconst 1, 1) := by decide +kernel
theorem dX8_workOut_163 : decode cX8_workOut 163 = .ok (.goto 4, 3) := by decide +kernel
theorem dX8_workOut_166 : decode cX8_workOut 166 = .ok (.lconst 0, 1) := by decide +kernel
theorem dX8_workOut_167 : decode cX8_workOut 167 = .ok (.lstore 5, 2) := by decide +kernel
theorem dX8_workOut_169 : decode cX8_workOut 169 = .ok (.goto 90, 3) := by decide +kernel
theorem dX8_workOut_172 : decode cX8_workOut 172 = .ok (.lload_n 1, 1) := by decide +kernel
theorem dX8_workOut_173 : decode cX8_workOut 173 = .ok (.lload_n 3, 1) := by decide +kernel
theorem dX8_workOut_174 : decode cX8_workOut 174 = .ok (.lcmp, 1) := by decide +kernel
theorem dX8_workOut_175 : decode cX8_workOut 175 = .ok (.ifCond .ge 7, 3) := by decide +kernel
theorem dX8_workOut_178 : decode cX8_workOut 178 = .ok (.lconst 1, 1) := by decide +kernel
theorem dX8_workOut_179 : decode cX8_workOut 179 = .ok (.goto 4, 3) := by decide +kernel
theorem dX8_workOut_182 : decode cX8_workOut 182 = .ok (.lconst 0, 1) := by decide +kernel
theorem dX8_workOut_183 : decode cX8_workOut 183 = .ok (.lstore 5, 2) := by decide +kernel
theorem dX8_workOut_185 : decode cX8_workOut 185 = .ok (.goto 74, 3) := by decide +kernel
theorem dX8_workOut_188 : decode cX8_workOut 188 = .ok (.lload_n 1, 1) := by decide +kernel
theorem dX8_workOut_189 : decode cX8_workOut 189 = .ok (.lload_n 3, 1) := by decide +kernel
theorem dX8_workOut_190 : decode cX8_workOut 190 = .ok (.lcmp, 1) := by decide +kernel
theorem dX8_workOut_191 : decode cX8_workOut 191 = .ok (.ifCond .le 7, 3) := by decide +kernel
theorem dX8_workOut_194 : decode cX8_workOut 194 = .ok (.lconst 1, 1) := by decide +kernel
theorem dX8_workOut_195 : decode cX8_workOut 195 = .ok (.goto 4, 3) := by decide +kernel
theorem dX8_workOut_198 : decode cX8_workOut 198 = .ok (.lconst 0, 1) := by decide +kernel
theorem dX8_workOut_199 : decode cX8_workOut 199 = .ok (.lstore 5, 2) := by decide +kernel
theorem dX8_workOut_201 : decode cX8_workOut 201 = .ok (.goto 58, 3) := by decide +kernel
theorem dX8_workOut_204 : decode cX8_workOut 204 = .ok (.lload_n 1, 1) := by decide +kernel
theorem dX8_workOut_205 : decode cX8_workOut 205 = .ok (.lload_n 3, 1) := by decide +kernel
theorem dX8_workOut_206 : decode cX8_workOut 206 = .ok (.lcmp, 1) := by decide +kernel
theorem dX8_workOut_207 : decode cX8_workOut 207 = .ok (.ifCond .ne 7, 3) := by decide +kernel
theorem dX8_workOut_210 : decode cX8_workOut 210 = .ok (.lconst 1, 1) := by decide +kernel
theorem dX8_workOut_211 : decode cX8_workOut 211 = .ok (.goto 4, 3) := by decide +kernel
theorem dX8_workOut_214 : decode cX8_workOut 214 = .ok (.lconst 0, 1) := by decide +kernel
theorem dX8_workOut_215 : decode cX8_workOut 215 = .ok (.lstore 5, 2) := by decide +kernel
theorem dX8_workOut_217 : decode cX8_workOut 217 = .ok (.goto 42, 3) := by decide +kernel
theorem dX8_workOut_220 : decode cX8_workOut 220 = .ok (.lload_n 1, 1) := by decide +kernel
theorem dX8_workOut_221 : decode cX8_workOut 221 = .ok (.lload_n 3, 1) := by decide +kernel
theorem dX8_workOut_222 : decode cX8_workOut 222 = .ok (.ladd, 1) := by decide +kernel
theorem dX8_workOut_223 : decode cX8_workOut 223 = .ok (.lstore 5, 2) := by decide +kernel
theorem dX8_workOut_225 : decode cX8_workOut 225 = .ok (.goto 34, 3) := by decide +kernel
theorem dX8_workOut_228 : decode cX8_workOut 228 = .ok (.lload_n 1, 1) := by decide +kernel
theorem dX8_workOut_229 : decode cX8_workOut 229 = .ok (.lload_n 3, 1) := by decide +kernel
theorem dX8_workOut_230 : decode cX8_workOut 230 = .ok (.lsub, 1) := by decide +kernel
theorem dX8_workOut_231 : decode cX8_workOut 231 = .ok (.lstore 5, 2) := by decide +kernel
theorem dX8_workOut_233 : decode cX8_workOut 233 = .ok (.goto 26, 3) := by decide +kernel
theorem dX8_workOut_236 : decode cX8_workOut 236 = .ok (.lload_n 1, 1) := by decide +kernel
theorem dX8_workOut_237 : decode cX8_workOut 237 = .ok (.lload_n 3, 1) := by decide +kernel
theorem dX8_workOut_238 : decode cX8_workOut 238 = .ok (.lmul, 1) := by decide +kernel
theorem dX8_workOut_239 : decode cX8_workOut 239 = .ok (.lstore 5, 2) := by decide +kernel
theorem dX8_workOut_241 : decode cX8_workOut 241 = .ok (.goto 18, 3) := by decide +kernel
theorem dX8_workOut_244 : decode cX8_workOut 244 = .ok (.lload_n 3, 1) := by decide +kernel
theorem dX8_workOut_245 : decode cX8_workOut 245 = .ok (.lconst 0, 1) := by decide +kernel
theorem dX8_workOut_246 : decode cX8_workOut 246 = .ok (.lcmp, 1) := by decide +kernel
theorem dX8_workOut_247 : decode cX8_workOut 247 = .ok (.ifCond .ne 7, 3) := by decide +kernel
theorem dX8_workOut_250 : decode cX8_workOut 250 = .ok (.lconst 0, 1) := by decide +kernel
theorem dX8_workOut_251 : decode cX8_workOut 251 = .ok (.goto 6, 3) := by decide +kernel
theorem dX8_workOut_254 : decode cX8_workOut 254 = .ok (.lload_n 1, 1) := by decide +kernel
theorem dX8_workOut_255 : decode cX8_workOut 255 = .ok (.lload_n 3, 1) := by decide +kernel
theorem dX8_workOut_256 : decode cX8_workOut 256 = .ok (.ldiv, 1) := by decide +kernel
theorem dX8_workOut_257 : decode cX8_workOut 257 = .ok (.lstore 5, 2) := by decide +kernel
theorem dX8_workOut_259 : decode cX8_workOut 259 = .ok (.aload_n 0, 1) := by decide +kernel
theorem dX8_workOut_260 : decode cX8_workOut 260 = .ok (.getfield 76, 3) := by decide +kernel
theorem dX8_workOut_263 : decode cX8_workOut 263 = .ok (.aload_n 0, 1) := by decide +kernel
theorem dX8_workOut_264 : decode cX8_workOut 264 = .ok (.getfield 289, 3) := by decide +kernel
theorem dX8_workOut_267 : decode cX8_workOut 267 = .ok (.iconst 1, 1) := by decide +kernel
theorem dX8_workOut_268 : decode cX8_workOut 268 = .ok (.isub, 1) := by decide +kernel
theorem dX8_workOut_269 : decode cX8_workOut 269 = .ok (.lload 5, 2) := by decide +kernel
theorem dX8_workOut_271 : decode cX8_workOut 271 = .ok (.lastore, 1) := by decide +kernel
theorem dX8_workOut_272 : decode cX8_workOut 272 = .ok (.return_, 1) := by decide +kernel
def f_X8_workOut_b259  (x5 : Int64) (M : m_M) : Option m_M :=
  m_gd (m_in ((M.1 172 40) - (1 : Int32)) 64) (
  m_bd (m_sL M 192 (((M.1 172 40) - (1 : Int32)).toNatClampNeg) x5) fun M2 =>
  some M2)
def f_X8_workOut (M : m_M) : Option m_M :=
  m_bd (m_sI M 172 42 ((M.1 172 42) - (1 : Int32))) fun M3 =>
  m_bd (m_sI M3 172 40 ((M3.1 172 40) - (1 : Int32))) fun M4 =>
  m_gd (m_in ((M4.1 172 40) - (1 : Int32)) 64) (
  m_bd (M4.2 192 (((M4.1 172 40) - (1 : Int32)).toNatClampNeg)) fun t6 =>
  m_gd (m_in (M4.1 172 40) 64) (
  m_bd (M4.2 192 ((M4.1 172 40).toNatClampNeg)) fun t8 =>
  m_gd (m_in (M4.1 172 42) 128) (
  if (M4.1 193 ((M4.1 172 42).toNatClampNeg)) = 38 then
  if t6 = 0 then
  f_X8_workOut_b259 0 M4
  else
  if t8 = 0 then
  f_X8_workOut_b259 0 M4
  else
  f_X8_workOut_b259 1 M4
  else
  if (M4.1 193 ((M4.1 172 42).toNatClampNeg)) = 42 then
  f_X8_workOut_b259 (t6 * t8) M4
  else
  if (M4.1 193 ((M4.1 172 42).toNatClampNeg)) = 43 then
  f_X8_workOut_b259 (t6 + t8) M4
  else
  if (M4.1 193 ((M4.1 172 42).toNatClampNeg)) = 45 then
  f_X8_workOut_b259 (t6 - t8) M4
  else
  if (M4.1 193 ((M4.1 172 42).toNatClampNeg)) = 60 then
  if t8 ≤ t6 then
  f_X8_workOut_b259 0 M4
  else
  f_X8_workOut_b259 1 M4
  else
  if (M4.1 193 ((M4.1 172 42).toNatClampNeg)) = 61 then
  if t6 = t8 then
  f_X8_workOut_b259 1 M4
  else
  f_X8_workOut_b259 0 M4
  else
  if (M4.1 193 ((M4.1 172 42).toNatClampNeg)) = 62 then
  if t6 ≤ t8 then
  f_X8_workOut_b259 0 M4
  else
  f_X8_workOut_b259 1 M4
  else
  if (M4.1 193 ((M4.1 172 42).toNatClampNeg)) = 124 then
  if t6 = 0 then
  if t8 = 0 then
  f_X8_workOut_b259 0 M4
  else
  f_X8_workOut_b259 1 M4
  else
  f_X8_workOut_b259 1 M4
  else
  if t8 = 0 then
  f_X8_workOut_b259 0 M4
  else
  m_gd (¬ t8 = 0) (
  f_X8_workOut_b259 (t6 / t8) M4))))
set_option maxHeartbeats 4000000 in
set_option maxRecDepth 100000 in
theorem c_X8_workOut (l : Launch) (G : m_G) {M : m_M} {M0 : m_M}  (hres : f_X8_workOut M = some M0) : Met l yX8_workOut (m_U yX8_workOut cX8_workOut 7 none) (m_R 0 0) (m_Pc G [.ref (m_ad G 172)] M) (m_Qv G M0) 0 0 (m_A G) := by
  refine m_i0 (n := 7) RX8 rfl (by decide) (Nat.le_of_ble_eq_true rfl) ?_
  intro p e s m args below meth c X hr hlk hSt hP hS ls hl
  have hl : lv_has ls 7 [(0, .ref (m_ad G 172))] := hl
  have B259 : ∀  (x5 : Int64) (M : m_M) (H : Heap) (locs : List Loc) (ls : Array Slot), m_P G M H → va_S (m_A G) s.heap H locs → lv_has ls 7 [(0, .ref (m_ad G 172)), (5, .long x5)] → f_X8_workOut_b259 x5 M = some M0 → W p l e (m_R 0 0) s m args below meth c H locs 0 0 (MQ below (m_Qv G M0) args s 0 0 (m_A G)) (F0 m 259 ls []) := by
    intro x5 M H locs ls hP hS hl hres
    unfold f_X8_workOut_b259 at hres
    refine lv_aload_n X.1 X.2.1 dX8_workOut_259 rfl (lv_at hl 0 rfl) ?_
    refine m_g8 (v := .ref (m_ad G 192)) X hSt hP m_z_172 39 (by decide) rfl k_f_X8_76 dX8_workOut_260 ?_
    refine lv_aload_n X.1 X.2.1 dX8_workOut_263 rfl (lv_at hl 0 rfl) ?_
    refine m_g8 (v := .int (M.1 172 40)) X hSt hP m_z_172 40 (by decide) rfl k_f_X8_289 dX8_workOut_264 ?_
    refine lv_iconst (v := 1) X.1 X.2.1 dX8_workOut_267 (by decide) ?_
    refine lv_isub X.1 X.2.1 dX8_workOut_268 ?_
    refine lv_lload X.1 X.2.1 dX8_workOut_269 (lv_at hl 1 rfl) ?_
    obtain ⟨hg1, hres⟩ := m_gd_e hres
    obtain ⟨M2, eM2, hres⟩ := m_bd_e hres
    refine m_ls (j := (((M.1 172 40) - (1 : Int32)).toNatClampNeg)) X hSt hP hS m_z_192 hg1 rfl dX8_workOut_271 eM2 (fun H locs hP hS => ?_)
    exact m_rv X hr hlk hP hS (Option.some.inj hres) dX8_workOut_272
  unfold f_X8_workOut at hres
  refine lv_aload_n X.1 X.2.1 dX8_workOut_0 rfl (lv_at hl 0 rfl) ?_
  refine lv_dup X.1 X.2.1 dX8_workOut_1 rfl ?_
  refine m_g8 (v := .int (M.1 172 42)) X hSt hP m_z_172 42 (by decide) rfl k_f_X8_286 dX8_workOut_2 ?_
  refine lv_iconst (v := 1) X.1 X.2.1 dX8_workOut_5 (by decide) ?_
  refine lv_isub X.1 X.2.1 dX8_workOut_6 ?_
  obtain ⟨M3, eM3, hres⟩ := m_bd_e hres
  refine m_pi8 X hSt hP hS m_z_172 42 (by decide) eM3 rfl rfl (by decide) k_f_X8_286 dX8_workOut_7 (fun H locs hP hS => ?_)
  refine lv_aload_n X.1 X.2.1 dX8_workOut_10 rfl (lv_at hl 0 rfl) ?_
  refine lv_dup X.1 X.2.1 dX8_workOut_11 rfl ?_
  refine m_g8 (v := .int (M3.1 172 40)) X hSt hP m_z_172 40 (by decide) rfl k_f_X8_289 dX8_workOut_12 ?_
  refine lv_iconst (v := 1) X.1 X.2.1 dX8_workOut_15 (by decide) ?_
  refine lv_isub X.1 X.2.1 dX8_workOut_16 ?_
  obtain ⟨M4, eM4, hres⟩ := m_bd_e hres
  refine m_pi8 X hSt hP hS m_z_172 40 (by decide) eM4 rfl rfl (by decide) k_f_X8_289 dX8_workOut_17 (fun H locs hP hS => ?_)
  refine lv_aload_n X.1 X.2.1 dX8_workOut_20 rfl (lv_at hl 0 rfl) ?_
  refine m_g8 (v := .ref (m_ad G 192)) X hSt hP m_z_172 39 (by decide) rfl k_f_X8_76 dX8_workOut_21 ?_
  refine lv_aload_n X.1 X.2.1 dX8_workOut_24 rfl (lv_at hl 0 rfl) ?_
  refine m_g8 (v := .int (M4.1 172 40)) X hSt hP m_z_172 40 (by decide) rfl k_f_X8_289 dX8_workOut_25 ?_
  refine lv_iconst (v := 1) X.1 X.2.1 dX8_workOut_28 (by decide) ?_
  refine lv_isub X.1 X.2.1 dX8_workOut_29 ?_
  obtain ⟨hg5, hres⟩ := m_gd_e hres
  refine m_la (j := (((M4.1 172 40) - (1 : Int32)).toNatClampNeg)) X hSt hP m_z_192 hg5 rfl dX8_workOut_30 ?_
  obtain ⟨t6, et6, hres⟩ := m_bd_e hres
  refine m_tl et6 ?_
  refine lv_lstore_n (lv' := [(1, .long t6), (0, .ref (m_ad G 172))]) X.1 X.2.1 dX8_workOut_31 rfl hl (by decide) rfl (fun ls hl => ?_)
  refine lv_aload_n X.1 X.2.1 dX8_workOut_32 rfl (lv_at hl 1 rfl) ?_
  refine m_g8 (v := .ref (m_ad G 192)) X hSt hP m_z_172 39 (by decide) rfl k_f_X8_76 dX8_workOut_33 ?_
  refine lv_aload_n X.1 X.2.1 dX8_workOut_36 rfl (lv_at hl 1 rfl) ?_
  refine m_g8 (v := .int (M4.1 172 40)) X hSt hP m_z_172 40 (by decide) rfl k_f_X8_289 dX8_workOut_37 ?_
  obtain ⟨hg7, hres⟩ := m_gd_e hres
  refine m_la (j := ((M4.1 172 40).toNatClampNeg)) X hSt hP m_z_192 hg7 rfl dX8_workOut_40 ?_
  obtain ⟨t8, et8, hres⟩ := m_bd_e hres
  refine m_tl et8 ?_
  refine lv_lstore_n (lv' := [(3, .long t8), (1, .long t6), (0, .ref (m_ad G 172))]) X.1 X.2.1 dX8_workOut_41 rfl hl (by decide) rfl (fun ls hl => ?_)
  refine lv_lconst (v := 0) X.1 X.2.1 dX8_workOut_42 (by decide) ?_
  refine lv_lstore (lv' := [(5, .long 0), (3, .long t8), (1, .long t6), (0, .ref (m_ad G 172))]) X.1 X.2.1 dX8_workOut_43 hl (by decide) rfl (fun ls hl => ?_)
  refine lv_aload_n X.1 X.2.1 dX8_workOut_45 rfl (lv_at hl 3 rfl) ?_
  refine m_g8 (v := .ref (m_ad G 193)) X hSt hP m_z_172 41 (by decide) rfl k_f_X8_80 dX8_workOut_46 ?_
  refine lv_aload_n X.1 X.2.1 dX8_workOut_49 rfl (lv_at hl 3 rfl) ?_
  refine m_g8 (v := .int (M4.1 172 42)) X hSt hP m_z_172 42 (by decide) rfl k_f_X8_286 dX8_workOut_50 ?_
  obtain ⟨hg9, hres⟩ := m_gd_e hres
  refine m_ia (j := ((M4.1 172 42).toNatClampNeg)) X hSt hP m_z_193 hg9 rfl dX8_workOut_53 ?_
  by_cases hc10 : (M4.1 193 ((M4.1 172 42).toNatClampNeg)) = 38
  · have hres := m_it hres hc10
    refine m_lin (tgt := 150) (off := 96) X dX8_workOut_54 ⟨_, hc10, by decide⟩ (by decide) (by decide) ?_
    refine lv_lload_n X.1 X.2.1 dX8_workOut_150 rfl (lv_at hl 2 rfl) ?_
    refine lv_lconst (v := 0) X.1 X.2.1 dX8_workOut_151 (by decide) ?_
    refine m_leq (tgt := 166) X dX8_workOut_152 dX8_workOut_153 (by decide) (fun hc11 => ?_) (fun hc11 => ?_)
    · have hres := m_it hres hc11
      refine lv_lconst (v := 0) X.1 X.2.1 dX8_workOut_166 (by decide) ?_
      refine lv_lstore (lv' := [(5, .long 0), (3, .long t8), (1, .long t6), (0, .ref (m_ad G 172))]) X.1 X.2.1 dX8_workOut_167 hl (by decide) rfl (fun ls hl => ?_)
      refine lv_goto (tgt := 259) X.1 X.2.1 dX8_workOut_169 (by decide) ?_
      exact B259 0 M4 _ _ _ hP hS (lv_sub hl [3, 0] rfl) hres
    · have hres := m_if hres hc11
      refine lv_lload_n X.1 X.2.1 dX8_workOut_156 rfl (lv_at hl 1 rfl) ?_
      refine lv_lconst (v := 0) X.1 X.2.1 dX8_workOut_157 (by decide) ?_
      refine m_leq (tgt := 166) X dX8_workOut_158 dX8_workOut_159 (by decide) (fun hc12 => ?_) (fun hc12 => ?_)
      · have hres := m_it hres hc12
        refine lv_lconst (v := 0) X.1 X.2.1 dX8_workOut_166 (by decide) ?_
        refine lv_lstore (lv' := [(5, .long 0), (3, .long t8), (1, .long t6), (0, .ref (m_ad G 172))]) X.1 X.2.1 dX8_workOut_167 hl (by decide) rfl (fun ls hl => ?_)
        refine lv_goto (tgt := 259) X.1 X.2.1 dX8_workOut_169 (by decide) ?_
        exact B259 0 M4 _ _ _ hP hS (lv_sub hl [3, 0] rfl) hres
      · have hres := m_if hres hc12
        refine lv_lconst (v := 1) X.1 X.2.1 dX8_workOut_162 (by decide) ?_
        refine lv_goto (tgt := 167) X.1 X.2.1 dX8_workOut_163 (by decide) ?_
        refine lv_lstore (lv' := [(5, .long 1), (3, .long t8), (1, .long t6), (0, .ref (m_ad G 172))]) X.1 X.2.1 dX8_workOut_167 hl (by decide) rfl (fun ls hl => ?_)
        refine lv_goto (tgt := 259) X.1 X.2.1 dX8_workOut_169 (by decide) ?_
        exact B259 1 M4 _ _ _ hP hS (lv_sub hl [3, 0] rfl) hres
  · have hres := m_if hres hc10
    by_cases hc13 : (M4.1 193 ((M4.1 172 42).toNatClampNeg)) = 42
    · have hres := m_it hres hc13
      refine m_lin (tgt := 236) (off := 182) X dX8_workOut_54 ⟨_, hc13, by decide⟩ (by decide) (by decide) ?_
      refine lv_lload_n X.1 X.2.1 dX8_workOut_236 rfl (lv_at hl 2 rfl) ?_
      refine lv_lload_n X.1 X.2.1 dX8_workOut_237 rfl (lv_at hl 1 rfl) ?_
      refine lv_lmul X.1 X.2.1 dX8_workOut_238 ?_
      refine lv_lstore (lv' := [(5, .long (t6 * t8)), (3, .long t8), (1, .long t6), (0, .ref (m_ad G 172))]) X.1 X.2.1 dX8_workOut_239 hl (by decide) rfl (fun ls hl => ?_)
      refine lv_goto (tgt := 259) X.1 X.2.1 dX8_workOut_241 (by decide) ?_
      exact B259 (t6 * t8) M4 _ _ _ hP hS (lv_sub hl [3, 0] rfl) hres
    · have hres := m_if hres hc13
      by_cases hc14 : (M4.1 193 ((M4.1 172 42).toNatClampNeg)) = 43
      · have hres := m_it hres hc14
        refine m_lin (tgt := 220) (off := 166) X dX8_workOut_54 ⟨_, hc14, by decide⟩ (by decide) (by decide) ?_
        refine lv_lload_n X.1 X.2.1 dX8_workOut_220 rfl (lv_at hl 2 rfl) ?_
        refine lv_lload_n X.1 X.2.1 dX8_workOut_221 rfl (lv_at hl 1 rfl) ?_
        refine lv_ladd X.1 X.2.1 dX8_workOut_222 ?_
        refine lv_lstore (lv' := [(5, .long (t6 + t8)), (3, .long t8), (1, .long t6), (0, .ref (m_ad G 172))]) X.1 X.2.1 dX8_workOut_223 hl (by decide) rfl (fun ls hl => ?_)
        refine lv_goto (tgt := 259) X.1 X.2.1 dX8_workOut_225 (by decide) ?_
        exact B259 (t6 + t8) M4 _ _ _ hP hS (lv_sub hl [3, 0] rfl) hres
      · have hres := m_if hres hc14
        by_cases hc15 : (M4.1 193 ((M4.1 172 42).toNatClampNeg)) = 45
        · have hres := m_it hres hc15
          refine m_lin (tgt := 228) (off := 174) X dX8_workOut_54 ⟨_, hc15, by decide⟩ (by decide) (by decide) ?_
          refine lv_lload_n X.1 X.2.1 dX8_workOut_228 rfl (lv_at hl 2 rfl) ?_
          refine lv_lload_n X.1 X.2.1 dX8_workOut_229 rfl (lv_at hl 1 rfl) ?_
          refine lv_lsub X.1 X.2.1 dX8_workOut_230 ?_
          refine lv_lstore (lv' := [(5, .long (t6 - t8)), (3, .long t8), (1, .long t6), (0, .ref (m_ad G 172))]) X.1 X.2.1 dX8_workOut_231 hl (by decide) rfl (fun ls hl => ?_)
          refine lv_goto (tgt := 259) X.1 X.2.1 dX8_workOut_233 (by decide) ?_
          exact B259 (t6 - t8) M4 _ _ _ hP hS (lv_sub hl [3, 0] rfl) hres
        · have hres := m_if hres hc15
          by_cases hc16 : (M4.1 193 ((M4.1 172 42).toNatClampNeg)) = 60
          · have hres := m_it hres hc16
            refine m_lin (tgt := 172) (off := 118) X dX8_workOut_54 ⟨_, hc16, by decide⟩ (by decide) (by decide) ?_
            refine lv_lload_n X.1 X.2.1 dX8_workOut_172 rfl (lv_at hl 2 rfl) ?_
            refine lv_lload_n X.1 X.2.1 dX8_workOut_173 rfl (lv_at hl 1 rfl) ?_
            refine m_lge (tgt := 182) X dX8_workOut_174 dX8_workOut_175 (by decide) (fun hc17 => ?_) (fun hc17 => ?_)
            · have hres := m_it hres hc17
              refine lv_lconst (v := 0) X.1 X.2.1 dX8_workOut_182 (by decide) ?_
              refine lv_lstore (lv' := [(5, .long 0), (3, .long t8), (1, .long t6), (0, .ref (m_ad G 172))]) X.1 X.2.1 dX8_workOut_183 hl (by decide) rfl (fun ls hl => ?_)
              refine lv_goto (tgt := 259) X.1 X.2.1 dX8_workOut_185 (by decide) ?_
              exact B259 0 M4 _ _ _ hP hS (lv_sub hl [3, 0] rfl) hres
            · have hres := m_if hres hc17
              refine lv_lconst (v := 1) X.1 X.2.1 dX8_workOut_178 (by decide) ?_
              refine lv_goto (tgt := 183) X.1 X.2.1 dX8_workOut_179 (by decide) ?_
              refine lv_lstore (lv' := [(5, .long 1), (3, .long t8), (1, .long t6), (0, .ref (m_ad G 172))]) X.1 X.2.1 dX8_workOut_183 hl (by decide) rfl (fun ls hl => ?_)
              refine lv_goto (tgt := 259) X.1 X.2.1 dX8_workOut_185 (by decide) ?_
              exact B259 1 M4 _ _ _ hP hS (lv_sub hl [3, 0] rfl) hres
          · have hres := m_if hres hc16
            by_cases hc18 : (M4.1 193 ((M4.1 172 42).toNatClampNeg)) = 61
            · have hres := m_it hres hc18
              refine m_lin (tgt := 204) (off := 150) X dX8_workOut_54 ⟨_, hc18, by decide⟩ (by decide) (by decide) ?_
              refine lv_lload_n X.1 X.2.1 dX8_workOut_204 rfl (lv_at hl 2 rfl) ?_
              refine lv_lload_n X.1 X.2.1 dX8_workOut_205 rfl (lv_at hl 1 rfl) ?_
              refine m_lne (tgt := 214) X dX8_workOut_206 dX8_workOut_207 (by decide) (fun hc19 => ?_) (fun hc19 => ?_)
              · have hres := m_if hres hc19
                refine lv_lconst (v := 0) X.1 X.2.1 dX8_workOut_214 (by decide) ?_
                refine lv_lstore (lv' := [(5, .long 0), (3, .long t8), (1, .long t6), (0, .ref (m_ad G 172))]) X.1 X.2.1 dX8_workOut_215 hl (by decide) rfl (fun ls hl => ?_)
                refine lv_goto (tgt := 259) X.1 X.2.1 dX8_workOut_217 (by decide) ?_
                exact B259 0 M4 _ _ _ hP hS (lv_sub hl [3, 0] rfl) hres
              · have hres := m_it hres hc19
                refine lv_lconst (v := 1) X.1 X.2.1 dX8_workOut_210 (by decide) ?_
                refine lv_goto (tgt := 215) X.1 X.2.1 dX8_workOut_211 (by decide) ?_
                refine lv_lstore (lv' := [(5, .long 1), (3, .long t8), (1, .long t6), (0, .ref (m_ad G 172))]) X.1 X.2.1 dX8_workOut_215 hl (by decide) rfl (fun ls hl => ?_)
                refine lv_goto (tgt := 259) X.1 X.2.1 dX8_workOut_217 (by decide) ?_
                exact B259 1 M4 _ _ _ hP hS (lv_sub hl [3, 0] rfl) hres
            · have hres := m_if hres hc18
              by_cases hc20 : (M4.1 193 ((M4.1 172 42).toNatClampNeg)) = 62
              · have hres := m_it hres hc20
                refine m_lin (tgt := 188) (off := 134) X dX8_workOut_54 ⟨_, hc20, by decide⟩ (by decide) (by decide) ?_
                refine lv_lload_n X.1 X.2.1 dX8_workOut_188 rfl (lv_at hl 2 rfl) ?_
                refine lv_lload_n X.1 X.2.1 dX8_workOut_189 rfl (lv_at hl 1 rfl) ?_
                refine m_lle (tgt := 198) X dX8_workOut_190 dX8_workOut_191 (by decide) (fun hc21 => ?_) (fun hc21 => ?_)
                · have hres := m_it hres hc21
                  refine lv_lconst (v := 0) X.1 X.2.1 dX8_workOut_198 (by decide) ?_
                  refine lv_lstore (lv' := [(5, .long 0), (3, .long t8), (1, .long t6), (0, .ref (m_ad G 172))]) X.1 X.2.1 dX8_workOut_199 hl (by decide) rfl (fun ls hl => ?_)
                  refine lv_goto (tgt := 259) X.1 X.2.1 dX8_workOut_201 (by decide) ?_
                  exact B259 0 M4 _ _ _ hP hS (lv_sub hl [3, 0] rfl) hres
                · have hres := m_if hres hc21
                  refine lv_lconst (v := 1) X.1 X.2.1 dX8_workOut_194 (by decide) ?_
                  refine lv_goto (tgt := 199) X.1 X.2.1 dX8_workOut_195 (by decide) ?_
                  refine lv_lstore (lv' := [(5, .long 1), (3, .long t8), (1, .long t6), (0, .ref (m_ad G 172))]) X.1 X.2.1 dX8_workOut_199 hl (by decide) rfl (fun ls hl => ?_)
                  refine lv_goto (tgt := 259) X.1 X.2.1 dX8_workOut_201 (by decide) ?_
                  exact B259 1 M4 _ _ _ hP hS (lv_sub hl [3, 0] rfl) hres
              · have hres := m_if hres hc20
                by_cases hc22 : (M4.1 193 ((M4.1 172 42).toNatClampNeg)) = 124
                · have hres := m_it hres hc22
                  refine m_lin (tgt := 128) (off := 74) X dX8_workOut_54 ⟨_, hc22, by decide⟩ (by decide) (by decide) ?_
                  refine lv_lload_n X.1 X.2.1 dX8_workOut_128 rfl (lv_at hl 2 rfl) ?_
                  refine lv_lconst (v := 0) X.1 X.2.1 dX8_workOut_129 (by decide) ?_
                  refine m_lne (tgt := 140) X dX8_workOut_130 dX8_workOut_131 (by decide) (fun hc23 => ?_) (fun hc23 => ?_)
                  · have hres := m_if hres hc23
                    refine lv_lconst (v := 1) X.1 X.2.1 dX8_workOut_140 (by decide) ?_
                    refine lv_goto (tgt := 145) X.1 X.2.1 dX8_workOut_141 (by decide) ?_
                    refine lv_lstore (lv' := [(5, .long 1), (3, .long t8), (1, .long t6), (0, .ref (m_ad G 172))]) X.1 X.2.1 dX8_workOut_145 hl (by decide) rfl (fun ls hl => ?_)
                    refine lv_goto (tgt := 259) X.1 X.2.1 dX8_workOut_147 (by decide) ?_
                    exact B259 1 M4 _ _ _ hP hS (lv_sub hl [3, 0] rfl) hres
                  · have hres := m_it hres hc23
                    refine lv_lload_n X.1 X.2.1 dX8_workOut_134 rfl (lv_at hl 1 rfl) ?_
                    refine lv_lconst (v := 0) X.1 X.2.1 dX8_workOut_135 (by decide) ?_
                    refine m_leq (tgt := 144) X dX8_workOut_136 dX8_workOut_137 (by decide) (fun hc24 => ?_) (fun hc24 => ?_)
                    · have hres := m_it hres hc24
                      refine lv_lconst (v := 0) X.1 X.2.1 dX8_workOut_144 (by decide) ?_
                      refine lv_lstore (lv' := [(5, .long 0), (3, .long t8), (1, .long t6), (0, .ref (m_ad G 172))]) X.1 X.2.1 dX8_workOut_145 hl (by decide) rfl (fun ls hl => ?_)
                      refine lv_goto (tgt := 259) X.1 X.2.1 dX8_workOut_147 (by decide) ?_
                      exact B259 0 M4 _ _ _ hP hS (lv_sub hl [3, 0] rfl) hres
                    · have hres := m_if hres hc24
                      refine lv_lconst (v := 1) X.1 X.2.1 dX8_workOut_140 (by decide) ?_
                      refine lv_goto (tgt := 145) X.1 X.2.1 dX8_workOut_141 (by decide) ?_
                      refine lv_lstore (lv' := [(5, .long 1), (3, .long t8), (1, .long t6), (0, .ref (m_ad G 172))]) X.1 X.2.1 dX8_workOut_145 hl (by decide) rfl (fun ls hl => ?_)
                      refine lv_goto (tgt := 259) X.1 X.2.1 dX8_workOut_147 (by decide) ?_
                      exact B259 1 M4 _ _ _ hP hS (lv_sub hl [3, 0] rfl) hres
                · have hres := m_if hres hc22
                  refine lv_lookup (tgt := 244) X.1 X.2.1 dX8_workOut_54 (by decide) (m_lkd (List.forall_mem_cons.mpr ⟨(m_ne (z := 38) hc10 (by decide)).symm, List.forall_mem_cons.mpr ⟨(m_ne (z := 42) hc13 (by decide)).symm, List.forall_mem_cons.mpr ⟨(m_ne (z := 43) hc14 (by decide)).symm, List.forall_mem_cons.mpr ⟨(m_ne (z := 45) hc15 (by decide)).symm, List.forall_mem_cons.mpr ⟨(m_ne (z := 60) hc16 (by decide)).symm, List.forall_mem_cons.mpr ⟨(m_ne (z := 61) hc18 (by decide)).symm, List.forall_mem_cons.mpr ⟨(m_ne (z := 62) hc20 (by decide)).symm, List.forall_mem_cons.mpr ⟨(m_ne (z := 124) hc22 (by decide)).symm, List.forall_mem_nil _⟩⟩⟩⟩⟩⟩⟩⟩)) (by decide) ?_
                  refine lv_lload_n X.1 X.2.1 dX8_workOut_244 rfl (lv_at hl 1 rfl) ?_
                  refine lv_lconst (v := 0) X.1 X.2.1 dX8_workOut_245 (by decide) ?_
                  refine m_lne (tgt := 254) X dX8_workOut_246 dX8_workOut_247 (by decide) (fun hc25 => ?_) (fun hc25 => ?_)
                  · have hres := m_if hres hc25
                    refine lv_lload_n X.1 X.2.1 dX8_workOut_254 rfl (lv_at hl 2 rfl) ?_
                    refine lv_lload_n X.1 X.2.1 dX8_workOut_255 rfl (lv_at hl 1 rfl) ?_
                    obtain ⟨hg26, hres⟩ := m_gd_e hres
                    refine lv_ldiv X.1 X.2.1 dX8_workOut_256 hg26 ?_
                    refine lv_lstore (lv' := [(5, .long (t6 / t8)), (3, .long t8), (1, .long t6), (0, .ref (m_ad G 172))]) X.1 X.2.1 dX8_workOut_257 hl (by decide) rfl (fun ls hl => ?_)
                    exact B259 (t6 / t8) M4 _ _ _ hP hS (lv_sub hl [3, 0] rfl) hres
                  · have hres := m_it hres hc25
                    refine lv_lconst (v := 0) X.1 X.2.1 dX8_workOut_250 (by decide) ?_
                    refine lv_goto (tgt := 257) X.1 X.2.1 dX8_workOut_251 (by decide) ?_
                    refine lv_lstore (lv' := [(5, .long 0), (3, .long t8), (1, .long t6), (0, .ref (m_ad G 172))]) X.1 X.2.1 dX8_workOut_257 hl (by decide) rfl (fun ls hl => ?_)
                    exact B259 0 M4 _ _ _ hP hS (lv_sub hl [3, 0] rfl) hres
theorem dX8_workDown_0 : decode cX8_workDown 0 = .ok (.aload_n 0, 1) := by decide +kernel
theorem dX8_workDown_1 : decode cX8_workDown 1 = .ok (.getfield 286, 3) := by decide +kernel
theorem dX8_workDown_4 : decode cX8_workDown 4 = .ok (.ifCond .le 45, 3) := by decide +kernel
theorem dX8_workDown_7 : decode cX8_workDown 7 = .ok (.aload_n 0, 1) := by decide +kernel
theorem dX8_workDown_8 : decode cX8_workDown 8 = .ok (.getfield 80, 3) := by decide +kernel
theorem dX8_workDown_11 : decode cX8_workDown 11 = .ok (.aload_n 0, 1) := by decide +kernel
theorem dX8_workDown_12 : decode cX8_workDown 12 = .ok (.getfield 286, 3) := by decide +kernel
theorem dX8_workDown_15 : decode cX8_workDown 15 = .ok (.iconst 1, 1) := by decide +kernel
theorem dX8_workDown_16 : decode cX8_workDown 16 = .ok (.isub, 1) := by decide +kernel
theorem dX8_workDown_17 : decode cX8_workDown 17 = .ok (.iaload, 1) := by decide +kernel
theorem dX8_workDown_18 : decode cX8_workDown 18 = .ok (.sipush 1000, 3) := by decide +kernel
theorem dX8_workDown_21 : decode cX8_workDown 21 = .ok (.if_icmp .ge 28, 3) := by decide +kernel
theorem dX8_workDown_24 : decode cX8_workDown 24 = .ok (.aload_n 0, 1) := by decide +kernel
theorem dX8_workDown_25 : decode cX8_workDown 25 = .ok (.getfield 80, 3) := by decide +kernel
theorem dX8_workDown_28 : decode cX8_workDown 28 = .ok (.aload_n 0, 1) := by decide +kernel
theorem dX8_workDown_29 : decode cX8_workDown 29 = .ok (.getfield 286, 3) := by decide +kernel
theorem dX8_workDown_32 : decode cX8_workDown 32 = .ok (.iconst 1, 1) := by decide +kernel
theorem dX8_workDown_33 : decode cX8_workDown 33 = .ok (.isub, 1) := by decide +kernel
theorem dX8_workDown_34 : decode cX8_workDown 34 = .ok (.iaload, 1) := by decide +kernel
theorem dX8_workDown_35 : decode cX8_workDown 35 = .ok (.invokestatic 292, 3) := by decide +kernel
theorem dX8_workDown_38 : decode cX8_workDown 38 = .ok (.iload_n 1, 1) := by decide +kernel
theorem dX8_workDown_39 : decode cX8_workDown 39 = .ok (.if_icmp .lt 10, 3) := by decide +kernel
theorem dX8_workDown_42 : decode cX8_workDown 42 = .ok (.aload_n 0, 1) := by decide +kernel
theorem dX8_workDown_43 : decode cX8_workDown 43 = .ok (.invokevirtual 295, 3) := by decide +kernel
theorem dX8_workDown_46 : decode cX8_workDown 46 = .ok (.goto (-46), 3) := by decide +kernel
theorem dX8_workDown_49 : decode cX8_workDown 49 = .ok (.return_, 1) := by decide +kernel
def f_X8_workDown_b0 (n : Nat) (x1 : Int32) : Nat → m_M → Option m_M
  | 0, _ => none
  | u + 1, M =>
    if (M.1 172 42) ≤ 0 then
  some M
  else
  m_gd (m_in ((M.1 172 42) - (1 : Int32)) 128) (
  if (1000 : Int32) ≤ (M.1 193 (((M.1 172 42) - (1 : Int32)).toNatClampNeg)) then
  some M
  else
  m_bd (f_X8_rank (M.1 193 (((M.1 172 42) - (1 : Int32)).toNatClampNeg))) fun r4 =>
  if r4 < x1 then
  some M
  else
  m_ob (f_X8_workOut M) fun M6 =>
  f_X8_workDown_b0 n x1 u M6)
def f_X8_workDown (n : Nat) (x1 : Int32) (M : m_M) : Option m_M :=
  if (M.1 172 42) ≤ 0 then
  some M
  else
  m_gd (m_in ((M.1 172 42) - (1 : Int32)) 128) (
  if (1000 : Int32) ≤ (M.1 193 (((M.1 172 42) - (1 : Int32)).toNatClampNeg)) then
  some M
  else
  m_bd (f_X8_rank (M.1 193 (((M.1 172 42) - (1 : Int32)).toNatClampNeg))) fun r10 =>
  if r10 < x1 then
  some M
  else
  m_ob (f_X8_workOut M) fun M12 =>
  f_X8_workDown_b0 n x1 n M12)
set_option maxHeartbeats 4000000 in
set_option maxRecDepth 100000 in
theorem c_X8_workDown (l : Launch) (G : m_G) {n : Nat} {x1 : Int32} {M : m_M} {M0 : m_M}  (hres : f_X8_workDown n x1 M = some M0) : Met l yX8_workDown (m_U yX8_workDown cX8_workDown 2 none) (m_R 1 26) (m_Pc G [.ref (m_ad G 172), .int x1] M) (m_Qv G M0) 0 0 (m_A G) := by
  refine m_i0 (n := 2) RX8 rfl (by decide) (Nat.le_of_ble_eq_true rfl) ?_
  intro p e s m args below meth c X hr hlk hSt hP hS ls hl
  have hl : lv_has ls 2 [(0, .ref (m_ad G 172)), (1, .int x1)] := hl
  have B0 : ∀ (u : Nat) (M : m_M) (H : Heap) (locs : List Loc) (ls : Array Slot), m_P G M H → va_S (m_A G) s.heap H locs → lv_has ls 2 [(0, .ref (m_ad G 172)), (1, .int x1)] → f_X8_workDown_b0 n x1 u M = some M0 → W p l e (m_R 1 26) s m args below meth c H locs 0 0 (MQ below (m_Qv G M0) args s 0 0 (m_A G)) (F0 m 0 ls []) := by
    intro u
    induction u with
    | zero =>
      intro M H locs ls hP hS hl hres
      cases hres
    | succ u ih =>
      intro M H locs ls hP hS hl hres
      rw [f_X8_workDown_b0] at hres
      refine lv_aload_n X.1 X.2.1 dX8_workDown_0 rfl (lv_at hl 0 rfl) ?_
      refine m_g8 (v := .int (M.1 172 42)) X hSt hP m_z_172 42 (by decide) rfl k_f_X8_286 dX8_workDown_1 ?_
      refine lv_if_le (tgt := 49) X.1 X.2.1 dX8_workDown_4 (by decide) (fun hc1 => ?_) (fun hc1 => ?_)
      · have hres := m_it hres hc1
        exact m_rv X hr hlk hP hS (Option.some.inj hres) dX8_workDown_49
      · have hres := m_if hres hc1
        refine lv_aload_n X.1 X.2.1 dX8_workDown_7 rfl (lv_at hl 0 rfl) ?_
        refine m_g8 (v := .ref (m_ad G 193)) X hSt hP m_z_172 41 (by decide) rfl k_f_X8_80 dX8_workDown_8 ?_
        refine lv_aload_n X.1 X.2.1 dX8_workDown_11 rfl (lv_at hl 0 rfl) ?_
        refine m_g8 (v := .int (M.1 172 42)) X hSt hP m_z_172 42 (by decide) rfl k_f_X8_286 dX8_workDown_12 ?_
        refine lv_iconst (v := 1) X.1 X.2.1 dX8_workDown_15 (by decide) ?_
        refine lv_isub X.1 X.2.1 dX8_workDown_16 ?_
        obtain ⟨hg2, hres⟩ := m_gd_e hres
        refine m_ia (j := (((M.1 172 42) - (1 : Int32)).toNatClampNeg)) X hSt hP m_z_193 hg2 rfl dX8_workDown_17 ?_
        refine lv_sipush (v := 1000) X.1 X.2.1 dX8_workDown_18 (by decide) ?_
        refine lv_icmp_ge (tgt := 49) X.1 X.2.1 dX8_workDown_21 (by decide) (fun hc3 => ?_) (fun hc3 => ?_)
        · have hres := m_it hres hc3
          exact m_rv X hr hlk hP hS (Option.some.inj hres) dX8_workDown_49
        · have hres := m_if hres hc3
          refine lv_aload_n X.1 X.2.1 dX8_workDown_24 rfl (lv_at hl 0 rfl) ?_
          refine m_g8 (v := .ref (m_ad G 193)) X hSt hP m_z_172 41 (by decide) rfl k_f_X8_80 dX8_workDown_25 ?_
          refine lv_aload_n X.1 X.2.1 dX8_workDown_28 rfl (lv_at hl 0 rfl) ?_
          refine m_g8 (v := .int (M.1 172 42)) X hSt hP m_z_172 42 (by decide) rfl k_f_X8_286 dX8_workDown_29 ?_
          refine lv_iconst (v := 1) X.1 X.2.1 dX8_workDown_32 (by decide) ?_
          refine lv_isub X.1 X.2.1 dX8_workDown_33 ?_
          refine m_ia (j := (((M.1 172 42) - (1 : Int32)).toNatClampNeg)) X hSt hP m_z_193 hg2 rfl dX8_workDown_34 ?_
          obtain ⟨r4, err4, hres⟩ := m_bd_e hres
          refine m_bi (m_cS (n := 1) (As := [.int (M.1 193 (((M.1 172 42) - (1 : Int32)).toNatClampNeg))]) (rest := []) X hSt hP hS hl.1 (c_X8_rank l G (M := M)  err4) k_c_yX8_rank k_m_X8_292 k_t_yX8_rank k_n_X8 (by decide +kernel) rfl rfl ⟨Nat.le_of_ble_eq_true rfl, Nat.le_of_ble_eq_true rfl⟩ (Nat.le_of_ble_eq_true rfl) ⟨Nat.zero_le _, Nat.zero_le _⟩ dX8_workDown_35) hS (fun H locs hP hS => ?_)
          refine lv_iload_n X.1 X.2.1 dX8_workDown_38 rfl (lv_at hl 1 rfl) ?_
          refine lv_icmp_lt (tgt := 49) X.1 X.2.1 dX8_workDown_39 (by decide) (fun hc5 => ?_) (fun hc5 => ?_)
          · have hres := m_it hres hc5
            exact m_rv X hr hlk hP hS (Option.some.inj hres) dX8_workDown_49
          · have hres := m_if hres hc5
            refine lv_aload_n X.1 X.2.1 dX8_workDown_42 rfl (lv_at hl 0 rfl) ?_
            obtain ⟨M6, eM6, hres⟩ := m_ob_e hres
            refine m_bv (m_cV (n := 0) (As := []) (rest := []) X hSt hP hS hl.1 (c_X8_workOut l G  eM6) k_c_yX8_workOut k_m_X8_295 k_i_yX8_workOut k_s_yX8_workOut k_n_X8 (by decide +kernel) (m_rc8 hSt hP m_z_172) rfl rfl ⟨Nat.le_of_ble_eq_true rfl, Nat.le_of_ble_eq_true rfl⟩ (Nat.le_of_ble_eq_true rfl) ⟨Nat.zero_le _, Nat.zero_le _⟩ dX8_workDown_43) hS (fun H locs hP hS => ?_)
            refine lv_goto (tgt := 0) X.1 X.2.1 dX8_workDown_46 (by decide) ?_
            exact ih M6 _ _ _ hP hS (lv_sub hl [0, 1] rfl) hres
  unfold f_X8_workDown at hres
  refine lv_aload_n X.1 X.2.1 dX8_workDown_0 rfl (lv_at hl 0 rfl) ?_
  refine m_g8 (v := .int (M.1 172 42)) X hSt hP m_z_172 42 (by decide) rfl k_f_X8_286 dX8_workDown_1 ?_
  refine lv_if_le (tgt := 49) X.1 X.2.1 dX8_workDown_4 (by decide) (fun hc7 => ?_) (fun hc7 => ?_)
  · have hres := m_it hres hc7
    exact m_rv X hr hlk hP hS (Option.some.inj hres) dX8_workDown_49
  · have hres := m_if hres hc7
    refine lv_aload_n X.1 X.2.1 dX8_workDown_7 rfl (lv_at hl 0 rfl) ?_
    refine m_g8 (v := .ref (m_ad G 193)) X hSt hP m_z_172 41 (by decide) rfl k_f_X8_80 dX8_workDown_8 ?_
    refine lv_aload_n X.1 X.2.1 dX8_workDown_11 rfl (lv_at hl 0 rfl) ?_
    refine m_g8 (v := .int (M.1 172 42)) X hSt hP m_z_172 42 (by decide) rfl k_f_X8_286 dX8_workDown_12 ?_
    refine lv_iconst (v := 1) X.1 X.2.1 dX8_workDown_15 (by decide) ?_
    refine lv_isub X.1 X.2.1 dX8_workDown_16 ?_
    obtain ⟨hg8, hres⟩ := m_gd_e hres
    refine m_ia (j := (((M.1 172 42) - (1 : Int32)).toNatClampNeg)) X hSt hP m_z_193 hg8 rfl dX8_workDown_17 ?_
    refine lv_sipush (v := 1000) X.1 X.2.1 dX8_workDown_18 (by decide) ?_
    refine lv_icmp_ge (tgt := 49) X.1 X.2.1 dX8_workDown_21 (by decide) (fun hc9 => ?_) (fun hc9 => ?_)
    · have hres := m_it hres hc9
      exact m_rv X hr hlk hP hS (Option.some.inj hres) dX8_workDown_49
    · have hres := m_if hres hc9
      refine lv_aload_n X.1 X.2.1 dX8_workDown_24 rfl (lv_at hl 0 rfl) ?_
      refine m_g8 (v := .ref (m_ad G 193)) X hSt hP m_z_172 41 (by decide) rfl k_f_X8_80 dX8_workDown_25 ?_
      refine lv_aload_n X.1 X.2.1 dX8_workDown_28 rfl (lv_at hl 0 rfl) ?_
      refine m_g8 (v := .int (M.1 172 42)) X hSt hP m_z_172 42 (by decide) rfl k_f_X8_286 dX8_workDown_29 ?_
      refine lv_iconst (v := 1) X.1 X.2.1 dX8_workDown_32 (by decide) ?_
      refine lv_isub X.1 X.2.1 dX8_workDown_33 ?_
      refine m_ia (j := (((M.1 172 42) - (1 : Int32)).toNatClampNeg)) X hSt hP m_z_193 hg8 rfl dX8_workDown_34 ?_
      obtain ⟨r10, err10, hres⟩ := m_bd_e hres
      refine m_bi (m_cS (n := 1) (As := [.int (M.1 193 (((M.1 172 42) - (1 : Int32)).toNatClampNeg))]) (rest := []) X hSt hP hS hl.1 (c_X8_rank l G (M := M)  err10) k_c_yX8_rank k_m_X8_292 k_t_yX8_rank k_n_X8 (by decide +kernel) rfl rfl ⟨Nat.le_of_ble_eq_true rfl, Nat.le_of_ble_eq_true rfl⟩ (Nat.le_of_ble_eq_true rfl) ⟨Nat.zero_le _, Nat.zero_le _⟩ dX8_workDown_35) hS (fun H locs hP hS => ?_)
      refine lv_iload_n X.1 X.2.1 dX8_workDown_38 rfl (lv_at hl 1 rfl) ?_
      refine lv_icmp_lt (tgt := 49) X.1 X.2.1 dX8_workDown_39 (by decide) (fun hc11 => ?_) (fun hc11 => ?_)
      · have hres := m_it hres hc11
        exact m_rv X hr hlk hP hS (Option.some.inj hres) dX8_workDown_49
      · have hres := m_if hres hc11
        refine lv_aload_n X.1 X.2.1 dX8_workDown_42 rfl (lv_at hl 0 rfl) ?_
        obtain ⟨M12, eM12, hres⟩ := m_ob_e hres
        refine m_bv (m_cV (n := 0) (As := []) (rest := []) X hSt hP hS hl.1 (c_X8_workOut l G  eM12) k_c_yX8_workOut k_m_X8_295 k_i_yX8_workOut k_s_yX8_workOut k_n_X8 (by decide +kernel) (m_rc8 hSt hP m_z_172) rfl rfl ⟨Nat.le_of_ble_eq_true rfl, Nat.le_of_ble_eq_true rfl⟩ (Nat.le_of_ble_eq_true rfl) ⟨Nat.zero_le _, Nat.zero_le _⟩ dX8_workDown_43) hS (fun H locs hP hS => ?_)
        refine lv_goto (tgt := 0) X.1 X.2.1 dX8_workDown_46 (by decide) ?_
        exact B0 n M12 _ _ _ hP hS (lv_sub hl [0, 1] rfl) hres
