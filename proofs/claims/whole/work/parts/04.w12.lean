/-! WALKS 12: X8_erase X8_fault X8_isPerson X8_isTrade X8_isSum X8_fits X8_from X8_isLaid X8_sharedOf X8_serve X8_getsBy X8_layWays X8_hangs X8_holder -/
theorem dX8_erase_0 : decode cX8_erase 0 = .ok (.iload_n 1, 1) := by decide +kernel
theorem dX8_erase_1 : decode cX8_erase 1 = .ok (.invokestatic 269, 3) := by decide +kernel
theorem dX8_erase_4 : decode cX8_erase 4 = .ok (.ifCond .ne 6, 3) := by decide +kernel
theorem dX8_erase_7 : decode cX8_erase 7 = .ok (.bipush (-2), 2) := by decide +kernel
theorem dX8_erase_9 : decode cX8_erase 9 = .ok (.ireturn, 1) := by decide +kernel
theorem dX8_erase_10 : decode cX8_erase 10 = .ok (.aload_n 0, 1) := by decide +kernel
theorem dX8_erase_11 : decode cX8_erase 11 = .ok (.getfield 7, 3) := by decide +kernel
theorem dX8_erase_14 : decode cX8_erase 14 = .ok (.sipush 360, 3) := by decide +kernel
theorem dX8_erase_17 : decode cX8_erase 17 = .ok (.bipush 51, 2) := by decide +kernel
theorem dX8_erase_19 : decode cX8_erase 19 = .ok (.iload_n 1, 1) := by decide +kernel
theorem dX8_erase_20 : decode cX8_erase 20 = .ok (.imul, 1) := by decide +kernel
theorem dX8_erase_21 : decode cX8_erase 21 = .ok (.iadd, 1) := by decide +kernel
theorem dX8_erase_22 : decode cX8_erase 22 = .ok (.iaload, 1) := by decide +kernel
theorem dX8_erase_23 : decode cX8_erase 23 = .ok (.istore_n 2, 1) := by decide +kernel
theorem dX8_erase_24 : decode cX8_erase 24 = .ok (.aload_n 0, 1) := by decide +kernel
theorem dX8_erase_25 : decode cX8_erase 25 = .ok (.getfield 7, 3) := by decide +kernel
theorem dX8_erase_28 : decode cX8_erase 28 = .ok (.sipush 360, 3) := by decide +kernel
theorem dX8_erase_31 : decode cX8_erase 31 = .ok (.bipush 51, 2) := by decide +kernel
theorem dX8_erase_33 : decode cX8_erase 33 = .ok (.iload_n 1, 1) := by decide +kernel
theorem dX8_erase_34 : decode cX8_erase 34 = .ok (.imul, 1) := by decide +kernel
theorem dX8_erase_35 : decode cX8_erase 35 = .ok (.iadd, 1) := by decide +kernel
theorem dX8_erase_36 : decode cX8_erase 36 = .ok (.iconst 0, 1) := by decide +kernel
theorem dX8_erase_37 : decode cX8_erase 37 = .ok (.iastore, 1) := by decide +kernel
theorem dX8_erase_38 : decode cX8_erase 38 = .ok (.iload_n 2, 1) := by decide +kernel
theorem dX8_erase_39 : decode cX8_erase 39 = .ok (.ireturn, 1) := by decide +kernel
def f_X8_erase (x1 : Int32) (M : m_M) : Option (Int32 × m_M) :=
  m_bd (f_X8_isLaw x1) fun r1 =>
  if r1 = 0 then
  some ((-2), M)
  else
  m_gd (m_in ((360 : Int32) + ((51 : Int32) * x1)) 471) (
  m_bd (M.1 173 (((360 : Int32) + ((51 : Int32) * x1)).toNatClampNeg)) fun t5 =>
  m_bd (m_sI M 173 (((360 : Int32) + ((51 : Int32) * x1)).toNatClampNeg) 0) fun M6 =>
  some (t5, M6))
set_option maxHeartbeats 4000000 in
set_option maxRecDepth 100000 in
theorem c_X8_erase (l : Launch) (G : m_G) {x1 : Int32} {M : m_M} {r0 : Int32} {M0 : m_M}  (hres : f_X8_erase x1 M = some (r0, M0)) : Met l yX8_erase (m_U yX8_erase cX8_erase 3 (some .int)) (m_R 2 45) (m_Pc G [.ref (m_ad G 172), .int x1] M) (m_Qi G r0 M0) 0 0 (m_A G) := by
  refine m_i0 (n := 3) RX8 rfl (by decide) (Nat.le_of_ble_eq_true rfl) ?_
  intro p e s m args below meth c X hr hlk hSt hP hS ls hl
  have hl : lv_has ls 3 [(0, .ref (m_ad G 172)), (1, .int x1)] := hl
  unfold f_X8_erase at hres
  refine lv_iload_n X.1 X.2.1 dX8_erase_0 rfl (lv_at hl 1 rfl) ?_
  obtain ⟨r1, err1, hres⟩ := m_bd_e hres
  refine m_bz (m_cS (n := 1) (As := [.int x1]) (rest := []) X hSt hP hS hl.1 (c_X8_isLaw l G (M := M)  err1) k_c_yX8_isLaw k_m_X8_269 k_t_yX8_isLaw k_n_X8 (by decide +kernel) rfl rfl ⟨Nat.le_of_ble_eq_true rfl, Nat.le_of_ble_eq_true rfl⟩ (Nat.le_of_ble_eq_true rfl) ⟨Nat.zero_le _, Nat.zero_le _⟩ dX8_erase_1) hS (fun H locs hP hS hz2 => ?_)
  refine lv_if_ne (tgt := 10) X.1 X.2.1 dX8_erase_4 (by decide) (fun hc3 => ?_) (fun hc3 => ?_)
  · have hres := m_if hres hc3
    refine lv_aload_n X.1 X.2.1 dX8_erase_10 rfl (lv_at hl 0 rfl) ?_
    refine m_g8 (v := .ref (m_ad G 173)) X hSt hP m_z_172 0 (by decide) rfl k_f_X8_7 dX8_erase_11 ?_
    refine lv_sipush (v := 360) X.1 X.2.1 dX8_erase_14 (by decide) ?_
    refine lv_bipush (v := 51) X.1 X.2.1 dX8_erase_17 (by decide) ?_
    refine lv_iload_n X.1 X.2.1 dX8_erase_19 rfl (lv_at hl 1 rfl) ?_
    refine lv_imul X.1 X.2.1 dX8_erase_20 ?_
    refine lv_iadd X.1 X.2.1 dX8_erase_21 ?_
    obtain ⟨hg4, hres⟩ := m_gd_e hres
    refine m_ia (j := (((360 : Int32) + ((51 : Int32) * x1)).toNatClampNeg)) X hSt hP m_z_173 hg4 rfl dX8_erase_22 ?_
    obtain ⟨t5, et5, hres⟩ := m_bd_e hres
    refine m_ti et5 ?_
    refine lv_istore_n (lv' := [(2, .int t5), (0, .ref (m_ad G 172)), (1, .int x1)]) X.1 X.2.1 dX8_erase_23 rfl hl (by decide) rfl (fun ls hl => ?_)
    refine lv_aload_n X.1 X.2.1 dX8_erase_24 rfl (lv_at hl 1 rfl) ?_
    refine m_g8 (v := .ref (m_ad G 173)) X hSt hP m_z_172 0 (by decide) rfl k_f_X8_7 dX8_erase_25 ?_
    refine lv_sipush (v := 360) X.1 X.2.1 dX8_erase_28 (by decide) ?_
    refine lv_bipush (v := 51) X.1 X.2.1 dX8_erase_31 (by decide) ?_
    refine lv_iload_n X.1 X.2.1 dX8_erase_33 rfl (lv_at hl 2 rfl) ?_
    refine lv_imul X.1 X.2.1 dX8_erase_34 ?_
    refine lv_iadd X.1 X.2.1 dX8_erase_35 ?_
    refine lv_iconst (v := 0) X.1 X.2.1 dX8_erase_36 (by decide) ?_
    obtain ⟨M6, eM6, hres⟩ := m_bd_e hres
    refine m_is (j := (((360 : Int32) + ((51 : Int32) * x1)).toNatClampNeg)) X hSt hP hS m_z_173 hg4 rfl dX8_erase_37 eM6 (fun H locs hP hS => ?_)
    refine lv_iload_n X.1 X.2.1 dX8_erase_38 rfl (lv_at hl 0 rfl) ?_
    exact m_ri X hr hlk hP hS (Prod.mk.inj (Option.some.inj hres)).1 (Prod.mk.inj (Option.some.inj hres)).2 dX8_erase_39
  · have hres := m_it hres hc3
    refine lv_bipush (v := (-2)) X.1 X.2.1 dX8_erase_7 (by decide) ?_
    exact m_ri X hr hlk hP hS (Prod.mk.inj (Option.some.inj hres)).1 (Prod.mk.inj (Option.some.inj hres)).2 dX8_erase_9
theorem dX8_fault_0 : decode cX8_fault 0 = .ok (.iload_n 1, 1) := by decide +kernel
theorem dX8_fault_1 : decode cX8_fault 1 = .ok (.invokestatic 269, 3) := by decide +kernel
theorem dX8_fault_4 : decode cX8_fault 4 = .ok (.ifCond .ne 6, 3) := by decide +kernel
theorem dX8_fault_7 : decode cX8_fault 7 = .ok (.bipush (-2), 2) := by decide +kernel
theorem dX8_fault_9 : decode cX8_fault 9 = .ok (.ireturn, 1) := by decide +kernel
theorem dX8_fault_10 : decode cX8_fault 10 = .ok (.aload_n 0, 1) := by decide +kernel
theorem dX8_fault_11 : decode cX8_fault 11 = .ok (.iload_n 1, 1) := by decide +kernel
theorem dX8_fault_12 : decode cX8_fault 12 = .ok (.putfield 274, 3) := by decide +kernel
theorem dX8_fault_15 : decode cX8_fault 15 = .ok (.aload_n 0, 1) := by decide +kernel
theorem dX8_fault_16 : decode cX8_fault 16 = .ok (.invokevirtual 323, 3) := by decide +kernel
theorem dX8_fault_19 : decode cX8_fault 19 = .ok (.istore_n 2, 1) := by decide +kernel
theorem dX8_fault_20 : decode cX8_fault 20 = .ok (.aload_n 0, 1) := by decide +kernel
theorem dX8_fault_21 : decode cX8_fault 21 = .ok (.getfield 298, 3) := by decide +kernel
theorem dX8_fault_24 : decode cX8_fault 24 = .ok (.ireturn, 1) := by decide +kernel
def f_X8_fault (n : Nat) (x1 : Int32) (M : m_M) : Option (Int32 × m_M) :=
  m_bd (f_X8_isLaw x1) fun r1 =>
  if r1 = 0 then
  some ((-2), M)
  else
  m_bd (m_sI M 172 36 x1) fun M4 =>
  m_o2 (f_X8_reads n M4) fun r5 M6 =>
  some ((M6.1 172 38), M6)
set_option maxHeartbeats 4000000 in
set_option maxRecDepth 100000 in
theorem c_X8_fault (l : Launch) (G : m_G) {n : Nat} {x1 : Int32} {M : m_M} {r0 : Int32} {M0 : m_M}  (hres : f_X8_fault n x1 M = some (r0, M0)) : Met l yX8_fault (m_U yX8_fault cX8_fault 3 (some .int)) (m_R 4 92) (m_Pc G [.ref (m_ad G 172), .int x1] M) (m_Qi G r0 M0) 0 0 (m_A G) := by
  refine m_i0 (n := 3) RX8 rfl (by decide) (Nat.le_of_ble_eq_true rfl) ?_
  intro p e s m args below meth c X hr hlk hSt hP hS ls hl
  have hl : lv_has ls 3 [(0, .ref (m_ad G 172)), (1, .int x1)] := hl
  unfold f_X8_fault at hres
  refine lv_iload_n X.1 X.2.1 dX8_fault_0 rfl (lv_at hl 1 rfl) ?_
  obtain ⟨r1, err1, hres⟩ := m_bd_e hres
  refine m_bz (m_cS (n := 1) (As := [.int x1]) (rest := []) X hSt hP hS hl.1 (c_X8_isLaw l G (M := M)  err1) k_c_yX8_isLaw k_m_X8_269 k_t_yX8_isLaw k_n_X8 (by decide +kernel) rfl rfl ⟨Nat.le_of_ble_eq_true rfl, Nat.le_of_ble_eq_true rfl⟩ (Nat.le_of_ble_eq_true rfl) ⟨Nat.zero_le _, Nat.zero_le _⟩ dX8_fault_1) hS (fun H locs hP hS hz2 => ?_)
  refine lv_if_ne (tgt := 10) X.1 X.2.1 dX8_fault_4 (by decide) (fun hc3 => ?_) (fun hc3 => ?_)
  · have hres := m_if hres hc3
    refine lv_aload_n X.1 X.2.1 dX8_fault_10 rfl (lv_at hl 0 rfl) ?_
    refine lv_iload_n X.1 X.2.1 dX8_fault_11 rfl (lv_at hl 1 rfl) ?_
    obtain ⟨M4, eM4, hres⟩ := m_bd_e hres
    refine m_pi8 X hSt hP hS m_z_172 36 (by decide) eM4 rfl rfl (by decide) k_f_X8_274 dX8_fault_12 (fun H locs hP hS => ?_)
    refine lv_aload_n X.1 X.2.1 dX8_fault_15 rfl (lv_at hl 0 rfl) ?_
    obtain ⟨r5, M6, err5, hres⟩ := m_o2_e hres
    refine m_bz (m_cV (n := 0) (As := []) (rest := []) X hSt hP hS hl.1 (c_X8_reads l G  err5) k_c_yX8_reads k_m_X8_323 k_i_yX8_reads k_s_yX8_reads k_n_X8 (by decide +kernel) (m_rc8 hSt hP m_z_172) rfl rfl ⟨Nat.le_of_ble_eq_true rfl, Nat.le_of_ble_eq_true rfl⟩ (Nat.le_of_ble_eq_true rfl) ⟨Nat.zero_le _, Nat.zero_le _⟩ dX8_fault_16) hS (fun H locs hP hS hz7 => ?_)
    refine lv_istore_n (lv' := [(2, .int r5), (0, .ref (m_ad G 172)), (1, .int x1)]) X.1 X.2.1 dX8_fault_19 rfl hl (by decide) rfl (fun ls hl => ?_)
    refine lv_aload_n X.1 X.2.1 dX8_fault_20 rfl (lv_at hl 1 rfl) ?_
    refine m_g8 (v := .int (M6.1 172 38)) X hSt hP m_z_172 38 (by decide) rfl k_f_X8_298 dX8_fault_21 ?_
    exact m_ri X hr hlk hP hS (Prod.mk.inj (Option.some.inj hres)).1 (Prod.mk.inj (Option.some.inj hres)).2 dX8_fault_24
  · have hres := m_it hres hc3
    refine lv_bipush (v := (-2)) X.1 X.2.1 dX8_fault_7 (by decide) ?_
    exact m_ri X hr hlk hP hS (Prod.mk.inj (Option.some.inj hres)).1 (Prod.mk.inj (Option.some.inj hres)).2 dX8_fault_9
theorem dX8_isPerson_0 : decode cX8_isPerson 0 = .ok (.iload_n 1, 1) := by decide +kernel
theorem dX8_isPerson_1 : decode cX8_isPerson 1 = .ok (.i2l, 1) := by decide +kernel
theorem dX8_isPerson_2 : decode cX8_isPerson 2 = .ok (.lconst 0, 1) := by decide +kernel
theorem dX8_isPerson_3 : decode cX8_isPerson 3 = .ok (.aload_n 0, 1) := by decide +kernel
theorem dX8_isPerson_4 : decode cX8_isPerson 4 = .ok (.invokevirtual 107, 3) := by decide +kernel
theorem dX8_isPerson_7 : decode cX8_isPerson 7 = .ok (.iconst 1, 1) := by decide +kernel
theorem dX8_isPerson_8 : decode cX8_isPerson 8 = .ok (.isub, 1) := by decide +kernel
theorem dX8_isPerson_9 : decode cX8_isPerson 9 = .ok (.i2l, 1) := by decide +kernel
theorem dX8_isPerson_10 : decode cX8_isPerson 10 = .ok (.invokestatic 111, 3) := by decide +kernel
theorem dX8_isPerson_13 : decode cX8_isPerson 13 = .ok (.ireturn, 1) := by decide +kernel
def f_X8_isPerson (x1 : Int32) (M : m_M) : Int32 :=
  m_bd (f_X8_persons M) fun r1 =>
  m_bd (f_X8_isIn x1.toInt64 0 ((r1 - (1 : Int32)).toInt64)) fun r2 =>
  r2
set_option maxHeartbeats 4000000 in
set_option maxRecDepth 100000 in
theorem c_X8_isPerson (l : Launch) (G : m_G) {x1 : Int32} {M : m_M} {r0 : Int32}  (hres : f_X8_isPerson x1 M = r0) : Met l yX8_isPerson (m_U yX8_isPerson cX8_isPerson 2 (some .boolean)) (m_R 1 25) (m_Pc G [.ref (m_ad G 172), .int x1] M) (m_Qz G r0 M) 0 0 (m_A G) := by
  refine m_i0 (n := 2) RX8 rfl (by decide) (Nat.le_of_ble_eq_true rfl) ?_
  intro p e s m args below meth c X hr hlk hSt hP hS ls hl
  have hl : lv_has ls 2 [(0, .ref (m_ad G 172)), (1, .int x1)] := hl
  unfold f_X8_isPerson at hres
  refine lv_iload_n X.1 X.2.1 dX8_isPerson_0 rfl (lv_at hl 1 rfl) ?_
  refine lv_i2l (v := x1.toInt64) X.1 X.2.1 dX8_isPerson_1 rfl ?_
  refine lv_lconst (v := 0) X.1 X.2.1 dX8_isPerson_2 (by decide) ?_
  refine lv_aload_n X.1 X.2.1 dX8_isPerson_3 rfl (lv_at hl 0 rfl) ?_
  obtain ⟨r1, err1, hres⟩ := m_bd_e hres
  refine m_bi (m_cV (n := 0) (As := []) (rest := [.long 0, .long x1.toInt64]) X hSt hP hS hl.1 (c_X8_persons l G  err1) k_c_yX8_persons k_m_X8_107 k_i_yX8_persons k_s_yX8_persons k_n_X8 (by decide +kernel) (m_rc8 hSt hP m_z_172) rfl rfl ⟨Nat.le_of_ble_eq_true rfl, Nat.le_of_ble_eq_true rfl⟩ (Nat.le_of_ble_eq_true rfl) ⟨Nat.zero_le _, Nat.zero_le _⟩ dX8_isPerson_4) hS (fun H locs hP hS => ?_)
  refine lv_iconst (v := 1) X.1 X.2.1 dX8_isPerson_7 (by decide) ?_
  refine lv_isub X.1 X.2.1 dX8_isPerson_8 ?_
  refine lv_i2l (v := (r1 - (1 : Int32)).toInt64) X.1 X.2.1 dX8_isPerson_9 rfl ?_
  obtain ⟨r2, err2, hres⟩ := m_bd_e hres
  refine m_bz (m_cS (n := 3) (As := [.long x1.toInt64, .long 0, .long ((r1 - (1 : Int32)).toInt64)]) (rest := []) X hSt hP hS hl.1 (c_X8_isIn l G (M := M)  err2) k_c_yX8_isIn k_m_X8_111 k_t_yX8_isIn k_n_X8 (by decide +kernel) rfl rfl ⟨Nat.le_of_ble_eq_true rfl, Nat.le_of_ble_eq_true rfl⟩ (Nat.le_of_ble_eq_true rfl) ⟨Nat.zero_le _, Nat.zero_le _⟩ dX8_isPerson_10) hS (fun H locs hP hS hz3 => ?_)
  exact m_rz X hr hlk hP hS hres rfl hz3 dX8_isPerson_13
theorem dX8_isTrade_0 : decode cX8_isTrade 0 = .ok (.iload_n 0, 1) := by decide +kernel
theorem dX8_isTrade_1 : decode cX8_isTrade 1 = .ok (.i2l, 1) := by decide +kernel
theorem dX8_isTrade_2 : decode cX8_isTrade 2 = .ok (.lconst 0, 1) := by decide +kernel
theorem dX8_isTrade_3 : decode cX8_isTrade 3 = .ok (.ldc2_w 115, 3) := by decide +kernel
theorem dX8_isTrade_6 : decode cX8_isTrade 6 = .ok (.invokestatic 111, 3) := by decide +kernel
theorem dX8_isTrade_9 : decode cX8_isTrade 9 = .ok (.ireturn, 1) := by decide +kernel
def f_X8_isTrade (x0 : Int32) : Int32 :=
  m_bd (f_X8_isIn x0.toInt64 0 3) fun r1 =>
  r1
set_option maxHeartbeats 4000000 in
set_option maxRecDepth 100000 in
theorem c_X8_isTrade (l : Launch) (G : m_G) {x0 : Int32} {M : m_M} {r0 : Int32}  (hres : f_X8_isTrade x0 = r0) : Met l yX8_isTrade (m_U yX8_isTrade cX8_isTrade 1 (some .boolean)) (m_R 1 25) (m_Pc G [.int x0] M) (m_Qz G r0 M) 0 0 (m_A G) := by
  refine m_i0 (n := 1) RX8 rfl (by decide) (Nat.le_of_ble_eq_true rfl) ?_
  intro p e s m args below meth c X hr hlk hSt hP hS ls hl
  have hl : lv_has ls 1 [(0, .int x0)] := hl
  unfold f_X8_isTrade at hres
  refine lv_iload_n X.1 X.2.1 dX8_isTrade_0 rfl (lv_at hl 0 rfl) ?_
  refine lv_i2l (v := x0.toInt64) X.1 X.2.1 dX8_isTrade_1 rfl ?_
  refine lv_lconst (v := 0) X.1 X.2.1 dX8_isTrade_2 (by decide) ?_
  refine lv_ldc2 (v := 3) X.1 X.2.1 X.2.2.2.1 (X.2.2.2.2 _ k_l_X8_115) dX8_isTrade_3 ?_
  obtain ⟨r1, err1, hres⟩ := m_bd_e hres
  refine m_bz (m_cS (n := 3) (As := [.long x0.toInt64, .long 0, .long 3]) (rest := []) X hSt hP hS hl.1 (c_X8_isIn l G (M := M)  err1) k_c_yX8_isIn k_m_X8_111 k_t_yX8_isIn k_n_X8 (by decide +kernel) rfl rfl ⟨Nat.le_of_ble_eq_true rfl, Nat.le_of_ble_eq_true rfl⟩ (Nat.le_of_ble_eq_true rfl) ⟨Nat.zero_le _, Nat.zero_le _⟩ dX8_isTrade_6) hS (fun H locs hP hS hz2 => ?_)
  exact m_rz X hr hlk hP hS hres rfl hz2 dX8_isTrade_9
theorem dX8_isSum_0 : decode cX8_isSum 0 = .ok (.iload_n 0, 1) := by decide +kernel
theorem dX8_isSum_1 : decode cX8_isSum 1 = .ok (.i2l, 1) := by decide +kernel
theorem dX8_isSum_2 : decode cX8_isSum 2 = .ok (.lconst 1, 1) := by decide +kernel
theorem dX8_isSum_3 : decode cX8_isSum 3 = .ok (.ldc2_w 117, 3) := by decide +kernel
theorem dX8_isSum_6 : decode cX8_isSum 6 = .ok (.invokestatic 111, 3) := by decide +kernel
theorem dX8_isSum_9 : decode cX8_isSum 9 = .ok (.ireturn, 1) := by decide +kernel
def f_X8_isSum (x0 : Int32) : Int32 :=
  m_bd (f_X8_isIn x0.toInt64 1 1000) fun r1 =>
  r1
set_option maxHeartbeats 4000000 in
set_option maxRecDepth 100000 in
theorem c_X8_isSum (l : Launch) (G : m_G) {x0 : Int32} {M : m_M} {r0 : Int32}  (hres : f_X8_isSum x0 = r0) : Met l yX8_isSum (m_U yX8_isSum cX8_isSum 1 (some .boolean)) (m_R 1 25) (m_Pc G [.int x0] M) (m_Qz G r0 M) 0 0 (m_A G) := by
  refine m_i0 (n := 1) RX8 rfl (by decide) (Nat.le_of_ble_eq_true rfl) ?_
  intro p e s m args below meth c X hr hlk hSt hP hS ls hl
  have hl : lv_has ls 1 [(0, .int x0)] := hl
  unfold f_X8_isSum at hres
  refine lv_iload_n X.1 X.2.1 dX8_isSum_0 rfl (lv_at hl 0 rfl) ?_
  refine lv_i2l (v := x0.toInt64) X.1 X.2.1 dX8_isSum_1 rfl ?_
  refine lv_lconst (v := 1) X.1 X.2.1 dX8_isSum_2 (by decide) ?_
  refine lv_ldc2 (v := 1000) X.1 X.2.1 X.2.2.2.1 (X.2.2.2.2 _ k_l_X8_117) dX8_isSum_3 ?_
  obtain ⟨r1, err1, hres⟩ := m_bd_e hres
  refine m_bz (m_cS (n := 3) (As := [.long x0.toInt64, .long 1, .long 1000]) (rest := []) X hSt hP hS hl.1 (c_X8_isIn l G (M := M)  err1) k_c_yX8_isIn k_m_X8_111 k_t_yX8_isIn k_n_X8 (by decide +kernel) rfl rfl ⟨Nat.le_of_ble_eq_true rfl, Nat.le_of_ble_eq_true rfl⟩ (Nat.le_of_ble_eq_true rfl) ⟨Nat.zero_le _, Nat.zero_le _⟩ dX8_isSum_6) hS (fun H locs hP hS hz2 => ?_)
  exact m_rz X hr hlk hP hS hres rfl hz2 dX8_isSum_9
theorem dX8_fits_0 : decode cX8_fits 0 = .ok (.iload_n 1, 1) := by decide +kernel
theorem dX8_fits_1 : decode cX8_fits 1 = .ok (.tableswitch 241 0 14 #[75, 102, 102, 102, 102, 131, 137, 137, 137, 158, 158, 180, 180, 158, 215], 75) := by decide +kernel
theorem dX8_fits_76 : decode cX8_fits 76 = .ok (.aload_n 0, 1) := by decide +kernel
theorem dX8_fits_77 : decode cX8_fits 77 = .ok (.iload_n 2, 1) := by decide +kernel
theorem dX8_fits_78 : decode cX8_fits 78 = .ok (.invokevirtual 148, 3) := by decide +kernel
theorem dX8_fits_81 : decode cX8_fits 81 = .ok (.ifCond .eq 20, 3) := by decide +kernel
theorem dX8_fits_84 : decode cX8_fits 84 = .ok (.iload_n 3, 1) := by decide +kernel
theorem dX8_fits_85 : decode cX8_fits 85 = .ok (.iconst (-1), 1) := by decide +kernel
theorem dX8_fits_86 : decode cX8_fits 86 = .ok (.if_icmp .eq 11, 3) := by decide +kernel
theorem dX8_fits_89 : decode cX8_fits 89 = .ok (.aload_n 0, 1) := by decide +kernel
theorem dX8_fits_90 : decode cX8_fits 90 = .ok (.iload_n 3, 1) := by decide +kernel
theorem dX8_fits_91 : decode cX8_fits 91 = .ok (.invokevirtual 148, 3) := by decide +kernel
theorem dX8_fits_94 : decode cX8_fits 94 = .ok (.ifCond .eq 7, 3) := by decide +kernel
theorem dX8_fits_97 : decode cX8_fits 97 = .ok (.iconst 1, 1) := by decide +kernel
theorem dX8_fits_98 : decode cX8_fits 98 = .ok (.goto 4, 3) := by decide +kernel
theorem dX8_fits_101 : decode cX8_fits 101 = .ok (.iconst 0, 1) := by decide +kernel
theorem dX8_fits_102 : decode cX8_fits 102 = .ok (.ireturn, 1) := by decide +kernel
theorem dX8_fits_103 : decode cX8_fits 103 = .ok (.aload_n 0, 1) := by decide +kernel
theorem dX8_fits_104 : decode cX8_fits 104 = .ok (.iload_n 2, 1) := by decide +kernel
theorem dX8_fits_105 : decode cX8_fits 105 = .ok (.invokevirtual 148, 3) := by decide +kernel
theorem dX8_fits_108 : decode cX8_fits 108 = .ok (.ifCond .eq 22, 3) := by decide +kernel
theorem dX8_fits_111 : decode cX8_fits 111 = .ok (.iload_n 3, 1) := by decide +kernel
theorem dX8_fits_112 : decode cX8_fits 112 = .ok (.invokestatic 152, 3) := by decide +kernel
theorem dX8_fits_115 : decode cX8_fits 115 = .ok (.ifCond .eq 15, 3) := by decide +kernel
theorem dX8_fits_118 : decode cX8_fits 118 = .ok (.iload 4, 2) := by decide +kernel
theorem dX8_fits_120 : decode cX8_fits 120 = .ok (.invokestatic 155, 3) := by decide +kernel
theorem dX8_fits_123 : decode cX8_fits 123 = .ok (.ifCond .eq 7, 3) := by decide +kernel
theorem dX8_fits_126 : decode cX8_fits 126 = .ok (.iconst 1, 1) := by decide +kernel
theorem dX8_fits_127 : decode cX8_fits 127 = .ok (.goto 4, 3) := by decide +kernel
theorem dX8_fits_130 : decode cX8_fits 130 = .ok (.iconst 0, 1) := by decide +kernel
theorem dX8_fits_131 : decode cX8_fits 131 = .ok (.ireturn, 1) := by decide +kernel
theorem dX8_fits_132 : decode cX8_fits 132 = .ok (.aload_n 0, 1) := by decide +kernel
theorem dX8_fits_133 : decode cX8_fits 133 = .ok (.iload_n 2, 1) := by decide +kernel
theorem dX8_fits_134 : decode cX8_fits 134 = .ok (.invokevirtual 158, 3) := by decide +kernel
theorem dX8_fits_137 : decode cX8_fits 137 = .ok (.ireturn, 1) := by decide +kernel
theorem dX8_fits_138 : decode cX8_fits 138 = .ok (.aload_n 0, 1) := by decide +kernel
theorem dX8_fits_139 : decode cX8_fits 139 = .ok (.iload_n 2, 1) := by decide +kernel
theorem dX8_fits_140 : decode cX8_fits 140 = .ok (.invokevirtual 148, 3) := by decide +kernel
theorem dX8_fits_143 : decode cX8_fits 143 = .ok (.ifCond .eq 14, 3) := by decide +kernel
theorem dX8_fits_146 : decode cX8_fits 146 = .ok (.iload_n 3, 1) := by decide +kernel
theorem dX8_fits_147 : decode cX8_fits 147 = .ok (.invokestatic 152, 3) := by decide +kernel
theorem dX8_fits_150 : decode cX8_fits 150 = .ok (.ifCond .eq 7, 3) := by decide +kernel
theorem dX8_fits_153 : decode cX8_fits 153 = .ok (.iconst 1, 1) := by decide +kernel
theorem dX8_fits_154 : decode cX8_fits 154 = .ok (.goto 4, 3) := by decide +kernel
theorem dX8_fits_157 : decode cX8_fits 157 = .ok (.iconst 0, 1) := by decide +kernel
theorem dX8_fits_158 : decode cX8_fits 158 = .ok (.ireturn, 1) := by decide +kernel
theorem dX8_fits_159 : decode cX8_fits 159 = .ok (.aload_n 0, 1) := by decide +kernel
theorem dX8_fits_160 : decode cX8_fits 160 = .ok (.iload_n 2, 1) := by decide +kernel
theorem dX8_fits_161 : decode cX8_fits 161 = .ok (.invokevirtual 158, 3) := by decide +kernel
theorem dX8_fits_164 : decode cX8_fits 164 = .ok (.ifCond .eq 15, 3) := by decide +kernel
theorem dX8_fits_167 : decode cX8_fits 167 = .ok (.iload 4, 2) := by decide +kernel
theorem dX8_fits_169 : decode cX8_fits 169 = .ok (.invokestatic 155, 3) := by decide +kernel
theorem dX8_fits_172 : decode cX8_fits 172 = .ok (.ifCond .eq 7, 3) := by decide +kernel
theorem dX8_fits_175 : decode cX8_fits 175 = .ok (.iconst 1, 1) := by decide +kernel
theorem dX8_fits_176 : decode cX8_fits 176 = .ok (.goto 4, 3) := by decide +kernel
theorem dX8_fits_179 : decode cX8_fits 179 = .ok (.iconst 0, 1) := by decide +kernel
theorem dX8_fits_180 : decode cX8_fits 180 = .ok (.ireturn, 1) := by decide +kernel
theorem dX8_fits_181 : decode cX8_fits 181 = .ok (.aload_n 0, 1) := by decide +kernel
theorem dX8_fits_182 : decode cX8_fits 182 = .ok (.iload_n 2, 1) := by decide +kernel
theorem dX8_fits_183 : decode cX8_fits 183 = .ok (.invokevirtual 148, 3) := by decide +kernel
theorem dX8_fits_186 : decode cX8_fits 186 = .ok (.ifCond .eq 28, 3) := by decide +kernel
theorem dX8_fits_189 : decode cX8_fits 189 = .ok (.aload_n 0, 1) := by decide +kernel
theorem dX8_fits_190 : decode cX8_fits 190 = .ok (.iload_n 3, 1) := by decide +kernel
theorem dX8_fits_191 : decode cX8_fits 191 = .ok (.invokevirtual 148, 3) := by decide +kernel
theorem dX8_fits_194 : decode cX8_fits 194 = .ok (.ifCond .eq 20, 3) := by decide +kernel
theorem dX8_fits_197 : decode cX8_fits 197 = .ok (.iload_n 2, 1) := by decide +kernel
theorem dX8_fits_198 : decode cX8_fits 198 = .ok (.iload_n 3, 1) := by decide +kernel
theorem dX8_fits_199 : decode cX8_fits 199 = .ok (.if_icmp .eq 15, 3) := by decide +kernel
theorem dX8_fits_202 : decode cX8_fits 202 = .ok (.iload 4, 2) := by decide +kernel
theorem dX8_fits_204 : decode cX8_fits 204 = .ok (.invokestatic 155, 3) := by decide +kernel
theorem dX8_fits_207 : decode cX8_fits 207 = .ok (.ifCond .eq 7, 3) := by decide +kernel
theorem dX8_fits_210 : decode cX8_fits 210 = .ok (.iconst 1, 1) := by decide +kernel
theorem dX8_fits_211 : decode cX8_fits 211 = .ok (.goto 4, 3) := by decide +kernel
theorem dX8_fits_214 : decode cX8_fits 214 = .ok (.iconst 0, 1) := by decide +kernel
theorem dX8_fits_215 : decode cX8_fits 215 = .ok (.ireturn, 1) := by decide +kernel
theorem dX8_fits_216 : decode cX8_fits 216 = .ok (.aload_n 0, 1) := by decide +kernel
theorem dX8_fits_217 : decode cX8_fits 217 = .ok (.iload_n 2, 1) := by decide +kernel
theorem dX8_fits_218 : decode cX8_fits 218 = .ok (.invokevirtual 148, 3) := by decide +kernel
theorem dX8_fits_221 : decode cX8_fits 221 = .ok (.ifCond .eq 19, 3) := by decide +kernel
theorem dX8_fits_224 : decode cX8_fits 224 = .ok (.iload_n 3, 1) := by decide +kernel
theorem dX8_fits_225 : decode cX8_fits 225 = .ok (.i2l, 1) := by decide +kernel
theorem dX8_fits_226 : decode cX8_fits 226 = .ok (.lconst 0, 1) := by decide +kernel
theorem dX8_fits_227 : decode cX8_fits 227 = .ok (.ldc2_w 161, 3) := by decide +kernel
theorem dX8_fits_230 : decode cX8_fits 230 = .ok (.invokestatic 111, 3) := by decide +kernel
theorem dX8_fits_233 : decode cX8_fits 233 = .ok (.ifCond .eq 7, 3) := by decide +kernel
theorem dX8_fits_236 : decode cX8_fits 236 = .ok (.iconst 1, 1) := by decide +kernel
theorem dX8_fits_237 : decode cX8_fits 237 = .ok (.goto 4, 3) := by decide +kernel
theorem dX8_fits_240 : decode cX8_fits 240 = .ok (.iconst 0, 1) := by decide +kernel
theorem dX8_fits_241 : decode cX8_fits 241 = .ok (.ireturn, 1) := by decide +kernel
theorem dX8_fits_242 : decode cX8_fits 242 = .ok (.iconst 0, 1) := by decide +kernel
theorem dX8_fits_243 : decode cX8_fits 243 = .ok (.ireturn, 1) := by decide +kernel
def f_X8_fits (x1 : Int32) (x2 : Int32) (x3 : Int32) (x4 : Int32) (M : m_M) : Int32 :=
  if x1 = 0 then
  m_bd (f_X8_isPerson x2 M) fun r2 =>
  if r2 = 0 then
  0
  else
  if x3 = (-1) then
  1
  else
  m_bd (f_X8_isPerson x3 M) fun r6 =>
  if r6 = 0 then
  0
  else
  1
  else
  if x1 = 1 ∨ x1 = 2 ∨ x1 = 3 ∨ x1 = 4 then
  m_bd (f_X8_isPerson x2 M) fun r10 =>
  if r10 = 0 then
  0
  else
  m_bd (f_X8_isTrade x3) fun r13 =>
  if r13 = 0 then
  0
  else
  m_bd (f_X8_isSum x4) fun r16 =>
  if r16 = 0 then
  0
  else
  1
  else
  if x1 = 5 then
  m_bd (f_X8_isDeal x2 M) fun r20 =>
  r20
  else
  if x1 = 6 ∨ x1 = 7 ∨ x1 = 8 then
  m_bd (f_X8_isPerson x2 M) fun r23 =>
  if r23 = 0 then
  0
  else
  m_bd (f_X8_isTrade x3) fun r26 =>
  if r26 = 0 then
  0
  else
  1
  else
  if x1 = 9 ∨ x1 = 10 ∨ x1 = 13 then
  m_bd (f_X8_isDeal x2 M) fun r30 =>
  if r30 = 0 then
  0
  else
  m_bd (f_X8_isSum x4) fun r33 =>
  if r33 = 0 then
  0
  else
  1
  else
  if x1 = 11 ∨ x1 = 12 then
  m_bd (f_X8_isPerson x2 M) fun r37 =>
  if r37 = 0 then
  0
  else
  m_bd (f_X8_isPerson x3 M) fun r40 =>
  if r40 = 0 then
  0
  else
  if x2 = x3 then
  0
  else
  m_bd (f_X8_isSum x4) fun r44 =>
  if r44 = 0 then
  0
  else
  1
  else
  if x1 = 14 then
  m_bd (f_X8_isPerson x2 M) fun r48 =>
  if r48 = 0 then
  0
  else
  m_bd (f_X8_isIn x3.toInt64 0 2) fun r51 =>
  if r51 = 0 then
  0
  else
  1
  else
  0
set_option maxHeartbeats 4000000 in
set_option maxRecDepth 100000 in
theorem c_X8_fits (l : Launch) (G : m_G) {x1 : Int32} {x2 : Int32} {x3 : Int32} {x4 : Int32} {M : m_M} {r0 : Int32}  (hres : f_X8_fits x1 x2 x3 x4 M = r0) : Met l yX8_fits (m_U yX8_fits cX8_fits 5 (some .boolean)) (m_R 2 46) (m_Pc G [.ref (m_ad G 172), .int x1, .int x2, .int x3, .int x4] M) (m_Qz G r0 M) 0 0 (m_A G) := by
  refine m_i0 (n := 5) RX8 rfl (by decide) (Nat.le_of_ble_eq_true rfl) ?_
  intro p e s m args below meth c X hr hlk hSt hP hS ls hl
  have hl : lv_has ls 5 [(0, .ref (m_ad G 172)), (1, .int x1), (2, .int x2), (3, .int x3), (4, .int x4)] := hl
  unfold f_X8_fits at hres
  refine lv_iload_n X.1 X.2.1 dX8_fits_0 rfl (lv_at hl 1 rfl) ?_
  by_cases hc1 : x1 = 0
  · have hres := m_it hres hc1
    refine m_tin (tgt := 76) X dX8_fits_1 ⟨_, hc1, by decide, by decide, rfl⟩ (by decide) ?_
    refine lv_aload_n X.1 X.2.1 dX8_fits_76 rfl (lv_at hl 0 rfl) ?_
    refine lv_iload_n X.1 X.2.1 dX8_fits_77 rfl (lv_at hl 2 rfl) ?_
    obtain ⟨r2, err2, hres⟩ := m_bd_e hres
    refine m_bz (m_cV (n := 1) (As := [.int x2]) (rest := []) X hSt hP hS hl.1 (c_X8_isPerson l G  err2) k_c_yX8_isPerson k_m_X8_148 k_i_yX8_isPerson k_s_yX8_isPerson k_n_X8 (by decide +kernel) (m_rc8 hSt hP m_z_172) rfl rfl ⟨Nat.le_of_ble_eq_true rfl, Nat.le_of_ble_eq_true rfl⟩ (Nat.le_of_ble_eq_true rfl) ⟨Nat.zero_le _, Nat.zero_le _⟩ dX8_fits_78) hS (fun H locs hP hS hz3 => ?_)
    refine lv_if_eq (tgt := 101) X.1 X.2.1 dX8_fits_81 (by decide) (fun hc4 => ?_) (fun hc4 => ?_)
    · have hres := m_it hres hc4
      refine lv_iconst (v := 0) X.1 X.2.1 dX8_fits_101 (by decide) ?_
      exact m_rz X hr hlk hP hS hres rfl (by decide) dX8_fits_102
    · have hres := m_if hres hc4
      refine lv_iload_n X.1 X.2.1 dX8_fits_84 rfl (lv_at hl 3 rfl) ?_
      refine lv_iconst (v := (-1)) X.1 X.2.1 dX8_fits_85 (by decide) ?_
      refine lv_icmp_eq (tgt := 97) X.1 X.2.1 dX8_fits_86 (by decide) (fun hc5 => ?_) (fun hc5 => ?_)
      · have hres := m_it hres hc5
        refine lv_iconst (v := 1) X.1 X.2.1 dX8_fits_97 (by decide) ?_
        refine lv_goto (tgt := 102) X.1 X.2.1 dX8_fits_98 (by decide) ?_
        exact m_rz X hr hlk hP hS hres rfl (by decide) dX8_fits_102
      · have hres := m_if hres hc5
        refine lv_aload_n X.1 X.2.1 dX8_fits_89 rfl (lv_at hl 0 rfl) ?_
        refine lv_iload_n X.1 X.2.1 dX8_fits_90 rfl (lv_at hl 3 rfl) ?_
        obtain ⟨r6, err6, hres⟩ := m_bd_e hres
        refine m_bz (m_cV (n := 1) (As := [.int x3]) (rest := []) X hSt hP hS hl.1 (c_X8_isPerson l G  err6) k_c_yX8_isPerson k_m_X8_148 k_i_yX8_isPerson k_s_yX8_isPerson k_n_X8 (by decide +kernel) (m_rc8 hSt hP m_z_172) rfl rfl ⟨Nat.le_of_ble_eq_true rfl, Nat.le_of_ble_eq_true rfl⟩ (Nat.le_of_ble_eq_true rfl) ⟨Nat.zero_le _, Nat.zero_le _⟩ dX8_fits_91) hS (fun H locs hP hS hz7 => ?_)
        refine lv_if_eq (tgt := 101) X.1 X.2.1 dX8_fits_94 (by decide) (fun hc8 => ?_) (fun hc8 => ?_)
        · have hres := m_it hres hc8
          refine lv_iconst (v := 0) X.1 X.2.1 dX8_fits_101 (by decide) ?_
          exact m_rz X hr hlk hP hS hres rfl (by decide) dX8_fits_102
        · have hres := m_if hres hc8
          refine lv_iconst (v := 1) X.1 X.2.1 dX8_fits_97 (by decide) ?_
          refine lv_goto (tgt := 102) X.1 X.2.1 dX8_fits_98 (by decide) ?_
          exact m_rz X hr hlk hP hS hres rfl (by decide) dX8_fits_102
  · have hres := m_if hres hc1
    by_cases hc9 : x1 = 1 ∨ x1 = 2 ∨ x1 = 3 ∨ x1 = 4
    · have hres := m_it hres hc9
      refine m_tin (tgt := 103) X dX8_fits_1 (by rcases hc9 with h | h | h | h <;> exact ⟨_, h, by decide, by decide, rfl⟩) (by decide) ?_
      refine lv_aload_n X.1 X.2.1 dX8_fits_103 rfl (lv_at hl 0 rfl) ?_
      refine lv_iload_n X.1 X.2.1 dX8_fits_104 rfl (lv_at hl 2 rfl) ?_
      obtain ⟨r10, err10, hres⟩ := m_bd_e hres
      refine m_bz (m_cV (n := 1) (As := [.int x2]) (rest := []) X hSt hP hS hl.1 (c_X8_isPerson l G  err10) k_c_yX8_isPerson k_m_X8_148 k_i_yX8_isPerson k_s_yX8_isPerson k_n_X8 (by decide +kernel) (m_rc8 hSt hP m_z_172) rfl rfl ⟨Nat.le_of_ble_eq_true rfl, Nat.le_of_ble_eq_true rfl⟩ (Nat.le_of_ble_eq_true rfl) ⟨Nat.zero_le _, Nat.zero_le _⟩ dX8_fits_105) hS (fun H locs hP hS hz11 => ?_)
      refine lv_if_eq (tgt := 130) X.1 X.2.1 dX8_fits_108 (by decide) (fun hc12 => ?_) (fun hc12 => ?_)
      · have hres := m_it hres hc12
        refine lv_iconst (v := 0) X.1 X.2.1 dX8_fits_130 (by decide) ?_
        exact m_rz X hr hlk hP hS hres rfl (by decide) dX8_fits_131
      · have hres := m_if hres hc12
        refine lv_iload_n X.1 X.2.1 dX8_fits_111 rfl (lv_at hl 3 rfl) ?_
        obtain ⟨r13, err13, hres⟩ := m_bd_e hres
        refine m_bz (m_cS (n := 1) (As := [.int x3]) (rest := []) X hSt hP hS hl.1 (c_X8_isTrade l G (M := M)  err13) k_c_yX8_isTrade k_m_X8_152 k_t_yX8_isTrade k_n_X8 (by decide +kernel) rfl rfl ⟨Nat.le_of_ble_eq_true rfl, Nat.le_of_ble_eq_true rfl⟩ (Nat.le_of_ble_eq_true rfl) ⟨Nat.zero_le _, Nat.zero_le _⟩ dX8_fits_112) hS (fun H locs hP hS hz14 => ?_)
        refine lv_if_eq (tgt := 130) X.1 X.2.1 dX8_fits_115 (by decide) (fun hc15 => ?_) (fun hc15 => ?_)
        · have hres := m_it hres hc15
          refine lv_iconst (v := 0) X.1 X.2.1 dX8_fits_130 (by decide) ?_
          exact m_rz X hr hlk hP hS hres rfl (by decide) dX8_fits_131
        · have hres := m_if hres hc15
          refine lv_iload X.1 X.2.1 dX8_fits_118 (lv_at hl 4 rfl) ?_
          obtain ⟨r16, err16, hres⟩ := m_bd_e hres
          refine m_bz (m_cS (n := 1) (As := [.int x4]) (rest := []) X hSt hP hS hl.1 (c_X8_isSum l G (M := M)  err16) k_c_yX8_isSum k_m_X8_155 k_t_yX8_isSum k_n_X8 (by decide +kernel) rfl rfl ⟨Nat.le_of_ble_eq_true rfl, Nat.le_of_ble_eq_true rfl⟩ (Nat.le_of_ble_eq_true rfl) ⟨Nat.zero_le _, Nat.zero_le _⟩ dX8_fits_120) hS (fun H locs hP hS hz17 => ?_)
          refine lv_if_eq (tgt := 130) X.1 X.2.1 dX8_fits_123 (by decide) (fun hc18 => ?_) (fun hc18 => ?_)
          · have hres := m_it hres hc18
            refine lv_iconst (v := 0) X.1 X.2.1 dX8_fits_130 (by decide) ?_
            exact m_rz X hr hlk hP hS hres rfl (by decide) dX8_fits_131
          · have hres := m_if hres hc18
            refine lv_iconst (v := 1) X.1 X.2.1 dX8_fits_126 (by decide) ?_
            refine lv_goto (tgt := 131) X.1 X.2.1 dX8_fits_127 (by decide) ?_
            exact m_rz X hr hlk hP hS hres rfl (by decide) dX8_fits_131
    · have hres := m_if hres hc9
      by_cases hc19 : x1 = 5
      · have hres := m_it hres hc19
        refine m_tin (tgt := 132) X dX8_fits_1 ⟨_, hc19, by decide, by decide, rfl⟩ (by decide) ?_
        refine lv_aload_n X.1 X.2.1 dX8_fits_132 rfl (lv_at hl 0 rfl) ?_
        refine lv_iload_n X.1 X.2.1 dX8_fits_133 rfl (lv_at hl 2 rfl) ?_
        obtain ⟨r20, err20, hres⟩ := m_bd_e hres
        refine m_bz (m_cV (n := 1) (As := [.int x2]) (rest := []) X hSt hP hS hl.1 (c_X8_isDeal l G  err20) k_c_yX8_isDeal k_m_X8_158 k_i_yX8_isDeal k_s_yX8_isDeal k_n_X8 (by decide +kernel) (m_rc8 hSt hP m_z_172) rfl rfl ⟨Nat.le_of_ble_eq_true rfl, Nat.le_of_ble_eq_true rfl⟩ (Nat.le_of_ble_eq_true rfl) ⟨Nat.zero_le _, Nat.zero_le _⟩ dX8_fits_134) hS (fun H locs hP hS hz21 => ?_)
        exact m_rz X hr hlk hP hS hres rfl hz21 dX8_fits_137
      · have hres := m_if hres hc19
        by_cases hc22 : x1 = 6 ∨ x1 = 7 ∨ x1 = 8
        · have hres := m_it hres hc22
          refine m_tin (tgt := 138) X dX8_fits_1 (by rcases hc22 with h | h | h <;> exact ⟨_, h, by decide, by decide, rfl⟩) (by decide) ?_
          refine lv_aload_n X.1 X.2.1 dX8_fits_138 rfl (lv_at hl 0 rfl) ?_
          refine lv_iload_n X.1 X.2.1 dX8_fits_139 rfl (lv_at hl 2 rfl) ?_
          obtain ⟨r23, err23, hres⟩ := m_bd_e hres
          refine m_bz (m_cV (n := 1) (As := [.int x2]) (rest := []) X hSt hP hS hl.1 (c_X8_isPerson l G  err23) k_c_yX8_isPerson k_m_X8_148 k_i_yX8_isPerson k_s_yX8_isPerson k_n_X8 (by decide +kernel) (m_rc8 hSt hP m_z_172) rfl rfl ⟨Nat.le_of_ble_eq_true rfl, Nat.le_of_ble_eq_true rfl⟩ (Nat.le_of_ble_eq_true rfl) ⟨Nat.zero_le _, Nat.zero_le _⟩ dX8_fits_140) hS (fun H locs hP hS hz24 => ?_)
          refine lv_if_eq (tgt := 157) X.1 X.2.1 dX8_fits_143 (by decide) (fun hc25 => ?_) (fun hc25 => ?_)
          · have hres := m_it hres hc25
            refine lv_iconst (v := 0) X.1 X.2.1 dX8_fits_157 (by decide) ?_
            exact m_rz X hr hlk hP hS hres rfl (by decide) dX8_fits_158
          · have hres := m_if hres hc25
            refine lv_iload_n X.1 X.2.1 dX8_fits_146 rfl (lv_at hl 3 rfl) ?_
            obtain ⟨r26, err26, hres⟩ := m_bd_e hres
            refine m_bz (m_cS (n := 1) (As := [.int x3]) (rest := []) X hSt hP hS hl.1 (c_X8_isTrade l G (M := M)  err26) k_c_yX8_isTrade k_m_X8_152 k_t_yX8_isTrade k_n_X8 (by decide +kernel) rfl rfl ⟨Nat.le_of_ble_eq_true rfl, Nat.le_of_ble_eq_true rfl⟩ (Nat.le_of_ble_eq_true rfl) ⟨Nat.zero_le _, Nat.zero_le _⟩ dX8_fits_147) hS (fun H locs hP hS hz27 => ?_)
            refine lv_if_eq (tgt := 157) X.1 X.2.1 dX8_fits_150 (by decide) (fun hc28 => ?_) (fun hc28 => ?_)
            · have hres := m_it hres hc28
              refine lv_iconst (v := 0) X.1 X.2.1 dX8_fits_157 (by decide) ?_
              exact m_rz X hr hlk hP hS hres rfl (by decide) dX8_fits_158
            · have hres := m_if hres hc28
              refine lv_iconst (v := 1) X.1 X.2.1 dX8_fits_153 (by decide) ?_
              refine lv_goto (tgt := 158) X.1 X.2.1 dX8_fits_154 (by decide) ?_
              exact m_rz X hr hlk hP hS hres rfl (by decide) dX8_fits_158
        · have hres := m_if hres hc22
          by_cases hc29 : x1 = 9 ∨ x1 = 10 ∨ x1 = 13
          · have hres := m_it hres hc29
            refine m_tin (tgt := 159) X dX8_fits_1 (by rcases hc29 with h | h | h <;> exact ⟨_, h, by decide, by decide, rfl⟩) (by decide) ?_
            refine lv_aload_n X.1 X.2.1 dX8_fits_159 rfl (lv_at hl 0 rfl) ?_
            refine lv_iload_n X.1 X.2.1 dX8_fits_160 rfl (lv_at hl 2 rfl) ?_
            obtain ⟨r30, err30, hres⟩ := m_bd_e hres
            refine m_bz (m_cV (n := 1) (As := [.int x2]) (rest := []) X hSt hP hS hl.1 (c_X8_isDeal l G  err30) k_c_yX8_isDeal k_m_X8_158 k_i_yX8_isDeal k_s_yX8_isDeal k_n_X8 (by decide +kernel) (m_rc8 hSt hP m_z_172) rfl rfl ⟨Nat.le_of_ble_eq_true rfl, Nat.le_of_ble_eq_true rfl⟩ (Nat.le_of_ble_eq_true rfl) ⟨Nat.zero_le _, Nat.zero_le _⟩ dX8_fits_161) hS (fun H locs hP hS hz31 => ?_)
            refine lv_if_eq (tgt := 179) X.1 X.2.1 dX8_fits_164 (by decide) (fun hc32 => ?_) (fun hc32 => ?_)
            · have hres := m_it hres hc32
              refine lv_iconst (v := 0) X.1 X.2.1 dX8_fits_179 (by decide) ?_
              exact m_rz X hr hlk hP hS hres rfl (by decide) dX8_fits_180
            · have hres := m_if hres hc32
              refine lv_iload X.1 X.2.1 dX8_fits_167 (lv_at hl 4 rfl) ?_
              obtain ⟨r33, err33, hres⟩ := m_bd_e hres
              refine m_bz (m_cS (n := 1) (As := [.int x4]) (rest := []) X hSt hP hS hl.1 (c_X8_isSum l G (M := M)  err33) k_c_yX8_isSum k_m_X8_155 k_t_yX8_isSum k_n_X8 (by decide +kernel) rfl rfl ⟨Nat.le_of_ble_eq_true rfl, Nat.le_of_ble_eq_true rfl⟩ (Nat.le_of_ble_eq_true rfl) ⟨Nat.zero_le _, Nat.zero_le _⟩ dX8_fits_169) hS (fun H locs hP hS hz34 => ?_)
              refine lv_if_eq (tgt := 179) X.1 X.2.1 dX8_fits_172 (by decide) (fun hc35 => ?_) (fun hc35 => ?_)
              · have hres := m_it hres hc35
                refine lv_iconst (v := 0) X.1 X.2.1 dX8_fits_179 (by decide) ?_
                exact m_rz X hr hlk hP hS hres rfl (by decide) dX8_fits_180
              · have hres := m_if hres hc35
                refine lv_iconst (v := 1) X.1 X.2.1 dX8_fits_175 (by decide) ?_
                refine lv_goto (tgt := 180) X.1 X.2.1 dX8_fits_176 (by decide) ?_
                exact m_rz X hr hlk hP hS hres rfl (by decide) dX8_fits_180
          · have hres := m_if hres hc29
            by_cases hc36 : x1 = 11 ∨ x1 = 12
            · have hres := m_it hres hc36
              refine m_tin (tgt := 181) X dX8_fits_1 (by rcases hc36 with h | h <;> exact ⟨_, h, by decide, by decide, rfl⟩) (by decide) ?_
              refine lv_aload_n X.1 X.2.1 dX8_fits_181 rfl (lv_at hl 0 rfl) ?_
              refine lv_iload_n X.1 X.2.1 dX8_fits_182 rfl (lv_at hl 2 rfl) ?_
              obtain ⟨r37, err37, hres⟩ := m_bd_e hres
              refine m_bz (m_cV (n := 1) (As := [.int x2]) (rest := []) X hSt hP hS hl.1 (c_X8_isPerson l G  err37) k_c_yX8_isPerson k_m_X8_148 k_i_yX8_isPerson k_s_yX8_isPerson k_n_X8 (by decide +kernel) (m_rc8 hSt hP m_z_172) rfl rfl ⟨Nat.le_of_ble_eq_true rfl, Nat.le_of_ble_eq_true rfl⟩ (Nat.le_of_ble_eq_true rfl) ⟨Nat.zero_le _, Nat.zero_le _⟩ dX8_fits_183) hS (fun H locs hP hS hz38 => ?_)
              refine lv_if_eq (tgt := 214) X.1 X.2.1 dX8_fits_186 (by decide) (fun hc39 => ?_) (fun hc39 => ?_)
              · have hres := m_it hres hc39
                refine lv_iconst (v := 0) X.1 X.2.1 dX8_fits_214 (by decide) ?_
                exact m_rz X hr hlk hP hS hres rfl (by decide) dX8_fits_215
              · have hres := m_if hres hc39
                refine lv_aload_n X.1 X.2.1 dX8_fits_189 rfl (lv_at hl 0 rfl) ?_
                refine lv_iload_n X.1 X.2.1 dX8_fits_190 rfl (lv_at hl 3 rfl) ?_
                obtain ⟨r40, err40, hres⟩ := m_bd_e hres
                refine m_bz (m_cV (n := 1) (As := [.int x3]) (rest := []) X hSt hP hS hl.1 (c_X8_isPerson l G  err40) k_c_yX8_isPerson k_m_X8_148 k_i_yX8_isPerson k_s_yX8_isPerson k_n_X8 (by decide +kernel) (m_rc8 hSt hP m_z_172) rfl rfl ⟨Nat.le_of_ble_eq_true rfl, Nat.le_of_ble_eq_true rfl⟩ (Nat.le_of_ble_eq_true rfl) ⟨Nat.zero_le _, Nat.zero_le _⟩ dX8_fits_191) hS (fun H locs hP hS hz41 => ?_)
                refine lv_if_eq (tgt := 214) X.1 X.2.1 dX8_fits_194 (by decide) (fun hc42 => ?_) (fun hc42 => ?_)
                · have hres := m_it hres hc42
                  refine lv_iconst (v := 0) X.1 X.2.1 dX8_fits_214 (by decide) ?_
                  exact m_rz X hr hlk hP hS hres rfl (by decide) dX8_fits_215
                · have hres := m_if hres hc42
                  refine lv_iload_n X.1 X.2.1 dX8_fits_197 rfl (lv_at hl 2 rfl) ?_
                  refine lv_iload_n X.1 X.2.1 dX8_fits_198 rfl (lv_at hl 3 rfl) ?_
                  refine lv_icmp_eq (tgt := 214) X.1 X.2.1 dX8_fits_199 (by decide) (fun hc43 => ?_) (fun hc43 => ?_)
                  · have hres := m_it hres hc43
                    refine lv_iconst (v := 0) X.1 X.2.1 dX8_fits_214 (by decide) ?_
                    exact m_rz X hr hlk hP hS hres rfl (by decide) dX8_fits_215
                  · have hres := m_if hres hc43
                    refine lv_iload X.1 X.2.1 dX8_fits_202 (lv_at hl 4 rfl) ?_
                    obtain ⟨r44, err44, hres⟩ := m_bd_e hres
                    refine m_bz (m_cS (n := 1) (As := [.int x4]) (rest := []) X hSt hP hS hl.1 (c_X8_isSum l G (M := M)  err44) k_c_yX8_isSum k_m_X8_155 k_t_yX8_isSum k_n_X8 (by decide +kernel) rfl rfl ⟨Nat.le_of_ble_eq_true rfl, Nat.le_of_ble_eq_true rfl⟩ (Nat.le_of_ble_eq_true rfl) ⟨Nat.zero_le _, Nat.zero_le _⟩ dX8_fits_204) hS (fun H locs hP hS hz45 => ?_)
                    refine lv_if_eq (tgt := 214) X.1 X.2.1 dX8_fits_207 (by decide) (fun hc46 => ?_) (fun hc46 => ?_)
                    · have hres := m_it hres hc46
                      refine lv_iconst (v := 0) X.1 X.2.1 dX8_fits_214 (by decide) ?_
                      exact m_rz X hr hlk hP hS hres rfl (by decide) dX8_fits_215
                    · have hres := m_if hres hc46
                      refine lv_iconst (v := 1) X.1 X.2.1 dX8_fits_210 (by decide) ?_
                      refine lv_goto (tgt := 215) X.1 X.2.1 dX8_fits_211 (by decide) ?_
                      exact m_rz X hr hlk hP hS hres rfl (by decide) dX8_fits_215
            · have hres := m_if hres hc36
              by_cases hc47 : x1 = 14
              · have hres := m_it hres hc47
                refine m_tin (tgt := 216) X dX8_fits_1 ⟨_, hc47, by decide, by decide, rfl⟩ (by decide) ?_
                refine lv_aload_n X.1 X.2.1 dX8_fits_216 rfl (lv_at hl 0 rfl) ?_
                refine lv_iload_n X.1 X.2.1 dX8_fits_217 rfl (lv_at hl 2 rfl) ?_
                obtain ⟨r48, err48, hres⟩ := m_bd_e hres
                refine m_bz (m_cV (n := 1) (As := [.int x2]) (rest := []) X hSt hP hS hl.1 (c_X8_isPerson l G  err48) k_c_yX8_isPerson k_m_X8_148 k_i_yX8_isPerson k_s_yX8_isPerson k_n_X8 (by decide +kernel) (m_rc8 hSt hP m_z_172) rfl rfl ⟨Nat.le_of_ble_eq_true rfl, Nat.le_of_ble_eq_true rfl⟩ (Nat.le_of_ble_eq_true rfl) ⟨Nat.zero_le _, Nat.zero_le _⟩ dX8_fits_218) hS (fun H locs hP hS hz49 => ?_)
                refine lv_if_eq (tgt := 240) X.1 X.2.1 dX8_fits_221 (by decide) (fun hc50 => ?_) (fun hc50 => ?_)
                · have hres := m_it hres hc50
                  refine lv_iconst (v := 0) X.1 X.2.1 dX8_fits_240 (by decide) ?_
                  exact m_rz X hr hlk hP hS hres rfl (by decide) dX8_fits_241
                · have hres := m_if hres hc50
                  refine lv_iload_n X.1 X.2.1 dX8_fits_224 rfl (lv_at hl 3 rfl) ?_
                  refine lv_i2l (v := x3.toInt64) X.1 X.2.1 dX8_fits_225 rfl ?_
                  refine lv_lconst (v := 0) X.1 X.2.1 dX8_fits_226 (by decide) ?_
                  refine lv_ldc2 (v := 2) X.1 X.2.1 X.2.2.2.1 (X.2.2.2.2 _ k_l_X8_161) dX8_fits_227 ?_
                  obtain ⟨r51, err51, hres⟩ := m_bd_e hres
                  refine m_bz (m_cS (n := 3) (As := [.long x3.toInt64, .long 0, .long 2]) (rest := []) X hSt hP hS hl.1 (c_X8_isIn l G (M := M)  err51) k_c_yX8_isIn k_m_X8_111 k_t_yX8_isIn k_n_X8 (by decide +kernel) rfl rfl ⟨Nat.le_of_ble_eq_true rfl, Nat.le_of_ble_eq_true rfl⟩ (Nat.le_of_ble_eq_true rfl) ⟨Nat.zero_le _, Nat.zero_le _⟩ dX8_fits_230) hS (fun H locs hP hS hz52 => ?_)
                  refine lv_if_eq (tgt := 240) X.1 X.2.1 dX8_fits_233 (by decide) (fun hc53 => ?_) (fun hc53 => ?_)
                  · have hres := m_it hres hc53
                    refine lv_iconst (v := 0) X.1 X.2.1 dX8_fits_240 (by decide) ?_
                    exact m_rz X hr hlk hP hS hres rfl (by decide) dX8_fits_241
                  · have hres := m_if hres hc53
                    refine lv_iconst (v := 1) X.1 X.2.1 dX8_fits_236 (by decide) ?_
                    refine lv_goto (tgt := 241) X.1 X.2.1 dX8_fits_237 (by decide) ?_
                    exact m_rz X hr hlk hP hS hres rfl (by decide) dX8_fits_241
              · have hres := m_if hres hc47
                refine m_tdf (tgt := 242) X dX8_fits_1 (by
    have := m_ne (z := 0) hc1 (by decide)
    have := m_ne (z := 1) (not_or.mp hc9).1 (by decide)
    have := m_ne (z := 2) (not_or.mp (not_or.mp hc9).2).1 (by decide)
    have := m_ne (z := 3) (not_or.mp (not_or.mp (not_or.mp hc9).2).2).1 (by decide)
    have := m_ne (z := 4) (not_or.mp (not_or.mp (not_or.mp hc9).2).2).2 (by decide)
    have := m_ne (z := 5) hc19 (by decide)
    have := m_ne (z := 6) (not_or.mp hc22).1 (by decide)
    have := m_ne (z := 7) (not_or.mp (not_or.mp hc22).2).1 (by decide)
    have := m_ne (z := 8) (not_or.mp (not_or.mp hc22).2).2 (by decide)
    have := m_ne (z := 9) (not_or.mp hc29).1 (by decide)
    have := m_ne (z := 10) (not_or.mp (not_or.mp hc29).2).1 (by decide)
    have := m_ne (z := 13) (not_or.mp (not_or.mp hc29).2).2 (by decide)
    have := m_ne (z := 11) (not_or.mp hc36).1 (by decide)
    have := m_ne (z := 12) (not_or.mp hc36).2 (by decide)
    have := m_ne (z := 14) hc47 (by decide)
    exact Or.inl (by omega)) (by decide) ?_
                refine lv_iconst (v := 0) X.1 X.2.1 dX8_fits_242 (by decide) ?_
                exact m_rz X hr hlk hP hS hres rfl (by decide) dX8_fits_243
theorem dX8_from_0 : decode cX8_from 0 = .ok (.iload_n 1, 1) := by decide +kernel
theorem dX8_from_1 : decode cX8_from 1 = .ok (.invokestatic 269, 3) := by decide +kernel
theorem dX8_from_4 : decode cX8_from 4 = .ok (.ifCond .ne 6, 3) := by decide +kernel
theorem dX8_from_7 : decode cX8_from 7 = .ok (.bipush (-2), 2) := by decide +kernel
theorem dX8_from_9 : decode cX8_from 9 = .ok (.ireturn, 1) := by decide +kernel
theorem dX8_from_10 : decode cX8_from 10 = .ok (.aload_n 0, 1) := by decide +kernel
theorem dX8_from_11 : decode cX8_from 11 = .ok (.getfield 16, 3) := by decide +kernel
theorem dX8_from_14 : decode cX8_from 14 = .ok (.iload_n 1, 1) := by decide +kernel
theorem dX8_from_15 : decode cX8_from 15 = .ok (.baload, 1) := by decide +kernel
theorem dX8_from_16 : decode cX8_from 16 = .ok (.ifCond .ne 6, 3) := by decide +kernel
theorem dX8_from_19 : decode cX8_from 19 = .ok (.bipush (-3), 2) := by decide +kernel
theorem dX8_from_21 : decode cX8_from 21 = .ok (.ireturn, 1) := by decide +kernel
theorem dX8_from_22 : decode cX8_from 22 = .ok (.iconst 0, 1) := by decide +kernel
theorem dX8_from_23 : decode cX8_from 23 = .ok (.istore_n 2, 1) := by decide +kernel
theorem dX8_from_24 : decode cX8_from 24 = .ok (.iload_n 2, 1) := by decide +kernel
theorem dX8_from_25 : decode cX8_from 25 = .ok (.sipush 471, 3) := by decide +kernel
theorem dX8_from_28 : decode cX8_from 28 = .ok (.if_icmp .ge 27, 3) := by decide +kernel
theorem dX8_from_31 : decode cX8_from 31 = .ok (.aload_n 0, 1) := by decide +kernel
theorem dX8_from_32 : decode cX8_from 32 = .ok (.getfield 7, 3) := by decide +kernel
theorem dX8_from_35 : decode cX8_from 35 = .ok (.iload_n 2, 1) := by decide +kernel
theorem dX8_from_36 : decode cX8_from 36 = .ok (.aload_n 0, 1) := by decide +kernel
theorem dX8_from_37 : decode cX8_from 37 = .ok (.getfield 13, 3) := by decide +kernel
theorem dX8_from_40 : decode cX8_from 40 = .ok (.sipush 471, 3) := by decide +kernel
theorem dX8_from_43 : decode cX8_from 43 = .ok (.iload_n 1, 1) := by decide +kernel
theorem dX8_from_44 : decode cX8_from 44 = .ok (.imul, 1) := by decide +kernel
theorem dX8_from_45 : decode cX8_from 45 = .ok (.iload_n 2, 1) := by decide +kernel
theorem dX8_from_46 : decode cX8_from 46 = .ok (.iadd, 1) := by decide +kernel
theorem dX8_from_47 : decode cX8_from 47 = .ok (.iaload, 1) := by decide +kernel
theorem dX8_from_48 : decode cX8_from 48 = .ok (.iastore, 1) := by decide +kernel
theorem dX8_from_49 : decode cX8_from 49 = .ok (.iinc 2 1, 3) := by decide +kernel
theorem dX8_from_52 : decode cX8_from 52 = .ok (.goto (-28), 3) := by decide +kernel
theorem dX8_from_55 : decode cX8_from 55 = .ok (.iconst 1, 1) := by decide +kernel
theorem dX8_from_56 : decode cX8_from 56 = .ok (.ireturn, 1) := by decide +kernel
def f_X8_from_b24 (n : Nat) (x1 : Int32) : Nat → Int32 → m_M → Option (Int32 × m_M)
  | 0, _, _ => none
  | u + 1, x2, M =>
    if (471 : Int32) ≤ x2 then
  some (1, M)
  else
  m_gd (m_in (((471 : Int32) * x1) + x2) 942) (
  m_gd (m_in x2 471) (
  m_bd (m_sI M 173 x2.toNatClampNeg (M.1 174 ((((471 : Int32) * x1) + x2).toNatClampNeg))) fun M4 =>
  f_X8_from_b24 n x1 u (x2 + 1) M4))
def f_X8_from (n : Nat) (x1 : Int32) (M : m_M) : Option (Int32 × m_M) :=
  m_bd (f_X8_isLaw x1) fun r5 =>
  if r5 = 0 then
  some ((-2), M)
  else
  m_gd (m_in x1 2) (
  if (M.1 175 x1.toNatClampNeg) = 0 then
  some ((-3), M)
  else
  f_X8_from_b24 n x1 n 0 M)
set_option maxHeartbeats 4000000 in
set_option maxRecDepth 100000 in
theorem c_X8_from (l : Launch) (G : m_G) {n : Nat} {x1 : Int32} {M : m_M} {r0 : Int32} {M0 : m_M}  (hres : f_X8_from n x1 M = some (r0, M0)) : Met l yX8_from (m_U yX8_from cX8_from 3 (some .int)) (m_R 2 45) (m_Pc G [.ref (m_ad G 172), .int x1] M) (m_Qi G r0 M0) 0 0 (m_A G) := by
  refine m_i0 (n := 3) RX8 rfl (by decide) (Nat.le_of_ble_eq_true rfl) ?_
  intro p e s m args below meth c X hr hlk hSt hP hS ls hl
  have hl : lv_has ls 3 [(0, .ref (m_ad G 172)), (1, .int x1)] := hl
  have B24 : ∀ (u : Nat) (x2 : Int32) (M : m_M) (H : Heap) (locs : List Loc) (ls : Array Slot), m_P G M H → va_S (m_A G) s.heap H locs → lv_has ls 3 [(0, .ref (m_ad G 172)), (1, .int x1), (2, .int x2)] → f_X8_from_b24 n x1 u x2 M = some (r0, M0) → W p l e (m_R 2 45) s m args below meth c H locs 0 0 (MQ below (m_Qi G r0 M0) args s 0 0 (m_A G)) (F0 m 24 ls []) := by
    intro u
    induction u with
    | zero =>
      intro x2 M H locs ls hP hS hl hres
      cases hres
    | succ u ih =>
      intro x2 M H locs ls hP hS hl hres
      rw [f_X8_from_b24] at hres
      refine lv_iload_n X.1 X.2.1 dX8_from_24 rfl (lv_at hl 2 rfl) ?_
      refine lv_sipush (v := 471) X.1 X.2.1 dX8_from_25 (by decide) ?_
      refine lv_icmp_ge (tgt := 55) X.1 X.2.1 dX8_from_28 (by decide) (fun hc1 => ?_) (fun hc1 => ?_)
      · have hres := m_it hres hc1
        refine lv_iconst (v := 1) X.1 X.2.1 dX8_from_55 (by decide) ?_
        exact m_ri X hr hlk hP hS (Prod.mk.inj (Option.some.inj hres)).1 (Prod.mk.inj (Option.some.inj hres)).2 dX8_from_56
      · have hres := m_if hres hc1
        refine lv_aload_n X.1 X.2.1 dX8_from_31 rfl (lv_at hl 0 rfl) ?_
        refine m_g8 (v := .ref (m_ad G 173)) X hSt hP m_z_172 0 (by decide) rfl k_f_X8_7 dX8_from_32 ?_
        refine lv_iload_n X.1 X.2.1 dX8_from_35 rfl (lv_at hl 2 rfl) ?_
        refine lv_aload_n X.1 X.2.1 dX8_from_36 rfl (lv_at hl 0 rfl) ?_
        refine m_g8 (v := .ref (m_ad G 174)) X hSt hP m_z_172 1 (by decide) rfl k_f_X8_13 dX8_from_37 ?_
        refine lv_sipush (v := 471) X.1 X.2.1 dX8_from_40 (by decide) ?_
        refine lv_iload_n X.1 X.2.1 dX8_from_43 rfl (lv_at hl 1 rfl) ?_
        refine lv_imul X.1 X.2.1 dX8_from_44 ?_
        refine lv_iload_n X.1 X.2.1 dX8_from_45 rfl (lv_at hl 2 rfl) ?_
        refine lv_iadd X.1 X.2.1 dX8_from_46 ?_
        obtain ⟨hg2, hres⟩ := m_gd_e hres
        refine m_ia (j := ((((471 : Int32) * x1) + x2).toNatClampNeg)) X hSt hP m_z_174 hg2 rfl dX8_from_47 ?_
        obtain ⟨hg3, hres⟩ := m_gd_e hres
        obtain ⟨M4, eM4, hres⟩ := m_bd_e hres
        refine m_is (j := x2.toNatClampNeg) X hSt hP hS m_z_173 hg3 rfl dX8_from_48 eM4 (fun H locs hP hS => ?_)
        refine lv_iinc (v := (x2 + 1)) (lv' := [(2, .int (x2 + 1)), (0, .ref (m_ad G 172)), (1, .int x1)]) X.1 X.2.1 dX8_from_49 hl (k := 2) rfl rfl (by decide) rfl (fun ls hl => ?_)
        refine lv_goto (tgt := 24) X.1 X.2.1 dX8_from_52 (by decide) ?_
        exact ih (x2 + 1) M4 _ _ _ hP hS (lv_sub hl [1, 2, 0] rfl) hres
  unfold f_X8_from at hres
  refine lv_iload_n X.1 X.2.1 dX8_from_0 rfl (lv_at hl 1 rfl) ?_
  obtain ⟨r5, err5, hres⟩ := m_bd_e hres
  refine m_bz (m_cS (n := 1) (As := [.int x1]) (rest := []) X hSt hP hS hl.1 (c_X8_isLaw l G (M := M)  err5) k_c_yX8_isLaw k_m_X8_269 k_t_yX8_isLaw k_n_X8 (by decide +kernel) rfl rfl ⟨Nat.le_of_ble_eq_true rfl, Nat.le_of_ble_eq_true rfl⟩ (Nat.le_of_ble_eq_true rfl) ⟨Nat.zero_le _, Nat.zero_le _⟩ dX8_from_1) hS (fun H locs hP hS hz6 => ?_)
  refine lv_if_ne (tgt := 10) X.1 X.2.1 dX8_from_4 (by decide) (fun hc7 => ?_) (fun hc7 => ?_)
  · have hres := m_if hres hc7
    refine lv_aload_n X.1 X.2.1 dX8_from_10 rfl (lv_at hl 0 rfl) ?_
    refine m_g8 (v := .ref (m_ad G 175)) X hSt hP m_z_172 2 (by decide) rfl k_f_X8_16 dX8_from_11 ?_
    refine lv_iload_n X.1 X.2.1 dX8_from_14 rfl (lv_at hl 1 rfl) ?_
    obtain ⟨hg8, hres⟩ := m_gd_e hres
    refine m_za (j := x1.toNatClampNeg) X hSt hP m_z_175 hg8 rfl dX8_from_15 ?_
    refine lv_if_ne (tgt := 22) X.1 X.2.1 dX8_from_16 (by decide) (fun hc9 => ?_) (fun hc9 => ?_)
    · have hres := m_if hres hc9
      refine lv_iconst (v := 0) X.1 X.2.1 dX8_from_22 (by decide) ?_
      refine lv_istore_n (lv' := [(2, .int 0), (0, .ref (m_ad G 172)), (1, .int x1)]) X.1 X.2.1 dX8_from_23 rfl hl (by decide) rfl (fun ls hl => ?_)
      exact B24 n 0 M _ _ _ hP hS (lv_sub hl [1, 2, 0] rfl) hres
    · have hres := m_it hres hc9
      refine lv_bipush (v := (-3)) X.1 X.2.1 dX8_from_19 (by decide) ?_
      exact m_ri X hr hlk hP hS (Prod.mk.inj (Option.some.inj hres)).1 (Prod.mk.inj (Option.some.inj hres)).2 dX8_from_21
  · have hres := m_it hres hc7
    refine lv_bipush (v := (-2)) X.1 X.2.1 dX8_from_7 (by decide) ?_
    exact m_ri X hr hlk hP hS (Prod.mk.inj (Option.some.inj hres)).1 (Prod.mk.inj (Option.some.inj hres)).2 dX8_from_9
theorem dX8_isLaid_0 : decode cX8_isLaid 0 = .ok (.aload_n 0, 1) := by decide +kernel
theorem dX8_isLaid_1 : decode cX8_isLaid 1 = .ok (.aload_n 0, 1) := by decide +kernel
theorem dX8_isLaid_2 : decode cX8_isLaid 2 = .ok (.getfield 51, 3) := by decide +kernel
theorem dX8_isLaid_5 : decode cX8_isLaid 5 = .ok (.iload_n 1, 1) := by decide +kernel
theorem dX8_isLaid_6 : decode cX8_isLaid 6 = .ok (.iaload, 1) := by decide +kernel
theorem dX8_isLaid_7 : decode cX8_isLaid 7 = .ok (.iconst 0, 1) := by decide +kernel
theorem dX8_isLaid_8 : decode cX8_isLaid 8 = .ok (.invokevirtual 136, 3) := by decide +kernel
theorem dX8_isLaid_11 : decode cX8_isLaid 11 = .ok (.aload_n 0, 1) := by decide +kernel
theorem dX8_isLaid_12 : decode cX8_isLaid 12 = .ok (.getfield 121, 3) := by decide +kernel
theorem dX8_isLaid_15 : decode cX8_isLaid 15 = .ok (.if_icmp .gt 7, 3) := by decide +kernel
theorem dX8_isLaid_18 : decode cX8_isLaid 18 = .ok (.iconst 1, 1) := by decide +kernel
theorem dX8_isLaid_19 : decode cX8_isLaid 19 = .ok (.goto 4, 3) := by decide +kernel
theorem dX8_isLaid_22 : decode cX8_isLaid 22 = .ok (.iconst 0, 1) := by decide +kernel
theorem dX8_isLaid_23 : decode cX8_isLaid 23 = .ok (.ireturn, 1) := by decide +kernel
def f_X8_isLaid (x1 : Int32) (M : m_M) : Option Int32 :=
  m_gd (m_in x1 60) (
  m_ob (f_X8_of (M.1 185 x1.toNatClampNeg) 0 M) fun r2 =>
  if (M.1 172 26) < r2 then
  some 0
  else
  some 1)
set_option maxHeartbeats 4000000 in
set_option maxRecDepth 100000 in
theorem c_X8_isLaid (l : Launch) (G : m_G) {x1 : Int32} {M : m_M} {r0 : Int32}  (hres : f_X8_isLaid x1 M = some r0) : Met l yX8_isLaid (m_U yX8_isLaid cX8_isLaid 2 (some .boolean)) (m_R 1 22) (m_Pc G [.ref (m_ad G 172), .int x1] M) (m_Qz G r0 M) 0 0 (m_A G) := by
  refine m_i0 (n := 2) RX8 rfl (by decide) (Nat.le_of_ble_eq_true rfl) ?_
  intro p e s m args below meth c X hr hlk hSt hP hS ls hl
  have hl : lv_has ls 2 [(0, .ref (m_ad G 172)), (1, .int x1)] := hl
  unfold f_X8_isLaid at hres
  refine lv_aload_n X.1 X.2.1 dX8_isLaid_0 rfl (lv_at hl 0 rfl) ?_
  refine lv_aload_n X.1 X.2.1 dX8_isLaid_1 rfl (lv_at hl 0 rfl) ?_
  refine m_g8 (v := .ref (m_ad G 185)) X hSt hP m_z_172 15 (by decide) rfl k_f_X8_51 dX8_isLaid_2 ?_
  refine lv_iload_n X.1 X.2.1 dX8_isLaid_5 rfl (lv_at hl 1 rfl) ?_
  obtain ⟨hg1, hres⟩ := m_gd_e hres
  refine m_ia (j := x1.toNatClampNeg) X hSt hP m_z_185 hg1 rfl dX8_isLaid_6 ?_
  refine lv_iconst (v := 0) X.1 X.2.1 dX8_isLaid_7 (by decide) ?_
  obtain ⟨r2, err2, hres⟩ := m_ob_e hres
  refine m_bi (m_cV (n := 2) (As := [.int (M.1 185 x1.toNatClampNeg), .int 0]) (rest := []) X hSt hP hS hl.1 (c_X8_of l G  err2) k_c_yX8_of k_m_X8_136 k_i_yX8_of k_s_yX8_of k_n_X8 (by decide +kernel) (m_rc8 hSt hP m_z_172) rfl rfl ⟨Nat.le_of_ble_eq_true rfl, Nat.le_of_ble_eq_true rfl⟩ (Nat.le_of_ble_eq_true rfl) ⟨Nat.zero_le _, Nat.zero_le _⟩ dX8_isLaid_8) hS (fun H locs hP hS => ?_)
  refine lv_aload_n X.1 X.2.1 dX8_isLaid_11 rfl (lv_at hl 0 rfl) ?_
  refine m_g8 (v := .int (M.1 172 26)) X hSt hP m_z_172 26 (by decide) rfl k_f_X8_121 dX8_isLaid_12 ?_
  refine lv_icmp_gt (tgt := 22) X.1 X.2.1 dX8_isLaid_15 (by decide) (fun hc3 => ?_) (fun hc3 => ?_)
  · have hres := m_it hres hc3
    refine lv_iconst (v := 0) X.1 X.2.1 dX8_isLaid_22 (by decide) ?_
    exact m_rz X hr hlk hP hS (Option.some.inj hres) rfl (by decide) dX8_isLaid_23
  · have hres := m_if hres hc3
    refine lv_iconst (v := 1) X.1 X.2.1 dX8_isLaid_18 (by decide) ?_
    refine lv_goto (tgt := 23) X.1 X.2.1 dX8_isLaid_19 (by decide) ?_
    exact m_rz X hr hlk hP hS (Option.some.inj hres) rfl (by decide) dX8_isLaid_23
theorem dX8_sharedOf_0 : decode cX8_sharedOf 0 = .ok (.iconst 0, 1) := by decide +kernel
theorem dX8_sharedOf_1 : decode cX8_sharedOf 1 = .ok (.istore_n 3, 1) := by decide +kernel
theorem dX8_sharedOf_2 : decode cX8_sharedOf 2 = .ok (.iconst 0, 1) := by decide +kernel
theorem dX8_sharedOf_3 : decode cX8_sharedOf 3 = .ok (.istore 4, 2) := by decide +kernel
theorem dX8_sharedOf_5 : decode cX8_sharedOf 5 = .ok (.iload 4, 2) := by decide +kernel
theorem dX8_sharedOf_7 : decode cX8_sharedOf 7 = .ok (.aload_n 0, 1) := by decide +kernel
theorem dX8_sharedOf_8 : decode cX8_sharedOf 8 = .ok (.invokevirtual 400, 3) := by decide +kernel
theorem dX8_sharedOf_11 : decode cX8_sharedOf 11 = .ok (.if_icmp .ge 66, 3) := by decide +kernel
theorem dX8_sharedOf_14 : decode cX8_sharedOf 14 = .ok (.aload_n 0, 1) := by decide +kernel
theorem dX8_sharedOf_15 : decode cX8_sharedOf 15 = .ok (.getfield 7, 3) := by decide +kernel
theorem dX8_sharedOf_18 : decode cX8_sharedOf 18 = .ok (.sipush 462, 3) := by decide +kernel
theorem dX8_sharedOf_21 : decode cX8_sharedOf 21 = .ok (.iload 4, 2) := by decide +kernel
theorem dX8_sharedOf_23 : decode cX8_sharedOf 23 = .ok (.iadd, 1) := by decide +kernel
theorem dX8_sharedOf_24 : decode cX8_sharedOf 24 = .ok (.iaload, 1) := by decide +kernel
theorem dX8_sharedOf_25 : decode cX8_sharedOf 25 = .ok (.istore 5, 2) := by decide +kernel
theorem dX8_sharedOf_27 : decode cX8_sharedOf 27 = .ok (.iload_n 3, 1) := by decide +kernel
theorem dX8_sharedOf_28 : decode cX8_sharedOf 28 = .ok (.iload_n 2, 1) := by decide +kernel
theorem dX8_sharedOf_29 : decode cX8_sharedOf 29 = .ok (.iload 4, 2) := by decide +kernel
theorem dX8_sharedOf_31 : decode cX8_sharedOf 31 = .ok (.ishr, 1) := by decide +kernel
theorem dX8_sharedOf_32 : decode cX8_sharedOf 32 = .ok (.iconst 1, 1) := by decide +kernel
theorem dX8_sharedOf_33 : decode cX8_sharedOf 33 = .ok (.iand, 1) := by decide +kernel
theorem dX8_sharedOf_34 : decode cX8_sharedOf 34 = .ok (.iconst 1, 1) := by decide +kernel
theorem dX8_sharedOf_35 : decode cX8_sharedOf 35 = .ok (.if_icmp .ne 33, 3) := by decide +kernel
theorem dX8_sharedOf_38 : decode cX8_sharedOf 38 = .ok (.aload_n 0, 1) := by decide +kernel
theorem dX8_sharedOf_39 : decode cX8_sharedOf 39 = .ok (.iload 5, 2) := by decide +kernel
theorem dX8_sharedOf_41 : decode cX8_sharedOf 41 = .ok (.invokevirtual 403, 3) := by decide +kernel
theorem dX8_sharedOf_44 : decode cX8_sharedOf 44 = .ok (.ifCond .eq 24, 3) := by decide +kernel
theorem dX8_sharedOf_47 : decode cX8_sharedOf 47 = .ok (.aload_n 0, 1) := by decide +kernel
theorem dX8_sharedOf_48 : decode cX8_sharedOf 48 = .ok (.iload 5, 2) := by decide +kernel
theorem dX8_sharedOf_50 : decode cX8_sharedOf 50 = .ok (.invokevirtual 361, 3) := by decide +kernel
theorem dX8_sharedOf_53 : decode cX8_sharedOf 53 = .ok (.iload_n 1, 1) := by decide +kernel
theorem dX8_sharedOf_54 : decode cX8_sharedOf 54 = .ok (.if_icmp .ne 14, 3) := by decide +kernel
theorem dX8_sharedOf_57 : decode cX8_sharedOf 57 = .ok (.iconst 1, 1) := by decide +kernel
theorem dX8_sharedOf_58 : decode cX8_sharedOf 58 = .ok (.aload_n 0, 1) := by decide +kernel
theorem dX8_sharedOf_59 : decode cX8_sharedOf 59 = .ok (.iload 5, 2) := by decide +kernel
theorem dX8_sharedOf_61 : decode cX8_sharedOf 61 = .ok (.invokevirtual 379, 3) := by decide +kernel
theorem dX8_sharedOf_64 : decode cX8_sharedOf 64 = .ok (.ishl, 1) := by decide +kernel
theorem dX8_sharedOf_65 : decode cX8_sharedOf 65 = .ok (.goto 4, 3) := by decide +kernel
theorem dX8_sharedOf_68 : decode cX8_sharedOf 68 = .ok (.iconst 0, 1) := by decide +kernel
theorem dX8_sharedOf_69 : decode cX8_sharedOf 69 = .ok (.ior, 1) := by decide +kernel
theorem dX8_sharedOf_70 : decode cX8_sharedOf 70 = .ok (.istore_n 3, 1) := by decide +kernel
theorem dX8_sharedOf_71 : decode cX8_sharedOf 71 = .ok (.iinc 4 1, 3) := by decide +kernel
theorem dX8_sharedOf_74 : decode cX8_sharedOf 74 = .ok (.goto (-69), 3) := by decide +kernel
theorem dX8_sharedOf_77 : decode cX8_sharedOf 77 = .ok (.iconst 0, 1) := by decide +kernel
theorem dX8_sharedOf_78 : decode cX8_sharedOf 78 = .ok (.istore 4, 2) := by decide +kernel
theorem dX8_sharedOf_80 : decode cX8_sharedOf 80 = .ok (.iconst 0, 1) := by decide +kernel
theorem dX8_sharedOf_81 : decode cX8_sharedOf 81 = .ok (.istore 5, 2) := by decide +kernel
theorem dX8_sharedOf_83 : decode cX8_sharedOf 83 = .ok (.iload 5, 2) := by decide +kernel
theorem dX8_sharedOf_85 : decode cX8_sharedOf 85 = .ok (.iconst 4, 1) := by decide +kernel
theorem dX8_sharedOf_86 : decode cX8_sharedOf 86 = .ok (.if_icmp .ge 32, 3) := by decide +kernel
theorem dX8_sharedOf_89 : decode cX8_sharedOf 89 = .ok (.iload 4, 2) := by decide +kernel
theorem dX8_sharedOf_91 : decode cX8_sharedOf 91 = .ok (.iload_n 3, 1) := by decide +kernel
theorem dX8_sharedOf_92 : decode cX8_sharedOf 92 = .ok (.iload 5, 2) := by decide +kernel
theorem dX8_sharedOf_94 : decode cX8_sharedOf 94 = .ok (.ishr, 1) := by decide +kernel
theorem dX8_sharedOf_95 : decode cX8_sharedOf 95 = .ok (.iconst 1, 1) := by decide +kernel
theorem dX8_sharedOf_96 : decode cX8_sharedOf 96 = .ok (.iand, 1) := by decide +kernel
theorem dX8_sharedOf_97 : decode cX8_sharedOf 97 = .ok (.aload_n 0, 1) := by decide +kernel
theorem dX8_sharedOf_98 : decode cX8_sharedOf 98 = .ok (.getfield 39, 3) := by decide +kernel
theorem dX8_sharedOf_101 : decode cX8_sharedOf 101 = .ok (.iconst 4, 1) := by decide +kernel
theorem dX8_sharedOf_102 : decode cX8_sharedOf 102 = .ok (.iload_n 1, 1) := by decide +kernel
theorem dX8_sharedOf_103 : decode cX8_sharedOf 103 = .ok (.imul, 1) := by decide +kernel
theorem dX8_sharedOf_104 : decode cX8_sharedOf 104 = .ok (.iload 5, 2) := by decide +kernel
theorem dX8_sharedOf_106 : decode cX8_sharedOf 106 = .ok (.iadd, 1) := by decide +kernel
theorem dX8_sharedOf_107 : decode cX8_sharedOf 107 = .ok (.iaload, 1) := by decide +kernel
theorem dX8_sharedOf_108 : decode cX8_sharedOf 108 = .ok (.imul, 1) := by decide +kernel
theorem dX8_sharedOf_109 : decode cX8_sharedOf 109 = .ok (.iadd, 1) := by decide +kernel
theorem dX8_sharedOf_110 : decode cX8_sharedOf 110 = .ok (.istore 4, 2) := by decide +kernel
theorem dX8_sharedOf_112 : decode cX8_sharedOf 112 = .ok (.iinc 5 1, 3) := by decide +kernel
theorem dX8_sharedOf_115 : decode cX8_sharedOf 115 = .ok (.goto (-32), 3) := by decide +kernel
theorem dX8_sharedOf_118 : decode cX8_sharedOf 118 = .ok (.iload 4, 2) := by decide +kernel
theorem dX8_sharedOf_120 : decode cX8_sharedOf 120 = .ok (.ireturn, 1) := by decide +kernel
def f_X8_sharedOf_b83 (n : Nat) (x1 : Int32) (x2 : Int32) (M : m_M) : Nat → Int32 → Int32 → Int32 → Option Int32
  | 0, _, _, _ => none
  | u + 1, x3, x4, x5 =>
    if (4 : Int32) ≤ x5 then
  some x4
  else
  m_gd (m_in (((4 : Int32) * x1) + x5) 40) (
  m_bd (x4 + (((x3 >>> (x5 &&& 31)) &&& (1 : Int32)) * (M.1 181 ((((4 : Int32) * x1) + x5).toNatClampNeg)))) fun t3 =>
  f_X8_sharedOf_b83 n x1 x2 M u x3 t3 (x5 + 1))
def f_X8_sharedOf_b5 (n : Nat) (x1 : Int32) (x2 : Int32) (M : m_M) : Nat → Int32 → Int32 → Option Int32
  | 0, _, _ => none
  | u + 1, x3, x4 =>
    m_bd (f_X8_lined M) fun r4 =>
  if r4 ≤ x4 then
  f_X8_sharedOf_b83 n x1 x2 M n x3 0 0
  else
  m_gd (m_in ((462 : Int32) + x4) 471) (
  m_bd (M.1 173 (((462 : Int32) + x4).toNatClampNeg)) fun t7 =>
  if ((x2 >>> (x4 &&& 31)) &&& (1 : Int32)) = 1 then
  m_ob (f_X8_isLaid t7 M) fun r9 =>
  if r9 = 0 then
  f_X8_sharedOf_b5 n x1 x2 M u (x3 ||| (0 : Int32)) (x4 + 1)
  else
  m_ob (f_X8_manOf t7 M) fun r12 =>
  if r12 = x1 then
  m_ob (f_X8_tradeOf t7 M) fun r14 =>
  m_bd (x3 ||| ((1 : Int32) <<< (r14 &&& 31))) fun t15 =>
  f_X8_sharedOf_b5 n x1 x2 M u t15 (x4 + 1)
  else
  f_X8_sharedOf_b5 n x1 x2 M u (x3 ||| (0 : Int32)) (x4 + 1)
  else
  f_X8_sharedOf_b5 n x1 x2 M u (x3 ||| (0 : Int32)) (x4 + 1))
def f_X8_sharedOf (n : Nat) (x1 : Int32) (x2 : Int32) (M : m_M) : Option Int32 :=
  f_X8_sharedOf_b5 n x1 x2 M n 0 0
set_option maxHeartbeats 4000000 in
set_option maxRecDepth 100000 in
theorem c_X8_sharedOf (l : Launch) (G : m_G) {n : Nat} {x1 : Int32} {x2 : Int32} {M : m_M} {r0 : Int32}  (hres : f_X8_sharedOf n x1 x2 M = some r0) : Met l yX8_sharedOf (m_U yX8_sharedOf cX8_sharedOf 6 (some .int)) (m_R 2 43) (m_Pc G [.ref (m_ad G 172), .int x1, .int x2] M) (m_Qi G r0 M) 0 0 (m_A G) := by
  refine m_i0 (n := 6) RX8 rfl (by decide) (Nat.le_of_ble_eq_true rfl) ?_
  intro p e s m args below meth c X hr hlk hSt hP hS ls hl
  have hl : lv_has ls 6 [(0, .ref (m_ad G 172)), (1, .int x1), (2, .int x2)] := hl
  have B83 : ∀ (u : Nat) (x3 : Int32) (x4 : Int32) (x5 : Int32) (H : Heap) (locs : List Loc) (ls : Array Slot), m_P G M H → va_S (m_A G) s.heap H locs → lv_has ls 6 [(0, .ref (m_ad G 172)), (1, .int x1), (3, .int x3), (4, .int x4), (5, .int x5)] → f_X8_sharedOf_b83 n x1 x2 M u x3 x4 x5 = some r0 → W p l e (m_R 2 43) s m args below meth c H locs 0 0 (MQ below (m_Qi G r0 M) args s 0 0 (m_A G)) (F0 m 83 ls []) := by
    intro u
    induction u with
    | zero =>
      intro x3 x4 x5 H locs ls hP hS hl hres
      cases hres
    | succ u ih =>
      intro x3 x4 x5 H locs ls hP hS hl hres
      rw [f_X8_sharedOf_b83] at hres
      refine lv_iload X.1 X.2.1 dX8_sharedOf_83 (lv_at hl 4 rfl) ?_
      refine lv_iconst (v := 4) X.1 X.2.1 dX8_sharedOf_85 (by decide) ?_
      refine lv_icmp_ge (tgt := 118) X.1 X.2.1 dX8_sharedOf_86 (by decide) (fun hc1 => ?_) (fun hc1 => ?_)
      · have hres := m_it hres hc1
        refine lv_iload X.1 X.2.1 dX8_sharedOf_118 (lv_at hl 3 rfl) ?_
        exact m_ri X hr hlk hP hS (Option.some.inj hres) rfl dX8_sharedOf_120
      · have hres := m_if hres hc1
        refine lv_iload X.1 X.2.1 dX8_sharedOf_89 (lv_at hl 3 rfl) ?_
        refine lv_iload_n X.1 X.2.1 dX8_sharedOf_91 rfl (lv_at hl 2 rfl) ?_
        refine lv_iload X.1 X.2.1 dX8_sharedOf_92 (lv_at hl 4 rfl) ?_
        refine lv_ishr X.1 X.2.1 dX8_sharedOf_94 ?_
        refine lv_iconst (v := 1) X.1 X.2.1 dX8_sharedOf_95 (by decide) ?_
        refine lv_iand X.1 X.2.1 dX8_sharedOf_96 ?_
        refine lv_aload_n X.1 X.2.1 dX8_sharedOf_97 rfl (lv_at hl 0 rfl) ?_
        refine m_g8 (v := .ref (m_ad G 181)) X hSt hP m_z_172 11 (by decide) rfl k_f_X8_39 dX8_sharedOf_98 ?_
        refine lv_iconst (v := 4) X.1 X.2.1 dX8_sharedOf_101 (by decide) ?_
        refine lv_iload_n X.1 X.2.1 dX8_sharedOf_102 rfl (lv_at hl 1 rfl) ?_
        refine lv_imul X.1 X.2.1 dX8_sharedOf_103 ?_
        refine lv_iload X.1 X.2.1 dX8_sharedOf_104 (lv_at hl 4 rfl) ?_
        refine lv_iadd X.1 X.2.1 dX8_sharedOf_106 ?_
        obtain ⟨hg2, hres⟩ := m_gd_e hres
        refine m_ia (j := ((((4 : Int32) * x1) + x5).toNatClampNeg)) X hSt hP m_z_181 hg2 rfl dX8_sharedOf_107 ?_
        refine lv_imul X.1 X.2.1 dX8_sharedOf_108 ?_
        refine lv_iadd X.1 X.2.1 dX8_sharedOf_109 ?_
        obtain ⟨t3, et3, hres⟩ := m_bd_e hres
        refine m_ti et3 ?_
        refine lv_istore (lv' := [(4, .int t3), (0, .ref (m_ad G 172)), (1, .int x1), (3, .int x3), (5, .int x5)]) X.1 X.2.1 dX8_sharedOf_110 hl (by decide) rfl (fun ls hl => ?_)
        refine lv_iinc (v := (x5 + 1)) (lv' := [(5, .int (x5 + 1)), (4, .int t3), (0, .ref (m_ad G 172)), (1, .int x1), (3, .int x3)]) X.1 X.2.1 dX8_sharedOf_112 hl (k := 4) rfl rfl (by decide) rfl (fun ls hl => ?_)
        refine lv_goto (tgt := 83) X.1 X.2.1 dX8_sharedOf_115 (by decide) ?_
        exact ih x3 t3 (x5 + 1) _ _ _ hP hS (lv_sub hl [2, 3, 4, 1, 0] rfl) hres
  have B5 : ∀ (u : Nat) (x3 : Int32) (x4 : Int32) (H : Heap) (locs : List Loc) (ls : Array Slot), m_P G M H → va_S (m_A G) s.heap H locs → lv_has ls 6 [(0, .ref (m_ad G 172)), (1, .int x1), (2, .int x2), (3, .int x3), (4, .int x4)] → f_X8_sharedOf_b5 n x1 x2 M u x3 x4 = some r0 → W p l e (m_R 2 43) s m args below meth c H locs 0 0 (MQ below (m_Qi G r0 M) args s 0 0 (m_A G)) (F0 m 5 ls []) := by
    intro u
    induction u with
    | zero =>
      intro x3 x4 H locs ls hP hS hl hres
      cases hres
    | succ u ih =>
      intro x3 x4 H locs ls hP hS hl hres
      rw [f_X8_sharedOf_b5] at hres
      refine lv_iload X.1 X.2.1 dX8_sharedOf_5 (lv_at hl 4 rfl) ?_
      refine lv_aload_n X.1 X.2.1 dX8_sharedOf_7 rfl (lv_at hl 0 rfl) ?_
      obtain ⟨r4, err4, hres⟩ := m_bd_e hres
      refine m_bi (m_cV (n := 0) (As := []) (rest := [.int x4]) X hSt hP hS hl.1 (c_X8_lined l G  err4) k_c_yX8_lined k_m_X8_400 k_i_yX8_lined k_s_yX8_lined k_n_X8 (by decide +kernel) (m_rc8 hSt hP m_z_172) rfl rfl ⟨Nat.le_of_ble_eq_true rfl, Nat.le_of_ble_eq_true rfl⟩ (Nat.le_of_ble_eq_true rfl) ⟨Nat.zero_le _, Nat.zero_le _⟩ dX8_sharedOf_8) hS (fun H locs hP hS => ?_)
      refine lv_icmp_ge (tgt := 77) X.1 X.2.1 dX8_sharedOf_11 (by decide) (fun hc5 => ?_) (fun hc5 => ?_)
      · have hres := m_it hres hc5
        refine lv_iconst (v := 0) X.1 X.2.1 dX8_sharedOf_77 (by decide) ?_
        refine lv_istore (lv' := [(4, .int 0), (0, .ref (m_ad G 172)), (1, .int x1), (2, .int x2), (3, .int x3)]) X.1 X.2.1 dX8_sharedOf_78 hl (by decide) rfl (fun ls hl => ?_)
        refine lv_iconst (v := 0) X.1 X.2.1 dX8_sharedOf_80 (by decide) ?_
        refine lv_istore (lv' := [(5, .int 0), (4, .int 0), (0, .ref (m_ad G 172)), (1, .int x1), (2, .int x2), (3, .int x3)]) X.1 X.2.1 dX8_sharedOf_81 hl (by decide) rfl (fun ls hl => ?_)
        exact B83 n x3 0 0 _ _ _ hP hS (lv_sub hl [2, 3, 5, 1, 0] rfl) hres
      · have hres := m_if hres hc5
        refine lv_aload_n X.1 X.2.1 dX8_sharedOf_14 rfl (lv_at hl 0 rfl) ?_
        refine m_g8 (v := .ref (m_ad G 173)) X hSt hP m_z_172 0 (by decide) rfl k_f_X8_7 dX8_sharedOf_15 ?_
        refine lv_sipush (v := 462) X.1 X.2.1 dX8_sharedOf_18 (by decide) ?_
        refine lv_iload X.1 X.2.1 dX8_sharedOf_21 (lv_at hl 4 rfl) ?_
        refine lv_iadd X.1 X.2.1 dX8_sharedOf_23 ?_
        obtain ⟨hg6, hres⟩ := m_gd_e hres
        refine m_ia (j := (((462 : Int32) + x4).toNatClampNeg)) X hSt hP m_z_173 hg6 rfl dX8_sharedOf_24 ?_
        obtain ⟨t7, et7, hres⟩ := m_bd_e hres
        refine m_ti et7 ?_
        refine lv_istore (lv' := [(5, .int t7), (0, .ref (m_ad G 172)), (1, .int x1), (2, .int x2), (3, .int x3), (4, .int x4)]) X.1 X.2.1 dX8_sharedOf_25 hl (by decide) rfl (fun ls hl => ?_)
        refine lv_iload_n X.1 X.2.1 dX8_sharedOf_27 rfl (lv_at hl 4 rfl) ?_
        refine lv_iload_n X.1 X.2.1 dX8_sharedOf_28 rfl (lv_at hl 3 rfl) ?_
        refine lv_iload X.1 X.2.1 dX8_sharedOf_29 (lv_at hl 5 rfl) ?_
        refine lv_ishr X.1 X.2.1 dX8_sharedOf_31 ?_
        refine lv_iconst (v := 1) X.1 X.2.1 dX8_sharedOf_32 (by decide) ?_
        refine lv_iand X.1 X.2.1 dX8_sharedOf_33 ?_
        refine lv_iconst (v := 1) X.1 X.2.1 dX8_sharedOf_34 (by decide) ?_
        refine lv_icmp_ne (tgt := 68) X.1 X.2.1 dX8_sharedOf_35 (by decide) (fun hc8 => ?_) (fun hc8 => ?_)
        · have hres := m_if hres hc8
          refine lv_iconst (v := 0) X.1 X.2.1 dX8_sharedOf_68 (by decide) ?_
          refine lv_ior X.1 X.2.1 dX8_sharedOf_69 ?_
          refine lv_istore_n (lv' := [(3, .int (x3 ||| (0 : Int32))), (5, .int t7), (0, .ref (m_ad G 172)), (1, .int x1), (2, .int x2), (4, .int x4)]) X.1 X.2.1 dX8_sharedOf_70 rfl hl (by decide) rfl (fun ls hl => ?_)
          refine lv_iinc (v := (x4 + 1)) (lv' := [(4, .int (x4 + 1)), (3, .int (x3 ||| (0 : Int32))), (5, .int t7), (0, .ref (m_ad G 172)), (1, .int x1), (2, .int x2)]) X.1 X.2.1 dX8_sharedOf_71 hl (k := 5) rfl rfl (by decide) rfl (fun ls hl => ?_)
          refine lv_goto (tgt := 5) X.1 X.2.1 dX8_sharedOf_74 (by decide) ?_
          exact ih (x3 ||| (0 : Int32)) (x4 + 1) _ _ _ hP hS (lv_sub hl [3, 4, 5, 1, 0] rfl) hres
        · have hres := m_it hres hc8
          refine lv_aload_n X.1 X.2.1 dX8_sharedOf_38 rfl (lv_at hl 1 rfl) ?_
          refine lv_iload X.1 X.2.1 dX8_sharedOf_39 (lv_at hl 0 rfl) ?_
          obtain ⟨r9, err9, hres⟩ := m_ob_e hres
          refine m_bz (m_cV (n := 1) (As := [.int t7]) (rest := [.int x3]) X hSt hP hS hl.1 (c_X8_isLaid l G  err9) k_c_yX8_isLaid k_m_X8_403 k_i_yX8_isLaid k_s_yX8_isLaid k_n_X8 (by decide +kernel) (m_rc8 hSt hP m_z_172) rfl rfl ⟨Nat.le_of_ble_eq_true rfl, Nat.le_of_ble_eq_true rfl⟩ (Nat.le_of_ble_eq_true rfl) ⟨Nat.zero_le _, Nat.zero_le _⟩ dX8_sharedOf_41) hS (fun H locs hP hS hz10 => ?_)
          refine lv_if_eq (tgt := 68) X.1 X.2.1 dX8_sharedOf_44 (by decide) (fun hc11 => ?_) (fun hc11 => ?_)
          · have hres := m_it hres hc11
            refine lv_iconst (v := 0) X.1 X.2.1 dX8_sharedOf_68 (by decide) ?_
            refine lv_ior X.1 X.2.1 dX8_sharedOf_69 ?_
            refine lv_istore_n (lv' := [(3, .int (x3 ||| (0 : Int32))), (5, .int t7), (0, .ref (m_ad G 172)), (1, .int x1), (2, .int x2), (4, .int x4)]) X.1 X.2.1 dX8_sharedOf_70 rfl hl (by decide) rfl (fun ls hl => ?_)
            refine lv_iinc (v := (x4 + 1)) (lv' := [(4, .int (x4 + 1)), (3, .int (x3 ||| (0 : Int32))), (5, .int t7), (0, .ref (m_ad G 172)), (1, .int x1), (2, .int x2)]) X.1 X.2.1 dX8_sharedOf_71 hl (k := 5) rfl rfl (by decide) rfl (fun ls hl => ?_)
            refine lv_goto (tgt := 5) X.1 X.2.1 dX8_sharedOf_74 (by decide) ?_
            exact ih (x3 ||| (0 : Int32)) (x4 + 1) _ _ _ hP hS (lv_sub hl [3, 4, 5, 1, 0] rfl) hres
          · have hres := m_if hres hc11
            refine lv_aload_n X.1 X.2.1 dX8_sharedOf_47 rfl (lv_at hl 1 rfl) ?_
            refine lv_iload X.1 X.2.1 dX8_sharedOf_48 (lv_at hl 0 rfl) ?_
            obtain ⟨r12, err12, hres⟩ := m_ob_e hres
            refine m_bi (m_cV (n := 1) (As := [.int t7]) (rest := [.int x3]) X hSt hP hS hl.1 (c_X8_manOf l G  err12) k_c_yX8_manOf k_m_X8_361 k_i_yX8_manOf k_s_yX8_manOf k_n_X8 (by decide +kernel) (m_rc8 hSt hP m_z_172) rfl rfl ⟨Nat.le_of_ble_eq_true rfl, Nat.le_of_ble_eq_true rfl⟩ (Nat.le_of_ble_eq_true rfl) ⟨Nat.zero_le _, Nat.zero_le _⟩ dX8_sharedOf_50) hS (fun H locs hP hS => ?_)
            refine lv_iload_n X.1 X.2.1 dX8_sharedOf_53 rfl (lv_at hl 2 rfl) ?_
            refine lv_icmp_ne (tgt := 68) X.1 X.2.1 dX8_sharedOf_54 (by decide) (fun hc13 => ?_) (fun hc13 => ?_)
            · have hres := m_if hres hc13
              refine lv_iconst (v := 0) X.1 X.2.1 dX8_sharedOf_68 (by decide) ?_
              refine lv_ior X.1 X.2.1 dX8_sharedOf_69 ?_
              refine lv_istore_n (lv' := [(3, .int (x3 ||| (0 : Int32))), (5, .int t7), (0, .ref (m_ad G 172)), (1, .int x1), (2, .int x2), (4, .int x4)]) X.1 X.2.1 dX8_sharedOf_70 rfl hl (by decide) rfl (fun ls hl => ?_)
              refine lv_iinc (v := (x4 + 1)) (lv' := [(4, .int (x4 + 1)), (3, .int (x3 ||| (0 : Int32))), (5, .int t7), (0, .ref (m_ad G 172)), (1, .int x1), (2, .int x2)]) X.1 X.2.1 dX8_sharedOf_71 hl (k := 5) rfl rfl (by decide) rfl (fun ls hl => ?_)
              refine lv_goto (tgt := 5) X.1 X.2.1 dX8_sharedOf_74 (by decide) ?_
              exact ih (x3 ||| (0 : Int32)) (x4 + 1) _ _ _ hP hS (lv_sub hl [3, 4, 5, 1, 0] rfl) hres
            · have hres := m_it hres hc13
              refine lv_iconst (v := 1) X.1 X.2.1 dX8_sharedOf_57 (by decide) ?_
              refine lv_aload_n X.1 X.2.1 dX8_sharedOf_58 rfl (lv_at hl 1 rfl) ?_
              refine lv_iload X.1 X.2.1 dX8_sharedOf_59 (lv_at hl 0 rfl) ?_
              obtain ⟨r14, err14, hres⟩ := m_ob_e hres
              refine m_bi (m_cV (n := 1) (As := [.int t7]) (rest := [.int 1, .int x3]) X hSt hP hS hl.1 (c_X8_tradeOf l G  err14) k_c_yX8_tradeOf k_m_X8_379 k_i_yX8_tradeOf k_s_yX8_tradeOf k_n_X8 (by decide +kernel) (m_rc8 hSt hP m_z_172) rfl rfl ⟨Nat.le_of_ble_eq_true rfl, Nat.le_of_ble_eq_true rfl⟩ (Nat.le_of_ble_eq_true rfl) ⟨Nat.zero_le _, Nat.zero_le _⟩ dX8_sharedOf_61) hS (fun H locs hP hS => ?_)
              refine lv_ishl X.1 X.2.1 dX8_sharedOf_64 ?_
              refine lv_goto (tgt := 69) X.1 X.2.1 dX8_sharedOf_65 (by decide) ?_
              refine lv_ior X.1 X.2.1 dX8_sharedOf_69 ?_
              obtain ⟨t15, et15, hres⟩ := m_bd_e hres
              refine m_ti et15 ?_
              refine lv_istore_n (lv' := [(3, .int t15), (5, .int t7), (0, .ref (m_ad G 172)), (1, .int x1), (2, .int x2), (4, .int x4)]) X.1 X.2.1 dX8_sharedOf_70 rfl hl (by decide) rfl (fun ls hl => ?_)
              refine lv_iinc (v := (x4 + 1)) (lv' := [(4, .int (x4 + 1)), (3, .int t15), (5, .int t7), (0, .ref (m_ad G 172)), (1, .int x1), (2, .int x2)]) X.1 X.2.1 dX8_sharedOf_71 hl (k := 5) rfl rfl (by decide) rfl (fun ls hl => ?_)
              refine lv_goto (tgt := 5) X.1 X.2.1 dX8_sharedOf_74 (by decide) ?_
              exact ih t15 (x4 + 1) _ _ _ hP hS (lv_sub hl [3, 4, 5, 1, 0] rfl) hres
  unfold f_X8_sharedOf at hres
  refine lv_iconst (v := 0) X.1 X.2.1 dX8_sharedOf_0 (by decide) ?_
  refine lv_istore_n (lv' := [(3, .int 0), (0, .ref (m_ad G 172)), (1, .int x1), (2, .int x2)]) X.1 X.2.1 dX8_sharedOf_1 rfl hl (by decide) rfl (fun ls hl => ?_)
  refine lv_iconst (v := 0) X.1 X.2.1 dX8_sharedOf_2 (by decide) ?_
  refine lv_istore (lv' := [(4, .int 0), (3, .int 0), (0, .ref (m_ad G 172)), (1, .int x1), (2, .int x2)]) X.1 X.2.1 dX8_sharedOf_3 hl (by decide) rfl (fun ls hl => ?_)
  exact B5 n 0 0 _ _ _ hP hS (lv_sub hl [2, 3, 4, 1, 0] rfl) hres
theorem dX8_serve_0 : decode cX8_serve 0 = .ok (.iconst 0, 1) := by decide +kernel
theorem dX8_serve_1 : decode cX8_serve 1 = .ok (.istore_n 2, 1) := by decide +kernel
theorem dX8_serve_2 : decode cX8_serve 2 = .ok (.iload_n 2, 1) := by decide +kernel
theorem dX8_serve_3 : decode cX8_serve 3 = .ok (.aload_n 0, 1) := by decide +kernel
theorem dX8_serve_4 : decode cX8_serve 4 = .ok (.invokevirtual 400, 3) := by decide +kernel
theorem dX8_serve_7 : decode cX8_serve 7 = .ok (.if_icmp .ge 199, 3) := by decide +kernel
theorem dX8_serve_10 : decode cX8_serve 10 = .ok (.aload_n 0, 1) := by decide +kernel
theorem dX8_serve_11 : decode cX8_serve 11 = .ok (.getfield 98, 3) := by decide +kernel
theorem dX8_serve_14 : decode cX8_serve 14 = .ok (.iload_n 2, 1) := by decide +kernel
theorem dX8_serve_15 : decode cX8_serve 15 = .ok (.iaload, 1) := by decide +kernel
theorem dX8_serve_16 : decode cX8_serve 16 = .ok (.istore_n 3, 1) := by decide +kernel
theorem dX8_serve_17 : decode cX8_serve 17 = .ok (.aload_n 0, 1) := by decide +kernel
theorem dX8_serve_18 : decode cX8_serve 18 = .ok (.getfield 95, 3) := by decide +kernel
theorem dX8_serve_21 : decode cX8_serve 21 = .ok (.iload_n 3, 1) := by decide +kernel
theorem dX8_serve_22 : decode cX8_serve 22 = .ok (.iconst 0, 1) := by decide +kernel
theorem dX8_serve_23 : decode cX8_serve 23 = .ok (.iastore, 1) := by decide +kernel
theorem dX8_serve_24 : decode cX8_serve 24 = .ok (.iload_n 1, 1) := by decide +kernel
theorem dX8_serve_25 : decode cX8_serve 25 = .ok (.iload_n 3, 1) := by decide +kernel
theorem dX8_serve_26 : decode cX8_serve 26 = .ok (.ishr, 1) := by decide +kernel
theorem dX8_serve_27 : decode cX8_serve 27 = .ok (.iconst 1, 1) := by decide +kernel
theorem dX8_serve_28 : decode cX8_serve 28 = .ok (.iand, 1) := by decide +kernel
theorem dX8_serve_29 : decode cX8_serve 29 = .ok (.ifCond .ne 171, 3) := by decide +kernel
theorem dX8_serve_32 : decode cX8_serve 32 = .ok (.aload_n 0, 1) := by decide +kernel
theorem dX8_serve_33 : decode cX8_serve 33 = .ok (.getfield 89, 3) := by decide +kernel
theorem dX8_serve_36 : decode cX8_serve 36 = .ok (.iload_n 3, 1) := by decide +kernel
theorem dX8_serve_37 : decode cX8_serve 37 = .ok (.iaload, 1) := by decide +kernel
theorem dX8_serve_38 : decode cX8_serve 38 = .ok (.aload_n 0, 1) := by decide +kernel
theorem dX8_serve_39 : decode cX8_serve 39 = .ok (.aload_n 0, 1) := by decide +kernel
theorem dX8_serve_40 : decode cX8_serve 40 = .ok (.aload_n 0, 1) := by decide +kernel
theorem dX8_serve_41 : decode cX8_serve 41 = .ok (.getfield 7, 3) := by decide +kernel
theorem dX8_serve_44 : decode cX8_serve 44 = .ok (.sipush 462, 3) := by decide +kernel
theorem dX8_serve_47 : decode cX8_serve 47 = .ok (.iload_n 3, 1) := by decide +kernel
theorem dX8_serve_48 : decode cX8_serve 48 = .ok (.iadd, 1) := by decide +kernel
theorem dX8_serve_49 : decode cX8_serve 49 = .ok (.iaload, 1) := by decide +kernel
theorem dX8_serve_50 : decode cX8_serve 50 = .ok (.invokevirtual 361, 3) := by decide +kernel
theorem dX8_serve_53 : decode cX8_serve 53 = .ok (.iload_n 1, 1) := by decide +kernel
theorem dX8_serve_54 : decode cX8_serve 54 = .ok (.invokevirtual 406, 3) := by decide +kernel
theorem dX8_serve_57 : decode cX8_serve 57 = .ok (.isub, 1) := by decide +kernel
theorem dX8_serve_58 : decode cX8_serve 58 = .ok (.istore 4, 2) := by decide +kernel
theorem dX8_serve_60 : decode cX8_serve 60 = .ok (.iconst 0, 1) := by decide +kernel
theorem dX8_serve_61 : decode cX8_serve 61 = .ok (.istore 5, 2) := by decide +kernel
theorem dX8_serve_63 : decode cX8_serve 63 = .ok (.iload 5, 2) := by decide +kernel
theorem dX8_serve_65 : decode cX8_serve 65 = .ok (.iload_n 2, 1) := by decide +kernel
theorem dX8_serve_66 : decode cX8_serve 66 = .ok (.if_icmp .ge 93, 3) := by decide +kernel
theorem dX8_serve_69 : decode cX8_serve 69 = .ok (.aload_n 0, 1) := by decide +kernel
theorem dX8_serve_70 : decode cX8_serve 70 = .ok (.aload_n 0, 1) := by decide +kernel
theorem dX8_serve_71 : decode cX8_serve 71 = .ok (.getfield 7, 3) := by decide +kernel
theorem dX8_serve_74 : decode cX8_serve 74 = .ok (.sipush 462, 3) := by decide +kernel
theorem dX8_serve_77 : decode cX8_serve 77 = .ok (.aload_n 0, 1) := by decide +kernel
theorem dX8_serve_78 : decode cX8_serve 78 = .ok (.getfield 98, 3) := by decide +kernel
theorem dX8_serve_81 : decode cX8_serve 81 = .ok (.iload 5, 2) := by decide +kernel
theorem dX8_serve_83 : decode cX8_serve 83 = .ok (.iaload, 1) := by decide +kernel
theorem dX8_serve_84 : decode cX8_serve 84 = .ok (.iadd, 1) := by decide +kernel
theorem dX8_serve_85 : decode cX8_serve 85 = .ok (.iaload, 1) := by decide +kernel
theorem dX8_serve_86 : decode cX8_serve 86 = .ok (.invokevirtual 361, 3) := by decide +kernel
theorem dX8_serve_89 : decode cX8_serve 89 = .ok (.aload_n 0, 1) := by decide +kernel
theorem dX8_serve_90 : decode cX8_serve 90 = .ok (.aload_n 0, 1) := by decide +kernel
theorem dX8_serve_91 : decode cX8_serve 91 = .ok (.getfield 7, 3) := by decide +kernel
theorem dX8_serve_94 : decode cX8_serve 94 = .ok (.sipush 462, 3) := by decide +kernel
theorem dX8_serve_97 : decode cX8_serve 97 = .ok (.iload_n 3, 1) := by decide +kernel
theorem dX8_serve_98 : decode cX8_serve 98 = .ok (.iadd, 1) := by decide +kernel
theorem dX8_serve_99 : decode cX8_serve 99 = .ok (.iaload, 1) := by decide +kernel
theorem dX8_serve_100 : decode cX8_serve 100 = .ok (.invokevirtual 361, 3) := by decide +kernel
theorem dX8_serve_103 : decode cX8_serve 103 = .ok (.if_icmp .ne 7, 3) := by decide +kernel
theorem dX8_serve_106 : decode cX8_serve 106 = .ok (.iconst 1, 1) := by decide +kernel
theorem dX8_serve_107 : decode cX8_serve 107 = .ok (.goto 4, 3) := by decide +kernel
theorem dX8_serve_110 : decode cX8_serve 110 = .ok (.iconst 0, 1) := by decide +kernel
theorem dX8_serve_111 : decode cX8_serve 111 = .ok (.istore 6, 2) := by decide +kernel
theorem dX8_serve_113 : decode cX8_serve 113 = .ok (.iload 4, 2) := by decide +kernel
theorem dX8_serve_115 : decode cX8_serve 115 = .ok (.iload 6, 2) := by decide +kernel
theorem dX8_serve_117 : decode cX8_serve 117 = .ok (.ifCond .eq 32, 3) := by decide +kernel
theorem dX8_serve_120 : decode cX8_serve 120 = .ok (.iload_n 1, 1) := by decide +kernel
theorem dX8_serve_121 : decode cX8_serve 121 = .ok (.aload_n 0, 1) := by decide +kernel
theorem dX8_serve_122 : decode cX8_serve 122 = .ok (.getfield 98, 3) := by decide +kernel
theorem dX8_serve_125 : decode cX8_serve 125 = .ok (.iload 5, 2) := by decide +kernel
theorem dX8_serve_127 : decode cX8_serve 127 = .ok (.iaload, 1) := by decide +kernel
theorem dX8_serve_128 : decode cX8_serve 128 = .ok (.ishr, 1) := by decide +kernel
theorem dX8_serve_129 : decode cX8_serve 129 = .ok (.iconst 1, 1) := by decide +kernel
theorem dX8_serve_130 : decode cX8_serve 130 = .ok (.iand, 1) := by decide +kernel
theorem dX8_serve_131 : decode cX8_serve 131 = .ok (.ifCond .ne 18, 3) := by decide +kernel
theorem dX8_serve_134 : decode cX8_serve 134 = .ok (.aload_n 0, 1) := by decide +kernel
theorem dX8_serve_135 : decode cX8_serve 135 = .ok (.getfield 95, 3) := by decide +kernel
theorem dX8_serve_138 : decode cX8_serve 138 = .ok (.aload_n 0, 1) := by decide +kernel
theorem dX8_serve_139 : decode cX8_serve 139 = .ok (.getfield 98, 3) := by decide +kernel
theorem dX8_serve_142 : decode cX8_serve 142 = .ok (.iload 5, 2) := by decide +kernel
theorem dX8_serve_144 : decode cX8_serve 144 = .ok (.iaload, 1) := by decide +kernel
theorem dX8_serve_145 : decode cX8_serve 145 = .ok (.iaload, 1) := by decide +kernel
theorem dX8_serve_146 : decode cX8_serve 146 = .ok (.goto 4, 3) := by decide +kernel
theorem dX8_serve_149 : decode cX8_serve 149 = .ok (.iconst 0, 1) := by decide +kernel
theorem dX8_serve_150 : decode cX8_serve 150 = .ok (.isub, 1) := by decide +kernel
theorem dX8_serve_151 : decode cX8_serve 151 = .ok (.istore 4, 2) := by decide +kernel
theorem dX8_serve_153 : decode cX8_serve 153 = .ok (.iinc 5 1, 3) := by decide +kernel
theorem dX8_serve_156 : decode cX8_serve 156 = .ok (.goto (-93), 3) := by decide +kernel
theorem dX8_serve_159 : decode cX8_serve 159 = .ok (.iload 4, 2) := by decide +kernel
theorem dX8_serve_161 : decode cX8_serve 161 = .ok (.ifCond .ge 7, 3) := by decide +kernel
theorem dX8_serve_164 : decode cX8_serve 164 = .ok (.iconst 0, 1) := by decide +kernel
theorem dX8_serve_165 : decode cX8_serve 165 = .ok (.goto 5, 3) := by decide +kernel
theorem dX8_serve_168 : decode cX8_serve 168 = .ok (.iload 4, 2) := by decide +kernel
theorem dX8_serve_170 : decode cX8_serve 170 = .ok (.istore 4, 2) := by decide +kernel
theorem dX8_serve_172 : decode cX8_serve 172 = .ok (.aload_n 0, 1) := by decide +kernel
theorem dX8_serve_173 : decode cX8_serve 173 = .ok (.getfield 95, 3) := by decide +kernel
theorem dX8_serve_176 : decode cX8_serve 176 = .ok (.iload_n 3, 1) := by decide +kernel
theorem dX8_serve_177 : decode cX8_serve 177 = .ok (.aload_n 0, 1) := by decide +kernel
theorem dX8_serve_178 : decode cX8_serve 178 = .ok (.getfield 92, 3) := by decide +kernel
theorem dX8_serve_181 : decode cX8_serve 181 = .ok (.iload_n 3, 1) := by decide +kernel
theorem dX8_serve_182 : decode cX8_serve 182 = .ok (.iaload, 1) := by decide +kernel
theorem dX8_serve_183 : decode cX8_serve 183 = .ok (.iload 4, 2) := by decide +kernel
theorem dX8_serve_185 : decode cX8_serve 185 = .ok (.if_icmp .ge 12, 3) := by decide +kernel
theorem dX8_serve_188 : decode cX8_serve 188 = .ok (.aload_n 0, 1) := by decide +kernel
theorem dX8_serve_189 : decode cX8_serve 189 = .ok (.getfield 92, 3) := by decide +kernel
theorem dX8_serve_192 : decode cX8_serve 192 = .ok (.iload_n 3, 1) := by decide +kernel
theorem dX8_serve_193 : decode cX8_serve 193 = .ok (.iaload, 1) := by decide +kernel
theorem dX8_serve_194 : decode cX8_serve 194 = .ok (.goto 5, 3) := by decide +kernel
theorem dX8_serve_197 : decode cX8_serve 197 = .ok (.iload 4, 2) := by decide +kernel
theorem dX8_serve_199 : decode cX8_serve 199 = .ok (.iastore, 1) := by decide +kernel
theorem dX8_serve_200 : decode cX8_serve 200 = .ok (.iinc 2 1, 3) := by decide +kernel
theorem dX8_serve_203 : decode cX8_serve 203 = .ok (.goto (-201), 3) := by decide +kernel
theorem dX8_serve_206 : decode cX8_serve 206 = .ok (.return_, 1) := by decide +kernel
def f_X8_serve_b170 (n : Nat) (x1 : Int32) (q2 : Int32 → m_M → Option m_M) (x2 : Int32) (x3 : Int32) (s0 : Int32) (M : m_M) : Option m_M :=
  m_gd (m_in x3 6) (
  if s0 ≤ (M.1 197 x3.toNatClampNeg) then
  m_bd (m_sI M 198 x3.toNatClampNeg s0) fun M3 =>
  q2 (x2 + 1) M3
  else
  m_bd (m_sI M 198 x3.toNatClampNeg (M.1 197 x3.toNatClampNeg)) fun M4 =>
  q2 (x2 + 1) M4)
def f_X8_serve_b111 (n : Nat) (x1 : Int32) (q2 : Int32 → m_M → Option m_M) (q63 : Int32 → Int32 → Int32 → Int32 → m_M → Option m_M) (x2 : Int32) (x3 : Int32) (x4 : Int32) (x5 : Int32) (s0 : Int32) (M : m_M) : Option m_M :=
  if s0 = 0 then
  q63 x2 x3 (x4 - (0 : Int32)) (x5 + 1) M
  else
  m_gd (m_in x5 6) (
  if ((x1 >>> ((M.1 199 x5.toNatClampNeg) &&& 31)) &&& (1 : Int32)) = 0 then
  m_gd (m_in (M.1 199 x5.toNatClampNeg) 6) (
  m_bd (x4 - (M.1 198 ((M.1 199 x5.toNatClampNeg).toNatClampNeg))) fun t9 =>
  q63 x2 x3 t9 (x5 + 1) M)
  else
  q63 x2 x3 (x4 - (0 : Int32)) (x5 + 1) M)
def f_X8_serve_b63 (n : Nat) (x1 : Int32) (q2 : Int32 → m_M → Option m_M) : Nat → Int32 → Int32 → Int32 → Int32 → m_M → Option m_M
  | 0, _, _, _, _, _ => none
  | u + 1, x2, x3, x4, x5, M =>
    if x2 ≤ x5 then
  if (0 : Int32) ≤ x4 then
  f_X8_serve_b170 n x1 q2 x2 x3 x4 M
  else
  f_X8_serve_b170 n x1 q2 x2 x3 0 M
  else
  m_gd (m_in x5 6) (
  m_gd (m_in ((462 : Int32) + (M.1 199 x5.toNatClampNeg)) 471) (
  m_ob (f_X8_manOf (M.1 173 (((462 : Int32) + (M.1 199 x5.toNatClampNeg)).toNatClampNeg)) M) fun r14 =>
  m_gd (m_in ((462 : Int32) + x3) 471) (
  m_ob (f_X8_manOf (M.1 173 (((462 : Int32) + x3).toNatClampNeg)) M) fun r16 =>
  if r14 = r16 then
  f_X8_serve_b111 n x1 q2 (f_X8_serve_b63 n x1 q2 u) x2 x3 x4 x5 1 M
  else
  f_X8_serve_b111 n x1 q2 (f_X8_serve_b63 n x1 q2 u) x2 x3 x4 x5 0 M)))
def f_X8_serve_b2 (n : Nat) (x1 : Int32) : Nat → Int32 → m_M → Option m_M
  | 0, _, _ => none
  | u + 1, x2, M =>
    m_bd (f_X8_lined M) fun r18 =>
  if r18 ≤ x2 then
  some M
  else
  m_gd (m_in x2 6) (
  m_gd (m_in (M.1 199 x2.toNatClampNeg) 6) (
  m_bd (m_sI M 198 ((M.1 199 x2.toNatClampNeg).toNatClampNeg) 0) fun M22 =>
  if ((x1 >>> ((M.1 199 x2.toNatClampNeg) &&& 31)) &&& (1 : Int32)) = 0 then
  m_gd (m_in ((462 : Int32) + (M.1 199 x2.toNatClampNeg)) 471) (
  m_ob (f_X8_manOf (M22.1 173 (((462 : Int32) + (M.1 199 x2.toNatClampNeg)).toNatClampNeg)) M22) fun r25 =>
  m_ob (f_X8_sharedOf n r25 x1 M22) fun r26 =>
  m_bd ((M22.1 196 ((M.1 199 x2.toNatClampNeg).toNatClampNeg)) - r26) fun t27 =>
  f_X8_serve_b63 n x1 (f_X8_serve_b2 n x1 u) n x2 (M.1 199 x2.toNatClampNeg) t27 0 M22)
  else
  f_X8_serve_b2 n x1 u (x2 + 1) M22))
def f_X8_serve (n : Nat) (x1 : Int32) (M : m_M) : Option m_M :=
  f_X8_serve_b2 n x1 n 0 M
set_option maxHeartbeats 4000000 in
set_option maxRecDepth 100000 in
theorem c_X8_serve (l : Launch) (G : m_G) {n : Nat} {x1 : Int32} {M : m_M} {M0 : m_M}  (hres : f_X8_serve n x1 M = some M0) : Met l yX8_serve (m_U yX8_serve cX8_serve 7 none) (m_R 3 68) (m_Pc G [.ref (m_ad G 172), .int x1] M) (m_Qv G M0) 0 0 (m_A G) := by
  refine m_i0 (n := 7) RX8 rfl (by decide) (Nat.le_of_ble_eq_true rfl) ?_
  intro p e s m args below meth c X hr hlk hSt hP hS ls hl
  have hl : lv_has ls 7 [(0, .ref (m_ad G 172)), (1, .int x1)] := hl
  have B170 : ∀ (q2 : Int32 → m_M → Option m_M) (hq2 : ∀ (x2 : Int32) (M : m_M) (H : Heap) (locs : List Loc) (ls : Array Slot), m_P G M H → va_S (m_A G) s.heap H locs → lv_has ls 7 [(0, .ref (m_ad G 172)), (1, .int x1), (2, .int x2)] → q2 x2 M = some M0 → W p l e (m_R 3 68) s m args below meth c H locs 0 0 (MQ below (m_Qv G M0) args s 0 0 (m_A G)) (F0 m 2 ls [])) (x2 : Int32) (x3 : Int32) (s0 : Int32) (M : m_M) (H : Heap) (locs : List Loc) (ls : Array Slot), m_P G M H → va_S (m_A G) s.heap H locs → lv_has ls 7 [(0, .ref (m_ad G 172)), (1, .int x1), (2, .int x2), (3, .int x3)] → f_X8_serve_b170 n x1 q2 x2 x3 s0 M = some M0 → W p l e (m_R 3 68) s m args below meth c H locs 0 0 (MQ below (m_Qv G M0) args s 0 0 (m_A G)) (F0 m 170 ls [.int s0]) := by
    intro q2 hq2 x2 x3 s0 M H locs ls hP hS hl hres
    unfold f_X8_serve_b170 at hres
    refine lv_istore (lv' := [(4, .int s0), (0, .ref (m_ad G 172)), (1, .int x1), (2, .int x2), (3, .int x3)]) X.1 X.2.1 dX8_serve_170 hl (by decide) rfl (fun ls hl => ?_)
    refine lv_aload_n X.1 X.2.1 dX8_serve_172 rfl (lv_at hl 1 rfl) ?_
    refine m_g8 (v := .ref (m_ad G 198)) X hSt hP m_z_172 50 (by decide) rfl k_f_X8_95 dX8_serve_173 ?_
    refine lv_iload_n X.1 X.2.1 dX8_serve_176 rfl (lv_at hl 4 rfl) ?_
    refine lv_aload_n X.1 X.2.1 dX8_serve_177 rfl (lv_at hl 1 rfl) ?_
    refine m_g8 (v := .ref (m_ad G 197)) X hSt hP m_z_172 49 (by decide) rfl k_f_X8_92 dX8_serve_178 ?_
    refine lv_iload_n X.1 X.2.1 dX8_serve_181 rfl (lv_at hl 4 rfl) ?_
    obtain ⟨hg1, hres⟩ := m_gd_e hres
    refine m_ia (j := x3.toNatClampNeg) X hSt hP m_z_197 hg1 rfl dX8_serve_182 ?_
    refine lv_iload X.1 X.2.1 dX8_serve_183 (lv_at hl 0 rfl) ?_
    refine lv_icmp_ge (tgt := 197) X.1 X.2.1 dX8_serve_185 (by decide) (fun hc2 => ?_) (fun hc2 => ?_)
    · have hres := m_it hres hc2
      refine lv_iload X.1 X.2.1 dX8_serve_197 (lv_at hl 0 rfl) ?_
      obtain ⟨M3, eM3, hres⟩ := m_bd_e hres
      refine m_is (j := x3.toNatClampNeg) X hSt hP hS m_z_198 hg1 rfl dX8_serve_199 eM3 (fun H locs hP hS => ?_)
      refine lv_iinc (v := (x2 + 1)) (lv' := [(2, .int (x2 + 1)), (4, .int s0), (0, .ref (m_ad G 172)), (1, .int x1), (3, .int x3)]) X.1 X.2.1 dX8_serve_200 hl (k := 3) rfl rfl (by decide) rfl (fun ls hl => ?_)
      refine lv_goto (tgt := 2) X.1 X.2.1 dX8_serve_203 (by decide) ?_
      exact hq2 (x2 + 1) M3 _ _ _ hP hS (lv_sub hl [2, 3, 0] rfl) hres
    · have hres := m_if hres hc2
      refine lv_aload_n X.1 X.2.1 dX8_serve_188 rfl (lv_at hl 1 rfl) ?_
      refine m_g8 (v := .ref (m_ad G 197)) X hSt hP m_z_172 49 (by decide) rfl k_f_X8_92 dX8_serve_189 ?_
      refine lv_iload_n X.1 X.2.1 dX8_serve_192 rfl (lv_at hl 4 rfl) ?_
      refine m_ia (j := x3.toNatClampNeg) X hSt hP m_z_197 hg1 rfl dX8_serve_193 ?_
      refine lv_goto (tgt := 199) X.1 X.2.1 dX8_serve_194 (by decide) ?_
      obtain ⟨M4, eM4, hres⟩ := m_bd_e hres
      refine m_is (j := x3.toNatClampNeg) X hSt hP hS m_z_198 hg1 rfl dX8_serve_199 eM4 (fun H locs hP hS => ?_)
      refine lv_iinc (v := (x2 + 1)) (lv' := [(2, .int (x2 + 1)), (4, .int s0), (0, .ref (m_ad G 172)), (1, .int x1), (3, .int x3)]) X.1 X.2.1 dX8_serve_200 hl (k := 3) rfl rfl (by decide) rfl (fun ls hl => ?_)
      refine lv_goto (tgt := 2) X.1 X.2.1 dX8_serve_203 (by decide) ?_
      exact hq2 (x2 + 1) M4 _ _ _ hP hS (lv_sub hl [2, 3, 0] rfl) hres
  have B111 : ∀ (q2 : Int32 → m_M → Option m_M) (hq2 : ∀ (x2 : Int32) (M : m_M) (H : Heap) (locs : List Loc) (ls : Array Slot), m_P G M H → va_S (m_A G) s.heap H locs → lv_has ls 7 [(0, .ref (m_ad G 172)), (1, .int x1), (2, .int x2)] → q2 x2 M = some M0 → W p l e (m_R 3 68) s m args below meth c H locs 0 0 (MQ below (m_Qv G M0) args s 0 0 (m_A G)) (F0 m 2 ls [])) (q63 : Int32 → Int32 → Int32 → Int32 → m_M → Option m_M) (hq63 : ∀ (x2 : Int32) (x3 : Int32) (x4 : Int32) (x5 : Int32) (M : m_M) (H : Heap) (locs : List Loc) (ls : Array Slot), m_P G M H → va_S (m_A G) s.heap H locs → lv_has ls 7 [(0, .ref (m_ad G 172)), (1, .int x1), (2, .int x2), (3, .int x3), (4, .int x4), (5, .int x5)] → q63 x2 x3 x4 x5 M = some M0 → W p l e (m_R 3 68) s m args below meth c H locs 0 0 (MQ below (m_Qv G M0) args s 0 0 (m_A G)) (F0 m 63 ls [])) (x2 : Int32) (x3 : Int32) (x4 : Int32) (x5 : Int32) (s0 : Int32) (M : m_M) (H : Heap) (locs : List Loc) (ls : Array Slot), m_P G M H → va_S (m_A G) s.heap H locs → lv_has ls 7 [(0, .ref (m_ad G 172)), (1, .int x1), (2, .int x2), (3, .int x3), (4, .int x4), (5, .int x5)] → f_X8_serve_b111 n x1 q2 q63 x2 x3 x4 x5 s0 M = some M0 → W p l e (m_R 3 68) s m args below meth c H locs 0 0 (MQ below (m_Qv G M0) args s 0 0 (m_A G)) (F0 m 111 ls [.int s0]) := by
    intro q2 hq2 q63 hq63 x2 x3 x4 x5 s0 M H locs ls hP hS hl hres
    unfold f_X8_serve_b111 at hres
    refine lv_istore (lv' := [(6, .int s0), (0, .ref (m_ad G 172)), (1, .int x1), (2, .int x2), (3, .int x3), (4, .int x4), (5, .int x5)]) X.1 X.2.1 dX8_serve_111 hl (by decide) rfl (fun ls hl => ?_)
    refine lv_iload X.1 X.2.1 dX8_serve_113 (lv_at hl 5 rfl) ?_
    refine lv_iload X.1 X.2.1 dX8_serve_115 (lv_at hl 0 rfl) ?_
    refine lv_if_eq (tgt := 149) X.1 X.2.1 dX8_serve_117 (by decide) (fun hc5 => ?_) (fun hc5 => ?_)
    · have hres := m_it hres hc5
      refine lv_iconst (v := 0) X.1 X.2.1 dX8_serve_149 (by decide) ?_
      refine lv_isub X.1 X.2.1 dX8_serve_150 ?_
      refine lv_istore (lv' := [(4, .int (x4 - (0 : Int32))), (6, .int s0), (0, .ref (m_ad G 172)), (1, .int x1), (2, .int x2), (3, .int x3), (5, .int x5)]) X.1 X.2.1 dX8_serve_151 hl (by decide) rfl (fun ls hl => ?_)
      refine lv_iinc (v := (x5 + 1)) (lv' := [(5, .int (x5 + 1)), (4, .int (x4 - (0 : Int32))), (6, .int s0), (0, .ref (m_ad G 172)), (1, .int x1), (2, .int x2), (3, .int x3)]) X.1 X.2.1 dX8_serve_153 hl (k := 6) rfl rfl (by decide) rfl (fun ls hl => ?_)
      refine lv_goto (tgt := 63) X.1 X.2.1 dX8_serve_156 (by decide) ?_
      exact hq63 x2 x3 (x4 - (0 : Int32)) (x5 + 1) M _ _ _ hP hS (lv_sub hl [3, 4, 5, 6, 1, 0] rfl) hres
    · have hres := m_if hres hc5
      refine lv_iload_n X.1 X.2.1 dX8_serve_120 rfl (lv_at hl 2 rfl) ?_
      refine lv_aload_n X.1 X.2.1 dX8_serve_121 rfl (lv_at hl 1 rfl) ?_
      refine m_g8 (v := .ref (m_ad G 199)) X hSt hP m_z_172 51 (by decide) rfl k_f_X8_98 dX8_serve_122 ?_
      refine lv_iload X.1 X.2.1 dX8_serve_125 (lv_at hl 6 rfl) ?_
      obtain ⟨hg6, hres⟩ := m_gd_e hres
      refine m_ia (j := x5.toNatClampNeg) X hSt hP m_z_199 hg6 rfl dX8_serve_127 ?_
      refine lv_ishr X.1 X.2.1 dX8_serve_128 ?_
      refine lv_iconst (v := 1) X.1 X.2.1 dX8_serve_129 (by decide) ?_
      refine lv_iand X.1 X.2.1 dX8_serve_130 ?_
      refine lv_if_ne (tgt := 149) X.1 X.2.1 dX8_serve_131 (by decide) (fun hc7 => ?_) (fun hc7 => ?_)
      · have hres := m_if hres hc7
        refine lv_iconst (v := 0) X.1 X.2.1 dX8_serve_149 (by decide) ?_
        refine lv_isub X.1 X.2.1 dX8_serve_150 ?_
        refine lv_istore (lv' := [(4, .int (x4 - (0 : Int32))), (6, .int s0), (0, .ref (m_ad G 172)), (1, .int x1), (2, .int x2), (3, .int x3), (5, .int x5)]) X.1 X.2.1 dX8_serve_151 hl (by decide) rfl (fun ls hl => ?_)
        refine lv_iinc (v := (x5 + 1)) (lv' := [(5, .int (x5 + 1)), (4, .int (x4 - (0 : Int32))), (6, .int s0), (0, .ref (m_ad G 172)), (1, .int x1), (2, .int x2), (3, .int x3)]) X.1 X.2.1 dX8_serve_153 hl (k := 6) rfl rfl (by decide) rfl (fun ls hl => ?_)
        refine lv_goto (tgt := 63) X.1 X.2.1 dX8_serve_156 (by decide) ?_
        exact hq63 x2 x3 (x4 - (0 : Int32)) (x5 + 1) M _ _ _ hP hS (lv_sub hl [3, 4, 5, 6, 1, 0] rfl) hres
      · have hres := m_it hres hc7
        refine lv_aload_n X.1 X.2.1 dX8_serve_134 rfl (lv_at hl 1 rfl) ?_
        refine m_g8 (v := .ref (m_ad G 198)) X hSt hP m_z_172 50 (by decide) rfl k_f_X8_95 dX8_serve_135 ?_
        refine lv_aload_n X.1 X.2.1 dX8_serve_138 rfl (lv_at hl 1 rfl) ?_
        refine m_g8 (v := .ref (m_ad G 199)) X hSt hP m_z_172 51 (by decide) rfl k_f_X8_98 dX8_serve_139 ?_
        refine lv_iload X.1 X.2.1 dX8_serve_142 (lv_at hl 6 rfl) ?_
        refine m_ia (j := x5.toNatClampNeg) X hSt hP m_z_199 hg6 rfl dX8_serve_144 ?_
        obtain ⟨hg8, hres⟩ := m_gd_e hres
        refine m_ia (j := ((M.1 199 x5.toNatClampNeg).toNatClampNeg)) X hSt hP m_z_198 hg8 rfl dX8_serve_145 ?_
        refine lv_goto (tgt := 150) X.1 X.2.1 dX8_serve_146 (by decide) ?_
        refine lv_isub X.1 X.2.1 dX8_serve_150 ?_
        obtain ⟨t9, et9, hres⟩ := m_bd_e hres
        refine m_ti et9 ?_
        refine lv_istore (lv' := [(4, .int t9), (6, .int s0), (0, .ref (m_ad G 172)), (1, .int x1), (2, .int x2), (3, .int x3), (5, .int x5)]) X.1 X.2.1 dX8_serve_151 hl (by decide) rfl (fun ls hl => ?_)
        refine lv_iinc (v := (x5 + 1)) (lv' := [(5, .int (x5 + 1)), (4, .int t9), (6, .int s0), (0, .ref (m_ad G 172)), (1, .int x1), (2, .int x2), (3, .int x3)]) X.1 X.2.1 dX8_serve_153 hl (k := 6) rfl rfl (by decide) rfl (fun ls hl => ?_)
        refine lv_goto (tgt := 63) X.1 X.2.1 dX8_serve_156 (by decide) ?_
        exact hq63 x2 x3 t9 (x5 + 1) M _ _ _ hP hS (lv_sub hl [3, 4, 5, 6, 1, 0] rfl) hres
  have B63 : ∀ (q2 : Int32 → m_M → Option m_M) (hq2 : ∀ (x2 : Int32) (M : m_M) (H : Heap) (locs : List Loc) (ls : Array Slot), m_P G M H → va_S (m_A G) s.heap H locs → lv_has ls 7 [(0, .ref (m_ad G 172)), (1, .int x1), (2, .int x2)] → q2 x2 M = some M0 → W p l e (m_R 3 68) s m args below meth c H locs 0 0 (MQ below (m_Qv G M0) args s 0 0 (m_A G)) (F0 m 2 ls [])) (u : Nat) (x2 : Int32) (x3 : Int32) (x4 : Int32) (x5 : Int32) (M : m_M) (H : Heap) (locs : List Loc) (ls : Array Slot), m_P G M H → va_S (m_A G) s.heap H locs → lv_has ls 7 [(0, .ref (m_ad G 172)), (1, .int x1), (2, .int x2), (3, .int x3), (4, .int x4), (5, .int x5)] → f_X8_serve_b63 n x1 q2 u x2 x3 x4 x5 M = some M0 → W p l e (m_R 3 68) s m args below meth c H locs 0 0 (MQ below (m_Qv G M0) args s 0 0 (m_A G)) (F0 m 63 ls []) := by
    intro q2 hq2 u
    induction u with
    | zero =>
      intro x2 x3 x4 x5 M H locs ls hP hS hl hres
      cases hres
    | succ u ih =>
      intro x2 x3 x4 x5 M H locs ls hP hS hl hres
      rw [f_X8_serve_b63] at hres
      refine lv_iload X.1 X.2.1 dX8_serve_63 (lv_at hl 5 rfl) ?_
      refine lv_iload_n X.1 X.2.1 dX8_serve_65 rfl (lv_at hl 2 rfl) ?_
      refine lv_icmp_ge (tgt := 159) X.1 X.2.1 dX8_serve_66 (by decide) (fun hc10 => ?_) (fun hc10 => ?_)
      · have hres := m_it hres hc10
        refine lv_iload X.1 X.2.1 dX8_serve_159 (lv_at hl 4 rfl) ?_
        refine lv_if_ge (tgt := 168) X.1 X.2.1 dX8_serve_161 (by decide) (fun hc11 => ?_) (fun hc11 => ?_)
        · have hres := m_it hres hc11
          refine lv_iload X.1 X.2.1 dX8_serve_168 (lv_at hl 4 rfl) ?_
          exact B170 q2 hq2 x2 x3 x4 M _ _ _ hP hS (lv_sub hl [0, 1, 2, 3] rfl) hres
        · have hres := m_if hres hc11
          refine lv_iconst (v := 0) X.1 X.2.1 dX8_serve_164 (by decide) ?_
          refine lv_goto (tgt := 170) X.1 X.2.1 dX8_serve_165 (by decide) ?_
          exact B170 q2 hq2 x2 x3 0 M _ _ _ hP hS (lv_sub hl [0, 1, 2, 3] rfl) hres
      · have hres := m_if hres hc10
        refine lv_aload_n X.1 X.2.1 dX8_serve_69 rfl (lv_at hl 0 rfl) ?_
        refine lv_aload_n X.1 X.2.1 dX8_serve_70 rfl (lv_at hl 0 rfl) ?_
        refine m_g8 (v := .ref (m_ad G 173)) X hSt hP m_z_172 0 (by decide) rfl k_f_X8_7 dX8_serve_71 ?_
        refine lv_sipush (v := 462) X.1 X.2.1 dX8_serve_74 (by decide) ?_
        refine lv_aload_n X.1 X.2.1 dX8_serve_77 rfl (lv_at hl 0 rfl) ?_
        refine m_g8 (v := .ref (m_ad G 199)) X hSt hP m_z_172 51 (by decide) rfl k_f_X8_98 dX8_serve_78 ?_
        refine lv_iload X.1 X.2.1 dX8_serve_81 (lv_at hl 5 rfl) ?_
        obtain ⟨hg12, hres⟩ := m_gd_e hres
        refine m_ia (j := x5.toNatClampNeg) X hSt hP m_z_199 hg12 rfl dX8_serve_83 ?_
        refine lv_iadd X.1 X.2.1 dX8_serve_84 ?_
        obtain ⟨hg13, hres⟩ := m_gd_e hres
        refine m_ia (j := (((462 : Int32) + (M.1 199 x5.toNatClampNeg)).toNatClampNeg)) X hSt hP m_z_173 hg13 rfl dX8_serve_85 ?_
        obtain ⟨r14, err14, hres⟩ := m_ob_e hres
        refine m_bi (m_cV (n := 1) (As := [.int (M.1 173 (((462 : Int32) + (M.1 199 x5.toNatClampNeg)).toNatClampNeg))]) (rest := []) X hSt hP hS hl.1 (c_X8_manOf l G  err14) k_c_yX8_manOf k_m_X8_361 k_i_yX8_manOf k_s_yX8_manOf k_n_X8 (by decide +kernel) (m_rc8 hSt hP m_z_172) rfl rfl ⟨Nat.le_of_ble_eq_true rfl, Nat.le_of_ble_eq_true rfl⟩ (Nat.le_of_ble_eq_true rfl) ⟨Nat.zero_le _, Nat.zero_le _⟩ dX8_serve_86) hS (fun H locs hP hS => ?_)
        refine lv_aload_n X.1 X.2.1 dX8_serve_89 rfl (lv_at hl 0 rfl) ?_
        refine lv_aload_n X.1 X.2.1 dX8_serve_90 rfl (lv_at hl 0 rfl) ?_
        refine m_g8 (v := .ref (m_ad G 173)) X hSt hP m_z_172 0 (by decide) rfl k_f_X8_7 dX8_serve_91 ?_
        refine lv_sipush (v := 462) X.1 X.2.1 dX8_serve_94 (by decide) ?_
        refine lv_iload_n X.1 X.2.1 dX8_serve_97 rfl (lv_at hl 3 rfl) ?_
        refine lv_iadd X.1 X.2.1 dX8_serve_98 ?_
        obtain ⟨hg15, hres⟩ := m_gd_e hres
        refine m_ia (j := (((462 : Int32) + x3).toNatClampNeg)) X hSt hP m_z_173 hg15 rfl dX8_serve_99 ?_
        obtain ⟨r16, err16, hres⟩ := m_ob_e hres
        refine m_bi (m_cV (n := 1) (As := [.int (M.1 173 (((462 : Int32) + x3).toNatClampNeg))]) (rest := [.int r14]) X hSt hP hS hl.1 (c_X8_manOf l G  err16) k_c_yX8_manOf k_m_X8_361 k_i_yX8_manOf k_s_yX8_manOf k_n_X8 (by decide +kernel) (m_rc8 hSt hP m_z_172) rfl rfl ⟨Nat.le_of_ble_eq_true rfl, Nat.le_of_ble_eq_true rfl⟩ (Nat.le_of_ble_eq_true rfl) ⟨Nat.zero_le _, Nat.zero_le _⟩ dX8_serve_100) hS (fun H locs hP hS => ?_)
        refine lv_icmp_ne (tgt := 110) X.1 X.2.1 dX8_serve_103 (by decide) (fun hc17 => ?_) (fun hc17 => ?_)
        · have hres := m_if hres hc17
          refine lv_iconst (v := 0) X.1 X.2.1 dX8_serve_110 (by decide) ?_
          exact B111 q2 hq2 (f_X8_serve_b63 n x1 q2 u) ih x2 x3 x4 x5 0 M _ _ _ hP hS (lv_sub hl [0, 1, 2, 3, 4, 5] rfl) hres
        · have hres := m_it hres hc17
          refine lv_iconst (v := 1) X.1 X.2.1 dX8_serve_106 (by decide) ?_
          refine lv_goto (tgt := 111) X.1 X.2.1 dX8_serve_107 (by decide) ?_
          exact B111 q2 hq2 (f_X8_serve_b63 n x1 q2 u) ih x2 x3 x4 x5 1 M _ _ _ hP hS (lv_sub hl [0, 1, 2, 3, 4, 5] rfl) hres
  have B2 : ∀ (u : Nat) (x2 : Int32) (M : m_M) (H : Heap) (locs : List Loc) (ls : Array Slot), m_P G M H → va_S (m_A G) s.heap H locs → lv_has ls 7 [(0, .ref (m_ad G 172)), (1, .int x1), (2, .int x2)] → f_X8_serve_b2 n x1 u x2 M = some M0 → W p l e (m_R 3 68) s m args below meth c H locs 0 0 (MQ below (m_Qv G M0) args s 0 0 (m_A G)) (F0 m 2 ls []) := by
    intro u
    induction u with
    | zero =>
      intro x2 M H locs ls hP hS hl hres
      cases hres
    | succ u ih =>
      intro x2 M H locs ls hP hS hl hres
      rw [f_X8_serve_b2] at hres
      refine lv_iload_n X.1 X.2.1 dX8_serve_2 rfl (lv_at hl 2 rfl) ?_
      refine lv_aload_n X.1 X.2.1 dX8_serve_3 rfl (lv_at hl 0 rfl) ?_
      obtain ⟨r18, err18, hres⟩ := m_bd_e hres
      refine m_bi (m_cV (n := 0) (As := []) (rest := [.int x2]) X hSt hP hS hl.1 (c_X8_lined l G  err18) k_c_yX8_lined k_m_X8_400 k_i_yX8_lined k_s_yX8_lined k_n_X8 (by decide +kernel) (m_rc8 hSt hP m_z_172) rfl rfl ⟨Nat.le_of_ble_eq_true rfl, Nat.le_of_ble_eq_true rfl⟩ (Nat.le_of_ble_eq_true rfl) ⟨Nat.zero_le _, Nat.zero_le _⟩ dX8_serve_4) hS (fun H locs hP hS => ?_)
      refine lv_icmp_ge (tgt := 206) X.1 X.2.1 dX8_serve_7 (by decide) (fun hc19 => ?_) (fun hc19 => ?_)
      · have hres := m_it hres hc19
        exact m_rv X hr hlk hP hS (Option.some.inj hres) dX8_serve_206
      · have hres := m_if hres hc19
        refine lv_aload_n X.1 X.2.1 dX8_serve_10 rfl (lv_at hl 0 rfl) ?_
        refine m_g8 (v := .ref (m_ad G 199)) X hSt hP m_z_172 51 (by decide) rfl k_f_X8_98 dX8_serve_11 ?_
        refine lv_iload_n X.1 X.2.1 dX8_serve_14 rfl (lv_at hl 2 rfl) ?_
        obtain ⟨hg20, hres⟩ := m_gd_e hres
        refine m_ia (j := x2.toNatClampNeg) X hSt hP m_z_199 hg20 rfl dX8_serve_15 ?_
        refine lv_istore_n (lv' := [(3, .int (M.1 199 x2.toNatClampNeg)), (0, .ref (m_ad G 172)), (1, .int x1), (2, .int x2)]) X.1 X.2.1 dX8_serve_16 rfl hl (by decide) rfl (fun ls hl => ?_)
        refine lv_aload_n X.1 X.2.1 dX8_serve_17 rfl (lv_at hl 1 rfl) ?_
        refine m_g8 (v := .ref (m_ad G 198)) X hSt hP m_z_172 50 (by decide) rfl k_f_X8_95 dX8_serve_18 ?_
        refine lv_iload_n X.1 X.2.1 dX8_serve_21 rfl (lv_at hl 0 rfl) ?_
        refine lv_iconst (v := 0) X.1 X.2.1 dX8_serve_22 (by decide) ?_
        obtain ⟨hg21, hres⟩ := m_gd_e hres
        obtain ⟨M22, eM22, hres⟩ := m_bd_e hres
        refine m_is (j := ((M.1 199 x2.toNatClampNeg).toNatClampNeg)) X hSt hP hS m_z_198 hg21 rfl dX8_serve_23 eM22 (fun H locs hP hS => ?_)
        refine lv_iload_n X.1 X.2.1 dX8_serve_24 rfl (lv_at hl 2 rfl) ?_
        refine lv_iload_n X.1 X.2.1 dX8_serve_25 rfl (lv_at hl 0 rfl) ?_
        refine lv_ishr X.1 X.2.1 dX8_serve_26 ?_
        refine lv_iconst (v := 1) X.1 X.2.1 dX8_serve_27 (by decide) ?_
        refine lv_iand X.1 X.2.1 dX8_serve_28 ?_
        refine lv_if_ne (tgt := 200) X.1 X.2.1 dX8_serve_29 (by decide) (fun hc23 => ?_) (fun hc23 => ?_)
        · have hres := m_if hres hc23
          refine lv_iinc (v := (x2 + 1)) (lv' := [(2, .int (x2 + 1)), (3, .int (M.1 199 x2.toNatClampNeg)), (0, .ref (m_ad G 172)), (1, .int x1)]) X.1 X.2.1 dX8_serve_200 hl (k := 3) rfl rfl (by decide) rfl (fun ls hl => ?_)
          refine lv_goto (tgt := 2) X.1 X.2.1 dX8_serve_203 (by decide) ?_
          exact ih (x2 + 1) M22 _ _ _ hP hS (lv_sub hl [2, 3, 0] rfl) hres
        · have hres := m_it hres hc23
          refine lv_aload_n X.1 X.2.1 dX8_serve_32 rfl (lv_at hl 1 rfl) ?_
          refine m_g8 (v := .ref (m_ad G 196)) X hSt hP m_z_172 48 (by decide) rfl k_f_X8_89 dX8_serve_33 ?_
          refine lv_iload_n X.1 X.2.1 dX8_serve_36 rfl (lv_at hl 0 rfl) ?_
          refine m_ia (j := ((M.1 199 x2.toNatClampNeg).toNatClampNeg)) X hSt hP m_z_196 hg21 rfl dX8_serve_37 ?_
          refine lv_aload_n X.1 X.2.1 dX8_serve_38 rfl (lv_at hl 1 rfl) ?_
          refine lv_aload_n X.1 X.2.1 dX8_serve_39 rfl (lv_at hl 1 rfl) ?_
          refine lv_aload_n X.1 X.2.1 dX8_serve_40 rfl (lv_at hl 1 rfl) ?_
          refine m_g8 (v := .ref (m_ad G 173)) X hSt hP m_z_172 0 (by decide) rfl k_f_X8_7 dX8_serve_41 ?_
          refine lv_sipush (v := 462) X.1 X.2.1 dX8_serve_44 (by decide) ?_
          refine lv_iload_n X.1 X.2.1 dX8_serve_47 rfl (lv_at hl 0 rfl) ?_
          refine lv_iadd X.1 X.2.1 dX8_serve_48 ?_
          obtain ⟨hg24, hres⟩ := m_gd_e hres
          refine m_ia (j := (((462 : Int32) + (M.1 199 x2.toNatClampNeg)).toNatClampNeg)) X hSt hP m_z_173 hg24 rfl dX8_serve_49 ?_
          obtain ⟨r25, err25, hres⟩ := m_ob_e hres
          refine m_bi (m_cV (n := 1) (As := [.int (M22.1 173 (((462 : Int32) + (M.1 199 x2.toNatClampNeg)).toNatClampNeg))]) (rest := [.ref (m_ad G 172), .int (M22.1 196 ((M.1 199 x2.toNatClampNeg).toNatClampNeg))]) X hSt hP hS hl.1 (c_X8_manOf l G  err25) k_c_yX8_manOf k_m_X8_361 k_i_yX8_manOf k_s_yX8_manOf k_n_X8 (by decide +kernel) (m_rc8 hSt hP m_z_172) rfl rfl ⟨Nat.le_of_ble_eq_true rfl, Nat.le_of_ble_eq_true rfl⟩ (Nat.le_of_ble_eq_true rfl) ⟨Nat.zero_le _, Nat.zero_le _⟩ dX8_serve_50) hS (fun H locs hP hS => ?_)
          refine lv_iload_n X.1 X.2.1 dX8_serve_53 rfl (lv_at hl 2 rfl) ?_
          obtain ⟨r26, err26, hres⟩ := m_ob_e hres
          refine m_bi (m_cV (n := 2) (As := [.int r25, .int x1]) (rest := [.int (M22.1 196 ((M.1 199 x2.toNatClampNeg).toNatClampNeg))]) X hSt hP hS hl.1 (c_X8_sharedOf l G  err26) k_c_yX8_sharedOf k_m_X8_406 k_i_yX8_sharedOf k_s_yX8_sharedOf k_n_X8 (by decide +kernel) (m_rc8 hSt hP m_z_172) rfl rfl ⟨Nat.le_of_ble_eq_true rfl, Nat.le_of_ble_eq_true rfl⟩ (Nat.le_of_ble_eq_true rfl) ⟨Nat.zero_le _, Nat.zero_le _⟩ dX8_serve_54) hS (fun H locs hP hS => ?_)
          refine lv_isub X.1 X.2.1 dX8_serve_57 ?_
          obtain ⟨t27, et27, hres⟩ := m_bd_e hres
          refine m_ti et27 ?_
          refine lv_istore (lv' := [(4, .int t27), (3, .int (M.1 199 x2.toNatClampNeg)), (0, .ref (m_ad G 172)), (1, .int x1), (2, .int x2)]) X.1 X.2.1 dX8_serve_58 hl (by decide) rfl (fun ls hl => ?_)
          refine lv_iconst (v := 0) X.1 X.2.1 dX8_serve_60 (by decide) ?_
          refine lv_istore (lv' := [(5, .int 0), (4, .int t27), (3, .int (M.1 199 x2.toNatClampNeg)), (0, .ref (m_ad G 172)), (1, .int x1), (2, .int x2)]) X.1 X.2.1 dX8_serve_61 hl (by decide) rfl (fun ls hl => ?_)
          exact B63 (f_X8_serve_b2 n x1 u) ih n x2 (M.1 199 x2.toNatClampNeg) t27 0 M22 _ _ _ hP hS (lv_sub hl [3, 4, 5, 2, 1, 0] rfl) hres
  unfold f_X8_serve at hres
  refine lv_iconst (v := 0) X.1 X.2.1 dX8_serve_0 (by decide) ?_
  refine lv_istore_n (lv' := [(2, .int 0), (0, .ref (m_ad G 172)), (1, .int x1)]) X.1 X.2.1 dX8_serve_1 rfl hl (by decide) rfl (fun ls hl => ?_)
  exact B2 n 0 M _ _ _ hP hS (lv_sub hl [1, 2, 0] rfl) hres
theorem dX8_getsBy_0 : decode cX8_getsBy 0 = .ok (.aload_n 0, 1) := by decide +kernel
theorem dX8_getsBy_1 : decode cX8_getsBy 1 = .ok (.getfield 7, 3) := by decide +kernel
theorem dX8_getsBy_4 : decode cX8_getsBy 4 = .ok (.sipush 462, 3) := by decide +kernel
theorem dX8_getsBy_7 : decode cX8_getsBy 7 = .ok (.iload_n 1, 1) := by decide +kernel
theorem dX8_getsBy_8 : decode cX8_getsBy 8 = .ok (.iadd, 1) := by decide +kernel
theorem dX8_getsBy_9 : decode cX8_getsBy 9 = .ok (.iaload, 1) := by decide +kernel
theorem dX8_getsBy_10 : decode cX8_getsBy 10 = .ok (.istore_n 3, 1) := by decide +kernel
theorem dX8_getsBy_11 : decode cX8_getsBy 11 = .ok (.aload_n 0, 1) := by decide +kernel
theorem dX8_getsBy_12 : decode cX8_getsBy 12 = .ok (.lconst 0, 1) := by decide +kernel
theorem dX8_getsBy_13 : decode cX8_getsBy 13 = .ok (.putfield 367, 3) := by decide +kernel
theorem dX8_getsBy_16 : decode cX8_getsBy 16 = .ok (.aload_n 0, 1) := by decide +kernel
theorem dX8_getsBy_17 : decode cX8_getsBy 17 = .ok (.lconst 1, 1) := by decide +kernel
theorem dX8_getsBy_18 : decode cX8_getsBy 18 = .ok (.putfield 370, 3) := by decide +kernel
theorem dX8_getsBy_21 : decode cX8_getsBy 21 = .ok (.aload_n 0, 1) := by decide +kernel
theorem dX8_getsBy_22 : decode cX8_getsBy 22 = .ok (.iload_n 3, 1) := by decide +kernel
theorem dX8_getsBy_23 : decode cX8_getsBy 23 = .ok (.invokevirtual 403, 3) := by decide +kernel
theorem dX8_getsBy_26 : decode cX8_getsBy 26 = .ok (.ifCond .eq 12, 3) := by decide +kernel
theorem dX8_getsBy_29 : decode cX8_getsBy 29 = .ok (.aload_n 0, 1) := by decide +kernel
theorem dX8_getsBy_30 : decode cX8_getsBy 30 = .ok (.iload_n 3, 1) := by decide +kernel
theorem dX8_getsBy_31 : decode cX8_getsBy 31 = .ok (.invokevirtual 364, 3) := by decide +kernel
theorem dX8_getsBy_34 : decode cX8_getsBy 34 = .ok (.iconst (-1), 1) := by decide +kernel
theorem dX8_getsBy_35 : decode cX8_getsBy 35 = .ok (.if_icmp .ne 4, 3) := by decide +kernel
theorem dX8_getsBy_38 : decode cX8_getsBy 38 = .ok (.return_, 1) := by decide +kernel
theorem dX8_getsBy_39 : decode cX8_getsBy 39 = .ok (.iload_n 2, 1) := by decide +kernel
theorem dX8_getsBy_40 : decode cX8_getsBy 40 = .ok (.iload_n 1, 1) := by decide +kernel
theorem dX8_getsBy_41 : decode cX8_getsBy 41 = .ok (.ishr, 1) := by decide +kernel
theorem dX8_getsBy_42 : decode cX8_getsBy 42 = .ok (.iconst 1, 1) := by decide +kernel
theorem dX8_getsBy_43 : decode cX8_getsBy 43 = .ok (.iand, 1) := by decide +kernel
theorem dX8_getsBy_44 : decode cX8_getsBy 44 = .ok (.ifCond .ne 20, 3) := by decide +kernel
theorem dX8_getsBy_47 : decode cX8_getsBy 47 = .ok (.aload_n 0, 1) := by decide +kernel
theorem dX8_getsBy_48 : decode cX8_getsBy 48 = .ok (.iload_n 2, 1) := by decide +kernel
theorem dX8_getsBy_49 : decode cX8_getsBy 49 = .ok (.invokevirtual 415, 3) := by decide +kernel
theorem dX8_getsBy_52 : decode cX8_getsBy 52 = .ok (.aload_n 0, 1) := by decide +kernel
theorem dX8_getsBy_53 : decode cX8_getsBy 53 = .ok (.aload_n 0, 1) := by decide +kernel
theorem dX8_getsBy_54 : decode cX8_getsBy 54 = .ok (.getfield 95, 3) := by decide +kernel
theorem dX8_getsBy_57 : decode cX8_getsBy 57 = .ok (.iload_n 1, 1) := by decide +kernel
theorem dX8_getsBy_58 : decode cX8_getsBy 58 = .ok (.iaload, 1) := by decide +kernel
theorem dX8_getsBy_59 : decode cX8_getsBy 59 = .ok (.i2l, 1) := by decide +kernel
theorem dX8_getsBy_60 : decode cX8_getsBy 60 = .ok (.putfield 367, 3) := by decide +kernel
theorem dX8_getsBy_63 : decode cX8_getsBy 63 = .ok (.return_, 1) := by decide +kernel
theorem dX8_getsBy_64 : decode cX8_getsBy 64 = .ok (.aload_n 0, 1) := by decide +kernel
theorem dX8_getsBy_65 : decode cX8_getsBy 65 = .ok (.aload_n 0, 1) := by decide +kernel
theorem dX8_getsBy_66 : decode cX8_getsBy 66 = .ok (.iload_n 3, 1) := by decide +kernel
theorem dX8_getsBy_67 : decode cX8_getsBy 67 = .ok (.invokevirtual 361, 3) := by decide +kernel
theorem dX8_getsBy_70 : decode cX8_getsBy 70 = .ok (.iconst 0, 1) := by decide +kernel
theorem dX8_getsBy_71 : decode cX8_getsBy 71 = .ok (.invokevirtual 332, 3) := by decide +kernel
theorem dX8_getsBy_74 : decode cX8_getsBy 74 = .ok (.i2l, 1) := by decide +kernel
theorem dX8_getsBy_75 : decode cX8_getsBy 75 = .ok (.lstore 4, 2) := by decide +kernel
theorem dX8_getsBy_77 : decode cX8_getsBy 77 = .ok (.iconst 0, 1) := by decide +kernel
theorem dX8_getsBy_78 : decode cX8_getsBy 78 = .ok (.istore 6, 2) := by decide +kernel
theorem dX8_getsBy_80 : decode cX8_getsBy 80 = .ok (.iload 6, 2) := by decide +kernel
theorem dX8_getsBy_82 : decode cX8_getsBy 82 = .ok (.aload_n 0, 1) := by decide +kernel
theorem dX8_getsBy_83 : decode cX8_getsBy 83 = .ok (.invokevirtual 400, 3) := by decide +kernel
theorem dX8_getsBy_86 : decode cX8_getsBy 86 = .ok (.if_icmp .ge 97, 3) := by decide +kernel
theorem dX8_getsBy_89 : decode cX8_getsBy 89 = .ok (.aload_n 0, 1) := by decide +kernel
theorem dX8_getsBy_90 : decode cX8_getsBy 90 = .ok (.getfield 7, 3) := by decide +kernel
theorem dX8_getsBy_93 : decode cX8_getsBy 93 = .ok (.sipush 462, 3) := by decide +kernel
theorem dX8_getsBy_96 : decode cX8_getsBy 96 = .ok (.iload 6, 2) := by decide +kernel
theorem dX8_getsBy_98 : decode cX8_getsBy 98 = .ok (.iadd, 1) := by decide +kernel
theorem dX8_getsBy_99 : decode cX8_getsBy 99 = .ok (.iaload, 1) := by decide +kernel
theorem dX8_getsBy_100 : decode cX8_getsBy 100 = .ok (.istore 7, 2) := by decide +kernel
theorem dX8_getsBy_102 : decode cX8_getsBy 102 = .ok (.iload_n 2, 1) := by decide +kernel
theorem dX8_getsBy_103 : decode cX8_getsBy 103 = .ok (.iload 6, 2) := by decide +kernel
theorem dX8_getsBy_105 : decode cX8_getsBy 105 = .ok (.ishr, 1) := by decide +kernel
theorem dX8_getsBy_106 : decode cX8_getsBy 106 = .ok (.iconst 1, 1) := by decide +kernel
theorem dX8_getsBy_107 : decode cX8_getsBy 107 = .ok (.iand, 1) := by decide +kernel
theorem dX8_getsBy_108 : decode cX8_getsBy 108 = .ok (.iconst 1, 1) := by decide +kernel
theorem dX8_getsBy_109 : decode cX8_getsBy 109 = .ok (.if_icmp .ne 44, 3) := by decide +kernel
theorem dX8_getsBy_112 : decode cX8_getsBy 112 = .ok (.aload_n 0, 1) := by decide +kernel
theorem dX8_getsBy_113 : decode cX8_getsBy 113 = .ok (.iload 7, 2) := by decide +kernel
theorem dX8_getsBy_115 : decode cX8_getsBy 115 = .ok (.invokevirtual 403, 3) := by decide +kernel
theorem dX8_getsBy_118 : decode cX8_getsBy 118 = .ok (.ifCond .eq 35, 3) := by decide +kernel
theorem dX8_getsBy_121 : decode cX8_getsBy 121 = .ok (.aload_n 0, 1) := by decide +kernel
theorem dX8_getsBy_122 : decode cX8_getsBy 122 = .ok (.iload 7, 2) := by decide +kernel
theorem dX8_getsBy_124 : decode cX8_getsBy 124 = .ok (.invokevirtual 361, 3) := by decide +kernel
theorem dX8_getsBy_127 : decode cX8_getsBy 127 = .ok (.aload_n 0, 1) := by decide +kernel
theorem dX8_getsBy_128 : decode cX8_getsBy 128 = .ok (.iload_n 3, 1) := by decide +kernel
theorem dX8_getsBy_129 : decode cX8_getsBy 129 = .ok (.invokevirtual 361, 3) := by decide +kernel
theorem dX8_getsBy_132 : decode cX8_getsBy 132 = .ok (.if_icmp .ne 21, 3) := by decide +kernel
theorem dX8_getsBy_135 : decode cX8_getsBy 135 = .ok (.aload_n 0, 1) := by decide +kernel
theorem dX8_getsBy_136 : decode cX8_getsBy 136 = .ok (.iload 7, 2) := by decide +kernel
theorem dX8_getsBy_138 : decode cX8_getsBy 138 = .ok (.invokevirtual 379, 3) := by decide +kernel
theorem dX8_getsBy_141 : decode cX8_getsBy 141 = .ok (.aload_n 0, 1) := by decide +kernel
theorem dX8_getsBy_142 : decode cX8_getsBy 142 = .ok (.iload_n 3, 1) := by decide +kernel
theorem dX8_getsBy_143 : decode cX8_getsBy 143 = .ok (.invokevirtual 379, 3) := by decide +kernel
theorem dX8_getsBy_146 : decode cX8_getsBy 146 = .ok (.if_icmp .ne 7, 3) := by decide +kernel
theorem dX8_getsBy_149 : decode cX8_getsBy 149 = .ok (.iconst 1, 1) := by decide +kernel
theorem dX8_getsBy_150 : decode cX8_getsBy 150 = .ok (.goto 4, 3) := by decide +kernel
theorem dX8_getsBy_153 : decode cX8_getsBy 153 = .ok (.iconst 0, 1) := by decide +kernel
theorem dX8_getsBy_154 : decode cX8_getsBy 154 = .ok (.istore 8, 2) := by decide +kernel
theorem dX8_getsBy_156 : decode cX8_getsBy 156 = .ok (.lload 4, 2) := by decide +kernel
theorem dX8_getsBy_158 : decode cX8_getsBy 158 = .ok (.iload 8, 2) := by decide +kernel
theorem dX8_getsBy_160 : decode cX8_getsBy 160 = .ok (.ifCond .eq 13, 3) := by decide +kernel
theorem dX8_getsBy_163 : decode cX8_getsBy 163 = .ok (.aload_n 0, 1) := by decide +kernel
theorem dX8_getsBy_164 : decode cX8_getsBy 164 = .ok (.iload 7, 2) := by decide +kernel
theorem dX8_getsBy_166 : decode cX8_getsBy 166 = .ok (.invokevirtual 171, 3) := by decide +kernel
theorem dX8_getsBy_169 : decode cX8_getsBy 169 = .ok (.i2l, 1) := by decide +kernel
theorem dX8_getsBy_170 : decode cX8_getsBy 170 = .ok (.goto 4, 3) := by decide +kernel
theorem dX8_getsBy_173 : decode cX8_getsBy 173 = .ok (.lconst 0, 1) := by decide +kernel
theorem dX8_getsBy_174 : decode cX8_getsBy 174 = .ok (.ladd, 1) := by decide +kernel
theorem dX8_getsBy_175 : decode cX8_getsBy 175 = .ok (.lstore 4, 2) := by decide +kernel
theorem dX8_getsBy_177 : decode cX8_getsBy 177 = .ok (.iinc 6 1, 3) := by decide +kernel
theorem dX8_getsBy_180 : decode cX8_getsBy 180 = .ok (.goto (-100), 3) := by decide +kernel
theorem dX8_getsBy_183 : decode cX8_getsBy 183 = .ok (.aload_n 0, 1) := by decide +kernel
theorem dX8_getsBy_184 : decode cX8_getsBy 184 = .ok (.iload_n 3, 1) := by decide +kernel
theorem dX8_getsBy_185 : decode cX8_getsBy 185 = .ok (.lload 4, 2) := by decide +kernel
theorem dX8_getsBy_187 : decode cX8_getsBy 187 = .ok (.invokevirtual 382, 3) := by decide +kernel
theorem dX8_getsBy_190 : decode cX8_getsBy 190 = .ok (.return_, 1) := by decide +kernel
def f_X8_getsBy_b154 (n : Nat) (x1 : Int32) (x2 : Int32) (q80 : Int32 → Int64 → Int32 → m_M → Option m_M) (x3 : Int32) (x4 : Int64) (x6 : Int32) (x7 : Int32) (s0 : Int32) (M : m_M) : Option m_M :=
  if s0 = 0 then
  q80 x3 (x4 + (0 : Int64)) (x6 + 1) M
  else
  m_ob (f_X8_owedOf x7 M) fun r2 =>
  q80 x3 (x4 + r2.toInt64) (x6 + 1) M
def f_X8_getsBy_b80 (n : Nat) (x1 : Int32) (x2 : Int32) : Nat → Int32 → Int64 → Int32 → m_M → Option m_M
  | 0, _, _, _, _ => none
  | u + 1, x3, x4, x6, M =>
    m_bd (f_X8_lined M) fun r3 =>
  if r3 ≤ x6 then
  m_ob (f_X8_shareOf x3 x4 M) fun M5 =>
  some M5
  else
  m_gd (m_in ((462 : Int32) + x6) 471) (
  m_bd (M.1 173 (((462 : Int32) + x6).toNatClampNeg)) fun t7 =>
  if ((x2 >>> (x6 &&& 31)) &&& (1 : Int32)) = 1 then
  m_ob (f_X8_isLaid t7 M) fun r9 =>
  if r9 = 0 then
  f_X8_getsBy_b154 n x1 x2 (f_X8_getsBy_b80 n x1 x2 u) x3 x4 x6 t7 0 M
  else
  m_ob (f_X8_manOf t7 M) fun r12 =>
  m_ob (f_X8_manOf x3 M) fun r13 =>
  if r12 = r13 then
  m_ob (f_X8_tradeOf t7 M) fun r15 =>
  m_ob (f_X8_tradeOf x3 M) fun r16 =>
  if r15 = r16 then
  f_X8_getsBy_b154 n x1 x2 (f_X8_getsBy_b80 n x1 x2 u) x3 x4 x6 t7 1 M
  else
  f_X8_getsBy_b154 n x1 x2 (f_X8_getsBy_b80 n x1 x2 u) x3 x4 x6 t7 0 M
  else
  f_X8_getsBy_b154 n x1 x2 (f_X8_getsBy_b80 n x1 x2 u) x3 x4 x6 t7 0 M
  else
  f_X8_getsBy_b154 n x1 x2 (f_X8_getsBy_b80 n x1 x2 u) x3 x4 x6 t7 0 M)
def f_X8_getsBy (n : Nat) (x1 : Int32) (x2 : Int32) (M : m_M) : Option m_M :=
  m_gd (m_in ((462 : Int32) + x1) 471) (
  m_bd (M.1 173 (((462 : Int32) + x1).toNatClampNeg)) fun t19 =>
  m_bd (m_sL M 172 46 0) fun M20 =>
  m_bd (m_sL M20 172 47 1) fun M21 =>
  m_ob (f_X8_isLaid t19 M21) fun r22 =>
  if r22 = 0 then
  some M21
  else
  m_ob (f_X8_whoOf t19 M21) fun r25 =>
  if r25 = (-1) then
  some M21
  else
  if ((x2 >>> (x1 &&& 31)) &&& (1 : Int32)) = 0 then
  m_ob (f_X8_serve n x2 M21) fun M30 =>
  m_gd (m_in x1 6) (
  m_bd (m_sL M30 172 46 ((M30.1 198 x1.toNatClampNeg).toInt64)) fun M32 =>
  some M32)
  else
  m_ob (f_X8_manOf t19 M21) fun r28 =>
  m_ob (f_X8_ownOf n r28 0 M21) fun r29 =>
  f_X8_getsBy_b80 n x1 x2 n t19 r29.toInt64 0 M21)
set_option maxHeartbeats 4000000 in
set_option maxRecDepth 100000 in
theorem c_X8_getsBy (l : Launch) (G : m_G) {n : Nat} {x1 : Int32} {x2 : Int32} {M : m_M} {M0 : m_M}  (hres : f_X8_getsBy n x1 x2 M = some M0) : Met l yX8_getsBy (m_U yX8_getsBy cX8_getsBy 9 none) (m_R 4 94) (m_Pc G [.ref (m_ad G 172), .int x1, .int x2] M) (m_Qv G M0) 0 0 (m_A G) := by
  refine m_i0 (n := 9) RX8 rfl (by decide) (Nat.le_of_ble_eq_true rfl) ?_
  intro p e s m args below meth c X hr hlk hSt hP hS ls hl
  have hl : lv_has ls 9 [(0, .ref (m_ad G 172)), (1, .int x1), (2, .int x2)] := hl
  have B154 : ∀ (q80 : Int32 → Int64 → Int32 → m_M → Option m_M) (hq80 : ∀ (x3 : Int32) (x4 : Int64) (x6 : Int32) (M : m_M) (H : Heap) (locs : List Loc) (ls : Array Slot), m_P G M H → va_S (m_A G) s.heap H locs → lv_has ls 9 [(0, .ref (m_ad G 172)), (2, .int x2), (3, .int x3), (4, .long x4), (6, .int x6)] → q80 x3 x4 x6 M = some M0 → W p l e (m_R 4 94) s m args below meth c H locs 0 0 (MQ below (m_Qv G M0) args s 0 0 (m_A G)) (F0 m 80 ls [])) (x3 : Int32) (x4 : Int64) (x6 : Int32) (x7 : Int32) (s0 : Int32) (M : m_M) (H : Heap) (locs : List Loc) (ls : Array Slot), m_P G M H → va_S (m_A G) s.heap H locs → lv_has ls 9 [(0, .ref (m_ad G 172)), (2, .int x2), (3, .int x3), (4, .long x4), (6, .int x6), (7, .int x7)] → f_X8_getsBy_b154 n x1 x2 q80 x3 x4 x6 x7 s0 M = some M0 → W p l e (m_R 4 94) s m args below meth c H locs 0 0 (MQ below (m_Qv G M0) args s 0 0 (m_A G)) (F0 m 154 ls [.int s0]) := by
    intro q80 hq80 x3 x4 x6 x7 s0 M H locs ls hP hS hl hres
    unfold f_X8_getsBy_b154 at hres
    refine lv_istore (lv' := [(8, .int s0), (0, .ref (m_ad G 172)), (2, .int x2), (3, .int x3), (4, .long x4), (6, .int x6), (7, .int x7)]) X.1 X.2.1 dX8_getsBy_154 hl (by decide) rfl (fun ls hl => ?_)
    refine lv_lload X.1 X.2.1 dX8_getsBy_156 (lv_at hl 4 rfl) ?_
    refine lv_iload X.1 X.2.1 dX8_getsBy_158 (lv_at hl 0 rfl) ?_
    refine lv_if_eq (tgt := 173) X.1 X.2.1 dX8_getsBy_160 (by decide) (fun hc1 => ?_) (fun hc1 => ?_)
    · have hres := m_it hres hc1
      refine lv_lconst (v := 0) X.1 X.2.1 dX8_getsBy_173 (by decide) ?_
      refine lv_ladd X.1 X.2.1 dX8_getsBy_174 ?_
      refine lv_lstore (lv' := [(4, .long (x4 + (0 : Int64))), (8, .int s0), (0, .ref (m_ad G 172)), (2, .int x2), (3, .int x3), (6, .int x6), (7, .int x7)]) X.1 X.2.1 dX8_getsBy_175 hl (by decide) rfl (fun ls hl => ?_)
      refine lv_iinc (v := (x6 + 1)) (lv' := [(6, .int (x6 + 1)), (4, .long (x4 + (0 : Int64))), (8, .int s0), (0, .ref (m_ad G 172)), (2, .int x2), (3, .int x3), (7, .int x7)]) X.1 X.2.1 dX8_getsBy_177 hl (k := 5) rfl rfl (by decide) rfl (fun ls hl => ?_)
      refine lv_goto (tgt := 80) X.1 X.2.1 dX8_getsBy_180 (by decide) ?_
      exact hq80 x3 (x4 + (0 : Int64)) (x6 + 1) M _ _ _ hP hS (lv_sub hl [3, 4, 5, 1, 0] rfl) hres
    · have hres := m_if hres hc1
      refine lv_aload_n X.1 X.2.1 dX8_getsBy_163 rfl (lv_at hl 1 rfl) ?_
      refine lv_iload X.1 X.2.1 dX8_getsBy_164 (lv_at hl 6 rfl) ?_
      obtain ⟨r2, err2, hres⟩ := m_ob_e hres
      refine m_bi (m_cV (n := 1) (As := [.int x7]) (rest := [.long x4]) X hSt hP hS hl.1 (c_X8_owedOf l G  err2) k_c_yX8_owedOf k_m_X8_171 k_i_yX8_owedOf k_s_yX8_owedOf k_n_X8 (by decide +kernel) (m_rc8 hSt hP m_z_172) rfl rfl ⟨Nat.le_of_ble_eq_true rfl, Nat.le_of_ble_eq_true rfl⟩ (Nat.le_of_ble_eq_true rfl) ⟨Nat.zero_le _, Nat.zero_le _⟩ dX8_getsBy_166) hS (fun H locs hP hS => ?_)
      refine lv_i2l (v := r2.toInt64) X.1 X.2.1 dX8_getsBy_169 rfl ?_
      refine lv_goto (tgt := 174) X.1 X.2.1 dX8_getsBy_170 (by decide) ?_
      refine lv_ladd X.1 X.2.1 dX8_getsBy_174 ?_
      refine lv_lstore (lv' := [(4, .long (x4 + r2.toInt64)), (8, .int s0), (0, .ref (m_ad G 172)), (2, .int x2), (3, .int x3), (6, .int x6), (7, .int x7)]) X.1 X.2.1 dX8_getsBy_175 hl (by decide) rfl (fun ls hl => ?_)
      refine lv_iinc (v := (x6 + 1)) (lv' := [(6, .int (x6 + 1)), (4, .long (x4 + r2.toInt64)), (8, .int s0), (0, .ref (m_ad G 172)), (2, .int x2), (3, .int x3), (7, .int x7)]) X.1 X.2.1 dX8_getsBy_177 hl (k := 5) rfl rfl (by decide) rfl (fun ls hl => ?_)
      refine lv_goto (tgt := 80) X.1 X.2.1 dX8_getsBy_180 (by decide) ?_
      exact hq80 x3 (x4 + r2.toInt64) (x6 + 1) M _ _ _ hP hS (lv_sub hl [3, 4, 5, 1, 0] rfl) hres
  have B80 : ∀ (u : Nat) (x3 : Int32) (x4 : Int64) (x6 : Int32) (M : m_M) (H : Heap) (locs : List Loc) (ls : Array Slot), m_P G M H → va_S (m_A G) s.heap H locs → lv_has ls 9 [(0, .ref (m_ad G 172)), (2, .int x2), (3, .int x3), (4, .long x4), (6, .int x6)] → f_X8_getsBy_b80 n x1 x2 u x3 x4 x6 M = some M0 → W p l e (m_R 4 94) s m args below meth c H locs 0 0 (MQ below (m_Qv G M0) args s 0 0 (m_A G)) (F0 m 80 ls []) := by
    intro u
    induction u with
    | zero =>
      intro x3 x4 x6 M H locs ls hP hS hl hres
      cases hres
    | succ u ih =>
      intro x3 x4 x6 M H locs ls hP hS hl hres
      rw [f_X8_getsBy_b80] at hres
      refine lv_iload X.1 X.2.1 dX8_getsBy_80 (lv_at hl 4 rfl) ?_
      refine lv_aload_n X.1 X.2.1 dX8_getsBy_82 rfl (lv_at hl 0 rfl) ?_
      obtain ⟨r3, err3, hres⟩ := m_bd_e hres
      refine m_bi (m_cV (n := 0) (As := []) (rest := [.int x6]) X hSt hP hS hl.1 (c_X8_lined l G  err3) k_c_yX8_lined k_m_X8_400 k_i_yX8_lined k_s_yX8_lined k_n_X8 (by decide +kernel) (m_rc8 hSt hP m_z_172) rfl rfl ⟨Nat.le_of_ble_eq_true rfl, Nat.le_of_ble_eq_true rfl⟩ (Nat.le_of_ble_eq_true rfl) ⟨Nat.zero_le _, Nat.zero_le _⟩ dX8_getsBy_83) hS (fun H locs hP hS => ?_)
      refine lv_icmp_ge (tgt := 183) X.1 X.2.1 dX8_getsBy_86 (by decide) (fun hc4 => ?_) (fun hc4 => ?_)
      · have hres := m_it hres hc4
        refine lv_aload_n X.1 X.2.1 dX8_getsBy_183 rfl (lv_at hl 0 rfl) ?_
        refine lv_iload_n X.1 X.2.1 dX8_getsBy_184 rfl (lv_at hl 2 rfl) ?_
        refine lv_lload X.1 X.2.1 dX8_getsBy_185 (lv_at hl 3 rfl) ?_
        obtain ⟨M5, eM5, hres⟩ := m_ob_e hres
        refine m_bv (m_cV (n := 2) (As := [.int x3, .long x4]) (rest := []) X hSt hP hS hl.1 (c_X8_shareOf l G  eM5) k_c_yX8_shareOf k_m_X8_382 k_i_yX8_shareOf k_s_yX8_shareOf k_n_X8 (by decide +kernel) (m_rc8 hSt hP m_z_172) rfl rfl ⟨Nat.le_of_ble_eq_true rfl, Nat.le_of_ble_eq_true rfl⟩ (Nat.le_of_ble_eq_true rfl) ⟨Nat.zero_le _, Nat.zero_le _⟩ dX8_getsBy_187) hS (fun H locs hP hS => ?_)
        exact m_rv X hr hlk hP hS (Option.some.inj hres) dX8_getsBy_190
      · have hres := m_if hres hc4
        refine lv_aload_n X.1 X.2.1 dX8_getsBy_89 rfl (lv_at hl 0 rfl) ?_
        refine m_g8 (v := .ref (m_ad G 173)) X hSt hP m_z_172 0 (by decide) rfl k_f_X8_7 dX8_getsBy_90 ?_
        refine lv_sipush (v := 462) X.1 X.2.1 dX8_getsBy_93 (by decide) ?_
        refine lv_iload X.1 X.2.1 dX8_getsBy_96 (lv_at hl 4 rfl) ?_
        refine lv_iadd X.1 X.2.1 dX8_getsBy_98 ?_
        obtain ⟨hg6, hres⟩ := m_gd_e hres
        refine m_ia (j := (((462 : Int32) + x6).toNatClampNeg)) X hSt hP m_z_173 hg6 rfl dX8_getsBy_99 ?_
        obtain ⟨t7, et7, hres⟩ := m_bd_e hres
        refine m_ti et7 ?_
        refine lv_istore (lv' := [(7, .int t7), (0, .ref (m_ad G 172)), (2, .int x2), (3, .int x3), (4, .long x4), (6, .int x6)]) X.1 X.2.1 dX8_getsBy_100 hl (by decide) rfl (fun ls hl => ?_)
        refine lv_iload_n X.1 X.2.1 dX8_getsBy_102 rfl (lv_at hl 2 rfl) ?_
        refine lv_iload X.1 X.2.1 dX8_getsBy_103 (lv_at hl 5 rfl) ?_
        refine lv_ishr X.1 X.2.1 dX8_getsBy_105 ?_
        refine lv_iconst (v := 1) X.1 X.2.1 dX8_getsBy_106 (by decide) ?_
        refine lv_iand X.1 X.2.1 dX8_getsBy_107 ?_
        refine lv_iconst (v := 1) X.1 X.2.1 dX8_getsBy_108 (by decide) ?_
        refine lv_icmp_ne (tgt := 153) X.1 X.2.1 dX8_getsBy_109 (by decide) (fun hc8 => ?_) (fun hc8 => ?_)
        · have hres := m_if hres hc8
          refine lv_iconst (v := 0) X.1 X.2.1 dX8_getsBy_153 (by decide) ?_
          exact B154 (f_X8_getsBy_b80 n x1 x2 u) ih x3 x4 x6 t7 0 M _ _ _ hP hS (lv_sub hl [1, 2, 3, 4, 5, 0] rfl) hres
        · have hres := m_it hres hc8
          refine lv_aload_n X.1 X.2.1 dX8_getsBy_112 rfl (lv_at hl 1 rfl) ?_
          refine lv_iload X.1 X.2.1 dX8_getsBy_113 (lv_at hl 0 rfl) ?_
          obtain ⟨r9, err9, hres⟩ := m_ob_e hres
          refine m_bz (m_cV (n := 1) (As := [.int t7]) (rest := []) X hSt hP hS hl.1 (c_X8_isLaid l G  err9) k_c_yX8_isLaid k_m_X8_403 k_i_yX8_isLaid k_s_yX8_isLaid k_n_X8 (by decide +kernel) (m_rc8 hSt hP m_z_172) rfl rfl ⟨Nat.le_of_ble_eq_true rfl, Nat.le_of_ble_eq_true rfl⟩ (Nat.le_of_ble_eq_true rfl) ⟨Nat.zero_le _, Nat.zero_le _⟩ dX8_getsBy_115) hS (fun H locs hP hS hz10 => ?_)
          refine lv_if_eq (tgt := 153) X.1 X.2.1 dX8_getsBy_118 (by decide) (fun hc11 => ?_) (fun hc11 => ?_)
          · have hres := m_it hres hc11
            refine lv_iconst (v := 0) X.1 X.2.1 dX8_getsBy_153 (by decide) ?_
            exact B154 (f_X8_getsBy_b80 n x1 x2 u) ih x3 x4 x6 t7 0 M _ _ _ hP hS (lv_sub hl [1, 2, 3, 4, 5, 0] rfl) hres
          · have hres := m_if hres hc11
            refine lv_aload_n X.1 X.2.1 dX8_getsBy_121 rfl (lv_at hl 1 rfl) ?_
            refine lv_iload X.1 X.2.1 dX8_getsBy_122 (lv_at hl 0 rfl) ?_
            obtain ⟨r12, err12, hres⟩ := m_ob_e hres
            refine m_bi (m_cV (n := 1) (As := [.int t7]) (rest := []) X hSt hP hS hl.1 (c_X8_manOf l G  err12) k_c_yX8_manOf k_m_X8_361 k_i_yX8_manOf k_s_yX8_manOf k_n_X8 (by decide +kernel) (m_rc8 hSt hP m_z_172) rfl rfl ⟨Nat.le_of_ble_eq_true rfl, Nat.le_of_ble_eq_true rfl⟩ (Nat.le_of_ble_eq_true rfl) ⟨Nat.zero_le _, Nat.zero_le _⟩ dX8_getsBy_124) hS (fun H locs hP hS => ?_)
            refine lv_aload_n X.1 X.2.1 dX8_getsBy_127 rfl (lv_at hl 1 rfl) ?_
            refine lv_iload_n X.1 X.2.1 dX8_getsBy_128 rfl (lv_at hl 3 rfl) ?_
            obtain ⟨r13, err13, hres⟩ := m_ob_e hres
            refine m_bi (m_cV (n := 1) (As := [.int x3]) (rest := [.int r12]) X hSt hP hS hl.1 (c_X8_manOf l G  err13) k_c_yX8_manOf k_m_X8_361 k_i_yX8_manOf k_s_yX8_manOf k_n_X8 (by decide +kernel) (m_rc8 hSt hP m_z_172) rfl rfl ⟨Nat.le_of_ble_eq_true rfl, Nat.le_of_ble_eq_true rfl⟩ (Nat.le_of_ble_eq_true rfl) ⟨Nat.zero_le _, Nat.zero_le _⟩ dX8_getsBy_129) hS (fun H locs hP hS => ?_)
            refine lv_icmp_ne (tgt := 153) X.1 X.2.1 dX8_getsBy_132 (by decide) (fun hc14 => ?_) (fun hc14 => ?_)
            · have hres := m_if hres hc14
              refine lv_iconst (v := 0) X.1 X.2.1 dX8_getsBy_153 (by decide) ?_
              exact B154 (f_X8_getsBy_b80 n x1 x2 u) ih x3 x4 x6 t7 0 M _ _ _ hP hS (lv_sub hl [1, 2, 3, 4, 5, 0] rfl) hres
            · have hres := m_it hres hc14
              refine lv_aload_n X.1 X.2.1 dX8_getsBy_135 rfl (lv_at hl 1 rfl) ?_
              refine lv_iload X.1 X.2.1 dX8_getsBy_136 (lv_at hl 0 rfl) ?_
              obtain ⟨r15, err15, hres⟩ := m_ob_e hres
              refine m_bi (m_cV (n := 1) (As := [.int t7]) (rest := []) X hSt hP hS hl.1 (c_X8_tradeOf l G  err15) k_c_yX8_tradeOf k_m_X8_379 k_i_yX8_tradeOf k_s_yX8_tradeOf k_n_X8 (by decide +kernel) (m_rc8 hSt hP m_z_172) rfl rfl ⟨Nat.le_of_ble_eq_true rfl, Nat.le_of_ble_eq_true rfl⟩ (Nat.le_of_ble_eq_true rfl) ⟨Nat.zero_le _, Nat.zero_le _⟩ dX8_getsBy_138) hS (fun H locs hP hS => ?_)
              refine lv_aload_n X.1 X.2.1 dX8_getsBy_141 rfl (lv_at hl 1 rfl) ?_
              refine lv_iload_n X.1 X.2.1 dX8_getsBy_142 rfl (lv_at hl 3 rfl) ?_
              obtain ⟨r16, err16, hres⟩ := m_ob_e hres
              refine m_bi (m_cV (n := 1) (As := [.int x3]) (rest := [.int r15]) X hSt hP hS hl.1 (c_X8_tradeOf l G  err16) k_c_yX8_tradeOf k_m_X8_379 k_i_yX8_tradeOf k_s_yX8_tradeOf k_n_X8 (by decide +kernel) (m_rc8 hSt hP m_z_172) rfl rfl ⟨Nat.le_of_ble_eq_true rfl, Nat.le_of_ble_eq_true rfl⟩ (Nat.le_of_ble_eq_true rfl) ⟨Nat.zero_le _, Nat.zero_le _⟩ dX8_getsBy_143) hS (fun H locs hP hS => ?_)
              refine lv_icmp_ne (tgt := 153) X.1 X.2.1 dX8_getsBy_146 (by decide) (fun hc17 => ?_) (fun hc17 => ?_)
              · have hres := m_if hres hc17
                refine lv_iconst (v := 0) X.1 X.2.1 dX8_getsBy_153 (by decide) ?_
                exact B154 (f_X8_getsBy_b80 n x1 x2 u) ih x3 x4 x6 t7 0 M _ _ _ hP hS (lv_sub hl [1, 2, 3, 4, 5, 0] rfl) hres
              · have hres := m_it hres hc17
                refine lv_iconst (v := 1) X.1 X.2.1 dX8_getsBy_149 (by decide) ?_
                refine lv_goto (tgt := 154) X.1 X.2.1 dX8_getsBy_150 (by decide) ?_
                exact B154 (f_X8_getsBy_b80 n x1 x2 u) ih x3 x4 x6 t7 1 M _ _ _ hP hS (lv_sub hl [1, 2, 3, 4, 5, 0] rfl) hres
  unfold f_X8_getsBy at hres
  refine lv_aload_n X.1 X.2.1 dX8_getsBy_0 rfl (lv_at hl 0 rfl) ?_
  refine m_g8 (v := .ref (m_ad G 173)) X hSt hP m_z_172 0 (by decide) rfl k_f_X8_7 dX8_getsBy_1 ?_
  refine lv_sipush (v := 462) X.1 X.2.1 dX8_getsBy_4 (by decide) ?_
  refine lv_iload_n X.1 X.2.1 dX8_getsBy_7 rfl (lv_at hl 1 rfl) ?_
  refine lv_iadd X.1 X.2.1 dX8_getsBy_8 ?_
  obtain ⟨hg18, hres⟩ := m_gd_e hres
  refine m_ia (j := (((462 : Int32) + x1).toNatClampNeg)) X hSt hP m_z_173 hg18 rfl dX8_getsBy_9 ?_
  obtain ⟨t19, et19, hres⟩ := m_bd_e hres
  refine m_ti et19 ?_
  refine lv_istore_n (lv' := [(3, .int t19), (0, .ref (m_ad G 172)), (1, .int x1), (2, .int x2)]) X.1 X.2.1 dX8_getsBy_10 rfl hl (by decide) rfl (fun ls hl => ?_)
  refine lv_aload_n X.1 X.2.1 dX8_getsBy_11 rfl (lv_at hl 1 rfl) ?_
  refine lv_lconst (v := 0) X.1 X.2.1 dX8_getsBy_12 (by decide) ?_
  obtain ⟨M20, eM20, hres⟩ := m_bd_e hres
  refine m_pl8 X hSt hP hS m_z_172 46 (by decide) eM20 rfl rfl (by decide) k_f_X8_367 dX8_getsBy_13 (fun H locs hP hS => ?_)
  refine lv_aload_n X.1 X.2.1 dX8_getsBy_16 rfl (lv_at hl 1 rfl) ?_
  refine lv_lconst (v := 1) X.1 X.2.1 dX8_getsBy_17 (by decide) ?_
  obtain ⟨M21, eM21, hres⟩ := m_bd_e hres
  refine m_pl8 X hSt hP hS m_z_172 47 (by decide) eM21 rfl rfl (by decide) k_f_X8_370 dX8_getsBy_18 (fun H locs hP hS => ?_)
  refine lv_aload_n X.1 X.2.1 dX8_getsBy_21 rfl (lv_at hl 1 rfl) ?_
  refine lv_iload_n X.1 X.2.1 dX8_getsBy_22 rfl (lv_at hl 0 rfl) ?_
  obtain ⟨r22, err22, hres⟩ := m_ob_e hres
  refine m_bz (m_cV (n := 1) (As := [.int t19]) (rest := []) X hSt hP hS hl.1 (c_X8_isLaid l G  err22) k_c_yX8_isLaid k_m_X8_403 k_i_yX8_isLaid k_s_yX8_isLaid k_n_X8 (by decide +kernel) (m_rc8 hSt hP m_z_172) rfl rfl ⟨Nat.le_of_ble_eq_true rfl, Nat.le_of_ble_eq_true rfl⟩ (Nat.le_of_ble_eq_true rfl) ⟨Nat.zero_le _, Nat.zero_le _⟩ dX8_getsBy_23) hS (fun H locs hP hS hz23 => ?_)
  refine lv_if_eq (tgt := 38) X.1 X.2.1 dX8_getsBy_26 (by decide) (fun hc24 => ?_) (fun hc24 => ?_)
  · have hres := m_it hres hc24
    exact m_rv X hr hlk hP hS (Option.some.inj hres) dX8_getsBy_38
  · have hres := m_if hres hc24
    refine lv_aload_n X.1 X.2.1 dX8_getsBy_29 rfl (lv_at hl 1 rfl) ?_
    refine lv_iload_n X.1 X.2.1 dX8_getsBy_30 rfl (lv_at hl 0 rfl) ?_
    obtain ⟨r25, err25, hres⟩ := m_ob_e hres
    refine m_bi (m_cV (n := 1) (As := [.int t19]) (rest := []) X hSt hP hS hl.1 (c_X8_whoOf l G  err25) k_c_yX8_whoOf k_m_X8_364 k_i_yX8_whoOf k_s_yX8_whoOf k_n_X8 (by decide +kernel) (m_rc8 hSt hP m_z_172) rfl rfl ⟨Nat.le_of_ble_eq_true rfl, Nat.le_of_ble_eq_true rfl⟩ (Nat.le_of_ble_eq_true rfl) ⟨Nat.zero_le _, Nat.zero_le _⟩ dX8_getsBy_31) hS (fun H locs hP hS => ?_)
    refine lv_iconst (v := (-1)) X.1 X.2.1 dX8_getsBy_34 (by decide) ?_
    refine lv_icmp_ne (tgt := 39) X.1 X.2.1 dX8_getsBy_35 (by decide) (fun hc26 => ?_) (fun hc26 => ?_)
    · have hres := m_if hres hc26
      refine lv_iload_n X.1 X.2.1 dX8_getsBy_39 rfl (lv_at hl 3 rfl) ?_
      refine lv_iload_n X.1 X.2.1 dX8_getsBy_40 rfl (lv_at hl 2 rfl) ?_
      refine lv_ishr X.1 X.2.1 dX8_getsBy_41 ?_
      refine lv_iconst (v := 1) X.1 X.2.1 dX8_getsBy_42 (by decide) ?_
      refine lv_iand X.1 X.2.1 dX8_getsBy_43 ?_
      refine lv_if_ne (tgt := 64) X.1 X.2.1 dX8_getsBy_44 (by decide) (fun hc27 => ?_) (fun hc27 => ?_)
      · have hres := m_if hres hc27
        refine lv_aload_n X.1 X.2.1 dX8_getsBy_64 rfl (lv_at hl 1 rfl) ?_
        refine lv_aload_n X.1 X.2.1 dX8_getsBy_65 rfl (lv_at hl 1 rfl) ?_
        refine lv_iload_n X.1 X.2.1 dX8_getsBy_66 rfl (lv_at hl 0 rfl) ?_
        obtain ⟨r28, err28, hres⟩ := m_ob_e hres
        refine m_bi (m_cV (n := 1) (As := [.int t19]) (rest := [.ref (m_ad G 172)]) X hSt hP hS hl.1 (c_X8_manOf l G  err28) k_c_yX8_manOf k_m_X8_361 k_i_yX8_manOf k_s_yX8_manOf k_n_X8 (by decide +kernel) (m_rc8 hSt hP m_z_172) rfl rfl ⟨Nat.le_of_ble_eq_true rfl, Nat.le_of_ble_eq_true rfl⟩ (Nat.le_of_ble_eq_true rfl) ⟨Nat.zero_le _, Nat.zero_le _⟩ dX8_getsBy_67) hS (fun H locs hP hS => ?_)
        refine lv_iconst (v := 0) X.1 X.2.1 dX8_getsBy_70 (by decide) ?_
        obtain ⟨r29, err29, hres⟩ := m_ob_e hres
        refine m_bi (m_cV (n := 2) (As := [.int r28, .int 0]) (rest := []) X hSt hP hS hl.1 (c_X8_ownOf l G  err29) k_c_yX8_ownOf k_m_X8_332 k_i_yX8_ownOf k_s_yX8_ownOf k_n_X8 (by decide +kernel) (m_rc8 hSt hP m_z_172) rfl rfl ⟨Nat.le_of_ble_eq_true rfl, Nat.le_of_ble_eq_true rfl⟩ (Nat.le_of_ble_eq_true rfl) ⟨Nat.zero_le _, Nat.zero_le _⟩ dX8_getsBy_71) hS (fun H locs hP hS => ?_)
        refine lv_i2l (v := r29.toInt64) X.1 X.2.1 dX8_getsBy_74 rfl ?_
        refine lv_lstore (lv' := [(4, .long r29.toInt64), (3, .int t19), (0, .ref (m_ad G 172)), (1, .int x1), (2, .int x2)]) X.1 X.2.1 dX8_getsBy_75 hl (by decide) rfl (fun ls hl => ?_)
        refine lv_iconst (v := 0) X.1 X.2.1 dX8_getsBy_77 (by decide) ?_
        refine lv_istore (lv' := [(6, .int 0), (4, .long r29.toInt64), (3, .int t19), (0, .ref (m_ad G 172)), (1, .int x1), (2, .int x2)]) X.1 X.2.1 dX8_getsBy_78 hl (by decide) rfl (fun ls hl => ?_)
        exact B80 n t19 r29.toInt64 0 M21 _ _ _ hP hS (lv_sub hl [3, 5, 2, 1, 0] rfl) hres
      · have hres := m_it hres hc27
        refine lv_aload_n X.1 X.2.1 dX8_getsBy_47 rfl (lv_at hl 1 rfl) ?_
        refine lv_iload_n X.1 X.2.1 dX8_getsBy_48 rfl (lv_at hl 3 rfl) ?_
        obtain ⟨M30, eM30, hres⟩ := m_ob_e hres
        refine m_bv (m_cV (n := 1) (As := [.int x2]) (rest := []) X hSt hP hS hl.1 (c_X8_serve l G  eM30) k_c_yX8_serve k_m_X8_415 k_i_yX8_serve k_s_yX8_serve k_n_X8 (by decide +kernel) (m_rc8 hSt hP m_z_172) rfl rfl ⟨Nat.le_of_ble_eq_true rfl, Nat.le_of_ble_eq_true rfl⟩ (Nat.le_of_ble_eq_true rfl) ⟨Nat.zero_le _, Nat.zero_le _⟩ dX8_getsBy_49) hS (fun H locs hP hS => ?_)
        refine lv_aload_n X.1 X.2.1 dX8_getsBy_52 rfl (lv_at hl 1 rfl) ?_
        refine lv_aload_n X.1 X.2.1 dX8_getsBy_53 rfl (lv_at hl 1 rfl) ?_
        refine m_g8 (v := .ref (m_ad G 198)) X hSt hP m_z_172 50 (by decide) rfl k_f_X8_95 dX8_getsBy_54 ?_
        refine lv_iload_n X.1 X.2.1 dX8_getsBy_57 rfl (lv_at hl 2 rfl) ?_
        obtain ⟨hg31, hres⟩ := m_gd_e hres
        refine m_ia (j := x1.toNatClampNeg) X hSt hP m_z_198 hg31 rfl dX8_getsBy_58 ?_
        refine lv_i2l (v := (M30.1 198 x1.toNatClampNeg).toInt64) X.1 X.2.1 dX8_getsBy_59 rfl ?_
        obtain ⟨M32, eM32, hres⟩ := m_bd_e hres
        refine m_pl8 X hSt hP hS m_z_172 46 (by decide) eM32 rfl rfl (by decide) k_f_X8_367 dX8_getsBy_60 (fun H locs hP hS => ?_)
        exact m_rv X hr hlk hP hS (Option.some.inj hres) dX8_getsBy_63
    · have hres := m_it hres hc26
      exact m_rv X hr hlk hP hS (Option.some.inj hres) dX8_getsBy_38
theorem dX8_layWays_0 : decode cX8_layWays 0 = .ok (.iconst 1, 1) := by decide +kernel
theorem dX8_layWays_1 : decode cX8_layWays 1 = .ok (.aload_n 0, 1) := by decide +kernel
theorem dX8_layWays_2 : decode cX8_layWays 2 = .ok (.invokevirtual 191, 3) := by decide +kernel
theorem dX8_layWays_5 : decode cX8_layWays 5 = .ok (.ishl, 1) := by decide +kernel
theorem dX8_layWays_6 : decode cX8_layWays 6 = .ok (.istore 4, 2) := by decide +kernel
theorem dX8_layWays_8 : decode cX8_layWays 8 = .ok (.iconst 0, 1) := by decide +kernel
theorem dX8_layWays_9 : decode cX8_layWays 9 = .ok (.istore 5, 2) := by decide +kernel
theorem dX8_layWays_11 : decode cX8_layWays 11 = .ok (.iload 5, 2) := by decide +kernel
theorem dX8_layWays_13 : decode cX8_layWays 13 = .ok (.iload 4, 2) := by decide +kernel
theorem dX8_layWays_15 : decode cX8_layWays 15 = .ok (.if_icmp .ge 49, 3) := by decide +kernel
theorem dX8_layWays_18 : decode cX8_layWays 18 = .ok (.aload_n 0, 1) := by decide +kernel
theorem dX8_layWays_19 : decode cX8_layWays 19 = .ok (.iload 5, 2) := by decide +kernel
theorem dX8_layWays_21 : decode cX8_layWays 21 = .ok (.putfield 72, 3) := by decide +kernel
theorem dX8_layWays_24 : decode cX8_layWays 24 = .ok (.aload_n 0, 1) := by decide +kernel
theorem dX8_layWays_25 : decode cX8_layWays 25 = .ok (.iload_n 3, 1) := by decide +kernel
theorem dX8_layWays_26 : decode cX8_layWays 26 = .ok (.invokevirtual 344, 3) := by decide +kernel
theorem dX8_layWays_29 : decode cX8_layWays 29 = .ok (.aload_n 0, 1) := by decide +kernel
theorem dX8_layWays_30 : decode cX8_layWays 30 = .ok (.iload_n 1, 1) := by decide +kernel
theorem dX8_layWays_31 : decode cX8_layWays 31 = .ok (.iload_n 2, 1) := by decide +kernel
theorem dX8_layWays_32 : decode cX8_layWays 32 = .ok (.iconst 0, 1) := by decide +kernel
theorem dX8_layWays_33 : decode cX8_layWays 33 = .ok (.invokevirtual 392, 3) := by decide +kernel
theorem dX8_layWays_36 : decode cX8_layWays 36 = .ok (.aload_n 0, 1) := by decide +kernel
theorem dX8_layWays_37 : decode cX8_layWays 37 = .ok (.getfield 101, 3) := by decide +kernel
theorem dX8_layWays_40 : decode cX8_layWays 40 = .ok (.iload 5, 2) := by decide +kernel
theorem dX8_layWays_42 : decode cX8_layWays 42 = .ok (.aload_n 0, 1) := by decide +kernel
theorem dX8_layWays_43 : decode cX8_layWays 43 = .ok (.getfield 367, 3) := by decide +kernel
theorem dX8_layWays_46 : decode cX8_layWays 46 = .ok (.lastore, 1) := by decide +kernel
theorem dX8_layWays_47 : decode cX8_layWays 47 = .ok (.aload_n 0, 1) := by decide +kernel
theorem dX8_layWays_48 : decode cX8_layWays 48 = .ok (.getfield 104, 3) := by decide +kernel
theorem dX8_layWays_51 : decode cX8_layWays 51 = .ok (.iload 5, 2) := by decide +kernel
theorem dX8_layWays_53 : decode cX8_layWays 53 = .ok (.aload_n 0, 1) := by decide +kernel
theorem dX8_layWays_54 : decode cX8_layWays 54 = .ok (.getfield 370, 3) := by decide +kernel
theorem dX8_layWays_57 : decode cX8_layWays 57 = .ok (.lastore, 1) := by decide +kernel
theorem dX8_layWays_58 : decode cX8_layWays 58 = .ok (.iinc 5 1, 3) := by decide +kernel
theorem dX8_layWays_61 : decode cX8_layWays 61 = .ok (.goto (-50), 3) := by decide +kernel
theorem dX8_layWays_64 : decode cX8_layWays 64 = .ok (.aload_n 0, 1) := by decide +kernel
theorem dX8_layWays_65 : decode cX8_layWays 65 = .ok (.bipush 31, 2) := by decide +kernel
theorem dX8_layWays_67 : decode cX8_layWays 67 = .ok (.putfield 72, 3) := by decide +kernel
theorem dX8_layWays_70 : decode cX8_layWays 70 = .ok (.iload 4, 2) := by decide +kernel
theorem dX8_layWays_72 : decode cX8_layWays 72 = .ok (.ireturn, 1) := by decide +kernel
def f_X8_layWays_b11 (n : Nat) (x1 : Int32) (x2 : Int32) (x3 : Int32) : Nat → Int32 → Int32 → m_M → Option (Int32 × m_M)
  | 0, _, _, _ => none
  | u + 1, x4, x5, M =>
    if x4 ≤ x5 then
  m_bd (m_sI M 172 24 31) fun M2 =>
  some (x4, M2)
  else
  m_bd (m_sI M 172 24 x5) fun M3 =>
  m_ob (f_X8_layAll n x3 M3) fun M4 =>
  m_ob (f_X8_askOf n x1 x2 0 M4) fun M5 =>
  m_gd (m_in x5 32) (
  m_bd (m_sL M5 200 x5.toNatClampNeg (M5.2 172 46)) fun M7 =>
  m_bd (m_sL M7 201 x5.toNatClampNeg (M7.2 172 47)) fun M8 =>
  f_X8_layWays_b11 n x1 x2 x3 u x4 (x5 + 1) M8)
def f_X8_layWays (n : Nat) (x1 : Int32) (x2 : Int32) (x3 : Int32) (M : m_M) : Option (Int32 × m_M) :=
  m_ob (f_X8_doubtMany n M) fun r9 =>
  f_X8_layWays_b11 n x1 x2 x3 n ((1 : Int32) <<< (r9 &&& 31)) 0 M
set_option maxHeartbeats 4000000 in
set_option maxRecDepth 100000 in
theorem c_X8_layWays (l : Launch) (G : m_G) {n : Nat} {x1 : Int32} {x2 : Int32} {x3 : Int32} {M : m_M} {r0 : Int32} {M0 : m_M}  (hres : f_X8_layWays n x1 x2 x3 M = some (r0, M0)) : Met l yX8_layWays (m_U yX8_layWays cX8_layWays 6 (some .int)) (m_R 7 161) (m_Pc G [.ref (m_ad G 172), .int x1, .int x2, .int x3] M) (m_Qi G r0 M0) 0 0 (m_A G) := by
  refine m_i0 (n := 6) RX8 rfl (by decide) (Nat.le_of_ble_eq_true rfl) ?_
  intro p e s m args below meth c X hr hlk hSt hP hS ls hl
  have hl : lv_has ls 6 [(0, .ref (m_ad G 172)), (1, .int x1), (2, .int x2), (3, .int x3)] := hl
  have B11 : ∀ (u : Nat) (x4 : Int32) (x5 : Int32) (M : m_M) (H : Heap) (locs : List Loc) (ls : Array Slot), m_P G M H → va_S (m_A G) s.heap H locs → lv_has ls 6 [(0, .ref (m_ad G 172)), (1, .int x1), (2, .int x2), (3, .int x3), (4, .int x4), (5, .int x5)] → f_X8_layWays_b11 n x1 x2 x3 u x4 x5 M = some (r0, M0) → W p l e (m_R 7 161) s m args below meth c H locs 0 0 (MQ below (m_Qi G r0 M0) args s 0 0 (m_A G)) (F0 m 11 ls []) := by
    intro u
    induction u with
    | zero =>
      intro x4 x5 M H locs ls hP hS hl hres
      cases hres
    | succ u ih =>
      intro x4 x5 M H locs ls hP hS hl hres
      rw [f_X8_layWays_b11] at hres
      refine lv_iload X.1 X.2.1 dX8_layWays_11 (lv_at hl 5 rfl) ?_
      refine lv_iload X.1 X.2.1 dX8_layWays_13 (lv_at hl 4 rfl) ?_
      refine lv_icmp_ge (tgt := 64) X.1 X.2.1 dX8_layWays_15 (by decide) (fun hc1 => ?_) (fun hc1 => ?_)
      · have hres := m_it hres hc1
        refine lv_aload_n X.1 X.2.1 dX8_layWays_64 rfl (lv_at hl 0 rfl) ?_
        refine lv_bipush (v := 31) X.1 X.2.1 dX8_layWays_65 (by decide) ?_
        obtain ⟨M2, eM2, hres⟩ := m_bd_e hres
        refine m_pi8 X hSt hP hS m_z_172 24 (by decide) eM2 rfl rfl (by decide) k_f_X8_72 dX8_layWays_67 (fun H locs hP hS => ?_)
        refine lv_iload X.1 X.2.1 dX8_layWays_70 (lv_at hl 4 rfl) ?_
        exact m_ri X hr hlk hP hS (Prod.mk.inj (Option.some.inj hres)).1 (Prod.mk.inj (Option.some.inj hres)).2 dX8_layWays_72
      · have hres := m_if hres hc1
        refine lv_aload_n X.1 X.2.1 dX8_layWays_18 rfl (lv_at hl 0 rfl) ?_
        refine lv_iload X.1 X.2.1 dX8_layWays_19 (lv_at hl 5 rfl) ?_
        obtain ⟨M3, eM3, hres⟩ := m_bd_e hres
        refine m_pi8 X hSt hP hS m_z_172 24 (by decide) eM3 rfl rfl (by decide) k_f_X8_72 dX8_layWays_21 (fun H locs hP hS => ?_)
        refine lv_aload_n X.1 X.2.1 dX8_layWays_24 rfl (lv_at hl 0 rfl) ?_
        refine lv_iload_n X.1 X.2.1 dX8_layWays_25 rfl (lv_at hl 3 rfl) ?_
        obtain ⟨M4, eM4, hres⟩ := m_ob_e hres
        refine m_bv (m_cV (n := 1) (As := [.int x3]) (rest := []) X hSt hP hS hl.1 (c_X8_layAll l G  eM4) k_c_yX8_layAll k_m_X8_344 k_i_yX8_layAll k_s_yX8_layAll k_n_X8 (by decide +kernel) (m_rc8 hSt hP m_z_172) rfl rfl ⟨Nat.le_of_ble_eq_true rfl, Nat.le_of_ble_eq_true rfl⟩ (Nat.le_of_ble_eq_true rfl) ⟨Nat.zero_le _, Nat.zero_le _⟩ dX8_layWays_26) hS (fun H locs hP hS => ?_)
        refine lv_aload_n X.1 X.2.1 dX8_layWays_29 rfl (lv_at hl 0 rfl) ?_
        refine lv_iload_n X.1 X.2.1 dX8_layWays_30 rfl (lv_at hl 1 rfl) ?_
        refine lv_iload_n X.1 X.2.1 dX8_layWays_31 rfl (lv_at hl 2 rfl) ?_
        refine lv_iconst (v := 0) X.1 X.2.1 dX8_layWays_32 (by decide) ?_
        obtain ⟨M5, eM5, hres⟩ := m_ob_e hres
        refine m_bv (m_cV (n := 3) (As := [.int x1, .int x2, .int 0]) (rest := []) X hSt hP hS hl.1 (c_X8_askOf l G  eM5) k_c_yX8_askOf k_m_X8_392 k_i_yX8_askOf k_s_yX8_askOf k_n_X8 (by decide +kernel) (m_rc8 hSt hP m_z_172) rfl rfl ⟨Nat.le_of_ble_eq_true rfl, Nat.le_of_ble_eq_true rfl⟩ (Nat.le_of_ble_eq_true rfl) ⟨Nat.zero_le _, Nat.zero_le _⟩ dX8_layWays_33) hS (fun H locs hP hS => ?_)
        refine lv_aload_n X.1 X.2.1 dX8_layWays_36 rfl (lv_at hl 0 rfl) ?_
        refine m_g8 (v := .ref (m_ad G 200)) X hSt hP m_z_172 52 (by decide) rfl k_f_X8_101 dX8_layWays_37 ?_
        refine lv_iload X.1 X.2.1 dX8_layWays_40 (lv_at hl 5 rfl) ?_
        refine lv_aload_n X.1 X.2.1 dX8_layWays_42 rfl (lv_at hl 0 rfl) ?_
        refine m_g8 (v := .long (M5.2 172 46)) X hSt hP m_z_172 46 (by decide) rfl k_f_X8_367 dX8_layWays_43 ?_
        obtain ⟨hg6, hres⟩ := m_gd_e hres
        obtain ⟨M7, eM7, hres⟩ := m_bd_e hres
        refine m_ls (j := x5.toNatClampNeg) X hSt hP hS m_z_200 hg6 rfl dX8_layWays_46 eM7 (fun H locs hP hS => ?_)
        refine lv_aload_n X.1 X.2.1 dX8_layWays_47 rfl (lv_at hl 0 rfl) ?_
        refine m_g8 (v := .ref (m_ad G 201)) X hSt hP m_z_172 53 (by decide) rfl k_f_X8_104 dX8_layWays_48 ?_
        refine lv_iload X.1 X.2.1 dX8_layWays_51 (lv_at hl 5 rfl) ?_
        refine lv_aload_n X.1 X.2.1 dX8_layWays_53 rfl (lv_at hl 0 rfl) ?_
        refine m_g8 (v := .long (M7.2 172 47)) X hSt hP m_z_172 47 (by decide) rfl k_f_X8_370 dX8_layWays_54 ?_
        obtain ⟨M8, eM8, hres⟩ := m_bd_e hres
        refine m_ls (j := x5.toNatClampNeg) X hSt hP hS m_z_201 hg6 rfl dX8_layWays_57 eM8 (fun H locs hP hS => ?_)
        refine lv_iinc (v := (x5 + 1)) (lv' := [(5, .int (x5 + 1)), (0, .ref (m_ad G 172)), (1, .int x1), (2, .int x2), (3, .int x3), (4, .int x4)]) X.1 X.2.1 dX8_layWays_58 hl (k := 5) rfl rfl (by decide) rfl (fun ls hl => ?_)
        refine lv_goto (tgt := 11) X.1 X.2.1 dX8_layWays_61 (by decide) ?_
        exact ih x4 (x5 + 1) M8 _ _ _ hP hS (lv_sub hl [1, 2, 3, 4, 5, 0] rfl) hres
  unfold f_X8_layWays at hres
  refine lv_iconst (v := 1) X.1 X.2.1 dX8_layWays_0 (by decide) ?_
  refine lv_aload_n X.1 X.2.1 dX8_layWays_1 rfl (lv_at hl 0 rfl) ?_
  obtain ⟨r9, err9, hres⟩ := m_ob_e hres
  refine m_bi (m_cV (n := 0) (As := []) (rest := [.int 1]) X hSt hP hS hl.1 (c_X8_doubtMany l G  err9) k_c_yX8_doubtMany k_m_X8_191 k_i_yX8_doubtMany k_s_yX8_doubtMany k_n_X8 (by decide +kernel) (m_rc8 hSt hP m_z_172) rfl rfl ⟨Nat.le_of_ble_eq_true rfl, Nat.le_of_ble_eq_true rfl⟩ (Nat.le_of_ble_eq_true rfl) ⟨Nat.zero_le _, Nat.zero_le _⟩ dX8_layWays_2) hS (fun H locs hP hS => ?_)
  refine lv_ishl X.1 X.2.1 dX8_layWays_5 ?_
  refine lv_istore (lv' := [(4, .int ((1 : Int32) <<< (r9 &&& 31))), (0, .ref (m_ad G 172)), (1, .int x1), (2, .int x2), (3, .int x3)]) X.1 X.2.1 dX8_layWays_6 hl (by decide) rfl (fun ls hl => ?_)
  refine lv_iconst (v := 0) X.1 X.2.1 dX8_layWays_8 (by decide) ?_
  refine lv_istore (lv' := [(5, .int 0), (4, .int ((1 : Int32) <<< (r9 &&& 31))), (0, .ref (m_ad G 172)), (1, .int x1), (2, .int x2), (3, .int x3)]) X.1 X.2.1 dX8_layWays_9 hl (by decide) rfl (fun ls hl => ?_)
  exact B11 n ((1 : Int32) <<< (r9 &&& 31)) 0 M _ _ _ hP hS (lv_sub hl [2, 3, 4, 5, 1, 0] rfl) hres
theorem dX8_hangs_0 : decode cX8_hangs 0 = .ok (.aload_n 0, 1) := by decide +kernel
theorem dX8_hangs_1 : decode cX8_hangs 1 = .ok (.iload_n 1, 1) := by decide +kernel
theorem dX8_hangs_2 : decode cX8_hangs 2 = .ok (.iload_n 3, 1) := by decide +kernel
theorem dX8_hangs_3 : decode cX8_hangs 3 = .ok (.invokevirtual 355, 3) := by decide +kernel
theorem dX8_hangs_6 : decode cX8_hangs 6 = .ok (.ifCond .eq 10, 3) := by decide +kernel
theorem dX8_hangs_9 : decode cX8_hangs 9 = .ok (.iload_n 2, 1) := by decide +kernel
theorem dX8_hangs_10 : decode cX8_hangs 10 = .ok (.invokestatic 389, 3) := by decide +kernel
theorem dX8_hangs_13 : decode cX8_hangs 13 = .ok (.ifCond .ne 6, 3) := by decide +kernel
theorem dX8_hangs_16 : decode cX8_hangs 16 = .ok (.bipush (-2), 2) := by decide +kernel
theorem dX8_hangs_18 : decode cX8_hangs 18 = .ok (.ireturn, 1) := by decide +kernel
theorem dX8_hangs_19 : decode cX8_hangs 19 = .ok (.aload_n 0, 1) := by decide +kernel
theorem dX8_hangs_20 : decode cX8_hangs 20 = .ok (.iload_n 1, 1) := by decide +kernel
theorem dX8_hangs_21 : decode cX8_hangs 21 = .ok (.iload_n 3, 1) := by decide +kernel
theorem dX8_hangs_22 : decode cX8_hangs 22 = .ok (.invokevirtual 358, 3) := by decide +kernel
theorem dX8_hangs_25 : decode cX8_hangs 25 = .ok (.ifCond .eq 6, 3) := by decide +kernel
theorem dX8_hangs_28 : decode cX8_hangs 28 = .ok (.bipush (-3), 2) := by decide +kernel
theorem dX8_hangs_30 : decode cX8_hangs 30 = .ok (.ireturn, 1) := by decide +kernel
theorem dX8_hangs_31 : decode cX8_hangs 31 = .ok (.aload_n 0, 1) := by decide +kernel
theorem dX8_hangs_32 : decode cX8_hangs 32 = .ok (.iload_n 1, 1) := by decide +kernel
theorem dX8_hangs_33 : decode cX8_hangs 33 = .ok (.iload_n 2, 1) := by decide +kernel
theorem dX8_hangs_34 : decode cX8_hangs 34 = .ok (.iload_n 3, 1) := by decide +kernel
theorem dX8_hangs_35 : decode cX8_hangs 35 = .ok (.invokevirtual 433, 3) := by decide +kernel
theorem dX8_hangs_38 : decode cX8_hangs 38 = .ok (.istore 4, 2) := by decide +kernel
theorem dX8_hangs_40 : decode cX8_hangs 40 = .ok (.iconst 0, 1) := by decide +kernel
theorem dX8_hangs_41 : decode cX8_hangs 41 = .ok (.istore 5, 2) := by decide +kernel
theorem dX8_hangs_43 : decode cX8_hangs 43 = .ok (.iconst 0, 1) := by decide +kernel
theorem dX8_hangs_44 : decode cX8_hangs 44 = .ok (.istore 6, 2) := by decide +kernel
theorem dX8_hangs_46 : decode cX8_hangs 46 = .ok (.iload 6, 2) := by decide +kernel
theorem dX8_hangs_48 : decode cX8_hangs 48 = .ok (.iload 4, 2) := by decide +kernel
theorem dX8_hangs_50 : decode cX8_hangs 50 = .ok (.if_icmp .ge 83, 3) := by decide +kernel
theorem dX8_hangs_53 : decode cX8_hangs 53 = .ok (.iconst 0, 1) := by decide +kernel
theorem dX8_hangs_54 : decode cX8_hangs 54 = .ok (.istore 7, 2) := by decide +kernel
theorem dX8_hangs_56 : decode cX8_hangs 56 = .ok (.iconst 1, 1) := by decide +kernel
theorem dX8_hangs_57 : decode cX8_hangs 57 = .ok (.iload 7, 2) := by decide +kernel
theorem dX8_hangs_59 : decode cX8_hangs 59 = .ok (.ishl, 1) := by decide +kernel
theorem dX8_hangs_60 : decode cX8_hangs 60 = .ok (.iload 4, 2) := by decide +kernel
theorem dX8_hangs_62 : decode cX8_hangs 62 = .ok (.if_icmp .ge 65, 3) := by decide +kernel
theorem dX8_hangs_65 : decode cX8_hangs 65 = .ok (.iload 6, 2) := by decide +kernel
theorem dX8_hangs_67 : decode cX8_hangs 67 = .ok (.iconst 1, 1) := by decide +kernel
theorem dX8_hangs_68 : decode cX8_hangs 68 = .ok (.iload 7, 2) := by decide +kernel
theorem dX8_hangs_70 : decode cX8_hangs 70 = .ok (.ishl, 1) := by decide +kernel
theorem dX8_hangs_71 : decode cX8_hangs 71 = .ok (.ixor, 1) := by decide +kernel
theorem dX8_hangs_72 : decode cX8_hangs 72 = .ok (.istore 8, 2) := by decide +kernel
theorem dX8_hangs_74 : decode cX8_hangs 74 = .ok (.iload 5, 2) := by decide +kernel
theorem dX8_hangs_76 : decode cX8_hangs 76 = .ok (.aload_n 0, 1) := by decide +kernel
theorem dX8_hangs_77 : decode cX8_hangs 77 = .ok (.getfield 101, 3) := by decide +kernel
theorem dX8_hangs_80 : decode cX8_hangs 80 = .ok (.iload 6, 2) := by decide +kernel
theorem dX8_hangs_82 : decode cX8_hangs 82 = .ok (.laload, 1) := by decide +kernel
theorem dX8_hangs_83 : decode cX8_hangs 83 = .ok (.aload_n 0, 1) := by decide +kernel
theorem dX8_hangs_84 : decode cX8_hangs 84 = .ok (.getfield 104, 3) := by decide +kernel
theorem dX8_hangs_87 : decode cX8_hangs 87 = .ok (.iload 8, 2) := by decide +kernel
theorem dX8_hangs_89 : decode cX8_hangs 89 = .ok (.laload, 1) := by decide +kernel
theorem dX8_hangs_90 : decode cX8_hangs 90 = .ok (.lmul, 1) := by decide +kernel
theorem dX8_hangs_91 : decode cX8_hangs 91 = .ok (.aload_n 0, 1) := by decide +kernel
theorem dX8_hangs_92 : decode cX8_hangs 92 = .ok (.getfield 101, 3) := by decide +kernel
theorem dX8_hangs_95 : decode cX8_hangs 95 = .ok (.iload 8, 2) := by decide +kernel
theorem dX8_hangs_97 : decode cX8_hangs 97 = .ok (.laload, 1) := by decide +kernel
theorem dX8_hangs_98 : decode cX8_hangs 98 = .ok (.aload_n 0, 1) := by decide +kernel
theorem dX8_hangs_99 : decode cX8_hangs 99 = .ok (.getfield 104, 3) := by decide +kernel
theorem dX8_hangs_102 : decode cX8_hangs 102 = .ok (.iload 6, 2) := by decide +kernel
theorem dX8_hangs_104 : decode cX8_hangs 104 = .ok (.laload, 1) := by decide +kernel
theorem dX8_hangs_105 : decode cX8_hangs 105 = .ok (.lmul, 1) := by decide +kernel
theorem dX8_hangs_106 : decode cX8_hangs 106 = .ok (.lcmp, 1) := by decide +kernel
theorem dX8_hangs_107 : decode cX8_hangs 107 = .ok (.ifCond .eq 10, 3) := by decide +kernel
theorem dX8_hangs_110 : decode cX8_hangs 110 = .ok (.iconst 1, 1) := by decide +kernel
theorem dX8_hangs_111 : decode cX8_hangs 111 = .ok (.iload 7, 2) := by decide +kernel
theorem dX8_hangs_113 : decode cX8_hangs 113 = .ok (.ishl, 1) := by decide +kernel
theorem dX8_hangs_114 : decode cX8_hangs 114 = .ok (.goto 4, 3) := by decide +kernel
theorem dX8_hangs_117 : decode cX8_hangs 117 = .ok (.iconst 0, 1) := by decide +kernel
theorem dX8_hangs_118 : decode cX8_hangs 118 = .ok (.ior, 1) := by decide +kernel
theorem dX8_hangs_119 : decode cX8_hangs 119 = .ok (.istore 5, 2) := by decide +kernel
theorem dX8_hangs_121 : decode cX8_hangs 121 = .ok (.iinc 7 1, 3) := by decide +kernel
theorem dX8_hangs_124 : decode cX8_hangs 124 = .ok (.goto (-68), 3) := by decide +kernel
theorem dX8_hangs_127 : decode cX8_hangs 127 = .ok (.iinc 6 1, 3) := by decide +kernel
theorem dX8_hangs_130 : decode cX8_hangs 130 = .ok (.goto (-84), 3) := by decide +kernel
theorem dX8_hangs_133 : decode cX8_hangs 133 = .ok (.iload 5, 2) := by decide +kernel
theorem dX8_hangs_135 : decode cX8_hangs 135 = .ok (.ireturn, 1) := by decide +kernel
def f_X8_hangs_b56 (n : Nat) (x1 : Int32) (x2 : Int32) (x3 : Int32) (q46 : Int32 → Int32 → Int32 → m_M → Option (Int32 × m_M)) : Nat → Int32 → Int32 → Int32 → Int32 → m_M → Option (Int32 × m_M)
  | 0, _, _, _, _, _ => none
  | u + 1, x4, x5, x6, x7, M =>
    if x4 ≤ ((1 : Int32) <<< (x7 &&& 31)) then
  q46 x4 x5 (x6 + 1) M
  else
  m_bd (x6 ^^^ ((1 : Int32) <<< (x7 &&& 31))) fun t2 =>
  m_gd (m_in x6 32) (
  m_gd (m_in t2 32) (
  if ((M.2 200 x6.toNatClampNeg) * (M.2 201 t2.toNatClampNeg)) = ((M.2 200 t2.toNatClampNeg) * (M.2 201 x6.toNatClampNeg)) then
  f_X8_hangs_b56 n x1 x2 x3 q46 u x4 (x5 ||| (0 : Int32)) x6 (x7 + 1) M
  else
  m_bd (x5 ||| ((1 : Int32) <<< (x7 &&& 31))) fun t6 =>
  f_X8_hangs_b56 n x1 x2 x3 q46 u x4 t6 x6 (x7 + 1) M))
def f_X8_hangs_b46 (n : Nat) (x1 : Int32) (x2 : Int32) (x3 : Int32) : Nat → Int32 → Int32 → Int32 → m_M → Option (Int32 × m_M)
  | 0, _, _, _, _ => none
  | u + 1, x4, x5, x6, M =>
    if x4 ≤ x6 then
  some (x5, M)
  else
  f_X8_hangs_b56 n x1 x2 x3 (f_X8_hangs_b46 n x1 x2 x3 u) n x4 x5 x6 0 M
def f_X8_hangs (n : Nat) (x1 : Int32) (x2 : Int32) (x3 : Int32) (M : m_M) : Option (Int32 × m_M) :=
  m_o2 (f_X8_isAsked n x1 x3 M) fun r8 M9 =>
  if r8 = 0 then
  some ((-2), M9)
  else
  m_bd (f_X8_isAsk x2) fun r12 =>
  if r12 = 0 then
  some ((-2), M9)
  else
  m_ob (f_X8_isEarly x1 x3 M9) fun r15 =>
  if r15 = 0 then
  m_o2 (f_X8_layWays n x1 x2 x3 M9) fun r18 M19 =>
  f_X8_hangs_b46 n x1 x2 x3 n r18 0 0 M19
  else
  some ((-3), M9)
set_option maxHeartbeats 4000000 in
set_option maxRecDepth 100000 in
theorem c_X8_hangs (l : Launch) (G : m_G) {n : Nat} {x1 : Int32} {x2 : Int32} {x3 : Int32} {M : m_M} {r0 : Int32} {M0 : m_M}  (hres : f_X8_hangs n x1 x2 x3 M = some (r0, M0)) : Met l yX8_hangs (m_U yX8_hangs cX8_hangs 9 (some .int)) (m_R 8 186) (m_Pc G [.ref (m_ad G 172), .int x1, .int x2, .int x3] M) (m_Qi G r0 M0) 0 0 (m_A G) := by
  refine m_i0 (n := 9) RX8 rfl (by decide) (Nat.le_of_ble_eq_true rfl) ?_
  intro p e s m args below meth c X hr hlk hSt hP hS ls hl
  have hl : lv_has ls 9 [(0, .ref (m_ad G 172)), (1, .int x1), (2, .int x2), (3, .int x3)] := hl
  have B56 : ∀ (q46 : Int32 → Int32 → Int32 → m_M → Option (Int32 × m_M)) (hq46 : ∀ (x4 : Int32) (x5 : Int32) (x6 : Int32) (M : m_M) (H : Heap) (locs : List Loc) (ls : Array Slot), m_P G M H → va_S (m_A G) s.heap H locs → lv_has ls 9 [(0, .ref (m_ad G 172)), (4, .int x4), (5, .int x5), (6, .int x6)] → q46 x4 x5 x6 M = some (r0, M0) → W p l e (m_R 8 186) s m args below meth c H locs 0 0 (MQ below (m_Qi G r0 M0) args s 0 0 (m_A G)) (F0 m 46 ls [])) (u : Nat) (x4 : Int32) (x5 : Int32) (x6 : Int32) (x7 : Int32) (M : m_M) (H : Heap) (locs : List Loc) (ls : Array Slot), m_P G M H → va_S (m_A G) s.heap H locs → lv_has ls 9 [(0, .ref (m_ad G 172)), (4, .int x4), (5, .int x5), (6, .int x6), (7, .int x7)] → f_X8_hangs_b56 n x1 x2 x3 q46 u x4 x5 x6 x7 M = some (r0, M0) → W p l e (m_R 8 186) s m args below meth c H locs 0 0 (MQ below (m_Qi G r0 M0) args s 0 0 (m_A G)) (F0 m 56 ls []) := by
    intro q46 hq46 u
    induction u with
    | zero =>
      intro x4 x5 x6 x7 M H locs ls hP hS hl hres
      cases hres
    | succ u ih =>
      intro x4 x5 x6 x7 M H locs ls hP hS hl hres
      rw [f_X8_hangs_b56] at hres
      refine lv_iconst (v := 1) X.1 X.2.1 dX8_hangs_56 (by decide) ?_
      refine lv_iload X.1 X.2.1 dX8_hangs_57 (lv_at hl 4 rfl) ?_
      refine lv_ishl X.1 X.2.1 dX8_hangs_59 ?_
      refine lv_iload X.1 X.2.1 dX8_hangs_60 (lv_at hl 1 rfl) ?_
      refine lv_icmp_ge (tgt := 127) X.1 X.2.1 dX8_hangs_62 (by decide) (fun hc1 => ?_) (fun hc1 => ?_)
      · have hres := m_it hres hc1
        refine lv_iinc (v := (x6 + 1)) (lv' := [(6, .int (x6 + 1)), (0, .ref (m_ad G 172)), (4, .int x4), (5, .int x5), (7, .int x7)]) X.1 X.2.1 dX8_hangs_127 hl (k := 3) rfl rfl (by decide) rfl (fun ls hl => ?_)
        refine lv_goto (tgt := 46) X.1 X.2.1 dX8_hangs_130 (by decide) ?_
        exact hq46 x4 x5 (x6 + 1) M _ _ _ hP hS (lv_sub hl [1, 2, 3, 0] rfl) hres
      · have hres := m_if hres hc1
        refine lv_iload X.1 X.2.1 dX8_hangs_65 (lv_at hl 3 rfl) ?_
        refine lv_iconst (v := 1) X.1 X.2.1 dX8_hangs_67 (by decide) ?_
        refine lv_iload X.1 X.2.1 dX8_hangs_68 (lv_at hl 4 rfl) ?_
        refine lv_ishl X.1 X.2.1 dX8_hangs_70 ?_
        refine lv_ixor X.1 X.2.1 dX8_hangs_71 ?_
        obtain ⟨t2, et2, hres⟩ := m_bd_e hres
        refine m_ti et2 ?_
        refine lv_istore (lv' := [(8, .int t2), (0, .ref (m_ad G 172)), (4, .int x4), (5, .int x5), (6, .int x6), (7, .int x7)]) X.1 X.2.1 dX8_hangs_72 hl (by decide) rfl (fun ls hl => ?_)
        refine lv_iload X.1 X.2.1 dX8_hangs_74 (lv_at hl 3 rfl) ?_
        refine lv_aload_n X.1 X.2.1 dX8_hangs_76 rfl (lv_at hl 1 rfl) ?_
        refine m_g8 (v := .ref (m_ad G 200)) X hSt hP m_z_172 52 (by decide) rfl k_f_X8_101 dX8_hangs_77 ?_
        refine lv_iload X.1 X.2.1 dX8_hangs_80 (lv_at hl 4 rfl) ?_
        obtain ⟨hg3, hres⟩ := m_gd_e hres
        refine m_la (j := x6.toNatClampNeg) X hSt hP m_z_200 hg3 rfl dX8_hangs_82 ?_
        refine lv_aload_n X.1 X.2.1 dX8_hangs_83 rfl (lv_at hl 1 rfl) ?_
        refine m_g8 (v := .ref (m_ad G 201)) X hSt hP m_z_172 53 (by decide) rfl k_f_X8_104 dX8_hangs_84 ?_
        refine lv_iload X.1 X.2.1 dX8_hangs_87 (lv_at hl 0 rfl) ?_
        obtain ⟨hg4, hres⟩ := m_gd_e hres
        refine m_la (j := t2.toNatClampNeg) X hSt hP m_z_201 hg4 rfl dX8_hangs_89 ?_
        refine lv_lmul X.1 X.2.1 dX8_hangs_90 ?_
        refine lv_aload_n X.1 X.2.1 dX8_hangs_91 rfl (lv_at hl 1 rfl) ?_
        refine m_g8 (v := .ref (m_ad G 200)) X hSt hP m_z_172 52 (by decide) rfl k_f_X8_101 dX8_hangs_92 ?_
        refine lv_iload X.1 X.2.1 dX8_hangs_95 (lv_at hl 0 rfl) ?_
        refine m_la (j := t2.toNatClampNeg) X hSt hP m_z_200 hg4 rfl dX8_hangs_97 ?_
        refine lv_aload_n X.1 X.2.1 dX8_hangs_98 rfl (lv_at hl 1 rfl) ?_
        refine m_g8 (v := .ref (m_ad G 201)) X hSt hP m_z_172 53 (by decide) rfl k_f_X8_104 dX8_hangs_99 ?_
        refine lv_iload X.1 X.2.1 dX8_hangs_102 (lv_at hl 4 rfl) ?_
        refine m_la (j := x6.toNatClampNeg) X hSt hP m_z_201 hg3 rfl dX8_hangs_104 ?_
        refine lv_lmul X.1 X.2.1 dX8_hangs_105 ?_
        refine m_leq (tgt := 117) X dX8_hangs_106 dX8_hangs_107 (by decide) (fun hc5 => ?_) (fun hc5 => ?_)
        · have hres := m_it hres hc5
          refine lv_iconst (v := 0) X.1 X.2.1 dX8_hangs_117 (by decide) ?_
          refine lv_ior X.1 X.2.1 dX8_hangs_118 ?_
          refine lv_istore (lv' := [(5, .int (x5 ||| (0 : Int32))), (8, .int t2), (0, .ref (m_ad G 172)), (4, .int x4), (6, .int x6), (7, .int x7)]) X.1 X.2.1 dX8_hangs_119 hl (by decide) rfl (fun ls hl => ?_)
          refine lv_iinc (v := (x7 + 1)) (lv' := [(7, .int (x7 + 1)), (5, .int (x5 ||| (0 : Int32))), (8, .int t2), (0, .ref (m_ad G 172)), (4, .int x4), (6, .int x6)]) X.1 X.2.1 dX8_hangs_121 hl (k := 5) rfl rfl (by decide) rfl (fun ls hl => ?_)
          refine lv_goto (tgt := 56) X.1 X.2.1 dX8_hangs_124 (by decide) ?_
          exact ih x4 (x5 ||| (0 : Int32)) x6 (x7 + 1) M _ _ _ hP hS (lv_sub hl [3, 4, 1, 5, 0] rfl) hres
        · have hres := m_if hres hc5
          refine lv_iconst (v := 1) X.1 X.2.1 dX8_hangs_110 (by decide) ?_
          refine lv_iload X.1 X.2.1 dX8_hangs_111 (lv_at hl 5 rfl) ?_
          refine lv_ishl X.1 X.2.1 dX8_hangs_113 ?_
          refine lv_goto (tgt := 118) X.1 X.2.1 dX8_hangs_114 (by decide) ?_
          refine lv_ior X.1 X.2.1 dX8_hangs_118 ?_
          obtain ⟨t6, et6, hres⟩ := m_bd_e hres
          refine m_ti et6 ?_
          refine lv_istore (lv' := [(5, .int t6), (8, .int t2), (0, .ref (m_ad G 172)), (4, .int x4), (6, .int x6), (7, .int x7)]) X.1 X.2.1 dX8_hangs_119 hl (by decide) rfl (fun ls hl => ?_)
          refine lv_iinc (v := (x7 + 1)) (lv' := [(7, .int (x7 + 1)), (5, .int t6), (8, .int t2), (0, .ref (m_ad G 172)), (4, .int x4), (6, .int x6)]) X.1 X.2.1 dX8_hangs_121 hl (k := 5) rfl rfl (by decide) rfl (fun ls hl => ?_)
          refine lv_goto (tgt := 56) X.1 X.2.1 dX8_hangs_124 (by decide) ?_
          exact ih x4 t6 x6 (x7 + 1) M _ _ _ hP hS (lv_sub hl [3, 4, 1, 5, 0] rfl) hres
  have B46 : ∀ (u : Nat) (x4 : Int32) (x5 : Int32) (x6 : Int32) (M : m_M) (H : Heap) (locs : List Loc) (ls : Array Slot), m_P G M H → va_S (m_A G) s.heap H locs → lv_has ls 9 [(0, .ref (m_ad G 172)), (4, .int x4), (5, .int x5), (6, .int x6)] → f_X8_hangs_b46 n x1 x2 x3 u x4 x5 x6 M = some (r0, M0) → W p l e (m_R 8 186) s m args below meth c H locs 0 0 (MQ below (m_Qi G r0 M0) args s 0 0 (m_A G)) (F0 m 46 ls []) := by
    intro u
    induction u with
    | zero =>
      intro x4 x5 x6 M H locs ls hP hS hl hres
      cases hres
    | succ u ih =>
      intro x4 x5 x6 M H locs ls hP hS hl hres
      rw [f_X8_hangs_b46] at hres
      refine lv_iload X.1 X.2.1 dX8_hangs_46 (lv_at hl 3 rfl) ?_
      refine lv_iload X.1 X.2.1 dX8_hangs_48 (lv_at hl 1 rfl) ?_
      refine lv_icmp_ge (tgt := 133) X.1 X.2.1 dX8_hangs_50 (by decide) (fun hc7 => ?_) (fun hc7 => ?_)
      · have hres := m_it hres hc7
        refine lv_iload X.1 X.2.1 dX8_hangs_133 (lv_at hl 2 rfl) ?_
        exact m_ri X hr hlk hP hS (Prod.mk.inj (Option.some.inj hres)).1 (Prod.mk.inj (Option.some.inj hres)).2 dX8_hangs_135
      · have hres := m_if hres hc7
        refine lv_iconst (v := 0) X.1 X.2.1 dX8_hangs_53 (by decide) ?_
        refine lv_istore (lv' := [(7, .int 0), (0, .ref (m_ad G 172)), (4, .int x4), (5, .int x5), (6, .int x6)]) X.1 X.2.1 dX8_hangs_54 hl (by decide) rfl (fun ls hl => ?_)
        exact B56 (f_X8_hangs_b46 n x1 x2 x3 u) ih n x4 x5 x6 0 M _ _ _ hP hS (lv_sub hl [1, 2, 3, 4, 0] rfl) hres
  unfold f_X8_hangs at hres
  refine lv_aload_n X.1 X.2.1 dX8_hangs_0 rfl (lv_at hl 0 rfl) ?_
  refine lv_iload_n X.1 X.2.1 dX8_hangs_1 rfl (lv_at hl 1 rfl) ?_
  refine lv_iload_n X.1 X.2.1 dX8_hangs_2 rfl (lv_at hl 3 rfl) ?_
  obtain ⟨r8, M9, err8, hres⟩ := m_o2_e hres
  refine m_bz (m_cV (n := 2) (As := [.int x1, .int x3]) (rest := []) X hSt hP hS hl.1 (c_X8_isAsked l G  err8) k_c_yX8_isAsked k_m_X8_355 k_i_yX8_isAsked k_s_yX8_isAsked k_n_X8 (by decide +kernel) (m_rc8 hSt hP m_z_172) rfl rfl ⟨Nat.le_of_ble_eq_true rfl, Nat.le_of_ble_eq_true rfl⟩ (Nat.le_of_ble_eq_true rfl) ⟨Nat.zero_le _, Nat.zero_le _⟩ dX8_hangs_3) hS (fun H locs hP hS hz10 => ?_)
  refine lv_if_eq (tgt := 16) X.1 X.2.1 dX8_hangs_6 (by decide) (fun hc11 => ?_) (fun hc11 => ?_)
  · have hres := m_it hres hc11
    refine lv_bipush (v := (-2)) X.1 X.2.1 dX8_hangs_16 (by decide) ?_
    exact m_ri X hr hlk hP hS (Prod.mk.inj (Option.some.inj hres)).1 (Prod.mk.inj (Option.some.inj hres)).2 dX8_hangs_18
  · have hres := m_if hres hc11
    refine lv_iload_n X.1 X.2.1 dX8_hangs_9 rfl (lv_at hl 2 rfl) ?_
    obtain ⟨r12, err12, hres⟩ := m_bd_e hres
    refine m_bz (m_cS (n := 1) (As := [.int x2]) (rest := []) X hSt hP hS hl.1 (c_X8_isAsk l G (M := M9)  err12) k_c_yX8_isAsk k_m_X8_389 k_t_yX8_isAsk k_n_X8 (by decide +kernel) rfl rfl ⟨Nat.le_of_ble_eq_true rfl, Nat.le_of_ble_eq_true rfl⟩ (Nat.le_of_ble_eq_true rfl) ⟨Nat.zero_le _, Nat.zero_le _⟩ dX8_hangs_10) hS (fun H locs hP hS hz13 => ?_)
    refine lv_if_ne (tgt := 19) X.1 X.2.1 dX8_hangs_13 (by decide) (fun hc14 => ?_) (fun hc14 => ?_)
    · have hres := m_if hres hc14
      refine lv_aload_n X.1 X.2.1 dX8_hangs_19 rfl (lv_at hl 0 rfl) ?_
      refine lv_iload_n X.1 X.2.1 dX8_hangs_20 rfl (lv_at hl 1 rfl) ?_
      refine lv_iload_n X.1 X.2.1 dX8_hangs_21 rfl (lv_at hl 3 rfl) ?_
      obtain ⟨r15, err15, hres⟩ := m_ob_e hres
      refine m_bz (m_cV (n := 2) (As := [.int x1, .int x3]) (rest := []) X hSt hP hS hl.1 (c_X8_isEarly l G  err15) k_c_yX8_isEarly k_m_X8_358 k_i_yX8_isEarly k_s_yX8_isEarly k_n_X8 (by decide +kernel) (m_rc8 hSt hP m_z_172) rfl rfl ⟨Nat.le_of_ble_eq_true rfl, Nat.le_of_ble_eq_true rfl⟩ (Nat.le_of_ble_eq_true rfl) ⟨Nat.zero_le _, Nat.zero_le _⟩ dX8_hangs_22) hS (fun H locs hP hS hz16 => ?_)
      refine lv_if_eq (tgt := 31) X.1 X.2.1 dX8_hangs_25 (by decide) (fun hc17 => ?_) (fun hc17 => ?_)
      · have hres := m_it hres hc17
        refine lv_aload_n X.1 X.2.1 dX8_hangs_31 rfl (lv_at hl 0 rfl) ?_
        refine lv_iload_n X.1 X.2.1 dX8_hangs_32 rfl (lv_at hl 1 rfl) ?_
        refine lv_iload_n X.1 X.2.1 dX8_hangs_33 rfl (lv_at hl 2 rfl) ?_
        refine lv_iload_n X.1 X.2.1 dX8_hangs_34 rfl (lv_at hl 3 rfl) ?_
        obtain ⟨r18, M19, err18, hres⟩ := m_o2_e hres
        refine m_bi (m_cV (n := 3) (As := [.int x1, .int x2, .int x3]) (rest := []) X hSt hP hS hl.1 (c_X8_layWays l G  err18) k_c_yX8_layWays k_m_X8_433 k_i_yX8_layWays k_s_yX8_layWays k_n_X8 (by decide +kernel) (m_rc8 hSt hP m_z_172) rfl rfl ⟨Nat.le_of_ble_eq_true rfl, Nat.le_of_ble_eq_true rfl⟩ (Nat.le_of_ble_eq_true rfl) ⟨Nat.zero_le _, Nat.zero_le _⟩ dX8_hangs_35) hS (fun H locs hP hS => ?_)
        refine lv_istore (lv' := [(4, .int r18), (0, .ref (m_ad G 172)), (1, .int x1), (2, .int x2), (3, .int x3)]) X.1 X.2.1 dX8_hangs_38 hl (by decide) rfl (fun ls hl => ?_)
        refine lv_iconst (v := 0) X.1 X.2.1 dX8_hangs_40 (by decide) ?_
        refine lv_istore (lv' := [(5, .int 0), (4, .int r18), (0, .ref (m_ad G 172)), (1, .int x1), (2, .int x2), (3, .int x3)]) X.1 X.2.1 dX8_hangs_41 hl (by decide) rfl (fun ls hl => ?_)
        refine lv_iconst (v := 0) X.1 X.2.1 dX8_hangs_43 (by decide) ?_
        refine lv_istore (lv' := [(6, .int 0), (5, .int 0), (4, .int r18), (0, .ref (m_ad G 172)), (1, .int x1), (2, .int x2), (3, .int x3)]) X.1 X.2.1 dX8_hangs_44 hl (by decide) rfl (fun ls hl => ?_)
        exact B46 n r18 0 0 M19 _ _ _ hP hS (lv_sub hl [3, 2, 1, 0] rfl) hres
      · have hres := m_if hres hc17
        refine lv_bipush (v := (-3)) X.1 X.2.1 dX8_hangs_28 (by decide) ?_
        exact m_ri X hr hlk hP hS (Prod.mk.inj (Option.some.inj hres)).1 (Prod.mk.inj (Option.some.inj hres)).2 dX8_hangs_30
    · have hres := m_it hres hc14
      refine lv_bipush (v := (-2)) X.1 X.2.1 dX8_hangs_16 (by decide) ?_
      exact m_ri X hr hlk hP hS (Prod.mk.inj (Option.some.inj hres)).1 (Prod.mk.inj (Option.some.inj hres)).2 dX8_hangs_18
theorem dX8_holder_0 : decode cX8_holder 0 = .ok (.aload_n 0, 1) := by decide +kernel
theorem dX8_holder_1 : decode cX8_holder 1 = .ok (.iload_n 1, 1) := by decide +kernel
theorem dX8_holder_2 : decode cX8_holder 2 = .ok (.invokevirtual 148, 3) := by decide +kernel
theorem dX8_holder_5 : decode cX8_holder 5 = .ok (.ifCond .eq 10, 3) := by decide +kernel
theorem dX8_holder_8 : decode cX8_holder 8 = .ok (.iload_n 2, 1) := by decide +kernel
theorem dX8_holder_9 : decode cX8_holder 9 = .ok (.invokestatic 347, 3) := by decide +kernel
theorem dX8_holder_12 : decode cX8_holder 12 = .ok (.ifCond .ne 6, 3) := by decide +kernel
theorem dX8_holder_15 : decode cX8_holder 15 = .ok (.bipush (-10), 2) := by decide +kernel
theorem dX8_holder_17 : decode cX8_holder 17 = .ok (.ireturn, 1) := by decide +kernel
theorem dX8_holder_18 : decode cX8_holder 18 = .ok (.aload_n 0, 1) := by decide +kernel
theorem dX8_holder_19 : decode cX8_holder 19 = .ok (.iload_n 2, 1) := by decide +kernel
theorem dX8_holder_20 : decode cX8_holder 20 = .ok (.invokevirtual 350, 3) := by decide +kernel
theorem dX8_holder_23 : decode cX8_holder 23 = .ok (.aload_n 0, 1) := by decide +kernel
theorem dX8_holder_24 : decode cX8_holder 24 = .ok (.getfield 27, 3) := by decide +kernel
theorem dX8_holder_27 : decode cX8_holder 27 = .ok (.iload_n 1, 1) := by decide +kernel
theorem dX8_holder_28 : decode cX8_holder 28 = .ok (.iaload, 1) := by decide +kernel
theorem dX8_holder_29 : decode cX8_holder 29 = .ok (.ireturn, 1) := by decide +kernel
def f_X8_holder (n : Nat) (x1 : Int32) (x2 : Int32) (M : m_M) : Option (Int32 × m_M) :=
  m_bd (f_X8_isPerson x1 M) fun r1 =>
  if r1 = 0 then
  some ((-10), M)
  else
  m_bd (f_X8_isDay x2) fun r4 =>
  if r4 = 0 then
  some ((-10), M)
  else
  m_ob (f_X8_layToday n x2 M) fun M7 =>
  m_gd (m_in x1 10) (
  some ((M7.1 177 x1.toNatClampNeg), M7))
set_option maxHeartbeats 4000000 in
set_option maxRecDepth 100000 in
theorem c_X8_holder (l : Launch) (G : m_G) {n : Nat} {x1 : Int32} {x2 : Int32} {M : m_M} {r0 : Int32} {M0 : m_M}  (hres : f_X8_holder n x1 x2 M = some (r0, M0)) : Met l yX8_holder (m_U yX8_holder cX8_holder 3 (some .int)) (m_R 8 182) (m_Pc G [.ref (m_ad G 172), .int x1, .int x2] M) (m_Qi G r0 M0) 0 0 (m_A G) := by
  refine m_i0 (n := 3) RX8 rfl (by decide) (Nat.le_of_ble_eq_true rfl) ?_
  intro p e s m args below meth c X hr hlk hSt hP hS ls hl
  have hl : lv_has ls 3 [(0, .ref (m_ad G 172)), (1, .int x1), (2, .int x2)] := hl
  unfold f_X8_holder at hres
  refine lv_aload_n X.1 X.2.1 dX8_holder_0 rfl (lv_at hl 0 rfl) ?_
  refine lv_iload_n X.1 X.2.1 dX8_holder_1 rfl (lv_at hl 1 rfl) ?_
  obtain ⟨r1, err1, hres⟩ := m_bd_e hres
  refine m_bz (m_cV (n := 1) (As := [.int x1]) (rest := []) X hSt hP hS hl.1 (c_X8_isPerson l G  err1) k_c_yX8_isPerson k_m_X8_148 k_i_yX8_isPerson k_s_yX8_isPerson k_n_X8 (by decide +kernel) (m_rc8 hSt hP m_z_172) rfl rfl ⟨Nat.le_of_ble_eq_true rfl, Nat.le_of_ble_eq_true rfl⟩ (Nat.le_of_ble_eq_true rfl) ⟨Nat.zero_le _, Nat.zero_le _⟩ dX8_holder_2) hS (fun H locs hP hS hz2 => ?_)
  refine lv_if_eq (tgt := 15) X.1 X.2.1 dX8_holder_5 (by decide) (fun hc3 => ?_) (fun hc3 => ?_)
  · have hres := m_it hres hc3
    refine lv_bipush (v := (-10)) X.1 X.2.1 dX8_holder_15 (by decide) ?_
    exact m_ri X hr hlk hP hS (Prod.mk.inj (Option.some.inj hres)).1 (Prod.mk.inj (Option.some.inj hres)).2 dX8_holder_17
  · have hres := m_if hres hc3
    refine lv_iload_n X.1 X.2.1 dX8_holder_8 rfl (lv_at hl 2 rfl) ?_
    obtain ⟨r4, err4, hres⟩ := m_bd_e hres
    refine m_bz (m_cS (n := 1) (As := [.int x2]) (rest := []) X hSt hP hS hl.1 (c_X8_isDay l G (M := M)  err4) k_c_yX8_isDay k_m_X8_347 k_t_yX8_isDay k_n_X8 (by decide +kernel) rfl rfl ⟨Nat.le_of_ble_eq_true rfl, Nat.le_of_ble_eq_true rfl⟩ (Nat.le_of_ble_eq_true rfl) ⟨Nat.zero_le _, Nat.zero_le _⟩ dX8_holder_9) hS (fun H locs hP hS hz5 => ?_)
    refine lv_if_ne (tgt := 18) X.1 X.2.1 dX8_holder_12 (by decide) (fun hc6 => ?_) (fun hc6 => ?_)
    · have hres := m_if hres hc6
      refine lv_aload_n X.1 X.2.1 dX8_holder_18 rfl (lv_at hl 0 rfl) ?_
      refine lv_iload_n X.1 X.2.1 dX8_holder_19 rfl (lv_at hl 2 rfl) ?_
      obtain ⟨M7, eM7, hres⟩ := m_ob_e hres
      refine m_bv (m_cV (n := 1) (As := [.int x2]) (rest := []) X hSt hP hS hl.1 (c_X8_layToday l G  eM7) k_c_yX8_layToday k_m_X8_350 k_i_yX8_layToday k_s_yX8_layToday k_n_X8 (by decide +kernel) (m_rc8 hSt hP m_z_172) rfl rfl ⟨Nat.le_of_ble_eq_true rfl, Nat.le_of_ble_eq_true rfl⟩ (Nat.le_of_ble_eq_true rfl) ⟨Nat.zero_le _, Nat.zero_le _⟩ dX8_holder_20) hS (fun H locs hP hS => ?_)
      refine lv_aload_n X.1 X.2.1 dX8_holder_23 rfl (lv_at hl 0 rfl) ?_
      refine m_g8 (v := .ref (m_ad G 177)) X hSt hP m_z_172 7 (by decide) rfl k_f_X8_27 dX8_holder_24 ?_
      refine lv_iload_n X.1 X.2.1 dX8_holder_27 rfl (lv_at hl 1 rfl) ?_
      obtain ⟨hg8, hres⟩ := m_gd_e hres
      refine m_ia (j := x1.toNatClampNeg) X hSt hP m_z_177 hg8 rfl dX8_holder_28 ?_
      exact m_ri X hr hlk hP hS (Prod.mk.inj (Option.some.inj hres)).1 (Prod.mk.inj (Option.some.inj hres)).2 dX8_holder_29
    · have hres := m_it hres hc6
      refine lv_bipush (v := (-10)) X.1 X.2.1 dX8_holder_15 (by decide) ?_
      exact m_ri X hr hlk hP hS (Prod.mk.inj (Option.some.inj hres)).1 (Prod.mk.inj (Option.some.inj hres)).2 dX8_holder_17
