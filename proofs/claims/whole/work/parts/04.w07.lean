/-! WALKS 7: X2_sign X2_second X2_next X2_flawOfAll X7_read X6_sharedParts X6_fromPurse X6_sharersOwed X6_shareAbove X6_isBetterOtherwise X6_isRest X7_rests X7_served X7_sure X7_told X2_add -/
theorem dX2_sign_0 : decode cX2_sign 0 = .ok (.aload_n 0, 1) := by decide +kernel
theorem dX2_sign_1 : decode cX2_sign 1 = .ok (.invokevirtual 32, 3) := by decide +kernel
theorem dX2_sign_4 : decode cX2_sign 4 = .ok (.aload_n 0, 1) := by decide +kernel
theorem dX2_sign_5 : decode cX2_sign 5 = .ok (.getfield 22, 3) := by decide +kernel
theorem dX2_sign_8 : decode cX2_sign 8 = .ok (.aload_n 0, 1) := by decide +kernel
theorem dX2_sign_9 : decode cX2_sign 9 = .ok (.getfield 19, 3) := by decide +kernel
theorem dX2_sign_12 : decode cX2_sign 12 = .ok (.if_icmp .ge 29, 3) := by decide +kernel
theorem dX2_sign_15 : decode cX2_sign 15 = .ok (.aload_n 0, 1) := by decide +kernel
theorem dX2_sign_16 : decode cX2_sign 16 = .ok (.getfield 9, 3) := by decide +kernel
theorem dX2_sign_19 : decode cX2_sign 19 = .ok (.aload_n 0, 1) := by decide +kernel
theorem dX2_sign_20 : decode cX2_sign 20 = .ok (.getfield 22, 3) := by decide +kernel
theorem dX2_sign_23 : decode cX2_sign 23 = .ok (.iaload, 1) := by decide +kernel
theorem dX2_sign_24 : decode cX2_sign 24 = .ok (.iload_n 1, 1) := by decide +kernel
theorem dX2_sign_25 : decode cX2_sign 25 = .ok (.if_icmp .ne 16, 3) := by decide +kernel
theorem dX2_sign_28 : decode cX2_sign 28 = .ok (.aload_n 0, 1) := by decide +kernel
theorem dX2_sign_29 : decode cX2_sign 29 = .ok (.dup, 1) := by decide +kernel
theorem dX2_sign_30 : decode cX2_sign 30 = .ok (.getfield 22, 3) := by decide +kernel
theorem dX2_sign_33 : decode cX2_sign 33 = .ok (.iconst 1, 1) := by decide +kernel
theorem dX2_sign_34 : decode cX2_sign 34 = .ok (.iadd, 1) := by decide +kernel
theorem dX2_sign_35 : decode cX2_sign 35 = .ok (.putfield 22, 3) := by decide +kernel
theorem dX2_sign_38 : decode cX2_sign 38 = .ok (.goto 11, 3) := by decide +kernel
theorem dX2_sign_41 : decode cX2_sign 41 = .ok (.aload_n 0, 1) := by decide +kernel
theorem dX2_sign_42 : decode cX2_sign 42 = .ok (.aload_n 0, 1) := by decide +kernel
theorem dX2_sign_43 : decode cX2_sign 43 = .ok (.getfield 22, 3) := by decide +kernel
theorem dX2_sign_46 : decode cX2_sign 46 = .ok (.invokevirtual 75, 3) := by decide +kernel
theorem dX2_sign_49 : decode cX2_sign 49 = .ok (.return_, 1) := by decide +kernel
def f_X2_sign (n : Nat) (x1 : Int32) (M : m_M) : Option m_M :=
  m_ob (f_X2_skipBlanks n M) fun M1 =>
  if (M1.1 168 1) ≤ (M1.1 168 2) then
  m_bd (f_X2_blame (M1.1 168 2) M1) fun M3 =>
  some M3
  else
  m_gd (m_in (M1.1 168 2) 300) (
  if (M1.1 169 ((M1.1 168 2).toNatClampNeg)) = x1 then
  m_bd (m_sI M1 168 2 ((M1.1 168 2) + (1 : Int32))) fun M7 =>
  some M7
  else
  m_bd (f_X2_blame (M1.1 168 2) M1) fun M6 =>
  some M6)
set_option maxHeartbeats 4000000 in
set_option maxRecDepth 100000 in
theorem c_X2_sign (l : Launch) (G : m_G) {n : Nat} {x1 : Int32} {M : m_M} {M0 : m_M}  (hres : f_X2_sign n x1 M = some M0) : Met l yX2_sign (m_U yX2_sign cX2_sign 2 none) (m_R 1 21) (m_Pc G [.ref (m_ad G 168), .int x1] M) (m_Qv G M0) 0 0 (m_A G) := by
  refine m_i0 (n := 2) RX2 rfl (by decide) (Nat.le_of_ble_eq_true rfl) ?_
  intro p e s m args below meth c X hr hlk hSt hP hS ls hl
  have hl : lv_has ls 2 [(0, .ref (m_ad G 168)), (1, .int x1)] := hl
  unfold f_X2_sign at hres
  refine lv_aload_n X.1 X.2.1 dX2_sign_0 rfl (lv_at hl 0 rfl) ?_
  obtain ⟨M1, eM1, hres⟩ := m_ob_e hres
  refine m_bv (m_cV (n := 0) (As := []) (rest := []) X hSt hP hS hl.1 (c_X2_skipBlanks l G  eM1) k_c_yX2_skipBlanks k_m_X2_32 k_i_yX2_skipBlanks k_s_yX2_skipBlanks k_n_X2 (by decide +kernel) (m_rc2 hSt hP m_z_168) rfl rfl ⟨Nat.le_of_ble_eq_true rfl, Nat.le_of_ble_eq_true rfl⟩ (Nat.le_of_ble_eq_true rfl) ⟨Nat.zero_le _, Nat.zero_le _⟩ dX2_sign_1) hS (fun H locs hP hS => ?_)
  refine lv_aload_n X.1 X.2.1 dX2_sign_4 rfl (lv_at hl 0 rfl) ?_
  refine m_g2 (v := .int (M1.1 168 2)) X hSt hP m_z_168 2 (by decide) rfl k_f_X2_22 dX2_sign_5 ?_
  refine lv_aload_n X.1 X.2.1 dX2_sign_8 rfl (lv_at hl 0 rfl) ?_
  refine m_g2 (v := .int (M1.1 168 1)) X hSt hP m_z_168 1 (by decide) rfl k_f_X2_19 dX2_sign_9 ?_
  refine lv_icmp_ge (tgt := 41) X.1 X.2.1 dX2_sign_12 (by decide) (fun hc2 => ?_) (fun hc2 => ?_)
  · have hres := m_it hres hc2
    refine lv_aload_n X.1 X.2.1 dX2_sign_41 rfl (lv_at hl 0 rfl) ?_
    refine lv_aload_n X.1 X.2.1 dX2_sign_42 rfl (lv_at hl 0 rfl) ?_
    refine m_g2 (v := .int (M1.1 168 2)) X hSt hP m_z_168 2 (by decide) rfl k_f_X2_22 dX2_sign_43 ?_
    obtain ⟨M3, eM3, hres⟩ := m_bd_e hres
    refine m_bv (m_cV (n := 1) (As := [.int (M1.1 168 2)]) (rest := []) X hSt hP hS hl.1 (c_X2_blame l G  eM3) k_c_yX2_blame k_m_X2_75 k_i_yX2_blame k_s_yX2_blame k_n_X2 (by decide +kernel) (m_rc2 hSt hP m_z_168) rfl rfl ⟨Nat.le_of_ble_eq_true rfl, Nat.le_of_ble_eq_true rfl⟩ (Nat.le_of_ble_eq_true rfl) ⟨Nat.zero_le _, Nat.zero_le _⟩ dX2_sign_46) hS (fun H locs hP hS => ?_)
    exact m_rv X hr hlk hP hS (Option.some.inj hres) dX2_sign_49
  · have hres := m_if hres hc2
    refine lv_aload_n X.1 X.2.1 dX2_sign_15 rfl (lv_at hl 0 rfl) ?_
    refine m_g2 (v := .ref (m_ad G 169)) X hSt hP m_z_168 0 (by decide) rfl k_f_X2_9 dX2_sign_16 ?_
    refine lv_aload_n X.1 X.2.1 dX2_sign_19 rfl (lv_at hl 0 rfl) ?_
    refine m_g2 (v := .int (M1.1 168 2)) X hSt hP m_z_168 2 (by decide) rfl k_f_X2_22 dX2_sign_20 ?_
    obtain ⟨hg4, hres⟩ := m_gd_e hres
    refine m_ia (j := ((M1.1 168 2).toNatClampNeg)) X hSt hP m_z_169 hg4 rfl dX2_sign_23 ?_
    refine lv_iload_n X.1 X.2.1 dX2_sign_24 rfl (lv_at hl 1 rfl) ?_
    refine lv_icmp_ne (tgt := 41) X.1 X.2.1 dX2_sign_25 (by decide) (fun hc5 => ?_) (fun hc5 => ?_)
    · have hres := m_if hres hc5
      refine lv_aload_n X.1 X.2.1 dX2_sign_41 rfl (lv_at hl 0 rfl) ?_
      refine lv_aload_n X.1 X.2.1 dX2_sign_42 rfl (lv_at hl 0 rfl) ?_
      refine m_g2 (v := .int (M1.1 168 2)) X hSt hP m_z_168 2 (by decide) rfl k_f_X2_22 dX2_sign_43 ?_
      obtain ⟨M6, eM6, hres⟩ := m_bd_e hres
      refine m_bv (m_cV (n := 1) (As := [.int (M1.1 168 2)]) (rest := []) X hSt hP hS hl.1 (c_X2_blame l G  eM6) k_c_yX2_blame k_m_X2_75 k_i_yX2_blame k_s_yX2_blame k_n_X2 (by decide +kernel) (m_rc2 hSt hP m_z_168) rfl rfl ⟨Nat.le_of_ble_eq_true rfl, Nat.le_of_ble_eq_true rfl⟩ (Nat.le_of_ble_eq_true rfl) ⟨Nat.zero_le _, Nat.zero_le _⟩ dX2_sign_46) hS (fun H locs hP hS => ?_)
      exact m_rv X hr hlk hP hS (Option.some.inj hres) dX2_sign_49
    · have hres := m_it hres hc5
      refine lv_aload_n X.1 X.2.1 dX2_sign_28 rfl (lv_at hl 0 rfl) ?_
      refine lv_dup X.1 X.2.1 dX2_sign_29 rfl ?_
      refine m_g2 (v := .int (M1.1 168 2)) X hSt hP m_z_168 2 (by decide) rfl k_f_X2_22 dX2_sign_30 ?_
      refine lv_iconst (v := 1) X.1 X.2.1 dX2_sign_33 (by decide) ?_
      refine lv_iadd X.1 X.2.1 dX2_sign_34 ?_
      obtain ⟨M7, eM7, hres⟩ := m_bd_e hres
      refine m_pi2 X hSt hP hS m_z_168 2 (by decide) eM7 rfl rfl (by decide) k_f_X2_22 dX2_sign_35 (fun H locs hP hS => ?_)
      refine lv_goto (tgt := 49) X.1 X.2.1 dX2_sign_38 (by decide) ?_
      exact m_rv X hr hlk hP hS (Option.some.inj hres) dX2_sign_49
theorem dX2_second_0 : decode cX2_second 0 = .ok (.aload_n 0, 1) := by decide +kernel
theorem dX2_second_1 : decode cX2_second 1 = .ok (.invokevirtual 32, 3) := by decide +kernel
theorem dX2_second_4 : decode cX2_second 4 = .ok (.iload_n 1, 1) := by decide +kernel
theorem dX2_second_5 : decode cX2_second 5 = .ok (.bipush 104, 2) := by decide +kernel
theorem dX2_second_7 : decode cX2_second 7 = .ok (.if_icmp .ne 28, 3) := by decide +kernel
theorem dX2_second_10 : decode cX2_second 10 = .ok (.aload_n 0, 1) := by decide +kernel
theorem dX2_second_11 : decode cX2_second 11 = .ok (.getfield 22, 3) := by decide +kernel
theorem dX2_second_14 : decode cX2_second 14 = .ok (.aload_n 0, 1) := by decide +kernel
theorem dX2_second_15 : decode cX2_second 15 = .ok (.getfield 19, 3) := by decide +kernel
theorem dX2_second_18 : decode cX2_second 18 = .ok (.if_icmp .ge 17, 3) := by decide +kernel
theorem dX2_second_21 : decode cX2_second 21 = .ok (.aload_n 0, 1) := by decide +kernel
theorem dX2_second_22 : decode cX2_second 22 = .ok (.getfield 9, 3) := by decide +kernel
theorem dX2_second_25 : decode cX2_second 25 = .ok (.aload_n 0, 1) := by decide +kernel
theorem dX2_second_26 : decode cX2_second 26 = .ok (.getfield 22, 3) := by decide +kernel
theorem dX2_second_29 : decode cX2_second 29 = .ok (.iaload, 1) := by decide +kernel
theorem dX2_second_30 : decode cX2_second 30 = .ok (.bipush 45, 2) := by decide +kernel
theorem dX2_second_32 : decode cX2_second 32 = .ok (.if_icmp .eq 8, 3) := by decide +kernel
theorem dX2_second_35 : decode cX2_second 35 = .ok (.aload_n 0, 1) := by decide +kernel
theorem dX2_second_36 : decode cX2_second 36 = .ok (.invokevirtual 35, 3) := by decide +kernel
theorem dX2_second_39 : decode cX2_second 39 = .ok (.ireturn, 1) := by decide +kernel
theorem dX2_second_40 : decode cX2_second 40 = .ok (.aload_n 0, 1) := by decide +kernel
theorem dX2_second_41 : decode cX2_second 41 = .ok (.bipush 45, 2) := by decide +kernel
theorem dX2_second_43 : decode cX2_second 43 = .ok (.invokevirtual 71, 3) := by decide +kernel
theorem dX2_second_46 : decode cX2_second 46 = .ok (.iconst (-1), 1) := by decide +kernel
theorem dX2_second_47 : decode cX2_second 47 = .ok (.ireturn, 1) := by decide +kernel
def f_X2_second (n : Nat) (x1 : Int32) (M : m_M) : Option (Int32 × m_M) :=
  m_ob (f_X2_skipBlanks n M) fun M1 =>
  if x1 = 104 then
  if (M1.1 168 1) ≤ (M1.1 168 2) then
  m_o2 (f_X2_number n M1) fun r6 M7 =>
  some (r6, M7)
  else
  m_gd (m_in (M1.1 168 2) 300) (
  if (M1.1 169 ((M1.1 168 2).toNatClampNeg)) = 45 then
  m_ob (f_X2_sign n 45 M1) fun M10 =>
  some ((-1), M10)
  else
  m_o2 (f_X2_number n M1) fun r11 M12 =>
  some (r11, M12))
  else
  m_o2 (f_X2_number n M1) fun r3 M4 =>
  some (r3, M4)
set_option maxHeartbeats 4000000 in
set_option maxRecDepth 100000 in
theorem c_X2_second (l : Launch) (G : m_G) {n : Nat} {x1 : Int32} {M : m_M} {r0 : Int32} {M0 : m_M}  (hres : f_X2_second n x1 M = some (r0, M0)) : Met l yX2_second (m_U yX2_second cX2_second 2 (some .int)) (m_R 2 43) (m_Pc G [.ref (m_ad G 168), .int x1] M) (m_Qi G r0 M0) 0 0 (m_A G) := by
  refine m_i0 (n := 2) RX2 rfl (by decide) (Nat.le_of_ble_eq_true rfl) ?_
  intro p e s m args below meth c X hr hlk hSt hP hS ls hl
  have hl : lv_has ls 2 [(0, .ref (m_ad G 168)), (1, .int x1)] := hl
  unfold f_X2_second at hres
  refine lv_aload_n X.1 X.2.1 dX2_second_0 rfl (lv_at hl 0 rfl) ?_
  obtain ⟨M1, eM1, hres⟩ := m_ob_e hres
  refine m_bv (m_cV (n := 0) (As := []) (rest := []) X hSt hP hS hl.1 (c_X2_skipBlanks l G  eM1) k_c_yX2_skipBlanks k_m_X2_32 k_i_yX2_skipBlanks k_s_yX2_skipBlanks k_n_X2 (by decide +kernel) (m_rc2 hSt hP m_z_168) rfl rfl ⟨Nat.le_of_ble_eq_true rfl, Nat.le_of_ble_eq_true rfl⟩ (Nat.le_of_ble_eq_true rfl) ⟨Nat.zero_le _, Nat.zero_le _⟩ dX2_second_1) hS (fun H locs hP hS => ?_)
  refine lv_iload_n X.1 X.2.1 dX2_second_4 rfl (lv_at hl 1 rfl) ?_
  refine lv_bipush (v := 104) X.1 X.2.1 dX2_second_5 (by decide) ?_
  refine lv_icmp_ne (tgt := 35) X.1 X.2.1 dX2_second_7 (by decide) (fun hc2 => ?_) (fun hc2 => ?_)
  · have hres := m_if hres hc2
    refine lv_aload_n X.1 X.2.1 dX2_second_35 rfl (lv_at hl 0 rfl) ?_
    obtain ⟨r3, M4, err3, hres⟩ := m_o2_e hres
    refine m_bi (m_cV (n := 0) (As := []) (rest := []) X hSt hP hS hl.1 (c_X2_number l G  err3) k_c_yX2_number k_m_X2_35 k_i_yX2_number k_s_yX2_number k_n_X2 (by decide +kernel) (m_rc2 hSt hP m_z_168) rfl rfl ⟨Nat.le_of_ble_eq_true rfl, Nat.le_of_ble_eq_true rfl⟩ (Nat.le_of_ble_eq_true rfl) ⟨Nat.zero_le _, Nat.zero_le _⟩ dX2_second_36) hS (fun H locs hP hS => ?_)
    exact m_ri X hr hlk hP hS (Prod.mk.inj (Option.some.inj hres)).1 (Prod.mk.inj (Option.some.inj hres)).2 dX2_second_39
  · have hres := m_it hres hc2
    refine lv_aload_n X.1 X.2.1 dX2_second_10 rfl (lv_at hl 0 rfl) ?_
    refine m_g2 (v := .int (M1.1 168 2)) X hSt hP m_z_168 2 (by decide) rfl k_f_X2_22 dX2_second_11 ?_
    refine lv_aload_n X.1 X.2.1 dX2_second_14 rfl (lv_at hl 0 rfl) ?_
    refine m_g2 (v := .int (M1.1 168 1)) X hSt hP m_z_168 1 (by decide) rfl k_f_X2_19 dX2_second_15 ?_
    refine lv_icmp_ge (tgt := 35) X.1 X.2.1 dX2_second_18 (by decide) (fun hc5 => ?_) (fun hc5 => ?_)
    · have hres := m_it hres hc5
      refine lv_aload_n X.1 X.2.1 dX2_second_35 rfl (lv_at hl 0 rfl) ?_
      obtain ⟨r6, M7, err6, hres⟩ := m_o2_e hres
      refine m_bi (m_cV (n := 0) (As := []) (rest := []) X hSt hP hS hl.1 (c_X2_number l G  err6) k_c_yX2_number k_m_X2_35 k_i_yX2_number k_s_yX2_number k_n_X2 (by decide +kernel) (m_rc2 hSt hP m_z_168) rfl rfl ⟨Nat.le_of_ble_eq_true rfl, Nat.le_of_ble_eq_true rfl⟩ (Nat.le_of_ble_eq_true rfl) ⟨Nat.zero_le _, Nat.zero_le _⟩ dX2_second_36) hS (fun H locs hP hS => ?_)
      exact m_ri X hr hlk hP hS (Prod.mk.inj (Option.some.inj hres)).1 (Prod.mk.inj (Option.some.inj hres)).2 dX2_second_39
    · have hres := m_if hres hc5
      refine lv_aload_n X.1 X.2.1 dX2_second_21 rfl (lv_at hl 0 rfl) ?_
      refine m_g2 (v := .ref (m_ad G 169)) X hSt hP m_z_168 0 (by decide) rfl k_f_X2_9 dX2_second_22 ?_
      refine lv_aload_n X.1 X.2.1 dX2_second_25 rfl (lv_at hl 0 rfl) ?_
      refine m_g2 (v := .int (M1.1 168 2)) X hSt hP m_z_168 2 (by decide) rfl k_f_X2_22 dX2_second_26 ?_
      obtain ⟨hg8, hres⟩ := m_gd_e hres
      refine m_ia (j := ((M1.1 168 2).toNatClampNeg)) X hSt hP m_z_169 hg8 rfl dX2_second_29 ?_
      refine lv_bipush (v := 45) X.1 X.2.1 dX2_second_30 (by decide) ?_
      refine lv_icmp_eq (tgt := 40) X.1 X.2.1 dX2_second_32 (by decide) (fun hc9 => ?_) (fun hc9 => ?_)
      · have hres := m_it hres hc9
        refine lv_aload_n X.1 X.2.1 dX2_second_40 rfl (lv_at hl 0 rfl) ?_
        refine lv_bipush (v := 45) X.1 X.2.1 dX2_second_41 (by decide) ?_
        obtain ⟨M10, eM10, hres⟩ := m_ob_e hres
        refine m_bv (m_cV (n := 1) (As := [.int 45]) (rest := []) X hSt hP hS hl.1 (c_X2_sign l G  eM10) k_c_yX2_sign k_m_X2_71 k_i_yX2_sign k_s_yX2_sign k_n_X2 (by decide +kernel) (m_rc2 hSt hP m_z_168) rfl rfl ⟨Nat.le_of_ble_eq_true rfl, Nat.le_of_ble_eq_true rfl⟩ (Nat.le_of_ble_eq_true rfl) ⟨Nat.zero_le _, Nat.zero_le _⟩ dX2_second_43) hS (fun H locs hP hS => ?_)
        refine lv_iconst (v := (-1)) X.1 X.2.1 dX2_second_46 (by decide) ?_
        exact m_ri X hr hlk hP hS (Prod.mk.inj (Option.some.inj hres)).1 (Prod.mk.inj (Option.some.inj hres)).2 dX2_second_47
      · have hres := m_if hres hc9
        refine lv_aload_n X.1 X.2.1 dX2_second_35 rfl (lv_at hl 0 rfl) ?_
        obtain ⟨r11, M12, err11, hres⟩ := m_o2_e hres
        refine m_bi (m_cV (n := 0) (As := []) (rest := []) X hSt hP hS hl.1 (c_X2_number l G  err11) k_c_yX2_number k_m_X2_35 k_i_yX2_number k_s_yX2_number k_n_X2 (by decide +kernel) (m_rc2 hSt hP m_z_168) rfl rfl ⟨Nat.le_of_ble_eq_true rfl, Nat.le_of_ble_eq_true rfl⟩ (Nat.le_of_ble_eq_true rfl) ⟨Nat.zero_le _, Nat.zero_le _⟩ dX2_second_36) hS (fun H locs hP hS => ?_)
        exact m_ri X hr hlk hP hS (Prod.mk.inj (Option.some.inj hres)).1 (Prod.mk.inj (Option.some.inj hres)).2 dX2_second_39
theorem dX2_next_0 : decode cX2_next 0 = .ok (.aload_n 0, 1) := by decide +kernel
theorem dX2_next_1 : decode cX2_next 1 = .ok (.invokevirtual 32, 3) := by decide +kernel
theorem dX2_next_4 : decode cX2_next 4 = .ok (.aload_n 0, 1) := by decide +kernel
theorem dX2_next_5 : decode cX2_next 5 = .ok (.getfield 22, 3) := by decide +kernel
theorem dX2_next_8 : decode cX2_next 8 = .ok (.aload_n 0, 1) := by decide +kernel
theorem dX2_next_9 : decode cX2_next 9 = .ok (.getfield 19, 3) := by decide +kernel
theorem dX2_next_12 : decode cX2_next 12 = .ok (.if_icmp .lt 5, 3) := by decide +kernel
theorem dX2_next_15 : decode cX2_next 15 = .ok (.iconst 0, 1) := by decide +kernel
theorem dX2_next_16 : decode cX2_next 16 = .ok (.ireturn, 1) := by decide +kernel
theorem dX2_next_17 : decode cX2_next 17 = .ok (.aload_n 0, 1) := by decide +kernel
theorem dX2_next_18 : decode cX2_next 18 = .ok (.aload_n 0, 1) := by decide +kernel
theorem dX2_next_19 : decode cX2_next 19 = .ok (.invokevirtual 35, 3) := by decide +kernel
theorem dX2_next_22 : decode cX2_next 22 = .ok (.putfield 39, 3) := by decide +kernel
theorem dX2_next_25 : decode cX2_next 25 = .ok (.aload_n 0, 1) := by decide +kernel
theorem dX2_next_26 : decode cX2_next 26 = .ok (.aload_n 0, 1) := by decide +kernel
theorem dX2_next_27 : decode cX2_next 27 = .ok (.invokevirtual 42, 3) := by decide +kernel
theorem dX2_next_30 : decode cX2_next 30 = .ok (.putfield 45, 3) := by decide +kernel
theorem dX2_next_33 : decode cX2_next 33 = .ok (.aload_n 0, 1) := by decide +kernel
theorem dX2_next_34 : decode cX2_next 34 = .ok (.getfield 45, 3) := by decide +kernel
theorem dX2_next_37 : decode cX2_next 37 = .ok (.iconst (-1), 1) := by decide +kernel
theorem dX2_next_38 : decode cX2_next 38 = .ok (.if_icmp .ne 5, 3) := by decide +kernel
theorem dX2_next_41 : decode cX2_next 41 = .ok (.iconst 0, 1) := by decide +kernel
theorem dX2_next_42 : decode cX2_next 42 = .ok (.ireturn, 1) := by decide +kernel
theorem dX2_next_43 : decode cX2_next 43 = .ok (.aload_n 0, 1) := by decide +kernel
theorem dX2_next_44 : decode cX2_next 44 = .ok (.aload_n 0, 1) := by decide +kernel
theorem dX2_next_45 : decode cX2_next 45 = .ok (.invokevirtual 35, 3) := by decide +kernel
theorem dX2_next_48 : decode cX2_next 48 = .ok (.putfield 48, 3) := by decide +kernel
theorem dX2_next_51 : decode cX2_next 51 = .ok (.aload_n 0, 1) := by decide +kernel
theorem dX2_next_52 : decode cX2_next 52 = .ok (.ldc 51, 2) := by decide +kernel
theorem dX2_next_54 : decode cX2_next 54 = .ok (.aload_n 0, 1) := by decide +kernel
theorem dX2_next_55 : decode cX2_next 55 = .ok (.getfield 45, 3) := by decide +kernel
theorem dX2_next_58 : decode cX2_next 58 = .ok (.invokevirtual 53, 3) := by decide +kernel
theorem dX2_next_61 : decode cX2_next 61 = .ok (.bipush 45, 2) := by decide +kernel
theorem dX2_next_63 : decode cX2_next 63 = .ok (.if_icmp .ne 7, 3) := by decide +kernel
theorem dX2_next_66 : decode cX2_next 66 = .ok (.iconst 0, 1) := by decide +kernel
theorem dX2_next_67 : decode cX2_next 67 = .ok (.goto 16, 3) := by decide +kernel
theorem dX2_next_70 : decode cX2_next 70 = .ok (.aload_n 0, 1) := by decide +kernel
theorem dX2_next_71 : decode cX2_next 71 = .ok (.ldc 51, 2) := by decide +kernel
theorem dX2_next_73 : decode cX2_next 73 = .ok (.aload_n 0, 1) := by decide +kernel
theorem dX2_next_74 : decode cX2_next 74 = .ok (.getfield 45, 3) := by decide +kernel
theorem dX2_next_77 : decode cX2_next 77 = .ok (.invokevirtual 53, 3) := by decide +kernel
theorem dX2_next_80 : decode cX2_next 80 = .ok (.invokevirtual 59, 3) := by decide +kernel
theorem dX2_next_83 : decode cX2_next 83 = .ok (.putfield 63, 3) := by decide +kernel
theorem dX2_next_86 : decode cX2_next 86 = .ok (.aload_n 0, 1) := by decide +kernel
theorem dX2_next_87 : decode cX2_next 87 = .ok (.ldc 66, 2) := by decide +kernel
theorem dX2_next_89 : decode cX2_next 89 = .ok (.aload_n 0, 1) := by decide +kernel
theorem dX2_next_90 : decode cX2_next 90 = .ok (.getfield 45, 3) := by decide +kernel
theorem dX2_next_93 : decode cX2_next 93 = .ok (.invokevirtual 53, 3) := by decide +kernel
theorem dX2_next_96 : decode cX2_next 96 = .ok (.bipush 45, 2) := by decide +kernel
theorem dX2_next_98 : decode cX2_next 98 = .ok (.if_icmp .ne 7, 3) := by decide +kernel
theorem dX2_next_101 : decode cX2_next 101 = .ok (.iconst 0, 1) := by decide +kernel
theorem dX2_next_102 : decode cX2_next 102 = .ok (.goto 7, 3) := by decide +kernel
theorem dX2_next_105 : decode cX2_next 105 = .ok (.aload_n 0, 1) := by decide +kernel
theorem dX2_next_106 : decode cX2_next 106 = .ok (.invokevirtual 35, 3) := by decide +kernel
theorem dX2_next_109 : decode cX2_next 109 = .ok (.putfield 68, 3) := by decide +kernel
theorem dX2_next_112 : decode cX2_next 112 = .ok (.aload_n 0, 1) := by decide +kernel
theorem dX2_next_113 : decode cX2_next 113 = .ok (.bipush 59, 2) := by decide +kernel
theorem dX2_next_115 : decode cX2_next 115 = .ok (.invokevirtual 71, 3) := by decide +kernel
theorem dX2_next_118 : decode cX2_next 118 = .ok (.aload_n 0, 1) := by decide +kernel
theorem dX2_next_119 : decode cX2_next 119 = .ok (.getfield 15, 3) := by decide +kernel
theorem dX2_next_122 : decode cX2_next 122 = .ok (.iconst (-1), 1) := by decide +kernel
theorem dX2_next_123 : decode cX2_next 123 = .ok (.if_icmp .ne 7, 3) := by decide +kernel
theorem dX2_next_126 : decode cX2_next 126 = .ok (.iconst 1, 1) := by decide +kernel
theorem dX2_next_127 : decode cX2_next 127 = .ok (.goto 4, 3) := by decide +kernel
theorem dX2_next_130 : decode cX2_next 130 = .ok (.iconst 0, 1) := by decide +kernel
theorem dX2_next_131 : decode cX2_next 131 = .ok (.ireturn, 1) := by decide +kernel
def f_X2_next_b109 (n : Nat) (s1 : Int32) (M : m_M) : Option (Int32 × m_M) :=
  m_bd (m_sI M 168 8 s1) fun M1 =>
  m_ob (f_X2_sign n 59 M1) fun M2 =>
  if (M2.1 168 3) = (-1) then
  some (1, M2)
  else
  some (0, M2)
def f_X2_next_b83 (n : Nat) (s1 : Int32) (M : m_M) : Option (Int32 × m_M) :=
  m_bd (m_sI M 168 7 s1) fun M4 =>
  m_ob (f_J0_charAt_5068e 7 (M4.1 168 5)) fun r5 =>
  if r5 = 45 then
  f_X2_next_b109 n 0 M4
  else
  m_o2 (f_X2_number n M4) fun r8 M9 =>
  f_X2_next_b109 n r8 M9
def f_X2_next (n : Nat) (M : m_M) : Option (Int32 × m_M) :=
  m_ob (f_X2_skipBlanks n M) fun M10 =>
  if (M10.1 168 2) < (M10.1 168 1) then
  m_o2 (f_X2_number n M10) fun r12 M13 =>
  m_bd (m_sI M13 168 4 r12) fun M14 =>
  m_o2 (f_X2_verb n M14) fun r15 M16 =>
  m_bd (m_sI M16 168 5 r15) fun M17 =>
  if (M17.1 168 5) = (-1) then
  some (0, M17)
  else
  m_o2 (f_X2_number n M17) fun r19 M20 =>
  m_bd (m_sI M20 168 6 r19) fun M21 =>
  m_ob (f_J0_charAt_5068e 6 (M21.1 168 5)) fun r22 =>
  if r22 = 45 then
  f_X2_next_b83 n 0 M21
  else
  m_ob (f_J0_charAt_5068e 6 (M21.1 168 5)) fun r25 =>
  m_o2 (f_X2_second n r25 M21) fun r27 M28 =>
  f_X2_next_b83 n r27 M28
  else
  some (0, M10)
set_option maxHeartbeats 4000000 in
set_option maxRecDepth 100000 in
theorem c_X2_next (l : Launch) (G : m_G) {n : Nat} {M : m_M} {r0 : Int32} {M0 : m_M}  (hres : f_X2_next n M = some (r0, M0)) : Met l yX2_next (m_U yX2_next cX2_next 1 (some .boolean)) (m_R 7 155) (m_Pc G [.ref (m_ad G 168)] M) (m_Qz G r0 M0) 0 0 (m_A G) := by
  refine m_i0 (n := 1) RX2 rfl (by decide) (Nat.le_of_ble_eq_true rfl) ?_
  intro p e s m args below meth c X hr hlk hSt hP hS ls hl
  have hl : lv_has ls 1 [(0, .ref (m_ad G 168))] := hl
  have B109 : ∀  (s1 : Int32) (M : m_M) (H : Heap) (locs : List Loc) (ls : Array Slot), m_P G M H → va_S (m_A G) s.heap H locs → lv_has ls 1 [(0, .ref (m_ad G 168))] → f_X2_next_b109 n s1 M = some (r0, M0) → W p l e (m_R 7 155) s m args below meth c H locs 0 0 (MQ below (m_Qz G r0 M0) args s 0 0 (m_A G)) (F0 m 109 ls [.int s1, .ref (m_ad G 168)]) := by
    intro s1 M H locs ls hP hS hl hres
    unfold f_X2_next_b109 at hres
    obtain ⟨M1, eM1, hres⟩ := m_bd_e hres
    refine m_pi2 X hSt hP hS m_z_168 8 (by decide) eM1 rfl rfl (by decide) k_f_X2_68 dX2_next_109 (fun H locs hP hS => ?_)
    refine lv_aload_n X.1 X.2.1 dX2_next_112 rfl (lv_at hl 0 rfl) ?_
    refine lv_bipush (v := 59) X.1 X.2.1 dX2_next_113 (by decide) ?_
    obtain ⟨M2, eM2, hres⟩ := m_ob_e hres
    refine m_bv (m_cV (n := 1) (As := [.int 59]) (rest := []) X hSt hP hS hl.1 (c_X2_sign l G  eM2) k_c_yX2_sign k_m_X2_71 k_i_yX2_sign k_s_yX2_sign k_n_X2 (by decide +kernel) (m_rc2 hSt hP m_z_168) rfl rfl ⟨Nat.le_of_ble_eq_true rfl, Nat.le_of_ble_eq_true rfl⟩ (Nat.le_of_ble_eq_true rfl) ⟨Nat.zero_le _, Nat.zero_le _⟩ dX2_next_115) hS (fun H locs hP hS => ?_)
    refine lv_aload_n X.1 X.2.1 dX2_next_118 rfl (lv_at hl 0 rfl) ?_
    refine m_g2 (v := .int (M2.1 168 3)) X hSt hP m_z_168 3 (by decide) rfl k_f_X2_15 dX2_next_119 ?_
    refine lv_iconst (v := (-1)) X.1 X.2.1 dX2_next_122 (by decide) ?_
    refine lv_icmp_ne (tgt := 130) X.1 X.2.1 dX2_next_123 (by decide) (fun hc3 => ?_) (fun hc3 => ?_)
    · have hres := m_if hres hc3
      refine lv_iconst (v := 0) X.1 X.2.1 dX2_next_130 (by decide) ?_
      exact m_rz X hr hlk hP hS (Prod.mk.inj (Option.some.inj hres)).1 (Prod.mk.inj (Option.some.inj hres)).2 (by decide) dX2_next_131
    · have hres := m_it hres hc3
      refine lv_iconst (v := 1) X.1 X.2.1 dX2_next_126 (by decide) ?_
      refine lv_goto (tgt := 131) X.1 X.2.1 dX2_next_127 (by decide) ?_
      exact m_rz X hr hlk hP hS (Prod.mk.inj (Option.some.inj hres)).1 (Prod.mk.inj (Option.some.inj hres)).2 (by decide) dX2_next_131
  have B83 : ∀  (s1 : Int32) (M : m_M) (H : Heap) (locs : List Loc) (ls : Array Slot), m_P G M H → va_S (m_A G) s.heap H locs → lv_has ls 1 [(0, .ref (m_ad G 168))] → f_X2_next_b83 n s1 M = some (r0, M0) → W p l e (m_R 7 155) s m args below meth c H locs 0 0 (MQ below (m_Qz G r0 M0) args s 0 0 (m_A G)) (F0 m 83 ls [.int s1, .ref (m_ad G 168)]) := by
    intro s1 M H locs ls hP hS hl hres
    unfold f_X2_next_b83 at hres
    obtain ⟨M4, eM4, hres⟩ := m_bd_e hres
    refine m_pi2 X hSt hP hS m_z_168 7 (by decide) eM4 rfl rfl (by decide) k_f_X2_63 dX2_next_83 (fun H locs hP hS => ?_)
    refine lv_aload_n X.1 X.2.1 dX2_next_86 rfl (lv_at hl 0 rfl) ?_
    refine m_ld7 X hSt dX2_next_87 ?_
    refine lv_aload_n X.1 X.2.1 dX2_next_89 rfl (lv_at hl 0 rfl) ?_
    refine m_g2 (v := .int (M4.1 168 5)) X hSt hP m_z_168 5 (by decide) rfl k_f_X2_45 dX2_next_90 ?_
    obtain ⟨r5, err5, hres⟩ := m_ob_e hres
    refine m_bn (m_cV (n := 1) (As := [.int (M4.1 168 5)]) (rest := [.ref (m_ad G 168)]) X hSt hP hS hl.1 (c_J0_charAt_5068e l G (M := M4) (by decide) err5) k_c_yJ0_charAt_5068e k_m_X2_53 k_i_yJ0_charAt_5068e k_s_yJ0_charAt_5068e k_n_J0 (by decide +kernel) (m_rcS hSt hS (by decide)) rfl rfl ⟨Nat.le_of_ble_eq_true rfl, Nat.le_of_ble_eq_true rfl⟩ (Nat.le_of_ble_eq_true rfl) ⟨Nat.zero_le _, Nat.zero_le _⟩ dX2_next_93) hS (fun H locs hP hS hz6 => ?_)
    refine lv_bipush (v := 45) X.1 X.2.1 dX2_next_96 (by decide) ?_
    refine lv_icmp_ne (tgt := 105) X.1 X.2.1 dX2_next_98 (by decide) (fun hc7 => ?_) (fun hc7 => ?_)
    · have hres := m_if hres hc7
      refine lv_aload_n X.1 X.2.1 dX2_next_105 rfl (lv_at hl 0 rfl) ?_
      obtain ⟨r8, M9, err8, hres⟩ := m_o2_e hres
      refine m_bi (m_cV (n := 0) (As := []) (rest := [.ref (m_ad G 168)]) X hSt hP hS hl.1 (c_X2_number l G  err8) k_c_yX2_number k_m_X2_35 k_i_yX2_number k_s_yX2_number k_n_X2 (by decide +kernel) (m_rc2 hSt hP m_z_168) rfl rfl ⟨Nat.le_of_ble_eq_true rfl, Nat.le_of_ble_eq_true rfl⟩ (Nat.le_of_ble_eq_true rfl) ⟨Nat.zero_le _, Nat.zero_le _⟩ dX2_next_106) hS (fun H locs hP hS => ?_)
      exact B109 r8 M9 _ _ _ hP hS (lv_sub hl [0] rfl) hres
    · have hres := m_it hres hc7
      refine lv_iconst (v := 0) X.1 X.2.1 dX2_next_101 (by decide) ?_
      refine lv_goto (tgt := 109) X.1 X.2.1 dX2_next_102 (by decide) ?_
      exact B109 0 M4 _ _ _ hP hS (lv_sub hl [0] rfl) hres
  unfold f_X2_next at hres
  refine lv_aload_n X.1 X.2.1 dX2_next_0 rfl (lv_at hl 0 rfl) ?_
  obtain ⟨M10, eM10, hres⟩ := m_ob_e hres
  refine m_bv (m_cV (n := 0) (As := []) (rest := []) X hSt hP hS hl.1 (c_X2_skipBlanks l G  eM10) k_c_yX2_skipBlanks k_m_X2_32 k_i_yX2_skipBlanks k_s_yX2_skipBlanks k_n_X2 (by decide +kernel) (m_rc2 hSt hP m_z_168) rfl rfl ⟨Nat.le_of_ble_eq_true rfl, Nat.le_of_ble_eq_true rfl⟩ (Nat.le_of_ble_eq_true rfl) ⟨Nat.zero_le _, Nat.zero_le _⟩ dX2_next_1) hS (fun H locs hP hS => ?_)
  refine lv_aload_n X.1 X.2.1 dX2_next_4 rfl (lv_at hl 0 rfl) ?_
  refine m_g2 (v := .int (M10.1 168 2)) X hSt hP m_z_168 2 (by decide) rfl k_f_X2_22 dX2_next_5 ?_
  refine lv_aload_n X.1 X.2.1 dX2_next_8 rfl (lv_at hl 0 rfl) ?_
  refine m_g2 (v := .int (M10.1 168 1)) X hSt hP m_z_168 1 (by decide) rfl k_f_X2_19 dX2_next_9 ?_
  refine lv_icmp_lt (tgt := 17) X.1 X.2.1 dX2_next_12 (by decide) (fun hc11 => ?_) (fun hc11 => ?_)
  · have hres := m_it hres hc11
    refine lv_aload_n X.1 X.2.1 dX2_next_17 rfl (lv_at hl 0 rfl) ?_
    refine lv_aload_n X.1 X.2.1 dX2_next_18 rfl (lv_at hl 0 rfl) ?_
    obtain ⟨r12, M13, err12, hres⟩ := m_o2_e hres
    refine m_bi (m_cV (n := 0) (As := []) (rest := [.ref (m_ad G 168)]) X hSt hP hS hl.1 (c_X2_number l G  err12) k_c_yX2_number k_m_X2_35 k_i_yX2_number k_s_yX2_number k_n_X2 (by decide +kernel) (m_rc2 hSt hP m_z_168) rfl rfl ⟨Nat.le_of_ble_eq_true rfl, Nat.le_of_ble_eq_true rfl⟩ (Nat.le_of_ble_eq_true rfl) ⟨Nat.zero_le _, Nat.zero_le _⟩ dX2_next_19) hS (fun H locs hP hS => ?_)
    obtain ⟨M14, eM14, hres⟩ := m_bd_e hres
    refine m_pi2 X hSt hP hS m_z_168 4 (by decide) eM14 rfl rfl (by decide) k_f_X2_39 dX2_next_22 (fun H locs hP hS => ?_)
    refine lv_aload_n X.1 X.2.1 dX2_next_25 rfl (lv_at hl 0 rfl) ?_
    refine lv_aload_n X.1 X.2.1 dX2_next_26 rfl (lv_at hl 0 rfl) ?_
    obtain ⟨r15, M16, err15, hres⟩ := m_o2_e hres
    refine m_bi (m_cV (n := 0) (As := []) (rest := [.ref (m_ad G 168)]) X hSt hP hS hl.1 (c_X2_verb l G  err15) k_c_yX2_verb k_m_X2_42 k_i_yX2_verb k_s_yX2_verb k_n_X2 (by decide +kernel) (m_rc2 hSt hP m_z_168) rfl rfl ⟨Nat.le_of_ble_eq_true rfl, Nat.le_of_ble_eq_true rfl⟩ (Nat.le_of_ble_eq_true rfl) ⟨Nat.zero_le _, Nat.zero_le _⟩ dX2_next_27) hS (fun H locs hP hS => ?_)
    obtain ⟨M17, eM17, hres⟩ := m_bd_e hres
    refine m_pi2 X hSt hP hS m_z_168 5 (by decide) eM17 rfl rfl (by decide) k_f_X2_45 dX2_next_30 (fun H locs hP hS => ?_)
    refine lv_aload_n X.1 X.2.1 dX2_next_33 rfl (lv_at hl 0 rfl) ?_
    refine m_g2 (v := .int (M17.1 168 5)) X hSt hP m_z_168 5 (by decide) rfl k_f_X2_45 dX2_next_34 ?_
    refine lv_iconst (v := (-1)) X.1 X.2.1 dX2_next_37 (by decide) ?_
    refine lv_icmp_ne (tgt := 43) X.1 X.2.1 dX2_next_38 (by decide) (fun hc18 => ?_) (fun hc18 => ?_)
    · have hres := m_if hres hc18
      refine lv_aload_n X.1 X.2.1 dX2_next_43 rfl (lv_at hl 0 rfl) ?_
      refine lv_aload_n X.1 X.2.1 dX2_next_44 rfl (lv_at hl 0 rfl) ?_
      obtain ⟨r19, M20, err19, hres⟩ := m_o2_e hres
      refine m_bi (m_cV (n := 0) (As := []) (rest := [.ref (m_ad G 168)]) X hSt hP hS hl.1 (c_X2_number l G  err19) k_c_yX2_number k_m_X2_35 k_i_yX2_number k_s_yX2_number k_n_X2 (by decide +kernel) (m_rc2 hSt hP m_z_168) rfl rfl ⟨Nat.le_of_ble_eq_true rfl, Nat.le_of_ble_eq_true rfl⟩ (Nat.le_of_ble_eq_true rfl) ⟨Nat.zero_le _, Nat.zero_le _⟩ dX2_next_45) hS (fun H locs hP hS => ?_)
      obtain ⟨M21, eM21, hres⟩ := m_bd_e hres
      refine m_pi2 X hSt hP hS m_z_168 6 (by decide) eM21 rfl rfl (by decide) k_f_X2_48 dX2_next_48 (fun H locs hP hS => ?_)
      refine lv_aload_n X.1 X.2.1 dX2_next_51 rfl (lv_at hl 0 rfl) ?_
      refine m_ld6 X hSt dX2_next_52 ?_
      refine lv_aload_n X.1 X.2.1 dX2_next_54 rfl (lv_at hl 0 rfl) ?_
      refine m_g2 (v := .int (M21.1 168 5)) X hSt hP m_z_168 5 (by decide) rfl k_f_X2_45 dX2_next_55 ?_
      obtain ⟨r22, err22, hres⟩ := m_ob_e hres
      refine m_bn (m_cV (n := 1) (As := [.int (M21.1 168 5)]) (rest := [.ref (m_ad G 168)]) X hSt hP hS hl.1 (c_J0_charAt_5068e l G (M := M21) (by decide) err22) k_c_yJ0_charAt_5068e k_m_X2_53 k_i_yJ0_charAt_5068e k_s_yJ0_charAt_5068e k_n_J0 (by decide +kernel) (m_rcS hSt hS (by decide)) rfl rfl ⟨Nat.le_of_ble_eq_true rfl, Nat.le_of_ble_eq_true rfl⟩ (Nat.le_of_ble_eq_true rfl) ⟨Nat.zero_le _, Nat.zero_le _⟩ dX2_next_58) hS (fun H locs hP hS hz23 => ?_)
      refine lv_bipush (v := 45) X.1 X.2.1 dX2_next_61 (by decide) ?_
      refine lv_icmp_ne (tgt := 70) X.1 X.2.1 dX2_next_63 (by decide) (fun hc24 => ?_) (fun hc24 => ?_)
      · have hres := m_if hres hc24
        refine lv_aload_n X.1 X.2.1 dX2_next_70 rfl (lv_at hl 0 rfl) ?_
        refine m_ld6 X hSt dX2_next_71 ?_
        refine lv_aload_n X.1 X.2.1 dX2_next_73 rfl (lv_at hl 0 rfl) ?_
        refine m_g2 (v := .int (M21.1 168 5)) X hSt hP m_z_168 5 (by decide) rfl k_f_X2_45 dX2_next_74 ?_
        obtain ⟨r25, err25, hres⟩ := m_ob_e hres
        refine m_bn (m_cV (n := 1) (As := [.int (M21.1 168 5)]) (rest := [.ref (m_ad G 168), .ref (m_ad G 168)]) X hSt hP hS hl.1 (c_J0_charAt_5068e l G (M := M21) (by decide) err25) k_c_yJ0_charAt_5068e k_m_X2_53 k_i_yJ0_charAt_5068e k_s_yJ0_charAt_5068e k_n_J0 (by decide +kernel) (m_rcS hSt hS (by decide)) rfl rfl ⟨Nat.le_of_ble_eq_true rfl, Nat.le_of_ble_eq_true rfl⟩ (Nat.le_of_ble_eq_true rfl) ⟨Nat.zero_le _, Nat.zero_le _⟩ dX2_next_77) hS (fun H locs hP hS hz26 => ?_)
        obtain ⟨r27, M28, err27, hres⟩ := m_o2_e hres
        refine m_bi (m_cV (n := 1) (As := [.int r25]) (rest := [.ref (m_ad G 168)]) X hSt hP hS hl.1 (c_X2_second l G  err27) k_c_yX2_second k_m_X2_59 k_i_yX2_second k_s_yX2_second k_n_X2 (by decide +kernel) (m_rc2 hSt hP m_z_168) rfl rfl ⟨Nat.le_of_ble_eq_true rfl, Nat.le_of_ble_eq_true rfl⟩ (Nat.le_of_ble_eq_true rfl) ⟨Nat.zero_le _, Nat.zero_le _⟩ dX2_next_80) hS (fun H locs hP hS => ?_)
        exact B83 r27 M28 _ _ _ hP hS (lv_sub hl [0] rfl) hres
      · have hres := m_it hres hc24
        refine lv_iconst (v := 0) X.1 X.2.1 dX2_next_66 (by decide) ?_
        refine lv_goto (tgt := 83) X.1 X.2.1 dX2_next_67 (by decide) ?_
        exact B83 0 M21 _ _ _ hP hS (lv_sub hl [0] rfl) hres
    · have hres := m_it hres hc18
      refine lv_iconst (v := 0) X.1 X.2.1 dX2_next_41 (by decide) ?_
      exact m_rz X hr hlk hP hS (Prod.mk.inj (Option.some.inj hres)).1 (Prod.mk.inj (Option.some.inj hres)).2 (by decide) dX2_next_42
  · have hres := m_if hres hc11
    refine lv_iconst (v := 0) X.1 X.2.1 dX2_next_15 (by decide) ?_
    exact m_rz X hr hlk hP hS (Prod.mk.inj (Option.some.inj hres)).1 (Prod.mk.inj (Option.some.inj hres)).2 (by decide) dX2_next_16
theorem dX2_flawOfAll_0 : decode cX2_flawOfAll 0 = .ok (.aload_n 0, 1) := by decide +kernel
theorem dX2_flawOfAll_1 : decode cX2_flawOfAll 1 = .ok (.invokevirtual 25, 3) := by decide +kernel
theorem dX2_flawOfAll_4 : decode cX2_flawOfAll 4 = .ok (.iconst 0, 1) := by decide +kernel
theorem dX2_flawOfAll_5 : decode cX2_flawOfAll 5 = .ok (.istore_n 1, 1) := by decide +kernel
theorem dX2_flawOfAll_6 : decode cX2_flawOfAll 6 = .ok (.iload_n 1, 1) := by decide +kernel
theorem dX2_flawOfAll_7 : decode cX2_flawOfAll 7 = .ok (.sipush 300, 3) := by decide +kernel
theorem dX2_flawOfAll_10 : decode cX2_flawOfAll 10 = .ok (.if_icmp .ge 16, 3) := by decide +kernel
theorem dX2_flawOfAll_13 : decode cX2_flawOfAll 13 = .ok (.aload_n 0, 1) := by decide +kernel
theorem dX2_flawOfAll_14 : decode cX2_flawOfAll 14 = .ok (.invokevirtual 28, 3) := by decide +kernel
theorem dX2_flawOfAll_17 : decode cX2_flawOfAll 17 = .ok (.ifCond .eq 9, 3) := by decide +kernel
theorem dX2_flawOfAll_20 : decode cX2_flawOfAll 20 = .ok (.iinc 1 1, 3) := by decide +kernel
theorem dX2_flawOfAll_23 : decode cX2_flawOfAll 23 = .ok (.goto (-17), 3) := by decide +kernel
theorem dX2_flawOfAll_26 : decode cX2_flawOfAll 26 = .ok (.aload_n 0, 1) := by decide +kernel
theorem dX2_flawOfAll_27 : decode cX2_flawOfAll 27 = .ok (.getfield 15, 3) := by decide +kernel
theorem dX2_flawOfAll_30 : decode cX2_flawOfAll 30 = .ok (.ireturn, 1) := by decide +kernel
def f_X2_flawOfAll_b6 (n : Nat) : Nat → Int32 → m_M → Option (Int32 × m_M)
  | 0, _, _ => none
  | u + 1, x1, M =>
    if (300 : Int32) ≤ x1 then
  some ((M.1 168 3), M)
  else
  m_o2 (f_X2_next n M) fun r2 M3 =>
  if r2 = 0 then
  some ((M3.1 168 3), M3)
  else
  f_X2_flawOfAll_b6 n u (x1 + 1) M3
def f_X2_flawOfAll (n : Nat) (M : m_M) : Option (Int32 × m_M) :=
  m_bd (f_X2_goToStart M) fun M6 =>
  f_X2_flawOfAll_b6 n n 0 M6
set_option maxHeartbeats 4000000 in
set_option maxRecDepth 100000 in
theorem c_X2_flawOfAll (l : Launch) (G : m_G) {n : Nat} {M : m_M} {r0 : Int32} {M0 : m_M}  (hres : f_X2_flawOfAll n M = some (r0, M0)) : Met l yX2_flawOfAll (m_U yX2_flawOfAll cX2_flawOfAll 2 (some .int)) (m_R 8 175) (m_Pc G [.ref (m_ad G 168)] M) (m_Qi G r0 M0) 0 0 (m_A G) := by
  refine m_i0 (n := 2) RX2 rfl (by decide) (Nat.le_of_ble_eq_true rfl) ?_
  intro p e s m args below meth c X hr hlk hSt hP hS ls hl
  have hl : lv_has ls 2 [(0, .ref (m_ad G 168))] := hl
  have B6 : ∀ (u : Nat) (x1 : Int32) (M : m_M) (H : Heap) (locs : List Loc) (ls : Array Slot), m_P G M H → va_S (m_A G) s.heap H locs → lv_has ls 2 [(0, .ref (m_ad G 168)), (1, .int x1)] → f_X2_flawOfAll_b6 n u x1 M = some (r0, M0) → W p l e (m_R 8 175) s m args below meth c H locs 0 0 (MQ below (m_Qi G r0 M0) args s 0 0 (m_A G)) (F0 m 6 ls []) := by
    intro u
    induction u with
    | zero =>
      intro x1 M H locs ls hP hS hl hres
      cases hres
    | succ u ih =>
      intro x1 M H locs ls hP hS hl hres
      rw [f_X2_flawOfAll_b6] at hres
      refine lv_iload_n X.1 X.2.1 dX2_flawOfAll_6 rfl (lv_at hl 1 rfl) ?_
      refine lv_sipush (v := 300) X.1 X.2.1 dX2_flawOfAll_7 (by decide) ?_
      refine lv_icmp_ge (tgt := 26) X.1 X.2.1 dX2_flawOfAll_10 (by decide) (fun hc1 => ?_) (fun hc1 => ?_)
      · have hres := m_it hres hc1
        refine lv_aload_n X.1 X.2.1 dX2_flawOfAll_26 rfl (lv_at hl 0 rfl) ?_
        refine m_g2 (v := .int (M.1 168 3)) X hSt hP m_z_168 3 (by decide) rfl k_f_X2_15 dX2_flawOfAll_27 ?_
        exact m_ri X hr hlk hP hS (Prod.mk.inj (Option.some.inj hres)).1 (Prod.mk.inj (Option.some.inj hres)).2 dX2_flawOfAll_30
      · have hres := m_if hres hc1
        refine lv_aload_n X.1 X.2.1 dX2_flawOfAll_13 rfl (lv_at hl 0 rfl) ?_
        obtain ⟨r2, M3, err2, hres⟩ := m_o2_e hres
        refine m_bz (m_cV (n := 0) (As := []) (rest := []) X hSt hP hS hl.1 (c_X2_next l G  err2) k_c_yX2_next k_m_X2_28 k_i_yX2_next k_s_yX2_next k_n_X2 (by decide +kernel) (m_rc2 hSt hP m_z_168) rfl rfl ⟨Nat.le_of_ble_eq_true rfl, Nat.le_of_ble_eq_true rfl⟩ (Nat.le_of_ble_eq_true rfl) ⟨Nat.zero_le _, Nat.zero_le _⟩ dX2_flawOfAll_14) hS (fun H locs hP hS hz4 => ?_)
        refine lv_if_eq (tgt := 26) X.1 X.2.1 dX2_flawOfAll_17 (by decide) (fun hc5 => ?_) (fun hc5 => ?_)
        · have hres := m_it hres hc5
          refine lv_aload_n X.1 X.2.1 dX2_flawOfAll_26 rfl (lv_at hl 0 rfl) ?_
          refine m_g2 (v := .int (M3.1 168 3)) X hSt hP m_z_168 3 (by decide) rfl k_f_X2_15 dX2_flawOfAll_27 ?_
          exact m_ri X hr hlk hP hS (Prod.mk.inj (Option.some.inj hres)).1 (Prod.mk.inj (Option.some.inj hres)).2 dX2_flawOfAll_30
        · have hres := m_if hres hc5
          refine lv_iinc (v := (x1 + 1)) (lv' := [(1, .int (x1 + 1)), (0, .ref (m_ad G 168))]) X.1 X.2.1 dX2_flawOfAll_20 hl (k := 1) rfl rfl (by decide) rfl (fun ls hl => ?_)
          refine lv_goto (tgt := 6) X.1 X.2.1 dX2_flawOfAll_23 (by decide) ?_
          exact ih (x1 + 1) M3 _ _ _ hP hS (lv_sub hl [1, 0] rfl) hres
  unfold f_X2_flawOfAll at hres
  refine lv_aload_n X.1 X.2.1 dX2_flawOfAll_0 rfl (lv_at hl 0 rfl) ?_
  obtain ⟨M6, eM6, hres⟩ := m_bd_e hres
  refine m_bv (m_cV (n := 0) (As := []) (rest := []) X hSt hP hS hl.1 (c_X2_goToStart l G  eM6) k_c_yX2_goToStart k_m_X2_25 k_i_yX2_goToStart k_s_yX2_goToStart k_n_X2 (by decide +kernel) (m_rc2 hSt hP m_z_168) rfl rfl ⟨Nat.le_of_ble_eq_true rfl, Nat.le_of_ble_eq_true rfl⟩ (Nat.le_of_ble_eq_true rfl) ⟨Nat.zero_le _, Nat.zero_le _⟩ dX2_flawOfAll_1) hS (fun H locs hP hS => ?_)
  refine lv_iconst (v := 0) X.1 X.2.1 dX2_flawOfAll_4 (by decide) ?_
  refine lv_istore_n (lv' := [(1, .int 0), (0, .ref (m_ad G 168))]) X.1 X.2.1 dX2_flawOfAll_5 rfl hl (by decide) rfl (fun ls hl => ?_)
  exact B6 n 0 M6 _ _ _ hP hS (lv_sub hl [1, 0] rfl) hres
theorem dX7_read_0 : decode cX7_read 0 = .ok (.aload_n 0, 1) := by decide +kernel
theorem dX7_read_1 : decode cX7_read 1 = .ok (.getfield 43, 3) := by decide +kernel
theorem dX7_read_4 : decode cX7_read 4 = .ok (.invokevirtual 93, 3) := by decide +kernel
theorem dX7_read_7 : decode cX7_read 7 = .ok (.istore_n 1, 1) := by decide +kernel
theorem dX7_read_8 : decode cX7_read 8 = .ok (.iload_n 1, 1) := by decide +kernel
theorem dX7_read_9 : decode cX7_read 9 = .ok (.iconst (-1), 1) := by decide +kernel
theorem dX7_read_10 : decode cX7_read 10 = .ok (.if_icmp .eq 8, 3) := by decide +kernel
theorem dX7_read_13 : decode cX7_read 13 = .ok (.bipush (-10), 2) := by decide +kernel
theorem dX7_read_15 : decode cX7_read 15 = .ok (.iload_n 1, 1) := by decide +kernel
theorem dX7_read_16 : decode cX7_read 16 = .ok (.isub, 1) := by decide +kernel
theorem dX7_read_17 : decode cX7_read 17 = .ok (.ireturn, 1) := by decide +kernel
theorem dX7_read_18 : decode cX7_read 18 = .ok (.aload_n 0, 1) := by decide +kernel
theorem dX7_read_19 : decode cX7_read 19 = .ok (.getfield 10, 3) := by decide +kernel
theorem dX7_read_22 : decode cX7_read 22 = .ok (.getfield 97, 3) := by decide +kernel
theorem dX7_read_25 : decode cX7_read 25 = .ok (.istore_n 2, 1) := by decide +kernel
theorem dX7_read_26 : decode cX7_read 26 = .ok (.aload_n 0, 1) := by decide +kernel
theorem dX7_read_27 : decode cX7_read 27 = .ok (.getfield 10, 3) := by decide +kernel
theorem dX7_read_30 : decode cX7_read 30 = .ok (.getfield 100, 3) := by decide +kernel
theorem dX7_read_33 : decode cX7_read 33 = .ok (.istore_n 3, 1) := by decide +kernel
theorem dX7_read_34 : decode cX7_read 34 = .ok (.iconst 0, 1) := by decide +kernel
theorem dX7_read_35 : decode cX7_read 35 = .ok (.istore 4, 2) := by decide +kernel
theorem dX7_read_37 : decode cX7_read 37 = .ok (.aload_n 0, 1) := by decide +kernel
theorem dX7_read_38 : decode cX7_read 38 = .ok (.getfield 43, 3) := by decide +kernel
theorem dX7_read_41 : decode cX7_read 41 = .ok (.invokevirtual 103, 3) := by decide +kernel
theorem dX7_read_44 : decode cX7_read 44 = .ok (.iload 4, 2) := by decide +kernel
theorem dX7_read_46 : decode cX7_read 46 = .ok (.sipush 300, 3) := by decide +kernel
theorem dX7_read_49 : decode cX7_read 49 = .ok (.if_icmp .ge 84, 3) := by decide +kernel
theorem dX7_read_52 : decode cX7_read 52 = .ok (.aload_n 0, 1) := by decide +kernel
theorem dX7_read_53 : decode cX7_read 53 = .ok (.getfield 43, 3) := by decide +kernel
theorem dX7_read_56 : decode cX7_read 56 = .ok (.invokevirtual 106, 3) := by decide +kernel
theorem dX7_read_59 : decode cX7_read 59 = .ok (.ifCond .eq 74, 3) := by decide +kernel
theorem dX7_read_62 : decode cX7_read 62 = .ok (.aload_n 0, 1) := by decide +kernel
theorem dX7_read_63 : decode cX7_read 63 = .ok (.aload_n 0, 1) := by decide +kernel
theorem dX7_read_64 : decode cX7_read 64 = .ok (.getfield 43, 3) := by decide +kernel
theorem dX7_read_67 : decode cX7_read 67 = .ok (.getfield 110, 3) := by decide +kernel
theorem dX7_read_70 : decode cX7_read 70 = .ok (.aload_n 0, 1) := by decide +kernel
theorem dX7_read_71 : decode cX7_read 71 = .ok (.getfield 43, 3) := by decide +kernel
theorem dX7_read_74 : decode cX7_read 74 = .ok (.getfield 113, 3) := by decide +kernel
theorem dX7_read_77 : decode cX7_read 77 = .ok (.aload_n 0, 1) := by decide +kernel
theorem dX7_read_78 : decode cX7_read 78 = .ok (.getfield 43, 3) := by decide +kernel
theorem dX7_read_81 : decode cX7_read 81 = .ok (.getfield 116, 3) := by decide +kernel
theorem dX7_read_84 : decode cX7_read 84 = .ok (.aload_n 0, 1) := by decide +kernel
theorem dX7_read_85 : decode cX7_read 85 = .ok (.getfield 43, 3) := by decide +kernel
theorem dX7_read_88 : decode cX7_read 88 = .ok (.getfield 119, 3) := by decide +kernel
theorem dX7_read_91 : decode cX7_read 91 = .ok (.aload_n 0, 1) := by decide +kernel
theorem dX7_read_92 : decode cX7_read 92 = .ok (.getfield 43, 3) := by decide +kernel
theorem dX7_read_95 : decode cX7_read 95 = .ok (.getfield 122, 3) := by decide +kernel
theorem dX7_read_98 : decode cX7_read 98 = .ok (.invokevirtual 65, 3) := by decide +kernel
theorem dX7_read_101 : decode cX7_read 101 = .ok (.ifCond .ge 26, 3) := by decide +kernel
theorem dX7_read_104 : decode cX7_read 104 = .ok (.aload_n 0, 1) := by decide +kernel
theorem dX7_read_105 : decode cX7_read 105 = .ok (.getfield 10, 3) := by decide +kernel
theorem dX7_read_108 : decode cX7_read 108 = .ok (.iload_n 2, 1) := by decide +kernel
theorem dX7_read_109 : decode cX7_read 109 = .ok (.putfield 97, 3) := by decide +kernel
theorem dX7_read_112 : decode cX7_read 112 = .ok (.aload_n 0, 1) := by decide +kernel
theorem dX7_read_113 : decode cX7_read 113 = .ok (.getfield 10, 3) := by decide +kernel
theorem dX7_read_116 : decode cX7_read 116 = .ok (.iload_n 3, 1) := by decide +kernel
theorem dX7_read_117 : decode cX7_read 117 = .ok (.putfield 100, 3) := by decide +kernel
theorem dX7_read_120 : decode cX7_read 120 = .ok (.sipush (-1000), 3) := by decide +kernel
theorem dX7_read_123 : decode cX7_read 123 = .ok (.iload 4, 2) := by decide +kernel
theorem dX7_read_125 : decode cX7_read 125 = .ok (.isub, 1) := by decide +kernel
theorem dX7_read_126 : decode cX7_read 126 = .ok (.ireturn, 1) := by decide +kernel
theorem dX7_read_127 : decode cX7_read 127 = .ok (.iinc 4 1, 3) := by decide +kernel
theorem dX7_read_130 : decode cX7_read 130 = .ok (.goto (-86), 3) := by decide +kernel
theorem dX7_read_133 : decode cX7_read 133 = .ok (.aload_n 0, 1) := by decide +kernel
theorem dX7_read_134 : decode cX7_read 134 = .ok (.getfield 43, 3) := by decide +kernel
theorem dX7_read_137 : decode cX7_read 137 = .ok (.iconst 0, 1) := by decide +kernel
theorem dX7_read_138 : decode cX7_read 138 = .ok (.putfield 86, 3) := by decide +kernel
theorem dX7_read_141 : decode cX7_read 141 = .ok (.iload 4, 2) := by decide +kernel
theorem dX7_read_143 : decode cX7_read 143 = .ok (.ireturn, 1) := by decide +kernel
def f_X7_read_b44 (n : Nat) : Nat → Int32 → Int32 → Int32 → m_M → Option (Int32 × m_M)
  | 0, _, _, _, _ => none
  | u + 1, x2, x3, x4, M =>
    if (300 : Int32) ≤ x4 then
  m_bd (m_sI M 168 1 0) fun M2 =>
  some (x4, M2)
  else
  m_o2 (f_X2_next n M) fun r3 M4 =>
  if r3 = 0 then
  m_bd (m_sI M4 168 1 0) fun M7 =>
  some (x4, M7)
  else
  m_o2 (f_X7_bring n (M4.1 168 4) (M4.1 168 5) (M4.1 168 6) (M4.1 168 7) (M4.1 168 8) M4) fun r8 M9 =>
  if (0 : Int32) ≤ r8 then
  f_X7_read_b44 n u x2 x3 (x4 + 1) M9
  else
  m_bd (m_sI M9 1 1 x2) fun M11 =>
  m_bd (m_sI M11 1 2 x3) fun M12 =>
  some (((-1000 : Int32) - x4), M12)
def f_X7_read (n : Nat) (M : m_M) : Option (Int32 × m_M) :=
  m_o2 (f_X2_flawOfAll n M) fun r13 M14 =>
  if r13 = (-1) then
  m_bd (f_X2_goToStart M14) fun M16 =>
  f_X7_read_b44 n n (M14.1 1 1) (M14.1 1 2) 0 M16
  else
  some (((-10 : Int32) - r13), M14)
set_option maxHeartbeats 4000000 in
set_option maxRecDepth 100000 in
theorem c_X7_read (l : Launch) (G : m_G) {n : Nat} {M : m_M} {r0 : Int32} {M0 : m_M}  (hres : f_X7_read n M = some (r0, M0)) : Met l yX7_read (m_U yX7_read cX7_read 5 (some .int)) (m_R 9 196) (m_Pc G [.ref (m_ad G 0)] M) (m_Qi G r0 M0) 0 0 (m_A G) := by
  refine m_i0 (n := 5) RX7 rfl (by decide) (Nat.le_of_ble_eq_true rfl) ?_
  intro p e s m args below meth c X hr hlk hSt hP hS ls hl
  have hl : lv_has ls 5 [(0, .ref (m_ad G 0))] := hl
  have B44 : ∀ (u : Nat) (x2 : Int32) (x3 : Int32) (x4 : Int32) (M : m_M) (H : Heap) (locs : List Loc) (ls : Array Slot), m_P G M H → va_S (m_A G) s.heap H locs → lv_has ls 5 [(0, .ref (m_ad G 0)), (2, .int x2), (3, .int x3), (4, .int x4)] → f_X7_read_b44 n u x2 x3 x4 M = some (r0, M0) → W p l e (m_R 9 196) s m args below meth c H locs 0 0 (MQ below (m_Qi G r0 M0) args s 0 0 (m_A G)) (F0 m 44 ls []) := by
    intro u
    induction u with
    | zero =>
      intro x2 x3 x4 M H locs ls hP hS hl hres
      cases hres
    | succ u ih =>
      intro x2 x3 x4 M H locs ls hP hS hl hres
      rw [f_X7_read_b44] at hres
      refine lv_iload X.1 X.2.1 dX7_read_44 (lv_at hl 3 rfl) ?_
      refine lv_sipush (v := 300) X.1 X.2.1 dX7_read_46 (by decide) ?_
      refine lv_icmp_ge (tgt := 133) X.1 X.2.1 dX7_read_49 (by decide) (fun hc1 => ?_) (fun hc1 => ?_)
      · have hres := m_it hres hc1
        refine lv_aload_n X.1 X.2.1 dX7_read_133 rfl (lv_at hl 0 rfl) ?_
        refine m_g7 (v := .ref (m_ad G 168)) X hSt hP m_z_0 5 (by decide) rfl k_f_X7_43 dX7_read_134 ?_
        refine lv_iconst (v := 0) X.1 X.2.1 dX7_read_137 (by decide) ?_
        obtain ⟨M2, eM2, hres⟩ := m_bd_e hres
        refine m_pi2 X hSt hP hS m_z_168 1 (by decide) eM2 rfl rfl (by decide) k_f_X7_86 dX7_read_138 (fun H locs hP hS => ?_)
        refine lv_iload X.1 X.2.1 dX7_read_141 (lv_at hl 3 rfl) ?_
        exact m_ri X hr hlk hP hS (Prod.mk.inj (Option.some.inj hres)).1 (Prod.mk.inj (Option.some.inj hres)).2 dX7_read_143
      · have hres := m_if hres hc1
        refine lv_aload_n X.1 X.2.1 dX7_read_52 rfl (lv_at hl 0 rfl) ?_
        refine m_g7 (v := .ref (m_ad G 168)) X hSt hP m_z_0 5 (by decide) rfl k_f_X7_43 dX7_read_53 ?_
        obtain ⟨r3, M4, err3, hres⟩ := m_o2_e hres
        refine m_bz (m_cV (n := 0) (As := []) (rest := []) X hSt hP hS hl.1 (c_X2_next l G  err3) k_c_yX2_next k_m_X7_106 k_i_yX2_next k_s_yX2_next k_n_X2 (by decide +kernel) (m_rc2 hSt hP m_z_168) rfl rfl ⟨Nat.le_of_ble_eq_true rfl, Nat.le_of_ble_eq_true rfl⟩ (Nat.le_of_ble_eq_true rfl) ⟨Nat.zero_le _, Nat.zero_le _⟩ dX7_read_56) hS (fun H locs hP hS hz5 => ?_)
        refine lv_if_eq (tgt := 133) X.1 X.2.1 dX7_read_59 (by decide) (fun hc6 => ?_) (fun hc6 => ?_)
        · have hres := m_it hres hc6
          refine lv_aload_n X.1 X.2.1 dX7_read_133 rfl (lv_at hl 0 rfl) ?_
          refine m_g7 (v := .ref (m_ad G 168)) X hSt hP m_z_0 5 (by decide) rfl k_f_X7_43 dX7_read_134 ?_
          refine lv_iconst (v := 0) X.1 X.2.1 dX7_read_137 (by decide) ?_
          obtain ⟨M7, eM7, hres⟩ := m_bd_e hres
          refine m_pi2 X hSt hP hS m_z_168 1 (by decide) eM7 rfl rfl (by decide) k_f_X7_86 dX7_read_138 (fun H locs hP hS => ?_)
          refine lv_iload X.1 X.2.1 dX7_read_141 (lv_at hl 3 rfl) ?_
          exact m_ri X hr hlk hP hS (Prod.mk.inj (Option.some.inj hres)).1 (Prod.mk.inj (Option.some.inj hres)).2 dX7_read_143
        · have hres := m_if hres hc6
          refine lv_aload_n X.1 X.2.1 dX7_read_62 rfl (lv_at hl 0 rfl) ?_
          refine lv_aload_n X.1 X.2.1 dX7_read_63 rfl (lv_at hl 0 rfl) ?_
          refine m_g7 (v := .ref (m_ad G 168)) X hSt hP m_z_0 5 (by decide) rfl k_f_X7_43 dX7_read_64 ?_
          refine m_g2 (v := .int (M4.1 168 4)) X hSt hP m_z_168 4 (by decide) rfl k_f_X7_110 dX7_read_67 ?_
          refine lv_aload_n X.1 X.2.1 dX7_read_70 rfl (lv_at hl 0 rfl) ?_
          refine m_g7 (v := .ref (m_ad G 168)) X hSt hP m_z_0 5 (by decide) rfl k_f_X7_43 dX7_read_71 ?_
          refine m_g2 (v := .int (M4.1 168 5)) X hSt hP m_z_168 5 (by decide) rfl k_f_X7_113 dX7_read_74 ?_
          refine lv_aload_n X.1 X.2.1 dX7_read_77 rfl (lv_at hl 0 rfl) ?_
          refine m_g7 (v := .ref (m_ad G 168)) X hSt hP m_z_0 5 (by decide) rfl k_f_X7_43 dX7_read_78 ?_
          refine m_g2 (v := .int (M4.1 168 6)) X hSt hP m_z_168 6 (by decide) rfl k_f_X7_116 dX7_read_81 ?_
          refine lv_aload_n X.1 X.2.1 dX7_read_84 rfl (lv_at hl 0 rfl) ?_
          refine m_g7 (v := .ref (m_ad G 168)) X hSt hP m_z_0 5 (by decide) rfl k_f_X7_43 dX7_read_85 ?_
          refine m_g2 (v := .int (M4.1 168 7)) X hSt hP m_z_168 7 (by decide) rfl k_f_X7_119 dX7_read_88 ?_
          refine lv_aload_n X.1 X.2.1 dX7_read_91 rfl (lv_at hl 0 rfl) ?_
          refine m_g7 (v := .ref (m_ad G 168)) X hSt hP m_z_0 5 (by decide) rfl k_f_X7_43 dX7_read_92 ?_
          refine m_g2 (v := .int (M4.1 168 8)) X hSt hP m_z_168 8 (by decide) rfl k_f_X7_122 dX7_read_95 ?_
          obtain ⟨r8, M9, err8, hres⟩ := m_o2_e hres
          refine m_bi (m_cV (n := 5) (As := [.int (M4.1 168 4), .int (M4.1 168 5), .int (M4.1 168 6), .int (M4.1 168 7), .int (M4.1 168 8)]) (rest := []) X hSt hP hS hl.1 (c_X7_bring l G  err8) k_c_yX7_bring k_m_X7_65 k_i_yX7_bring k_s_yX7_bring k_n_X7 (by decide +kernel) (m_rc7 hSt hP m_z_0) rfl rfl ⟨Nat.le_of_ble_eq_true rfl, Nat.le_of_ble_eq_true rfl⟩ (Nat.le_of_ble_eq_true rfl) ⟨Nat.zero_le _, Nat.zero_le _⟩ dX7_read_98) hS (fun H locs hP hS => ?_)
          refine lv_if_ge (tgt := 127) X.1 X.2.1 dX7_read_101 (by decide) (fun hc10 => ?_) (fun hc10 => ?_)
          · have hres := m_it hres hc10
            refine lv_iinc (v := (x4 + 1)) (lv' := [(4, .int (x4 + 1)), (0, .ref (m_ad G 0)), (2, .int x2), (3, .int x3)]) X.1 X.2.1 dX7_read_127 hl (k := 3) rfl rfl (by decide) rfl (fun ls hl => ?_)
            refine lv_goto (tgt := 44) X.1 X.2.1 dX7_read_130 (by decide) ?_
            exact ih x2 x3 (x4 + 1) M9 _ _ _ hP hS (lv_sub hl [1, 2, 3, 0] rfl) hres
          · have hres := m_if hres hc10
            refine lv_aload_n X.1 X.2.1 dX7_read_104 rfl (lv_at hl 0 rfl) ?_
            refine m_g7 (v := .ref (m_ad G 1)) X hSt hP m_z_0 0 (by decide) rfl k_f_X7_10 dX7_read_105 ?_
            refine lv_iload_n X.1 X.2.1 dX7_read_108 rfl (lv_at hl 1 rfl) ?_
            obtain ⟨M11, eM11, hres⟩ := m_bd_e hres
            refine m_pi3 X hSt hP hS m_kept_0.1 1 (by decide) eM11 rfl rfl (by decide) k_f_X7_97 dX7_read_109 (fun H locs hP hS => ?_)
            refine lv_aload_n X.1 X.2.1 dX7_read_112 rfl (lv_at hl 0 rfl) ?_
            refine m_g7 (v := .ref (m_ad G 1)) X hSt hP m_z_0 0 (by decide) rfl k_f_X7_10 dX7_read_113 ?_
            refine lv_iload_n X.1 X.2.1 dX7_read_116 rfl (lv_at hl 2 rfl) ?_
            obtain ⟨M12, eM12, hres⟩ := m_bd_e hres
            refine m_pi3 X hSt hP hS m_kept_0.1 2 (by decide) eM12 rfl rfl (by decide) k_f_X7_100 dX7_read_117 (fun H locs hP hS => ?_)
            refine lv_sipush (v := (-1000)) X.1 X.2.1 dX7_read_120 (by decide) ?_
            refine lv_iload X.1 X.2.1 dX7_read_123 (lv_at hl 3 rfl) ?_
            refine lv_isub X.1 X.2.1 dX7_read_125 ?_
            exact m_ri X hr hlk hP hS (Prod.mk.inj (Option.some.inj hres)).1 (Prod.mk.inj (Option.some.inj hres)).2 dX7_read_126
  unfold f_X7_read at hres
  refine lv_aload_n X.1 X.2.1 dX7_read_0 rfl (lv_at hl 0 rfl) ?_
  refine m_g7 (v := .ref (m_ad G 168)) X hSt hP m_z_0 5 (by decide) rfl k_f_X7_43 dX7_read_1 ?_
  obtain ⟨r13, M14, err13, hres⟩ := m_o2_e hres
  refine m_bi (m_cV (n := 0) (As := []) (rest := []) X hSt hP hS hl.1 (c_X2_flawOfAll l G  err13) k_c_yX2_flawOfAll k_m_X7_93 k_i_yX2_flawOfAll k_s_yX2_flawOfAll k_n_X2 (by decide +kernel) (m_rc2 hSt hP m_z_168) rfl rfl ⟨Nat.le_of_ble_eq_true rfl, Nat.le_of_ble_eq_true rfl⟩ (Nat.le_of_ble_eq_true rfl) ⟨Nat.zero_le _, Nat.zero_le _⟩ dX7_read_4) hS (fun H locs hP hS => ?_)
  refine lv_istore_n (lv' := [(1, .int r13), (0, .ref (m_ad G 0))]) X.1 X.2.1 dX7_read_7 rfl hl (by decide) rfl (fun ls hl => ?_)
  refine lv_iload_n X.1 X.2.1 dX7_read_8 rfl (lv_at hl 0 rfl) ?_
  refine lv_iconst (v := (-1)) X.1 X.2.1 dX7_read_9 (by decide) ?_
  refine lv_icmp_eq (tgt := 18) X.1 X.2.1 dX7_read_10 (by decide) (fun hc15 => ?_) (fun hc15 => ?_)
  · have hres := m_it hres hc15
    refine lv_aload_n X.1 X.2.1 dX7_read_18 rfl (lv_at hl 1 rfl) ?_
    refine m_g7 (v := .ref (m_ad G 1)) X hSt hP m_z_0 0 (by decide) rfl k_f_X7_10 dX7_read_19 ?_
    refine m_g3 (v := .int (M14.1 1 1)) X hSt hP m_kept_0.1 1 (by decide) rfl k_f_X7_97 dX7_read_22 ?_
    refine lv_istore_n (lv' := [(2, .int (M14.1 1 1)), (1, .int r13), (0, .ref (m_ad G 0))]) X.1 X.2.1 dX7_read_25 rfl hl (by decide) rfl (fun ls hl => ?_)
    refine lv_aload_n X.1 X.2.1 dX7_read_26 rfl (lv_at hl 2 rfl) ?_
    refine m_g7 (v := .ref (m_ad G 1)) X hSt hP m_z_0 0 (by decide) rfl k_f_X7_10 dX7_read_27 ?_
    refine m_g3 (v := .int (M14.1 1 2)) X hSt hP m_kept_0.1 2 (by decide) rfl k_f_X7_100 dX7_read_30 ?_
    refine lv_istore_n (lv' := [(3, .int (M14.1 1 2)), (2, .int (M14.1 1 1)), (1, .int r13), (0, .ref (m_ad G 0))]) X.1 X.2.1 dX7_read_33 rfl hl (by decide) rfl (fun ls hl => ?_)
    refine lv_iconst (v := 0) X.1 X.2.1 dX7_read_34 (by decide) ?_
    refine lv_istore (lv' := [(4, .int 0), (3, .int (M14.1 1 2)), (2, .int (M14.1 1 1)), (1, .int r13), (0, .ref (m_ad G 0))]) X.1 X.2.1 dX7_read_35 hl (by decide) rfl (fun ls hl => ?_)
    refine lv_aload_n X.1 X.2.1 dX7_read_37 rfl (lv_at hl 4 rfl) ?_
    refine m_g7 (v := .ref (m_ad G 168)) X hSt hP m_z_0 5 (by decide) rfl k_f_X7_43 dX7_read_38 ?_
    obtain ⟨M16, eM16, hres⟩ := m_bd_e hres
    refine m_bv (m_cV (n := 0) (As := []) (rest := []) X hSt hP hS hl.1 (c_X2_goToStart l G  eM16) k_c_yX2_goToStart k_m_X7_103 k_i_yX2_goToStart k_s_yX2_goToStart k_n_X2 (by decide +kernel) (m_rc2 hSt hP m_z_168) rfl rfl ⟨Nat.le_of_ble_eq_true rfl, Nat.le_of_ble_eq_true rfl⟩ (Nat.le_of_ble_eq_true rfl) ⟨Nat.zero_le _, Nat.zero_le _⟩ dX7_read_41) hS (fun H locs hP hS => ?_)
    exact B44 n (M14.1 1 1) (M14.1 1 2) 0 M16 _ _ _ hP hS (lv_sub hl [4, 2, 1, 0] rfl) hres
  · have hres := m_if hres hc15
    refine lv_bipush (v := (-10)) X.1 X.2.1 dX7_read_13 (by decide) ?_
    refine lv_iload_n X.1 X.2.1 dX7_read_15 rfl (lv_at hl 0 rfl) ?_
    refine lv_isub X.1 X.2.1 dX7_read_16 ?_
    exact m_ri X hr hlk hP hS (Prod.mk.inj (Option.some.inj hres)).1 (Prod.mk.inj (Option.some.inj hres)).2 dX7_read_17
theorem dX6_sharedParts_0 : decode cX6_sharedParts 0 = .ok (.lconst 0, 1) := by decide +kernel
theorem dX6_sharedParts_1 : decode cX6_sharedParts 1 = .ok (.lstore_n 3, 1) := by decide +kernel
theorem dX6_sharedParts_2 : decode cX6_sharedParts 2 = .ok (.iconst 0, 1) := by decide +kernel
theorem dX6_sharedParts_3 : decode cX6_sharedParts 3 = .ok (.istore 5, 2) := by decide +kernel
theorem dX6_sharedParts_5 : decode cX6_sharedParts 5 = .ok (.iconst 0, 1) := by decide +kernel
theorem dX6_sharedParts_6 : decode cX6_sharedParts 6 = .ok (.istore 6, 2) := by decide +kernel
theorem dX6_sharedParts_8 : decode cX6_sharedParts 8 = .ok (.iload 6, 2) := by decide +kernel
theorem dX6_sharedParts_10 : decode cX6_sharedParts 10 = .ok (.aload_n 0, 1) := by decide +kernel
theorem dX6_sharedParts_11 : decode cX6_sharedParts 11 = .ok (.getfield 43, 3) := by decide +kernel
theorem dX6_sharedParts_14 : decode cX6_sharedParts 14 = .ok (.if_icmp .ge 79, 3) := by decide +kernel
theorem dX6_sharedParts_17 : decode cX6_sharedParts 17 = .ok (.iload_n 2, 1) := by decide +kernel
theorem dX6_sharedParts_18 : decode cX6_sharedParts 18 = .ok (.iload 6, 2) := by decide +kernel
theorem dX6_sharedParts_20 : decode cX6_sharedParts 20 = .ok (.invokestatic 120, 3) := by decide +kernel
theorem dX6_sharedParts_23 : decode cX6_sharedParts 23 = .ok (.ifCond .eq 64, 3) := by decide +kernel
theorem dX6_sharedParts_26 : decode cX6_sharedParts 26 = .ok (.aload_n 0, 1) := by decide +kernel
theorem dX6_sharedParts_27 : decode cX6_sharedParts 27 = .ok (.getfield 9, 3) := by decide +kernel
theorem dX6_sharedParts_30 : decode cX6_sharedParts 30 = .ok (.iload 6, 2) := by decide +kernel
theorem dX6_sharedParts_32 : decode cX6_sharedParts 32 = .ok (.iaload, 1) := by decide +kernel
theorem dX6_sharedParts_33 : decode cX6_sharedParts 33 = .ok (.iload_n 1, 1) := by decide +kernel
theorem dX6_sharedParts_34 : decode cX6_sharedParts 34 = .ok (.if_icmp .ne 53, 3) := by decide +kernel
theorem dX6_sharedParts_37 : decode cX6_sharedParts 37 = .ok (.aload_n 0, 1) := by decide +kernel
theorem dX6_sharedParts_38 : decode cX6_sharedParts 38 = .ok (.getfield 15, 3) := by decide +kernel
theorem dX6_sharedParts_41 : decode cX6_sharedParts 41 = .ok (.iload 6, 2) := by decide +kernel
theorem dX6_sharedParts_43 : decode cX6_sharedParts 43 = .ok (.iaload, 1) := by decide +kernel
theorem dX6_sharedParts_44 : decode cX6_sharedParts 44 = .ok (.ifCond .lt 43, 3) := by decide +kernel
theorem dX6_sharedParts_47 : decode cX6_sharedParts 47 = .ok (.iload 5, 2) := by decide +kernel
theorem dX6_sharedParts_49 : decode cX6_sharedParts 49 = .ok (.aload_n 0, 1) := by decide +kernel
theorem dX6_sharedParts_50 : decode cX6_sharedParts 50 = .ok (.getfield 15, 3) := by decide +kernel
theorem dX6_sharedParts_53 : decode cX6_sharedParts 53 = .ok (.iload 6, 2) := by decide +kernel
theorem dX6_sharedParts_55 : decode cX6_sharedParts 55 = .ok (.iaload, 1) := by decide +kernel
theorem dX6_sharedParts_56 : decode cX6_sharedParts 56 = .ok (.invokestatic 120, 3) := by decide +kernel
theorem dX6_sharedParts_59 : decode cX6_sharedParts 59 = .ok (.ifCond .ne 28, 3) := by decide +kernel
theorem dX6_sharedParts_62 : decode cX6_sharedParts 62 = .ok (.iload 5, 2) := by decide +kernel
theorem dX6_sharedParts_64 : decode cX6_sharedParts 64 = .ok (.iconst 1, 1) := by decide +kernel
theorem dX6_sharedParts_65 : decode cX6_sharedParts 65 = .ok (.aload_n 0, 1) := by decide +kernel
theorem dX6_sharedParts_66 : decode cX6_sharedParts 66 = .ok (.getfield 15, 3) := by decide +kernel
theorem dX6_sharedParts_69 : decode cX6_sharedParts 69 = .ok (.iload 6, 2) := by decide +kernel
theorem dX6_sharedParts_71 : decode cX6_sharedParts 71 = .ok (.iaload, 1) := by decide +kernel
theorem dX6_sharedParts_72 : decode cX6_sharedParts 72 = .ok (.ishl, 1) := by decide +kernel
theorem dX6_sharedParts_73 : decode cX6_sharedParts 73 = .ok (.ior, 1) := by decide +kernel
theorem dX6_sharedParts_74 : decode cX6_sharedParts 74 = .ok (.istore 5, 2) := by decide +kernel
theorem dX6_sharedParts_76 : decode cX6_sharedParts 76 = .ok (.lload_n 3, 1) := by decide +kernel
theorem dX6_sharedParts_77 : decode cX6_sharedParts 77 = .ok (.aload_n 0, 1) := by decide +kernel
theorem dX6_sharedParts_78 : decode cX6_sharedParts 78 = .ok (.getfield 24, 3) := by decide +kernel
theorem dX6_sharedParts_81 : decode cX6_sharedParts 81 = .ok (.iload 6, 2) := by decide +kernel
theorem dX6_sharedParts_83 : decode cX6_sharedParts 83 = .ok (.iaload, 1) := by decide +kernel
theorem dX6_sharedParts_84 : decode cX6_sharedParts 84 = .ok (.i2l, 1) := by decide +kernel
theorem dX6_sharedParts_85 : decode cX6_sharedParts 85 = .ok (.ladd, 1) := by decide +kernel
theorem dX6_sharedParts_86 : decode cX6_sharedParts 86 = .ok (.lstore_n 3, 1) := by decide +kernel
theorem dX6_sharedParts_87 : decode cX6_sharedParts 87 = .ok (.iinc 6 1, 3) := by decide +kernel
theorem dX6_sharedParts_90 : decode cX6_sharedParts 90 = .ok (.goto (-82), 3) := by decide +kernel
theorem dX6_sharedParts_93 : decode cX6_sharedParts 93 = .ok (.lload_n 3, 1) := by decide +kernel
theorem dX6_sharedParts_94 : decode cX6_sharedParts 94 = .ok (.lreturn, 1) := by decide +kernel
def f_X6_sharedParts_b8 (n : Nat) (x1 : Int32) (x2 : Int32) (M : m_M) : Nat → Int64 → Int32 → Int32 → Option Int64
  | 0, _, _, _ => none
  | u + 1, x3, x5, x6 =>
    if (M.1 159 0) ≤ x6 then
  some x3
  else
  m_bd (f_X6_isIn x2 x6) fun r2 =>
  if r2 = 0 then
  f_X6_sharedParts_b8 n x1 x2 M u x3 x5 (x6 + 1)
  else
  m_gd (m_in x6 6) (
  if (M.1 160 x6.toNatClampNeg) = x1 then
  if (M.1 161 x6.toNatClampNeg) < 0 then
  f_X6_sharedParts_b8 n x1 x2 M u x3 x5 (x6 + 1)
  else
  m_bd (f_X6_isIn x5 (M.1 161 x6.toNatClampNeg)) fun r8 =>
  if r8 = 0 then
  m_bd (x5 ||| ((1 : Int32) <<< ((M.1 161 x6.toNatClampNeg) &&& 31))) fun t11 =>
  m_bd (x3 + ((M.1 164 x6.toNatClampNeg).toInt64)) fun t12 =>
  f_X6_sharedParts_b8 n x1 x2 M u t12 t11 (x6 + 1)
  else
  f_X6_sharedParts_b8 n x1 x2 M u x3 x5 (x6 + 1)
  else
  f_X6_sharedParts_b8 n x1 x2 M u x3 x5 (x6 + 1))
def f_X6_sharedParts (n : Nat) (x1 : Int32) (x2 : Int32) (M : m_M) : Option Int64 :=
  f_X6_sharedParts_b8 n x1 x2 M n 0 0 0
set_option maxHeartbeats 4000000 in
set_option maxRecDepth 100000 in
theorem c_X6_sharedParts (l : Launch) (G : m_G) {n : Nat} {x1 : Int32} {x2 : Int32} {M : m_M} {r0 : Int64}  (hres : f_X6_sharedParts n x1 x2 M = some r0) : Met l yX6_sharedParts (m_U yX6_sharedParts cX6_sharedParts 7 (some .long)) (m_R 1 21) (m_Pc G [.ref (m_ad G 159), .int x1, .int x2] M) (m_Ql G r0 M) 0 0 (m_A G) := by
  refine m_i0 (n := 7) RX6 rfl (by decide) (Nat.le_of_ble_eq_true rfl) ?_
  intro p e s m args below meth c X hr hlk hSt hP hS ls hl
  have hl : lv_has ls 7 [(0, .ref (m_ad G 159)), (1, .int x1), (2, .int x2)] := hl
  have B8 : ∀ (u : Nat) (x3 : Int64) (x5 : Int32) (x6 : Int32) (H : Heap) (locs : List Loc) (ls : Array Slot), m_P G M H → va_S (m_A G) s.heap H locs → lv_has ls 7 [(0, .ref (m_ad G 159)), (1, .int x1), (2, .int x2), (3, .long x3), (5, .int x5), (6, .int x6)] → f_X6_sharedParts_b8 n x1 x2 M u x3 x5 x6 = some r0 → W p l e (m_R 1 21) s m args below meth c H locs 0 0 (MQ below (m_Ql G r0 M) args s 0 0 (m_A G)) (F0 m 8 ls []) := by
    intro u
    induction u with
    | zero =>
      intro x3 x5 x6 H locs ls hP hS hl hres
      cases hres
    | succ u ih =>
      intro x3 x5 x6 H locs ls hP hS hl hres
      rw [f_X6_sharedParts_b8] at hres
      refine lv_iload X.1 X.2.1 dX6_sharedParts_8 (lv_at hl 5 rfl) ?_
      refine lv_aload_n X.1 X.2.1 dX6_sharedParts_10 rfl (lv_at hl 0 rfl) ?_
      refine m_g6 (v := .int (M.1 159 0)) X hSt hP m_z_159 0 (by decide) rfl k_f_X6_43 dX6_sharedParts_11 ?_
      refine lv_icmp_ge (tgt := 93) X.1 X.2.1 dX6_sharedParts_14 (by decide) (fun hc1 => ?_) (fun hc1 => ?_)
      · have hres := m_it hres hc1
        refine lv_lload_n X.1 X.2.1 dX6_sharedParts_93 rfl (lv_at hl 3 rfl) ?_
        exact m_rl X hr hlk hP hS (Option.some.inj hres) rfl dX6_sharedParts_94
      · have hres := m_if hres hc1
        refine lv_iload_n X.1 X.2.1 dX6_sharedParts_17 rfl (lv_at hl 2 rfl) ?_
        refine lv_iload X.1 X.2.1 dX6_sharedParts_18 (lv_at hl 5 rfl) ?_
        obtain ⟨r2, err2, hres⟩ := m_bd_e hres
        refine m_bz (m_cS (n := 2) (As := [.int x2, .int x6]) (rest := []) X hSt hP hS hl.1 (c_X6_isIn l G (M := M)  err2) k_c_yX6_isIn k_m_X6_120 k_t_yX6_isIn k_n_X6 (by decide +kernel) rfl rfl ⟨Nat.le_of_ble_eq_true rfl, Nat.le_of_ble_eq_true rfl⟩ (Nat.le_of_ble_eq_true rfl) ⟨Nat.zero_le _, Nat.zero_le _⟩ dX6_sharedParts_20) hS (fun H locs hP hS hz3 => ?_)
        refine lv_if_eq (tgt := 87) X.1 X.2.1 dX6_sharedParts_23 (by decide) (fun hc4 => ?_) (fun hc4 => ?_)
        · have hres := m_it hres hc4
          refine lv_iinc (v := (x6 + 1)) (lv' := [(6, .int (x6 + 1)), (0, .ref (m_ad G 159)), (1, .int x1), (2, .int x2), (3, .long x3), (5, .int x5)]) X.1 X.2.1 dX6_sharedParts_87 hl (k := 5) rfl rfl (by decide) rfl (fun ls hl => ?_)
          refine lv_goto (tgt := 8) X.1 X.2.1 dX6_sharedParts_90 (by decide) ?_
          exact ih x3 x5 (x6 + 1) _ _ _ hP hS (lv_sub hl [1, 2, 3, 4, 5, 0] rfl) hres
        · have hres := m_if hres hc4
          refine lv_aload_n X.1 X.2.1 dX6_sharedParts_26 rfl (lv_at hl 0 rfl) ?_
          refine m_g6 (v := .ref (m_ad G 160)) X hSt hP m_z_159 1 (by decide) rfl k_f_X6_9 dX6_sharedParts_27 ?_
          refine lv_iload X.1 X.2.1 dX6_sharedParts_30 (lv_at hl 5 rfl) ?_
          obtain ⟨hg5, hres⟩ := m_gd_e hres
          refine m_ia (j := x6.toNatClampNeg) X hSt hP m_z_160 hg5 rfl dX6_sharedParts_32 ?_
          refine lv_iload_n X.1 X.2.1 dX6_sharedParts_33 rfl (lv_at hl 1 rfl) ?_
          refine lv_icmp_ne (tgt := 87) X.1 X.2.1 dX6_sharedParts_34 (by decide) (fun hc6 => ?_) (fun hc6 => ?_)
          · have hres := m_if hres hc6
            refine lv_iinc (v := (x6 + 1)) (lv' := [(6, .int (x6 + 1)), (0, .ref (m_ad G 159)), (1, .int x1), (2, .int x2), (3, .long x3), (5, .int x5)]) X.1 X.2.1 dX6_sharedParts_87 hl (k := 5) rfl rfl (by decide) rfl (fun ls hl => ?_)
            refine lv_goto (tgt := 8) X.1 X.2.1 dX6_sharedParts_90 (by decide) ?_
            exact ih x3 x5 (x6 + 1) _ _ _ hP hS (lv_sub hl [1, 2, 3, 4, 5, 0] rfl) hres
          · have hres := m_it hres hc6
            refine lv_aload_n X.1 X.2.1 dX6_sharedParts_37 rfl (lv_at hl 0 rfl) ?_
            refine m_g6 (v := .ref (m_ad G 161)) X hSt hP m_z_159 2 (by decide) rfl k_f_X6_15 dX6_sharedParts_38 ?_
            refine lv_iload X.1 X.2.1 dX6_sharedParts_41 (lv_at hl 5 rfl) ?_
            refine m_ia (j := x6.toNatClampNeg) X hSt hP m_z_161 hg5 rfl dX6_sharedParts_43 ?_
            refine lv_if_lt (tgt := 87) X.1 X.2.1 dX6_sharedParts_44 (by decide) (fun hc7 => ?_) (fun hc7 => ?_)
            · have hres := m_it hres hc7
              refine lv_iinc (v := (x6 + 1)) (lv' := [(6, .int (x6 + 1)), (0, .ref (m_ad G 159)), (1, .int x1), (2, .int x2), (3, .long x3), (5, .int x5)]) X.1 X.2.1 dX6_sharedParts_87 hl (k := 5) rfl rfl (by decide) rfl (fun ls hl => ?_)
              refine lv_goto (tgt := 8) X.1 X.2.1 dX6_sharedParts_90 (by decide) ?_
              exact ih x3 x5 (x6 + 1) _ _ _ hP hS (lv_sub hl [1, 2, 3, 4, 5, 0] rfl) hres
            · have hres := m_if hres hc7
              refine lv_iload X.1 X.2.1 dX6_sharedParts_47 (lv_at hl 4 rfl) ?_
              refine lv_aload_n X.1 X.2.1 dX6_sharedParts_49 rfl (lv_at hl 0 rfl) ?_
              refine m_g6 (v := .ref (m_ad G 161)) X hSt hP m_z_159 2 (by decide) rfl k_f_X6_15 dX6_sharedParts_50 ?_
              refine lv_iload X.1 X.2.1 dX6_sharedParts_53 (lv_at hl 5 rfl) ?_
              refine m_ia (j := x6.toNatClampNeg) X hSt hP m_z_161 hg5 rfl dX6_sharedParts_55 ?_
              obtain ⟨r8, err8, hres⟩ := m_bd_e hres
              refine m_bz (m_cS (n := 2) (As := [.int x5, .int (M.1 161 x6.toNatClampNeg)]) (rest := []) X hSt hP hS hl.1 (c_X6_isIn l G (M := M)  err8) k_c_yX6_isIn k_m_X6_120 k_t_yX6_isIn k_n_X6 (by decide +kernel) rfl rfl ⟨Nat.le_of_ble_eq_true rfl, Nat.le_of_ble_eq_true rfl⟩ (Nat.le_of_ble_eq_true rfl) ⟨Nat.zero_le _, Nat.zero_le _⟩ dX6_sharedParts_56) hS (fun H locs hP hS hz9 => ?_)
              refine lv_if_ne (tgt := 87) X.1 X.2.1 dX6_sharedParts_59 (by decide) (fun hc10 => ?_) (fun hc10 => ?_)
              · have hres := m_if hres hc10
                refine lv_iinc (v := (x6 + 1)) (lv' := [(6, .int (x6 + 1)), (0, .ref (m_ad G 159)), (1, .int x1), (2, .int x2), (3, .long x3), (5, .int x5)]) X.1 X.2.1 dX6_sharedParts_87 hl (k := 5) rfl rfl (by decide) rfl (fun ls hl => ?_)
                refine lv_goto (tgt := 8) X.1 X.2.1 dX6_sharedParts_90 (by decide) ?_
                exact ih x3 x5 (x6 + 1) _ _ _ hP hS (lv_sub hl [1, 2, 3, 4, 5, 0] rfl) hres
              · have hres := m_it hres hc10
                refine lv_iload X.1 X.2.1 dX6_sharedParts_62 (lv_at hl 4 rfl) ?_
                refine lv_iconst (v := 1) X.1 X.2.1 dX6_sharedParts_64 (by decide) ?_
                refine lv_aload_n X.1 X.2.1 dX6_sharedParts_65 rfl (lv_at hl 0 rfl) ?_
                refine m_g6 (v := .ref (m_ad G 161)) X hSt hP m_z_159 2 (by decide) rfl k_f_X6_15 dX6_sharedParts_66 ?_
                refine lv_iload X.1 X.2.1 dX6_sharedParts_69 (lv_at hl 5 rfl) ?_
                refine m_ia (j := x6.toNatClampNeg) X hSt hP m_z_161 hg5 rfl dX6_sharedParts_71 ?_
                refine lv_ishl X.1 X.2.1 dX6_sharedParts_72 ?_
                refine lv_ior X.1 X.2.1 dX6_sharedParts_73 ?_
                obtain ⟨t11, et11, hres⟩ := m_bd_e hres
                refine m_ti et11 ?_
                refine lv_istore (lv' := [(5, .int t11), (0, .ref (m_ad G 159)), (1, .int x1), (2, .int x2), (3, .long x3), (6, .int x6)]) X.1 X.2.1 dX6_sharedParts_74 hl (by decide) rfl (fun ls hl => ?_)
                refine lv_lload_n X.1 X.2.1 dX6_sharedParts_76 rfl (lv_at hl 4 rfl) ?_
                refine lv_aload_n X.1 X.2.1 dX6_sharedParts_77 rfl (lv_at hl 1 rfl) ?_
                refine m_g6 (v := .ref (m_ad G 164)) X hSt hP m_z_159 5 (by decide) rfl k_f_X6_24 dX6_sharedParts_78 ?_
                refine lv_iload X.1 X.2.1 dX6_sharedParts_81 (lv_at hl 5 rfl) ?_
                refine m_ia (j := x6.toNatClampNeg) X hSt hP m_z_164 hg5 rfl dX6_sharedParts_83 ?_
                refine lv_i2l (v := (M.1 164 x6.toNatClampNeg).toInt64) X.1 X.2.1 dX6_sharedParts_84 rfl ?_
                refine lv_ladd X.1 X.2.1 dX6_sharedParts_85 ?_
                obtain ⟨t12, et12, hres⟩ := m_bd_e hres
                refine m_tl et12 ?_
                refine lv_lstore_n (lv' := [(3, .long t12), (5, .int t11), (0, .ref (m_ad G 159)), (1, .int x1), (2, .int x2), (6, .int x6)]) X.1 X.2.1 dX6_sharedParts_86 rfl hl (by decide) rfl (fun ls hl => ?_)
                refine lv_iinc (v := (x6 + 1)) (lv' := [(6, .int (x6 + 1)), (3, .long t12), (5, .int t11), (0, .ref (m_ad G 159)), (1, .int x1), (2, .int x2)]) X.1 X.2.1 dX6_sharedParts_87 hl (k := 5) rfl rfl (by decide) rfl (fun ls hl => ?_)
                refine lv_goto (tgt := 8) X.1 X.2.1 dX6_sharedParts_90 (by decide) ?_
                exact ih t12 t11 (x6 + 1) _ _ _ hP hS (lv_sub hl [3, 4, 5, 1, 2, 0] rfl) hres
  unfold f_X6_sharedParts at hres
  refine lv_lconst (v := 0) X.1 X.2.1 dX6_sharedParts_0 (by decide) ?_
  refine lv_lstore_n (lv' := [(3, .long 0), (0, .ref (m_ad G 159)), (1, .int x1), (2, .int x2)]) X.1 X.2.1 dX6_sharedParts_1 rfl hl (by decide) rfl (fun ls hl => ?_)
  refine lv_iconst (v := 0) X.1 X.2.1 dX6_sharedParts_2 (by decide) ?_
  refine lv_istore (lv' := [(5, .int 0), (3, .long 0), (0, .ref (m_ad G 159)), (1, .int x1), (2, .int x2)]) X.1 X.2.1 dX6_sharedParts_3 hl (by decide) rfl (fun ls hl => ?_)
  refine lv_iconst (v := 0) X.1 X.2.1 dX6_sharedParts_5 (by decide) ?_
  refine lv_istore (lv' := [(6, .int 0), (5, .int 0), (3, .long 0), (0, .ref (m_ad G 159)), (1, .int x1), (2, .int x2)]) X.1 X.2.1 dX6_sharedParts_6 hl (by decide) rfl (fun ls hl => ?_)
  exact B8 n 0 0 0 _ _ _ hP hS (lv_sub hl [3, 4, 5, 2, 1, 0] rfl) hres
theorem dX6_fromPurse_0 : decode cX6_fromPurse 0 = .ok (.aload_n 0, 1) := by decide +kernel
theorem dX6_fromPurse_1 : decode cX6_fromPurse 1 = .ok (.aload_n 0, 1) := by decide +kernel
theorem dX6_fromPurse_2 : decode cX6_fromPurse 2 = .ok (.getfield 9, 3) := by decide +kernel
theorem dX6_fromPurse_5 : decode cX6_fromPurse 5 = .ok (.iload_n 1, 1) := by decide +kernel
theorem dX6_fromPurse_6 : decode cX6_fromPurse 6 = .ok (.iaload, 1) := by decide +kernel
theorem dX6_fromPurse_7 : decode cX6_fromPurse 7 = .ok (.iload_n 2, 1) := by decide +kernel
theorem dX6_fromPurse_8 : decode cX6_fromPurse 8 = .ok (.invokevirtual 116, 3) := by decide +kernel
theorem dX6_fromPurse_11 : decode cX6_fromPurse 11 = .ok (.lstore_n 3, 1) := by decide +kernel
theorem dX6_fromPurse_12 : decode cX6_fromPurse 12 = .ok (.iconst 0, 1) := by decide +kernel
theorem dX6_fromPurse_13 : decode cX6_fromPurse 13 = .ok (.istore 5, 2) := by decide +kernel
theorem dX6_fromPurse_15 : decode cX6_fromPurse 15 = .ok (.iload 5, 2) := by decide +kernel
theorem dX6_fromPurse_17 : decode cX6_fromPurse 17 = .ok (.iload_n 1, 1) := by decide +kernel
theorem dX6_fromPurse_18 : decode cX6_fromPurse 18 = .ok (.if_icmp .ge 44, 3) := by decide +kernel
theorem dX6_fromPurse_21 : decode cX6_fromPurse 21 = .ok (.aload_n 0, 1) := by decide +kernel
theorem dX6_fromPurse_22 : decode cX6_fromPurse 22 = .ok (.getfield 9, 3) := by decide +kernel
theorem dX6_fromPurse_25 : decode cX6_fromPurse 25 = .ok (.iload 5, 2) := by decide +kernel
theorem dX6_fromPurse_27 : decode cX6_fromPurse 27 = .ok (.iaload, 1) := by decide +kernel
theorem dX6_fromPurse_28 : decode cX6_fromPurse 28 = .ok (.aload_n 0, 1) := by decide +kernel
theorem dX6_fromPurse_29 : decode cX6_fromPurse 29 = .ok (.getfield 9, 3) := by decide +kernel
theorem dX6_fromPurse_32 : decode cX6_fromPurse 32 = .ok (.iload_n 1, 1) := by decide +kernel
theorem dX6_fromPurse_33 : decode cX6_fromPurse 33 = .ok (.iaload, 1) := by decide +kernel
theorem dX6_fromPurse_34 : decode cX6_fromPurse 34 = .ok (.if_icmp .ne 22, 3) := by decide +kernel
theorem dX6_fromPurse_37 : decode cX6_fromPurse 37 = .ok (.iload_n 2, 1) := by decide +kernel
theorem dX6_fromPurse_38 : decode cX6_fromPurse 38 = .ok (.iload 5, 2) := by decide +kernel
theorem dX6_fromPurse_40 : decode cX6_fromPurse 40 = .ok (.invokestatic 120, 3) := by decide +kernel
theorem dX6_fromPurse_43 : decode cX6_fromPurse 43 = .ok (.ifCond .ne 13, 3) := by decide +kernel
theorem dX6_fromPurse_46 : decode cX6_fromPurse 46 = .ok (.lload_n 3, 1) := by decide +kernel
theorem dX6_fromPurse_47 : decode cX6_fromPurse 47 = .ok (.aload_n 0, 1) := by decide +kernel
theorem dX6_fromPurse_48 : decode cX6_fromPurse 48 = .ok (.iload 5, 2) := by decide +kernel
theorem dX6_fromPurse_50 : decode cX6_fromPurse 50 = .ok (.lload_n 3, 1) := by decide +kernel
theorem dX6_fromPurse_51 : decode cX6_fromPurse 51 = .ok (.invokevirtual 124, 3) := by decide +kernel
theorem dX6_fromPurse_54 : decode cX6_fromPurse 54 = .ok (.ladd, 1) := by decide +kernel
theorem dX6_fromPurse_55 : decode cX6_fromPurse 55 = .ok (.lstore_n 3, 1) := by decide +kernel
theorem dX6_fromPurse_56 : decode cX6_fromPurse 56 = .ok (.iinc 5 1, 3) := by decide +kernel
theorem dX6_fromPurse_59 : decode cX6_fromPurse 59 = .ok (.goto (-44), 3) := by decide +kernel
theorem dX6_fromPurse_62 : decode cX6_fromPurse 62 = .ok (.aload_n 0, 1) := by decide +kernel
theorem dX6_fromPurse_63 : decode cX6_fromPurse 63 = .ok (.iload_n 1, 1) := by decide +kernel
theorem dX6_fromPurse_64 : decode cX6_fromPurse 64 = .ok (.lload_n 3, 1) := by decide +kernel
theorem dX6_fromPurse_65 : decode cX6_fromPurse 65 = .ok (.invokevirtual 124, 3) := by decide +kernel
theorem dX6_fromPurse_68 : decode cX6_fromPurse 68 = .ok (.lreturn, 1) := by decide +kernel
def f_X6_fromPurse_b15 (n : Nat) (x1 : Int32) (x2 : Int32) (M : m_M) : Nat → Int64 → Int32 → Option Int64
  | 0, _, _ => none
  | u + 1, x3, x5 =>
    if x1 ≤ x5 then
  m_ob (f_X6_take x1 x3 M) fun r2 =>
  some r2
  else
  m_gd (m_in x5 6) (
  m_gd (m_in x1 6) (
  if (M.1 160 x5.toNatClampNeg) = (M.1 160 x1.toNatClampNeg) then
  m_bd (f_X6_isIn x2 x5) fun r6 =>
  if r6 = 0 then
  m_ob (f_X6_take x5 x3 M) fun r9 =>
  f_X6_fromPurse_b15 n x1 x2 M u (x3 + r9) (x5 + 1)
  else
  f_X6_fromPurse_b15 n x1 x2 M u x3 (x5 + 1)
  else
  f_X6_fromPurse_b15 n x1 x2 M u x3 (x5 + 1)))
def f_X6_fromPurse (n : Nat) (x1 : Int32) (x2 : Int32) (M : m_M) : Option Int64 :=
  m_gd (m_in x1 6) (
  m_ob (f_X6_sharedParts n (M.1 160 x1.toNatClampNeg) x2 M) fun r11 =>
  f_X6_fromPurse_b15 n x1 x2 M n r11 0)
set_option maxHeartbeats 4000000 in
set_option maxRecDepth 100000 in
theorem c_X6_fromPurse (l : Launch) (G : m_G) {n : Nat} {x1 : Int32} {x2 : Int32} {M : m_M} {r0 : Int64}  (hres : f_X6_fromPurse n x1 x2 M = some r0) : Met l yX6_fromPurse (m_U yX6_fromPurse cX6_fromPurse 6 (some .long)) (m_R 2 53) (m_Pc G [.ref (m_ad G 159), .int x1, .int x2] M) (m_Ql G r0 M) 0 0 (m_A G) := by
  refine m_i0 (n := 6) RX6 rfl (by decide) (Nat.le_of_ble_eq_true rfl) ?_
  intro p e s m args below meth c X hr hlk hSt hP hS ls hl
  have hl : lv_has ls 6 [(0, .ref (m_ad G 159)), (1, .int x1), (2, .int x2)] := hl
  have B15 : ∀ (u : Nat) (x3 : Int64) (x5 : Int32) (H : Heap) (locs : List Loc) (ls : Array Slot), m_P G M H → va_S (m_A G) s.heap H locs → lv_has ls 6 [(0, .ref (m_ad G 159)), (1, .int x1), (2, .int x2), (3, .long x3), (5, .int x5)] → f_X6_fromPurse_b15 n x1 x2 M u x3 x5 = some r0 → W p l e (m_R 2 53) s m args below meth c H locs 0 0 (MQ below (m_Ql G r0 M) args s 0 0 (m_A G)) (F0 m 15 ls []) := by
    intro u
    induction u with
    | zero =>
      intro x3 x5 H locs ls hP hS hl hres
      cases hres
    | succ u ih =>
      intro x3 x5 H locs ls hP hS hl hres
      rw [f_X6_fromPurse_b15] at hres
      refine lv_iload X.1 X.2.1 dX6_fromPurse_15 (lv_at hl 4 rfl) ?_
      refine lv_iload_n X.1 X.2.1 dX6_fromPurse_17 rfl (lv_at hl 1 rfl) ?_
      refine lv_icmp_ge (tgt := 62) X.1 X.2.1 dX6_fromPurse_18 (by decide) (fun hc1 => ?_) (fun hc1 => ?_)
      · have hres := m_it hres hc1
        refine lv_aload_n X.1 X.2.1 dX6_fromPurse_62 rfl (lv_at hl 0 rfl) ?_
        refine lv_iload_n X.1 X.2.1 dX6_fromPurse_63 rfl (lv_at hl 1 rfl) ?_
        refine lv_lload_n X.1 X.2.1 dX6_fromPurse_64 rfl (lv_at hl 3 rfl) ?_
        obtain ⟨r2, err2, hres⟩ := m_ob_e hres
        refine m_bl (m_cV (n := 2) (As := [.int x1, .long x3]) (rest := []) X hSt hP hS hl.1 (c_X6_take l G  err2) k_c_yX6_take k_m_X6_124 k_i_yX6_take k_s_yX6_take k_n_X6 (by decide +kernel) (m_rc6 hSt hP m_z_159) rfl rfl ⟨Nat.le_of_ble_eq_true rfl, Nat.le_of_ble_eq_true rfl⟩ (Nat.le_of_ble_eq_true rfl) ⟨Nat.zero_le _, Nat.zero_le _⟩ dX6_fromPurse_65) hS (fun H locs hP hS => ?_)
        exact m_rl X hr hlk hP hS (Option.some.inj hres) rfl dX6_fromPurse_68
      · have hres := m_if hres hc1
        refine lv_aload_n X.1 X.2.1 dX6_fromPurse_21 rfl (lv_at hl 0 rfl) ?_
        refine m_g6 (v := .ref (m_ad G 160)) X hSt hP m_z_159 1 (by decide) rfl k_f_X6_9 dX6_fromPurse_22 ?_
        refine lv_iload X.1 X.2.1 dX6_fromPurse_25 (lv_at hl 4 rfl) ?_
        obtain ⟨hg3, hres⟩ := m_gd_e hres
        refine m_ia (j := x5.toNatClampNeg) X hSt hP m_z_160 hg3 rfl dX6_fromPurse_27 ?_
        refine lv_aload_n X.1 X.2.1 dX6_fromPurse_28 rfl (lv_at hl 0 rfl) ?_
        refine m_g6 (v := .ref (m_ad G 160)) X hSt hP m_z_159 1 (by decide) rfl k_f_X6_9 dX6_fromPurse_29 ?_
        refine lv_iload_n X.1 X.2.1 dX6_fromPurse_32 rfl (lv_at hl 1 rfl) ?_
        obtain ⟨hg4, hres⟩ := m_gd_e hres
        refine m_ia (j := x1.toNatClampNeg) X hSt hP m_z_160 hg4 rfl dX6_fromPurse_33 ?_
        refine lv_icmp_ne (tgt := 56) X.1 X.2.1 dX6_fromPurse_34 (by decide) (fun hc5 => ?_) (fun hc5 => ?_)
        · have hres := m_if hres hc5
          refine lv_iinc (v := (x5 + 1)) (lv' := [(5, .int (x5 + 1)), (0, .ref (m_ad G 159)), (1, .int x1), (2, .int x2), (3, .long x3)]) X.1 X.2.1 dX6_fromPurse_56 hl (k := 4) rfl rfl (by decide) rfl (fun ls hl => ?_)
          refine lv_goto (tgt := 15) X.1 X.2.1 dX6_fromPurse_59 (by decide) ?_
          exact ih x3 (x5 + 1) _ _ _ hP hS (lv_sub hl [1, 2, 3, 4, 0] rfl) hres
        · have hres := m_it hres hc5
          refine lv_iload_n X.1 X.2.1 dX6_fromPurse_37 rfl (lv_at hl 2 rfl) ?_
          refine lv_iload X.1 X.2.1 dX6_fromPurse_38 (lv_at hl 4 rfl) ?_
          obtain ⟨r6, err6, hres⟩ := m_bd_e hres
          refine m_bz (m_cS (n := 2) (As := [.int x2, .int x5]) (rest := []) X hSt hP hS hl.1 (c_X6_isIn l G (M := M)  err6) k_c_yX6_isIn k_m_X6_120 k_t_yX6_isIn k_n_X6 (by decide +kernel) rfl rfl ⟨Nat.le_of_ble_eq_true rfl, Nat.le_of_ble_eq_true rfl⟩ (Nat.le_of_ble_eq_true rfl) ⟨Nat.zero_le _, Nat.zero_le _⟩ dX6_fromPurse_40) hS (fun H locs hP hS hz7 => ?_)
          refine lv_if_ne (tgt := 56) X.1 X.2.1 dX6_fromPurse_43 (by decide) (fun hc8 => ?_) (fun hc8 => ?_)
          · have hres := m_if hres hc8
            refine lv_iinc (v := (x5 + 1)) (lv' := [(5, .int (x5 + 1)), (0, .ref (m_ad G 159)), (1, .int x1), (2, .int x2), (3, .long x3)]) X.1 X.2.1 dX6_fromPurse_56 hl (k := 4) rfl rfl (by decide) rfl (fun ls hl => ?_)
            refine lv_goto (tgt := 15) X.1 X.2.1 dX6_fromPurse_59 (by decide) ?_
            exact ih x3 (x5 + 1) _ _ _ hP hS (lv_sub hl [1, 2, 3, 4, 0] rfl) hres
          · have hres := m_it hres hc8
            refine lv_lload_n X.1 X.2.1 dX6_fromPurse_46 rfl (lv_at hl 3 rfl) ?_
            refine lv_aload_n X.1 X.2.1 dX6_fromPurse_47 rfl (lv_at hl 0 rfl) ?_
            refine lv_iload X.1 X.2.1 dX6_fromPurse_48 (lv_at hl 4 rfl) ?_
            refine lv_lload_n X.1 X.2.1 dX6_fromPurse_50 rfl (lv_at hl 3 rfl) ?_
            obtain ⟨r9, err9, hres⟩ := m_ob_e hres
            refine m_bl (m_cV (n := 2) (As := [.int x5, .long x3]) (rest := [.long x3]) X hSt hP hS hl.1 (c_X6_take l G  err9) k_c_yX6_take k_m_X6_124 k_i_yX6_take k_s_yX6_take k_n_X6 (by decide +kernel) (m_rc6 hSt hP m_z_159) rfl rfl ⟨Nat.le_of_ble_eq_true rfl, Nat.le_of_ble_eq_true rfl⟩ (Nat.le_of_ble_eq_true rfl) ⟨Nat.zero_le _, Nat.zero_le _⟩ dX6_fromPurse_51) hS (fun H locs hP hS => ?_)
            refine lv_ladd X.1 X.2.1 dX6_fromPurse_54 ?_
            refine lv_lstore_n (lv' := [(3, .long (x3 + r9)), (0, .ref (m_ad G 159)), (1, .int x1), (2, .int x2), (5, .int x5)]) X.1 X.2.1 dX6_fromPurse_55 rfl hl (by decide) rfl (fun ls hl => ?_)
            refine lv_iinc (v := (x5 + 1)) (lv' := [(5, .int (x5 + 1)), (3, .long (x3 + r9)), (0, .ref (m_ad G 159)), (1, .int x1), (2, .int x2)]) X.1 X.2.1 dX6_fromPurse_56 hl (k := 4) rfl rfl (by decide) rfl (fun ls hl => ?_)
            refine lv_goto (tgt := 15) X.1 X.2.1 dX6_fromPurse_59 (by decide) ?_
            exact ih (x3 + r9) (x5 + 1) _ _ _ hP hS (lv_sub hl [2, 3, 4, 1, 0] rfl) hres
  unfold f_X6_fromPurse at hres
  refine lv_aload_n X.1 X.2.1 dX6_fromPurse_0 rfl (lv_at hl 0 rfl) ?_
  refine lv_aload_n X.1 X.2.1 dX6_fromPurse_1 rfl (lv_at hl 0 rfl) ?_
  refine m_g6 (v := .ref (m_ad G 160)) X hSt hP m_z_159 1 (by decide) rfl k_f_X6_9 dX6_fromPurse_2 ?_
  refine lv_iload_n X.1 X.2.1 dX6_fromPurse_5 rfl (lv_at hl 1 rfl) ?_
  obtain ⟨hg10, hres⟩ := m_gd_e hres
  refine m_ia (j := x1.toNatClampNeg) X hSt hP m_z_160 hg10 rfl dX6_fromPurse_6 ?_
  refine lv_iload_n X.1 X.2.1 dX6_fromPurse_7 rfl (lv_at hl 2 rfl) ?_
  obtain ⟨r11, err11, hres⟩ := m_ob_e hres
  refine m_bl (m_cV (n := 2) (As := [.int (M.1 160 x1.toNatClampNeg), .int x2]) (rest := []) X hSt hP hS hl.1 (c_X6_sharedParts l G  err11) k_c_yX6_sharedParts k_m_X6_116 k_i_yX6_sharedParts k_s_yX6_sharedParts k_n_X6 (by decide +kernel) (m_rc6 hSt hP m_z_159) rfl rfl ⟨Nat.le_of_ble_eq_true rfl, Nat.le_of_ble_eq_true rfl⟩ (Nat.le_of_ble_eq_true rfl) ⟨Nat.zero_le _, Nat.zero_le _⟩ dX6_fromPurse_8) hS (fun H locs hP hS => ?_)
  refine lv_lstore_n (lv' := [(3, .long r11), (0, .ref (m_ad G 159)), (1, .int x1), (2, .int x2)]) X.1 X.2.1 dX6_fromPurse_11 rfl hl (by decide) rfl (fun ls hl => ?_)
  refine lv_iconst (v := 0) X.1 X.2.1 dX6_fromPurse_12 (by decide) ?_
  refine lv_istore (lv' := [(5, .int 0), (3, .long r11), (0, .ref (m_ad G 159)), (1, .int x1), (2, .int x2)]) X.1 X.2.1 dX6_fromPurse_13 hl (by decide) rfl (fun ls hl => ?_)
  exact B15 n r11 0 _ _ _ hP hS (lv_sub hl [2, 3, 4, 1, 0] rfl) hres
theorem dX6_sharersOwed_0 : decode cX6_sharersOwed 0 = .ok (.aload_n 0, 1) := by decide +kernel
theorem dX6_sharersOwed_1 : decode cX6_sharersOwed 1 = .ok (.getfield 27, 3) := by decide +kernel
theorem dX6_sharersOwed_4 : decode cX6_sharersOwed 4 = .ok (.iload_n 1, 1) := by decide +kernel
theorem dX6_sharersOwed_5 : decode cX6_sharersOwed 5 = .ok (.iaload, 1) := by decide +kernel
theorem dX6_sharersOwed_6 : decode cX6_sharersOwed 6 = .ok (.i2l, 1) := by decide +kernel
theorem dX6_sharersOwed_7 : decode cX6_sharersOwed 7 = .ok (.lstore_n 3, 1) := by decide +kernel
theorem dX6_sharersOwed_8 : decode cX6_sharersOwed 8 = .ok (.iconst 0, 1) := by decide +kernel
theorem dX6_sharersOwed_9 : decode cX6_sharersOwed 9 = .ok (.istore 5, 2) := by decide +kernel
theorem dX6_sharersOwed_11 : decode cX6_sharersOwed 11 = .ok (.iload 5, 2) := by decide +kernel
theorem dX6_sharersOwed_13 : decode cX6_sharersOwed 13 = .ok (.aload_n 0, 1) := by decide +kernel
theorem dX6_sharersOwed_14 : decode cX6_sharersOwed 14 = .ok (.getfield 43, 3) := by decide +kernel
theorem dX6_sharersOwed_17 : decode cX6_sharersOwed 17 = .ok (.if_icmp .ge 61, 3) := by decide +kernel
theorem dX6_sharersOwed_20 : decode cX6_sharersOwed 20 = .ok (.iload_n 2, 1) := by decide +kernel
theorem dX6_sharersOwed_21 : decode cX6_sharersOwed 21 = .ok (.iload 5, 2) := by decide +kernel
theorem dX6_sharersOwed_23 : decode cX6_sharersOwed 23 = .ok (.invokestatic 120, 3) := by decide +kernel
theorem dX6_sharersOwed_26 : decode cX6_sharersOwed 26 = .ok (.ifCond .eq 46, 3) := by decide +kernel
theorem dX6_sharersOwed_29 : decode cX6_sharersOwed 29 = .ok (.aload_n 0, 1) := by decide +kernel
theorem dX6_sharersOwed_30 : decode cX6_sharersOwed 30 = .ok (.getfield 9, 3) := by decide +kernel
theorem dX6_sharersOwed_33 : decode cX6_sharersOwed 33 = .ok (.iload 5, 2) := by decide +kernel
theorem dX6_sharersOwed_35 : decode cX6_sharersOwed 35 = .ok (.iaload, 1) := by decide +kernel
theorem dX6_sharersOwed_36 : decode cX6_sharersOwed 36 = .ok (.aload_n 0, 1) := by decide +kernel
theorem dX6_sharersOwed_37 : decode cX6_sharersOwed 37 = .ok (.getfield 9, 3) := by decide +kernel
theorem dX6_sharersOwed_40 : decode cX6_sharersOwed 40 = .ok (.iload_n 1, 1) := by decide +kernel
theorem dX6_sharersOwed_41 : decode cX6_sharersOwed 41 = .ok (.iaload, 1) := by decide +kernel
theorem dX6_sharersOwed_42 : decode cX6_sharersOwed 42 = .ok (.if_icmp .ne 30, 3) := by decide +kernel
theorem dX6_sharersOwed_45 : decode cX6_sharersOwed 45 = .ok (.aload_n 0, 1) := by decide +kernel
theorem dX6_sharersOwed_46 : decode cX6_sharersOwed 46 = .ok (.getfield 15, 3) := by decide +kernel
theorem dX6_sharersOwed_49 : decode cX6_sharersOwed 49 = .ok (.iload 5, 2) := by decide +kernel
theorem dX6_sharersOwed_51 : decode cX6_sharersOwed 51 = .ok (.iaload, 1) := by decide +kernel
theorem dX6_sharersOwed_52 : decode cX6_sharersOwed 52 = .ok (.aload_n 0, 1) := by decide +kernel
theorem dX6_sharersOwed_53 : decode cX6_sharersOwed 53 = .ok (.getfield 15, 3) := by decide +kernel
theorem dX6_sharersOwed_56 : decode cX6_sharersOwed 56 = .ok (.iload_n 1, 1) := by decide +kernel
theorem dX6_sharersOwed_57 : decode cX6_sharersOwed 57 = .ok (.iaload, 1) := by decide +kernel
theorem dX6_sharersOwed_58 : decode cX6_sharersOwed 58 = .ok (.if_icmp .ne 14, 3) := by decide +kernel
theorem dX6_sharersOwed_61 : decode cX6_sharersOwed 61 = .ok (.lload_n 3, 1) := by decide +kernel
theorem dX6_sharersOwed_62 : decode cX6_sharersOwed 62 = .ok (.aload_n 0, 1) := by decide +kernel
theorem dX6_sharersOwed_63 : decode cX6_sharersOwed 63 = .ok (.getfield 18, 3) := by decide +kernel
theorem dX6_sharersOwed_66 : decode cX6_sharersOwed 66 = .ok (.iload 5, 2) := by decide +kernel
theorem dX6_sharersOwed_68 : decode cX6_sharersOwed 68 = .ok (.iaload, 1) := by decide +kernel
theorem dX6_sharersOwed_69 : decode cX6_sharersOwed 69 = .ok (.i2l, 1) := by decide +kernel
theorem dX6_sharersOwed_70 : decode cX6_sharersOwed 70 = .ok (.ladd, 1) := by decide +kernel
theorem dX6_sharersOwed_71 : decode cX6_sharersOwed 71 = .ok (.lstore_n 3, 1) := by decide +kernel
theorem dX6_sharersOwed_72 : decode cX6_sharersOwed 72 = .ok (.iinc 5 1, 3) := by decide +kernel
theorem dX6_sharersOwed_75 : decode cX6_sharersOwed 75 = .ok (.goto (-64), 3) := by decide +kernel
theorem dX6_sharersOwed_78 : decode cX6_sharersOwed 78 = .ok (.lload_n 3, 1) := by decide +kernel
theorem dX6_sharersOwed_79 : decode cX6_sharersOwed 79 = .ok (.lreturn, 1) := by decide +kernel
def f_X6_sharersOwed_b11 (n : Nat) (x1 : Int32) (x2 : Int32) (M : m_M) : Nat → Int64 → Int32 → Option Int64
  | 0, _, _ => none
  | u + 1, x3, x5 =>
    if (M.1 159 0) ≤ x5 then
  some x3
  else
  m_bd (f_X6_isIn x2 x5) fun r2 =>
  if r2 = 0 then
  f_X6_sharersOwed_b11 n x1 x2 M u x3 (x5 + 1)
  else
  m_gd (m_in x5 6) (
  m_gd (m_in x1 6) (
  if (M.1 160 x5.toNatClampNeg) = (M.1 160 x1.toNatClampNeg) then
  if (M.1 161 x5.toNatClampNeg) = (M.1 161 x1.toNatClampNeg) then
  m_bd (x3 + ((M.1 162 x5.toNatClampNeg).toInt64)) fun t9 =>
  f_X6_sharersOwed_b11 n x1 x2 M u t9 (x5 + 1)
  else
  f_X6_sharersOwed_b11 n x1 x2 M u x3 (x5 + 1)
  else
  f_X6_sharersOwed_b11 n x1 x2 M u x3 (x5 + 1)))
def f_X6_sharersOwed (n : Nat) (x1 : Int32) (x2 : Int32) (M : m_M) : Option Int64 :=
  m_gd (m_in x1 6) (
  f_X6_sharersOwed_b11 n x1 x2 M n ((M.1 165 x1.toNatClampNeg).toInt64) 0)
set_option maxHeartbeats 4000000 in
set_option maxRecDepth 100000 in
theorem c_X6_sharersOwed (l : Launch) (G : m_G) {n : Nat} {x1 : Int32} {x2 : Int32} {M : m_M} {r0 : Int64}  (hres : f_X6_sharersOwed n x1 x2 M = some r0) : Met l yX6_sharersOwed (m_U yX6_sharersOwed cX6_sharersOwed 6 (some .long)) (m_R 1 21) (m_Pc G [.ref (m_ad G 159), .int x1, .int x2] M) (m_Ql G r0 M) 0 0 (m_A G) := by
  refine m_i0 (n := 6) RX6 rfl (by decide) (Nat.le_of_ble_eq_true rfl) ?_
  intro p e s m args below meth c X hr hlk hSt hP hS ls hl
  have hl : lv_has ls 6 [(0, .ref (m_ad G 159)), (1, .int x1), (2, .int x2)] := hl
  have B11 : ∀ (u : Nat) (x3 : Int64) (x5 : Int32) (H : Heap) (locs : List Loc) (ls : Array Slot), m_P G M H → va_S (m_A G) s.heap H locs → lv_has ls 6 [(0, .ref (m_ad G 159)), (1, .int x1), (2, .int x2), (3, .long x3), (5, .int x5)] → f_X6_sharersOwed_b11 n x1 x2 M u x3 x5 = some r0 → W p l e (m_R 1 21) s m args below meth c H locs 0 0 (MQ below (m_Ql G r0 M) args s 0 0 (m_A G)) (F0 m 11 ls []) := by
    intro u
    induction u with
    | zero =>
      intro x3 x5 H locs ls hP hS hl hres
      cases hres
    | succ u ih =>
      intro x3 x5 H locs ls hP hS hl hres
      rw [f_X6_sharersOwed_b11] at hres
      refine lv_iload X.1 X.2.1 dX6_sharersOwed_11 (lv_at hl 4 rfl) ?_
      refine lv_aload_n X.1 X.2.1 dX6_sharersOwed_13 rfl (lv_at hl 0 rfl) ?_
      refine m_g6 (v := .int (M.1 159 0)) X hSt hP m_z_159 0 (by decide) rfl k_f_X6_43 dX6_sharersOwed_14 ?_
      refine lv_icmp_ge (tgt := 78) X.1 X.2.1 dX6_sharersOwed_17 (by decide) (fun hc1 => ?_) (fun hc1 => ?_)
      · have hres := m_it hres hc1
        refine lv_lload_n X.1 X.2.1 dX6_sharersOwed_78 rfl (lv_at hl 3 rfl) ?_
        exact m_rl X hr hlk hP hS (Option.some.inj hres) rfl dX6_sharersOwed_79
      · have hres := m_if hres hc1
        refine lv_iload_n X.1 X.2.1 dX6_sharersOwed_20 rfl (lv_at hl 2 rfl) ?_
        refine lv_iload X.1 X.2.1 dX6_sharersOwed_21 (lv_at hl 4 rfl) ?_
        obtain ⟨r2, err2, hres⟩ := m_bd_e hres
        refine m_bz (m_cS (n := 2) (As := [.int x2, .int x5]) (rest := []) X hSt hP hS hl.1 (c_X6_isIn l G (M := M)  err2) k_c_yX6_isIn k_m_X6_120 k_t_yX6_isIn k_n_X6 (by decide +kernel) rfl rfl ⟨Nat.le_of_ble_eq_true rfl, Nat.le_of_ble_eq_true rfl⟩ (Nat.le_of_ble_eq_true rfl) ⟨Nat.zero_le _, Nat.zero_le _⟩ dX6_sharersOwed_23) hS (fun H locs hP hS hz3 => ?_)
        refine lv_if_eq (tgt := 72) X.1 X.2.1 dX6_sharersOwed_26 (by decide) (fun hc4 => ?_) (fun hc4 => ?_)
        · have hres := m_it hres hc4
          refine lv_iinc (v := (x5 + 1)) (lv' := [(5, .int (x5 + 1)), (0, .ref (m_ad G 159)), (1, .int x1), (2, .int x2), (3, .long x3)]) X.1 X.2.1 dX6_sharersOwed_72 hl (k := 4) rfl rfl (by decide) rfl (fun ls hl => ?_)
          refine lv_goto (tgt := 11) X.1 X.2.1 dX6_sharersOwed_75 (by decide) ?_
          exact ih x3 (x5 + 1) _ _ _ hP hS (lv_sub hl [1, 2, 3, 4, 0] rfl) hres
        · have hres := m_if hres hc4
          refine lv_aload_n X.1 X.2.1 dX6_sharersOwed_29 rfl (lv_at hl 0 rfl) ?_
          refine m_g6 (v := .ref (m_ad G 160)) X hSt hP m_z_159 1 (by decide) rfl k_f_X6_9 dX6_sharersOwed_30 ?_
          refine lv_iload X.1 X.2.1 dX6_sharersOwed_33 (lv_at hl 4 rfl) ?_
          obtain ⟨hg5, hres⟩ := m_gd_e hres
          refine m_ia (j := x5.toNatClampNeg) X hSt hP m_z_160 hg5 rfl dX6_sharersOwed_35 ?_
          refine lv_aload_n X.1 X.2.1 dX6_sharersOwed_36 rfl (lv_at hl 0 rfl) ?_
          refine m_g6 (v := .ref (m_ad G 160)) X hSt hP m_z_159 1 (by decide) rfl k_f_X6_9 dX6_sharersOwed_37 ?_
          refine lv_iload_n X.1 X.2.1 dX6_sharersOwed_40 rfl (lv_at hl 1 rfl) ?_
          obtain ⟨hg6, hres⟩ := m_gd_e hres
          refine m_ia (j := x1.toNatClampNeg) X hSt hP m_z_160 hg6 rfl dX6_sharersOwed_41 ?_
          refine lv_icmp_ne (tgt := 72) X.1 X.2.1 dX6_sharersOwed_42 (by decide) (fun hc7 => ?_) (fun hc7 => ?_)
          · have hres := m_if hres hc7
            refine lv_iinc (v := (x5 + 1)) (lv' := [(5, .int (x5 + 1)), (0, .ref (m_ad G 159)), (1, .int x1), (2, .int x2), (3, .long x3)]) X.1 X.2.1 dX6_sharersOwed_72 hl (k := 4) rfl rfl (by decide) rfl (fun ls hl => ?_)
            refine lv_goto (tgt := 11) X.1 X.2.1 dX6_sharersOwed_75 (by decide) ?_
            exact ih x3 (x5 + 1) _ _ _ hP hS (lv_sub hl [1, 2, 3, 4, 0] rfl) hres
          · have hres := m_it hres hc7
            refine lv_aload_n X.1 X.2.1 dX6_sharersOwed_45 rfl (lv_at hl 0 rfl) ?_
            refine m_g6 (v := .ref (m_ad G 161)) X hSt hP m_z_159 2 (by decide) rfl k_f_X6_15 dX6_sharersOwed_46 ?_
            refine lv_iload X.1 X.2.1 dX6_sharersOwed_49 (lv_at hl 4 rfl) ?_
            refine m_ia (j := x5.toNatClampNeg) X hSt hP m_z_161 hg5 rfl dX6_sharersOwed_51 ?_
            refine lv_aload_n X.1 X.2.1 dX6_sharersOwed_52 rfl (lv_at hl 0 rfl) ?_
            refine m_g6 (v := .ref (m_ad G 161)) X hSt hP m_z_159 2 (by decide) rfl k_f_X6_15 dX6_sharersOwed_53 ?_
            refine lv_iload_n X.1 X.2.1 dX6_sharersOwed_56 rfl (lv_at hl 1 rfl) ?_
            refine m_ia (j := x1.toNatClampNeg) X hSt hP m_z_161 hg6 rfl dX6_sharersOwed_57 ?_
            refine lv_icmp_ne (tgt := 72) X.1 X.2.1 dX6_sharersOwed_58 (by decide) (fun hc8 => ?_) (fun hc8 => ?_)
            · have hres := m_if hres hc8
              refine lv_iinc (v := (x5 + 1)) (lv' := [(5, .int (x5 + 1)), (0, .ref (m_ad G 159)), (1, .int x1), (2, .int x2), (3, .long x3)]) X.1 X.2.1 dX6_sharersOwed_72 hl (k := 4) rfl rfl (by decide) rfl (fun ls hl => ?_)
              refine lv_goto (tgt := 11) X.1 X.2.1 dX6_sharersOwed_75 (by decide) ?_
              exact ih x3 (x5 + 1) _ _ _ hP hS (lv_sub hl [1, 2, 3, 4, 0] rfl) hres
            · have hres := m_it hres hc8
              refine lv_lload_n X.1 X.2.1 dX6_sharersOwed_61 rfl (lv_at hl 3 rfl) ?_
              refine lv_aload_n X.1 X.2.1 dX6_sharersOwed_62 rfl (lv_at hl 0 rfl) ?_
              refine m_g6 (v := .ref (m_ad G 162)) X hSt hP m_z_159 3 (by decide) rfl k_f_X6_18 dX6_sharersOwed_63 ?_
              refine lv_iload X.1 X.2.1 dX6_sharersOwed_66 (lv_at hl 4 rfl) ?_
              refine m_ia (j := x5.toNatClampNeg) X hSt hP m_z_162 hg5 rfl dX6_sharersOwed_68 ?_
              refine lv_i2l (v := (M.1 162 x5.toNatClampNeg).toInt64) X.1 X.2.1 dX6_sharersOwed_69 rfl ?_
              refine lv_ladd X.1 X.2.1 dX6_sharersOwed_70 ?_
              obtain ⟨t9, et9, hres⟩ := m_bd_e hres
              refine m_tl et9 ?_
              refine lv_lstore_n (lv' := [(3, .long t9), (0, .ref (m_ad G 159)), (1, .int x1), (2, .int x2), (5, .int x5)]) X.1 X.2.1 dX6_sharersOwed_71 rfl hl (by decide) rfl (fun ls hl => ?_)
              refine lv_iinc (v := (x5 + 1)) (lv' := [(5, .int (x5 + 1)), (3, .long t9), (0, .ref (m_ad G 159)), (1, .int x1), (2, .int x2)]) X.1 X.2.1 dX6_sharersOwed_72 hl (k := 4) rfl rfl (by decide) rfl (fun ls hl => ?_)
              refine lv_goto (tgt := 11) X.1 X.2.1 dX6_sharersOwed_75 (by decide) ?_
              exact ih t9 (x5 + 1) _ _ _ hP hS (lv_sub hl [2, 3, 4, 1, 0] rfl) hres
  unfold f_X6_sharersOwed at hres
  refine lv_aload_n X.1 X.2.1 dX6_sharersOwed_0 rfl (lv_at hl 0 rfl) ?_
  refine m_g6 (v := .ref (m_ad G 165)) X hSt hP m_z_159 6 (by decide) rfl k_f_X6_27 dX6_sharersOwed_1 ?_
  refine lv_iload_n X.1 X.2.1 dX6_sharersOwed_4 rfl (lv_at hl 1 rfl) ?_
  obtain ⟨hg10, hres⟩ := m_gd_e hres
  refine m_ia (j := x1.toNatClampNeg) X hSt hP m_z_165 hg10 rfl dX6_sharersOwed_5 ?_
  refine lv_i2l (v := (M.1 165 x1.toNatClampNeg).toInt64) X.1 X.2.1 dX6_sharersOwed_6 rfl ?_
  refine lv_lstore_n (lv' := [(3, .long ((M.1 165 x1.toNatClampNeg).toInt64)), (0, .ref (m_ad G 159)), (1, .int x1), (2, .int x2)]) X.1 X.2.1 dX6_sharersOwed_7 rfl hl (by decide) rfl (fun ls hl => ?_)
  refine lv_iconst (v := 0) X.1 X.2.1 dX6_sharersOwed_8 (by decide) ?_
  refine lv_istore (lv' := [(5, .int 0), (3, .long ((M.1 165 x1.toNatClampNeg).toInt64)), (0, .ref (m_ad G 159)), (1, .int x1), (2, .int x2)]) X.1 X.2.1 dX6_sharersOwed_9 hl (by decide) rfl (fun ls hl => ?_)
  exact B11 n ((M.1 165 x1.toNatClampNeg).toInt64) 0 _ _ _ hP hS (lv_sub hl [2, 3, 4, 1, 0] rfl) hres
theorem dX6_shareAbove_0 : decode cX6_shareAbove 0 = .ok (.aload_n 0, 1) := by decide +kernel
theorem dX6_shareAbove_1 : decode cX6_shareAbove 1 = .ok (.getfield 34, 3) := by decide +kernel
theorem dX6_shareAbove_4 : decode cX6_shareAbove 4 = .ok (.iload_n 1, 1) := by decide +kernel
theorem dX6_shareAbove_5 : decode cX6_shareAbove 5 = .ok (.baload, 1) := by decide +kernel
theorem dX6_shareAbove_6 : decode cX6_shareAbove 6 = .ok (.ifCond .eq 33, 3) := by decide +kernel
theorem dX6_shareAbove_9 : decode cX6_shareAbove 9 = .ok (.aload_n 0, 1) := by decide +kernel
theorem dX6_shareAbove_10 : decode cX6_shareAbove 10 = .ok (.getfield 18, 3) := by decide +kernel
theorem dX6_shareAbove_13 : decode cX6_shareAbove 13 = .ok (.iload_n 1, 1) := by decide +kernel
theorem dX6_shareAbove_14 : decode cX6_shareAbove 14 = .ok (.iaload, 1) := by decide +kernel
theorem dX6_shareAbove_15 : decode cX6_shareAbove 15 = .ok (.i2l, 1) := by decide +kernel
theorem dX6_shareAbove_16 : decode cX6_shareAbove 16 = .ok (.aload_n 0, 1) := by decide +kernel
theorem dX6_shareAbove_17 : decode cX6_shareAbove 17 = .ok (.getfield 24, 3) := by decide +kernel
theorem dX6_shareAbove_20 : decode cX6_shareAbove 20 = .ok (.iload_n 1, 1) := by decide +kernel
theorem dX6_shareAbove_21 : decode cX6_shareAbove 21 = .ok (.iaload, 1) := by decide +kernel
theorem dX6_shareAbove_22 : decode cX6_shareAbove 22 = .ok (.i2l, 1) := by decide +kernel
theorem dX6_shareAbove_23 : decode cX6_shareAbove 23 = .ok (.lmul, 1) := by decide +kernel
theorem dX6_shareAbove_24 : decode cX6_shareAbove 24 = .ok (.aload_n 0, 1) := by decide +kernel
theorem dX6_shareAbove_25 : decode cX6_shareAbove 25 = .ok (.getfield 18, 3) := by decide +kernel
theorem dX6_shareAbove_28 : decode cX6_shareAbove 28 = .ok (.iload_n 1, 1) := by decide +kernel
theorem dX6_shareAbove_29 : decode cX6_shareAbove 29 = .ok (.iaload, 1) := by decide +kernel
theorem dX6_shareAbove_30 : decode cX6_shareAbove 30 = .ok (.i2l, 1) := by decide +kernel
theorem dX6_shareAbove_31 : decode cX6_shareAbove 31 = .ok (.lload_n 2, 1) := by decide +kernel
theorem dX6_shareAbove_32 : decode cX6_shareAbove 32 = .ok (.lmul, 1) := by decide +kernel
theorem dX6_shareAbove_33 : decode cX6_shareAbove 33 = .ok (.invokestatic 107, 3) := by decide +kernel
theorem dX6_shareAbove_36 : decode cX6_shareAbove 36 = .ok (.goto 4, 3) := by decide +kernel
theorem dX6_shareAbove_39 : decode cX6_shareAbove 39 = .ok (.lconst 0, 1) := by decide +kernel
theorem dX6_shareAbove_40 : decode cX6_shareAbove 40 = .ok (.lreturn, 1) := by decide +kernel
def f_X6_shareAbove (x1 : Int32) (x2 : Int64) (M : m_M) : Option Int64 :=
  m_gd (m_in x1 6) (
  if (M.1 167 x1.toNatClampNeg) = 0 then
  some 0
  else
  m_bd (m_minJ (((M.1 162 x1.toNatClampNeg).toInt64) * ((M.1 164 x1.toNatClampNeg).toInt64)) (((M.1 162 x1.toNatClampNeg).toInt64) * x2)) fun r3 =>
  some r3)
set_option maxHeartbeats 4000000 in
set_option maxRecDepth 100000 in
theorem c_X6_shareAbove (l : Launch) (G : m_G) {x1 : Int32} {x2 : Int64} {M : m_M} {r0 : Int64}  (hres : f_X6_shareAbove x1 x2 M = some r0) : Met l yX6_shareAbove (m_U yX6_shareAbove cX6_shareAbove 4 (some .long)) (m_R 1 30) (m_Pc G [.ref (m_ad G 159), .int x1, .long x2] M) (m_Ql G r0 M) 0 0 (m_A G) := by
  refine m_i0 (n := 4) RX6 rfl (by decide) (Nat.le_of_ble_eq_true rfl) ?_
  intro p e s m args below meth c X hr hlk hSt hP hS ls hl
  have hl : lv_has ls 4 [(0, .ref (m_ad G 159)), (1, .int x1), (2, .long x2)] := hl
  unfold f_X6_shareAbove at hres
  refine lv_aload_n X.1 X.2.1 dX6_shareAbove_0 rfl (lv_at hl 0 rfl) ?_
  refine m_g6 (v := .ref (m_ad G 167)) X hSt hP m_z_159 8 (by decide) rfl k_f_X6_34 dX6_shareAbove_1 ?_
  refine lv_iload_n X.1 X.2.1 dX6_shareAbove_4 rfl (lv_at hl 1 rfl) ?_
  obtain ⟨hg1, hres⟩ := m_gd_e hres
  refine m_za (j := x1.toNatClampNeg) X hSt hP m_z_167 hg1 rfl dX6_shareAbove_5 ?_
  refine lv_if_eq (tgt := 39) X.1 X.2.1 dX6_shareAbove_6 (by decide) (fun hc2 => ?_) (fun hc2 => ?_)
  · have hres := m_it hres hc2
    refine lv_lconst (v := 0) X.1 X.2.1 dX6_shareAbove_39 (by decide) ?_
    exact m_rl X hr hlk hP hS (Option.some.inj hres) rfl dX6_shareAbove_40
  · have hres := m_if hres hc2
    refine lv_aload_n X.1 X.2.1 dX6_shareAbove_9 rfl (lv_at hl 0 rfl) ?_
    refine m_g6 (v := .ref (m_ad G 162)) X hSt hP m_z_159 3 (by decide) rfl k_f_X6_18 dX6_shareAbove_10 ?_
    refine lv_iload_n X.1 X.2.1 dX6_shareAbove_13 rfl (lv_at hl 1 rfl) ?_
    refine m_ia (j := x1.toNatClampNeg) X hSt hP m_z_162 hg1 rfl dX6_shareAbove_14 ?_
    refine lv_i2l (v := (M.1 162 x1.toNatClampNeg).toInt64) X.1 X.2.1 dX6_shareAbove_15 rfl ?_
    refine lv_aload_n X.1 X.2.1 dX6_shareAbove_16 rfl (lv_at hl 0 rfl) ?_
    refine m_g6 (v := .ref (m_ad G 164)) X hSt hP m_z_159 5 (by decide) rfl k_f_X6_24 dX6_shareAbove_17 ?_
    refine lv_iload_n X.1 X.2.1 dX6_shareAbove_20 rfl (lv_at hl 1 rfl) ?_
    refine m_ia (j := x1.toNatClampNeg) X hSt hP m_z_164 hg1 rfl dX6_shareAbove_21 ?_
    refine lv_i2l (v := (M.1 164 x1.toNatClampNeg).toInt64) X.1 X.2.1 dX6_shareAbove_22 rfl ?_
    refine lv_lmul X.1 X.2.1 dX6_shareAbove_23 ?_
    refine lv_aload_n X.1 X.2.1 dX6_shareAbove_24 rfl (lv_at hl 0 rfl) ?_
    refine m_g6 (v := .ref (m_ad G 162)) X hSt hP m_z_159 3 (by decide) rfl k_f_X6_18 dX6_shareAbove_25 ?_
    refine lv_iload_n X.1 X.2.1 dX6_shareAbove_28 rfl (lv_at hl 1 rfl) ?_
    refine m_ia (j := x1.toNatClampNeg) X hSt hP m_z_162 hg1 rfl dX6_shareAbove_29 ?_
    refine lv_i2l (v := (M.1 162 x1.toNatClampNeg).toInt64) X.1 X.2.1 dX6_shareAbove_30 rfl ?_
    refine lv_lload_n X.1 X.2.1 dX6_shareAbove_31 rfl (lv_at hl 2 rfl) ?_
    refine lv_lmul X.1 X.2.1 dX6_shareAbove_32 ?_
    obtain ⟨r3, err3, hres⟩ := m_bd_e hres
    refine m_mnJ (rest := []) X hl.1 k_m_X6_107 k_t_yJ9_min_f86c9 k_n_J9 k_c_yJ9_min_f86c9 (Nat.le_of_ble_eq_true rfl) (Nat.le_of_ble_eq_true rfl) ⟨Nat.zero_le _, Nat.zero_le _⟩ dX6_shareAbove_33 err3 ?_
    refine lv_goto (tgt := 40) X.1 X.2.1 dX6_shareAbove_36 (by decide) ?_
    exact m_rl X hr hlk hP hS (Option.some.inj hres) rfl dX6_shareAbove_40
theorem dX6_isBetterOtherwise_0 : decode cX6_isBetterOtherwise 0 = .ok (.iload_n 2, 1) := by decide +kernel
theorem dX6_isBetterOtherwise_1 : decode cX6_isBetterOtherwise 1 = .ok (.iconst 1, 1) := by decide +kernel
theorem dX6_isBetterOtherwise_2 : decode cX6_isBetterOtherwise 2 = .ok (.iload_n 1, 1) := by decide +kernel
theorem dX6_isBetterOtherwise_3 : decode cX6_isBetterOtherwise 3 = .ok (.ishl, 1) := by decide +kernel
theorem dX6_isBetterOtherwise_4 : decode cX6_isBetterOtherwise 4 = .ok (.ior, 1) := by decide +kernel
theorem dX6_isBetterOtherwise_5 : decode cX6_isBetterOtherwise 5 = .ok (.istore_n 3, 1) := by decide +kernel
theorem dX6_isBetterOtherwise_6 : decode cX6_isBetterOtherwise 6 = .ok (.aload_n 0, 1) := by decide +kernel
theorem dX6_isBetterOtherwise_7 : decode cX6_isBetterOtherwise 7 = .ok (.iload_n 1, 1) := by decide +kernel
theorem dX6_isBetterOtherwise_8 : decode cX6_isBetterOtherwise 8 = .ok (.iload_n 3, 1) := by decide +kernel
theorem dX6_isBetterOtherwise_9 : decode cX6_isBetterOtherwise 9 = .ok (.iconst 1, 1) := by decide +kernel
theorem dX6_isBetterOtherwise_10 : decode cX6_isBetterOtherwise 10 = .ok (.iload_n 1, 1) := by decide +kernel
theorem dX6_isBetterOtherwise_11 : decode cX6_isBetterOtherwise 11 = .ok (.ishl, 1) := by decide +kernel
theorem dX6_isBetterOtherwise_12 : decode cX6_isBetterOtherwise 12 = .ok (.ixor, 1) := by decide +kernel
theorem dX6_isBetterOtherwise_13 : decode cX6_isBetterOtherwise 13 = .ok (.invokevirtual 142, 3) := by decide +kernel
theorem dX6_isBetterOtherwise_16 : decode cX6_isBetterOtherwise 16 = .ok (.lstore 4, 2) := by decide +kernel
theorem dX6_isBetterOtherwise_18 : decode cX6_isBetterOtherwise 18 = .ok (.aload_n 0, 1) := by decide +kernel
theorem dX6_isBetterOtherwise_19 : decode cX6_isBetterOtherwise 19 = .ok (.iload_n 1, 1) := by decide +kernel
theorem dX6_isBetterOtherwise_20 : decode cX6_isBetterOtherwise 20 = .ok (.iload_n 3, 1) := by decide +kernel
theorem dX6_isBetterOtherwise_21 : decode cX6_isBetterOtherwise 21 = .ok (.invokevirtual 145, 3) := by decide +kernel
theorem dX6_isBetterOtherwise_24 : decode cX6_isBetterOtherwise 24 = .ok (.lstore 6, 2) := by decide +kernel
theorem dX6_isBetterOtherwise_26 : decode cX6_isBetterOtherwise 26 = .ok (.lload 4, 2) := by decide +kernel
theorem dX6_isBetterOtherwise_28 : decode cX6_isBetterOtherwise 28 = .ok (.lconst 1, 1) := by decide +kernel
theorem dX6_isBetterOtherwise_29 : decode cX6_isBetterOtherwise 29 = .ok (.lload 6, 2) := by decide +kernel
theorem dX6_isBetterOtherwise_31 : decode cX6_isBetterOtherwise 31 = .ok (.invokestatic 113, 3) := by decide +kernel
theorem dX6_isBetterOtherwise_34 : decode cX6_isBetterOtherwise 34 = .ok (.lmul, 1) := by decide +kernel
theorem dX6_isBetterOtherwise_35 : decode cX6_isBetterOtherwise 35 = .ok (.aload_n 0, 1) := by decide +kernel
theorem dX6_isBetterOtherwise_36 : decode cX6_isBetterOtherwise 36 = .ok (.iload_n 1, 1) := by decide +kernel
theorem dX6_isBetterOtherwise_37 : decode cX6_isBetterOtherwise 37 = .ok (.lload 6, 2) := by decide +kernel
theorem dX6_isBetterOtherwise_39 : decode cX6_isBetterOtherwise 39 = .ok (.invokevirtual 148, 3) := by decide +kernel
theorem dX6_isBetterOtherwise_42 : decode cX6_isBetterOtherwise 42 = .ok (.invokestatic 151, 3) := by decide +kernel
theorem dX6_isBetterOtherwise_45 : decode cX6_isBetterOtherwise 45 = .ok (.istore 8, 2) := by decide +kernel
theorem dX6_isBetterOtherwise_47 : decode cX6_isBetterOtherwise 47 = .ok (.iload_n 2, 1) := by decide +kernel
theorem dX6_isBetterOtherwise_48 : decode cX6_isBetterOtherwise 48 = .ok (.iload_n 1, 1) := by decide +kernel
theorem dX6_isBetterOtherwise_49 : decode cX6_isBetterOtherwise 49 = .ok (.invokestatic 120, 3) := by decide +kernel
theorem dX6_isBetterOtherwise_52 : decode cX6_isBetterOtherwise 52 = .ok (.ifCond .eq 16, 3) := by decide +kernel
theorem dX6_isBetterOtherwise_55 : decode cX6_isBetterOtherwise 55 = .ok (.iload 8, 2) := by decide +kernel
theorem dX6_isBetterOtherwise_57 : decode cX6_isBetterOtherwise 57 = .ok (.ifCond .le 7, 3) := by decide +kernel
theorem dX6_isBetterOtherwise_60 : decode cX6_isBetterOtherwise 60 = .ok (.iconst 1, 1) := by decide +kernel
theorem dX6_isBetterOtherwise_61 : decode cX6_isBetterOtherwise 61 = .ok (.goto 17, 3) := by decide +kernel
theorem dX6_isBetterOtherwise_64 : decode cX6_isBetterOtherwise 64 = .ok (.iconst 0, 1) := by decide +kernel
theorem dX6_isBetterOtherwise_65 : decode cX6_isBetterOtherwise 65 = .ok (.goto 13, 3) := by decide +kernel
theorem dX6_isBetterOtherwise_68 : decode cX6_isBetterOtherwise 68 = .ok (.iload 8, 2) := by decide +kernel
theorem dX6_isBetterOtherwise_70 : decode cX6_isBetterOtherwise 70 = .ok (.ifCond .ge 7, 3) := by decide +kernel
theorem dX6_isBetterOtherwise_73 : decode cX6_isBetterOtherwise 73 = .ok (.iconst 1, 1) := by decide +kernel
theorem dX6_isBetterOtherwise_74 : decode cX6_isBetterOtherwise 74 = .ok (.goto 4, 3) := by decide +kernel
theorem dX6_isBetterOtherwise_77 : decode cX6_isBetterOtherwise 77 = .ok (.iconst 0, 1) := by decide +kernel
theorem dX6_isBetterOtherwise_78 : decode cX6_isBetterOtherwise 78 = .ok (.ireturn, 1) := by decide +kernel
def f_X6_isBetterOtherwise (n : Nat) (x1 : Int32) (x2 : Int32) (M : m_M) : Option Int32 :=
  m_bd (x2 ||| ((1 : Int32) <<< (x1 &&& 31))) fun t1 =>
  m_ob (f_X6_fromPurse n x1 (t1 ^^^ ((1 : Int32) <<< (x1 &&& 31))) M) fun r2 =>
  m_ob (f_X6_sharersOwed n x1 t1 M) fun r3 =>
  m_bd (m_maxJ 1 r3) fun r4 =>
  m_ob (f_X6_shareAbove x1 r3 M) fun r5 =>
  m_bd (f_J13_compare_74951 (r2 * r4) r5) fun r6 =>
  m_bd (f_X6_isIn x2 x1) fun r7 =>
  if r7 = 0 then
  if (0 : Int32) ≤ r6 then
  some 0
  else
  some 1
  else
  if r6 ≤ 0 then
  some 0
  else
  some 1
set_option maxHeartbeats 4000000 in
set_option maxRecDepth 100000 in
theorem c_X6_isBetterOtherwise (l : Launch) (G : m_G) {n : Nat} {x1 : Int32} {x2 : Int32} {M : m_M} {r0 : Int32}  (hres : f_X6_isBetterOtherwise n x1 x2 M = some r0) : Met l yX6_isBetterOtherwise (m_U yX6_isBetterOtherwise cX6_isBetterOtherwise 9 (some .boolean)) (m_R 3 78) (m_Pc G [.ref (m_ad G 159), .int x1, .int x2] M) (m_Qz G r0 M) 0 0 (m_A G) := by
  refine m_i0 (n := 9) RX6 rfl (by decide) (Nat.le_of_ble_eq_true rfl) ?_
  intro p e s m args below meth c X hr hlk hSt hP hS ls hl
  have hl : lv_has ls 9 [(0, .ref (m_ad G 159)), (1, .int x1), (2, .int x2)] := hl
  unfold f_X6_isBetterOtherwise at hres
  refine lv_iload_n X.1 X.2.1 dX6_isBetterOtherwise_0 rfl (lv_at hl 2 rfl) ?_
  refine lv_iconst (v := 1) X.1 X.2.1 dX6_isBetterOtherwise_1 (by decide) ?_
  refine lv_iload_n X.1 X.2.1 dX6_isBetterOtherwise_2 rfl (lv_at hl 1 rfl) ?_
  refine lv_ishl X.1 X.2.1 dX6_isBetterOtherwise_3 ?_
  refine lv_ior X.1 X.2.1 dX6_isBetterOtherwise_4 ?_
  obtain ⟨t1, et1, hres⟩ := m_bd_e hres
  refine m_ti et1 ?_
  refine lv_istore_n (lv' := [(3, .int t1), (0, .ref (m_ad G 159)), (1, .int x1), (2, .int x2)]) X.1 X.2.1 dX6_isBetterOtherwise_5 rfl hl (by decide) rfl (fun ls hl => ?_)
  refine lv_aload_n X.1 X.2.1 dX6_isBetterOtherwise_6 rfl (lv_at hl 1 rfl) ?_
  refine lv_iload_n X.1 X.2.1 dX6_isBetterOtherwise_7 rfl (lv_at hl 2 rfl) ?_
  refine lv_iload_n X.1 X.2.1 dX6_isBetterOtherwise_8 rfl (lv_at hl 0 rfl) ?_
  refine lv_iconst (v := 1) X.1 X.2.1 dX6_isBetterOtherwise_9 (by decide) ?_
  refine lv_iload_n X.1 X.2.1 dX6_isBetterOtherwise_10 rfl (lv_at hl 2 rfl) ?_
  refine lv_ishl X.1 X.2.1 dX6_isBetterOtherwise_11 ?_
  refine lv_ixor X.1 X.2.1 dX6_isBetterOtherwise_12 ?_
  obtain ⟨r2, err2, hres⟩ := m_ob_e hres
  refine m_bl (m_cV (n := 2) (As := [.int x1, .int (t1 ^^^ ((1 : Int32) <<< (x1 &&& 31)))]) (rest := []) X hSt hP hS hl.1 (c_X6_fromPurse l G  err2) k_c_yX6_fromPurse k_m_X6_142 k_i_yX6_fromPurse k_s_yX6_fromPurse k_n_X6 (by decide +kernel) (m_rc6 hSt hP m_z_159) rfl rfl ⟨Nat.le_of_ble_eq_true rfl, Nat.le_of_ble_eq_true rfl⟩ (Nat.le_of_ble_eq_true rfl) ⟨Nat.zero_le _, Nat.zero_le _⟩ dX6_isBetterOtherwise_13) hS (fun H locs hP hS => ?_)
  refine lv_lstore (lv' := [(4, .long r2), (3, .int t1), (0, .ref (m_ad G 159)), (1, .int x1), (2, .int x2)]) X.1 X.2.1 dX6_isBetterOtherwise_16 hl (by decide) rfl (fun ls hl => ?_)
  refine lv_aload_n X.1 X.2.1 dX6_isBetterOtherwise_18 rfl (lv_at hl 2 rfl) ?_
  refine lv_iload_n X.1 X.2.1 dX6_isBetterOtherwise_19 rfl (lv_at hl 3 rfl) ?_
  refine lv_iload_n X.1 X.2.1 dX6_isBetterOtherwise_20 rfl (lv_at hl 1 rfl) ?_
  obtain ⟨r3, err3, hres⟩ := m_ob_e hres
  refine m_bl (m_cV (n := 2) (As := [.int x1, .int t1]) (rest := []) X hSt hP hS hl.1 (c_X6_sharersOwed l G  err3) k_c_yX6_sharersOwed k_m_X6_145 k_i_yX6_sharersOwed k_s_yX6_sharersOwed k_n_X6 (by decide +kernel) (m_rc6 hSt hP m_z_159) rfl rfl ⟨Nat.le_of_ble_eq_true rfl, Nat.le_of_ble_eq_true rfl⟩ (Nat.le_of_ble_eq_true rfl) ⟨Nat.zero_le _, Nat.zero_le _⟩ dX6_isBetterOtherwise_21) hS (fun H locs hP hS => ?_)
  refine lv_lstore (lv' := [(6, .long r3), (4, .long r2), (3, .int t1), (0, .ref (m_ad G 159)), (1, .int x1), (2, .int x2)]) X.1 X.2.1 dX6_isBetterOtherwise_24 hl (by decide) rfl (fun ls hl => ?_)
  refine lv_lload X.1 X.2.1 dX6_isBetterOtherwise_26 (lv_at hl 1 rfl) ?_
  refine lv_lconst (v := 1) X.1 X.2.1 dX6_isBetterOtherwise_28 (by decide) ?_
  refine lv_lload X.1 X.2.1 dX6_isBetterOtherwise_29 (lv_at hl 0 rfl) ?_
  obtain ⟨r4, err4, hres⟩ := m_bd_e hres
  refine m_mxJ (rest := [.long r2]) X hl.1 k_m_X6_113 k_t_yJ9_max_f86c9 k_n_J9 k_c_yJ9_max_f86c9 (Nat.le_of_ble_eq_true rfl) (Nat.le_of_ble_eq_true rfl) ⟨Nat.zero_le _, Nat.zero_le _⟩ dX6_isBetterOtherwise_31 err4 ?_
  refine lv_lmul X.1 X.2.1 dX6_isBetterOtherwise_34 ?_
  refine lv_aload_n X.1 X.2.1 dX6_isBetterOtherwise_35 rfl (lv_at hl 3 rfl) ?_
  refine lv_iload_n X.1 X.2.1 dX6_isBetterOtherwise_36 rfl (lv_at hl 4 rfl) ?_
  refine lv_lload X.1 X.2.1 dX6_isBetterOtherwise_37 (lv_at hl 0 rfl) ?_
  obtain ⟨r5, err5, hres⟩ := m_ob_e hres
  refine m_bl (m_cV (n := 2) (As := [.int x1, .long r3]) (rest := [.long (r2 * r4)]) X hSt hP hS hl.1 (c_X6_shareAbove l G  err5) k_c_yX6_shareAbove k_m_X6_148 k_i_yX6_shareAbove k_s_yX6_shareAbove k_n_X6 (by decide +kernel) (m_rc6 hSt hP m_z_159) rfl rfl ⟨Nat.le_of_ble_eq_true rfl, Nat.le_of_ble_eq_true rfl⟩ (Nat.le_of_ble_eq_true rfl) ⟨Nat.zero_le _, Nat.zero_le _⟩ dX6_isBetterOtherwise_39) hS (fun H locs hP hS => ?_)
  obtain ⟨r6, err6, hres⟩ := m_bd_e hres
  refine m_bi (m_cS (n := 2) (As := [.long (r2 * r4), .long r5]) (rest := []) X hSt hP hS hl.1 (c_J13_compare_74951 l G (M := M)  err6) k_c_yJ13_compare_74951 k_m_X6_151 k_t_yJ13_compare_74951 k_n_J13 (by decide +kernel) rfl rfl ⟨Nat.le_of_ble_eq_true rfl, Nat.le_of_ble_eq_true rfl⟩ (Nat.le_of_ble_eq_true rfl) ⟨Nat.zero_le _, Nat.zero_le _⟩ dX6_isBetterOtherwise_42) hS (fun H locs hP hS => ?_)
  refine lv_istore (lv' := [(8, .int r6), (6, .long r3), (4, .long r2), (3, .int t1), (0, .ref (m_ad G 159)), (1, .int x1), (2, .int x2)]) X.1 X.2.1 dX6_isBetterOtherwise_45 hl (by decide) rfl (fun ls hl => ?_)
  refine lv_iload_n X.1 X.2.1 dX6_isBetterOtherwise_47 rfl (lv_at hl 6 rfl) ?_
  refine lv_iload_n X.1 X.2.1 dX6_isBetterOtherwise_48 rfl (lv_at hl 5 rfl) ?_
  obtain ⟨r7, err7, hres⟩ := m_bd_e hres
  refine m_bz (m_cS (n := 2) (As := [.int x2, .int x1]) (rest := []) X hSt hP hS hl.1 (c_X6_isIn l G (M := M)  err7) k_c_yX6_isIn k_m_X6_120 k_t_yX6_isIn k_n_X6 (by decide +kernel) rfl rfl ⟨Nat.le_of_ble_eq_true rfl, Nat.le_of_ble_eq_true rfl⟩ (Nat.le_of_ble_eq_true rfl) ⟨Nat.zero_le _, Nat.zero_le _⟩ dX6_isBetterOtherwise_49) hS (fun H locs hP hS hz8 => ?_)
  refine lv_if_eq (tgt := 68) X.1 X.2.1 dX6_isBetterOtherwise_52 (by decide) (fun hc9 => ?_) (fun hc9 => ?_)
  · have hres := m_it hres hc9
    refine lv_iload X.1 X.2.1 dX6_isBetterOtherwise_68 (lv_at hl 0 rfl) ?_
    refine lv_if_ge (tgt := 77) X.1 X.2.1 dX6_isBetterOtherwise_70 (by decide) (fun hc10 => ?_) (fun hc10 => ?_)
    · have hres := m_it hres hc10
      refine lv_iconst (v := 0) X.1 X.2.1 dX6_isBetterOtherwise_77 (by decide) ?_
      exact m_rz X hr hlk hP hS (Option.some.inj hres) rfl (by decide) dX6_isBetterOtherwise_78
    · have hres := m_if hres hc10
      refine lv_iconst (v := 1) X.1 X.2.1 dX6_isBetterOtherwise_73 (by decide) ?_
      refine lv_goto (tgt := 78) X.1 X.2.1 dX6_isBetterOtherwise_74 (by decide) ?_
      exact m_rz X hr hlk hP hS (Option.some.inj hres) rfl (by decide) dX6_isBetterOtherwise_78
  · have hres := m_if hres hc9
    refine lv_iload X.1 X.2.1 dX6_isBetterOtherwise_55 (lv_at hl 0 rfl) ?_
    refine lv_if_le (tgt := 64) X.1 X.2.1 dX6_isBetterOtherwise_57 (by decide) (fun hc11 => ?_) (fun hc11 => ?_)
    · have hres := m_it hres hc11
      refine lv_iconst (v := 0) X.1 X.2.1 dX6_isBetterOtherwise_64 (by decide) ?_
      refine lv_goto (tgt := 78) X.1 X.2.1 dX6_isBetterOtherwise_65 (by decide) ?_
      exact m_rz X hr hlk hP hS (Option.some.inj hres) rfl (by decide) dX6_isBetterOtherwise_78
    · have hres := m_if hres hc11
      refine lv_iconst (v := 1) X.1 X.2.1 dX6_isBetterOtherwise_60 (by decide) ?_
      refine lv_goto (tgt := 78) X.1 X.2.1 dX6_isBetterOtherwise_61 (by decide) ?_
      exact m_rz X hr hlk hP hS (Option.some.inj hres) rfl (by decide) dX6_isBetterOtherwise_78
theorem dX6_isRest_0 : decode cX6_isRest 0 = .ok (.iconst 0, 1) := by decide +kernel
theorem dX6_isRest_1 : decode cX6_isRest 1 = .ok (.istore_n 2, 1) := by decide +kernel
theorem dX6_isRest_2 : decode cX6_isRest 2 = .ok (.iload_n 2, 1) := by decide +kernel
theorem dX6_isRest_3 : decode cX6_isRest 3 = .ok (.aload_n 0, 1) := by decide +kernel
theorem dX6_isRest_4 : decode cX6_isRest 4 = .ok (.getfield 43, 3) := by decide +kernel
theorem dX6_isRest_7 : decode cX6_isRest 7 = .ok (.if_icmp .ge 28, 3) := by decide +kernel
theorem dX6_isRest_10 : decode cX6_isRest 10 = .ok (.iload_n 1, 1) := by decide +kernel
theorem dX6_isRest_11 : decode cX6_isRest 11 = .ok (.iload_n 2, 1) := by decide +kernel
theorem dX6_isRest_12 : decode cX6_isRest 12 = .ok (.invokestatic 120, 3) := by decide +kernel
theorem dX6_isRest_15 : decode cX6_isRest 15 = .ok (.ifCond .eq 14, 3) := by decide +kernel
theorem dX6_isRest_18 : decode cX6_isRest 18 = .ok (.aload_n 0, 1) := by decide +kernel
theorem dX6_isRest_19 : decode cX6_isRest 19 = .ok (.getfield 30, 3) := by decide +kernel
theorem dX6_isRest_22 : decode cX6_isRest 22 = .ok (.iload_n 2, 1) := by decide +kernel
theorem dX6_isRest_23 : decode cX6_isRest 23 = .ok (.baload, 1) := by decide +kernel
theorem dX6_isRest_24 : decode cX6_isRest 24 = .ok (.ifCond .ne 5, 3) := by decide +kernel
theorem dX6_isRest_27 : decode cX6_isRest 27 = .ok (.iconst 0, 1) := by decide +kernel
theorem dX6_isRest_28 : decode cX6_isRest 28 = .ok (.ireturn, 1) := by decide +kernel
theorem dX6_isRest_29 : decode cX6_isRest 29 = .ok (.iinc 2 1, 3) := by decide +kernel
theorem dX6_isRest_32 : decode cX6_isRest 32 = .ok (.goto (-30), 3) := by decide +kernel
theorem dX6_isRest_35 : decode cX6_isRest 35 = .ok (.iconst 0, 1) := by decide +kernel
theorem dX6_isRest_36 : decode cX6_isRest 36 = .ok (.istore_n 2, 1) := by decide +kernel
theorem dX6_isRest_37 : decode cX6_isRest 37 = .ok (.iload_n 2, 1) := by decide +kernel
theorem dX6_isRest_38 : decode cX6_isRest 38 = .ok (.aload_n 0, 1) := by decide +kernel
theorem dX6_isRest_39 : decode cX6_isRest 39 = .ok (.getfield 43, 3) := by decide +kernel
theorem dX6_isRest_42 : decode cX6_isRest 42 = .ok (.if_icmp .ge 29, 3) := by decide +kernel
theorem dX6_isRest_45 : decode cX6_isRest 45 = .ok (.aload_n 0, 1) := by decide +kernel
theorem dX6_isRest_46 : decode cX6_isRest 46 = .ok (.getfield 30, 3) := by decide +kernel
theorem dX6_isRest_49 : decode cX6_isRest 49 = .ok (.iload_n 2, 1) := by decide +kernel
theorem dX6_isRest_50 : decode cX6_isRest 50 = .ok (.baload, 1) := by decide +kernel
theorem dX6_isRest_51 : decode cX6_isRest 51 = .ok (.ifCond .eq 14, 3) := by decide +kernel
theorem dX6_isRest_54 : decode cX6_isRest 54 = .ok (.aload_n 0, 1) := by decide +kernel
theorem dX6_isRest_55 : decode cX6_isRest 55 = .ok (.iload_n 2, 1) := by decide +kernel
theorem dX6_isRest_56 : decode cX6_isRest 56 = .ok (.iload_n 1, 1) := by decide +kernel
theorem dX6_isRest_57 : decode cX6_isRest 57 = .ok (.invokevirtual 139, 3) := by decide +kernel
theorem dX6_isRest_60 : decode cX6_isRest 60 = .ok (.ifCond .eq 5, 3) := by decide +kernel
theorem dX6_isRest_63 : decode cX6_isRest 63 = .ok (.iconst 0, 1) := by decide +kernel
theorem dX6_isRest_64 : decode cX6_isRest 64 = .ok (.ireturn, 1) := by decide +kernel
theorem dX6_isRest_65 : decode cX6_isRest 65 = .ok (.iinc 2 1, 3) := by decide +kernel
theorem dX6_isRest_68 : decode cX6_isRest 68 = .ok (.goto (-31), 3) := by decide +kernel
theorem dX6_isRest_71 : decode cX6_isRest 71 = .ok (.iconst 1, 1) := by decide +kernel
theorem dX6_isRest_72 : decode cX6_isRest 72 = .ok (.ireturn, 1) := by decide +kernel
def f_X6_isRest_b37 (n : Nat) (x1 : Int32) (M : m_M) : Nat → Int32 → Option Int32
  | 0, _ => none
  | u + 1, x2 =>
    if (M.1 159 0) ≤ x2 then
  some 1
  else
  m_gd (m_in x2 6) (
  if (M.1 166 x2.toNatClampNeg) = 0 then
  f_X6_isRest_b37 n x1 M u (x2 + 1)
  else
  m_ob (f_X6_isBetterOtherwise n x2 x1 M) fun r4 =>
  if r4 = 0 then
  f_X6_isRest_b37 n x1 M u (x2 + 1)
  else
  some 0)
def f_X6_isRest_b2 (n : Nat) (x1 : Int32) (M : m_M) : Nat → Int32 → Option Int32
  | 0, _ => none
  | u + 1, x2 =>
    if (M.1 159 0) ≤ x2 then
  f_X6_isRest_b37 n x1 M n 0
  else
  m_bd (f_X6_isIn x1 x2) fun r8 =>
  if r8 = 0 then
  f_X6_isRest_b2 n x1 M u (x2 + 1)
  else
  m_gd (m_in x2 6) (
  if (M.1 166 x2.toNatClampNeg) = 0 then
  some 0
  else
  f_X6_isRest_b2 n x1 M u (x2 + 1))
def f_X6_isRest (n : Nat) (x1 : Int32) (M : m_M) : Option Int32 :=
  f_X6_isRest_b2 n x1 M n 0
set_option maxHeartbeats 4000000 in
set_option maxRecDepth 100000 in
theorem c_X6_isRest (l : Launch) (G : m_G) {n : Nat} {x1 : Int32} {M : m_M} {r0 : Int32}  (hres : f_X6_isRest n x1 M = some r0) : Met l yX6_isRest (m_U yX6_isRest cX6_isRest 3 (some .boolean)) (m_R 4 106) (m_Pc G [.ref (m_ad G 159), .int x1] M) (m_Qz G r0 M) 0 0 (m_A G) := by
  refine m_i0 (n := 3) RX6 rfl (by decide) (Nat.le_of_ble_eq_true rfl) ?_
  intro p e s m args below meth c X hr hlk hSt hP hS ls hl
  have hl : lv_has ls 3 [(0, .ref (m_ad G 159)), (1, .int x1)] := hl
  have B37 : ∀ (u : Nat) (x2 : Int32) (H : Heap) (locs : List Loc) (ls : Array Slot), m_P G M H → va_S (m_A G) s.heap H locs → lv_has ls 3 [(0, .ref (m_ad G 159)), (1, .int x1), (2, .int x2)] → f_X6_isRest_b37 n x1 M u x2 = some r0 → W p l e (m_R 4 106) s m args below meth c H locs 0 0 (MQ below (m_Qz G r0 M) args s 0 0 (m_A G)) (F0 m 37 ls []) := by
    intro u
    induction u with
    | zero =>
      intro x2 H locs ls hP hS hl hres
      cases hres
    | succ u ih =>
      intro x2 H locs ls hP hS hl hres
      rw [f_X6_isRest_b37] at hres
      refine lv_iload_n X.1 X.2.1 dX6_isRest_37 rfl (lv_at hl 2 rfl) ?_
      refine lv_aload_n X.1 X.2.1 dX6_isRest_38 rfl (lv_at hl 0 rfl) ?_
      refine m_g6 (v := .int (M.1 159 0)) X hSt hP m_z_159 0 (by decide) rfl k_f_X6_43 dX6_isRest_39 ?_
      refine lv_icmp_ge (tgt := 71) X.1 X.2.1 dX6_isRest_42 (by decide) (fun hc1 => ?_) (fun hc1 => ?_)
      · have hres := m_it hres hc1
        refine lv_iconst (v := 1) X.1 X.2.1 dX6_isRest_71 (by decide) ?_
        exact m_rz X hr hlk hP hS (Option.some.inj hres) rfl (by decide) dX6_isRest_72
      · have hres := m_if hres hc1
        refine lv_aload_n X.1 X.2.1 dX6_isRest_45 rfl (lv_at hl 0 rfl) ?_
        refine m_g6 (v := .ref (m_ad G 166)) X hSt hP m_z_159 7 (by decide) rfl k_f_X6_30 dX6_isRest_46 ?_
        refine lv_iload_n X.1 X.2.1 dX6_isRest_49 rfl (lv_at hl 2 rfl) ?_
        obtain ⟨hg2, hres⟩ := m_gd_e hres
        refine m_za (j := x2.toNatClampNeg) X hSt hP m_z_166 hg2 rfl dX6_isRest_50 ?_
        refine lv_if_eq (tgt := 65) X.1 X.2.1 dX6_isRest_51 (by decide) (fun hc3 => ?_) (fun hc3 => ?_)
        · have hres := m_it hres hc3
          refine lv_iinc (v := (x2 + 1)) (lv' := [(2, .int (x2 + 1)), (0, .ref (m_ad G 159)), (1, .int x1)]) X.1 X.2.1 dX6_isRest_65 hl (k := 2) rfl rfl (by decide) rfl (fun ls hl => ?_)
          refine lv_goto (tgt := 37) X.1 X.2.1 dX6_isRest_68 (by decide) ?_
          exact ih (x2 + 1) _ _ _ hP hS (lv_sub hl [1, 2, 0] rfl) hres
        · have hres := m_if hres hc3
          refine lv_aload_n X.1 X.2.1 dX6_isRest_54 rfl (lv_at hl 0 rfl) ?_
          refine lv_iload_n X.1 X.2.1 dX6_isRest_55 rfl (lv_at hl 2 rfl) ?_
          refine lv_iload_n X.1 X.2.1 dX6_isRest_56 rfl (lv_at hl 1 rfl) ?_
          obtain ⟨r4, err4, hres⟩ := m_ob_e hres
          refine m_bz (m_cV (n := 2) (As := [.int x2, .int x1]) (rest := []) X hSt hP hS hl.1 (c_X6_isBetterOtherwise l G  err4) k_c_yX6_isBetterOtherwise k_m_X6_139 k_i_yX6_isBetterOtherwise k_s_yX6_isBetterOtherwise k_n_X6 (by decide +kernel) (m_rc6 hSt hP m_z_159) rfl rfl ⟨Nat.le_of_ble_eq_true rfl, Nat.le_of_ble_eq_true rfl⟩ (Nat.le_of_ble_eq_true rfl) ⟨Nat.zero_le _, Nat.zero_le _⟩ dX6_isRest_57) hS (fun H locs hP hS hz5 => ?_)
          refine lv_if_eq (tgt := 65) X.1 X.2.1 dX6_isRest_60 (by decide) (fun hc6 => ?_) (fun hc6 => ?_)
          · have hres := m_it hres hc6
            refine lv_iinc (v := (x2 + 1)) (lv' := [(2, .int (x2 + 1)), (0, .ref (m_ad G 159)), (1, .int x1)]) X.1 X.2.1 dX6_isRest_65 hl (k := 2) rfl rfl (by decide) rfl (fun ls hl => ?_)
            refine lv_goto (tgt := 37) X.1 X.2.1 dX6_isRest_68 (by decide) ?_
            exact ih (x2 + 1) _ _ _ hP hS (lv_sub hl [1, 2, 0] rfl) hres
          · have hres := m_if hres hc6
            refine lv_iconst (v := 0) X.1 X.2.1 dX6_isRest_63 (by decide) ?_
            exact m_rz X hr hlk hP hS (Option.some.inj hres) rfl (by decide) dX6_isRest_64
  have B2 : ∀ (u : Nat) (x2 : Int32) (H : Heap) (locs : List Loc) (ls : Array Slot), m_P G M H → va_S (m_A G) s.heap H locs → lv_has ls 3 [(0, .ref (m_ad G 159)), (1, .int x1), (2, .int x2)] → f_X6_isRest_b2 n x1 M u x2 = some r0 → W p l e (m_R 4 106) s m args below meth c H locs 0 0 (MQ below (m_Qz G r0 M) args s 0 0 (m_A G)) (F0 m 2 ls []) := by
    intro u
    induction u with
    | zero =>
      intro x2 H locs ls hP hS hl hres
      cases hres
    | succ u ih =>
      intro x2 H locs ls hP hS hl hres
      rw [f_X6_isRest_b2] at hres
      refine lv_iload_n X.1 X.2.1 dX6_isRest_2 rfl (lv_at hl 2 rfl) ?_
      refine lv_aload_n X.1 X.2.1 dX6_isRest_3 rfl (lv_at hl 0 rfl) ?_
      refine m_g6 (v := .int (M.1 159 0)) X hSt hP m_z_159 0 (by decide) rfl k_f_X6_43 dX6_isRest_4 ?_
      refine lv_icmp_ge (tgt := 35) X.1 X.2.1 dX6_isRest_7 (by decide) (fun hc7 => ?_) (fun hc7 => ?_)
      · have hres := m_it hres hc7
        refine lv_iconst (v := 0) X.1 X.2.1 dX6_isRest_35 (by decide) ?_
        refine lv_istore_n (lv' := [(2, .int 0), (0, .ref (m_ad G 159)), (1, .int x1)]) X.1 X.2.1 dX6_isRest_36 rfl hl (by decide) rfl (fun ls hl => ?_)
        exact B37 n 0 _ _ _ hP hS (lv_sub hl [1, 2, 0] rfl) hres
      · have hres := m_if hres hc7
        refine lv_iload_n X.1 X.2.1 dX6_isRest_10 rfl (lv_at hl 1 rfl) ?_
        refine lv_iload_n X.1 X.2.1 dX6_isRest_11 rfl (lv_at hl 2 rfl) ?_
        obtain ⟨r8, err8, hres⟩ := m_bd_e hres
        refine m_bz (m_cS (n := 2) (As := [.int x1, .int x2]) (rest := []) X hSt hP hS hl.1 (c_X6_isIn l G (M := M)  err8) k_c_yX6_isIn k_m_X6_120 k_t_yX6_isIn k_n_X6 (by decide +kernel) rfl rfl ⟨Nat.le_of_ble_eq_true rfl, Nat.le_of_ble_eq_true rfl⟩ (Nat.le_of_ble_eq_true rfl) ⟨Nat.zero_le _, Nat.zero_le _⟩ dX6_isRest_12) hS (fun H locs hP hS hz9 => ?_)
        refine lv_if_eq (tgt := 29) X.1 X.2.1 dX6_isRest_15 (by decide) (fun hc10 => ?_) (fun hc10 => ?_)
        · have hres := m_it hres hc10
          refine lv_iinc (v := (x2 + 1)) (lv' := [(2, .int (x2 + 1)), (0, .ref (m_ad G 159)), (1, .int x1)]) X.1 X.2.1 dX6_isRest_29 hl (k := 2) rfl rfl (by decide) rfl (fun ls hl => ?_)
          refine lv_goto (tgt := 2) X.1 X.2.1 dX6_isRest_32 (by decide) ?_
          exact ih (x2 + 1) _ _ _ hP hS (lv_sub hl [1, 2, 0] rfl) hres
        · have hres := m_if hres hc10
          refine lv_aload_n X.1 X.2.1 dX6_isRest_18 rfl (lv_at hl 0 rfl) ?_
          refine m_g6 (v := .ref (m_ad G 166)) X hSt hP m_z_159 7 (by decide) rfl k_f_X6_30 dX6_isRest_19 ?_
          refine lv_iload_n X.1 X.2.1 dX6_isRest_22 rfl (lv_at hl 2 rfl) ?_
          obtain ⟨hg11, hres⟩ := m_gd_e hres
          refine m_za (j := x2.toNatClampNeg) X hSt hP m_z_166 hg11 rfl dX6_isRest_23 ?_
          refine lv_if_ne (tgt := 29) X.1 X.2.1 dX6_isRest_24 (by decide) (fun hc12 => ?_) (fun hc12 => ?_)
          · have hres := m_if hres hc12
            refine lv_iinc (v := (x2 + 1)) (lv' := [(2, .int (x2 + 1)), (0, .ref (m_ad G 159)), (1, .int x1)]) X.1 X.2.1 dX6_isRest_29 hl (k := 2) rfl rfl (by decide) rfl (fun ls hl => ?_)
            refine lv_goto (tgt := 2) X.1 X.2.1 dX6_isRest_32 (by decide) ?_
            exact ih (x2 + 1) _ _ _ hP hS (lv_sub hl [1, 2, 0] rfl) hres
          · have hres := m_it hres hc12
            refine lv_iconst (v := 0) X.1 X.2.1 dX6_isRest_27 (by decide) ?_
            exact m_rz X hr hlk hP hS (Option.some.inj hres) rfl (by decide) dX6_isRest_28
  unfold f_X6_isRest at hres
  refine lv_iconst (v := 0) X.1 X.2.1 dX6_isRest_0 (by decide) ?_
  refine lv_istore_n (lv' := [(2, .int 0), (0, .ref (m_ad G 159)), (1, .int x1)]) X.1 X.2.1 dX6_isRest_1 rfl hl (by decide) rfl (fun ls hl => ?_)
  exact B2 n 0 _ _ _ hP hS (lv_sub hl [1, 2, 0] rfl) hres
theorem dX7_rests_0 : decode cX7_rests 0 = .ok (.iload_n 1, 1) := by decide +kernel
theorem dX7_rests_1 : decode cX7_rests 1 = .ok (.iconst (-1), 1) := by decide +kernel
theorem dX7_rests_2 : decode cX7_rests 2 = .ok (.if_icmp .lt 10, 3) := by decide +kernel
theorem dX7_rests_5 : decode cX7_rests 5 = .ok (.iload_n 2, 1) := by decide +kernel
theorem dX7_rests_6 : decode cX7_rests 6 = .ok (.invokestatic 145, 3) := by decide +kernel
theorem dX7_rests_9 : decode cX7_rests 9 = .ok (.ifCond .ne 6, 3) := by decide +kernel
theorem dX7_rests_12 : decode cX7_rests 12 = .ok (.bipush (-10), 2) := by decide +kernel
theorem dX7_rests_14 : decode cX7_rests 14 = .ok (.ireturn, 1) := by decide +kernel
theorem dX7_rests_15 : decode cX7_rests 15 = .ok (.aload_n 0, 1) := by decide +kernel
theorem dX7_rests_16 : decode cX7_rests 16 = .ok (.iload_n 2, 1) := by decide +kernel
theorem dX7_rests_17 : decode cX7_rests 17 = .ok (.invokevirtual 230, 3) := by decide +kernel
theorem dX7_rests_20 : decode cX7_rests 20 = .ok (.iconst 0, 1) := by decide +kernel
theorem dX7_rests_21 : decode cX7_rests 21 = .ok (.istore_n 3, 1) := by decide +kernel
theorem dX7_rests_22 : decode cX7_rests 22 = .ok (.iconst 0, 1) := by decide +kernel
theorem dX7_rests_23 : decode cX7_rests 23 = .ok (.istore 4, 2) := by decide +kernel
theorem dX7_rests_25 : decode cX7_rests 25 = .ok (.iload 4, 2) := by decide +kernel
theorem dX7_rests_27 : decode cX7_rests 27 = .ok (.iconst 1, 1) := by decide +kernel
theorem dX7_rests_28 : decode cX7_rests 28 = .ok (.aload_n 0, 1) := by decide +kernel
theorem dX7_rests_29 : decode cX7_rests 29 = .ok (.getfield 10, 3) := by decide +kernel
theorem dX7_rests_32 : decode cX7_rests 32 = .ok (.getfield 220, 3) := by decide +kernel
theorem dX7_rests_35 : decode cX7_rests 35 = .ok (.ishl, 1) := by decide +kernel
theorem dX7_rests_36 : decode cX7_rests 36 = .ok (.if_icmp .ge 32, 3) := by decide +kernel
theorem dX7_rests_39 : decode cX7_rests 39 = .ok (.aload_n 0, 1) := by decide +kernel
theorem dX7_rests_40 : decode cX7_rests 40 = .ok (.getfield 36, 3) := by decide +kernel
theorem dX7_rests_43 : decode cX7_rests 43 = .ok (.iload 4, 2) := by decide +kernel
theorem dX7_rests_45 : decode cX7_rests 45 = .ok (.invokevirtual 245, 3) := by decide +kernel
theorem dX7_rests_48 : decode cX7_rests 48 = .ok (.ifCond .eq 14, 3) := by decide +kernel
theorem dX7_rests_51 : decode cX7_rests 51 = .ok (.iload_n 3, 1) := by decide +kernel
theorem dX7_rests_52 : decode cX7_rests 52 = .ok (.iload_n 1, 1) := by decide +kernel
theorem dX7_rests_53 : decode cX7_rests 53 = .ok (.if_icmp .ne 6, 3) := by decide +kernel
theorem dX7_rests_56 : decode cX7_rests 56 = .ok (.iload 4, 2) := by decide +kernel
theorem dX7_rests_58 : decode cX7_rests 58 = .ok (.ireturn, 1) := by decide +kernel
theorem dX7_rests_59 : decode cX7_rests 59 = .ok (.iinc 3 1, 3) := by decide +kernel
theorem dX7_rests_62 : decode cX7_rests 62 = .ok (.iinc 4 1, 3) := by decide +kernel
theorem dX7_rests_65 : decode cX7_rests 65 = .ok (.goto (-40), 3) := by decide +kernel
theorem dX7_rests_68 : decode cX7_rests 68 = .ok (.iload_n 1, 1) := by decide +kernel
theorem dX7_rests_69 : decode cX7_rests 69 = .ok (.iconst (-1), 1) := by decide +kernel
theorem dX7_rests_70 : decode cX7_rests 70 = .ok (.if_icmp .ne 7, 3) := by decide +kernel
theorem dX7_rests_73 : decode cX7_rests 73 = .ok (.iload_n 3, 1) := by decide +kernel
theorem dX7_rests_74 : decode cX7_rests 74 = .ok (.goto 5, 3) := by decide +kernel
theorem dX7_rests_77 : decode cX7_rests 77 = .ok (.bipush (-5), 2) := by decide +kernel
theorem dX7_rests_79 : decode cX7_rests 79 = .ok (.ireturn, 1) := by decide +kernel
def f_X7_rests_b25 (n : Nat) (x1 : Int32) (x2 : Int32) : Nat → Int32 → Int32 → m_M → Option (Int32 × m_M)
  | 0, _, _, _ => none
  | u + 1, x3, x4, M =>
    if ((1 : Int32) <<< ((M.1 1 4) &&& 31)) ≤ x4 then
  if x1 = (-1) then
  some (x3, M)
  else
  some ((-5), M)
  else
  m_ob (f_X6_isRest n x4 M) fun r3 =>
  if r3 = 0 then
  f_X7_rests_b25 n x1 x2 u x3 (x4 + 1) M
  else
  if x3 = x1 then
  some (x4, M)
  else
  f_X7_rests_b25 n x1 x2 u (x3 + 1) (x4 + 1) M
def f_X7_rests (n : Nat) (x1 : Int32) (x2 : Int32) (M : m_M) : Option (Int32 × m_M) :=
  if x1 < (-1) then
  some ((-10), M)
  else
  m_bd (f_X7_isDay x2) fun r8 =>
  if r8 = 0 then
  some ((-10), M)
  else
  m_ob (f_X7_lineUp n x2 M) fun M11 =>
  f_X7_rests_b25 n x1 x2 n 0 0 M11
set_option maxHeartbeats 4000000 in
set_option maxRecDepth 100000 in
theorem c_X7_rests (l : Launch) (G : m_G) {n : Nat} {x1 : Int32} {x2 : Int32} {M : m_M} {r0 : Int32} {M0 : m_M}  (hres : f_X7_rests n x1 x2 M = some (r0, M0)) : Met l yX7_rests (m_U yX7_rests cX7_rests 5 (some .int)) (m_R 8 178) (m_Pc G [.ref (m_ad G 0), .int x1, .int x2] M) (m_Qi G r0 M0) 0 0 (m_A G) := by
  refine m_i0 (n := 5) RX7 rfl (by decide) (Nat.le_of_ble_eq_true rfl) ?_
  intro p e s m args below meth c X hr hlk hSt hP hS ls hl
  have hl : lv_has ls 5 [(0, .ref (m_ad G 0)), (1, .int x1), (2, .int x2)] := hl
  have B25 : ∀ (u : Nat) (x3 : Int32) (x4 : Int32) (M : m_M) (H : Heap) (locs : List Loc) (ls : Array Slot), m_P G M H → va_S (m_A G) s.heap H locs → lv_has ls 5 [(0, .ref (m_ad G 0)), (1, .int x1), (3, .int x3), (4, .int x4)] → f_X7_rests_b25 n x1 x2 u x3 x4 M = some (r0, M0) → W p l e (m_R 8 178) s m args below meth c H locs 0 0 (MQ below (m_Qi G r0 M0) args s 0 0 (m_A G)) (F0 m 25 ls []) := by
    intro u
    induction u with
    | zero =>
      intro x3 x4 M H locs ls hP hS hl hres
      cases hres
    | succ u ih =>
      intro x3 x4 M H locs ls hP hS hl hres
      rw [f_X7_rests_b25] at hres
      refine lv_iload X.1 X.2.1 dX7_rests_25 (lv_at hl 3 rfl) ?_
      refine lv_iconst (v := 1) X.1 X.2.1 dX7_rests_27 (by decide) ?_
      refine lv_aload_n X.1 X.2.1 dX7_rests_28 rfl (lv_at hl 0 rfl) ?_
      refine m_g7 (v := .ref (m_ad G 1)) X hSt hP m_z_0 0 (by decide) rfl k_f_X7_10 dX7_rests_29 ?_
      refine m_g3 (v := .int (M.1 1 4)) X hSt hP m_kept_0.1 4 (by decide) rfl k_f_X7_220 dX7_rests_32 ?_
      refine lv_ishl X.1 X.2.1 dX7_rests_35 ?_
      refine lv_icmp_ge (tgt := 68) X.1 X.2.1 dX7_rests_36 (by decide) (fun hc1 => ?_) (fun hc1 => ?_)
      · have hres := m_it hres hc1
        refine lv_iload_n X.1 X.2.1 dX7_rests_68 rfl (lv_at hl 1 rfl) ?_
        refine lv_iconst (v := (-1)) X.1 X.2.1 dX7_rests_69 (by decide) ?_
        refine lv_icmp_ne (tgt := 77) X.1 X.2.1 dX7_rests_70 (by decide) (fun hc2 => ?_) (fun hc2 => ?_)
        · have hres := m_if hres hc2
          refine lv_bipush (v := (-5)) X.1 X.2.1 dX7_rests_77 (by decide) ?_
          exact m_ri X hr hlk hP hS (Prod.mk.inj (Option.some.inj hres)).1 (Prod.mk.inj (Option.some.inj hres)).2 dX7_rests_79
        · have hres := m_it hres hc2
          refine lv_iload_n X.1 X.2.1 dX7_rests_73 rfl (lv_at hl 2 rfl) ?_
          refine lv_goto (tgt := 79) X.1 X.2.1 dX7_rests_74 (by decide) ?_
          exact m_ri X hr hlk hP hS (Prod.mk.inj (Option.some.inj hres)).1 (Prod.mk.inj (Option.some.inj hres)).2 dX7_rests_79
      · have hres := m_if hres hc1
        refine lv_aload_n X.1 X.2.1 dX7_rests_39 rfl (lv_at hl 0 rfl) ?_
        refine m_g7 (v := .ref (m_ad G 159)) X hSt hP m_z_0 4 (by decide) rfl k_f_X7_36 dX7_rests_40 ?_
        refine lv_iload X.1 X.2.1 dX7_rests_43 (lv_at hl 3 rfl) ?_
        obtain ⟨r3, err3, hres⟩ := m_ob_e hres
        refine m_bz (m_cV (n := 1) (As := [.int x4]) (rest := []) X hSt hP hS hl.1 (c_X6_isRest l G  err3) k_c_yX6_isRest k_m_X7_245 k_i_yX6_isRest k_s_yX6_isRest k_n_X6 (by decide +kernel) (m_rc6 hSt hP m_z_159) rfl rfl ⟨Nat.le_of_ble_eq_true rfl, Nat.le_of_ble_eq_true rfl⟩ (Nat.le_of_ble_eq_true rfl) ⟨Nat.zero_le _, Nat.zero_le _⟩ dX7_rests_45) hS (fun H locs hP hS hz4 => ?_)
        refine lv_if_eq (tgt := 62) X.1 X.2.1 dX7_rests_48 (by decide) (fun hc5 => ?_) (fun hc5 => ?_)
        · have hres := m_it hres hc5
          refine lv_iinc (v := (x4 + 1)) (lv' := [(4, .int (x4 + 1)), (0, .ref (m_ad G 0)), (1, .int x1), (3, .int x3)]) X.1 X.2.1 dX7_rests_62 hl (k := 3) rfl rfl (by decide) rfl (fun ls hl => ?_)
          refine lv_goto (tgt := 25) X.1 X.2.1 dX7_rests_65 (by decide) ?_
          exact ih x3 (x4 + 1) M _ _ _ hP hS (lv_sub hl [1, 2, 3, 0] rfl) hres
        · have hres := m_if hres hc5
          refine lv_iload_n X.1 X.2.1 dX7_rests_51 rfl (lv_at hl 2 rfl) ?_
          refine lv_iload_n X.1 X.2.1 dX7_rests_52 rfl (lv_at hl 1 rfl) ?_
          refine lv_icmp_ne (tgt := 59) X.1 X.2.1 dX7_rests_53 (by decide) (fun hc6 => ?_) (fun hc6 => ?_)
          · have hres := m_if hres hc6
            refine lv_iinc (v := (x3 + 1)) (lv' := [(3, .int (x3 + 1)), (0, .ref (m_ad G 0)), (1, .int x1), (4, .int x4)]) X.1 X.2.1 dX7_rests_59 hl (k := 2) rfl rfl (by decide) rfl (fun ls hl => ?_)
            refine lv_iinc (v := (x4 + 1)) (lv' := [(4, .int (x4 + 1)), (3, .int (x3 + 1)), (0, .ref (m_ad G 0)), (1, .int x1)]) X.1 X.2.1 dX7_rests_62 hl (k := 3) rfl rfl (by decide) rfl (fun ls hl => ?_)
            refine lv_goto (tgt := 25) X.1 X.2.1 dX7_rests_65 (by decide) ?_
            exact ih (x3 + 1) (x4 + 1) M _ _ _ hP hS (lv_sub hl [2, 3, 1, 0] rfl) hres
          · have hres := m_it hres hc6
            refine lv_iload X.1 X.2.1 dX7_rests_56 (lv_at hl 3 rfl) ?_
            exact m_ri X hr hlk hP hS (Prod.mk.inj (Option.some.inj hres)).1 (Prod.mk.inj (Option.some.inj hres)).2 dX7_rests_58
  unfold f_X7_rests at hres
  refine lv_iload_n X.1 X.2.1 dX7_rests_0 rfl (lv_at hl 1 rfl) ?_
  refine lv_iconst (v := (-1)) X.1 X.2.1 dX7_rests_1 (by decide) ?_
  refine lv_icmp_lt (tgt := 12) X.1 X.2.1 dX7_rests_2 (by decide) (fun hc7 => ?_) (fun hc7 => ?_)
  · have hres := m_it hres hc7
    refine lv_bipush (v := (-10)) X.1 X.2.1 dX7_rests_12 (by decide) ?_
    exact m_ri X hr hlk hP hS (Prod.mk.inj (Option.some.inj hres)).1 (Prod.mk.inj (Option.some.inj hres)).2 dX7_rests_14
  · have hres := m_if hres hc7
    refine lv_iload_n X.1 X.2.1 dX7_rests_5 rfl (lv_at hl 2 rfl) ?_
    obtain ⟨r8, err8, hres⟩ := m_bd_e hres
    refine m_bz (m_cS (n := 1) (As := [.int x2]) (rest := []) X hSt hP hS hl.1 (c_X7_isDay l G (M := M)  err8) k_c_yX7_isDay k_m_X7_145 k_t_yX7_isDay k_n_X7 (by decide +kernel) rfl rfl ⟨Nat.le_of_ble_eq_true rfl, Nat.le_of_ble_eq_true rfl⟩ (Nat.le_of_ble_eq_true rfl) ⟨Nat.zero_le _, Nat.zero_le _⟩ dX7_rests_6) hS (fun H locs hP hS hz9 => ?_)
    refine lv_if_ne (tgt := 15) X.1 X.2.1 dX7_rests_9 (by decide) (fun hc10 => ?_) (fun hc10 => ?_)
    · have hres := m_if hres hc10
      refine lv_aload_n X.1 X.2.1 dX7_rests_15 rfl (lv_at hl 0 rfl) ?_
      refine lv_iload_n X.1 X.2.1 dX7_rests_16 rfl (lv_at hl 2 rfl) ?_
      obtain ⟨M11, eM11, hres⟩ := m_ob_e hres
      refine m_bv (m_cV (n := 1) (As := [.int x2]) (rest := []) X hSt hP hS hl.1 (c_X7_lineUp l G  eM11) k_c_yX7_lineUp k_m_X7_230 k_i_yX7_lineUp k_s_yX7_lineUp k_n_X7 (by decide +kernel) (m_rc7 hSt hP m_z_0) rfl rfl ⟨Nat.le_of_ble_eq_true rfl, Nat.le_of_ble_eq_true rfl⟩ (Nat.le_of_ble_eq_true rfl) ⟨Nat.zero_le _, Nat.zero_le _⟩ dX7_rests_17) hS (fun H locs hP hS => ?_)
      refine lv_iconst (v := 0) X.1 X.2.1 dX7_rests_20 (by decide) ?_
      refine lv_istore_n (lv' := [(3, .int 0), (0, .ref (m_ad G 0)), (1, .int x1), (2, .int x2)]) X.1 X.2.1 dX7_rests_21 rfl hl (by decide) rfl (fun ls hl => ?_)
      refine lv_iconst (v := 0) X.1 X.2.1 dX7_rests_22 (by decide) ?_
      refine lv_istore (lv' := [(4, .int 0), (3, .int 0), (0, .ref (m_ad G 0)), (1, .int x1), (2, .int x2)]) X.1 X.2.1 dX7_rests_23 hl (by decide) rfl (fun ls hl => ?_)
      exact B25 n 0 0 M11 _ _ _ hP hS (lv_sub hl [2, 3, 1, 0] rfl) hres
    · have hres := m_it hres hc10
      refine lv_bipush (v := (-10)) X.1 X.2.1 dX7_rests_12 (by decide) ?_
      exact m_ri X hr hlk hP hS (Prod.mk.inj (Option.some.inj hres)).1 (Prod.mk.inj (Option.some.inj hres)).2 dX7_rests_14
theorem dX7_served_0 : decode cX7_served 0 = .ok (.aload_n 0, 1) := by decide +kernel
theorem dX7_served_1 : decode cX7_served 1 = .ok (.iload_n 1, 1) := by decide +kernel
theorem dX7_served_2 : decode cX7_served 2 = .ok (.invokevirtual 227, 3) := by decide +kernel
theorem dX7_served_5 : decode cX7_served 5 = .ok (.ifCond .eq 10, 3) := by decide +kernel
theorem dX7_served_8 : decode cX7_served 8 = .ok (.iload_n 2, 1) := by decide +kernel
theorem dX7_served_9 : decode cX7_served 9 = .ok (.invokestatic 145, 3) := by decide +kernel
theorem dX7_served_12 : decode cX7_served 12 = .ok (.ifCond .ne 6, 3) := by decide +kernel
theorem dX7_served_15 : decode cX7_served 15 = .ok (.bipush (-2), 2) := by decide +kernel
theorem dX7_served_17 : decode cX7_served 17 = .ok (.ireturn, 1) := by decide +kernel
theorem dX7_served_18 : decode cX7_served 18 = .ok (.aload_n 0, 1) := by decide +kernel
theorem dX7_served_19 : decode cX7_served 19 = .ok (.iload_n 2, 1) := by decide +kernel
theorem dX7_served_20 : decode cX7_served 20 = .ok (.invokevirtual 230, 3) := by decide +kernel
theorem dX7_served_23 : decode cX7_served 23 = .ok (.aload_n 0, 1) := by decide +kernel
theorem dX7_served_24 : decode cX7_served 24 = .ok (.getfield 36, 3) := by decide +kernel
theorem dX7_served_27 : decode cX7_served 27 = .ok (.iload_n 1, 1) := by decide +kernel
theorem dX7_served_28 : decode cX7_served 28 = .ok (.iconst 0, 1) := by decide +kernel
theorem dX7_served_29 : decode cX7_served 29 = .ok (.invokevirtual 233, 3) := by decide +kernel
theorem dX7_served_32 : decode cX7_served 32 = .ok (.l2i, 1) := by decide +kernel
theorem dX7_served_33 : decode cX7_served 33 = .ok (.ireturn, 1) := by decide +kernel
def f_X7_served (n : Nat) (x1 : Int32) (x2 : Int32) (M : m_M) : Option (Int32 × m_M) :=
  m_bd (f_X7_isLined x1 M) fun r1 =>
  if r1 = 0 then
  some ((-2), M)
  else
  m_bd (f_X7_isDay x2) fun r4 =>
  if r4 = 0 then
  some ((-2), M)
  else
  m_ob (f_X7_lineUp n x2 M) fun M7 =>
  m_ob (f_X6_fromPurse n x1 0 M7) fun r8 =>
  some (r8.toInt32, M7)
set_option maxHeartbeats 4000000 in
set_option maxRecDepth 100000 in
theorem c_X7_served (l : Launch) (G : m_G) {n : Nat} {x1 : Int32} {x2 : Int32} {M : m_M} {r0 : Int32} {M0 : m_M}  (hres : f_X7_served n x1 x2 M = some (r0, M0)) : Met l yX7_served (m_U yX7_served cX7_served 3 (some .int)) (m_R 8 178) (m_Pc G [.ref (m_ad G 0), .int x1, .int x2] M) (m_Qi G r0 M0) 0 0 (m_A G) := by
  refine m_i0 (n := 3) RX7 rfl (by decide) (Nat.le_of_ble_eq_true rfl) ?_
  intro p e s m args below meth c X hr hlk hSt hP hS ls hl
  have hl : lv_has ls 3 [(0, .ref (m_ad G 0)), (1, .int x1), (2, .int x2)] := hl
  unfold f_X7_served at hres
  refine lv_aload_n X.1 X.2.1 dX7_served_0 rfl (lv_at hl 0 rfl) ?_
  refine lv_iload_n X.1 X.2.1 dX7_served_1 rfl (lv_at hl 1 rfl) ?_
  obtain ⟨r1, err1, hres⟩ := m_bd_e hres
  refine m_bz (m_cV (n := 1) (As := [.int x1]) (rest := []) X hSt hP hS hl.1 (c_X7_isLined l G  err1) k_c_yX7_isLined k_m_X7_227 k_i_yX7_isLined k_s_yX7_isLined k_n_X7 (by decide +kernel) (m_rc7 hSt hP m_z_0) rfl rfl ⟨Nat.le_of_ble_eq_true rfl, Nat.le_of_ble_eq_true rfl⟩ (Nat.le_of_ble_eq_true rfl) ⟨Nat.zero_le _, Nat.zero_le _⟩ dX7_served_2) hS (fun H locs hP hS hz2 => ?_)
  refine lv_if_eq (tgt := 15) X.1 X.2.1 dX7_served_5 (by decide) (fun hc3 => ?_) (fun hc3 => ?_)
  · have hres := m_it hres hc3
    refine lv_bipush (v := (-2)) X.1 X.2.1 dX7_served_15 (by decide) ?_
    exact m_ri X hr hlk hP hS (Prod.mk.inj (Option.some.inj hres)).1 (Prod.mk.inj (Option.some.inj hres)).2 dX7_served_17
  · have hres := m_if hres hc3
    refine lv_iload_n X.1 X.2.1 dX7_served_8 rfl (lv_at hl 2 rfl) ?_
    obtain ⟨r4, err4, hres⟩ := m_bd_e hres
    refine m_bz (m_cS (n := 1) (As := [.int x2]) (rest := []) X hSt hP hS hl.1 (c_X7_isDay l G (M := M)  err4) k_c_yX7_isDay k_m_X7_145 k_t_yX7_isDay k_n_X7 (by decide +kernel) rfl rfl ⟨Nat.le_of_ble_eq_true rfl, Nat.le_of_ble_eq_true rfl⟩ (Nat.le_of_ble_eq_true rfl) ⟨Nat.zero_le _, Nat.zero_le _⟩ dX7_served_9) hS (fun H locs hP hS hz5 => ?_)
    refine lv_if_ne (tgt := 18) X.1 X.2.1 dX7_served_12 (by decide) (fun hc6 => ?_) (fun hc6 => ?_)
    · have hres := m_if hres hc6
      refine lv_aload_n X.1 X.2.1 dX7_served_18 rfl (lv_at hl 0 rfl) ?_
      refine lv_iload_n X.1 X.2.1 dX7_served_19 rfl (lv_at hl 2 rfl) ?_
      obtain ⟨M7, eM7, hres⟩ := m_ob_e hres
      refine m_bv (m_cV (n := 1) (As := [.int x2]) (rest := []) X hSt hP hS hl.1 (c_X7_lineUp l G  eM7) k_c_yX7_lineUp k_m_X7_230 k_i_yX7_lineUp k_s_yX7_lineUp k_n_X7 (by decide +kernel) (m_rc7 hSt hP m_z_0) rfl rfl ⟨Nat.le_of_ble_eq_true rfl, Nat.le_of_ble_eq_true rfl⟩ (Nat.le_of_ble_eq_true rfl) ⟨Nat.zero_le _, Nat.zero_le _⟩ dX7_served_20) hS (fun H locs hP hS => ?_)
      refine lv_aload_n X.1 X.2.1 dX7_served_23 rfl (lv_at hl 0 rfl) ?_
      refine m_g7 (v := .ref (m_ad G 159)) X hSt hP m_z_0 4 (by decide) rfl k_f_X7_36 dX7_served_24 ?_
      refine lv_iload_n X.1 X.2.1 dX7_served_27 rfl (lv_at hl 1 rfl) ?_
      refine lv_iconst (v := 0) X.1 X.2.1 dX7_served_28 (by decide) ?_
      obtain ⟨r8, err8, hres⟩ := m_ob_e hres
      refine m_bl (m_cV (n := 2) (As := [.int x1, .int 0]) (rest := []) X hSt hP hS hl.1 (c_X6_fromPurse l G  err8) k_c_yX6_fromPurse k_m_X7_233 k_i_yX6_fromPurse k_s_yX6_fromPurse k_n_X6 (by decide +kernel) (m_rc6 hSt hP m_z_159) rfl rfl ⟨Nat.le_of_ble_eq_true rfl, Nat.le_of_ble_eq_true rfl⟩ (Nat.le_of_ble_eq_true rfl) ⟨Nat.zero_le _, Nat.zero_le _⟩ dX7_served_29) hS (fun H locs hP hS => ?_)
      refine lv_l2i (v := r8.toInt32) X.1 X.2.1 dX7_served_32 rfl ?_
      exact m_ri X hr hlk hP hS (Prod.mk.inj (Option.some.inj hres)).1 (Prod.mk.inj (Option.some.inj hres)).2 dX7_served_33
    · have hres := m_it hres hc6
      refine lv_bipush (v := (-2)) X.1 X.2.1 dX7_served_15 (by decide) ?_
      exact m_ri X hr hlk hP hS (Prod.mk.inj (Option.some.inj hres)).1 (Prod.mk.inj (Option.some.inj hres)).2 dX7_served_17
theorem dX7_sure_0 : decode cX7_sure 0 = .ok (.aload_n 0, 1) := by decide +kernel
theorem dX7_sure_1 : decode cX7_sure 1 = .ok (.iload_n 1, 1) := by decide +kernel
theorem dX7_sure_2 : decode cX7_sure 2 = .ok (.invokevirtual 184, 3) := by decide +kernel
theorem dX7_sure_5 : decode cX7_sure 5 = .ok (.ifCond .eq 27, 3) := by decide +kernel
theorem dX7_sure_8 : decode cX7_sure 8 = .ok (.iload_n 2, 1) := by decide +kernel
theorem dX7_sure_9 : decode cX7_sure 9 = .ok (.invokestatic 202, 3) := by decide +kernel
theorem dX7_sure_12 : decode cX7_sure 12 = .ok (.ifCond .eq 20, 3) := by decide +kernel
theorem dX7_sure_15 : decode cX7_sure 15 = .ok (.iload_n 3, 1) := by decide +kernel
theorem dX7_sure_16 : decode cX7_sure 16 = .ok (.ifCond .lt 16, 3) := by decide +kernel
theorem dX7_sure_19 : decode cX7_sure 19 = .ok (.iload_n 3, 1) := by decide +kernel
theorem dX7_sure_20 : decode cX7_sure 20 = .ok (.iconst 1, 1) := by decide +kernel
theorem dX7_sure_21 : decode cX7_sure 21 = .ok (.if_icmp .gt 11, 3) := by decide +kernel
theorem dX7_sure_24 : decode cX7_sure 24 = .ok (.iload 4, 2) := by decide +kernel
theorem dX7_sure_26 : decode cX7_sure 26 = .ok (.invokestatic 145, 3) := by decide +kernel
theorem dX7_sure_29 : decode cX7_sure 29 = .ok (.ifCond .ne 6, 3) := by decide +kernel
theorem dX7_sure_32 : decode cX7_sure 32 = .ok (.bipush (-2), 2) := by decide +kernel
theorem dX7_sure_34 : decode cX7_sure 34 = .ok (.ireturn, 1) := by decide +kernel
theorem dX7_sure_35 : decode cX7_sure 35 = .ok (.aload_n 0, 1) := by decide +kernel
theorem dX7_sure_36 : decode cX7_sure 36 = .ok (.iload_n 1, 1) := by decide +kernel
theorem dX7_sure_37 : decode cX7_sure 37 = .ok (.iload 4, 2) := by decide +kernel
theorem dX7_sure_39 : decode cX7_sure 39 = .ok (.invokevirtual 249, 3) := by decide +kernel
theorem dX7_sure_42 : decode cX7_sure 42 = .ok (.ifCond .eq 6, 3) := by decide +kernel
theorem dX7_sure_45 : decode cX7_sure 45 = .ok (.bipush (-3), 2) := by decide +kernel
theorem dX7_sure_47 : decode cX7_sure 47 = .ok (.ireturn, 1) := by decide +kernel
theorem dX7_sure_48 : decode cX7_sure 48 = .ok (.aload_n 0, 1) := by decide +kernel
theorem dX7_sure_49 : decode cX7_sure 49 = .ok (.iload_n 1, 1) := by decide +kernel
theorem dX7_sure_50 : decode cX7_sure 50 = .ok (.iload_n 2, 1) := by decide +kernel
theorem dX7_sure_51 : decode cX7_sure 51 = .ok (.iload 4, 2) := by decide +kernel
theorem dX7_sure_53 : decode cX7_sure 53 = .ok (.invokevirtual 253, 3) := by decide +kernel
theorem dX7_sure_56 : decode cX7_sure 56 = .ok (.iconst 0, 1) := by decide +kernel
theorem dX7_sure_57 : decode cX7_sure 57 = .ok (.istore 5, 2) := by decide +kernel
theorem dX7_sure_59 : decode cX7_sure 59 = .ok (.iload_n 3, 1) := by decide +kernel
theorem dX7_sure_60 : decode cX7_sure 60 = .ok (.ifCond .ne 7, 3) := by decide +kernel
theorem dX7_sure_63 : decode cX7_sure 63 = .ok (.iconst (-1), 1) := by decide +kernel
theorem dX7_sure_64 : decode cX7_sure 64 = .ok (.goto 4, 3) := by decide +kernel
theorem dX7_sure_67 : decode cX7_sure 67 = .ok (.iconst 1, 1) := by decide +kernel
theorem dX7_sure_68 : decode cX7_sure 68 = .ok (.istore 6, 2) := by decide +kernel
theorem dX7_sure_70 : decode cX7_sure 70 = .ok (.iconst 1, 1) := by decide +kernel
theorem dX7_sure_71 : decode cX7_sure 71 = .ok (.istore 7, 2) := by decide +kernel
theorem dX7_sure_73 : decode cX7_sure 73 = .ok (.iload 7, 2) := by decide +kernel
theorem dX7_sure_75 : decode cX7_sure 75 = .ok (.aload_n 0, 1) := by decide +kernel
theorem dX7_sure_76 : decode cX7_sure 76 = .ok (.invokevirtual 257, 3) := by decide +kernel
theorem dX7_sure_79 : decode cX7_sure 79 = .ok (.if_icmp .ge 26, 3) := by decide +kernel
theorem dX7_sure_82 : decode cX7_sure 82 = .ok (.aload_n 0, 1) := by decide +kernel
theorem dX7_sure_83 : decode cX7_sure 83 = .ok (.iload 7, 2) := by decide +kernel
theorem dX7_sure_85 : decode cX7_sure 85 = .ok (.iload 5, 2) := by decide +kernel
theorem dX7_sure_87 : decode cX7_sure 87 = .ok (.invokevirtual 260, 3) := by decide +kernel
theorem dX7_sure_90 : decode cX7_sure 90 = .ok (.iload 6, 2) := by decide +kernel
theorem dX7_sure_92 : decode cX7_sure 92 = .ok (.if_icmp .ne 7, 3) := by decide +kernel
theorem dX7_sure_95 : decode cX7_sure 95 = .ok (.iload 7, 2) := by decide +kernel
theorem dX7_sure_97 : decode cX7_sure 97 = .ok (.istore 5, 2) := by decide +kernel
theorem dX7_sure_99 : decode cX7_sure 99 = .ok (.iinc 7 1, 3) := by decide +kernel
theorem dX7_sure_102 : decode cX7_sure 102 = .ok (.goto (-29), 3) := by decide +kernel
theorem dX7_sure_105 : decode cX7_sure 105 = .ok (.aload_n 0, 1) := by decide +kernel
theorem dX7_sure_106 : decode cX7_sure 106 = .ok (.aload_n 0, 1) := by decide +kernel
theorem dX7_sure_107 : decode cX7_sure 107 = .ok (.getfield 47, 3) := by decide +kernel
theorem dX7_sure_110 : decode cX7_sure 110 = .ok (.iload 5, 2) := by decide +kernel
theorem dX7_sure_112 : decode cX7_sure 112 = .ok (.laload, 1) := by decide +kernel
theorem dX7_sure_113 : decode cX7_sure 113 = .ok (.aload_n 0, 1) := by decide +kernel
theorem dX7_sure_114 : decode cX7_sure 114 = .ok (.getfield 51, 3) := by decide +kernel
theorem dX7_sure_117 : decode cX7_sure 117 = .ok (.iload 5, 2) := by decide +kernel
theorem dX7_sure_119 : decode cX7_sure 119 = .ok (.laload, 1) := by decide +kernel
theorem dX7_sure_120 : decode cX7_sure 120 = .ok (.invokevirtual 212, 3) := by decide +kernel
theorem dX7_sure_123 : decode cX7_sure 123 = .ok (.iconst 1, 1) := by decide +kernel
theorem dX7_sure_124 : decode cX7_sure 124 = .ok (.ireturn, 1) := by decide +kernel
def f_X7_sure_b73 (n : Nat) (x1 : Int32) (x2 : Int32) (x3 : Int32) (x4 : Int32) : Nat → Int32 → Int32 → Int32 → m_M → Option (Int32 × m_M)
  | 0, _, _, _, _ => none
  | u + 1, x5, x6, x7, M =>
    m_bd (f_X7_ways M) fun r1 =>
  if r1 ≤ x7 then
  m_gd (m_in x5 32) (
  m_ob (f_X7_setFraction n (M.2 170 x5.toNatClampNeg) (M.2 171 x5.toNatClampNeg) M) fun M4 =>
  some (1, M4))
  else
  m_ob (f_X7_compareWays x7 x5 M) fun r5 =>
  if r5 = x6 then
  f_X7_sure_b73 n x1 x2 x3 x4 u x7 x6 (x7 + 1) M
  else
  f_X7_sure_b73 n x1 x2 x3 x4 u x5 x6 (x7 + 1) M
def f_X7_sure (n : Nat) (x1 : Int32) (x2 : Int32) (x3 : Int32) (x4 : Int32) (M : m_M) : Option (Int32 × m_M) :=
  m_bd (f_X7_isDeal x1 M) fun r7 =>
  if r7 = 0 then
  some ((-2), M)
  else
  m_bd (f_X7_isAsk x2) fun r10 =>
  if r10 = 0 then
  some ((-2), M)
  else
  if x3 < 0 then
  some ((-2), M)
  else
  if (1 : Int32) < x3 then
  some ((-2), M)
  else
  m_bd (f_X7_isDay x4) fun r15 =>
  if r15 = 0 then
  some ((-2), M)
  else
  m_o2 (f_X7_isTooEarly n x1 x4 M) fun r18 M19 =>
  if r18 = 0 then
  m_ob (f_X7_askInAllWays n x1 x2 x4 M19) fun M22 =>
  if x3 = 0 then
  f_X7_sure_b73 n x1 x2 x3 x4 n 0 (-1) 1 M22
  else
  f_X7_sure_b73 n x1 x2 x3 x4 n 0 1 1 M22
  else
  some ((-3), M19)
set_option maxHeartbeats 4000000 in
set_option maxRecDepth 100000 in
theorem c_X7_sure (l : Launch) (G : m_G) {n : Nat} {x1 : Int32} {x2 : Int32} {x3 : Int32} {x4 : Int32} {M : m_M} {r0 : Int32} {M0 : m_M}  (hres : f_X7_sure n x1 x2 x3 x4 M = some (r0, M0)) : Met l yX7_sure (m_U yX7_sure cX7_sure 8 (some .int)) (m_R 8 181) (m_Pc G [.ref (m_ad G 0), .int x1, .int x2, .int x3, .int x4] M) (m_Qi G r0 M0) 0 0 (m_A G) := by
  refine m_i0 (n := 8) RX7 rfl (by decide) (Nat.le_of_ble_eq_true rfl) ?_
  intro p e s m args below meth c X hr hlk hSt hP hS ls hl
  have hl : lv_has ls 8 [(0, .ref (m_ad G 0)), (1, .int x1), (2, .int x2), (3, .int x3), (4, .int x4)] := hl
  have B73 : ∀ (u : Nat) (x5 : Int32) (x6 : Int32) (x7 : Int32) (M : m_M) (H : Heap) (locs : List Loc) (ls : Array Slot), m_P G M H → va_S (m_A G) s.heap H locs → lv_has ls 8 [(0, .ref (m_ad G 0)), (5, .int x5), (6, .int x6), (7, .int x7)] → f_X7_sure_b73 n x1 x2 x3 x4 u x5 x6 x7 M = some (r0, M0) → W p l e (m_R 8 181) s m args below meth c H locs 0 0 (MQ below (m_Qi G r0 M0) args s 0 0 (m_A G)) (F0 m 73 ls []) := by
    intro u
    induction u with
    | zero =>
      intro x5 x6 x7 M H locs ls hP hS hl hres
      cases hres
    | succ u ih =>
      intro x5 x6 x7 M H locs ls hP hS hl hres
      rw [f_X7_sure_b73] at hres
      refine lv_iload X.1 X.2.1 dX7_sure_73 (lv_at hl 3 rfl) ?_
      refine lv_aload_n X.1 X.2.1 dX7_sure_75 rfl (lv_at hl 0 rfl) ?_
      obtain ⟨r1, err1, hres⟩ := m_bd_e hres
      refine m_bi (m_cV (n := 0) (As := []) (rest := [.int x7]) X hSt hP hS hl.1 (c_X7_ways l G  err1) k_c_yX7_ways k_m_X7_257 k_i_yX7_ways k_s_yX7_ways k_n_X7 (by decide +kernel) (m_rc7 hSt hP m_z_0) rfl rfl ⟨Nat.le_of_ble_eq_true rfl, Nat.le_of_ble_eq_true rfl⟩ (Nat.le_of_ble_eq_true rfl) ⟨Nat.zero_le _, Nat.zero_le _⟩ dX7_sure_76) hS (fun H locs hP hS => ?_)
      refine lv_icmp_ge (tgt := 105) X.1 X.2.1 dX7_sure_79 (by decide) (fun hc2 => ?_) (fun hc2 => ?_)
      · have hres := m_it hres hc2
        refine lv_aload_n X.1 X.2.1 dX7_sure_105 rfl (lv_at hl 0 rfl) ?_
        refine lv_aload_n X.1 X.2.1 dX7_sure_106 rfl (lv_at hl 0 rfl) ?_
        refine m_g7 (v := .ref (m_ad G 170)) X hSt hP m_z_0 6 (by decide) rfl k_f_X7_47 dX7_sure_107 ?_
        refine lv_iload X.1 X.2.1 dX7_sure_110 (lv_at hl 1 rfl) ?_
        obtain ⟨hg3, hres⟩ := m_gd_e hres
        refine m_la (j := x5.toNatClampNeg) X hSt hP m_z_170 hg3 rfl dX7_sure_112 ?_
        refine lv_aload_n X.1 X.2.1 dX7_sure_113 rfl (lv_at hl 0 rfl) ?_
        refine m_g7 (v := .ref (m_ad G 171)) X hSt hP m_z_0 7 (by decide) rfl k_f_X7_51 dX7_sure_114 ?_
        refine lv_iload X.1 X.2.1 dX7_sure_117 (lv_at hl 1 rfl) ?_
        refine m_la (j := x5.toNatClampNeg) X hSt hP m_z_171 hg3 rfl dX7_sure_119 ?_
        obtain ⟨M4, eM4, hres⟩ := m_ob_e hres
        refine m_bv (m_cV (n := 2) (As := [.long (M.2 170 x5.toNatClampNeg), .long (M.2 171 x5.toNatClampNeg)]) (rest := []) X hSt hP hS hl.1 (c_X7_setFraction l G  eM4) k_c_yX7_setFraction k_m_X7_212 k_i_yX7_setFraction k_s_yX7_setFraction k_n_X7 (by decide +kernel) (m_rc7 hSt hP m_z_0) rfl rfl ⟨Nat.le_of_ble_eq_true rfl, Nat.le_of_ble_eq_true rfl⟩ (Nat.le_of_ble_eq_true rfl) ⟨Nat.zero_le _, Nat.zero_le _⟩ dX7_sure_120) hS (fun H locs hP hS => ?_)
        refine lv_iconst (v := 1) X.1 X.2.1 dX7_sure_123 (by decide) ?_
        exact m_ri X hr hlk hP hS (Prod.mk.inj (Option.some.inj hres)).1 (Prod.mk.inj (Option.some.inj hres)).2 dX7_sure_124
      · have hres := m_if hres hc2
        refine lv_aload_n X.1 X.2.1 dX7_sure_82 rfl (lv_at hl 0 rfl) ?_
        refine lv_iload X.1 X.2.1 dX7_sure_83 (lv_at hl 3 rfl) ?_
        refine lv_iload X.1 X.2.1 dX7_sure_85 (lv_at hl 1 rfl) ?_
        obtain ⟨r5, err5, hres⟩ := m_ob_e hres
        refine m_bi (m_cV (n := 2) (As := [.int x7, .int x5]) (rest := []) X hSt hP hS hl.1 (c_X7_compareWays l G  err5) k_c_yX7_compareWays k_m_X7_260 k_i_yX7_compareWays k_s_yX7_compareWays k_n_X7 (by decide +kernel) (m_rc7 hSt hP m_z_0) rfl rfl ⟨Nat.le_of_ble_eq_true rfl, Nat.le_of_ble_eq_true rfl⟩ (Nat.le_of_ble_eq_true rfl) ⟨Nat.zero_le _, Nat.zero_le _⟩ dX7_sure_87) hS (fun H locs hP hS => ?_)
        refine lv_iload X.1 X.2.1 dX7_sure_90 (lv_at hl 2 rfl) ?_
        refine lv_icmp_ne (tgt := 99) X.1 X.2.1 dX7_sure_92 (by decide) (fun hc6 => ?_) (fun hc6 => ?_)
        · have hres := m_if hres hc6
          refine lv_iinc (v := (x7 + 1)) (lv' := [(7, .int (x7 + 1)), (0, .ref (m_ad G 0)), (5, .int x5), (6, .int x6)]) X.1 X.2.1 dX7_sure_99 hl (k := 3) rfl rfl (by decide) rfl (fun ls hl => ?_)
          refine lv_goto (tgt := 73) X.1 X.2.1 dX7_sure_102 (by decide) ?_
          exact ih x5 x6 (x7 + 1) M _ _ _ hP hS (lv_sub hl [1, 2, 3, 0] rfl) hres
        · have hres := m_it hres hc6
          refine lv_iload X.1 X.2.1 dX7_sure_95 (lv_at hl 3 rfl) ?_
          refine lv_istore (lv' := [(5, .int x7), (0, .ref (m_ad G 0)), (6, .int x6), (7, .int x7)]) X.1 X.2.1 dX7_sure_97 hl (by decide) rfl (fun ls hl => ?_)
          refine lv_iinc (v := (x7 + 1)) (lv' := [(7, .int (x7 + 1)), (5, .int x7), (0, .ref (m_ad G 0)), (6, .int x6)]) X.1 X.2.1 dX7_sure_99 hl (k := 3) rfl rfl (by decide) rfl (fun ls hl => ?_)
          refine lv_goto (tgt := 73) X.1 X.2.1 dX7_sure_102 (by decide) ?_
          exact ih x7 x6 (x7 + 1) M _ _ _ hP hS (lv_sub hl [2, 1, 3, 0] rfl) hres
  unfold f_X7_sure at hres
  refine lv_aload_n X.1 X.2.1 dX7_sure_0 rfl (lv_at hl 0 rfl) ?_
  refine lv_iload_n X.1 X.2.1 dX7_sure_1 rfl (lv_at hl 1 rfl) ?_
  obtain ⟨r7, err7, hres⟩ := m_bd_e hres
  refine m_bz (m_cV (n := 1) (As := [.int x1]) (rest := []) X hSt hP hS hl.1 (c_X7_isDeal l G  err7) k_c_yX7_isDeal k_m_X7_184 k_i_yX7_isDeal k_s_yX7_isDeal k_n_X7 (by decide +kernel) (m_rc7 hSt hP m_z_0) rfl rfl ⟨Nat.le_of_ble_eq_true rfl, Nat.le_of_ble_eq_true rfl⟩ (Nat.le_of_ble_eq_true rfl) ⟨Nat.zero_le _, Nat.zero_le _⟩ dX7_sure_2) hS (fun H locs hP hS hz8 => ?_)
  refine lv_if_eq (tgt := 32) X.1 X.2.1 dX7_sure_5 (by decide) (fun hc9 => ?_) (fun hc9 => ?_)
  · have hres := m_it hres hc9
    refine lv_bipush (v := (-2)) X.1 X.2.1 dX7_sure_32 (by decide) ?_
    exact m_ri X hr hlk hP hS (Prod.mk.inj (Option.some.inj hres)).1 (Prod.mk.inj (Option.some.inj hres)).2 dX7_sure_34
  · have hres := m_if hres hc9
    refine lv_iload_n X.1 X.2.1 dX7_sure_8 rfl (lv_at hl 2 rfl) ?_
    obtain ⟨r10, err10, hres⟩ := m_bd_e hres
    refine m_bz (m_cS (n := 1) (As := [.int x2]) (rest := []) X hSt hP hS hl.1 (c_X7_isAsk l G (M := M)  err10) k_c_yX7_isAsk k_m_X7_202 k_t_yX7_isAsk k_n_X7 (by decide +kernel) rfl rfl ⟨Nat.le_of_ble_eq_true rfl, Nat.le_of_ble_eq_true rfl⟩ (Nat.le_of_ble_eq_true rfl) ⟨Nat.zero_le _, Nat.zero_le _⟩ dX7_sure_9) hS (fun H locs hP hS hz11 => ?_)
    refine lv_if_eq (tgt := 32) X.1 X.2.1 dX7_sure_12 (by decide) (fun hc12 => ?_) (fun hc12 => ?_)
    · have hres := m_it hres hc12
      refine lv_bipush (v := (-2)) X.1 X.2.1 dX7_sure_32 (by decide) ?_
      exact m_ri X hr hlk hP hS (Prod.mk.inj (Option.some.inj hres)).1 (Prod.mk.inj (Option.some.inj hres)).2 dX7_sure_34
    · have hres := m_if hres hc12
      refine lv_iload_n X.1 X.2.1 dX7_sure_15 rfl (lv_at hl 3 rfl) ?_
      refine lv_if_lt (tgt := 32) X.1 X.2.1 dX7_sure_16 (by decide) (fun hc13 => ?_) (fun hc13 => ?_)
      · have hres := m_it hres hc13
        refine lv_bipush (v := (-2)) X.1 X.2.1 dX7_sure_32 (by decide) ?_
        exact m_ri X hr hlk hP hS (Prod.mk.inj (Option.some.inj hres)).1 (Prod.mk.inj (Option.some.inj hres)).2 dX7_sure_34
      · have hres := m_if hres hc13
        refine lv_iload_n X.1 X.2.1 dX7_sure_19 rfl (lv_at hl 3 rfl) ?_
        refine lv_iconst (v := 1) X.1 X.2.1 dX7_sure_20 (by decide) ?_
        refine lv_icmp_gt (tgt := 32) X.1 X.2.1 dX7_sure_21 (by decide) (fun hc14 => ?_) (fun hc14 => ?_)
        · have hres := m_it hres hc14
          refine lv_bipush (v := (-2)) X.1 X.2.1 dX7_sure_32 (by decide) ?_
          exact m_ri X hr hlk hP hS (Prod.mk.inj (Option.some.inj hres)).1 (Prod.mk.inj (Option.some.inj hres)).2 dX7_sure_34
        · have hres := m_if hres hc14
          refine lv_iload X.1 X.2.1 dX7_sure_24 (lv_at hl 4 rfl) ?_
          obtain ⟨r15, err15, hres⟩ := m_bd_e hres
          refine m_bz (m_cS (n := 1) (As := [.int x4]) (rest := []) X hSt hP hS hl.1 (c_X7_isDay l G (M := M)  err15) k_c_yX7_isDay k_m_X7_145 k_t_yX7_isDay k_n_X7 (by decide +kernel) rfl rfl ⟨Nat.le_of_ble_eq_true rfl, Nat.le_of_ble_eq_true rfl⟩ (Nat.le_of_ble_eq_true rfl) ⟨Nat.zero_le _, Nat.zero_le _⟩ dX7_sure_26) hS (fun H locs hP hS hz16 => ?_)
          refine lv_if_ne (tgt := 35) X.1 X.2.1 dX7_sure_29 (by decide) (fun hc17 => ?_) (fun hc17 => ?_)
          · have hres := m_if hres hc17
            refine lv_aload_n X.1 X.2.1 dX7_sure_35 rfl (lv_at hl 0 rfl) ?_
            refine lv_iload_n X.1 X.2.1 dX7_sure_36 rfl (lv_at hl 1 rfl) ?_
            refine lv_iload X.1 X.2.1 dX7_sure_37 (lv_at hl 4 rfl) ?_
            obtain ⟨r18, M19, err18, hres⟩ := m_o2_e hres
            refine m_bz (m_cV (n := 2) (As := [.int x1, .int x4]) (rest := []) X hSt hP hS hl.1 (c_X7_isTooEarly l G  err18) k_c_yX7_isTooEarly k_m_X7_249 k_i_yX7_isTooEarly k_s_yX7_isTooEarly k_n_X7 (by decide +kernel) (m_rc7 hSt hP m_z_0) rfl rfl ⟨Nat.le_of_ble_eq_true rfl, Nat.le_of_ble_eq_true rfl⟩ (Nat.le_of_ble_eq_true rfl) ⟨Nat.zero_le _, Nat.zero_le _⟩ dX7_sure_39) hS (fun H locs hP hS hz20 => ?_)
            refine lv_if_eq (tgt := 48) X.1 X.2.1 dX7_sure_42 (by decide) (fun hc21 => ?_) (fun hc21 => ?_)
            · have hres := m_it hres hc21
              refine lv_aload_n X.1 X.2.1 dX7_sure_48 rfl (lv_at hl 0 rfl) ?_
              refine lv_iload_n X.1 X.2.1 dX7_sure_49 rfl (lv_at hl 1 rfl) ?_
              refine lv_iload_n X.1 X.2.1 dX7_sure_50 rfl (lv_at hl 2 rfl) ?_
              refine lv_iload X.1 X.2.1 dX7_sure_51 (lv_at hl 4 rfl) ?_
              obtain ⟨M22, eM22, hres⟩ := m_ob_e hres
              refine m_bv (m_cV (n := 3) (As := [.int x1, .int x2, .int x4]) (rest := []) X hSt hP hS hl.1 (c_X7_askInAllWays l G  eM22) k_c_yX7_askInAllWays k_m_X7_253 k_i_yX7_askInAllWays k_s_yX7_askInAllWays k_n_X7 (by decide +kernel) (m_rc7 hSt hP m_z_0) rfl rfl ⟨Nat.le_of_ble_eq_true rfl, Nat.le_of_ble_eq_true rfl⟩ (Nat.le_of_ble_eq_true rfl) ⟨Nat.zero_le _, Nat.zero_le _⟩ dX7_sure_53) hS (fun H locs hP hS => ?_)
              refine lv_iconst (v := 0) X.1 X.2.1 dX7_sure_56 (by decide) ?_
              refine lv_istore (lv' := [(5, .int 0), (0, .ref (m_ad G 0)), (1, .int x1), (2, .int x2), (3, .int x3), (4, .int x4)]) X.1 X.2.1 dX7_sure_57 hl (by decide) rfl (fun ls hl => ?_)
              refine lv_iload_n X.1 X.2.1 dX7_sure_59 rfl (lv_at hl 4 rfl) ?_
              refine lv_if_ne (tgt := 67) X.1 X.2.1 dX7_sure_60 (by decide) (fun hc23 => ?_) (fun hc23 => ?_)
              · have hres := m_if hres hc23
                refine lv_iconst (v := 1) X.1 X.2.1 dX7_sure_67 (by decide) ?_
                refine lv_istore (lv' := [(6, .int 1), (5, .int 0), (0, .ref (m_ad G 0)), (1, .int x1), (2, .int x2), (3, .int x3), (4, .int x4)]) X.1 X.2.1 dX7_sure_68 hl (by decide) rfl (fun ls hl => ?_)
                refine lv_iconst (v := 1) X.1 X.2.1 dX7_sure_70 (by decide) ?_
                refine lv_istore (lv' := [(7, .int 1), (6, .int 1), (5, .int 0), (0, .ref (m_ad G 0)), (1, .int x1), (2, .int x2), (3, .int x3), (4, .int x4)]) X.1 X.2.1 dX7_sure_71 hl (by decide) rfl (fun ls hl => ?_)
                exact B73 n 0 1 1 M22 _ _ _ hP hS (lv_sub hl [3, 2, 1, 0] rfl) hres
              · have hres := m_it hres hc23
                refine lv_iconst (v := (-1)) X.1 X.2.1 dX7_sure_63 (by decide) ?_
                refine lv_goto (tgt := 68) X.1 X.2.1 dX7_sure_64 (by decide) ?_
                refine lv_istore (lv' := [(6, .int (-1)), (5, .int 0), (0, .ref (m_ad G 0)), (1, .int x1), (2, .int x2), (3, .int x3), (4, .int x4)]) X.1 X.2.1 dX7_sure_68 hl (by decide) rfl (fun ls hl => ?_)
                refine lv_iconst (v := 1) X.1 X.2.1 dX7_sure_70 (by decide) ?_
                refine lv_istore (lv' := [(7, .int 1), (6, .int (-1)), (5, .int 0), (0, .ref (m_ad G 0)), (1, .int x1), (2, .int x2), (3, .int x3), (4, .int x4)]) X.1 X.2.1 dX7_sure_71 hl (by decide) rfl (fun ls hl => ?_)
                exact B73 n 0 (-1) 1 M22 _ _ _ hP hS (lv_sub hl [3, 2, 1, 0] rfl) hres
            · have hres := m_if hres hc21
              refine lv_bipush (v := (-3)) X.1 X.2.1 dX7_sure_45 (by decide) ?_
              exact m_ri X hr hlk hP hS (Prod.mk.inj (Option.some.inj hres)).1 (Prod.mk.inj (Option.some.inj hres)).2 dX7_sure_47
          · have hres := m_it hres hc17
            refine lv_bipush (v := (-2)) X.1 X.2.1 dX7_sure_32 (by decide) ?_
            exact m_ri X hr hlk hP hS (Prod.mk.inj (Option.some.inj hres)).1 (Prod.mk.inj (Option.some.inj hres)).2 dX7_sure_34
theorem dX7_told_0 : decode cX7_told 0 = .ok (.aload_n 0, 1) := by decide +kernel
theorem dX7_told_1 : decode cX7_told 1 = .ok (.iload_n 1, 1) := by decide +kernel
theorem dX7_told_2 : decode cX7_told 2 = .ok (.invokevirtual 69, 3) := by decide +kernel
theorem dX7_told_5 : decode cX7_told 5 = .ok (.ifCond .eq 13, 3) := by decide +kernel
theorem dX7_told_8 : decode cX7_told 8 = .ok (.iload_n 2, 1) := by decide +kernel
theorem dX7_told_9 : decode cX7_told 9 = .ok (.ifCond .lt 9, 3) := by decide +kernel
theorem dX7_told_12 : decode cX7_told 12 = .ok (.iload_n 2, 1) := by decide +kernel
theorem dX7_told_13 : decode cX7_told 13 = .ok (.bipush 6, 2) := by decide +kernel
theorem dX7_told_15 : decode cX7_told 15 = .ok (.if_icmp .lt 6, 3) := by decide +kernel
theorem dX7_told_18 : decode cX7_told 18 = .ok (.bipush (-10), 2) := by decide +kernel
theorem dX7_told_20 : decode cX7_told 20 = .ok (.ireturn, 1) := by decide +kernel
theorem dX7_told_21 : decode cX7_told 21 = .ok (.aload_n 0, 1) := by decide +kernel
theorem dX7_told_22 : decode cX7_told 22 = .ok (.getfield 10, 3) := by decide +kernel
theorem dX7_told_25 : decode cX7_told 25 = .ok (.getfield 270, 3) := by decide +kernel
theorem dX7_told_28 : decode cX7_told 28 = .ok (.bipush 6, 2) := by decide +kernel
theorem dX7_told_30 : decode cX7_told 30 = .ok (.iload_n 1, 1) := by decide +kernel
theorem dX7_told_31 : decode cX7_told 31 = .ok (.imul, 1) := by decide +kernel
theorem dX7_told_32 : decode cX7_told 32 = .ok (.iload_n 2, 1) := by decide +kernel
theorem dX7_told_33 : decode cX7_told 33 = .ok (.iadd, 1) := by decide +kernel
theorem dX7_told_34 : decode cX7_told 34 = .ok (.iaload, 1) := by decide +kernel
theorem dX7_told_35 : decode cX7_told 35 = .ok (.ireturn, 1) := by decide +kernel
def f_X7_told (x1 : Int32) (x2 : Int32) (M : m_M) : Option Int32 :=
  m_bd (f_X7_isNote x1 M) fun r1 =>
  if r1 = 0 then
  some (-10)
  else
  if x2 < 0 then
  some (-10)
  else
  if x2 < 6 then
  m_gd (m_in (((6 : Int32) * x1) + x2) 360) (
  some (M.1 (1 + 1) ((((6 : Int32) * x1) + x2).toNatClampNeg)))
  else
  some (-10)
set_option maxHeartbeats 4000000 in
set_option maxRecDepth 100000 in
theorem c_X7_told (l : Launch) (G : m_G) {x1 : Int32} {x2 : Int32} {M : m_M} {r0 : Int32}  (hres : f_X7_told x1 x2 M = some r0) : Met l yX7_told (m_U yX7_told cX7_told 3 (some .int)) (m_R 1 21) (m_Pc G [.ref (m_ad G 0), .int x1, .int x2] M) (m_Qi G r0 M) 0 0 (m_A G) := by
  refine m_i0 (n := 3) RX7 rfl (by decide) (Nat.le_of_ble_eq_true rfl) ?_
  intro p e s m args below meth c X hr hlk hSt hP hS ls hl
  have hl : lv_has ls 3 [(0, .ref (m_ad G 0)), (1, .int x1), (2, .int x2)] := hl
  unfold f_X7_told at hres
  refine lv_aload_n X.1 X.2.1 dX7_told_0 rfl (lv_at hl 0 rfl) ?_
  refine lv_iload_n X.1 X.2.1 dX7_told_1 rfl (lv_at hl 1 rfl) ?_
  obtain ⟨r1, err1, hres⟩ := m_bd_e hres
  refine m_bz (m_cV (n := 1) (As := [.int x1]) (rest := []) X hSt hP hS hl.1 (c_X7_isNote l G  err1) k_c_yX7_isNote k_m_X7_69 k_i_yX7_isNote k_s_yX7_isNote k_n_X7 (by decide +kernel) (m_rc7 hSt hP m_z_0) rfl rfl ⟨Nat.le_of_ble_eq_true rfl, Nat.le_of_ble_eq_true rfl⟩ (Nat.le_of_ble_eq_true rfl) ⟨Nat.zero_le _, Nat.zero_le _⟩ dX7_told_2) hS (fun H locs hP hS hz2 => ?_)
  refine lv_if_eq (tgt := 18) X.1 X.2.1 dX7_told_5 (by decide) (fun hc3 => ?_) (fun hc3 => ?_)
  · have hres := m_it hres hc3
    refine lv_bipush (v := (-10)) X.1 X.2.1 dX7_told_18 (by decide) ?_
    exact m_ri X hr hlk hP hS (Option.some.inj hres) rfl dX7_told_20
  · have hres := m_if hres hc3
    refine lv_iload_n X.1 X.2.1 dX7_told_8 rfl (lv_at hl 2 rfl) ?_
    refine lv_if_lt (tgt := 18) X.1 X.2.1 dX7_told_9 (by decide) (fun hc4 => ?_) (fun hc4 => ?_)
    · have hres := m_it hres hc4
      refine lv_bipush (v := (-10)) X.1 X.2.1 dX7_told_18 (by decide) ?_
      exact m_ri X hr hlk hP hS (Option.some.inj hres) rfl dX7_told_20
    · have hres := m_if hres hc4
      refine lv_iload_n X.1 X.2.1 dX7_told_12 rfl (lv_at hl 2 rfl) ?_
      refine lv_bipush (v := 6) X.1 X.2.1 dX7_told_13 (by decide) ?_
      refine lv_icmp_lt (tgt := 21) X.1 X.2.1 dX7_told_15 (by decide) (fun hc5 => ?_) (fun hc5 => ?_)
      · have hres := m_it hres hc5
        refine lv_aload_n X.1 X.2.1 dX7_told_21 rfl (lv_at hl 0 rfl) ?_
        refine m_g7 (v := .ref (m_ad G 1)) X hSt hP m_z_0 0 (by decide) rfl k_f_X7_10 dX7_told_22 ?_
        refine m_g3 (v := .ref (m_ad G (1 + 1))) X hSt hP m_kept_0.1 5 (by decide) rfl k_f_X7_270 dX7_told_25 ?_
        refine lv_bipush (v := 6) X.1 X.2.1 dX7_told_28 (by decide) ?_
        refine lv_iload_n X.1 X.2.1 dX7_told_30 rfl (lv_at hl 1 rfl) ?_
        refine lv_imul X.1 X.2.1 dX7_told_31 ?_
        refine lv_iload_n X.1 X.2.1 dX7_told_32 rfl (lv_at hl 2 rfl) ?_
        refine lv_iadd X.1 X.2.1 dX7_told_33 ?_
        obtain ⟨hg6, hres⟩ := m_gd_e hres
        refine m_ia (j := ((((6 : Int32) * x1) + x2).toNatClampNeg)) X hSt hP m_kept_0.2.1 hg6 rfl dX7_told_34 ?_
        exact m_ri X hr hlk hP hS (Option.some.inj hres) rfl dX7_told_35
      · have hres := m_if hres hc5
        refine lv_bipush (v := (-10)) X.1 X.2.1 dX7_told_18 (by decide) ?_
        exact m_ri X hr hlk hP hS (Option.some.inj hres) rfl dX7_told_20
theorem dX2_add_0 : decode cX2_add 0 = .ok (.aload_n 0, 1) := by decide +kernel
theorem dX2_add_1 : decode cX2_add 1 = .ok (.getfield 19, 3) := by decide +kernel
theorem dX2_add_4 : decode cX2_add 4 = .ok (.sipush 300, 3) := by decide +kernel
theorem dX2_add_7 : decode cX2_add 7 = .ok (.if_icmp .lt 4, 3) := by decide +kernel
theorem dX2_add_10 : decode cX2_add 10 = .ok (.return_, 1) := by decide +kernel
theorem dX2_add_11 : decode cX2_add 11 = .ok (.aload_n 0, 1) := by decide +kernel
theorem dX2_add_12 : decode cX2_add 12 = .ok (.getfield 9, 3) := by decide +kernel
theorem dX2_add_15 : decode cX2_add 15 = .ok (.aload_n 0, 1) := by decide +kernel
theorem dX2_add_16 : decode cX2_add 16 = .ok (.getfield 19, 3) := by decide +kernel
theorem dX2_add_19 : decode cX2_add 19 = .ok (.iload_n 1, 1) := by decide +kernel
theorem dX2_add_20 : decode cX2_add 20 = .ok (.iastore, 1) := by decide +kernel
theorem dX2_add_21 : decode cX2_add 21 = .ok (.aload_n 0, 1) := by decide +kernel
theorem dX2_add_22 : decode cX2_add 22 = .ok (.dup, 1) := by decide +kernel
theorem dX2_add_23 : decode cX2_add 23 = .ok (.getfield 19, 3) := by decide +kernel
theorem dX2_add_26 : decode cX2_add 26 = .ok (.iconst 1, 1) := by decide +kernel
theorem dX2_add_27 : decode cX2_add 27 = .ok (.iadd, 1) := by decide +kernel
theorem dX2_add_28 : decode cX2_add 28 = .ok (.putfield 19, 3) := by decide +kernel
theorem dX2_add_31 : decode cX2_add 31 = .ok (.return_, 1) := by decide +kernel
def f_X2_add (x1 : Int32) (M : m_M) : Option m_M :=
  if (M.1 168 1) < 300 then
  m_gd (m_in (M.1 168 1) 300) (
  m_bd (m_sI M 169 ((M.1 168 1).toNatClampNeg) x1) fun M3 =>
  m_bd (m_sI M3 168 1 ((M3.1 168 1) + (1 : Int32))) fun M4 =>
  some M4)
  else
  some M
set_option maxHeartbeats 4000000 in
set_option maxRecDepth 100000 in
theorem c_X2_add (l : Launch) (G : m_G) {x1 : Int32} {M : m_M} {M0 : m_M}  (hres : f_X2_add x1 M = some M0) : Met l yX2_add (m_U yX2_add cX2_add 2 none) (m_R 0 0) (m_Pc G [.ref (m_ad G 168), .int x1] M) (m_Qv G M0) 0 0 (m_A G) := by
  refine m_i0 (n := 2) RX2 rfl (by decide) (Nat.le_of_ble_eq_true rfl) ?_
  intro p e s m args below meth c X hr hlk hSt hP hS ls hl
  have hl : lv_has ls 2 [(0, .ref (m_ad G 168)), (1, .int x1)] := hl
  unfold f_X2_add at hres
  refine lv_aload_n X.1 X.2.1 dX2_add_0 rfl (lv_at hl 0 rfl) ?_
  refine m_g2 (v := .int (M.1 168 1)) X hSt hP m_z_168 1 (by decide) rfl k_f_X2_19 dX2_add_1 ?_
  refine lv_sipush (v := 300) X.1 X.2.1 dX2_add_4 (by decide) ?_
  refine lv_icmp_lt (tgt := 11) X.1 X.2.1 dX2_add_7 (by decide) (fun hc1 => ?_) (fun hc1 => ?_)
  · have hres := m_it hres hc1
    refine lv_aload_n X.1 X.2.1 dX2_add_11 rfl (lv_at hl 0 rfl) ?_
    refine m_g2 (v := .ref (m_ad G 169)) X hSt hP m_z_168 0 (by decide) rfl k_f_X2_9 dX2_add_12 ?_
    refine lv_aload_n X.1 X.2.1 dX2_add_15 rfl (lv_at hl 0 rfl) ?_
    refine m_g2 (v := .int (M.1 168 1)) X hSt hP m_z_168 1 (by decide) rfl k_f_X2_19 dX2_add_16 ?_
    refine lv_iload_n X.1 X.2.1 dX2_add_19 rfl (lv_at hl 1 rfl) ?_
    obtain ⟨hg2, hres⟩ := m_gd_e hres
    obtain ⟨M3, eM3, hres⟩ := m_bd_e hres
    refine m_is (j := ((M.1 168 1).toNatClampNeg)) X hSt hP hS m_z_169 hg2 rfl dX2_add_20 eM3 (fun H locs hP hS => ?_)
    refine lv_aload_n X.1 X.2.1 dX2_add_21 rfl (lv_at hl 0 rfl) ?_
    refine lv_dup X.1 X.2.1 dX2_add_22 rfl ?_
    refine m_g2 (v := .int (M3.1 168 1)) X hSt hP m_z_168 1 (by decide) rfl k_f_X2_19 dX2_add_23 ?_
    refine lv_iconst (v := 1) X.1 X.2.1 dX2_add_26 (by decide) ?_
    refine lv_iadd X.1 X.2.1 dX2_add_27 ?_
    obtain ⟨M4, eM4, hres⟩ := m_bd_e hres
    refine m_pi2 X hSt hP hS m_z_168 1 (by decide) eM4 rfl rfl (by decide) k_f_X2_19 dX2_add_28 (fun H locs hP hS => ?_)
    exact m_rv X hr hlk hP hS (Option.some.inj hres) dX2_add_31
  · have hres := m_if hres hc1
    exact m_rv X hr hlk hP hS (Option.some.inj hres) dX2_add_10
