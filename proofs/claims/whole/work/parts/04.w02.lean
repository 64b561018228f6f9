/-! WALKS 2: X3_isDoubted J3_checkIndex_8e157 J0_checkIndex_df160 J1_charAt_3b067 J0_charAt_5068e X1_changeDeal X5_end X5_goInto X1_changePerson X1_apply X1_replay X1_isThere X1_answerer X7_answers X7_isAsk X1_stepsUp X5_partOf X5_allParts X5_debtTo X1_debtToHolder X1_debtToFellows X4_join -/
theorem dX3_isDoubted_0 : decode cX3_isDoubted 0 = .ok (.aload_n 0, 1) := by decide +kernel
theorem dX3_isDoubted_1 : decode cX3_isDoubted 1 = .ok (.getfield 9, 3) := by decide +kernel
theorem dX3_isDoubted_4 : decode cX3_isDoubted 4 = .ok (.bipush 6, 2) := by decide +kernel
theorem dX3_isDoubted_6 : decode cX3_isDoubted 6 = .ok (.iload_n 1, 1) := by decide +kernel
theorem dX3_isDoubted_7 : decode cX3_isDoubted 7 = .ok (.imul, 1) := by decide +kernel
theorem dX3_isDoubted_8 : decode cX3_isDoubted 8 = .ok (.iconst 5, 1) := by decide +kernel
theorem dX3_isDoubted_9 : decode cX3_isDoubted 9 = .ok (.iadd, 1) := by decide +kernel
theorem dX3_isDoubted_10 : decode cX3_isDoubted 10 = .ok (.iaload, 1) := by decide +kernel
theorem dX3_isDoubted_11 : decode cX3_isDoubted 11 = .ok (.ifCond .eq 7, 3) := by decide +kernel
theorem dX3_isDoubted_14 : decode cX3_isDoubted 14 = .ok (.iconst 1, 1) := by decide +kernel
theorem dX3_isDoubted_15 : decode cX3_isDoubted 15 = .ok (.goto 4, 3) := by decide +kernel
theorem dX3_isDoubted_18 : decode cX3_isDoubted 18 = .ok (.iconst 0, 1) := by decide +kernel
theorem dX3_isDoubted_19 : decode cX3_isDoubted 19 = .ok (.ireturn, 1) := by decide +kernel
def f_X3_isDoubted (k0 : Nat) (x1 : Int32) (M : m_M) : Option Int32 :=
  m_gd (m_in (((6 : Int32) * x1) + (5 : Int32)) 360) (
  if (M.1 (k0 + 1) ((((6 : Int32) * x1) + (5 : Int32)).toNatClampNeg)) = 0 then
  some 0
  else
  some 1)
set_option maxHeartbeats 4000000 in
set_option maxRecDepth 100000 in
theorem c_X3_isDoubted (l : Launch) (G : m_G) {k0 : Nat} {x1 : Int32} {M : m_M} {r0 : Int32} (hk0 : m_isKept k0) (hres : f_X3_isDoubted k0 x1 M = some r0) : Met l yX3_isDoubted (m_U yX3_isDoubted cX3_isDoubted 2 (some .boolean)) (m_R 0 0) (m_Pc G [.ref (m_ad G k0), .int x1] M) (m_Qz G r0 M) 0 0 (m_A G) := by
  refine m_i0 (n := 2) RX3 rfl (by decide) (Nat.le_of_ble_eq_true rfl) ?_
  intro p e s m args below meth c X hr hlk hSt hP hS ls hl
  have hl : lv_has ls 2 [(0, .ref (m_ad G k0)), (1, .int x1)] := hl
  unfold f_X3_isDoubted at hres
  refine lv_aload_n X.1 X.2.1 dX3_isDoubted_0 rfl (lv_at hl 0 rfl) ?_
  refine m_g3 (v := .ref (m_ad G (k0 + 1))) X hSt hP hk0.1 5 (by decide) rfl k_f_X3_9 dX3_isDoubted_1 ?_
  refine lv_bipush (v := 6) X.1 X.2.1 dX3_isDoubted_4 (by decide) ?_
  refine lv_iload_n X.1 X.2.1 dX3_isDoubted_6 rfl (lv_at hl 1 rfl) ?_
  refine lv_imul X.1 X.2.1 dX3_isDoubted_7 ?_
  refine lv_iconst (v := 5) X.1 X.2.1 dX3_isDoubted_8 (by decide) ?_
  refine lv_iadd X.1 X.2.1 dX3_isDoubted_9 ?_
  obtain ⟨hg1, hres⟩ := m_gd_e hres
  refine m_ia (j := ((((6 : Int32) * x1) + (5 : Int32)).toNatClampNeg)) X hSt hP hk0.2.1 hg1 rfl dX3_isDoubted_10 ?_
  refine lv_if_eq (tgt := 18) X.1 X.2.1 dX3_isDoubted_11 (by decide) (fun hc2 => ?_) (fun hc2 => ?_)
  · have hres := m_it hres hc2
    refine lv_iconst (v := 0) X.1 X.2.1 dX3_isDoubted_18 (by decide) ?_
    exact m_rz X hr hlk hP hS (Option.some.inj hres) rfl (by decide) dX3_isDoubted_19
  · have hres := m_if hres hc2
    refine lv_iconst (v := 1) X.1 X.2.1 dX3_isDoubted_14 (by decide) ?_
    refine lv_goto (tgt := 19) X.1 X.2.1 dX3_isDoubted_15 (by decide) ?_
    exact m_rz X hr hlk hP hS (Option.some.inj hres) rfl (by decide) dX3_isDoubted_19
theorem dJ3_checkIndex_8e157_0 : decode cJ3_checkIndex_8e157 0 = .ok (.iload_n 0, 1) := by decide +kernel
theorem dJ3_checkIndex_8e157_1 : decode cJ3_checkIndex_8e157 1 = .ok (.ifCond .lt 8, 3) := by decide +kernel
theorem dJ3_checkIndex_8e157_4 : decode cJ3_checkIndex_8e157 4 = .ok (.iload_n 0, 1) := by decide +kernel
theorem dJ3_checkIndex_8e157_5 : decode cJ3_checkIndex_8e157 5 = .ok (.iload_n 1, 1) := by decide +kernel
theorem dJ3_checkIndex_8e157_6 : decode cJ3_checkIndex_8e157 6 = .ok (.if_icmp .lt 10, 3) := by decide +kernel
theorem dJ3_checkIndex_8e157_9 : decode cJ3_checkIndex_8e157 9 = .ok (.aload_n 2, 1) := by decide +kernel
theorem dJ3_checkIndex_8e157_16 : decode cJ3_checkIndex_8e157 16 = .ok (.iload_n 0, 1) := by decide +kernel
theorem dJ3_checkIndex_8e157_17 : decode cJ3_checkIndex_8e157 17 = .ok (.ireturn, 1) := by decide +kernel
def f_J3_checkIndex_8e157 (x0 : Int32) (x1 : Int32) : Option Int32 :=
  if x0 < 0 then
  none
  else
  if x0 < x1 then
  some x0
  else
  none
set_option maxHeartbeats 4000000 in
set_option maxRecDepth 100000 in
theorem c_J3_checkIndex_8e157 (l : Launch) (G : m_G) {x0 : Int32} {x1 : Int32} {M : m_M} {r0 : Int32} {v2 : Option Nat}  (hres : f_J3_checkIndex_8e157 x0 x1 = some r0) : Met l yJ3_checkIndex_8e157 (m_U yJ3_checkIndex_8e157 cJ3_checkIndex_8e157 3 (some .int)) (m_R 0 0) (m_Pc G [.int x0, .int x1, (va_rf v2)] M) (m_Qi G r0 M) 0 0 (m_A G) := by
  refine m_i0 (n := 3) RJ3 rfl (by decide) (by cases v2 <;> exact Nat.le_of_ble_eq_true rfl) ?_
  intro p e s m args below meth c X hr hlk hSt hP hS ls hl
  have hl : lv_has ls 3 [(0, .int x0), (1, .int x1), (2, (va_rf v2))] := by cases v2 <;> exact hl
  unfold f_J3_checkIndex_8e157 at hres
  refine lv_iload_n X.1 X.2.1 dJ3_checkIndex_8e157_0 rfl (lv_at hl 0 rfl) ?_
  refine lv_if_lt (tgt := 9) X.1 X.2.1 dJ3_checkIndex_8e157_1 (by decide) (fun hc1 => ?_) (fun hc1 => ?_)
  · have hres := m_it hres hc1
    cases hres
  · have hres := m_if hres hc1
    refine lv_iload_n X.1 X.2.1 dJ3_checkIndex_8e157_4 rfl (lv_at hl 0 rfl) ?_
    refine lv_iload_n X.1 X.2.1 dJ3_checkIndex_8e157_5 rfl (lv_at hl 1 rfl) ?_
    refine lv_icmp_lt (tgt := 16) X.1 X.2.1 dJ3_checkIndex_8e157_6 (by decide) (fun hc2 => ?_) (fun hc2 => ?_)
    · have hres := m_it hres hc2
      refine lv_iload_n X.1 X.2.1 dJ3_checkIndex_8e157_16 rfl (lv_at hl 0 rfl) ?_
      exact m_ri X hr hlk hP hS (Option.some.inj hres) rfl dJ3_checkIndex_8e157_17
    · have hres := m_if hres hc2
      cases hres
theorem dJ0_checkIndex_df160_0 : decode cJ0_checkIndex_df160 0 = .ok (.iload_n 0, 1) := by decide +kernel
theorem dJ0_checkIndex_df160_1 : decode cJ0_checkIndex_df160 1 = .ok (.iload_n 1, 1) := by decide +kernel
theorem dJ0_checkIndex_df160_2 : decode cJ0_checkIndex_df160 2 = .ok (.getstatic 1053, 3) := by decide +kernel
theorem dJ0_checkIndex_df160_5 : decode cJ0_checkIndex_df160 5 = .ok (.invokestatic 1059, 3) := by decide +kernel
theorem dJ0_checkIndex_df160_8 : decode cJ0_checkIndex_df160 8 = .ok (.pop, 1) := by decide +kernel
theorem dJ0_checkIndex_df160_9 : decode cJ0_checkIndex_df160 9 = .ok (.return_, 1) := by decide +kernel
def f_J0_checkIndex_df160 (x0 : Int32) (x1 : Int32) : Option Unit :=
  m_ob (f_J3_checkIndex_8e157 x0 x1) fun r2 =>
  some ()
set_option maxHeartbeats 4000000 in
set_option maxRecDepth 100000 in
theorem c_J0_checkIndex_df160 (l : Launch) (G : m_G) {x0 : Int32} {x1 : Int32} {M : m_M}  (hres : f_J0_checkIndex_df160 x0 x1 = some ()) : Met l yJ0_checkIndex_df160 (m_U yJ0_checkIndex_df160 cJ0_checkIndex_df160 2 none) (m_R 1 22) (m_Pc G [.int x0, .int x1] M) (m_Qv G M) 0 0 (m_A G) := by
  refine m_i0 (n := 2) RJ0 rfl (by decide) (Nat.le_of_ble_eq_true rfl) ?_
  intro p e s m args below meth c X hr hlk hSt hP hS ls hl
  have hl : lv_has ls 2 [(0, .int x0), (1, .int x1)] := hl
  unfold f_J0_checkIndex_df160 at hres
  refine lv_iload_n X.1 X.2.1 dJ0_checkIndex_df160_0 rfl (lv_at hl 0 rfl) ?_
  refine lv_iload_n X.1 X.2.1 dJ0_checkIndex_df160_1 rfl (lv_at hl 1 rfl) ?_
  refine m_so X hSt hS k_f_J0_1053 dJ0_checkIndex_df160_2 (fun v1 => ?_)
  obtain ⟨r2, err2, hres⟩ := m_ob_e hres
  refine m_bi (m_cS (n := 3) (As := [.int x0, .int x1, (va_rf v1)]) (rest := []) X hSt hP hS hl.1 (c_J3_checkIndex_8e157 l G (M := M)  err2) k_c_yJ3_checkIndex_8e157 k_m_J0_1059 k_t_yJ3_checkIndex_8e157 k_n_J3 (by decide +kernel) rfl rfl ⟨Nat.le_of_ble_eq_true rfl, Nat.le_of_ble_eq_true rfl⟩ (Nat.le_of_ble_eq_true rfl) ⟨Nat.zero_le _, Nat.zero_le _⟩ dJ0_checkIndex_df160_5) hS (fun H locs hP hS => ?_)
  refine lv_pop X.1 X.2.1 dJ0_checkIndex_df160_8 rfl ?_
  exact m_rv X hr hlk hP hS rfl dJ0_checkIndex_df160_9
theorem dJ1_charAt_3b067_0 : decode cJ1_charAt_3b067 0 = .ok (.iload_n 1, 1) := by decide +kernel
theorem dJ1_charAt_3b067_1 : decode cJ1_charAt_3b067 1 = .ok (.aload_n 0, 1) := by decide +kernel
theorem dJ1_charAt_3b067_2 : decode cJ1_charAt_3b067 2 = .ok (.arraylength, 1) := by decide +kernel
theorem dJ1_charAt_3b067_3 : decode cJ1_charAt_3b067 3 = .ok (.invokestatic 9, 3) := by decide +kernel
theorem dJ1_charAt_3b067_6 : decode cJ1_charAt_3b067 6 = .ok (.aload_n 0, 1) := by decide +kernel
theorem dJ1_charAt_3b067_7 : decode cJ1_charAt_3b067 7 = .ok (.iload_n 1, 1) := by decide +kernel
theorem dJ1_charAt_3b067_8 : decode cJ1_charAt_3b067 8 = .ok (.baload, 1) := by decide +kernel
theorem dJ1_charAt_3b067_9 : decode cJ1_charAt_3b067 9 = .ok (.sipush 255, 3) := by decide +kernel
theorem dJ1_charAt_3b067_12 : decode cJ1_charAt_3b067 12 = .ok (.iand, 1) := by decide +kernel
theorem dJ1_charAt_3b067_13 : decode cJ1_charAt_3b067 13 = .ok (.i2c, 1) := by decide +kernel
theorem dJ1_charAt_3b067_14 : decode cJ1_charAt_3b067 14 = .ok (.ireturn, 1) := by decide +kernel
def f_J1_charAt_3b067 (k0 : Nat) (x1 : Int32) : Option Int32 :=
  m_ob (f_J0_checkIndex_df160 x1 (nI (m_len k0))) fun w1 =>
  m_gd (m_in x1 (m_len k0)) (
  some ((((m_ch k0 x1.toNatClampNeg) &&& (255 : Int32)).toUInt32 % 65536).toInt32))
set_option maxHeartbeats 4000000 in
set_option maxRecDepth 100000 in
theorem c_J1_charAt_3b067 (l : Launch) (G : m_G) {k0 : Nat} {x1 : Int32} {M : m_M} {r0 : Int32} (hk0 : k0 < 9) (hres : f_J1_charAt_3b067 k0 x1 = some r0) : Met l yJ1_charAt_3b067 (m_U yJ1_charAt_3b067 cJ1_charAt_3b067 2 (some .char)) (m_R 2 43) (m_Pc G [.ref (m_V G k0), .int x1] M) (m_Qn .char G r0 M) 0 0 (m_A G) := by
  refine m_i0 (n := 2) RJ1 rfl (by decide) (Nat.le_of_ble_eq_true rfl) ?_
  intro p e s m args below meth c X hr hlk hSt hP hS ls hl
  have hl : lv_has ls 2 [(0, .ref (m_V G k0)), (1, .int x1)] := hl
  unfold f_J1_charAt_3b067 at hres
  refine lv_iload_n X.1 X.2.1 dJ1_charAt_3b067_0 rfl (lv_at hl 1 rfl) ?_
  refine lv_aload_n X.1 X.2.1 dJ1_charAt_3b067_1 rfl (lv_at hl 0 rfl) ?_
  refine m_sn X hSt hS hk0 dJ1_charAt_3b067_2 ?_
  obtain ⟨w1, ew1, hres⟩ := m_ob_e hres
  refine m_bv (m_cS (n := 2) (As := [.int x1, .int (nI (m_len k0))]) (rest := []) X hSt hP hS hl.1 (c_J0_checkIndex_df160 l G (M := M)  ew1) k_c_yJ0_checkIndex_df160 k_m_J1_9 k_t_yJ0_checkIndex_df160 k_n_J0 (by decide +kernel) rfl rfl ⟨Nat.le_of_ble_eq_true rfl, Nat.le_of_ble_eq_true rfl⟩ (Nat.le_of_ble_eq_true rfl) ⟨Nat.zero_le _, Nat.zero_le _⟩ dJ1_charAt_3b067_3) hS (fun H locs hP hS => ?_)
  refine lv_aload_n X.1 X.2.1 dJ1_charAt_3b067_6 rfl (lv_at hl 0 rfl) ?_
  refine lv_iload_n X.1 X.2.1 dJ1_charAt_3b067_7 rfl (lv_at hl 1 rfl) ?_
  obtain ⟨hg2, hres⟩ := m_gd_e hres
  refine m_sb X hSt hS hk0 hg2 dJ1_charAt_3b067_8 ?_
  refine lv_sipush (v := 255) X.1 X.2.1 dJ1_charAt_3b067_9 (by decide) ?_
  refine lv_iand X.1 X.2.1 dJ1_charAt_3b067_12 ?_
  refine lv_i2c (v := (((m_ch k0 x1.toNatClampNeg) &&& (255 : Int32)).toUInt32 % 65536).toInt32) X.1 X.2.1 dJ1_charAt_3b067_13 rfl ?_
  exact m_rn X hr hlk hP hS (Option.some.inj hres) rfl (pk_nc _) dJ1_charAt_3b067_14
theorem dJ0_charAt_5068e_0 : decode cJ0_charAt_5068e 0 = .ok (.aload_n 0, 1) := by decide +kernel
theorem dJ0_charAt_5068e_1 : decode cJ0_charAt_5068e 1 = .ok (.invokevirtual 492, 3) := by decide +kernel
theorem dJ0_charAt_5068e_4 : decode cJ0_charAt_5068e 4 = .ok (.ifCond .eq 12, 3) := by decide +kernel
theorem dJ0_charAt_5068e_7 : decode cJ0_charAt_5068e 7 = .ok (.aload_n 0, 1) := by decide +kernel
theorem dJ0_charAt_5068e_8 : decode cJ0_charAt_5068e 8 = .ok (.getfield 9, 3) := by decide +kernel
theorem dJ0_charAt_5068e_11 : decode cJ0_charAt_5068e 11 = .ok (.iload_n 1, 1) := by decide +kernel
theorem dJ0_charAt_5068e_12 : decode cJ0_charAt_5068e 12 = .ok (.invokestatic 495, 3) := by decide +kernel
theorem dJ0_charAt_5068e_15 : decode cJ0_charAt_5068e 15 = .ok (.ireturn, 1) := by decide +kernel
def f_J0_charAt_5068e (k0 : Nat) (x1 : Int32) : Option Int32 :=
  m_ob (f_J1_charAt_3b067 k0 x1) fun r3 =>
  some r3
set_option maxHeartbeats 4000000 in
set_option maxRecDepth 100000 in
theorem c_J0_charAt_5068e (l : Launch) (G : m_G) {k0 : Nat} {x1 : Int32} {M : m_M} {r0 : Int32} (hk0 : k0 < 9) (hres : f_J0_charAt_5068e k0 x1 = some r0) : Met l yJ0_charAt_5068e (m_U yJ0_charAt_5068e cJ0_charAt_5068e 2 (some .char)) (m_R 3 64) (m_Pc G [.ref (m_K G k0), .int x1] M) (m_Qn .char G r0 M) 0 0 (m_A G) := by
  refine m_i0 (n := 2) RJ0 rfl (by decide) (Nat.le_of_ble_eq_true rfl) ?_
  intro p e s m args below meth c X hr hlk hSt hP hS ls hl
  have hl : lv_has ls 2 [(0, .ref (m_K G k0)), (1, .int x1)] := hl
  unfold f_J0_charAt_5068e at hres
  refine lv_aload_n X.1 X.2.1 dJ0_charAt_5068e_0 rfl (lv_at hl 0 rfl) ?_
  refine m_bz (m_cV (n := 0) (As := []) (rest := []) X hSt hP hS hl.1 (c_J0_isLatin1_aae02 l G (M := M) hk0 (show f_J0_isLatin1_aae02 k0 = 1 from rfl)) k_c_yJ0_isLatin1_aae02 k_m_J0_492 k_i_yJ0_isLatin1_aae02 k_s_yJ0_isLatin1_aae02 k_n_J0 (by decide +kernel) (m_rcS hSt hS hk0) rfl rfl ⟨Nat.le_of_ble_eq_true rfl, Nat.le_of_ble_eq_true rfl⟩ (Nat.le_of_ble_eq_true rfl) ⟨Nat.zero_le _, Nat.zero_le _⟩ dJ0_charAt_5068e_1) hS (fun H locs hP hS hz2 => ?_)
  refine lv_if_eq (tgt := 16) X.1 X.2.1 dJ0_charAt_5068e_4 (by decide) (fun hc => ?_) (fun hc => ?_)
  · exact absurd hc (by decide)
  · refine lv_aload_n X.1 X.2.1 dJ0_charAt_5068e_7 rfl (lv_at hl 0 rfl) ?_
    refine m_sv X hSt hS hk0 k_f_J0_9 dJ0_charAt_5068e_8 ?_
    refine lv_iload_n X.1 X.2.1 dJ0_charAt_5068e_11 rfl (lv_at hl 1 rfl) ?_
    obtain ⟨r3, err3, hres⟩ := m_ob_e hres
    refine m_bn (m_cS (n := 2) (As := [.ref (m_V G k0), .int x1]) (rest := []) X hSt hP hS hl.1 (c_J1_charAt_3b067 l G (M := M) hk0 err3) k_c_yJ1_charAt_3b067 k_m_J0_495 k_t_yJ1_charAt_3b067 k_n_J1 (by decide +kernel) rfl rfl ⟨Nat.le_of_ble_eq_true rfl, Nat.le_of_ble_eq_true rfl⟩ (Nat.le_of_ble_eq_true rfl) ⟨Nat.zero_le _, Nat.zero_le _⟩ dJ0_charAt_5068e_12) hS (fun H locs hP hS hz4 => ?_)
    exact m_rn X hr hlk hP hS (Option.some.inj hres) rfl hz4 dJ0_charAt_5068e_15
theorem dX1_changeDeal_0 : decode cX1_changeDeal 0 = .ok (.iload_n 0, 1) := by decide +kernel
theorem dX1_changeDeal_1 : decode cX1_changeDeal 1 = .ok (.lookupswitch 69 #[(5, 35), (9, 43), (10, 56)], 35) := by decide +kernel
theorem dX1_changeDeal_36 : decode cX1_changeDeal 36 = .ok (.aload_n 1, 1) := by decide +kernel
theorem dX1_changeDeal_37 : decode cX1_changeDeal 37 = .ok (.iconst 1, 1) := by decide +kernel
theorem dX1_changeDeal_38 : decode cX1_changeDeal 38 = .ok (.putfield 90, 3) := by decide +kernel
theorem dX1_changeDeal_41 : decode cX1_changeDeal 41 = .ok (.goto 39, 3) := by decide +kernel
theorem dX1_changeDeal_44 : decode cX1_changeDeal 44 = .ok (.aload_n 1, 1) := by decide +kernel
theorem dX1_changeDeal_45 : decode cX1_changeDeal 45 = .ok (.dup, 1) := by decide +kernel
theorem dX1_changeDeal_46 : decode cX1_changeDeal 46 = .ok (.getfield 94, 3) := by decide +kernel
theorem dX1_changeDeal_49 : decode cX1_changeDeal 49 = .ok (.iload_n 2, 1) := by decide +kernel
theorem dX1_changeDeal_50 : decode cX1_changeDeal 50 = .ok (.iadd, 1) := by decide +kernel
theorem dX1_changeDeal_51 : decode cX1_changeDeal 51 = .ok (.putfield 94, 3) := by decide +kernel
theorem dX1_changeDeal_54 : decode cX1_changeDeal 54 = .ok (.goto 26, 3) := by decide +kernel
theorem dX1_changeDeal_57 : decode cX1_changeDeal 57 = .ok (.aload_n 1, 1) := by decide +kernel
theorem dX1_changeDeal_58 : decode cX1_changeDeal 58 = .ok (.dup, 1) := by decide +kernel
theorem dX1_changeDeal_59 : decode cX1_changeDeal 59 = .ok (.getfield 97, 3) := by decide +kernel
theorem dX1_changeDeal_62 : decode cX1_changeDeal 62 = .ok (.iload_n 2, 1) := by decide +kernel
theorem dX1_changeDeal_63 : decode cX1_changeDeal 63 = .ok (.iadd, 1) := by decide +kernel
theorem dX1_changeDeal_64 : decode cX1_changeDeal 64 = .ok (.putfield 97, 3) := by decide +kernel
theorem dX1_changeDeal_67 : decode cX1_changeDeal 67 = .ok (.goto 13, 3) := by decide +kernel
theorem dX1_changeDeal_70 : decode cX1_changeDeal 70 = .ok (.aload_n 1, 1) := by decide +kernel
theorem dX1_changeDeal_71 : decode cX1_changeDeal 71 = .ok (.dup, 1) := by decide +kernel
theorem dX1_changeDeal_72 : decode cX1_changeDeal 72 = .ok (.getfield 100, 3) := by decide +kernel
theorem dX1_changeDeal_75 : decode cX1_changeDeal 75 = .ok (.iload_n 2, 1) := by decide +kernel
theorem dX1_changeDeal_76 : decode cX1_changeDeal 76 = .ok (.iadd, 1) := by decide +kernel
theorem dX1_changeDeal_77 : decode cX1_changeDeal 77 = .ok (.putfield 100, 3) := by decide +kernel
theorem dX1_changeDeal_80 : decode cX1_changeDeal 80 = .ok (.return_, 1) := by decide +kernel
def f_X1_changeDeal (x0 : Int32) (k1 : Nat) (x2 : Int32) (M : m_M) : m_M :=
  if x0 = 5 then
  m_bd (m_sI M k1 7 1) fun M2 =>
  M2
  else
  if x0 = 9 then
  m_bd (m_sI M k1 4 ((M.1 k1 4) + x2)) fun M4 =>
  M4
  else
  if x0 = 10 then
  m_bd (m_sI M k1 5 ((M.1 k1 5) + x2)) fun M6 =>
  M6
  else
  m_bd (m_sI M k1 3 ((M.1 k1 3) + x2)) fun M7 =>
  M7
set_option maxHeartbeats 4000000 in
set_option maxRecDepth 100000 in
theorem c_X1_changeDeal (l : Launch) (G : m_G) {x0 : Int32} {k1 : Nat} {x2 : Int32} {M : m_M} {M0 : m_M} (hk1 : m_isDeal k1) (hres : f_X1_changeDeal x0 k1 x2 M = M0) : Met l yX1_changeDeal (m_U yX1_changeDeal cX1_changeDeal 3 none) (m_R 0 0) (m_Pc G [.int x0, .ref (m_ad G k1), .int x2] M) (m_Qv G M0) 0 0 (m_A G) := by
  refine m_i0 (n := 3) RX1 rfl (by decide) (Nat.le_of_ble_eq_true rfl) ?_
  intro p e s m args below meth c X hr hlk hSt hP hS ls hl
  have hl : lv_has ls 3 [(0, .int x0), (1, .ref (m_ad G k1)), (2, .int x2)] := hl
  unfold f_X1_changeDeal at hres
  refine lv_iload_n X.1 X.2.1 dX1_changeDeal_0 rfl (lv_at hl 0 rfl) ?_
  by_cases hc1 : x0 = 5
  · have hres := m_it hres hc1
    refine m_lin (tgt := 36) (off := 35) X dX1_changeDeal_1 ⟨_, hc1, by decide⟩ (by decide) (by decide) ?_
    refine lv_aload_n X.1 X.2.1 dX1_changeDeal_36 rfl (lv_at hl 1 rfl) ?_
    refine lv_iconst (v := 1) X.1 X.2.1 dX1_changeDeal_37 (by decide) ?_
    obtain ⟨M2, eM2, hres⟩ := m_bd_e hres
    refine m_pz0 X hSt hP hS hk1 7 (by decide) (by decide) eM2 rfl rfl (by decide) k_f_X1_90 dX1_changeDeal_38 (fun H locs hP hS => ?_)
    refine lv_goto (tgt := 80) X.1 X.2.1 dX1_changeDeal_41 (by decide) ?_
    exact m_rv X hr hlk hP hS hres dX1_changeDeal_80
  · have hres := m_if hres hc1
    by_cases hc3 : x0 = 9
    · have hres := m_it hres hc3
      refine m_lin (tgt := 44) (off := 43) X dX1_changeDeal_1 ⟨_, hc3, by decide⟩ (by decide) (by decide) ?_
      refine lv_aload_n X.1 X.2.1 dX1_changeDeal_44 rfl (lv_at hl 1 rfl) ?_
      refine lv_dup X.1 X.2.1 dX1_changeDeal_45 rfl ?_
      refine m_g0 (v := .int (M.1 k1 4)) X hSt hP hk1 4 (by decide) rfl k_f_X1_94 dX1_changeDeal_46 ?_
      refine lv_iload_n X.1 X.2.1 dX1_changeDeal_49 rfl (lv_at hl 2 rfl) ?_
      refine lv_iadd X.1 X.2.1 dX1_changeDeal_50 ?_
      obtain ⟨M4, eM4, hres⟩ := m_bd_e hres
      refine m_pi0 X hSt hP hS hk1 4 (by decide) eM4 rfl rfl (by decide) k_f_X1_94 dX1_changeDeal_51 (fun H locs hP hS => ?_)
      refine lv_goto (tgt := 80) X.1 X.2.1 dX1_changeDeal_54 (by decide) ?_
      exact m_rv X hr hlk hP hS hres dX1_changeDeal_80
    · have hres := m_if hres hc3
      by_cases hc5 : x0 = 10
      · have hres := m_it hres hc5
        refine m_lin (tgt := 57) (off := 56) X dX1_changeDeal_1 ⟨_, hc5, by decide⟩ (by decide) (by decide) ?_
        refine lv_aload_n X.1 X.2.1 dX1_changeDeal_57 rfl (lv_at hl 1 rfl) ?_
        refine lv_dup X.1 X.2.1 dX1_changeDeal_58 rfl ?_
        refine m_g0 (v := .int (M.1 k1 5)) X hSt hP hk1 5 (by decide) rfl k_f_X1_97 dX1_changeDeal_59 ?_
        refine lv_iload_n X.1 X.2.1 dX1_changeDeal_62 rfl (lv_at hl 2 rfl) ?_
        refine lv_iadd X.1 X.2.1 dX1_changeDeal_63 ?_
        obtain ⟨M6, eM6, hres⟩ := m_bd_e hres
        refine m_pi0 X hSt hP hS hk1 5 (by decide) eM6 rfl rfl (by decide) k_f_X1_97 dX1_changeDeal_64 (fun H locs hP hS => ?_)
        refine lv_goto (tgt := 80) X.1 X.2.1 dX1_changeDeal_67 (by decide) ?_
        exact m_rv X hr hlk hP hS hres dX1_changeDeal_80
      · have hres := m_if hres hc5
        refine lv_lookup (tgt := 70) X.1 X.2.1 dX1_changeDeal_1 (by decide) (m_lkd (List.forall_mem_cons.mpr ⟨(m_ne (z := 5) hc1 (by decide)).symm, List.forall_mem_cons.mpr ⟨(m_ne (z := 9) hc3 (by decide)).symm, List.forall_mem_cons.mpr ⟨(m_ne (z := 10) hc5 (by decide)).symm, List.forall_mem_nil _⟩⟩⟩)) (by decide) ?_
        refine lv_aload_n X.1 X.2.1 dX1_changeDeal_70 rfl (lv_at hl 1 rfl) ?_
        refine lv_dup X.1 X.2.1 dX1_changeDeal_71 rfl ?_
        refine m_g0 (v := .int (M.1 k1 3)) X hSt hP hk1 3 (by decide) rfl k_f_X1_100 dX1_changeDeal_72 ?_
        refine lv_iload_n X.1 X.2.1 dX1_changeDeal_75 rfl (lv_at hl 2 rfl) ?_
        refine lv_iadd X.1 X.2.1 dX1_changeDeal_76 ?_
        obtain ⟨M7, eM7, hres⟩ := m_bd_e hres
        refine m_pi0 X hSt hP hS hk1 3 (by decide) eM7 rfl rfl (by decide) k_f_X1_100 dX1_changeDeal_77 (fun H locs hP hS => ?_)
        exact m_rv X hr hlk hP hS hres dX1_changeDeal_80
theorem dX5_end_0 : decode cX5_end 0 = .ok (.aload_n 0, 1) := by decide +kernel
theorem dX5_end_1 : decode cX5_end 1 = .ok (.aload_n 0, 1) := by decide +kernel
theorem dX5_end_2 : decode cX5_end 2 = .ok (.getfield 25, 3) := by decide +kernel
theorem dX5_end_5 : decode cX5_end 5 = .ok (.putfield 29, 3) := by decide +kernel
theorem dX5_end_8 : decode cX5_end 8 = .ok (.aload_n 0, 1) := by decide +kernel
theorem dX5_end_9 : decode cX5_end 9 = .ok (.iload_n 1, 1) := by decide +kernel
theorem dX5_end_10 : decode cX5_end 10 = .ok (.putfield 32, 3) := by decide +kernel
theorem dX5_end_13 : decode cX5_end 13 = .ok (.aload_n 0, 1) := by decide +kernel
theorem dX5_end_14 : decode cX5_end 14 = .ok (.iload_n 2, 1) := by decide +kernel
theorem dX5_end_15 : decode cX5_end 15 = .ok (.putfield 35, 3) := by decide +kernel
theorem dX5_end_18 : decode cX5_end 18 = .ok (.aload_n 0, 1) := by decide +kernel
theorem dX5_end_19 : decode cX5_end 19 = .ok (.iconst (-1), 1) := by decide +kernel
theorem dX5_end_20 : decode cX5_end 20 = .ok (.putfield 25, 3) := by decide +kernel
theorem dX5_end_23 : decode cX5_end 23 = .ok (.return_, 1) := by decide +kernel
def f_X5_end (k0 : Nat) (x1 : Int32) (x2 : Int32) (M : m_M) : m_M :=
  m_bd (m_sI M k0 1 (M.1 k0 0)) fun M1 =>
  m_bd (m_sI M1 k0 2 x1) fun M2 =>
  m_bd (m_sI M2 k0 3 x2) fun M3 =>
  m_bd (m_sI M3 k0 0 (-1)) fun M4 =>
  M4
set_option maxHeartbeats 4000000 in
set_option maxRecDepth 100000 in
theorem c_X5_end (l : Launch) (G : m_G) {k0 : Nat} {x1 : Int32} {x2 : Int32} {M : m_M} {M0 : m_M} (hk0 : m_isPerson k0) (hres : f_X5_end k0 x1 x2 M = M0) : Met l yX5_end (m_U yX5_end cX5_end 3 none) (m_R 0 0) (m_Pc G [.ref (m_ad G k0), .int x1, .int x2] M) (m_Qv G M0) 0 0 (m_A G) := by
  refine m_i0 (n := 3) RX5 rfl (by decide) (Nat.le_of_ble_eq_true rfl) ?_
  intro p e s m args below meth c X hr hlk hSt hP hS ls hl
  have hl : lv_has ls 3 [(0, .ref (m_ad G k0)), (1, .int x1), (2, .int x2)] := hl
  unfold f_X5_end at hres
  refine lv_aload_n X.1 X.2.1 dX5_end_0 rfl (lv_at hl 0 rfl) ?_
  refine lv_aload_n X.1 X.2.1 dX5_end_1 rfl (lv_at hl 0 rfl) ?_
  refine m_g5 (v := .int (M.1 k0 0)) X hSt hP hk0.1 0 (by decide) rfl k_f_X5_25 dX5_end_2 ?_
  obtain ⟨M1, eM1, hres⟩ := m_bd_e hres
  refine m_pi5 X hSt hP hS hk0.1 1 (by decide) eM1 rfl rfl (by decide) k_f_X5_29 dX5_end_5 (fun H locs hP hS => ?_)
  refine lv_aload_n X.1 X.2.1 dX5_end_8 rfl (lv_at hl 0 rfl) ?_
  refine lv_iload_n X.1 X.2.1 dX5_end_9 rfl (lv_at hl 1 rfl) ?_
  obtain ⟨M2, eM2, hres⟩ := m_bd_e hres
  refine m_pi5 X hSt hP hS hk0.1 2 (by decide) eM2 rfl rfl (by decide) k_f_X5_32 dX5_end_10 (fun H locs hP hS => ?_)
  refine lv_aload_n X.1 X.2.1 dX5_end_13 rfl (lv_at hl 0 rfl) ?_
  refine lv_iload_n X.1 X.2.1 dX5_end_14 rfl (lv_at hl 2 rfl) ?_
  obtain ⟨M3, eM3, hres⟩ := m_bd_e hres
  refine m_pi5 X hSt hP hS hk0.1 3 (by decide) eM3 rfl rfl (by decide) k_f_X5_35 dX5_end_15 (fun H locs hP hS => ?_)
  refine lv_aload_n X.1 X.2.1 dX5_end_18 rfl (lv_at hl 0 rfl) ?_
  refine lv_iconst (v := (-1)) X.1 X.2.1 dX5_end_19 (by decide) ?_
  obtain ⟨M4, eM4, hres⟩ := m_bd_e hres
  refine m_pi5 X hSt hP hS hk0.1 0 (by decide) eM4 rfl rfl (by decide) k_f_X5_25 dX5_end_20 (fun H locs hP hS => ?_)
  exact m_rv X hr hlk hP hS hres dX5_end_23
theorem dX5_goInto_0 : decode cX5_goInto 0 = .ok (.aload_n 0, 1) := by decide +kernel
theorem dX5_goInto_1 : decode cX5_goInto 1 = .ok (.iload_n 1, 1) := by decide +kernel
theorem dX5_goInto_2 : decode cX5_goInto 2 = .ok (.putfield 25, 3) := by decide +kernel
theorem dX5_goInto_5 : decode cX5_goInto 5 = .ok (.aload_n 0, 1) := by decide +kernel
theorem dX5_goInto_6 : decode cX5_goInto 6 = .ok (.iconst (-1), 1) := by decide +kernel
theorem dX5_goInto_7 : decode cX5_goInto 7 = .ok (.putfield 29, 3) := by decide +kernel
theorem dX5_goInto_10 : decode cX5_goInto 10 = .ok (.return_, 1) := by decide +kernel
def f_X5_goInto (k0 : Nat) (x1 : Int32) (M : m_M) : m_M :=
  m_bd (m_sI M k0 0 x1) fun M1 =>
  m_bd (m_sI M1 k0 1 (-1)) fun M2 =>
  M2
set_option maxHeartbeats 4000000 in
set_option maxRecDepth 100000 in
theorem c_X5_goInto (l : Launch) (G : m_G) {k0 : Nat} {x1 : Int32} {M : m_M} {M0 : m_M} (hk0 : m_isPerson k0) (hres : f_X5_goInto k0 x1 M = M0) : Met l yX5_goInto (m_U yX5_goInto cX5_goInto 2 none) (m_R 0 0) (m_Pc G [.ref (m_ad G k0), .int x1] M) (m_Qv G M0) 0 0 (m_A G) := by
  refine m_i0 (n := 2) RX5 rfl (by decide) (Nat.le_of_ble_eq_true rfl) ?_
  intro p e s m args below meth c X hr hlk hSt hP hS ls hl
  have hl : lv_has ls 2 [(0, .ref (m_ad G k0)), (1, .int x1)] := hl
  unfold f_X5_goInto at hres
  refine lv_aload_n X.1 X.2.1 dX5_goInto_0 rfl (lv_at hl 0 rfl) ?_
  refine lv_iload_n X.1 X.2.1 dX5_goInto_1 rfl (lv_at hl 1 rfl) ?_
  obtain ⟨M1, eM1, hres⟩ := m_bd_e hres
  refine m_pi5 X hSt hP hS hk0.1 0 (by decide) eM1 rfl rfl (by decide) k_f_X5_25 dX5_goInto_2 (fun H locs hP hS => ?_)
  refine lv_aload_n X.1 X.2.1 dX5_goInto_5 rfl (lv_at hl 0 rfl) ?_
  refine lv_iconst (v := (-1)) X.1 X.2.1 dX5_goInto_6 (by decide) ?_
  obtain ⟨M2, eM2, hres⟩ := m_bd_e hres
  refine m_pi5 X hSt hP hS hk0.1 1 (by decide) eM2 rfl rfl (by decide) k_f_X5_29 dX5_goInto_7 (fun H locs hP hS => ?_)
  exact m_rv X hr hlk hP hS hres dX5_goInto_10
theorem dX1_changePerson_0 : decode cX1_changePerson 0 = .ok (.iload_n 0, 1) := by decide +kernel
theorem dX1_changePerson_1 : decode cX1_changePerson 1 = .ok (.tableswitch 163 0 11 #[63, 71, 84, 97, 163, 163, 120, 130, 140, 163, 163, 150], 63) := by decide +kernel
theorem dX1_changePerson_64 : decode cX1_changePerson 64 = .ok (.aload_n 1, 1) := by decide +kernel
theorem dX1_changePerson_65 : decode cX1_changePerson 65 = .ok (.iload_n 2, 1) := by decide +kernel
theorem dX1_changePerson_66 : decode cX1_changePerson 66 = .ok (.invokevirtual 103, 3) := by decide +kernel
theorem dX1_changePerson_69 : decode cX1_changePerson 69 = .ok (.goto 105, 3) := by decide +kernel
theorem dX1_changePerson_72 : decode cX1_changePerson 72 = .ok (.aload_n 1, 1) := by decide +kernel
theorem dX1_changePerson_73 : decode cX1_changePerson 73 = .ok (.getfield 106, 3) := by decide +kernel
theorem dX1_changePerson_76 : decode cX1_changePerson 76 = .ok (.iload_n 2, 1) := by decide +kernel
theorem dX1_changePerson_77 : decode cX1_changePerson 77 = .ok (.dup2, 1) := by decide +kernel
theorem dX1_changePerson_78 : decode cX1_changePerson 78 = .ok (.iaload, 1) := by decide +kernel
theorem dX1_changePerson_79 : decode cX1_changePerson 79 = .ok (.iload_n 3, 1) := by decide +kernel
theorem dX1_changePerson_80 : decode cX1_changePerson 80 = .ok (.iadd, 1) := by decide +kernel
theorem dX1_changePerson_81 : decode cX1_changePerson 81 = .ok (.iastore, 1) := by decide +kernel
theorem dX1_changePerson_82 : decode cX1_changePerson 82 = .ok (.goto 92, 3) := by decide +kernel
theorem dX1_changePerson_85 : decode cX1_changePerson 85 = .ok (.aload_n 1, 1) := by decide +kernel
theorem dX1_changePerson_86 : decode cX1_changePerson 86 = .ok (.getfield 106, 3) := by decide +kernel
theorem dX1_changePerson_89 : decode cX1_changePerson 89 = .ok (.iload_n 2, 1) := by decide +kernel
theorem dX1_changePerson_90 : decode cX1_changePerson 90 = .ok (.dup2, 1) := by decide +kernel
theorem dX1_changePerson_91 : decode cX1_changePerson 91 = .ok (.iaload, 1) := by decide +kernel
theorem dX1_changePerson_92 : decode cX1_changePerson 92 = .ok (.iload_n 3, 1) := by decide +kernel
theorem dX1_changePerson_93 : decode cX1_changePerson 93 = .ok (.isub, 1) := by decide +kernel
theorem dX1_changePerson_94 : decode cX1_changePerson 94 = .ok (.iastore, 1) := by decide +kernel
theorem dX1_changePerson_95 : decode cX1_changePerson 95 = .ok (.goto 79, 3) := by decide +kernel
theorem dX1_changePerson_98 : decode cX1_changePerson 98 = .ok (.aload_n 1, 1) := by decide +kernel
theorem dX1_changePerson_99 : decode cX1_changePerson 99 = .ok (.getfield 106, 3) := by decide +kernel
theorem dX1_changePerson_102 : decode cX1_changePerson 102 = .ok (.iload_n 2, 1) := by decide +kernel
theorem dX1_changePerson_103 : decode cX1_changePerson 103 = .ok (.dup2, 1) := by decide +kernel
theorem dX1_changePerson_104 : decode cX1_changePerson 104 = .ok (.iaload, 1) := by decide +kernel
theorem dX1_changePerson_105 : decode cX1_changePerson 105 = .ok (.iload_n 3, 1) := by decide +kernel
theorem dX1_changePerson_106 : decode cX1_changePerson 106 = .ok (.isub, 1) := by decide +kernel
theorem dX1_changePerson_107 : decode cX1_changePerson 107 = .ok (.iastore, 1) := by decide +kernel
theorem dX1_changePerson_108 : decode cX1_changePerson 108 = .ok (.aload_n 1, 1) := by decide +kernel
theorem dX1_changePerson_109 : decode cX1_changePerson 109 = .ok (.dup, 1) := by decide +kernel
theorem dX1_changePerson_110 : decode cX1_changePerson 110 = .ok (.getfield 109, 3) := by decide +kernel
theorem dX1_changePerson_113 : decode cX1_changePerson 113 = .ok (.iload_n 3, 1) := by decide +kernel
theorem dX1_changePerson_114 : decode cX1_changePerson 114 = .ok (.iadd, 1) := by decide +kernel
theorem dX1_changePerson_115 : decode cX1_changePerson 115 = .ok (.putfield 109, 3) := by decide +kernel
theorem dX1_changePerson_118 : decode cX1_changePerson 118 = .ok (.goto 56, 3) := by decide +kernel
theorem dX1_changePerson_121 : decode cX1_changePerson 121 = .ok (.aload_n 1, 1) := by decide +kernel
theorem dX1_changePerson_122 : decode cX1_changePerson 122 = .ok (.getfield 112, 3) := by decide +kernel
theorem dX1_changePerson_125 : decode cX1_changePerson 125 = .ok (.iload_n 2, 1) := by decide +kernel
theorem dX1_changePerson_126 : decode cX1_changePerson 126 = .ok (.iconst 1, 1) := by decide +kernel
theorem dX1_changePerson_127 : decode cX1_changePerson 127 = .ok (.bastore, 1) := by decide +kernel
theorem dX1_changePerson_128 : decode cX1_changePerson 128 = .ok (.goto 46, 3) := by decide +kernel
theorem dX1_changePerson_131 : decode cX1_changePerson 131 = .ok (.aload_n 1, 1) := by decide +kernel
theorem dX1_changePerson_132 : decode cX1_changePerson 132 = .ok (.getfield 112, 3) := by decide +kernel
theorem dX1_changePerson_135 : decode cX1_changePerson 135 = .ok (.iload_n 2, 1) := by decide +kernel
theorem dX1_changePerson_136 : decode cX1_changePerson 136 = .ok (.iconst 0, 1) := by decide +kernel
theorem dX1_changePerson_137 : decode cX1_changePerson 137 = .ok (.bastore, 1) := by decide +kernel
theorem dX1_changePerson_138 : decode cX1_changePerson 138 = .ok (.goto 36, 3) := by decide +kernel
theorem dX1_changePerson_141 : decode cX1_changePerson 141 = .ok (.aload_n 1, 1) := by decide +kernel
theorem dX1_changePerson_142 : decode cX1_changePerson 142 = .ok (.getfield 116, 3) := by decide +kernel
theorem dX1_changePerson_145 : decode cX1_changePerson 145 = .ok (.iload_n 2, 1) := by decide +kernel
theorem dX1_changePerson_146 : decode cX1_changePerson 146 = .ok (.iconst 1, 1) := by decide +kernel
theorem dX1_changePerson_147 : decode cX1_changePerson 147 = .ok (.bastore, 1) := by decide +kernel
theorem dX1_changePerson_148 : decode cX1_changePerson 148 = .ok (.goto 26, 3) := by decide +kernel
theorem dX1_changePerson_151 : decode cX1_changePerson 151 = .ok (.aload_n 1, 1) := by decide +kernel
theorem dX1_changePerson_152 : decode cX1_changePerson 152 = .ok (.getfield 119, 3) := by decide +kernel
theorem dX1_changePerson_155 : decode cX1_changePerson 155 = .ok (.iload_n 2, 1) := by decide +kernel
theorem dX1_changePerson_156 : decode cX1_changePerson 156 = .ok (.dup2, 1) := by decide +kernel
theorem dX1_changePerson_157 : decode cX1_changePerson 157 = .ok (.iaload, 1) := by decide +kernel
theorem dX1_changePerson_158 : decode cX1_changePerson 158 = .ok (.iload_n 3, 1) := by decide +kernel
theorem dX1_changePerson_159 : decode cX1_changePerson 159 = .ok (.iadd, 1) := by decide +kernel
theorem dX1_changePerson_160 : decode cX1_changePerson 160 = .ok (.iastore, 1) := by decide +kernel
theorem dX1_changePerson_161 : decode cX1_changePerson 161 = .ok (.goto 13, 3) := by decide +kernel
theorem dX1_changePerson_164 : decode cX1_changePerson 164 = .ok (.aload_n 1, 1) := by decide +kernel
theorem dX1_changePerson_165 : decode cX1_changePerson 165 = .ok (.getfield 119, 3) := by decide +kernel
theorem dX1_changePerson_168 : decode cX1_changePerson 168 = .ok (.iload_n 2, 1) := by decide +kernel
theorem dX1_changePerson_169 : decode cX1_changePerson 169 = .ok (.dup2, 1) := by decide +kernel
theorem dX1_changePerson_170 : decode cX1_changePerson 170 = .ok (.iaload, 1) := by decide +kernel
theorem dX1_changePerson_171 : decode cX1_changePerson 171 = .ok (.iload_n 3, 1) := by decide +kernel
theorem dX1_changePerson_172 : decode cX1_changePerson 172 = .ok (.isub, 1) := by decide +kernel
theorem dX1_changePerson_173 : decode cX1_changePerson 173 = .ok (.iastore, 1) := by decide +kernel
theorem dX1_changePerson_174 : decode cX1_changePerson 174 = .ok (.return_, 1) := by decide +kernel
def f_X1_changePerson (x0 : Int32) (k1 : Nat) (x2 : Int32) (x3 : Int32) (M : m_M) : Option m_M :=
  if x0 = 0 then
  m_bd (f_X5_goInto k1 x2 M) fun M2 =>
  some M2
  else
  if x0 = 1 then
  m_gd (m_in x2 4) (
  m_bd (m_sI M (k1 + 1) x2.toNatClampNeg ((M.1 (k1 + 1) x2.toNatClampNeg) + x3)) fun M5 =>
  some M5)
  else
  if x0 = 2 then
  m_gd (m_in x2 4) (
  m_bd (m_sI M (k1 + 1) x2.toNatClampNeg ((M.1 (k1 + 1) x2.toNatClampNeg) - x3)) fun M8 =>
  some M8)
  else
  if x0 = 3 then
  m_gd (m_in x2 4) (
  m_bd (m_sI M (k1 + 1) x2.toNatClampNeg ((M.1 (k1 + 1) x2.toNatClampNeg) - x3)) fun M11 =>
  m_bd (m_sI M11 k1 4 ((M11.1 k1 4) + x3)) fun M12 =>
  some M12)
  else
  if x0 = 6 then
  m_gd (m_in x2 4) (
  m_bd (m_sI M (k1 + 3) x2.toNatClampNeg 1) fun M15 =>
  some M15)
  else
  if x0 = 7 then
  m_gd (m_in x2 4) (
  m_bd (m_sI M (k1 + 3) x2.toNatClampNeg 0) fun M18 =>
  some M18)
  else
  if x0 = 8 then
  m_gd (m_in x2 4) (
  m_bd (m_sI M (k1 + 4) x2.toNatClampNeg 1) fun M21 =>
  some M21)
  else
  if x0 = 11 then
  m_gd (m_in x2 10) (
  m_bd (m_sI M (k1 + 2) x2.toNatClampNeg ((M.1 (k1 + 2) x2.toNatClampNeg) + x3)) fun M24 =>
  some M24)
  else
  m_gd (m_in x2 10) (
  m_bd (m_sI M (k1 + 2) x2.toNatClampNeg ((M.1 (k1 + 2) x2.toNatClampNeg) - x3)) fun M26 =>
  some M26)
set_option maxHeartbeats 4000000 in
set_option maxRecDepth 100000 in
theorem c_X1_changePerson (l : Launch) (G : m_G) {x0 : Int32} {k1 : Nat} {x2 : Int32} {x3 : Int32} {M : m_M} {M0 : m_M} (hk1 : m_isPerson k1) (hres : f_X1_changePerson x0 k1 x2 x3 M = some M0) : Met l yX1_changePerson (m_U yX1_changePerson cX1_changePerson 4 none) (m_R 1 21) (m_Pc G [.int x0, .ref (m_ad G k1), .int x2, .int x3] M) (m_Qv G M0) 0 0 (m_A G) := by
  refine m_i0 (n := 4) RX1 rfl (by decide) (Nat.le_of_ble_eq_true rfl) ?_
  intro p e s m args below meth c X hr hlk hSt hP hS ls hl
  have hl : lv_has ls 4 [(0, .int x0), (1, .ref (m_ad G k1)), (2, .int x2), (3, .int x3)] := hl
  unfold f_X1_changePerson at hres
  refine lv_iload_n X.1 X.2.1 dX1_changePerson_0 rfl (lv_at hl 0 rfl) ?_
  by_cases hc1 : x0 = 0
  · have hres := m_it hres hc1
    refine m_tin (tgt := 64) X dX1_changePerson_1 ⟨_, hc1, by decide, by decide, rfl⟩ (by decide) ?_
    refine lv_aload_n X.1 X.2.1 dX1_changePerson_64 rfl (lv_at hl 1 rfl) ?_
    refine lv_iload_n X.1 X.2.1 dX1_changePerson_65 rfl (lv_at hl 2 rfl) ?_
    obtain ⟨M2, eM2, hres⟩ := m_bd_e hres
    refine m_bv (m_cV (n := 1) (As := [.int x2]) (rest := []) X hSt hP hS hl.1 (c_X5_goInto l G hk1 eM2) k_c_yX5_goInto k_m_X1_103 k_i_yX5_goInto k_s_yX5_goInto k_n_X5 (by decide +kernel) (m_rc5 hSt hP hk1.1) rfl rfl ⟨Nat.le_of_ble_eq_true rfl, Nat.le_of_ble_eq_true rfl⟩ (Nat.le_of_ble_eq_true rfl) ⟨Nat.zero_le _, Nat.zero_le _⟩ dX1_changePerson_66) hS (fun H locs hP hS => ?_)
    refine lv_goto (tgt := 174) X.1 X.2.1 dX1_changePerson_69 (by decide) ?_
    exact m_rv X hr hlk hP hS (Option.some.inj hres) dX1_changePerson_174
  · have hres := m_if hres hc1
    by_cases hc3 : x0 = 1
    · have hres := m_it hres hc3
      refine m_tin (tgt := 72) X dX1_changePerson_1 ⟨_, hc3, by decide, by decide, rfl⟩ (by decide) ?_
      refine lv_aload_n X.1 X.2.1 dX1_changePerson_72 rfl (lv_at hl 1 rfl) ?_
      refine m_g5 (v := .ref (m_ad G (k1 + 1))) X hSt hP hk1.1 7 (by decide) rfl k_f_X1_106 dX1_changePerson_73 ?_
      refine lv_iload_n X.1 X.2.1 dX1_changePerson_76 rfl (lv_at hl 2 rfl) ?_
      refine lv_dup2_11 X.1 X.2.1 dX1_changePerson_77 rfl rfl ?_
      obtain ⟨hg4, hres⟩ := m_gd_e hres
      refine m_ia (j := x2.toNatClampNeg) X hSt hP hk1.2.1 hg4 rfl dX1_changePerson_78 ?_
      refine lv_iload_n X.1 X.2.1 dX1_changePerson_79 rfl (lv_at hl 3 rfl) ?_
      refine lv_iadd X.1 X.2.1 dX1_changePerson_80 ?_
      obtain ⟨M5, eM5, hres⟩ := m_bd_e hres
      refine m_is (j := x2.toNatClampNeg) X hSt hP hS hk1.2.1 hg4 rfl dX1_changePerson_81 eM5 (fun H locs hP hS => ?_)
      refine lv_goto (tgt := 174) X.1 X.2.1 dX1_changePerson_82 (by decide) ?_
      exact m_rv X hr hlk hP hS (Option.some.inj hres) dX1_changePerson_174
    · have hres := m_if hres hc3
      by_cases hc6 : x0 = 2
      · have hres := m_it hres hc6
        refine m_tin (tgt := 85) X dX1_changePerson_1 ⟨_, hc6, by decide, by decide, rfl⟩ (by decide) ?_
        refine lv_aload_n X.1 X.2.1 dX1_changePerson_85 rfl (lv_at hl 1 rfl) ?_
        refine m_g5 (v := .ref (m_ad G (k1 + 1))) X hSt hP hk1.1 7 (by decide) rfl k_f_X1_106 dX1_changePerson_86 ?_
        refine lv_iload_n X.1 X.2.1 dX1_changePerson_89 rfl (lv_at hl 2 rfl) ?_
        refine lv_dup2_11 X.1 X.2.1 dX1_changePerson_90 rfl rfl ?_
        obtain ⟨hg7, hres⟩ := m_gd_e hres
        refine m_ia (j := x2.toNatClampNeg) X hSt hP hk1.2.1 hg7 rfl dX1_changePerson_91 ?_
        refine lv_iload_n X.1 X.2.1 dX1_changePerson_92 rfl (lv_at hl 3 rfl) ?_
        refine lv_isub X.1 X.2.1 dX1_changePerson_93 ?_
        obtain ⟨M8, eM8, hres⟩ := m_bd_e hres
        refine m_is (j := x2.toNatClampNeg) X hSt hP hS hk1.2.1 hg7 rfl dX1_changePerson_94 eM8 (fun H locs hP hS => ?_)
        refine lv_goto (tgt := 174) X.1 X.2.1 dX1_changePerson_95 (by decide) ?_
        exact m_rv X hr hlk hP hS (Option.some.inj hres) dX1_changePerson_174
      · have hres := m_if hres hc6
        by_cases hc9 : x0 = 3
        · have hres := m_it hres hc9
          refine m_tin (tgt := 98) X dX1_changePerson_1 ⟨_, hc9, by decide, by decide, rfl⟩ (by decide) ?_
          refine lv_aload_n X.1 X.2.1 dX1_changePerson_98 rfl (lv_at hl 1 rfl) ?_
          refine m_g5 (v := .ref (m_ad G (k1 + 1))) X hSt hP hk1.1 7 (by decide) rfl k_f_X1_106 dX1_changePerson_99 ?_
          refine lv_iload_n X.1 X.2.1 dX1_changePerson_102 rfl (lv_at hl 2 rfl) ?_
          refine lv_dup2_11 X.1 X.2.1 dX1_changePerson_103 rfl rfl ?_
          obtain ⟨hg10, hres⟩ := m_gd_e hres
          refine m_ia (j := x2.toNatClampNeg) X hSt hP hk1.2.1 hg10 rfl dX1_changePerson_104 ?_
          refine lv_iload_n X.1 X.2.1 dX1_changePerson_105 rfl (lv_at hl 3 rfl) ?_
          refine lv_isub X.1 X.2.1 dX1_changePerson_106 ?_
          obtain ⟨M11, eM11, hres⟩ := m_bd_e hres
          refine m_is (j := x2.toNatClampNeg) X hSt hP hS hk1.2.1 hg10 rfl dX1_changePerson_107 eM11 (fun H locs hP hS => ?_)
          refine lv_aload_n X.1 X.2.1 dX1_changePerson_108 rfl (lv_at hl 1 rfl) ?_
          refine lv_dup X.1 X.2.1 dX1_changePerson_109 rfl ?_
          refine m_g5 (v := .int (M11.1 k1 4)) X hSt hP hk1.1 4 (by decide) rfl k_f_X1_109 dX1_changePerson_110 ?_
          refine lv_iload_n X.1 X.2.1 dX1_changePerson_113 rfl (lv_at hl 3 rfl) ?_
          refine lv_iadd X.1 X.2.1 dX1_changePerson_114 ?_
          obtain ⟨M12, eM12, hres⟩ := m_bd_e hres
          refine m_pi5 X hSt hP hS hk1.1 4 (by decide) eM12 rfl rfl (by decide) k_f_X1_109 dX1_changePerson_115 (fun H locs hP hS => ?_)
          refine lv_goto (tgt := 174) X.1 X.2.1 dX1_changePerson_118 (by decide) ?_
          exact m_rv X hr hlk hP hS (Option.some.inj hres) dX1_changePerson_174
        · have hres := m_if hres hc9
          by_cases hc13 : x0 = 6
          · have hres := m_it hres hc13
            refine m_tin (tgt := 121) X dX1_changePerson_1 ⟨_, hc13, by decide, by decide, rfl⟩ (by decide) ?_
            refine lv_aload_n X.1 X.2.1 dX1_changePerson_121 rfl (lv_at hl 1 rfl) ?_
            refine m_g5 (v := .ref (m_ad G (k1 + 3))) X hSt hP hk1.1 9 (by decide) rfl k_f_X1_112 dX1_changePerson_122 ?_
            refine lv_iload_n X.1 X.2.1 dX1_changePerson_125 rfl (lv_at hl 2 rfl) ?_
            refine lv_iconst (v := 1) X.1 X.2.1 dX1_changePerson_126 (by decide) ?_
            obtain ⟨hg14, hres⟩ := m_gd_e hres
            obtain ⟨M15, eM15, hres⟩ := m_bd_e hres
            refine m_zs (j := x2.toNatClampNeg) X hSt hP hS hk1.2.2.2.1 hg14 rfl (by decide)  dX1_changePerson_127 eM15 (fun H locs hP hS => ?_)
            refine lv_goto (tgt := 174) X.1 X.2.1 dX1_changePerson_128 (by decide) ?_
            exact m_rv X hr hlk hP hS (Option.some.inj hres) dX1_changePerson_174
          · have hres := m_if hres hc13
            by_cases hc16 : x0 = 7
            · have hres := m_it hres hc16
              refine m_tin (tgt := 131) X dX1_changePerson_1 ⟨_, hc16, by decide, by decide, rfl⟩ (by decide) ?_
              refine lv_aload_n X.1 X.2.1 dX1_changePerson_131 rfl (lv_at hl 1 rfl) ?_
              refine m_g5 (v := .ref (m_ad G (k1 + 3))) X hSt hP hk1.1 9 (by decide) rfl k_f_X1_112 dX1_changePerson_132 ?_
              refine lv_iload_n X.1 X.2.1 dX1_changePerson_135 rfl (lv_at hl 2 rfl) ?_
              refine lv_iconst (v := 0) X.1 X.2.1 dX1_changePerson_136 (by decide) ?_
              obtain ⟨hg17, hres⟩ := m_gd_e hres
              obtain ⟨M18, eM18, hres⟩ := m_bd_e hres
              refine m_zs (j := x2.toNatClampNeg) X hSt hP hS hk1.2.2.2.1 hg17 rfl (by decide)  dX1_changePerson_137 eM18 (fun H locs hP hS => ?_)
              refine lv_goto (tgt := 174) X.1 X.2.1 dX1_changePerson_138 (by decide) ?_
              exact m_rv X hr hlk hP hS (Option.some.inj hres) dX1_changePerson_174
            · have hres := m_if hres hc16
              by_cases hc19 : x0 = 8
              · have hres := m_it hres hc19
                refine m_tin (tgt := 141) X dX1_changePerson_1 ⟨_, hc19, by decide, by decide, rfl⟩ (by decide) ?_
                refine lv_aload_n X.1 X.2.1 dX1_changePerson_141 rfl (lv_at hl 1 rfl) ?_
                refine m_g5 (v := .ref (m_ad G (k1 + 4))) X hSt hP hk1.1 10 (by decide) rfl k_f_X1_116 dX1_changePerson_142 ?_
                refine lv_iload_n X.1 X.2.1 dX1_changePerson_145 rfl (lv_at hl 2 rfl) ?_
                refine lv_iconst (v := 1) X.1 X.2.1 dX1_changePerson_146 (by decide) ?_
                obtain ⟨hg20, hres⟩ := m_gd_e hres
                obtain ⟨M21, eM21, hres⟩ := m_bd_e hres
                refine m_zs (j := x2.toNatClampNeg) X hSt hP hS hk1.2.2.2.2 hg20 rfl (by decide)  dX1_changePerson_147 eM21 (fun H locs hP hS => ?_)
                refine lv_goto (tgt := 174) X.1 X.2.1 dX1_changePerson_148 (by decide) ?_
                exact m_rv X hr hlk hP hS (Option.some.inj hres) dX1_changePerson_174
              · have hres := m_if hres hc19
                by_cases hc22 : x0 = 11
                · have hres := m_it hres hc22
                  refine m_tin (tgt := 151) X dX1_changePerson_1 ⟨_, hc22, by decide, by decide, rfl⟩ (by decide) ?_
                  refine lv_aload_n X.1 X.2.1 dX1_changePerson_151 rfl (lv_at hl 1 rfl) ?_
                  refine m_g5 (v := .ref (m_ad G (k1 + 2))) X hSt hP hk1.1 8 (by decide) rfl k_f_X1_119 dX1_changePerson_152 ?_
                  refine lv_iload_n X.1 X.2.1 dX1_changePerson_155 rfl (lv_at hl 2 rfl) ?_
                  refine lv_dup2_11 X.1 X.2.1 dX1_changePerson_156 rfl rfl ?_
                  obtain ⟨hg23, hres⟩ := m_gd_e hres
                  refine m_ia (j := x2.toNatClampNeg) X hSt hP hk1.2.2.1 hg23 rfl dX1_changePerson_157 ?_
                  refine lv_iload_n X.1 X.2.1 dX1_changePerson_158 rfl (lv_at hl 3 rfl) ?_
                  refine lv_iadd X.1 X.2.1 dX1_changePerson_159 ?_
                  obtain ⟨M24, eM24, hres⟩ := m_bd_e hres
                  refine m_is (j := x2.toNatClampNeg) X hSt hP hS hk1.2.2.1 hg23 rfl dX1_changePerson_160 eM24 (fun H locs hP hS => ?_)
                  refine lv_goto (tgt := 174) X.1 X.2.1 dX1_changePerson_161 (by decide) ?_
                  exact m_rv X hr hlk hP hS (Option.some.inj hres) dX1_changePerson_174
                · have hres := m_if hres hc22
                  refine m_tdf (tgt := 164) X dX1_changePerson_1 (by
    by_cases hd0 : x0 = 4
    · exact Or.inr ⟨_, hd0, by decide, by decide, rfl⟩
    by_cases hd1 : x0 = 5
    · exact Or.inr ⟨_, hd1, by decide, by decide, rfl⟩
    by_cases hd2 : x0 = 9
    · exact Or.inr ⟨_, hd2, by decide, by decide, rfl⟩
    by_cases hd3 : x0 = 10
    · exact Or.inr ⟨_, hd3, by decide, by decide, rfl⟩
    have := m_ne (z := 0) hc1 (by decide)
    have := m_ne (z := 1) hc3 (by decide)
    have := m_ne (z := 2) hc6 (by decide)
    have := m_ne (z := 3) hc9 (by decide)
    have := m_ne (z := 6) hc13 (by decide)
    have := m_ne (z := 7) hc16 (by decide)
    have := m_ne (z := 8) hc19 (by decide)
    have := m_ne (z := 11) hc22 (by decide)
    have := m_ne (z := 4) hd0 (by decide)
    have := m_ne (z := 5) hd1 (by decide)
    have := m_ne (z := 9) hd2 (by decide)
    have := m_ne (z := 10) hd3 (by decide)
    exact Or.inl (by omega)) (by decide) ?_
                  refine lv_aload_n X.1 X.2.1 dX1_changePerson_164 rfl (lv_at hl 1 rfl) ?_
                  refine m_g5 (v := .ref (m_ad G (k1 + 2))) X hSt hP hk1.1 8 (by decide) rfl k_f_X1_119 dX1_changePerson_165 ?_
                  refine lv_iload_n X.1 X.2.1 dX1_changePerson_168 rfl (lv_at hl 2 rfl) ?_
                  refine lv_dup2_11 X.1 X.2.1 dX1_changePerson_169 rfl rfl ?_
                  obtain ⟨hg25, hres⟩ := m_gd_e hres
                  refine m_ia (j := x2.toNatClampNeg) X hSt hP hk1.2.2.1 hg25 rfl dX1_changePerson_170 ?_
                  refine lv_iload_n X.1 X.2.1 dX1_changePerson_171 rfl (lv_at hl 3 rfl) ?_
                  refine lv_isub X.1 X.2.1 dX1_changePerson_172 ?_
                  obtain ⟨M26, eM26, hres⟩ := m_bd_e hres
                  refine m_is (j := x2.toNatClampNeg) X hSt hP hS hk1.2.2.1 hg25 rfl dX1_changePerson_173 eM26 (fun H locs hP hS => ?_)
                  exact m_rv X hr hlk hP hS (Option.some.inj hres) dX1_changePerson_174
theorem dX1_apply_0 : decode cX1_apply 0 = .ok (.aload_n 0, 1) := by decide +kernel
theorem dX1_apply_1 : decode cX1_apply 1 = .ok (.getfield 27, 3) := by decide +kernel
theorem dX1_apply_4 : decode cX1_apply 4 = .ok (.getfield 48, 3) := by decide +kernel
theorem dX1_apply_7 : decode cX1_apply 7 = .ok (.iload_n 1, 1) := by decide +kernel
theorem dX1_apply_8 : decode cX1_apply 8 = .ok (.iconst 1, 1) := by decide +kernel
theorem dX1_apply_9 : decode cX1_apply 9 = .ok (.iadd, 1) := by decide +kernel
theorem dX1_apply_10 : decode cX1_apply 10 = .ok (.iaload, 1) := by decide +kernel
theorem dX1_apply_11 : decode cX1_apply 11 = .ok (.istore_n 2, 1) := by decide +kernel
theorem dX1_apply_12 : decode cX1_apply 12 = .ok (.aload_n 0, 1) := by decide +kernel
theorem dX1_apply_13 : decode cX1_apply 13 = .ok (.getfield 27, 3) := by decide +kernel
theorem dX1_apply_16 : decode cX1_apply 16 = .ok (.getfield 48, 3) := by decide +kernel
theorem dX1_apply_19 : decode cX1_apply 19 = .ok (.iload_n 1, 1) := by decide +kernel
theorem dX1_apply_20 : decode cX1_apply 20 = .ok (.iconst 2, 1) := by decide +kernel
theorem dX1_apply_21 : decode cX1_apply 21 = .ok (.iadd, 1) := by decide +kernel
theorem dX1_apply_22 : decode cX1_apply 22 = .ok (.iaload, 1) := by decide +kernel
theorem dX1_apply_23 : decode cX1_apply 23 = .ok (.istore_n 3, 1) := by decide +kernel
theorem dX1_apply_24 : decode cX1_apply 24 = .ok (.aload_n 0, 1) := by decide +kernel
theorem dX1_apply_25 : decode cX1_apply 25 = .ok (.getfield 27, 3) := by decide +kernel
theorem dX1_apply_28 : decode cX1_apply 28 = .ok (.getfield 48, 3) := by decide +kernel
theorem dX1_apply_31 : decode cX1_apply 31 = .ok (.iload_n 1, 1) := by decide +kernel
theorem dX1_apply_32 : decode cX1_apply 32 = .ok (.iconst 3, 1) := by decide +kernel
theorem dX1_apply_33 : decode cX1_apply 33 = .ok (.iadd, 1) := by decide +kernel
theorem dX1_apply_34 : decode cX1_apply 34 = .ok (.iaload, 1) := by decide +kernel
theorem dX1_apply_35 : decode cX1_apply 35 = .ok (.istore 4, 2) := by decide +kernel
theorem dX1_apply_37 : decode cX1_apply 37 = .ok (.aload_n 0, 1) := by decide +kernel
theorem dX1_apply_38 : decode cX1_apply 38 = .ok (.getfield 27, 3) := by decide +kernel
theorem dX1_apply_41 : decode cX1_apply 41 = .ok (.getfield 48, 3) := by decide +kernel
theorem dX1_apply_44 : decode cX1_apply 44 = .ok (.iload_n 1, 1) := by decide +kernel
theorem dX1_apply_45 : decode cX1_apply 45 = .ok (.iconst 4, 1) := by decide +kernel
theorem dX1_apply_46 : decode cX1_apply 46 = .ok (.iadd, 1) := by decide +kernel
theorem dX1_apply_47 : decode cX1_apply 47 = .ok (.iaload, 1) := by decide +kernel
theorem dX1_apply_48 : decode cX1_apply 48 = .ok (.istore 5, 2) := by decide +kernel
theorem dX1_apply_50 : decode cX1_apply 50 = .ok (.ldc 67, 2) := by decide +kernel
theorem dX1_apply_52 : decode cX1_apply 52 = .ok (.iload_n 2, 1) := by decide +kernel
theorem dX1_apply_53 : decode cX1_apply 53 = .ok (.invokevirtual 69, 3) := by decide +kernel
theorem dX1_apply_56 : decode cX1_apply 56 = .ok (.bipush 100, 2) := by decide +kernel
theorem dX1_apply_58 : decode cX1_apply 58 = .ok (.if_icmp .ne 18, 3) := by decide +kernel
theorem dX1_apply_61 : decode cX1_apply 61 = .ok (.iload_n 2, 1) := by decide +kernel
theorem dX1_apply_62 : decode cX1_apply 62 = .ok (.aload_n 0, 1) := by decide +kernel
theorem dX1_apply_63 : decode cX1_apply 63 = .ok (.getfield 19, 3) := by decide +kernel
theorem dX1_apply_66 : decode cX1_apply 66 = .ok (.iload_n 3, 1) := by decide +kernel
theorem dX1_apply_67 : decode cX1_apply 67 = .ok (.aaload, 1) := by decide +kernel
theorem dX1_apply_68 : decode cX1_apply 68 = .ok (.iload 5, 2) := by decide +kernel
theorem dX1_apply_70 : decode cX1_apply 70 = .ok (.invokestatic 75, 3) := by decide +kernel
theorem dX1_apply_73 : decode cX1_apply 73 = .ok (.goto 89, 3) := by decide +kernel
theorem dX1_apply_76 : decode cX1_apply 76 = .ok (.iload_n 2, 1) := by decide +kernel
theorem dX1_apply_77 : decode cX1_apply 77 = .ok (.iconst 4, 1) := by decide +kernel
theorem dX1_apply_78 : decode cX1_apply 78 = .ok (.if_icmp .ne 39, 3) := by decide +kernel
theorem dX1_apply_81 : decode cX1_apply 81 = .ok (.aload_n 0, 1) := by decide +kernel
theorem dX1_apply_82 : decode cX1_apply 82 = .ok (.getfield 19, 3) := by decide +kernel
theorem dX1_apply_85 : decode cX1_apply 85 = .ok (.aload_n 0, 1) := by decide +kernel
theorem dX1_apply_86 : decode cX1_apply 86 = .ok (.getfield 37, 3) := by decide +kernel
theorem dX1_apply_89 : decode cX1_apply 89 = .ok (.aaload, 1) := by decide +kernel
theorem dX1_apply_90 : decode cX1_apply 90 = .ok (.iload_n 3, 1) := by decide +kernel
theorem dX1_apply_91 : decode cX1_apply 91 = .ok (.iload 4, 2) := by decide +kernel
theorem dX1_apply_93 : decode cX1_apply 93 = .ok (.iload 5, 2) := by decide +kernel
theorem dX1_apply_95 : decode cX1_apply 95 = .ok (.aload_n 0, 1) := by decide +kernel
theorem dX1_apply_96 : decode cX1_apply 96 = .ok (.getfield 11, 3) := by decide +kernel
theorem dX1_apply_99 : decode cX1_apply 99 = .ok (.iload_n 3, 1) := by decide +kernel
theorem dX1_apply_100 : decode cX1_apply 100 = .ok (.aaload, 1) := by decide +kernel
theorem dX1_apply_101 : decode cX1_apply 101 = .ok (.invokevirtual 79, 3) := by decide +kernel
theorem dX1_apply_104 : decode cX1_apply 104 = .ok (.aload_n 0, 1) := by decide +kernel
theorem dX1_apply_105 : decode cX1_apply 105 = .ok (.dup, 1) := by decide +kernel
theorem dX1_apply_106 : decode cX1_apply 106 = .ok (.getfield 37, 3) := by decide +kernel
theorem dX1_apply_109 : decode cX1_apply 109 = .ok (.iconst 1, 1) := by decide +kernel
theorem dX1_apply_110 : decode cX1_apply 110 = .ok (.iadd, 1) := by decide +kernel
theorem dX1_apply_111 : decode cX1_apply 111 = .ok (.putfield 37, 3) := by decide +kernel
theorem dX1_apply_114 : decode cX1_apply 114 = .ok (.goto 48, 3) := by decide +kernel
theorem dX1_apply_117 : decode cX1_apply 117 = .ok (.iload_n 2, 1) := by decide +kernel
theorem dX1_apply_118 : decode cX1_apply 118 = .ok (.bipush 14, 2) := by decide +kernel
theorem dX1_apply_120 : decode cX1_apply 120 = .ok (.if_icmp .ne 28, 3) := by decide +kernel
theorem dX1_apply_123 : decode cX1_apply 123 = .ok (.aload_n 0, 1) := by decide +kernel
theorem dX1_apply_124 : decode cX1_apply 124 = .ok (.getfield 11, 3) := by decide +kernel
theorem dX1_apply_127 : decode cX1_apply 127 = .ok (.iload_n 3, 1) := by decide +kernel
theorem dX1_apply_128 : decode cX1_apply 128 = .ok (.aaload, 1) := by decide +kernel
theorem dX1_apply_129 : decode cX1_apply 129 = .ok (.aload_n 0, 1) := by decide +kernel
theorem dX1_apply_130 : decode cX1_apply 130 = .ok (.getfield 27, 3) := by decide +kernel
theorem dX1_apply_133 : decode cX1_apply 133 = .ok (.getfield 48, 3) := by decide +kernel
theorem dX1_apply_136 : decode cX1_apply 136 = .ok (.iload_n 1, 1) := by decide +kernel
theorem dX1_apply_137 : decode cX1_apply 137 = .ok (.iconst 0, 1) := by decide +kernel
theorem dX1_apply_138 : decode cX1_apply 138 = .ok (.iadd, 1) := by decide +kernel
theorem dX1_apply_139 : decode cX1_apply 139 = .ok (.iaload, 1) := by decide +kernel
theorem dX1_apply_140 : decode cX1_apply 140 = .ok (.iload 4, 2) := by decide +kernel
theorem dX1_apply_142 : decode cX1_apply 142 = .ok (.invokevirtual 83, 3) := by decide +kernel
theorem dX1_apply_145 : decode cX1_apply 145 = .ok (.goto 17, 3) := by decide +kernel
theorem dX1_apply_148 : decode cX1_apply 148 = .ok (.iload_n 2, 1) := by decide +kernel
theorem dX1_apply_149 : decode cX1_apply 149 = .ok (.aload_n 0, 1) := by decide +kernel
theorem dX1_apply_150 : decode cX1_apply 150 = .ok (.getfield 11, 3) := by decide +kernel
theorem dX1_apply_153 : decode cX1_apply 153 = .ok (.iload_n 3, 1) := by decide +kernel
theorem dX1_apply_154 : decode cX1_apply 154 = .ok (.aaload, 1) := by decide +kernel
theorem dX1_apply_155 : decode cX1_apply 155 = .ok (.iload 4, 2) := by decide +kernel
theorem dX1_apply_157 : decode cX1_apply 157 = .ok (.iload 5, 2) := by decide +kernel
theorem dX1_apply_159 : decode cX1_apply 159 = .ok (.invokestatic 86, 3) := by decide +kernel
theorem dX1_apply_162 : decode cX1_apply 162 = .ok (.return_, 1) := by decide +kernel
def f_X1_apply (x1 : Int32) (M : m_M) : Option m_M :=
  m_gd (m_in (x1 + (1 : Int32)) 360) (
  m_bd (M.1 (1 + 1) ((x1 + (1 : Int32)).toNatClampNeg)) fun t2 =>
  m_gd (m_in (x1 + (2 : Int32)) 360) (
  m_bd (M.1 (1 + 1) ((x1 + (2 : Int32)).toNatClampNeg)) fun t4 =>
  m_gd (m_in (x1 + (3 : Int32)) 360) (
  m_bd (M.1 (1 + 1) ((x1 + (3 : Int32)).toNatClampNeg)) fun t6 =>
  m_gd (m_in (x1 + (4 : Int32)) 360) (
  m_bd (M.1 (1 + 1) ((x1 + (4 : Int32)).toNatClampNeg)) fun t8 =>
  m_ob (f_J0_charAt_5068e 4 t2) fun r9 =>
  if r9 = 100 then
  m_gd (m_in t4 60) (
  m_bd (f_X1_changeDeal t2 (99 + t4.toNatClampNeg) t8 M) fun M24 =>
  some M24)
  else
  if t2 = 4 then
  m_gd (m_in (M.1 45 4) 60) (
  m_gd (m_in t4 10) (
  m_ob (f_X0_start (99 + ((M.1 45 4).toNatClampNeg)) t4 t6 t8 (49 + 5 * t4.toNatClampNeg) M) fun M21 =>
  m_bd (m_sI M21 45 4 ((M21.1 45 4) + (1 : Int32))) fun M22 =>
  some M22))
  else
  if t2 = 14 then
  m_gd (m_in t4 10) (
  m_gd (m_in (x1 + (0 : Int32)) 360) (
  m_bd (f_X5_end (49 + 5 * t4.toNatClampNeg) (M.1 (1 + 1) ((x1 + (0 : Int32)).toNatClampNeg)) t6 M) fun M18 =>
  some M18))
  else
  m_gd (m_in t4 10) (
  m_ob (f_X1_changePerson t2 (49 + 5 * t4.toNatClampNeg) t6 t8 M) fun M15 =>
  some M15)))))
set_option maxHeartbeats 4000000 in
set_option maxRecDepth 100000 in
theorem c_X1_apply (l : Launch) (G : m_G) {x1 : Int32} {M : m_M} {M0 : m_M}  (hres : f_X1_apply x1 M = some M0) : Met l yX1_apply (m_U yX1_apply cX1_apply 6 none) (m_R 4 85) (m_Pc G [.ref (m_ad G 45), .int x1] M) (m_Qv G M0) 0 0 (m_A G) := by
  refine m_i0 (n := 6) RX1 rfl (by decide) (Nat.le_of_ble_eq_true rfl) ?_
  intro p e s m args below meth c X hr hlk hSt hP hS ls hl
  have hl : lv_has ls 6 [(0, .ref (m_ad G 45)), (1, .int x1)] := hl
  unfold f_X1_apply at hres
  refine lv_aload_n X.1 X.2.1 dX1_apply_0 rfl (lv_at hl 0 rfl) ?_
  refine m_g1 (v := .ref (m_ad G 1)) X hSt hP m_z_45 0 (by decide) rfl k_f_X1_27 dX1_apply_1 ?_
  refine m_g3 (v := .ref (m_ad G (1 + 1))) X hSt hP m_kept_0.1 5 (by decide) rfl k_f_X1_48 dX1_apply_4 ?_
  refine lv_iload_n X.1 X.2.1 dX1_apply_7 rfl (lv_at hl 1 rfl) ?_
  refine lv_iconst (v := 1) X.1 X.2.1 dX1_apply_8 (by decide) ?_
  refine lv_iadd X.1 X.2.1 dX1_apply_9 ?_
  obtain ⟨hg1, hres⟩ := m_gd_e hres
  refine m_ia (j := ((x1 + (1 : Int32)).toNatClampNeg)) X hSt hP m_kept_0.2.1 hg1 rfl dX1_apply_10 ?_
  obtain ⟨t2, et2, hres⟩ := m_bd_e hres
  refine m_ti et2 ?_
  refine lv_istore_n (lv' := [(2, .int t2), (0, .ref (m_ad G 45)), (1, .int x1)]) X.1 X.2.1 dX1_apply_11 rfl hl (by decide) rfl (fun ls hl => ?_)
  refine lv_aload_n X.1 X.2.1 dX1_apply_12 rfl (lv_at hl 1 rfl) ?_
  refine m_g1 (v := .ref (m_ad G 1)) X hSt hP m_z_45 0 (by decide) rfl k_f_X1_27 dX1_apply_13 ?_
  refine m_g3 (v := .ref (m_ad G (1 + 1))) X hSt hP m_kept_0.1 5 (by decide) rfl k_f_X1_48 dX1_apply_16 ?_
  refine lv_iload_n X.1 X.2.1 dX1_apply_19 rfl (lv_at hl 2 rfl) ?_
  refine lv_iconst (v := 2) X.1 X.2.1 dX1_apply_20 (by decide) ?_
  refine lv_iadd X.1 X.2.1 dX1_apply_21 ?_
  obtain ⟨hg3, hres⟩ := m_gd_e hres
  refine m_ia (j := ((x1 + (2 : Int32)).toNatClampNeg)) X hSt hP m_kept_0.2.1 hg3 rfl dX1_apply_22 ?_
  obtain ⟨t4, et4, hres⟩ := m_bd_e hres
  refine m_ti et4 ?_
  refine lv_istore_n (lv' := [(3, .int t4), (2, .int t2), (0, .ref (m_ad G 45)), (1, .int x1)]) X.1 X.2.1 dX1_apply_23 rfl hl (by decide) rfl (fun ls hl => ?_)
  refine lv_aload_n X.1 X.2.1 dX1_apply_24 rfl (lv_at hl 2 rfl) ?_
  refine m_g1 (v := .ref (m_ad G 1)) X hSt hP m_z_45 0 (by decide) rfl k_f_X1_27 dX1_apply_25 ?_
  refine m_g3 (v := .ref (m_ad G (1 + 1))) X hSt hP m_kept_0.1 5 (by decide) rfl k_f_X1_48 dX1_apply_28 ?_
  refine lv_iload_n X.1 X.2.1 dX1_apply_31 rfl (lv_at hl 3 rfl) ?_
  refine lv_iconst (v := 3) X.1 X.2.1 dX1_apply_32 (by decide) ?_
  refine lv_iadd X.1 X.2.1 dX1_apply_33 ?_
  obtain ⟨hg5, hres⟩ := m_gd_e hres
  refine m_ia (j := ((x1 + (3 : Int32)).toNatClampNeg)) X hSt hP m_kept_0.2.1 hg5 rfl dX1_apply_34 ?_
  obtain ⟨t6, et6, hres⟩ := m_bd_e hres
  refine m_ti et6 ?_
  refine lv_istore (lv' := [(4, .int t6), (3, .int t4), (2, .int t2), (0, .ref (m_ad G 45)), (1, .int x1)]) X.1 X.2.1 dX1_apply_35 hl (by decide) rfl (fun ls hl => ?_)
  refine lv_aload_n X.1 X.2.1 dX1_apply_37 rfl (lv_at hl 3 rfl) ?_
  refine m_g1 (v := .ref (m_ad G 1)) X hSt hP m_z_45 0 (by decide) rfl k_f_X1_27 dX1_apply_38 ?_
  refine m_g3 (v := .ref (m_ad G (1 + 1))) X hSt hP m_kept_0.1 5 (by decide) rfl k_f_X1_48 dX1_apply_41 ?_
  refine lv_iload_n X.1 X.2.1 dX1_apply_44 rfl (lv_at hl 4 rfl) ?_
  refine lv_iconst (v := 4) X.1 X.2.1 dX1_apply_45 (by decide) ?_
  refine lv_iadd X.1 X.2.1 dX1_apply_46 ?_
  obtain ⟨hg7, hres⟩ := m_gd_e hres
  refine m_ia (j := ((x1 + (4 : Int32)).toNatClampNeg)) X hSt hP m_kept_0.2.1 hg7 rfl dX1_apply_47 ?_
  obtain ⟨t8, et8, hres⟩ := m_bd_e hres
  refine m_ti et8 ?_
  refine lv_istore (lv' := [(5, .int t8), (4, .int t6), (3, .int t4), (2, .int t2), (0, .ref (m_ad G 45)), (1, .int x1)]) X.1 X.2.1 dX1_apply_48 hl (by decide) rfl (fun ls hl => ?_)
  refine m_ld4 X hSt dX1_apply_50 ?_
  refine lv_iload_n X.1 X.2.1 dX1_apply_52 rfl (lv_at hl 3 rfl) ?_
  obtain ⟨r9, err9, hres⟩ := m_ob_e hres
  refine m_bn (m_cV (n := 1) (As := [.int t2]) (rest := []) X hSt hP hS hl.1 (c_J0_charAt_5068e l G (M := M) (by decide) err9) k_c_yJ0_charAt_5068e k_m_X1_69 k_i_yJ0_charAt_5068e k_s_yJ0_charAt_5068e k_n_J0 (by decide +kernel) (m_rcS hSt hS (by decide)) rfl rfl ⟨Nat.le_of_ble_eq_true rfl, Nat.le_of_ble_eq_true rfl⟩ (Nat.le_of_ble_eq_true rfl) ⟨Nat.zero_le _, Nat.zero_le _⟩ dX1_apply_53) hS (fun H locs hP hS hz10 => ?_)
  refine lv_bipush (v := 100) X.1 X.2.1 dX1_apply_56 (by decide) ?_
  refine lv_icmp_ne (tgt := 76) X.1 X.2.1 dX1_apply_58 (by decide) (fun hc11 => ?_) (fun hc11 => ?_)
  · have hres := m_if hres hc11
    refine lv_iload_n X.1 X.2.1 dX1_apply_76 rfl (lv_at hl 3 rfl) ?_
    refine lv_iconst (v := 4) X.1 X.2.1 dX1_apply_77 (by decide) ?_
    refine lv_icmp_ne (tgt := 117) X.1 X.2.1 dX1_apply_78 (by decide) (fun hc12 => ?_) (fun hc12 => ?_)
    · have hres := m_if hres hc12
      refine lv_iload_n X.1 X.2.1 dX1_apply_117 rfl (lv_at hl 3 rfl) ?_
      refine lv_bipush (v := 14) X.1 X.2.1 dX1_apply_118 (by decide) ?_
      refine lv_icmp_ne (tgt := 148) X.1 X.2.1 dX1_apply_120 (by decide) (fun hc13 => ?_) (fun hc13 => ?_)
      · have hres := m_if hres hc13
        refine lv_iload_n X.1 X.2.1 dX1_apply_148 rfl (lv_at hl 3 rfl) ?_
        refine lv_aload_n X.1 X.2.1 dX1_apply_149 rfl (lv_at hl 4 rfl) ?_
        refine m_g1 (v := .ref (m_ad G 46)) X hSt hP m_z_45 1 (by decide) rfl k_f_X1_11 dX1_apply_150 ?_
        refine lv_iload_n X.1 X.2.1 dX1_apply_153 rfl (lv_at hl 2 rfl) ?_
        obtain ⟨hg14, hres⟩ := m_gd_e hres
        refine m_qa6 (j := t4.toNatClampNeg) X hSt hP m_z_46 hg14 rfl dX1_apply_154 ?_
        refine lv_iload X.1 X.2.1 dX1_apply_155 (lv_at hl 1 rfl) ?_
        refine lv_iload X.1 X.2.1 dX1_apply_157 (lv_at hl 0 rfl) ?_
        obtain ⟨M15, eM15, hres⟩ := m_ob_e hres
        refine m_bv (m_cS (n := 4) (As := [.int t2, .ref (m_ad G (49 + 5 * t4.toNatClampNeg)), .int t6, .int t8]) (rest := []) X hSt hP hS hl.1 (c_X1_changePerson l G (m_person_of hg14) eM15) k_c_yX1_changePerson k_m_X1_86 k_t_yX1_changePerson k_n_X1 (by decide +kernel) rfl rfl ⟨Nat.le_of_ble_eq_true rfl, Nat.le_of_ble_eq_true rfl⟩ (Nat.le_of_ble_eq_true rfl) ⟨Nat.zero_le _, Nat.zero_le _⟩ dX1_apply_159) hS (fun H locs hP hS => ?_)
        exact m_rv X hr hlk hP hS (Option.some.inj hres) dX1_apply_162
      · have hres := m_it hres hc13
        refine lv_aload_n X.1 X.2.1 dX1_apply_123 rfl (lv_at hl 4 rfl) ?_
        refine m_g1 (v := .ref (m_ad G 46)) X hSt hP m_z_45 1 (by decide) rfl k_f_X1_11 dX1_apply_124 ?_
        refine lv_iload_n X.1 X.2.1 dX1_apply_127 rfl (lv_at hl 2 rfl) ?_
        obtain ⟨hg16, hres⟩ := m_gd_e hres
        refine m_qa6 (j := t4.toNatClampNeg) X hSt hP m_z_46 hg16 rfl dX1_apply_128 ?_
        refine lv_aload_n X.1 X.2.1 dX1_apply_129 rfl (lv_at hl 4 rfl) ?_
        refine m_g1 (v := .ref (m_ad G 1)) X hSt hP m_z_45 0 (by decide) rfl k_f_X1_27 dX1_apply_130 ?_
        refine m_g3 (v := .ref (m_ad G (1 + 1))) X hSt hP m_kept_0.1 5 (by decide) rfl k_f_X1_48 dX1_apply_133 ?_
        refine lv_iload_n X.1 X.2.1 dX1_apply_136 rfl (lv_at hl 5 rfl) ?_
        refine lv_iconst (v := 0) X.1 X.2.1 dX1_apply_137 (by decide) ?_
        refine lv_iadd X.1 X.2.1 dX1_apply_138 ?_
        obtain ⟨hg17, hres⟩ := m_gd_e hres
        refine m_ia (j := ((x1 + (0 : Int32)).toNatClampNeg)) X hSt hP m_kept_0.2.1 hg17 rfl dX1_apply_139 ?_
        refine lv_iload X.1 X.2.1 dX1_apply_140 (lv_at hl 1 rfl) ?_
        obtain ⟨M18, eM18, hres⟩ := m_bd_e hres
        refine m_bv (m_cV (n := 2) (As := [.int (M.1 (1 + 1) ((x1 + (0 : Int32)).toNatClampNeg)), .int t6]) (rest := []) X hSt hP hS hl.1 (c_X5_end l G (m_person_of hg16) eM18) k_c_yX5_end k_m_X1_83 k_i_yX5_end k_s_yX5_end k_n_X5 (by decide +kernel) (m_rc5 hSt hP (m_person_of hg16).1) rfl rfl ⟨Nat.le_of_ble_eq_true rfl, Nat.le_of_ble_eq_true rfl⟩ (Nat.le_of_ble_eq_true rfl) ⟨Nat.zero_le _, Nat.zero_le _⟩ dX1_apply_142) hS (fun H locs hP hS => ?_)
        refine lv_goto (tgt := 162) X.1 X.2.1 dX1_apply_145 (by decide) ?_
        exact m_rv X hr hlk hP hS (Option.some.inj hres) dX1_apply_162
    · have hres := m_it hres hc12
      refine lv_aload_n X.1 X.2.1 dX1_apply_81 rfl (lv_at hl 4 rfl) ?_
      refine m_g1 (v := .ref (m_ad G 47)) X hSt hP m_z_45 2 (by decide) rfl k_f_X1_19 dX1_apply_82 ?_
      refine lv_aload_n X.1 X.2.1 dX1_apply_85 rfl (lv_at hl 4 rfl) ?_
      refine m_g1 (v := .int (M.1 45 4)) X hSt hP m_z_45 4 (by decide) rfl k_f_X1_37 dX1_apply_86 ?_
      obtain ⟨hg19, hres⟩ := m_gd_e hres
      refine m_qa3 (j := ((M.1 45 4).toNatClampNeg)) X hSt hP m_z_47 hg19 rfl dX1_apply_89 ?_
      refine lv_iload_n X.1 X.2.1 dX1_apply_90 rfl (lv_at hl 2 rfl) ?_
      refine lv_iload X.1 X.2.1 dX1_apply_91 (lv_at hl 1 rfl) ?_
      refine lv_iload X.1 X.2.1 dX1_apply_93 (lv_at hl 0 rfl) ?_
      refine lv_aload_n X.1 X.2.1 dX1_apply_95 rfl (lv_at hl 4 rfl) ?_
      refine m_g1 (v := .ref (m_ad G 46)) X hSt hP m_z_45 1 (by decide) rfl k_f_X1_11 dX1_apply_96 ?_
      refine lv_iload_n X.1 X.2.1 dX1_apply_99 rfl (lv_at hl 2 rfl) ?_
      obtain ⟨hg20, hres⟩ := m_gd_e hres
      refine m_qa6 (j := t4.toNatClampNeg) X hSt hP m_z_46 hg20 rfl dX1_apply_100 ?_
      obtain ⟨M21, eM21, hres⟩ := m_ob_e hres
      refine m_bv (m_cV (n := 4) (As := [.int t4, .int t6, .int t8, .ref (m_ad G (49 + 5 * t4.toNatClampNeg))]) (rest := []) X hSt hP hS hl.1 (c_X0_start l G (m_deal_of hg19) (m_person_of hg20) eM21) k_c_yX0_start k_m_X1_79 k_i_yX0_start k_s_yX0_start k_n_X0 (by decide +kernel) (m_rc0 hSt hP (m_deal_of hg19)) rfl rfl ⟨Nat.le_of_ble_eq_true rfl, Nat.le_of_ble_eq_true rfl⟩ (Nat.le_of_ble_eq_true rfl) ⟨Nat.zero_le _, Nat.zero_le _⟩ dX1_apply_101) hS (fun H locs hP hS => ?_)
      refine lv_aload_n X.1 X.2.1 dX1_apply_104 rfl (lv_at hl 4 rfl) ?_
      refine lv_dup X.1 X.2.1 dX1_apply_105 rfl ?_
      refine m_g1 (v := .int (M21.1 45 4)) X hSt hP m_z_45 4 (by decide) rfl k_f_X1_37 dX1_apply_106 ?_
      refine lv_iconst (v := 1) X.1 X.2.1 dX1_apply_109 (by decide) ?_
      refine lv_iadd X.1 X.2.1 dX1_apply_110 ?_
      obtain ⟨M22, eM22, hres⟩ := m_bd_e hres
      refine m_pi1 X hSt hP hS m_z_45 4 (by decide) eM22 rfl rfl (by decide) k_f_X1_37 dX1_apply_111 (fun H locs hP hS => ?_)
      refine lv_goto (tgt := 162) X.1 X.2.1 dX1_apply_114 (by decide) ?_
      exact m_rv X hr hlk hP hS (Option.some.inj hres) dX1_apply_162
  · have hres := m_it hres hc11
    refine lv_iload_n X.1 X.2.1 dX1_apply_61 rfl (lv_at hl 3 rfl) ?_
    refine lv_aload_n X.1 X.2.1 dX1_apply_62 rfl (lv_at hl 4 rfl) ?_
    refine m_g1 (v := .ref (m_ad G 47)) X hSt hP m_z_45 2 (by decide) rfl k_f_X1_19 dX1_apply_63 ?_
    refine lv_iload_n X.1 X.2.1 dX1_apply_66 rfl (lv_at hl 2 rfl) ?_
    obtain ⟨hg23, hres⟩ := m_gd_e hres
    refine m_qa3 (j := t4.toNatClampNeg) X hSt hP m_z_47 hg23 rfl dX1_apply_67 ?_
    refine lv_iload X.1 X.2.1 dX1_apply_68 (lv_at hl 0 rfl) ?_
    obtain ⟨M24, eM24, hres⟩ := m_bd_e hres
    refine m_bv (m_cS (n := 3) (As := [.int t2, .ref (m_ad G (99 + t4.toNatClampNeg)), .int t8]) (rest := []) X hSt hP hS hl.1 (c_X1_changeDeal l G (m_deal_of hg23) eM24) k_c_yX1_changeDeal k_m_X1_75 k_t_yX1_changeDeal k_n_X1 (by decide +kernel) rfl rfl ⟨Nat.le_of_ble_eq_true rfl, Nat.le_of_ble_eq_true rfl⟩ (Nat.le_of_ble_eq_true rfl) ⟨Nat.zero_le _, Nat.zero_le _⟩ dX1_apply_70) hS (fun H locs hP hS => ?_)
    refine lv_goto (tgt := 162) X.1 X.2.1 dX1_apply_73 (by decide) ?_
    exact m_rv X hr hlk hP hS (Option.some.inj hres) dX1_apply_162
theorem dX1_replay_0 : decode cX1_replay 0 = .ok (.aload_n 0, 1) := by decide +kernel
theorem dX1_replay_1 : decode cX1_replay 1 = .ok (.iload_n 1, 1) := by decide +kernel
theorem dX1_replay_2 : decode cX1_replay 2 = .ok (.putfield 33, 3) := by decide +kernel
theorem dX1_replay_5 : decode cX1_replay 5 = .ok (.aload_n 0, 1) := by decide +kernel
theorem dX1_replay_6 : decode cX1_replay 6 = .ok (.iconst 0, 1) := by decide +kernel
theorem dX1_replay_7 : decode cX1_replay 7 = .ok (.putfield 37, 3) := by decide +kernel
theorem dX1_replay_10 : decode cX1_replay 10 = .ok (.iconst 0, 1) := by decide +kernel
theorem dX1_replay_11 : decode cX1_replay 11 = .ok (.istore_n 3, 1) := by decide +kernel
theorem dX1_replay_12 : decode cX1_replay 12 = .ok (.iload_n 3, 1) := by decide +kernel
theorem dX1_replay_13 : decode cX1_replay 13 = .ok (.bipush 10, 2) := by decide +kernel
theorem dX1_replay_15 : decode cX1_replay 15 = .ok (.if_icmp .ge 18, 3) := by decide +kernel
theorem dX1_replay_18 : decode cX1_replay 18 = .ok (.aload_n 0, 1) := by decide +kernel
theorem dX1_replay_19 : decode cX1_replay 19 = .ok (.getfield 11, 3) := by decide +kernel
theorem dX1_replay_22 : decode cX1_replay 22 = .ok (.iload_n 3, 1) := by decide +kernel
theorem dX1_replay_23 : decode cX1_replay 23 = .ok (.aaload, 1) := by decide +kernel
theorem dX1_replay_24 : decode cX1_replay 24 = .ok (.invokevirtual 40, 3) := by decide +kernel
theorem dX1_replay_27 : decode cX1_replay 27 = .ok (.iinc 3 1, 3) := by decide +kernel
theorem dX1_replay_30 : decode cX1_replay 30 = .ok (.goto (-18), 3) := by decide +kernel
theorem dX1_replay_33 : decode cX1_replay 33 = .ok (.iconst 0, 1) := by decide +kernel
theorem dX1_replay_34 : decode cX1_replay 34 = .ok (.istore_n 3, 1) := by decide +kernel
theorem dX1_replay_35 : decode cX1_replay 35 = .ok (.iconst 0, 1) := by decide +kernel
theorem dX1_replay_36 : decode cX1_replay 36 = .ok (.istore 4, 2) := by decide +kernel
theorem dX1_replay_38 : decode cX1_replay 38 = .ok (.iload 4, 2) := by decide +kernel
theorem dX1_replay_40 : decode cX1_replay 40 = .ok (.aload_n 0, 1) := by decide +kernel
theorem dX1_replay_41 : decode cX1_replay 41 = .ok (.getfield 27, 3) := by decide +kernel
theorem dX1_replay_44 : decode cX1_replay 44 = .ok (.getfield 43, 3) := by decide +kernel
theorem dX1_replay_47 : decode cX1_replay 47 = .ok (.if_icmp .ge 75, 3) := by decide +kernel
theorem dX1_replay_50 : decode cX1_replay 50 = .ok (.aload_n 0, 1) := by decide +kernel
theorem dX1_replay_51 : decode cX1_replay 51 = .ok (.getfield 27, 3) := by decide +kernel
theorem dX1_replay_54 : decode cX1_replay 54 = .ok (.getfield 48, 3) := by decide +kernel
theorem dX1_replay_57 : decode cX1_replay 57 = .ok (.bipush 6, 2) := by decide +kernel
theorem dX1_replay_59 : decode cX1_replay 59 = .ok (.iload 4, 2) := by decide +kernel
theorem dX1_replay_61 : decode cX1_replay 61 = .ok (.imul, 1) := by decide +kernel
theorem dX1_replay_62 : decode cX1_replay 62 = .ok (.iconst 0, 1) := by decide +kernel
theorem dX1_replay_63 : decode cX1_replay 63 = .ok (.iadd, 1) := by decide +kernel
theorem dX1_replay_64 : decode cX1_replay 64 = .ok (.iaload, 1) := by decide +kernel
theorem dX1_replay_65 : decode cX1_replay 65 = .ok (.iload_n 1, 1) := by decide +kernel
theorem dX1_replay_66 : decode cX1_replay 66 = .ok (.if_icmp .gt 56, 3) := by decide +kernel
theorem dX1_replay_69 : decode cX1_replay 69 = .ok (.iconst 1, 1) := by decide +kernel
theorem dX1_replay_70 : decode cX1_replay 70 = .ok (.istore 5, 2) := by decide +kernel
theorem dX1_replay_72 : decode cX1_replay 72 = .ok (.aload_n 0, 1) := by decide +kernel
theorem dX1_replay_73 : decode cX1_replay 73 = .ok (.getfield 27, 3) := by decide +kernel
theorem dX1_replay_76 : decode cX1_replay 76 = .ok (.iload 4, 2) := by decide +kernel
theorem dX1_replay_78 : decode cX1_replay 78 = .ok (.invokevirtual 52, 3) := by decide +kernel
theorem dX1_replay_81 : decode cX1_replay 81 = .ok (.ifCond .eq 21, 3) := by decide +kernel
theorem dX1_replay_84 : decode cX1_replay 84 = .ok (.iload_n 2, 1) := by decide +kernel
theorem dX1_replay_85 : decode cX1_replay 85 = .ok (.iload_n 3, 1) := by decide +kernel
theorem dX1_replay_86 : decode cX1_replay 86 = .ok (.ishr, 1) := by decide +kernel
theorem dX1_replay_87 : decode cX1_replay 87 = .ok (.iconst 1, 1) := by decide +kernel
theorem dX1_replay_88 : decode cX1_replay 88 = .ok (.iand, 1) := by decide +kernel
theorem dX1_replay_89 : decode cX1_replay 89 = .ok (.ifCond .ne 7, 3) := by decide +kernel
theorem dX1_replay_92 : decode cX1_replay 92 = .ok (.iconst 1, 1) := by decide +kernel
theorem dX1_replay_93 : decode cX1_replay 93 = .ok (.goto 4, 3) := by decide +kernel
theorem dX1_replay_96 : decode cX1_replay 96 = .ok (.iconst 0, 1) := by decide +kernel
theorem dX1_replay_97 : decode cX1_replay 97 = .ok (.istore 5, 2) := by decide +kernel
theorem dX1_replay_99 : decode cX1_replay 99 = .ok (.iinc 3 1, 3) := by decide +kernel
theorem dX1_replay_102 : decode cX1_replay 102 = .ok (.iload 5, 2) := by decide +kernel
theorem dX1_replay_104 : decode cX1_replay 104 = .ok (.ifCond .eq 12, 3) := by decide +kernel
theorem dX1_replay_107 : decode cX1_replay 107 = .ok (.aload_n 0, 1) := by decide +kernel
theorem dX1_replay_108 : decode cX1_replay 108 = .ok (.bipush 6, 2) := by decide +kernel
theorem dX1_replay_110 : decode cX1_replay 110 = .ok (.iload 4, 2) := by decide +kernel
theorem dX1_replay_112 : decode cX1_replay 112 = .ok (.imul, 1) := by decide +kernel
theorem dX1_replay_113 : decode cX1_replay 113 = .ok (.invokevirtual 56, 3) := by decide +kernel
theorem dX1_replay_116 : decode cX1_replay 116 = .ok (.iinc 4 1, 3) := by decide +kernel
theorem dX1_replay_119 : decode cX1_replay 119 = .ok (.goto (-81), 3) := by decide +kernel
theorem dX1_replay_122 : decode cX1_replay 122 = .ok (.return_, 1) := by decide +kernel
def f_X1_replay_b102 (n : Nat) (x1 : Int32) (x2 : Int32) (q38 : Int32 → Int32 → m_M → Option m_M) (x3 : Int32) (x4 : Int32) (x5 : Int32) (M : m_M) : Option m_M :=
  if x5 = 0 then
  q38 x3 (x4 + 1) M
  else
  m_ob (f_X1_apply ((6 : Int32) * x4) M) fun M2 =>
  q38 x3 (x4 + 1) M2
def f_X1_replay_b38 (n : Nat) (x1 : Int32) (x2 : Int32) : Nat → Int32 → Int32 → m_M → Option m_M
  | 0, _, _, _ => none
  | u + 1, x3, x4, M =>
    if (M.1 1 1) ≤ x4 then
  some M
  else
  m_gd (m_in (((6 : Int32) * x4) + (0 : Int32)) 360) (
  if x1 < (M.1 (1 + 1) ((((6 : Int32) * x4) + (0 : Int32)).toNatClampNeg)) then
  some M
  else
  m_ob (f_X3_isDoubted 1 x4 M) fun r6 =>
  if r6 = 0 then
  f_X1_replay_b102 n x1 x2 (f_X1_replay_b38 n x1 x2 u) x3 x4 1 M
  else
  if ((x2 >>> (x3 &&& 31)) &&& (1 : Int32)) = 0 then
  f_X1_replay_b102 n x1 x2 (f_X1_replay_b38 n x1 x2 u) (x3 + 1) x4 1 M
  else
  f_X1_replay_b102 n x1 x2 (f_X1_replay_b38 n x1 x2 u) (x3 + 1) x4 0 M)
def f_X1_replay_b12 (n : Nat) (x1 : Int32) (x2 : Int32) : Nat → Int32 → m_M → Option m_M
  | 0, _, _ => none
  | u + 1, x3, M =>
    if (10 : Int32) ≤ x3 then
  f_X1_replay_b38 n x1 x2 n 0 0 M
  else
  m_gd (m_in x3 10) (
  m_ob (f_X5_restart n (49 + 5 * x3.toNatClampNeg) M) fun M12 =>
  f_X1_replay_b12 n x1 x2 u (x3 + 1) M12)
def f_X1_replay (n : Nat) (x1 : Int32) (x2 : Int32) (M : m_M) : Option m_M :=
  m_bd (m_sI M 45 5 x1) fun M13 =>
  m_bd (m_sI M13 45 4 0) fun M14 =>
  f_X1_replay_b12 n x1 x2 n 0 M14
set_option maxHeartbeats 4000000 in
set_option maxRecDepth 100000 in
theorem c_X1_replay (l : Launch) (G : m_G) {n : Nat} {x1 : Int32} {x2 : Int32} {M : m_M} {M0 : m_M}  (hres : f_X1_replay n x1 x2 M = some M0) : Met l yX1_replay (m_U yX1_replay cX1_replay 6 none) (m_R 5 110) (m_Pc G [.ref (m_ad G 45), .int x1, .int x2] M) (m_Qv G M0) 0 0 (m_A G) := by
  refine m_i0 (n := 6) RX1 rfl (by decide) (Nat.le_of_ble_eq_true rfl) ?_
  intro p e s m args below meth c X hr hlk hSt hP hS ls hl
  have hl : lv_has ls 6 [(0, .ref (m_ad G 45)), (1, .int x1), (2, .int x2)] := hl
  have B102 : ∀ (q38 : Int32 → Int32 → m_M → Option m_M) (hq38 : ∀ (x3 : Int32) (x4 : Int32) (M : m_M) (H : Heap) (locs : List Loc) (ls : Array Slot), m_P G M H → va_S (m_A G) s.heap H locs → lv_has ls 6 [(0, .ref (m_ad G 45)), (1, .int x1), (2, .int x2), (3, .int x3), (4, .int x4)] → q38 x3 x4 M = some M0 → W p l e (m_R 5 110) s m args below meth c H locs 0 0 (MQ below (m_Qv G M0) args s 0 0 (m_A G)) (F0 m 38 ls [])) (x3 : Int32) (x4 : Int32) (x5 : Int32) (M : m_M) (H : Heap) (locs : List Loc) (ls : Array Slot), m_P G M H → va_S (m_A G) s.heap H locs → lv_has ls 6 [(0, .ref (m_ad G 45)), (1, .int x1), (2, .int x2), (3, .int x3), (4, .int x4), (5, .int x5)] → f_X1_replay_b102 n x1 x2 q38 x3 x4 x5 M = some M0 → W p l e (m_R 5 110) s m args below meth c H locs 0 0 (MQ below (m_Qv G M0) args s 0 0 (m_A G)) (F0 m 102 ls []) := by
    intro q38 hq38 x3 x4 x5 M H locs ls hP hS hl hres
    unfold f_X1_replay_b102 at hres
    refine lv_iload X.1 X.2.1 dX1_replay_102 (lv_at hl 5 rfl) ?_
    refine lv_if_eq (tgt := 116) X.1 X.2.1 dX1_replay_104 (by decide) (fun hc1 => ?_) (fun hc1 => ?_)
    · have hres := m_it hres hc1
      refine lv_iinc (v := (x4 + 1)) (lv' := [(4, .int (x4 + 1)), (0, .ref (m_ad G 45)), (1, .int x1), (2, .int x2), (3, .int x3), (5, .int x5)]) X.1 X.2.1 dX1_replay_116 hl (k := 4) rfl rfl (by decide) rfl (fun ls hl => ?_)
      refine lv_goto (tgt := 38) X.1 X.2.1 dX1_replay_119 (by decide) ?_
      exact hq38 x3 (x4 + 1) M _ _ _ hP hS (lv_sub hl [1, 2, 3, 4, 0] rfl) hres
    · have hres := m_if hres hc1
      refine lv_aload_n X.1 X.2.1 dX1_replay_107 rfl (lv_at hl 0 rfl) ?_
      refine lv_bipush (v := 6) X.1 X.2.1 dX1_replay_108 (by decide) ?_
      refine lv_iload X.1 X.2.1 dX1_replay_110 (lv_at hl 4 rfl) ?_
      refine lv_imul X.1 X.2.1 dX1_replay_112 ?_
      obtain ⟨M2, eM2, hres⟩ := m_ob_e hres
      refine m_bv (m_cV (n := 1) (As := [.int ((6 : Int32) * x4)]) (rest := []) X hSt hP hS hl.1 (c_X1_apply l G  eM2) k_c_yX1_apply k_m_X1_56 k_i_yX1_apply k_s_yX1_apply k_n_X1 (by decide +kernel) (m_rc1 hSt hP m_z_45) rfl rfl ⟨Nat.le_of_ble_eq_true rfl, Nat.le_of_ble_eq_true rfl⟩ (Nat.le_of_ble_eq_true rfl) ⟨Nat.zero_le _, Nat.zero_le _⟩ dX1_replay_113) hS (fun H locs hP hS => ?_)
      refine lv_iinc (v := (x4 + 1)) (lv' := [(4, .int (x4 + 1)), (0, .ref (m_ad G 45)), (1, .int x1), (2, .int x2), (3, .int x3), (5, .int x5)]) X.1 X.2.1 dX1_replay_116 hl (k := 4) rfl rfl (by decide) rfl (fun ls hl => ?_)
      refine lv_goto (tgt := 38) X.1 X.2.1 dX1_replay_119 (by decide) ?_
      exact hq38 x3 (x4 + 1) M2 _ _ _ hP hS (lv_sub hl [1, 2, 3, 4, 0] rfl) hres
  have B38 : ∀ (u : Nat) (x3 : Int32) (x4 : Int32) (M : m_M) (H : Heap) (locs : List Loc) (ls : Array Slot), m_P G M H → va_S (m_A G) s.heap H locs → lv_has ls 6 [(0, .ref (m_ad G 45)), (1, .int x1), (2, .int x2), (3, .int x3), (4, .int x4)] → f_X1_replay_b38 n x1 x2 u x3 x4 M = some M0 → W p l e (m_R 5 110) s m args below meth c H locs 0 0 (MQ below (m_Qv G M0) args s 0 0 (m_A G)) (F0 m 38 ls []) := by
    intro u
    induction u with
    | zero =>
      intro x3 x4 M H locs ls hP hS hl hres
      cases hres
    | succ u ih =>
      intro x3 x4 M H locs ls hP hS hl hres
      rw [f_X1_replay_b38] at hres
      refine lv_iload X.1 X.2.1 dX1_replay_38 (lv_at hl 4 rfl) ?_
      refine lv_aload_n X.1 X.2.1 dX1_replay_40 rfl (lv_at hl 0 rfl) ?_
      refine m_g1 (v := .ref (m_ad G 1)) X hSt hP m_z_45 0 (by decide) rfl k_f_X1_27 dX1_replay_41 ?_
      refine m_g3 (v := .int (M.1 1 1)) X hSt hP m_kept_0.1 1 (by decide) rfl k_f_X1_43 dX1_replay_44 ?_
      refine lv_icmp_ge (tgt := 122) X.1 X.2.1 dX1_replay_47 (by decide) (fun hc3 => ?_) (fun hc3 => ?_)
      · have hres := m_it hres hc3
        exact m_rv X hr hlk hP hS (Option.some.inj hres) dX1_replay_122
      · have hres := m_if hres hc3
        refine lv_aload_n X.1 X.2.1 dX1_replay_50 rfl (lv_at hl 0 rfl) ?_
        refine m_g1 (v := .ref (m_ad G 1)) X hSt hP m_z_45 0 (by decide) rfl k_f_X1_27 dX1_replay_51 ?_
        refine m_g3 (v := .ref (m_ad G (1 + 1))) X hSt hP m_kept_0.1 5 (by decide) rfl k_f_X1_48 dX1_replay_54 ?_
        refine lv_bipush (v := 6) X.1 X.2.1 dX1_replay_57 (by decide) ?_
        refine lv_iload X.1 X.2.1 dX1_replay_59 (lv_at hl 4 rfl) ?_
        refine lv_imul X.1 X.2.1 dX1_replay_61 ?_
        refine lv_iconst (v := 0) X.1 X.2.1 dX1_replay_62 (by decide) ?_
        refine lv_iadd X.1 X.2.1 dX1_replay_63 ?_
        obtain ⟨hg4, hres⟩ := m_gd_e hres
        refine m_ia (j := ((((6 : Int32) * x4) + (0 : Int32)).toNatClampNeg)) X hSt hP m_kept_0.2.1 hg4 rfl dX1_replay_64 ?_
        refine lv_iload_n X.1 X.2.1 dX1_replay_65 rfl (lv_at hl 1 rfl) ?_
        refine lv_icmp_gt (tgt := 122) X.1 X.2.1 dX1_replay_66 (by decide) (fun hc5 => ?_) (fun hc5 => ?_)
        · have hres := m_it hres hc5
          exact m_rv X hr hlk hP hS (Option.some.inj hres) dX1_replay_122
        · have hres := m_if hres hc5
          refine lv_iconst (v := 1) X.1 X.2.1 dX1_replay_69 (by decide) ?_
          refine lv_istore (lv' := [(5, .int 1), (0, .ref (m_ad G 45)), (1, .int x1), (2, .int x2), (3, .int x3), (4, .int x4)]) X.1 X.2.1 dX1_replay_70 hl (by decide) rfl (fun ls hl => ?_)
          refine lv_aload_n X.1 X.2.1 dX1_replay_72 rfl (lv_at hl 1 rfl) ?_
          refine m_g1 (v := .ref (m_ad G 1)) X hSt hP m_z_45 0 (by decide) rfl k_f_X1_27 dX1_replay_73 ?_
          refine lv_iload X.1 X.2.1 dX1_replay_76 (lv_at hl 5 rfl) ?_
          obtain ⟨r6, err6, hres⟩ := m_ob_e hres
          refine m_bz (m_cV (n := 1) (As := [.int x4]) (rest := []) X hSt hP hS hl.1 (c_X3_isDoubted l G m_kept_0 err6) k_c_yX3_isDoubted k_m_X1_52 k_i_yX3_isDoubted k_s_yX3_isDoubted k_n_X3 (by decide +kernel) (m_rc3 hSt hP m_kept_0.1) rfl rfl ⟨Nat.le_of_ble_eq_true rfl, Nat.le_of_ble_eq_true rfl⟩ (Nat.le_of_ble_eq_true rfl) ⟨Nat.zero_le _, Nat.zero_le _⟩ dX1_replay_78) hS (fun H locs hP hS hz7 => ?_)
          refine lv_if_eq (tgt := 102) X.1 X.2.1 dX1_replay_81 (by decide) (fun hc8 => ?_) (fun hc8 => ?_)
          · have hres := m_it hres hc8
            exact B102 (f_X1_replay_b38 n x1 x2 u) ih x3 x4 1 M _ _ _ hP hS (lv_sub hl [1, 2, 3, 4, 5, 0] rfl) hres
          · have hres := m_if hres hc8
            refine lv_iload_n X.1 X.2.1 dX1_replay_84 rfl (lv_at hl 3 rfl) ?_
            refine lv_iload_n X.1 X.2.1 dX1_replay_85 rfl (lv_at hl 4 rfl) ?_
            refine lv_ishr X.1 X.2.1 dX1_replay_86 ?_
            refine lv_iconst (v := 1) X.1 X.2.1 dX1_replay_87 (by decide) ?_
            refine lv_iand X.1 X.2.1 dX1_replay_88 ?_
            refine lv_if_ne (tgt := 96) X.1 X.2.1 dX1_replay_89 (by decide) (fun hc9 => ?_) (fun hc9 => ?_)
            · have hres := m_if hres hc9
              refine lv_iconst (v := 0) X.1 X.2.1 dX1_replay_96 (by decide) ?_
              refine lv_istore (lv' := [(5, .int 0), (0, .ref (m_ad G 45)), (1, .int x1), (2, .int x2), (3, .int x3), (4, .int x4)]) X.1 X.2.1 dX1_replay_97 hl (by decide) rfl (fun ls hl => ?_)
              refine lv_iinc (v := (x3 + 1)) (lv' := [(3, .int (x3 + 1)), (5, .int 0), (0, .ref (m_ad G 45)), (1, .int x1), (2, .int x2), (4, .int x4)]) X.1 X.2.1 dX1_replay_99 hl (k := 4) rfl rfl (by decide) rfl (fun ls hl => ?_)
              exact B102 (f_X1_replay_b38 n x1 x2 u) ih (x3 + 1) x4 0 M _ _ _ hP hS (lv_sub hl [2, 3, 4, 0, 5, 1] rfl) hres
            · have hres := m_it hres hc9
              refine lv_iconst (v := 1) X.1 X.2.1 dX1_replay_92 (by decide) ?_
              refine lv_goto (tgt := 97) X.1 X.2.1 dX1_replay_93 (by decide) ?_
              refine lv_istore (lv' := [(5, .int 1), (0, .ref (m_ad G 45)), (1, .int x1), (2, .int x2), (3, .int x3), (4, .int x4)]) X.1 X.2.1 dX1_replay_97 hl (by decide) rfl (fun ls hl => ?_)
              refine lv_iinc (v := (x3 + 1)) (lv' := [(3, .int (x3 + 1)), (5, .int 1), (0, .ref (m_ad G 45)), (1, .int x1), (2, .int x2), (4, .int x4)]) X.1 X.2.1 dX1_replay_99 hl (k := 4) rfl rfl (by decide) rfl (fun ls hl => ?_)
              exact B102 (f_X1_replay_b38 n x1 x2 u) ih (x3 + 1) x4 1 M _ _ _ hP hS (lv_sub hl [2, 3, 4, 0, 5, 1] rfl) hres
  have B12 : ∀ (u : Nat) (x3 : Int32) (M : m_M) (H : Heap) (locs : List Loc) (ls : Array Slot), m_P G M H → va_S (m_A G) s.heap H locs → lv_has ls 6 [(0, .ref (m_ad G 45)), (1, .int x1), (2, .int x2), (3, .int x3)] → f_X1_replay_b12 n x1 x2 u x3 M = some M0 → W p l e (m_R 5 110) s m args below meth c H locs 0 0 (MQ below (m_Qv G M0) args s 0 0 (m_A G)) (F0 m 12 ls []) := by
    intro u
    induction u with
    | zero =>
      intro x3 M H locs ls hP hS hl hres
      cases hres
    | succ u ih =>
      intro x3 M H locs ls hP hS hl hres
      rw [f_X1_replay_b12] at hres
      refine lv_iload_n X.1 X.2.1 dX1_replay_12 rfl (lv_at hl 3 rfl) ?_
      refine lv_bipush (v := 10) X.1 X.2.1 dX1_replay_13 (by decide) ?_
      refine lv_icmp_ge (tgt := 33) X.1 X.2.1 dX1_replay_15 (by decide) (fun hc10 => ?_) (fun hc10 => ?_)
      · have hres := m_it hres hc10
        refine lv_iconst (v := 0) X.1 X.2.1 dX1_replay_33 (by decide) ?_
        refine lv_istore_n (lv' := [(3, .int 0), (0, .ref (m_ad G 45)), (1, .int x1), (2, .int x2)]) X.1 X.2.1 dX1_replay_34 rfl hl (by decide) rfl (fun ls hl => ?_)
        refine lv_iconst (v := 0) X.1 X.2.1 dX1_replay_35 (by decide) ?_
        refine lv_istore (lv' := [(4, .int 0), (3, .int 0), (0, .ref (m_ad G 45)), (1, .int x1), (2, .int x2)]) X.1 X.2.1 dX1_replay_36 hl (by decide) rfl (fun ls hl => ?_)
        exact B38 n 0 0 M _ _ _ hP hS (lv_sub hl [2, 3, 4, 1, 0] rfl) hres
      · have hres := m_if hres hc10
        refine lv_aload_n X.1 X.2.1 dX1_replay_18 rfl (lv_at hl 0 rfl) ?_
        refine m_g1 (v := .ref (m_ad G 46)) X hSt hP m_z_45 1 (by decide) rfl k_f_X1_11 dX1_replay_19 ?_
        refine lv_iload_n X.1 X.2.1 dX1_replay_22 rfl (lv_at hl 3 rfl) ?_
        obtain ⟨hg11, hres⟩ := m_gd_e hres
        refine m_qa6 (j := x3.toNatClampNeg) X hSt hP m_z_46 hg11 rfl dX1_replay_23 ?_
        obtain ⟨M12, eM12, hres⟩ := m_ob_e hres
        refine m_bv (m_cV (n := 0) (As := []) (rest := []) X hSt hP hS hl.1 (c_X5_restart l G (m_person_of hg11) eM12) k_c_yX5_restart k_m_X1_40 k_i_yX5_restart k_s_yX5_restart k_n_X5 (by decide +kernel) (m_rc5 hSt hP (m_person_of hg11).1) rfl rfl ⟨Nat.le_of_ble_eq_true rfl, Nat.le_of_ble_eq_true rfl⟩ (Nat.le_of_ble_eq_true rfl) ⟨Nat.zero_le _, Nat.zero_le _⟩ dX1_replay_24) hS (fun H locs hP hS => ?_)
        refine lv_iinc (v := (x3 + 1)) (lv' := [(3, .int (x3 + 1)), (0, .ref (m_ad G 45)), (1, .int x1), (2, .int x2)]) X.1 X.2.1 dX1_replay_27 hl (k := 3) rfl rfl (by decide) rfl (fun ls hl => ?_)
        refine lv_goto (tgt := 12) X.1 X.2.1 dX1_replay_30 (by decide) ?_
        exact ih (x3 + 1) M12 _ _ _ hP hS (lv_sub hl [1, 2, 3, 0] rfl) hres
  unfold f_X1_replay at hres
  refine lv_aload_n X.1 X.2.1 dX1_replay_0 rfl (lv_at hl 0 rfl) ?_
  refine lv_iload_n X.1 X.2.1 dX1_replay_1 rfl (lv_at hl 1 rfl) ?_
  obtain ⟨M13, eM13, hres⟩ := m_bd_e hres
  refine m_pi1 X hSt hP hS m_z_45 5 (by decide) eM13 rfl rfl (by decide) k_f_X1_33 dX1_replay_2 (fun H locs hP hS => ?_)
  refine lv_aload_n X.1 X.2.1 dX1_replay_5 rfl (lv_at hl 0 rfl) ?_
  refine lv_iconst (v := 0) X.1 X.2.1 dX1_replay_6 (by decide) ?_
  obtain ⟨M14, eM14, hres⟩ := m_bd_e hres
  refine m_pi1 X hSt hP hS m_z_45 4 (by decide) eM14 rfl rfl (by decide) k_f_X1_37 dX1_replay_7 (fun H locs hP hS => ?_)
  refine lv_iconst (v := 0) X.1 X.2.1 dX1_replay_10 (by decide) ?_
  refine lv_istore_n (lv' := [(3, .int 0), (0, .ref (m_ad G 45)), (1, .int x1), (2, .int x2)]) X.1 X.2.1 dX1_replay_11 rfl hl (by decide) rfl (fun ls hl => ?_)
  exact B12 n 0 M14 _ _ _ hP hS (lv_sub hl [1, 2, 3, 0] rfl) hres
theorem dX1_isThere_0 : decode cX1_isThere 0 = .ok (.iload_n 1, 1) := by decide +kernel
theorem dX1_isThere_1 : decode cX1_isThere 1 = .ok (.ifCond .lt 15, 3) := by decide +kernel
theorem dX1_isThere_4 : decode cX1_isThere 4 = .ok (.iload_n 1, 1) := by decide +kernel
theorem dX1_isThere_5 : decode cX1_isThere 5 = .ok (.aload_n 0, 1) := by decide +kernel
theorem dX1_isThere_6 : decode cX1_isThere 6 = .ok (.getfield 37, 3) := by decide +kernel
theorem dX1_isThere_9 : decode cX1_isThere 9 = .ok (.if_icmp .ge 7, 3) := by decide +kernel
theorem dX1_isThere_12 : decode cX1_isThere 12 = .ok (.iconst 1, 1) := by decide +kernel
theorem dX1_isThere_13 : decode cX1_isThere 13 = .ok (.goto 4, 3) := by decide +kernel
theorem dX1_isThere_16 : decode cX1_isThere 16 = .ok (.iconst 0, 1) := by decide +kernel
theorem dX1_isThere_17 : decode cX1_isThere 17 = .ok (.ireturn, 1) := by decide +kernel
def f_X1_isThere (x1 : Int32) (M : m_M) : Int32 :=
  if x1 < 0 then
  0
  else
  if (M.1 45 4) ≤ x1 then
  0
  else
  1
set_option maxHeartbeats 4000000 in
set_option maxRecDepth 100000 in
theorem c_X1_isThere (l : Launch) (G : m_G) {x1 : Int32} {M : m_M} {r0 : Int32}  (hres : f_X1_isThere x1 M = r0) : Met l yX1_isThere (m_U yX1_isThere cX1_isThere 2 (some .boolean)) (m_R 0 0) (m_Pc G [.ref (m_ad G 45), .int x1] M) (m_Qz G r0 M) 0 0 (m_A G) := by
  refine m_i0 (n := 2) RX1 rfl (by decide) (Nat.le_of_ble_eq_true rfl) ?_
  intro p e s m args below meth c X hr hlk hSt hP hS ls hl
  have hl : lv_has ls 2 [(0, .ref (m_ad G 45)), (1, .int x1)] := hl
  unfold f_X1_isThere at hres
  refine lv_iload_n X.1 X.2.1 dX1_isThere_0 rfl (lv_at hl 1 rfl) ?_
  refine lv_if_lt (tgt := 16) X.1 X.2.1 dX1_isThere_1 (by decide) (fun hc1 => ?_) (fun hc1 => ?_)
  · have hres := m_it hres hc1
    refine lv_iconst (v := 0) X.1 X.2.1 dX1_isThere_16 (by decide) ?_
    exact m_rz X hr hlk hP hS hres rfl (by decide) dX1_isThere_17
  · have hres := m_if hres hc1
    refine lv_iload_n X.1 X.2.1 dX1_isThere_4 rfl (lv_at hl 1 rfl) ?_
    refine lv_aload_n X.1 X.2.1 dX1_isThere_5 rfl (lv_at hl 0 rfl) ?_
    refine m_g1 (v := .int (M.1 45 4)) X hSt hP m_z_45 4 (by decide) rfl k_f_X1_37 dX1_isThere_6 ?_
    refine lv_icmp_ge (tgt := 16) X.1 X.2.1 dX1_isThere_9 (by decide) (fun hc2 => ?_) (fun hc2 => ?_)
    · have hres := m_it hres hc2
      refine lv_iconst (v := 0) X.1 X.2.1 dX1_isThere_16 (by decide) ?_
      exact m_rz X hr hlk hP hS hres rfl (by decide) dX1_isThere_17
    · have hres := m_if hres hc2
      refine lv_iconst (v := 1) X.1 X.2.1 dX1_isThere_12 (by decide) ?_
      refine lv_goto (tgt := 17) X.1 X.2.1 dX1_isThere_13 (by decide) ?_
      exact m_rz X hr hlk hP hS hres rfl (by decide) dX1_isThere_17
theorem dX1_answerer_0 : decode cX1_answerer 0 = .ok (.aload_n 0, 1) := by decide +kernel
theorem dX1_answerer_1 : decode cX1_answerer 1 = .ok (.getfield 11, 3) := by decide +kernel
theorem dX1_answerer_4 : decode cX1_answerer 4 = .ok (.aload_n 0, 1) := by decide +kernel
theorem dX1_answerer_5 : decode cX1_answerer 5 = .ok (.getfield 19, 3) := by decide +kernel
theorem dX1_answerer_8 : decode cX1_answerer 8 = .ok (.iload_n 1, 1) := by decide +kernel
theorem dX1_answerer_9 : decode cX1_answerer 9 = .ok (.aaload, 1) := by decide +kernel
theorem dX1_answerer_10 : decode cX1_answerer 10 = .ok (.getfield 185, 3) := by decide +kernel
theorem dX1_answerer_13 : decode cX1_answerer 13 = .ok (.aaload, 1) := by decide +kernel
theorem dX1_answerer_14 : decode cX1_answerer 14 = .ok (.astore_n 2, 1) := by decide +kernel
theorem dX1_answerer_15 : decode cX1_answerer 15 = .ok (.aload_n 2, 1) := by decide +kernel
theorem dX1_answerer_16 : decode cX1_answerer 16 = .ok (.getfield 137, 3) := by decide +kernel
theorem dX1_answerer_19 : decode cX1_answerer 19 = .ok (.iconst (-1), 1) := by decide +kernel
theorem dX1_answerer_20 : decode cX1_answerer 20 = .ok (.if_icmp .eq 10, 3) := by decide +kernel
theorem dX1_answerer_23 : decode cX1_answerer 23 = .ok (.aload_n 2, 1) := by decide +kernel
theorem dX1_answerer_24 : decode cX1_answerer 24 = .ok (.getfield 137, 3) := by decide +kernel
theorem dX1_answerer_27 : decode cX1_answerer 27 = .ok (.goto 7, 3) := by decide +kernel
theorem dX1_answerer_30 : decode cX1_answerer 30 = .ok (.aload_n 2, 1) := by decide +kernel
theorem dX1_answerer_31 : decode cX1_answerer 31 = .ok (.getfield 188, 3) := by decide +kernel
theorem dX1_answerer_34 : decode cX1_answerer 34 = .ok (.ireturn, 1) := by decide +kernel
def f_X1_answerer (x1 : Int32) (M : m_M) : Option Int32 :=
  m_gd (m_in x1 60) (
  m_gd (m_in (M.1 (99 + x1.toNatClampNeg) 0) 10) (
  if (M.1 (49 + 5 * ((M.1 (99 + x1.toNatClampNeg) 0).toNatClampNeg)) 0) = (-1) then
  some (M.1 (49 + 5 * ((M.1 (99 + x1.toNatClampNeg) 0).toNatClampNeg)) 1)
  else
  some (M.1 (49 + 5 * ((M.1 (99 + x1.toNatClampNeg) 0).toNatClampNeg)) 0)))
set_option maxHeartbeats 4000000 in
set_option maxRecDepth 100000 in
theorem c_X1_answerer (l : Launch) (G : m_G) {x1 : Int32} {M : m_M} {r0 : Int32}  (hres : f_X1_answerer x1 M = some r0) : Met l yX1_answerer (m_U yX1_answerer cX1_answerer 3 (some .int)) (m_R 0 0) (m_Pc G [.ref (m_ad G 45), .int x1] M) (m_Qi G r0 M) 0 0 (m_A G) := by
  refine m_i0 (n := 3) RX1 rfl (by decide) (Nat.le_of_ble_eq_true rfl) ?_
  intro p e s m args below meth c X hr hlk hSt hP hS ls hl
  have hl : lv_has ls 3 [(0, .ref (m_ad G 45)), (1, .int x1)] := hl
  unfold f_X1_answerer at hres
  refine lv_aload_n X.1 X.2.1 dX1_answerer_0 rfl (lv_at hl 0 rfl) ?_
  refine m_g1 (v := .ref (m_ad G 46)) X hSt hP m_z_45 1 (by decide) rfl k_f_X1_11 dX1_answerer_1 ?_
  refine lv_aload_n X.1 X.2.1 dX1_answerer_4 rfl (lv_at hl 0 rfl) ?_
  refine m_g1 (v := .ref (m_ad G 47)) X hSt hP m_z_45 2 (by decide) rfl k_f_X1_19 dX1_answerer_5 ?_
  refine lv_iload_n X.1 X.2.1 dX1_answerer_8 rfl (lv_at hl 1 rfl) ?_
  obtain ⟨hg1, hres⟩ := m_gd_e hres
  refine m_qa3 (j := x1.toNatClampNeg) X hSt hP m_z_47 hg1 rfl dX1_answerer_9 ?_
  refine m_g0 (v := .int (M.1 (99 + x1.toNatClampNeg) 0)) X hSt hP (m_deal_of hg1) 0 (by decide) rfl k_f_X1_185 dX1_answerer_10 ?_
  obtain ⟨hg2, hres⟩ := m_gd_e hres
  refine m_qa6 (j := ((M.1 (99 + x1.toNatClampNeg) 0).toNatClampNeg)) X hSt hP m_z_46 hg2 rfl dX1_answerer_13 ?_
  refine lv_astore_n (lv' := [(2, .ref (m_ad G (49 + 5 * ((M.1 (99 + x1.toNatClampNeg) 0).toNatClampNeg)))), (0, .ref (m_ad G 45)), (1, .int x1)]) X.1 X.2.1 dX1_answerer_14 rfl hl (by decide) rfl (fun ls hl => ?_)
  refine lv_aload_n X.1 X.2.1 dX1_answerer_15 rfl (lv_at hl 0 rfl) ?_
  refine m_g5 (v := .int (M.1 (49 + 5 * ((M.1 (99 + x1.toNatClampNeg) 0).toNatClampNeg)) 0)) X hSt hP (m_person_of hg2).1 0 (by decide) rfl k_f_X1_137 dX1_answerer_16 ?_
  refine lv_iconst (v := (-1)) X.1 X.2.1 dX1_answerer_19 (by decide) ?_
  refine lv_icmp_eq (tgt := 30) X.1 X.2.1 dX1_answerer_20 (by decide) (fun hc3 => ?_) (fun hc3 => ?_)
  · have hres := m_it hres hc3
    refine lv_aload_n X.1 X.2.1 dX1_answerer_30 rfl (lv_at hl 0 rfl) ?_
    refine m_g5 (v := .int (M.1 (49 + 5 * ((M.1 (99 + x1.toNatClampNeg) 0).toNatClampNeg)) 1)) X hSt hP (m_person_of hg2).1 1 (by decide) rfl k_f_X1_188 dX1_answerer_31 ?_
    exact m_ri X hr hlk hP hS (Option.some.inj hres) rfl dX1_answerer_34
  · have hres := m_if hres hc3
    refine lv_aload_n X.1 X.2.1 dX1_answerer_23 rfl (lv_at hl 0 rfl) ?_
    refine m_g5 (v := .int (M.1 (49 + 5 * ((M.1 (99 + x1.toNatClampNeg) 0).toNatClampNeg)) 0)) X hSt hP (m_person_of hg2).1 0 (by decide) rfl k_f_X1_137 dX1_answerer_24 ?_
    refine lv_goto (tgt := 34) X.1 X.2.1 dX1_answerer_27 (by decide) ?_
    exact m_ri X hr hlk hP hS (Option.some.inj hres) rfl dX1_answerer_34
theorem dX7_answers_0 : decode cX7_answers 0 = .ok (.aload_n 0, 1) := by decide +kernel
theorem dX7_answers_1 : decode cX7_answers 1 = .ok (.iload_n 1, 1) := by decide +kernel
theorem dX7_answers_2 : decode cX7_answers 2 = .ok (.invokevirtual 184, 3) := by decide +kernel
theorem dX7_answers_5 : decode cX7_answers 5 = .ok (.ifCond .eq 10, 3) := by decide +kernel
theorem dX7_answers_8 : decode cX7_answers 8 = .ok (.iload_n 2, 1) := by decide +kernel
theorem dX7_answers_9 : decode cX7_answers 9 = .ok (.invokestatic 145, 3) := by decide +kernel
theorem dX7_answers_12 : decode cX7_answers 12 = .ok (.ifCond .ne 6, 3) := by decide +kernel
theorem dX7_answers_15 : decode cX7_answers 15 = .ok (.bipush (-10), 2) := by decide +kernel
theorem dX7_answers_17 : decode cX7_answers 17 = .ok (.ireturn, 1) := by decide +kernel
theorem dX7_answers_18 : decode cX7_answers 18 = .ok (.aload_n 0, 1) := by decide +kernel
theorem dX7_answers_19 : decode cX7_answers 19 = .ok (.getfield 29, 3) := by decide +kernel
theorem dX7_answers_22 : decode cX7_answers 22 = .ok (.iload_n 2, 1) := by decide +kernel
theorem dX7_answers_23 : decode cX7_answers 23 = .ok (.iconst 0, 1) := by decide +kernel
theorem dX7_answers_24 : decode cX7_answers 24 = .ok (.invokevirtual 148, 3) := by decide +kernel
theorem dX7_answers_27 : decode cX7_answers 27 = .ok (.aload_n 0, 1) := by decide +kernel
theorem dX7_answers_28 : decode cX7_answers 28 = .ok (.getfield 29, 3) := by decide +kernel
theorem dX7_answers_31 : decode cX7_answers 31 = .ok (.iload_n 1, 1) := by decide +kernel
theorem dX7_answers_32 : decode cX7_answers 32 = .ok (.invokevirtual 187, 3) := by decide +kernel
theorem dX7_answers_35 : decode cX7_answers 35 = .ok (.ifCond .eq 14, 3) := by decide +kernel
theorem dX7_answers_38 : decode cX7_answers 38 = .ok (.aload_n 0, 1) := by decide +kernel
theorem dX7_answers_39 : decode cX7_answers 39 = .ok (.getfield 29, 3) := by decide +kernel
theorem dX7_answers_42 : decode cX7_answers 42 = .ok (.iload_n 1, 1) := by decide +kernel
theorem dX7_answers_43 : decode cX7_answers 43 = .ok (.invokevirtual 199, 3) := by decide +kernel
theorem dX7_answers_46 : decode cX7_answers 46 = .ok (.goto 5, 3) := by decide +kernel
theorem dX7_answers_49 : decode cX7_answers 49 = .ok (.bipush (-20), 2) := by decide +kernel
theorem dX7_answers_51 : decode cX7_answers 51 = .ok (.ireturn, 1) := by decide +kernel
def f_X7_answers (n : Nat) (x1 : Int32) (x2 : Int32) (M : m_M) : Option (Int32 × m_M) :=
  m_bd (f_X7_isDeal x1 M) fun r1 =>
  if r1 = 0 then
  some ((-10), M)
  else
  m_bd (f_X7_isDay x2) fun r4 =>
  if r4 = 0 then
  some ((-10), M)
  else
  m_ob (f_X1_replay n x2 0 M) fun M7 =>
  m_bd (f_X1_isThere x1 M7) fun r8 =>
  if r8 = 0 then
  some ((-20), M7)
  else
  m_ob (f_X1_answerer x1 M7) fun r11 =>
  some (r11, M7)
set_option maxHeartbeats 4000000 in
set_option maxRecDepth 100000 in
theorem c_X7_answers (l : Launch) (G : m_G) {n : Nat} {x1 : Int32} {x2 : Int32} {M : m_M} {r0 : Int32} {M0 : m_M}  (hres : f_X7_answers n x1 x2 M = some (r0, M0)) : Met l yX7_answers (m_U yX7_answers cX7_answers 3 (some .int)) (m_R 6 135) (m_Pc G [.ref (m_ad G 0), .int x1, .int x2] M) (m_Qi G r0 M0) 0 0 (m_A G) := by
  refine m_i0 (n := 3) RX7 rfl (by decide) (Nat.le_of_ble_eq_true rfl) ?_
  intro p e s m args below meth c X hr hlk hSt hP hS ls hl
  have hl : lv_has ls 3 [(0, .ref (m_ad G 0)), (1, .int x1), (2, .int x2)] := hl
  unfold f_X7_answers at hres
  refine lv_aload_n X.1 X.2.1 dX7_answers_0 rfl (lv_at hl 0 rfl) ?_
  refine lv_iload_n X.1 X.2.1 dX7_answers_1 rfl (lv_at hl 1 rfl) ?_
  obtain ⟨r1, err1, hres⟩ := m_bd_e hres
  refine m_bz (m_cV (n := 1) (As := [.int x1]) (rest := []) X hSt hP hS hl.1 (c_X7_isDeal l G  err1) k_c_yX7_isDeal k_m_X7_184 k_i_yX7_isDeal k_s_yX7_isDeal k_n_X7 (by decide +kernel) (m_rc7 hSt hP m_z_0) rfl rfl ⟨Nat.le_of_ble_eq_true rfl, Nat.le_of_ble_eq_true rfl⟩ (Nat.le_of_ble_eq_true rfl) ⟨Nat.zero_le _, Nat.zero_le _⟩ dX7_answers_2) hS (fun H locs hP hS hz2 => ?_)
  refine lv_if_eq (tgt := 15) X.1 X.2.1 dX7_answers_5 (by decide) (fun hc3 => ?_) (fun hc3 => ?_)
  · have hres := m_it hres hc3
    refine lv_bipush (v := (-10)) X.1 X.2.1 dX7_answers_15 (by decide) ?_
    exact m_ri X hr hlk hP hS (Prod.mk.inj (Option.some.inj hres)).1 (Prod.mk.inj (Option.some.inj hres)).2 dX7_answers_17
  · have hres := m_if hres hc3
    refine lv_iload_n X.1 X.2.1 dX7_answers_8 rfl (lv_at hl 2 rfl) ?_
    obtain ⟨r4, err4, hres⟩ := m_bd_e hres
    refine m_bz (m_cS (n := 1) (As := [.int x2]) (rest := []) X hSt hP hS hl.1 (c_X7_isDay l G (M := M)  err4) k_c_yX7_isDay k_m_X7_145 k_t_yX7_isDay k_n_X7 (by decide +kernel) rfl rfl ⟨Nat.le_of_ble_eq_true rfl, Nat.le_of_ble_eq_true rfl⟩ (Nat.le_of_ble_eq_true rfl) ⟨Nat.zero_le _, Nat.zero_le _⟩ dX7_answers_9) hS (fun H locs hP hS hz5 => ?_)
    refine lv_if_ne (tgt := 18) X.1 X.2.1 dX7_answers_12 (by decide) (fun hc6 => ?_) (fun hc6 => ?_)
    · have hres := m_if hres hc6
      refine lv_aload_n X.1 X.2.1 dX7_answers_18 rfl (lv_at hl 0 rfl) ?_
      refine m_g7 (v := .ref (m_ad G 45)) X hSt hP m_z_0 3 (by decide) rfl k_f_X7_29 dX7_answers_19 ?_
      refine lv_iload_n X.1 X.2.1 dX7_answers_22 rfl (lv_at hl 2 rfl) ?_
      refine lv_iconst (v := 0) X.1 X.2.1 dX7_answers_23 (by decide) ?_
      obtain ⟨M7, eM7, hres⟩ := m_ob_e hres
      refine m_bv (m_cV (n := 2) (As := [.int x2, .int 0]) (rest := []) X hSt hP hS hl.1 (c_X1_replay l G  eM7) k_c_yX1_replay k_m_X7_148 k_i_yX1_replay k_s_yX1_replay k_n_X1 (by decide +kernel) (m_rc1 hSt hP m_z_45) rfl rfl ⟨Nat.le_of_ble_eq_true rfl, Nat.le_of_ble_eq_true rfl⟩ (Nat.le_of_ble_eq_true rfl) ⟨Nat.zero_le _, Nat.zero_le _⟩ dX7_answers_24) hS (fun H locs hP hS => ?_)
      refine lv_aload_n X.1 X.2.1 dX7_answers_27 rfl (lv_at hl 0 rfl) ?_
      refine m_g7 (v := .ref (m_ad G 45)) X hSt hP m_z_0 3 (by decide) rfl k_f_X7_29 dX7_answers_28 ?_
      refine lv_iload_n X.1 X.2.1 dX7_answers_31 rfl (lv_at hl 1 rfl) ?_
      obtain ⟨r8, err8, hres⟩ := m_bd_e hres
      refine m_bz (m_cV (n := 1) (As := [.int x1]) (rest := []) X hSt hP hS hl.1 (c_X1_isThere l G  err8) k_c_yX1_isThere k_m_X7_187 k_i_yX1_isThere k_s_yX1_isThere k_n_X1 (by decide +kernel) (m_rc1 hSt hP m_z_45) rfl rfl ⟨Nat.le_of_ble_eq_true rfl, Nat.le_of_ble_eq_true rfl⟩ (Nat.le_of_ble_eq_true rfl) ⟨Nat.zero_le _, Nat.zero_le _⟩ dX7_answers_32) hS (fun H locs hP hS hz9 => ?_)
      refine lv_if_eq (tgt := 49) X.1 X.2.1 dX7_answers_35 (by decide) (fun hc10 => ?_) (fun hc10 => ?_)
      · have hres := m_it hres hc10
        refine lv_bipush (v := (-20)) X.1 X.2.1 dX7_answers_49 (by decide) ?_
        exact m_ri X hr hlk hP hS (Prod.mk.inj (Option.some.inj hres)).1 (Prod.mk.inj (Option.some.inj hres)).2 dX7_answers_51
      · have hres := m_if hres hc10
        refine lv_aload_n X.1 X.2.1 dX7_answers_38 rfl (lv_at hl 0 rfl) ?_
        refine m_g7 (v := .ref (m_ad G 45)) X hSt hP m_z_0 3 (by decide) rfl k_f_X7_29 dX7_answers_39 ?_
        refine lv_iload_n X.1 X.2.1 dX7_answers_42 rfl (lv_at hl 1 rfl) ?_
        obtain ⟨r11, err11, hres⟩ := m_ob_e hres
        refine m_bi (m_cV (n := 1) (As := [.int x1]) (rest := []) X hSt hP hS hl.1 (c_X1_answerer l G  err11) k_c_yX1_answerer k_m_X7_199 k_i_yX1_answerer k_s_yX1_answerer k_n_X1 (by decide +kernel) (m_rc1 hSt hP m_z_45) rfl rfl ⟨Nat.le_of_ble_eq_true rfl, Nat.le_of_ble_eq_true rfl⟩ (Nat.le_of_ble_eq_true rfl) ⟨Nat.zero_le _, Nat.zero_le _⟩ dX7_answers_43) hS (fun H locs hP hS => ?_)
        refine lv_goto (tgt := 51) X.1 X.2.1 dX7_answers_46 (by decide) ?_
        exact m_ri X hr hlk hP hS (Prod.mk.inj (Option.some.inj hres)).1 (Prod.mk.inj (Option.some.inj hres)).2 dX7_answers_51
    · have hres := m_it hres hc6
      refine lv_bipush (v := (-10)) X.1 X.2.1 dX7_answers_15 (by decide) ?_
      exact m_ri X hr hlk hP hS (Prod.mk.inj (Option.some.inj hres)).1 (Prod.mk.inj (Option.some.inj hres)).2 dX7_answers_17
theorem dX7_isAsk_0 : decode cX7_isAsk 0 = .ok (.iload_n 0, 1) := by decide +kernel
theorem dX7_isAsk_1 : decode cX7_isAsk 1 = .ok (.ifCond .lt 12, 3) := by decide +kernel
theorem dX7_isAsk_4 : decode cX7_isAsk 4 = .ok (.iload_n 0, 1) := by decide +kernel
theorem dX7_isAsk_5 : decode cX7_isAsk 5 = .ok (.iconst 4, 1) := by decide +kernel
theorem dX7_isAsk_6 : decode cX7_isAsk 6 = .ok (.if_icmp .ge 7, 3) := by decide +kernel
theorem dX7_isAsk_9 : decode cX7_isAsk 9 = .ok (.iconst 1, 1) := by decide +kernel
theorem dX7_isAsk_10 : decode cX7_isAsk 10 = .ok (.goto 4, 3) := by decide +kernel
theorem dX7_isAsk_13 : decode cX7_isAsk 13 = .ok (.iconst 0, 1) := by decide +kernel
theorem dX7_isAsk_14 : decode cX7_isAsk 14 = .ok (.ireturn, 1) := by decide +kernel
def f_X7_isAsk (x0 : Int32) : Int32 :=
  if x0 < 0 then
  0
  else
  if (4 : Int32) ≤ x0 then
  0
  else
  1
set_option maxHeartbeats 4000000 in
set_option maxRecDepth 100000 in
theorem c_X7_isAsk (l : Launch) (G : m_G) {x0 : Int32} {M : m_M} {r0 : Int32}  (hres : f_X7_isAsk x0 = r0) : Met l yX7_isAsk (m_U yX7_isAsk cX7_isAsk 1 (some .boolean)) (m_R 0 0) (m_Pc G [.int x0] M) (m_Qz G r0 M) 0 0 (m_A G) := by
  refine m_i0 (n := 1) RX7 rfl (by decide) (Nat.le_of_ble_eq_true rfl) ?_
  intro p e s m args below meth c X hr hlk hSt hP hS ls hl
  have hl : lv_has ls 1 [(0, .int x0)] := hl
  unfold f_X7_isAsk at hres
  refine lv_iload_n X.1 X.2.1 dX7_isAsk_0 rfl (lv_at hl 0 rfl) ?_
  refine lv_if_lt (tgt := 13) X.1 X.2.1 dX7_isAsk_1 (by decide) (fun hc1 => ?_) (fun hc1 => ?_)
  · have hres := m_it hres hc1
    refine lv_iconst (v := 0) X.1 X.2.1 dX7_isAsk_13 (by decide) ?_
    exact m_rz X hr hlk hP hS hres rfl (by decide) dX7_isAsk_14
  · have hres := m_if hres hc1
    refine lv_iload_n X.1 X.2.1 dX7_isAsk_4 rfl (lv_at hl 0 rfl) ?_
    refine lv_iconst (v := 4) X.1 X.2.1 dX7_isAsk_5 (by decide) ?_
    refine lv_icmp_ge (tgt := 13) X.1 X.2.1 dX7_isAsk_6 (by decide) (fun hc2 => ?_) (fun hc2 => ?_)
    · have hres := m_it hres hc2
      refine lv_iconst (v := 0) X.1 X.2.1 dX7_isAsk_13 (by decide) ?_
      exact m_rz X hr hlk hP hS hres rfl (by decide) dX7_isAsk_14
    · have hres := m_if hres hc2
      refine lv_iconst (v := 1) X.1 X.2.1 dX7_isAsk_9 (by decide) ?_
      refine lv_goto (tgt := 14) X.1 X.2.1 dX7_isAsk_10 (by decide) ?_
      exact m_rz X hr hlk hP hS hres rfl (by decide) dX7_isAsk_14
theorem dX1_stepsUp_0 : decode cX1_stepsUp 0 = .ok (.iconst 0, 1) := by decide +kernel
theorem dX1_stepsUp_1 : decode cX1_stepsUp 1 = .ok (.istore_n 2, 1) := by decide +kernel
theorem dX1_stepsUp_2 : decode cX1_stepsUp 2 = .ok (.aload_n 0, 1) := by decide +kernel
theorem dX1_stepsUp_3 : decode cX1_stepsUp 3 = .ok (.getfield 11, 3) := by decide +kernel
theorem dX1_stepsUp_6 : decode cX1_stepsUp 6 = .ok (.iload_n 1, 1) := by decide +kernel
theorem dX1_stepsUp_7 : decode cX1_stepsUp 7 = .ok (.aaload, 1) := by decide +kernel
theorem dX1_stepsUp_8 : decode cX1_stepsUp 8 = .ok (.getfield 137, 3) := by decide +kernel
theorem dX1_stepsUp_11 : decode cX1_stepsUp 11 = .ok (.istore_n 3, 1) := by decide +kernel
theorem dX1_stepsUp_12 : decode cX1_stepsUp 12 = .ok (.iload_n 2, 1) := by decide +kernel
theorem dX1_stepsUp_13 : decode cX1_stepsUp 13 = .ok (.bipush 10, 2) := by decide +kernel
theorem dX1_stepsUp_15 : decode cX1_stepsUp 15 = .ok (.if_icmp .ge 24, 3) := by decide +kernel
theorem dX1_stepsUp_18 : decode cX1_stepsUp 18 = .ok (.iload_n 3, 1) := by decide +kernel
theorem dX1_stepsUp_19 : decode cX1_stepsUp 19 = .ok (.iconst (-1), 1) := by decide +kernel
theorem dX1_stepsUp_20 : decode cX1_stepsUp 20 = .ok (.if_icmp .eq 19, 3) := by decide +kernel
theorem dX1_stepsUp_23 : decode cX1_stepsUp 23 = .ok (.aload_n 0, 1) := by decide +kernel
theorem dX1_stepsUp_24 : decode cX1_stepsUp 24 = .ok (.getfield 11, 3) := by decide +kernel
theorem dX1_stepsUp_27 : decode cX1_stepsUp 27 = .ok (.iload_n 3, 1) := by decide +kernel
theorem dX1_stepsUp_28 : decode cX1_stepsUp 28 = .ok (.aaload, 1) := by decide +kernel
theorem dX1_stepsUp_29 : decode cX1_stepsUp 29 = .ok (.getfield 137, 3) := by decide +kernel
theorem dX1_stepsUp_32 : decode cX1_stepsUp 32 = .ok (.istore_n 3, 1) := by decide +kernel
theorem dX1_stepsUp_33 : decode cX1_stepsUp 33 = .ok (.iinc 2 1, 3) := by decide +kernel
theorem dX1_stepsUp_36 : decode cX1_stepsUp 36 = .ok (.goto (-24), 3) := by decide +kernel
theorem dX1_stepsUp_39 : decode cX1_stepsUp 39 = .ok (.iload_n 2, 1) := by decide +kernel
theorem dX1_stepsUp_40 : decode cX1_stepsUp 40 = .ok (.ireturn, 1) := by decide +kernel
def f_X1_stepsUp_b12 (n : Nat) (x1 : Int32) (M : m_M) : Nat → Int32 → Int32 → Option Int32
  | 0, _, _ => none
  | u + 1, x2, x3 =>
    if (10 : Int32) ≤ x2 then
  some x2
  else
  if x3 = (-1) then
  some x2
  else
  m_gd (m_in x3 10) (
  m_bd (M.1 (49 + 5 * x3.toNatClampNeg) 0) fun t4 =>
  f_X1_stepsUp_b12 n x1 M u (x2 + 1) t4)
def f_X1_stepsUp (n : Nat) (x1 : Int32) (M : m_M) : Option Int32 :=
  m_gd (m_in x1 10) (
  m_bd (M.1 (49 + 5 * x1.toNatClampNeg) 0) fun t6 =>
  f_X1_stepsUp_b12 n x1 M n 0 t6)
set_option maxHeartbeats 4000000 in
set_option maxRecDepth 100000 in
theorem c_X1_stepsUp (l : Launch) (G : m_G) {n : Nat} {x1 : Int32} {M : m_M} {r0 : Int32}  (hres : f_X1_stepsUp n x1 M = some r0) : Met l yX1_stepsUp (m_U yX1_stepsUp cX1_stepsUp 4 (some .int)) (m_R 0 0) (m_Pc G [.ref (m_ad G 45), .int x1] M) (m_Qi G r0 M) 0 0 (m_A G) := by
  refine m_i0 (n := 4) RX1 rfl (by decide) (Nat.le_of_ble_eq_true rfl) ?_
  intro p e s m args below meth c X hr hlk hSt hP hS ls hl
  have hl : lv_has ls 4 [(0, .ref (m_ad G 45)), (1, .int x1)] := hl
  have B12 : ∀ (u : Nat) (x2 : Int32) (x3 : Int32) (H : Heap) (locs : List Loc) (ls : Array Slot), m_P G M H → va_S (m_A G) s.heap H locs → lv_has ls 4 [(0, .ref (m_ad G 45)), (2, .int x2), (3, .int x3)] → f_X1_stepsUp_b12 n x1 M u x2 x3 = some r0 → W p l e (m_R 0 0) s m args below meth c H locs 0 0 (MQ below (m_Qi G r0 M) args s 0 0 (m_A G)) (F0 m 12 ls []) := by
    intro u
    induction u with
    | zero =>
      intro x2 x3 H locs ls hP hS hl hres
      cases hres
    | succ u ih =>
      intro x2 x3 H locs ls hP hS hl hres
      rw [f_X1_stepsUp_b12] at hres
      refine lv_iload_n X.1 X.2.1 dX1_stepsUp_12 rfl (lv_at hl 1 rfl) ?_
      refine lv_bipush (v := 10) X.1 X.2.1 dX1_stepsUp_13 (by decide) ?_
      refine lv_icmp_ge (tgt := 39) X.1 X.2.1 dX1_stepsUp_15 (by decide) (fun hc1 => ?_) (fun hc1 => ?_)
      · have hres := m_it hres hc1
        refine lv_iload_n X.1 X.2.1 dX1_stepsUp_39 rfl (lv_at hl 1 rfl) ?_
        exact m_ri X hr hlk hP hS (Option.some.inj hres) rfl dX1_stepsUp_40
      · have hres := m_if hres hc1
        refine lv_iload_n X.1 X.2.1 dX1_stepsUp_18 rfl (lv_at hl 2 rfl) ?_
        refine lv_iconst (v := (-1)) X.1 X.2.1 dX1_stepsUp_19 (by decide) ?_
        refine lv_icmp_eq (tgt := 39) X.1 X.2.1 dX1_stepsUp_20 (by decide) (fun hc2 => ?_) (fun hc2 => ?_)
        · have hres := m_it hres hc2
          refine lv_iload_n X.1 X.2.1 dX1_stepsUp_39 rfl (lv_at hl 1 rfl) ?_
          exact m_ri X hr hlk hP hS (Option.some.inj hres) rfl dX1_stepsUp_40
        · have hres := m_if hres hc2
          refine lv_aload_n X.1 X.2.1 dX1_stepsUp_23 rfl (lv_at hl 0 rfl) ?_
          refine m_g1 (v := .ref (m_ad G 46)) X hSt hP m_z_45 1 (by decide) rfl k_f_X1_11 dX1_stepsUp_24 ?_
          refine lv_iload_n X.1 X.2.1 dX1_stepsUp_27 rfl (lv_at hl 2 rfl) ?_
          obtain ⟨hg3, hres⟩ := m_gd_e hres
          refine m_qa6 (j := x3.toNatClampNeg) X hSt hP m_z_46 hg3 rfl dX1_stepsUp_28 ?_
          refine m_g5 (v := .int (M.1 (49 + 5 * x3.toNatClampNeg) 0)) X hSt hP (m_person_of hg3).1 0 (by decide) rfl k_f_X1_137 dX1_stepsUp_29 ?_
          obtain ⟨t4, et4, hres⟩ := m_bd_e hres
          refine m_ti et4 ?_
          refine lv_istore_n (lv' := [(3, .int t4), (0, .ref (m_ad G 45)), (2, .int x2)]) X.1 X.2.1 dX1_stepsUp_32 rfl hl (by decide) rfl (fun ls hl => ?_)
          refine lv_iinc (v := (x2 + 1)) (lv' := [(2, .int (x2 + 1)), (3, .int t4), (0, .ref (m_ad G 45))]) X.1 X.2.1 dX1_stepsUp_33 hl (k := 2) rfl rfl (by decide) rfl (fun ls hl => ?_)
          refine lv_goto (tgt := 12) X.1 X.2.1 dX1_stepsUp_36 (by decide) ?_
          exact ih (x2 + 1) t4 _ _ _ hP hS (lv_sub hl [2, 0, 1] rfl) hres
  unfold f_X1_stepsUp at hres
  refine lv_iconst (v := 0) X.1 X.2.1 dX1_stepsUp_0 (by decide) ?_
  refine lv_istore_n (lv' := [(2, .int 0), (0, .ref (m_ad G 45)), (1, .int x1)]) X.1 X.2.1 dX1_stepsUp_1 rfl hl (by decide) rfl (fun ls hl => ?_)
  refine lv_aload_n X.1 X.2.1 dX1_stepsUp_2 rfl (lv_at hl 1 rfl) ?_
  refine m_g1 (v := .ref (m_ad G 46)) X hSt hP m_z_45 1 (by decide) rfl k_f_X1_11 dX1_stepsUp_3 ?_
  refine lv_iload_n X.1 X.2.1 dX1_stepsUp_6 rfl (lv_at hl 2 rfl) ?_
  obtain ⟨hg5, hres⟩ := m_gd_e hres
  refine m_qa6 (j := x1.toNatClampNeg) X hSt hP m_z_46 hg5 rfl dX1_stepsUp_7 ?_
  refine m_g5 (v := .int (M.1 (49 + 5 * x1.toNatClampNeg) 0)) X hSt hP (m_person_of hg5).1 0 (by decide) rfl k_f_X1_137 dX1_stepsUp_8 ?_
  obtain ⟨t6, et6, hres⟩ := m_bd_e hres
  refine m_ti et6 ?_
  refine lv_istore_n (lv' := [(3, .int t6), (2, .int 0), (0, .ref (m_ad G 45)), (1, .int x1)]) X.1 X.2.1 dX1_stepsUp_11 rfl hl (by decide) rfl (fun ls hl => ?_)
  exact B12 n 0 t6 _ _ _ hP hS (lv_sub hl [2, 1, 0] rfl) hres
theorem dX5_partOf_0 : decode cX5_partOf 0 = .ok (.iconst 0, 1) := by decide +kernel
theorem dX5_partOf_1 : decode cX5_partOf 1 = .ok (.aload_n 0, 1) := by decide +kernel
theorem dX5_partOf_2 : decode cX5_partOf 2 = .ok (.getfield 9, 3) := by decide +kernel
theorem dX5_partOf_5 : decode cX5_partOf 5 = .ok (.iload_n 1, 1) := by decide +kernel
theorem dX5_partOf_6 : decode cX5_partOf 6 = .ok (.iaload, 1) := by decide +kernel
theorem dX5_partOf_7 : decode cX5_partOf 7 = .ok (.invokestatic 47, 3) := by decide +kernel
theorem dX5_partOf_10 : decode cX5_partOf 10 = .ok (.ireturn, 1) := by decide +kernel
def f_X5_partOf (k0 : Nat) (x1 : Int32) (M : m_M) : Option Int32 :=
  m_gd (m_in x1 4) (
  m_bd (m_max 0 (M.1 (k0 + 1) x1.toNatClampNeg)) fun r2 =>
  some r2)
set_option maxHeartbeats 4000000 in
set_option maxRecDepth 100000 in
theorem c_X5_partOf (l : Launch) (G : m_G) {k0 : Nat} {x1 : Int32} {M : m_M} {r0 : Int32} (hk0 : m_isPerson k0) (hres : f_X5_partOf k0 x1 M = some r0) : Met l yX5_partOf (m_U yX5_partOf cX5_partOf 2 (some .int)) (m_R 1 30) (m_Pc G [.ref (m_ad G k0), .int x1] M) (m_Qi G r0 M) 0 0 (m_A G) := by
  refine m_i0 (n := 2) RX5 rfl (by decide) (Nat.le_of_ble_eq_true rfl) ?_
  intro p e s m args below meth c X hr hlk hSt hP hS ls hl
  have hl : lv_has ls 2 [(0, .ref (m_ad G k0)), (1, .int x1)] := hl
  unfold f_X5_partOf at hres
  refine lv_iconst (v := 0) X.1 X.2.1 dX5_partOf_0 (by decide) ?_
  refine lv_aload_n X.1 X.2.1 dX5_partOf_1 rfl (lv_at hl 0 rfl) ?_
  refine m_g5 (v := .ref (m_ad G (k0 + 1))) X hSt hP hk0.1 7 (by decide) rfl k_f_X5_9 dX5_partOf_2 ?_
  refine lv_iload_n X.1 X.2.1 dX5_partOf_5 rfl (lv_at hl 1 rfl) ?_
  obtain ⟨hg1, hres⟩ := m_gd_e hres
  refine m_ia (j := x1.toNatClampNeg) X hSt hP hk0.2.1 hg1 rfl dX5_partOf_6 ?_
  obtain ⟨r2, err2, hres⟩ := m_bd_e hres
  refine m_mx (rest := []) X hl.1 k_m_X5_47 k_t_yJ9_max_7cf53 k_n_J9 k_c_yJ9_max_7cf53 (Nat.le_of_ble_eq_true rfl) (Nat.le_of_ble_eq_true rfl) ⟨Nat.zero_le _, Nat.zero_le _⟩ dX5_partOf_7 err2 ?_
  exact m_ri X hr hlk hP hS (Option.some.inj hres) rfl dX5_partOf_10
theorem dX5_allParts_0 : decode cX5_allParts 0 = .ok (.iconst 0, 1) := by decide +kernel
theorem dX5_allParts_1 : decode cX5_allParts 1 = .ok (.istore_n 1, 1) := by decide +kernel
theorem dX5_allParts_2 : decode cX5_allParts 2 = .ok (.iconst 0, 1) := by decide +kernel
theorem dX5_allParts_3 : decode cX5_allParts 3 = .ok (.istore_n 2, 1) := by decide +kernel
theorem dX5_allParts_4 : decode cX5_allParts 4 = .ok (.iload_n 2, 1) := by decide +kernel
theorem dX5_allParts_5 : decode cX5_allParts 5 = .ok (.iconst 4, 1) := by decide +kernel
theorem dX5_allParts_6 : decode cX5_allParts 6 = .ok (.if_icmp .ge 17, 3) := by decide +kernel
theorem dX5_allParts_9 : decode cX5_allParts 9 = .ok (.iload_n 1, 1) := by decide +kernel
theorem dX5_allParts_10 : decode cX5_allParts 10 = .ok (.aload_n 0, 1) := by decide +kernel
theorem dX5_allParts_11 : decode cX5_allParts 11 = .ok (.iload_n 2, 1) := by decide +kernel
theorem dX5_allParts_12 : decode cX5_allParts 12 = .ok (.invokevirtual 53, 3) := by decide +kernel
theorem dX5_allParts_15 : decode cX5_allParts 15 = .ok (.iadd, 1) := by decide +kernel
theorem dX5_allParts_16 : decode cX5_allParts 16 = .ok (.istore_n 1, 1) := by decide +kernel
theorem dX5_allParts_17 : decode cX5_allParts 17 = .ok (.iinc 2 1, 3) := by decide +kernel
theorem dX5_allParts_20 : decode cX5_allParts 20 = .ok (.goto (-16), 3) := by decide +kernel
theorem dX5_allParts_23 : decode cX5_allParts 23 = .ok (.iload_n 1, 1) := by decide +kernel
theorem dX5_allParts_24 : decode cX5_allParts 24 = .ok (.ireturn, 1) := by decide +kernel
def f_X5_allParts_b4 (n : Nat) (k0 : Nat) (M : m_M) : Nat → Int32 → Int32 → Option Int32
  | 0, _, _ => none
  | u + 1, x1, x2 =>
    if (4 : Int32) ≤ x2 then
  some x1
  else
  m_ob (f_X5_partOf k0 x2 M) fun r2 =>
  f_X5_allParts_b4 n k0 M u (x1 + r2) (x2 + 1)
def f_X5_allParts (n : Nat) (k0 : Nat) (M : m_M) : Option Int32 :=
  f_X5_allParts_b4 n k0 M n 0 0
set_option maxHeartbeats 4000000 in
set_option maxRecDepth 100000 in
theorem c_X5_allParts (l : Launch) (G : m_G) {n : Nat} {k0 : Nat} {M : m_M} {r0 : Int32} (hk0 : m_isPerson k0) (hres : f_X5_allParts n k0 M = some r0) : Met l yX5_allParts (m_U yX5_allParts cX5_allParts 3 (some .int)) (m_R 2 51) (m_Pc G [.ref (m_ad G k0)] M) (m_Qi G r0 M) 0 0 (m_A G) := by
  refine m_i0 (n := 3) RX5 rfl (by decide) (Nat.le_of_ble_eq_true rfl) ?_
  intro p e s m args below meth c X hr hlk hSt hP hS ls hl
  have hl : lv_has ls 3 [(0, .ref (m_ad G k0))] := hl
  have B4 : ∀ (u : Nat) (x1 : Int32) (x2 : Int32) (H : Heap) (locs : List Loc) (ls : Array Slot), m_P G M H → va_S (m_A G) s.heap H locs → lv_has ls 3 [(0, .ref (m_ad G k0)), (1, .int x1), (2, .int x2)] → f_X5_allParts_b4 n k0 M u x1 x2 = some r0 → W p l e (m_R 2 51) s m args below meth c H locs 0 0 (MQ below (m_Qi G r0 M) args s 0 0 (m_A G)) (F0 m 4 ls []) := by
    intro u
    induction u with
    | zero =>
      intro x1 x2 H locs ls hP hS hl hres
      cases hres
    | succ u ih =>
      intro x1 x2 H locs ls hP hS hl hres
      rw [f_X5_allParts_b4] at hres
      refine lv_iload_n X.1 X.2.1 dX5_allParts_4 rfl (lv_at hl 2 rfl) ?_
      refine lv_iconst (v := 4) X.1 X.2.1 dX5_allParts_5 (by decide) ?_
      refine lv_icmp_ge (tgt := 23) X.1 X.2.1 dX5_allParts_6 (by decide) (fun hc1 => ?_) (fun hc1 => ?_)
      · have hres := m_it hres hc1
        refine lv_iload_n X.1 X.2.1 dX5_allParts_23 rfl (lv_at hl 1 rfl) ?_
        exact m_ri X hr hlk hP hS (Option.some.inj hres) rfl dX5_allParts_24
      · have hres := m_if hres hc1
        refine lv_iload_n X.1 X.2.1 dX5_allParts_9 rfl (lv_at hl 1 rfl) ?_
        refine lv_aload_n X.1 X.2.1 dX5_allParts_10 rfl (lv_at hl 0 rfl) ?_
        refine lv_iload_n X.1 X.2.1 dX5_allParts_11 rfl (lv_at hl 2 rfl) ?_
        obtain ⟨r2, err2, hres⟩ := m_ob_e hres
        refine m_bi (m_cV (n := 1) (As := [.int x2]) (rest := [.int x1]) X hSt hP hS hl.1 (c_X5_partOf l G hk0 err2) k_c_yX5_partOf k_m_X5_53 k_i_yX5_partOf k_s_yX5_partOf k_n_X5 (by decide +kernel) (m_rc5 hSt hP hk0.1) rfl rfl ⟨Nat.le_of_ble_eq_true rfl, Nat.le_of_ble_eq_true rfl⟩ (Nat.le_of_ble_eq_true rfl) ⟨Nat.zero_le _, Nat.zero_le _⟩ dX5_allParts_12) hS (fun H locs hP hS => ?_)
        refine lv_iadd X.1 X.2.1 dX5_allParts_15 ?_
        refine lv_istore_n (lv' := [(1, .int (x1 + r2)), (0, .ref (m_ad G k0)), (2, .int x2)]) X.1 X.2.1 dX5_allParts_16 rfl hl (by decide) rfl (fun ls hl => ?_)
        refine lv_iinc (v := (x2 + 1)) (lv' := [(2, .int (x2 + 1)), (1, .int (x1 + r2)), (0, .ref (m_ad G k0))]) X.1 X.2.1 dX5_allParts_17 hl (k := 2) rfl rfl (by decide) rfl (fun ls hl => ?_)
        refine lv_goto (tgt := 4) X.1 X.2.1 dX5_allParts_20 (by decide) ?_
        exact ih (x1 + r2) (x2 + 1) _ _ _ hP hS (lv_sub hl [2, 1, 0] rfl) hres
  unfold f_X5_allParts at hres
  refine lv_iconst (v := 0) X.1 X.2.1 dX5_allParts_0 (by decide) ?_
  refine lv_istore_n (lv' := [(1, .int 0), (0, .ref (m_ad G k0))]) X.1 X.2.1 dX5_allParts_1 rfl hl (by decide) rfl (fun ls hl => ?_)
  refine lv_iconst (v := 0) X.1 X.2.1 dX5_allParts_2 (by decide) ?_
  refine lv_istore_n (lv' := [(2, .int 0), (1, .int 0), (0, .ref (m_ad G k0))]) X.1 X.2.1 dX5_allParts_3 rfl hl (by decide) rfl (fun ls hl => ?_)
  exact B4 n 0 0 _ _ _ hP hS (lv_sub hl [2, 1, 0] rfl) hres
theorem dX5_debtTo_0 : decode cX5_debtTo 0 = .ok (.iconst 0, 1) := by decide +kernel
theorem dX5_debtTo_1 : decode cX5_debtTo 1 = .ok (.aload_n 0, 1) := by decide +kernel
theorem dX5_debtTo_2 : decode cX5_debtTo 2 = .ok (.getfield 15, 3) := by decide +kernel
theorem dX5_debtTo_5 : decode cX5_debtTo 5 = .ok (.iload_n 1, 1) := by decide +kernel
theorem dX5_debtTo_6 : decode cX5_debtTo 6 = .ok (.iaload, 1) := by decide +kernel
theorem dX5_debtTo_7 : decode cX5_debtTo 7 = .ok (.invokestatic 47, 3) := by decide +kernel
theorem dX5_debtTo_10 : decode cX5_debtTo 10 = .ok (.ireturn, 1) := by decide +kernel
def f_X5_debtTo (k0 : Nat) (x1 : Int32) (M : m_M) : Option Int32 :=
  m_gd (m_in x1 10) (
  m_bd (m_max 0 (M.1 (k0 + 2) x1.toNatClampNeg)) fun r2 =>
  some r2)
set_option maxHeartbeats 4000000 in
set_option maxRecDepth 100000 in
theorem c_X5_debtTo (l : Launch) (G : m_G) {k0 : Nat} {x1 : Int32} {M : m_M} {r0 : Int32} (hk0 : m_isPerson k0) (hres : f_X5_debtTo k0 x1 M = some r0) : Met l yX5_debtTo (m_U yX5_debtTo cX5_debtTo 2 (some .int)) (m_R 1 30) (m_Pc G [.ref (m_ad G k0), .int x1] M) (m_Qi G r0 M) 0 0 (m_A G) := by
  refine m_i0 (n := 2) RX5 rfl (by decide) (Nat.le_of_ble_eq_true rfl) ?_
  intro p e s m args below meth c X hr hlk hSt hP hS ls hl
  have hl : lv_has ls 2 [(0, .ref (m_ad G k0)), (1, .int x1)] := hl
  unfold f_X5_debtTo at hres
  refine lv_iconst (v := 0) X.1 X.2.1 dX5_debtTo_0 (by decide) ?_
  refine lv_aload_n X.1 X.2.1 dX5_debtTo_1 rfl (lv_at hl 0 rfl) ?_
  refine m_g5 (v := .ref (m_ad G (k0 + 2))) X hSt hP hk0.1 8 (by decide) rfl k_f_X5_15 dX5_debtTo_2 ?_
  refine lv_iload_n X.1 X.2.1 dX5_debtTo_5 rfl (lv_at hl 1 rfl) ?_
  obtain ⟨hg1, hres⟩ := m_gd_e hres
  refine m_ia (j := x1.toNatClampNeg) X hSt hP hk0.2.2.1 hg1 rfl dX5_debtTo_6 ?_
  obtain ⟨r2, err2, hres⟩ := m_bd_e hres
  refine m_mx (rest := []) X hl.1 k_m_X5_47 k_t_yJ9_max_7cf53 k_n_J9 k_c_yJ9_max_7cf53 (Nat.le_of_ble_eq_true rfl) (Nat.le_of_ble_eq_true rfl) ⟨Nat.zero_le _, Nat.zero_le _⟩ dX5_debtTo_7 err2 ?_
  exact m_ri X hr hlk hP hS (Option.some.inj hres) rfl dX5_debtTo_10
theorem dX1_debtToHolder_0 : decode cX1_debtToHolder 0 = .ok (.aload_n 0, 1) := by decide +kernel
theorem dX1_debtToHolder_1 : decode cX1_debtToHolder 1 = .ok (.getfield 11, 3) := by decide +kernel
theorem dX1_debtToHolder_4 : decode cX1_debtToHolder 4 = .ok (.iload_n 1, 1) := by decide +kernel
theorem dX1_debtToHolder_5 : decode cX1_debtToHolder 5 = .ok (.aaload, 1) := by decide +kernel
theorem dX1_debtToHolder_6 : decode cX1_debtToHolder 6 = .ok (.getfield 137, 3) := by decide +kernel
theorem dX1_debtToHolder_9 : decode cX1_debtToHolder 9 = .ok (.istore_n 2, 1) := by decide +kernel
theorem dX1_debtToHolder_10 : decode cX1_debtToHolder 10 = .ok (.iload_n 2, 1) := by decide +kernel
theorem dX1_debtToHolder_11 : decode cX1_debtToHolder 11 = .ok (.iconst (-1), 1) := by decide +kernel
theorem dX1_debtToHolder_12 : decode cX1_debtToHolder 12 = .ok (.if_icmp .ne 7, 3) := by decide +kernel
theorem dX1_debtToHolder_15 : decode cX1_debtToHolder 15 = .ok (.iconst 0, 1) := by decide +kernel
theorem dX1_debtToHolder_16 : decode cX1_debtToHolder 16 = .ok (.goto 13, 3) := by decide +kernel
theorem dX1_debtToHolder_19 : decode cX1_debtToHolder 19 = .ok (.aload_n 0, 1) := by decide +kernel
theorem dX1_debtToHolder_20 : decode cX1_debtToHolder 20 = .ok (.getfield 11, 3) := by decide +kernel
theorem dX1_debtToHolder_23 : decode cX1_debtToHolder 23 = .ok (.iload_n 1, 1) := by decide +kernel
theorem dX1_debtToHolder_24 : decode cX1_debtToHolder 24 = .ok (.aaload, 1) := by decide +kernel
theorem dX1_debtToHolder_25 : decode cX1_debtToHolder 25 = .ok (.iload_n 2, 1) := by decide +kernel
theorem dX1_debtToHolder_26 : decode cX1_debtToHolder 26 = .ok (.invokevirtual 134, 3) := by decide +kernel
theorem dX1_debtToHolder_29 : decode cX1_debtToHolder 29 = .ok (.ireturn, 1) := by decide +kernel
def f_X1_debtToHolder (x1 : Int32) (M : m_M) : Option Int32 :=
  m_gd (m_in x1 10) (
  m_bd (M.1 (49 + 5 * x1.toNatClampNeg) 0) fun t2 =>
  if t2 = (-1) then
  some 0
  else
  m_ob (f_X5_debtTo (49 + 5 * x1.toNatClampNeg) t2 M) fun r4 =>
  some r4)
set_option maxHeartbeats 4000000 in
set_option maxRecDepth 100000 in
theorem c_X1_debtToHolder (l : Launch) (G : m_G) {x1 : Int32} {M : m_M} {r0 : Int32}  (hres : f_X1_debtToHolder x1 M = some r0) : Met l yX1_debtToHolder (m_U yX1_debtToHolder cX1_debtToHolder 3 (some .int)) (m_R 2 51) (m_Pc G [.ref (m_ad G 45), .int x1] M) (m_Qi G r0 M) 0 0 (m_A G) := by
  refine m_i0 (n := 3) RX1 rfl (by decide) (Nat.le_of_ble_eq_true rfl) ?_
  intro p e s m args below meth c X hr hlk hSt hP hS ls hl
  have hl : lv_has ls 3 [(0, .ref (m_ad G 45)), (1, .int x1)] := hl
  unfold f_X1_debtToHolder at hres
  refine lv_aload_n X.1 X.2.1 dX1_debtToHolder_0 rfl (lv_at hl 0 rfl) ?_
  refine m_g1 (v := .ref (m_ad G 46)) X hSt hP m_z_45 1 (by decide) rfl k_f_X1_11 dX1_debtToHolder_1 ?_
  refine lv_iload_n X.1 X.2.1 dX1_debtToHolder_4 rfl (lv_at hl 1 rfl) ?_
  obtain ⟨hg1, hres⟩ := m_gd_e hres
  refine m_qa6 (j := x1.toNatClampNeg) X hSt hP m_z_46 hg1 rfl dX1_debtToHolder_5 ?_
  refine m_g5 (v := .int (M.1 (49 + 5 * x1.toNatClampNeg) 0)) X hSt hP (m_person_of hg1).1 0 (by decide) rfl k_f_X1_137 dX1_debtToHolder_6 ?_
  obtain ⟨t2, et2, hres⟩ := m_bd_e hres
  refine m_ti et2 ?_
  refine lv_istore_n (lv' := [(2, .int t2), (0, .ref (m_ad G 45)), (1, .int x1)]) X.1 X.2.1 dX1_debtToHolder_9 rfl hl (by decide) rfl (fun ls hl => ?_)
  refine lv_iload_n X.1 X.2.1 dX1_debtToHolder_10 rfl (lv_at hl 0 rfl) ?_
  refine lv_iconst (v := (-1)) X.1 X.2.1 dX1_debtToHolder_11 (by decide) ?_
  refine lv_icmp_ne (tgt := 19) X.1 X.2.1 dX1_debtToHolder_12 (by decide) (fun hc3 => ?_) (fun hc3 => ?_)
  · have hres := m_if hres hc3
    refine lv_aload_n X.1 X.2.1 dX1_debtToHolder_19 rfl (lv_at hl 1 rfl) ?_
    refine m_g1 (v := .ref (m_ad G 46)) X hSt hP m_z_45 1 (by decide) rfl k_f_X1_11 dX1_debtToHolder_20 ?_
    refine lv_iload_n X.1 X.2.1 dX1_debtToHolder_23 rfl (lv_at hl 2 rfl) ?_
    refine m_qa6 (j := x1.toNatClampNeg) X hSt hP m_z_46 hg1 rfl dX1_debtToHolder_24 ?_
    refine lv_iload_n X.1 X.2.1 dX1_debtToHolder_25 rfl (lv_at hl 0 rfl) ?_
    obtain ⟨r4, err4, hres⟩ := m_ob_e hres
    refine m_bi (m_cV (n := 1) (As := [.int t2]) (rest := []) X hSt hP hS hl.1 (c_X5_debtTo l G (m_person_of hg1) err4) k_c_yX5_debtTo k_m_X1_134 k_i_yX5_debtTo k_s_yX5_debtTo k_n_X5 (by decide +kernel) (m_rc5 hSt hP (m_person_of hg1).1) rfl rfl ⟨Nat.le_of_ble_eq_true rfl, Nat.le_of_ble_eq_true rfl⟩ (Nat.le_of_ble_eq_true rfl) ⟨Nat.zero_le _, Nat.zero_le _⟩ dX1_debtToHolder_26) hS (fun H locs hP hS => ?_)
    exact m_ri X hr hlk hP hS (Option.some.inj hres) rfl dX1_debtToHolder_29
  · have hres := m_it hres hc3
    refine lv_iconst (v := 0) X.1 X.2.1 dX1_debtToHolder_15 (by decide) ?_
    refine lv_goto (tgt := 29) X.1 X.2.1 dX1_debtToHolder_16 (by decide) ?_
    exact m_ri X hr hlk hP hS (Option.some.inj hres) rfl dX1_debtToHolder_29
theorem dX1_debtToFellows_0 : decode cX1_debtToFellows 0 = .ok (.aload_n 0, 1) := by decide +kernel
theorem dX1_debtToFellows_1 : decode cX1_debtToFellows 1 = .ok (.getfield 11, 3) := by decide +kernel
theorem dX1_debtToFellows_4 : decode cX1_debtToFellows 4 = .ok (.iload_n 1, 1) := by decide +kernel
theorem dX1_debtToFellows_5 : decode cX1_debtToFellows 5 = .ok (.aaload, 1) := by decide +kernel
theorem dX1_debtToFellows_6 : decode cX1_debtToFellows 6 = .ok (.getfield 137, 3) := by decide +kernel
theorem dX1_debtToFellows_9 : decode cX1_debtToFellows 9 = .ok (.istore_n 2, 1) := by decide +kernel
theorem dX1_debtToFellows_10 : decode cX1_debtToFellows 10 = .ok (.iconst 0, 1) := by decide +kernel
theorem dX1_debtToFellows_11 : decode cX1_debtToFellows 11 = .ok (.istore_n 3, 1) := by decide +kernel
theorem dX1_debtToFellows_12 : decode cX1_debtToFellows 12 = .ok (.iconst 0, 1) := by decide +kernel
theorem dX1_debtToFellows_13 : decode cX1_debtToFellows 13 = .ok (.istore 4, 2) := by decide +kernel
theorem dX1_debtToFellows_15 : decode cX1_debtToFellows 15 = .ok (.iload_n 2, 1) := by decide +kernel
theorem dX1_debtToFellows_16 : decode cX1_debtToFellows 16 = .ok (.iconst (-1), 1) := by decide +kernel
theorem dX1_debtToFellows_17 : decode cX1_debtToFellows 17 = .ok (.if_icmp .eq 55, 3) := by decide +kernel
theorem dX1_debtToFellows_20 : decode cX1_debtToFellows 20 = .ok (.iload 4, 2) := by decide +kernel
theorem dX1_debtToFellows_22 : decode cX1_debtToFellows 22 = .ok (.aload_n 0, 1) := by decide +kernel
theorem dX1_debtToFellows_23 : decode cX1_debtToFellows 23 = .ok (.getfield 27, 3) := by decide +kernel
theorem dX1_debtToFellows_26 : decode cX1_debtToFellows 26 = .ok (.getfield 150, 3) := by decide +kernel
theorem dX1_debtToFellows_29 : decode cX1_debtToFellows 29 = .ok (.if_icmp .ge 43, 3) := by decide +kernel
theorem dX1_debtToFellows_32 : decode cX1_debtToFellows 32 = .ok (.iload 4, 2) := by decide +kernel
theorem dX1_debtToFellows_34 : decode cX1_debtToFellows 34 = .ok (.iload_n 1, 1) := by decide +kernel
theorem dX1_debtToFellows_35 : decode cX1_debtToFellows 35 = .ok (.if_icmp .eq 31, 3) := by decide +kernel
theorem dX1_debtToFellows_38 : decode cX1_debtToFellows 38 = .ok (.aload_n 0, 1) := by decide +kernel
theorem dX1_debtToFellows_39 : decode cX1_debtToFellows 39 = .ok (.getfield 11, 3) := by decide +kernel
theorem dX1_debtToFellows_42 : decode cX1_debtToFellows 42 = .ok (.iload 4, 2) := by decide +kernel
theorem dX1_debtToFellows_44 : decode cX1_debtToFellows 44 = .ok (.aaload, 1) := by decide +kernel
theorem dX1_debtToFellows_45 : decode cX1_debtToFellows 45 = .ok (.getfield 137, 3) := by decide +kernel
theorem dX1_debtToFellows_48 : decode cX1_debtToFellows 48 = .ok (.iload_n 2, 1) := by decide +kernel
theorem dX1_debtToFellows_49 : decode cX1_debtToFellows 49 = .ok (.if_icmp .ne 17, 3) := by decide +kernel
theorem dX1_debtToFellows_52 : decode cX1_debtToFellows 52 = .ok (.iload_n 3, 1) := by decide +kernel
theorem dX1_debtToFellows_53 : decode cX1_debtToFellows 53 = .ok (.aload_n 0, 1) := by decide +kernel
theorem dX1_debtToFellows_54 : decode cX1_debtToFellows 54 = .ok (.getfield 11, 3) := by decide +kernel
theorem dX1_debtToFellows_57 : decode cX1_debtToFellows 57 = .ok (.iload_n 1, 1) := by decide +kernel
theorem dX1_debtToFellows_58 : decode cX1_debtToFellows 58 = .ok (.aaload, 1) := by decide +kernel
theorem dX1_debtToFellows_59 : decode cX1_debtToFellows 59 = .ok (.iload 4, 2) := by decide +kernel
theorem dX1_debtToFellows_61 : decode cX1_debtToFellows 61 = .ok (.invokevirtual 134, 3) := by decide +kernel
theorem dX1_debtToFellows_64 : decode cX1_debtToFellows 64 = .ok (.iadd, 1) := by decide +kernel
theorem dX1_debtToFellows_65 : decode cX1_debtToFellows 65 = .ok (.istore_n 3, 1) := by decide +kernel
theorem dX1_debtToFellows_66 : decode cX1_debtToFellows 66 = .ok (.iinc 4 1, 3) := by decide +kernel
theorem dX1_debtToFellows_69 : decode cX1_debtToFellows 69 = .ok (.goto (-54), 3) := by decide +kernel
theorem dX1_debtToFellows_72 : decode cX1_debtToFellows 72 = .ok (.iload_n 3, 1) := by decide +kernel
theorem dX1_debtToFellows_73 : decode cX1_debtToFellows 73 = .ok (.ireturn, 1) := by decide +kernel
def f_X1_debtToFellows_b15 (n : Nat) (x1 : Int32) (M : m_M) : Nat → Int32 → Int32 → Int32 → Option Int32
  | 0, _, _, _ => none
  | u + 1, x2, x3, x4 =>
    if x2 = (-1) then
  some x3
  else
  if (M.1 1 0) ≤ x4 then
  some x3
  else
  if x4 = x1 then
  f_X1_debtToFellows_b15 n x1 M u x2 x3 (x4 + 1)
  else
  m_gd (m_in x4 10) (
  if (M.1 (49 + 5 * x4.toNatClampNeg) 0) = x2 then
  m_gd (m_in x1 10) (
  m_ob (f_X5_debtTo (49 + 5 * x1.toNatClampNeg) x4 M) fun r7 =>
  f_X1_debtToFellows_b15 n x1 M u x2 (x3 + r7) (x4 + 1))
  else
  f_X1_debtToFellows_b15 n x1 M u x2 x3 (x4 + 1))
def f_X1_debtToFellows (n : Nat) (x1 : Int32) (M : m_M) : Option Int32 :=
  m_gd (m_in x1 10) (
  m_bd (M.1 (49 + 5 * x1.toNatClampNeg) 0) fun t9 =>
  f_X1_debtToFellows_b15 n x1 M n t9 0 0)
set_option maxHeartbeats 4000000 in
set_option maxRecDepth 100000 in
theorem c_X1_debtToFellows (l : Launch) (G : m_G) {n : Nat} {x1 : Int32} {M : m_M} {r0 : Int32}  (hres : f_X1_debtToFellows n x1 M = some r0) : Met l yX1_debtToFellows (m_U yX1_debtToFellows cX1_debtToFellows 5 (some .int)) (m_R 2 51) (m_Pc G [.ref (m_ad G 45), .int x1] M) (m_Qi G r0 M) 0 0 (m_A G) := by
  refine m_i0 (n := 5) RX1 rfl (by decide) (Nat.le_of_ble_eq_true rfl) ?_
  intro p e s m args below meth c X hr hlk hSt hP hS ls hl
  have hl : lv_has ls 5 [(0, .ref (m_ad G 45)), (1, .int x1)] := hl
  have B15 : ∀ (u : Nat) (x2 : Int32) (x3 : Int32) (x4 : Int32) (H : Heap) (locs : List Loc) (ls : Array Slot), m_P G M H → va_S (m_A G) s.heap H locs → lv_has ls 5 [(0, .ref (m_ad G 45)), (1, .int x1), (2, .int x2), (3, .int x3), (4, .int x4)] → f_X1_debtToFellows_b15 n x1 M u x2 x3 x4 = some r0 → W p l e (m_R 2 51) s m args below meth c H locs 0 0 (MQ below (m_Qi G r0 M) args s 0 0 (m_A G)) (F0 m 15 ls []) := by
    intro u
    induction u with
    | zero =>
      intro x2 x3 x4 H locs ls hP hS hl hres
      cases hres
    | succ u ih =>
      intro x2 x3 x4 H locs ls hP hS hl hres
      rw [f_X1_debtToFellows_b15] at hres
      refine lv_iload_n X.1 X.2.1 dX1_debtToFellows_15 rfl (lv_at hl 2 rfl) ?_
      refine lv_iconst (v := (-1)) X.1 X.2.1 dX1_debtToFellows_16 (by decide) ?_
      refine lv_icmp_eq (tgt := 72) X.1 X.2.1 dX1_debtToFellows_17 (by decide) (fun hc1 => ?_) (fun hc1 => ?_)
      · have hres := m_it hres hc1
        refine lv_iload_n X.1 X.2.1 dX1_debtToFellows_72 rfl (lv_at hl 3 rfl) ?_
        exact m_ri X hr hlk hP hS (Option.some.inj hres) rfl dX1_debtToFellows_73
      · have hres := m_if hres hc1
        refine lv_iload X.1 X.2.1 dX1_debtToFellows_20 (lv_at hl 4 rfl) ?_
        refine lv_aload_n X.1 X.2.1 dX1_debtToFellows_22 rfl (lv_at hl 0 rfl) ?_
        refine m_g1 (v := .ref (m_ad G 1)) X hSt hP m_z_45 0 (by decide) rfl k_f_X1_27 dX1_debtToFellows_23 ?_
        refine m_g3 (v := .int (M.1 1 0)) X hSt hP m_kept_0.1 0 (by decide) rfl k_f_X1_150 dX1_debtToFellows_26 ?_
        refine lv_icmp_ge (tgt := 72) X.1 X.2.1 dX1_debtToFellows_29 (by decide) (fun hc2 => ?_) (fun hc2 => ?_)
        · have hres := m_it hres hc2
          refine lv_iload_n X.1 X.2.1 dX1_debtToFellows_72 rfl (lv_at hl 3 rfl) ?_
          exact m_ri X hr hlk hP hS (Option.some.inj hres) rfl dX1_debtToFellows_73
        · have hres := m_if hres hc2
          refine lv_iload X.1 X.2.1 dX1_debtToFellows_32 (lv_at hl 4 rfl) ?_
          refine lv_iload_n X.1 X.2.1 dX1_debtToFellows_34 rfl (lv_at hl 1 rfl) ?_
          refine lv_icmp_eq (tgt := 66) X.1 X.2.1 dX1_debtToFellows_35 (by decide) (fun hc3 => ?_) (fun hc3 => ?_)
          · have hres := m_it hres hc3
            refine lv_iinc (v := (x4 + 1)) (lv' := [(4, .int (x4 + 1)), (0, .ref (m_ad G 45)), (1, .int x1), (2, .int x2), (3, .int x3)]) X.1 X.2.1 dX1_debtToFellows_66 hl (k := 4) rfl rfl (by decide) rfl (fun ls hl => ?_)
            refine lv_goto (tgt := 15) X.1 X.2.1 dX1_debtToFellows_69 (by decide) ?_
            exact ih x2 x3 (x4 + 1) _ _ _ hP hS (lv_sub hl [1, 2, 3, 4, 0] rfl) hres
          · have hres := m_if hres hc3
            refine lv_aload_n X.1 X.2.1 dX1_debtToFellows_38 rfl (lv_at hl 0 rfl) ?_
            refine m_g1 (v := .ref (m_ad G 46)) X hSt hP m_z_45 1 (by decide) rfl k_f_X1_11 dX1_debtToFellows_39 ?_
            refine lv_iload X.1 X.2.1 dX1_debtToFellows_42 (lv_at hl 4 rfl) ?_
            obtain ⟨hg4, hres⟩ := m_gd_e hres
            refine m_qa6 (j := x4.toNatClampNeg) X hSt hP m_z_46 hg4 rfl dX1_debtToFellows_44 ?_
            refine m_g5 (v := .int (M.1 (49 + 5 * x4.toNatClampNeg) 0)) X hSt hP (m_person_of hg4).1 0 (by decide) rfl k_f_X1_137 dX1_debtToFellows_45 ?_
            refine lv_iload_n X.1 X.2.1 dX1_debtToFellows_48 rfl (lv_at hl 2 rfl) ?_
            refine lv_icmp_ne (tgt := 66) X.1 X.2.1 dX1_debtToFellows_49 (by decide) (fun hc5 => ?_) (fun hc5 => ?_)
            · have hres := m_if hres hc5
              refine lv_iinc (v := (x4 + 1)) (lv' := [(4, .int (x4 + 1)), (0, .ref (m_ad G 45)), (1, .int x1), (2, .int x2), (3, .int x3)]) X.1 X.2.1 dX1_debtToFellows_66 hl (k := 4) rfl rfl (by decide) rfl (fun ls hl => ?_)
              refine lv_goto (tgt := 15) X.1 X.2.1 dX1_debtToFellows_69 (by decide) ?_
              exact ih x2 x3 (x4 + 1) _ _ _ hP hS (lv_sub hl [1, 2, 3, 4, 0] rfl) hres
            · have hres := m_it hres hc5
              refine lv_iload_n X.1 X.2.1 dX1_debtToFellows_52 rfl (lv_at hl 3 rfl) ?_
              refine lv_aload_n X.1 X.2.1 dX1_debtToFellows_53 rfl (lv_at hl 0 rfl) ?_
              refine m_g1 (v := .ref (m_ad G 46)) X hSt hP m_z_45 1 (by decide) rfl k_f_X1_11 dX1_debtToFellows_54 ?_
              refine lv_iload_n X.1 X.2.1 dX1_debtToFellows_57 rfl (lv_at hl 1 rfl) ?_
              obtain ⟨hg6, hres⟩ := m_gd_e hres
              refine m_qa6 (j := x1.toNatClampNeg) X hSt hP m_z_46 hg6 rfl dX1_debtToFellows_58 ?_
              refine lv_iload X.1 X.2.1 dX1_debtToFellows_59 (lv_at hl 4 rfl) ?_
              obtain ⟨r7, err7, hres⟩ := m_ob_e hres
              refine m_bi (m_cV (n := 1) (As := [.int x4]) (rest := [.int x3]) X hSt hP hS hl.1 (c_X5_debtTo l G (m_person_of hg6) err7) k_c_yX5_debtTo k_m_X1_134 k_i_yX5_debtTo k_s_yX5_debtTo k_n_X5 (by decide +kernel) (m_rc5 hSt hP (m_person_of hg6).1) rfl rfl ⟨Nat.le_of_ble_eq_true rfl, Nat.le_of_ble_eq_true rfl⟩ (Nat.le_of_ble_eq_true rfl) ⟨Nat.zero_le _, Nat.zero_le _⟩ dX1_debtToFellows_61) hS (fun H locs hP hS => ?_)
              refine lv_iadd X.1 X.2.1 dX1_debtToFellows_64 ?_
              refine lv_istore_n (lv' := [(3, .int (x3 + r7)), (0, .ref (m_ad G 45)), (1, .int x1), (2, .int x2), (4, .int x4)]) X.1 X.2.1 dX1_debtToFellows_65 rfl hl (by decide) rfl (fun ls hl => ?_)
              refine lv_iinc (v := (x4 + 1)) (lv' := [(4, .int (x4 + 1)), (3, .int (x3 + r7)), (0, .ref (m_ad G 45)), (1, .int x1), (2, .int x2)]) X.1 X.2.1 dX1_debtToFellows_66 hl (k := 4) rfl rfl (by decide) rfl (fun ls hl => ?_)
              refine lv_goto (tgt := 15) X.1 X.2.1 dX1_debtToFellows_69 (by decide) ?_
              exact ih x2 (x3 + r7) (x4 + 1) _ _ _ hP hS (lv_sub hl [2, 3, 4, 1, 0] rfl) hres
  unfold f_X1_debtToFellows at hres
  refine lv_aload_n X.1 X.2.1 dX1_debtToFellows_0 rfl (lv_at hl 0 rfl) ?_
  refine m_g1 (v := .ref (m_ad G 46)) X hSt hP m_z_45 1 (by decide) rfl k_f_X1_11 dX1_debtToFellows_1 ?_
  refine lv_iload_n X.1 X.2.1 dX1_debtToFellows_4 rfl (lv_at hl 1 rfl) ?_
  obtain ⟨hg8, hres⟩ := m_gd_e hres
  refine m_qa6 (j := x1.toNatClampNeg) X hSt hP m_z_46 hg8 rfl dX1_debtToFellows_5 ?_
  refine m_g5 (v := .int (M.1 (49 + 5 * x1.toNatClampNeg) 0)) X hSt hP (m_person_of hg8).1 0 (by decide) rfl k_f_X1_137 dX1_debtToFellows_6 ?_
  obtain ⟨t9, et9, hres⟩ := m_bd_e hres
  refine m_ti et9 ?_
  refine lv_istore_n (lv' := [(2, .int t9), (0, .ref (m_ad G 45)), (1, .int x1)]) X.1 X.2.1 dX1_debtToFellows_9 rfl hl (by decide) rfl (fun ls hl => ?_)
  refine lv_iconst (v := 0) X.1 X.2.1 dX1_debtToFellows_10 (by decide) ?_
  refine lv_istore_n (lv' := [(3, .int 0), (2, .int t9), (0, .ref (m_ad G 45)), (1, .int x1)]) X.1 X.2.1 dX1_debtToFellows_11 rfl hl (by decide) rfl (fun ls hl => ?_)
  refine lv_iconst (v := 0) X.1 X.2.1 dX1_debtToFellows_12 (by decide) ?_
  refine lv_istore (lv' := [(4, .int 0), (3, .int 0), (2, .int t9), (0, .ref (m_ad G 45)), (1, .int x1)]) X.1 X.2.1 dX1_debtToFellows_13 hl (by decide) rfl (fun ls hl => ?_)
  exact B15 n t9 0 0 _ _ _ hP hS (lv_sub hl [3, 4, 2, 1, 0] rfl) hres
theorem dX4_join_0 : decode cX4_join 0 = .ok (.iload_n 0, 1) := by decide +kernel
theorem dX4_join_1 : decode cX4_join 1 = .ok (.tableswitch 195 38 62 #[177, 195, 195, 195, 123, 115, 195, 119, 195, 127, 195, 195, 195, 195, 195, 195, 195, 195, 195, 195, 195, 195, 141, 165, 153], 115) := by decide +kernel
theorem dX4_join_116 : decode cX4_join 116 = .ok (.lload_n 1, 1) := by decide +kernel
theorem dX4_join_117 : decode cX4_join 117 = .ok (.lload_n 3, 1) := by decide +kernel
theorem dX4_join_118 : decode cX4_join 118 = .ok (.ladd, 1) := by decide +kernel
theorem dX4_join_119 : decode cX4_join 119 = .ok (.lreturn, 1) := by decide +kernel
theorem dX4_join_120 : decode cX4_join 120 = .ok (.lload_n 1, 1) := by decide +kernel
theorem dX4_join_121 : decode cX4_join 121 = .ok (.lload_n 3, 1) := by decide +kernel
theorem dX4_join_122 : decode cX4_join 122 = .ok (.lsub, 1) := by decide +kernel
theorem dX4_join_123 : decode cX4_join 123 = .ok (.lreturn, 1) := by decide +kernel
theorem dX4_join_124 : decode cX4_join 124 = .ok (.lload_n 1, 1) := by decide +kernel
theorem dX4_join_125 : decode cX4_join 125 = .ok (.lload_n 3, 1) := by decide +kernel
theorem dX4_join_126 : decode cX4_join 126 = .ok (.lmul, 1) := by decide +kernel
theorem dX4_join_127 : decode cX4_join 127 = .ok (.lreturn, 1) := by decide +kernel
theorem dX4_join_128 : decode cX4_join 128 = .ok (.lload_n 3, 1) := by decide +kernel
theorem dX4_join_129 : decode cX4_join 129 = .ok (.lconst 0, 1) := by decide +kernel
theorem dX4_join_130 : decode cX4_join 130 = .ok (.lcmp, 1) := by decide +kernel
theorem dX4_join_131 : decode cX4_join 131 = .ok (.ifCond .ne 7, 3) := by decide +kernel
theorem dX4_join_134 : decode cX4_join 134 = .ok (.lconst 0, 1) := by decide +kernel
theorem dX4_join_135 : decode cX4_join 135 = .ok (.goto 6, 3) := by decide +kernel
theorem dX4_join_138 : decode cX4_join 138 = .ok (.lload_n 1, 1) := by decide +kernel
theorem dX4_join_139 : decode cX4_join 139 = .ok (.lload_n 3, 1) := by decide +kernel
theorem dX4_join_140 : decode cX4_join 140 = .ok (.ldiv, 1) := by decide +kernel
theorem dX4_join_141 : decode cX4_join 141 = .ok (.lreturn, 1) := by decide +kernel
theorem dX4_join_142 : decode cX4_join 142 = .ok (.lload_n 1, 1) := by decide +kernel
theorem dX4_join_143 : decode cX4_join 143 = .ok (.lload_n 3, 1) := by decide +kernel
theorem dX4_join_144 : decode cX4_join 144 = .ok (.lcmp, 1) := by decide +kernel
theorem dX4_join_145 : decode cX4_join 145 = .ok (.ifCond .ge 7, 3) := by decide +kernel
theorem dX4_join_148 : decode cX4_join 148 = .ok (.lconst 1, 1) := by decide +kernel
theorem dX4_join_149 : decode cX4_join 149 = .ok (.goto 4, 3) := by decide +kernel
theorem dX4_join_152 : decode cX4_join 152 = .ok (.lconst 0, 1) := by decide +kernel
theorem dX4_join_153 : decode cX4_join 153 = .ok (.lreturn, 1) := by decide +kernel
theorem dX4_join_154 : decode cX4_join 154 = .ok (.lload_n 1, 1) := by decide +kernel
theorem dX4_join_155 : decode cX4_join 155 = .ok (.lload_n 3, 1) := by decide +kernel
theorem dX4_join_156 : decode cX4_join 156 = .ok (.lcmp, 1) := by decide +kernel
theorem dX4_join_157 : decode cX4_join 157 = .ok (.ifCond .le 7, 3) := by decide +kernel
theorem dX4_join_160 : decode cX4_join 160 = .ok (.lconst 1, 1) := by decide +kernel
theorem dX4_join_161 : decode cX4_join 161 = .ok (.goto 4, 3) := by decide +kernel
theorem dX4_join_164 : decode cX4_join 164 = .ok (.lconst 0, 1) := by decide +kernel
theorem dX4_join_165 : decode cX4_join 165 = .ok (.lreturn, 1) := by decide +kernel
theorem dX4_join_166 : decode cX4_join 166 = .ok (.lload_n 1, 1) := by decide +kernel
theorem dX4_join_167 : decode cX4_join 167 = .ok (.lload_n 3, 1) := by decide +kernel
theorem dX4_join_168 : decode cX4_join 168 = .ok (.lcmp, 1) := by decide +kernel
theorem dX4_join_169 : decode cX4_join 169 = .ok (.ifCond .ne 7, 3) := by decide +kernel
theorem dX4_join_172 : decode cX4_join 172 = .ok (.lconst 1, 1) := by decide +kernel
theorem dX4_join_173 : decode cX4_join 173 = .ok (.goto 4, 3) := by decide +kernel
theorem dX4_join_176 : decode cX4_join 176 = .ok (.lconst 0, 1) := by decide +kernel
theorem dX4_join_177 : decode cX4_join 177 = .ok (.lreturn, 1) := by decide +kernel
theorem dX4_join_178 : decode cX4_join 178 = .ok (.lload_n 1, 1) := by decide +kernel
theorem dX4_join_179 : decode cX4_join 179 = .ok (.lconst 0, 1) := by decide +kernel
theorem dX4_join_180 : decode cX4_join 180 = .ok (.lcmp, 1) := by decide +kernel
theorem dX4_join_181 : decode cX4_join 181 = .ok (.ifCond .eq 13, 3) := by decide +kernel
theorem dX4_join_184 : decode cX4_join 184 = .ok (.lload_n 3, 1) := by decide +kernel
theorem dX4_join_185 : decode cX4_join 185 = .ok (.lconst 0, 1) := by decide +kernel
theorem dX4_join_186 : decode cX4_join 186 = .ok (.lcmp, 1) := by decide +kernel
theorem dX4_join_187 : decode cX4_join 187 = .ok (.ifCond .eq 7, 3) := by decide +kernel
theorem dX4_join_190 : decode cX4_join 190 = .ok (.lconst 1, 1) := by decide +kernel
theorem dX4_join_191 : decode cX4_join 191 = .ok (.goto 4, 3) := by decide +kernel
theorem dX4_join_194 : decode cX4_join 194 = .ok (.lconst 0, 1) := by decide +kernel
theorem dX4_join_195 : decode cX4_join 195 = .ok (.lreturn, 1) := by decide +kernel
theorem dX4_join_196 : decode cX4_join 196 = .ok (.lload_n 1, 1) := by decide +kernel
theorem dX4_join_197 : decode cX4_join 197 = .ok (.lconst 0, 1) := by decide +kernel
theorem dX4_join_198 : decode cX4_join 198 = .ok (.lcmp, 1) := by decide +kernel
theorem dX4_join_199 : decode cX4_join 199 = .ok (.ifCond .ne 9, 3) := by decide +kernel
theorem dX4_join_202 : decode cX4_join 202 = .ok (.lload_n 3, 1) := by decide +kernel
theorem dX4_join_203 : decode cX4_join 203 = .ok (.lconst 0, 1) := by decide +kernel
theorem dX4_join_204 : decode cX4_join 204 = .ok (.lcmp, 1) := by decide +kernel
theorem dX4_join_205 : decode cX4_join 205 = .ok (.ifCond .eq 7, 3) := by decide +kernel
theorem dX4_join_208 : decode cX4_join 208 = .ok (.lconst 1, 1) := by decide +kernel
theorem dX4_join_209 : decode cX4_join 209 = .ok (.goto 4, 3) := by decide +kernel
theorem dX4_join_212 : decode cX4_join 212 = .ok (.lconst 0, 1) := by decide +kernel
theorem dX4_join_213 : decode cX4_join 213 = .ok (.lreturn, 1) := by decide +kernel
def f_X4_join (x0 : Int32) (x1 : Int64) (x3 : Int64) : Option Int64 :=
  if x0 = 38 then
  if x1 = 0 then
  some 0
  else
  if x3 = 0 then
  some 0
  else
  some 1
  else
  if x0 = 42 then
  some (x1 * x3)
  else
  if x0 = 43 then
  some (x1 + x3)
  else
  if x0 = 45 then
  some (x1 - x3)
  else
  if x0 = 47 then
  if x3 = 0 then
  some 0
  else
  m_gd (¬ x3 = 0) (
  some (x1 / x3))
  else
  if x0 = 60 then
  if x3 ≤ x1 then
  some 0
  else
  some 1
  else
  if x0 = 61 then
  if x1 = x3 then
  some 1
  else
  some 0
  else
  if x0 = 62 then
  if x1 ≤ x3 then
  some 0
  else
  some 1
  else
  if x1 = 0 then
  if x3 = 0 then
  some 0
  else
  some 1
  else
  some 1
set_option maxHeartbeats 4000000 in
set_option maxRecDepth 100000 in
theorem c_X4_join (l : Launch) (G : m_G) {x0 : Int32} {x1 : Int64} {x3 : Int64} {M : m_M} {r0 : Int64}  (hres : f_X4_join x0 x1 x3 = some r0) : Met l yX4_join (m_U yX4_join cX4_join 5 (some .long)) (m_R 0 0) (m_Pc G [.int x0, .long x1, .long x3] M) (m_Ql G r0 M) 0 0 (m_A G) := by
  refine m_i0 (n := 5) RX4 rfl (by decide) (Nat.le_of_ble_eq_true rfl) ?_
  intro p e s m args below meth c X hr hlk hSt hP hS ls hl
  have hl : lv_has ls 5 [(0, .int x0), (1, .long x1), (3, .long x3)] := hl
  unfold f_X4_join at hres
  refine lv_iload_n X.1 X.2.1 dX4_join_0 rfl (lv_at hl 0 rfl) ?_
  by_cases hc1 : x0 = 38
  · have hres := m_it hres hc1
    refine m_tin (tgt := 178) X dX4_join_1 ⟨_, hc1, by decide, by decide, rfl⟩ (by decide) ?_
    refine lv_lload_n X.1 X.2.1 dX4_join_178 rfl (lv_at hl 1 rfl) ?_
    refine lv_lconst (v := 0) X.1 X.2.1 dX4_join_179 (by decide) ?_
    refine m_leq (tgt := 194) X dX4_join_180 dX4_join_181 (by decide) (fun hc2 => ?_) (fun hc2 => ?_)
    · have hres := m_it hres hc2
      refine lv_lconst (v := 0) X.1 X.2.1 dX4_join_194 (by decide) ?_
      exact m_rl X hr hlk hP hS (Option.some.inj hres) rfl dX4_join_195
    · have hres := m_if hres hc2
      refine lv_lload_n X.1 X.2.1 dX4_join_184 rfl (lv_at hl 2 rfl) ?_
      refine lv_lconst (v := 0) X.1 X.2.1 dX4_join_185 (by decide) ?_
      refine m_leq (tgt := 194) X dX4_join_186 dX4_join_187 (by decide) (fun hc3 => ?_) (fun hc3 => ?_)
      · have hres := m_it hres hc3
        refine lv_lconst (v := 0) X.1 X.2.1 dX4_join_194 (by decide) ?_
        exact m_rl X hr hlk hP hS (Option.some.inj hres) rfl dX4_join_195
      · have hres := m_if hres hc3
        refine lv_lconst (v := 1) X.1 X.2.1 dX4_join_190 (by decide) ?_
        refine lv_goto (tgt := 195) X.1 X.2.1 dX4_join_191 (by decide) ?_
        exact m_rl X hr hlk hP hS (Option.some.inj hres) rfl dX4_join_195
  · have hres := m_if hres hc1
    by_cases hc4 : x0 = 42
    · have hres := m_it hres hc4
      refine m_tin (tgt := 124) X dX4_join_1 ⟨_, hc4, by decide, by decide, rfl⟩ (by decide) ?_
      refine lv_lload_n X.1 X.2.1 dX4_join_124 rfl (lv_at hl 1 rfl) ?_
      refine lv_lload_n X.1 X.2.1 dX4_join_125 rfl (lv_at hl 2 rfl) ?_
      refine lv_lmul X.1 X.2.1 dX4_join_126 ?_
      exact m_rl X hr hlk hP hS (Option.some.inj hres) rfl dX4_join_127
    · have hres := m_if hres hc4
      by_cases hc5 : x0 = 43
      · have hres := m_it hres hc5
        refine m_tin (tgt := 116) X dX4_join_1 ⟨_, hc5, by decide, by decide, rfl⟩ (by decide) ?_
        refine lv_lload_n X.1 X.2.1 dX4_join_116 rfl (lv_at hl 1 rfl) ?_
        refine lv_lload_n X.1 X.2.1 dX4_join_117 rfl (lv_at hl 2 rfl) ?_
        refine lv_ladd X.1 X.2.1 dX4_join_118 ?_
        exact m_rl X hr hlk hP hS (Option.some.inj hres) rfl dX4_join_119
      · have hres := m_if hres hc5
        by_cases hc6 : x0 = 45
        · have hres := m_it hres hc6
          refine m_tin (tgt := 120) X dX4_join_1 ⟨_, hc6, by decide, by decide, rfl⟩ (by decide) ?_
          refine lv_lload_n X.1 X.2.1 dX4_join_120 rfl (lv_at hl 1 rfl) ?_
          refine lv_lload_n X.1 X.2.1 dX4_join_121 rfl (lv_at hl 2 rfl) ?_
          refine lv_lsub X.1 X.2.1 dX4_join_122 ?_
          exact m_rl X hr hlk hP hS (Option.some.inj hres) rfl dX4_join_123
        · have hres := m_if hres hc6
          by_cases hc7 : x0 = 47
          · have hres := m_it hres hc7
            refine m_tin (tgt := 128) X dX4_join_1 ⟨_, hc7, by decide, by decide, rfl⟩ (by decide) ?_
            refine lv_lload_n X.1 X.2.1 dX4_join_128 rfl (lv_at hl 2 rfl) ?_
            refine lv_lconst (v := 0) X.1 X.2.1 dX4_join_129 (by decide) ?_
            refine m_lne (tgt := 138) X dX4_join_130 dX4_join_131 (by decide) (fun hc8 => ?_) (fun hc8 => ?_)
            · have hres := m_if hres hc8
              refine lv_lload_n X.1 X.2.1 dX4_join_138 rfl (lv_at hl 1 rfl) ?_
              refine lv_lload_n X.1 X.2.1 dX4_join_139 rfl (lv_at hl 2 rfl) ?_
              obtain ⟨hg9, hres⟩ := m_gd_e hres
              refine lv_ldiv X.1 X.2.1 dX4_join_140 hg9 ?_
              exact m_rl X hr hlk hP hS (Option.some.inj hres) rfl dX4_join_141
            · have hres := m_it hres hc8
              refine lv_lconst (v := 0) X.1 X.2.1 dX4_join_134 (by decide) ?_
              refine lv_goto (tgt := 141) X.1 X.2.1 dX4_join_135 (by decide) ?_
              exact m_rl X hr hlk hP hS (Option.some.inj hres) rfl dX4_join_141
          · have hres := m_if hres hc7
            by_cases hc10 : x0 = 60
            · have hres := m_it hres hc10
              refine m_tin (tgt := 142) X dX4_join_1 ⟨_, hc10, by decide, by decide, rfl⟩ (by decide) ?_
              refine lv_lload_n X.1 X.2.1 dX4_join_142 rfl (lv_at hl 1 rfl) ?_
              refine lv_lload_n X.1 X.2.1 dX4_join_143 rfl (lv_at hl 2 rfl) ?_
              refine m_lge (tgt := 152) X dX4_join_144 dX4_join_145 (by decide) (fun hc11 => ?_) (fun hc11 => ?_)
              · have hres := m_it hres hc11
                refine lv_lconst (v := 0) X.1 X.2.1 dX4_join_152 (by decide) ?_
                exact m_rl X hr hlk hP hS (Option.some.inj hres) rfl dX4_join_153
              · have hres := m_if hres hc11
                refine lv_lconst (v := 1) X.1 X.2.1 dX4_join_148 (by decide) ?_
                refine lv_goto (tgt := 153) X.1 X.2.1 dX4_join_149 (by decide) ?_
                exact m_rl X hr hlk hP hS (Option.some.inj hres) rfl dX4_join_153
            · have hres := m_if hres hc10
              by_cases hc12 : x0 = 61
              · have hres := m_it hres hc12
                refine m_tin (tgt := 166) X dX4_join_1 ⟨_, hc12, by decide, by decide, rfl⟩ (by decide) ?_
                refine lv_lload_n X.1 X.2.1 dX4_join_166 rfl (lv_at hl 1 rfl) ?_
                refine lv_lload_n X.1 X.2.1 dX4_join_167 rfl (lv_at hl 2 rfl) ?_
                refine m_lne (tgt := 176) X dX4_join_168 dX4_join_169 (by decide) (fun hc13 => ?_) (fun hc13 => ?_)
                · have hres := m_if hres hc13
                  refine lv_lconst (v := 0) X.1 X.2.1 dX4_join_176 (by decide) ?_
                  exact m_rl X hr hlk hP hS (Option.some.inj hres) rfl dX4_join_177
                · have hres := m_it hres hc13
                  refine lv_lconst (v := 1) X.1 X.2.1 dX4_join_172 (by decide) ?_
                  refine lv_goto (tgt := 177) X.1 X.2.1 dX4_join_173 (by decide) ?_
                  exact m_rl X hr hlk hP hS (Option.some.inj hres) rfl dX4_join_177
              · have hres := m_if hres hc12
                by_cases hc14 : x0 = 62
                · have hres := m_it hres hc14
                  refine m_tin (tgt := 154) X dX4_join_1 ⟨_, hc14, by decide, by decide, rfl⟩ (by decide) ?_
                  refine lv_lload_n X.1 X.2.1 dX4_join_154 rfl (lv_at hl 1 rfl) ?_
                  refine lv_lload_n X.1 X.2.1 dX4_join_155 rfl (lv_at hl 2 rfl) ?_
                  refine m_lle (tgt := 164) X dX4_join_156 dX4_join_157 (by decide) (fun hc15 => ?_) (fun hc15 => ?_)
                  · have hres := m_it hres hc15
                    refine lv_lconst (v := 0) X.1 X.2.1 dX4_join_164 (by decide) ?_
                    exact m_rl X hr hlk hP hS (Option.some.inj hres) rfl dX4_join_165
                  · have hres := m_if hres hc15
                    refine lv_lconst (v := 1) X.1 X.2.1 dX4_join_160 (by decide) ?_
                    refine lv_goto (tgt := 165) X.1 X.2.1 dX4_join_161 (by decide) ?_
                    exact m_rl X hr hlk hP hS (Option.some.inj hres) rfl dX4_join_165
                · have hres := m_if hres hc14
                  refine m_tdf (tgt := 196) X dX4_join_1 (by
    by_cases hd0 : x0 = 39
    · exact Or.inr ⟨_, hd0, by decide, by decide, rfl⟩
    by_cases hd1 : x0 = 40
    · exact Or.inr ⟨_, hd1, by decide, by decide, rfl⟩
    by_cases hd2 : x0 = 41
    · exact Or.inr ⟨_, hd2, by decide, by decide, rfl⟩
    by_cases hd3 : x0 = 44
    · exact Or.inr ⟨_, hd3, by decide, by decide, rfl⟩
    by_cases hd4 : x0 = 46
    · exact Or.inr ⟨_, hd4, by decide, by decide, rfl⟩
    by_cases hd5 : x0 = 48
    · exact Or.inr ⟨_, hd5, by decide, by decide, rfl⟩
    by_cases hd6 : x0 = 49
    · exact Or.inr ⟨_, hd6, by decide, by decide, rfl⟩
    by_cases hd7 : x0 = 50
    · exact Or.inr ⟨_, hd7, by decide, by decide, rfl⟩
    by_cases hd8 : x0 = 51
    · exact Or.inr ⟨_, hd8, by decide, by decide, rfl⟩
    by_cases hd9 : x0 = 52
    · exact Or.inr ⟨_, hd9, by decide, by decide, rfl⟩
    by_cases hd10 : x0 = 53
    · exact Or.inr ⟨_, hd10, by decide, by decide, rfl⟩
    by_cases hd11 : x0 = 54
    · exact Or.inr ⟨_, hd11, by decide, by decide, rfl⟩
    by_cases hd12 : x0 = 55
    · exact Or.inr ⟨_, hd12, by decide, by decide, rfl⟩
    by_cases hd13 : x0 = 56
    · exact Or.inr ⟨_, hd13, by decide, by decide, rfl⟩
    by_cases hd14 : x0 = 57
    · exact Or.inr ⟨_, hd14, by decide, by decide, rfl⟩
    by_cases hd15 : x0 = 58
    · exact Or.inr ⟨_, hd15, by decide, by decide, rfl⟩
    by_cases hd16 : x0 = 59
    · exact Or.inr ⟨_, hd16, by decide, by decide, rfl⟩
    have := m_ne (z := 38) hc1 (by decide)
    have := m_ne (z := 42) hc4 (by decide)
    have := m_ne (z := 43) hc5 (by decide)
    have := m_ne (z := 45) hc6 (by decide)
    have := m_ne (z := 47) hc7 (by decide)
    have := m_ne (z := 60) hc10 (by decide)
    have := m_ne (z := 61) hc12 (by decide)
    have := m_ne (z := 62) hc14 (by decide)
    have := m_ne (z := 39) hd0 (by decide)
    have := m_ne (z := 40) hd1 (by decide)
    have := m_ne (z := 41) hd2 (by decide)
    have := m_ne (z := 44) hd3 (by decide)
    have := m_ne (z := 46) hd4 (by decide)
    have := m_ne (z := 48) hd5 (by decide)
    have := m_ne (z := 49) hd6 (by decide)
    have := m_ne (z := 50) hd7 (by decide)
    have := m_ne (z := 51) hd8 (by decide)
    have := m_ne (z := 52) hd9 (by decide)
    have := m_ne (z := 53) hd10 (by decide)
    have := m_ne (z := 54) hd11 (by decide)
    have := m_ne (z := 55) hd12 (by decide)
    have := m_ne (z := 56) hd13 (by decide)
    have := m_ne (z := 57) hd14 (by decide)
    have := m_ne (z := 58) hd15 (by decide)
    have := m_ne (z := 59) hd16 (by decide)
    exact Or.inl (by omega)) (by decide) ?_
                  refine lv_lload_n X.1 X.2.1 dX4_join_196 rfl (lv_at hl 1 rfl) ?_
                  refine lv_lconst (v := 0) X.1 X.2.1 dX4_join_197 (by decide) ?_
                  refine m_lne (tgt := 208) X dX4_join_198 dX4_join_199 (by decide) (fun hc16 => ?_) (fun hc16 => ?_)
                  · have hres := m_if hres hc16
                    refine lv_lconst (v := 1) X.1 X.2.1 dX4_join_208 (by decide) ?_
                    refine lv_goto (tgt := 213) X.1 X.2.1 dX4_join_209 (by decide) ?_
                    exact m_rl X hr hlk hP hS (Option.some.inj hres) rfl dX4_join_213
                  · have hres := m_it hres hc16
                    refine lv_lload_n X.1 X.2.1 dX4_join_202 rfl (lv_at hl 2 rfl) ?_
                    refine lv_lconst (v := 0) X.1 X.2.1 dX4_join_203 (by decide) ?_
                    refine m_leq (tgt := 212) X dX4_join_204 dX4_join_205 (by decide) (fun hc17 => ?_) (fun hc17 => ?_)
                    · have hres := m_it hres hc17
                      refine lv_lconst (v := 0) X.1 X.2.1 dX4_join_212 (by decide) ?_
                      exact m_rl X hr hlk hP hS (Option.some.inj hres) rfl dX4_join_213
                    · have hres := m_if hres hc17
                      refine lv_lconst (v := 1) X.1 X.2.1 dX4_join_208 (by decide) ?_
                      refine lv_goto (tgt := 213) X.1 X.2.1 dX4_join_209 (by decide) ?_
                      exact m_rl X hr hlk hP hS (Option.some.inj hres) rfl dX4_join_213
