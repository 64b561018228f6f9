/-! WALKS 6: X6_stand X6_lineUp X7_lineUp X7_net X7_note X6_take X6_isIn X6_tryAhead X6_tryOrders X7_orders X7_owed X7_own X7_part X7_parted X7_person X2_goToStart X2_skipBlanks X2_blame X2_number X2_isVerb X2_kindOf X2_verb -/
theorem dX6_stand_0 : decode cX6_stand 0 = .ok (.aload_n 3, 1) := by decide +kernel
theorem dX6_stand_1 : decode cX6_stand 1 = .ok (.getfield 63, 3) := by decide +kernel
theorem dX6_stand_4 : decode cX6_stand 4 = .ok (.iload_n 2, 1) := by decide +kernel
theorem dX6_stand_5 : decode cX6_stand 5 = .ok (.aaload, 1) := by decide +kernel
theorem dX6_stand_6 : decode cX6_stand 6 = .ok (.astore 4, 2) := by decide +kernel
theorem dX6_stand_8 : decode cX6_stand 8 = .ok (.aload_n 0, 1) := by decide +kernel
theorem dX6_stand_9 : decode cX6_stand 9 = .ok (.getfield 9, 3) := by decide +kernel
theorem dX6_stand_12 : decode cX6_stand 12 = .ok (.iload_n 1, 1) := by decide +kernel
theorem dX6_stand_13 : decode cX6_stand 13 = .ok (.aload 4, 2) := by decide +kernel
theorem dX6_stand_15 : decode cX6_stand 15 = .ok (.getfield 67, 3) := by decide +kernel
theorem dX6_stand_18 : decode cX6_stand 18 = .ok (.iastore, 1) := by decide +kernel
theorem dX6_stand_19 : decode cX6_stand 19 = .ok (.aload_n 0, 1) := by decide +kernel
theorem dX6_stand_20 : decode cX6_stand 20 = .ok (.getfield 15, 3) := by decide +kernel
theorem dX6_stand_23 : decode cX6_stand 23 = .ok (.iload_n 1, 1) := by decide +kernel
theorem dX6_stand_24 : decode cX6_stand 24 = .ok (.aload 4, 2) := by decide +kernel
theorem dX6_stand_26 : decode cX6_stand 26 = .ok (.getfield 71, 3) := by decide +kernel
theorem dX6_stand_29 : decode cX6_stand 29 = .ok (.iastore, 1) := by decide +kernel
theorem dX6_stand_30 : decode cX6_stand 30 = .ok (.aload_n 0, 1) := by decide +kernel
theorem dX6_stand_31 : decode cX6_stand 31 = .ok (.getfield 18, 3) := by decide +kernel
theorem dX6_stand_34 : decode cX6_stand 34 = .ok (.iload_n 1, 1) := by decide +kernel
theorem dX6_stand_35 : decode cX6_stand 35 = .ok (.aload 4, 2) := by decide +kernel
theorem dX6_stand_37 : decode cX6_stand 37 = .ok (.invokevirtual 73, 3) := by decide +kernel
theorem dX6_stand_40 : decode cX6_stand 40 = .ok (.iastore, 1) := by decide +kernel
theorem dX6_stand_41 : decode cX6_stand 41 = .ok (.aload_n 3, 1) := by decide +kernel
theorem dX6_stand_42 : decode cX6_stand 42 = .ok (.iload_n 2, 1) := by decide +kernel
theorem dX6_stand_43 : decode cX6_stand 43 = .ok (.invokevirtual 77, 3) := by decide +kernel
theorem dX6_stand_46 : decode cX6_stand 46 = .ok (.ifCond .eq 26, 3) := by decide +kernel
theorem dX6_stand_49 : decode cX6_stand 49 = .ok (.aload_n 0, 1) := by decide +kernel
theorem dX6_stand_50 : decode cX6_stand 50 = .ok (.getfield 21, 3) := by decide +kernel
theorem dX6_stand_53 : decode cX6_stand 53 = .ok (.iload_n 1, 1) := by decide +kernel
theorem dX6_stand_54 : decode cX6_stand 54 = .ok (.aload_n 3, 1) := by decide +kernel
theorem dX6_stand_55 : decode cX6_stand 55 = .ok (.aload 4, 2) := by decide +kernel
theorem dX6_stand_57 : decode cX6_stand 57 = .ok (.getfield 67, 3) := by decide +kernel
theorem dX6_stand_60 : decode cX6_stand 60 = .ok (.iconst 0, 1) := by decide +kernel
theorem dX6_stand_61 : decode cX6_stand 61 = .ok (.aload_n 3, 1) := by decide +kernel
theorem dX6_stand_62 : decode cX6_stand 62 = .ok (.iload_n 2, 1) := by decide +kernel
theorem dX6_stand_63 : decode cX6_stand 63 = .ok (.invokevirtual 80, 3) := by decide +kernel
theorem dX6_stand_66 : decode cX6_stand 66 = .ok (.i2l, 1) := by decide +kernel
theorem dX6_stand_67 : decode cX6_stand 67 = .ok (.lconst 0, 1) := by decide +kernel
theorem dX6_stand_68 : decode cX6_stand 68 = .ok (.invokevirtual 84, 3) := by decide +kernel
theorem dX6_stand_71 : decode cX6_stand 71 = .ok (.iastore, 1) := by decide +kernel
theorem dX6_stand_72 : decode cX6_stand 72 = .ok (.aload_n 0, 1) := by decide +kernel
theorem dX6_stand_73 : decode cX6_stand 73 = .ok (.getfield 24, 3) := by decide +kernel
theorem dX6_stand_76 : decode cX6_stand 76 = .ok (.iload_n 1, 1) := by decide +kernel
theorem dX6_stand_77 : decode cX6_stand 77 = .ok (.aload_n 3, 1) := by decide +kernel
theorem dX6_stand_78 : decode cX6_stand 78 = .ok (.getfield 88, 3) := by decide +kernel
theorem dX6_stand_81 : decode cX6_stand 81 = .ok (.aload 4, 2) := by decide +kernel
theorem dX6_stand_83 : decode cX6_stand 83 = .ok (.getfield 67, 3) := by decide +kernel
theorem dX6_stand_86 : decode cX6_stand 86 = .ok (.aaload, 1) := by decide +kernel
theorem dX6_stand_87 : decode cX6_stand 87 = .ok (.aload 4, 2) := by decide +kernel
theorem dX6_stand_89 : decode cX6_stand 89 = .ok (.getfield 71, 3) := by decide +kernel
theorem dX6_stand_92 : decode cX6_stand 92 = .ok (.invokevirtual 92, 3) := by decide +kernel
theorem dX6_stand_95 : decode cX6_stand 95 = .ok (.iastore, 1) := by decide +kernel
theorem dX6_stand_96 : decode cX6_stand 96 = .ok (.aload_n 0, 1) := by decide +kernel
theorem dX6_stand_97 : decode cX6_stand 97 = .ok (.getfield 27, 3) := by decide +kernel
theorem dX6_stand_100 : decode cX6_stand 100 = .ok (.iload_n 1, 1) := by decide +kernel
theorem dX6_stand_101 : decode cX6_stand 101 = .ok (.aload_n 3, 1) := by decide +kernel
theorem dX6_stand_102 : decode cX6_stand 102 = .ok (.aload 4, 2) := by decide +kernel
theorem dX6_stand_104 : decode cX6_stand 104 = .ok (.getfield 67, 3) := by decide +kernel
theorem dX6_stand_107 : decode cX6_stand 107 = .ok (.invokevirtual 97, 3) := by decide +kernel
theorem dX6_stand_110 : decode cX6_stand 110 = .ok (.iastore, 1) := by decide +kernel
theorem dX6_stand_111 : decode cX6_stand 111 = .ok (.aload_n 0, 1) := by decide +kernel
theorem dX6_stand_112 : decode cX6_stand 112 = .ok (.getfield 30, 3) := by decide +kernel
theorem dX6_stand_115 : decode cX6_stand 115 = .ok (.iload_n 1, 1) := by decide +kernel
theorem dX6_stand_116 : decode cX6_stand 116 = .ok (.aload 4, 2) := by decide +kernel
theorem dX6_stand_118 : decode cX6_stand 118 = .ok (.getfield 100, 3) := by decide +kernel
theorem dX6_stand_121 : decode cX6_stand 121 = .ok (.bastore, 1) := by decide +kernel
theorem dX6_stand_122 : decode cX6_stand 122 = .ok (.aload_n 0, 1) := by decide +kernel
theorem dX6_stand_123 : decode cX6_stand 123 = .ok (.getfield 34, 3) := by decide +kernel
theorem dX6_stand_126 : decode cX6_stand 126 = .ok (.iload_n 1, 1) := by decide +kernel
theorem dX6_stand_127 : decode cX6_stand 127 = .ok (.aload_n 3, 1) := by decide +kernel
theorem dX6_stand_128 : decode cX6_stand 128 = .ok (.iload_n 2, 1) := by decide +kernel
theorem dX6_stand_129 : decode cX6_stand 129 = .ok (.invokevirtual 104, 3) := by decide +kernel
theorem dX6_stand_132 : decode cX6_stand 132 = .ok (.iconst (-1), 1) := by decide +kernel
theorem dX6_stand_133 : decode cX6_stand 133 = .ok (.if_icmp .eq 7, 3) := by decide +kernel
theorem dX6_stand_136 : decode cX6_stand 136 = .ok (.iconst 1, 1) := by decide +kernel
theorem dX6_stand_137 : decode cX6_stand 137 = .ok (.goto 4, 3) := by decide +kernel
theorem dX6_stand_140 : decode cX6_stand 140 = .ok (.iconst 0, 1) := by decide +kernel
theorem dX6_stand_141 : decode cX6_stand 141 = .ok (.bastore, 1) := by decide +kernel
theorem dX6_stand_142 : decode cX6_stand 142 = .ok (.return_, 1) := by decide +kernel
def f_X6_stand_b72 (n : Nat) (x1 : Int32) (x2 : Int32) (k4 : Nat) (M : m_M) : Option m_M :=
  m_gd (m_in (M.1 k4 0) 10) (
  m_ob (f_X5_partOf (49 + 5 * ((M.1 k4 0).toNatClampNeg)) (M.1 k4 1) M) fun r2 =>
  m_gd (m_in x1 6) (
  m_bd (m_sI M 164 x1.toNatClampNeg r2) fun M4 =>
  m_ob (f_X1_debtToHolder (M4.1 k4 0) M4) fun r5 =>
  m_bd (m_sI M4 165 x1.toNatClampNeg r5) fun M6 =>
  m_gd (m_B (M6.1 k4 9)) (
  m_bd (m_sI M6 166 x1.toNatClampNeg (M6.1 k4 9)) fun M7 =>
  m_ob (f_X1_answerer x2 M7) fun r9 =>
  if r9 = (-1) then
  m_bd (m_sI M7 167 x1.toNatClampNeg 0) fun M11 =>
  some M11
  else
  m_bd (m_sI M7 167 x1.toNatClampNeg 1) fun M12 =>
  some M12)))
def f_X6_stand (n : Nat) (x1 : Int32) (x2 : Int32) (M : m_M) : Option m_M :=
  m_gd (m_in x2 60) (
  m_gd (m_in x1 6) (
  m_bd (m_sI M 160 x1.toNatClampNeg (M.1 (99 + x2.toNatClampNeg) 0)) fun M15 =>
  m_bd (m_sI M15 161 x1.toNatClampNeg (M15.1 (99 + x2.toNatClampNeg) 1)) fun M16 =>
  m_bd (f_X0_left (99 + x2.toNatClampNeg) M16) fun r17 =>
  m_bd (m_sI M16 162 x1.toNatClampNeg r17) fun M18 =>
  m_ob (f_X1_isPurseOpen x2 M18) fun r19 =>
  if r19 = 0 then
  f_X6_stand_b72 n x1 x2 (99 + x2.toNatClampNeg) M18
  else
  m_ob (f_X1_hiddenBehind x2 M18) fun r22 =>
  m_o2 (f_X1_netOf n (M18.1 (99 + x2.toNatClampNeg) 0) 0 r22.toInt64 0 M18) fun r23 M24 =>
  m_bd (m_sI M24 163 x1.toNatClampNeg r23) fun M25 =>
  f_X6_stand_b72 n x1 x2 (99 + x2.toNatClampNeg) M25))
set_option maxHeartbeats 4000000 in
set_option maxRecDepth 100000 in
theorem c_X6_stand (l : Launch) (G : m_G) {n : Nat} {x1 : Int32} {x2 : Int32} {M : m_M} {M0 : m_M}  (hres : f_X6_stand n x1 x2 M = some M0) : Met l yX6_stand (m_U yX6_stand cX6_stand 5 none) (m_R 4 101) (m_Pc G [.ref (m_ad G 159), .int x1, .int x2, .ref (m_ad G 45)] M) (m_Qv G M0) 0 0 (m_A G) := by
  refine m_i0 (n := 5) RX6 rfl (by decide) (Nat.le_of_ble_eq_true rfl) ?_
  intro p e s m args below meth c X hr hlk hSt hP hS ls hl
  have hl : lv_has ls 5 [(0, .ref (m_ad G 159)), (1, .int x1), (2, .int x2), (3, .ref (m_ad G 45))] := hl
  have B72 : ∀  (k4 : Nat) (M : m_M) (H : Heap) (locs : List Loc) (ls : Array Slot), m_P G M H → va_S (m_A G) s.heap H locs → lv_has ls 5 [(0, .ref (m_ad G 159)), (1, .int x1), (2, .int x2), (3, .ref (m_ad G 45)), (4, .ref (m_ad G k4))] → m_isDeal k4 → f_X6_stand_b72 n x1 x2 k4 M = some M0 → W p l e (m_R 4 101) s m args below meth c H locs 0 0 (MQ below (m_Qv G M0) args s 0 0 (m_A G)) (F0 m 72 ls []) := by
    intro k4 M H locs ls hP hS hl hk4 hres
    unfold f_X6_stand_b72 at hres
    refine lv_aload_n X.1 X.2.1 dX6_stand_72 rfl (lv_at hl 0 rfl) ?_
    refine m_g6 (v := .ref (m_ad G 164)) X hSt hP m_z_159 5 (by decide) rfl k_f_X6_24 dX6_stand_73 ?_
    refine lv_iload_n X.1 X.2.1 dX6_stand_76 rfl (lv_at hl 1 rfl) ?_
    refine lv_aload_n X.1 X.2.1 dX6_stand_77 rfl (lv_at hl 3 rfl) ?_
    refine m_g1 (v := .ref (m_ad G 46)) X hSt hP m_z_45 1 (by decide) rfl k_f_X6_88 dX6_stand_78 ?_
    refine lv_aload X.1 X.2.1 dX6_stand_81 (lv_at hl 4 rfl) ?_
    refine m_g0 (v := .int (M.1 k4 0)) X hSt hP hk4 0 (by decide) rfl k_f_X6_67 dX6_stand_83 ?_
    obtain ⟨hg1, hres⟩ := m_gd_e hres
    refine m_qa6 (j := ((M.1 k4 0).toNatClampNeg)) X hSt hP m_z_46 hg1 rfl dX6_stand_86 ?_
    refine lv_aload X.1 X.2.1 dX6_stand_87 (lv_at hl 4 rfl) ?_
    refine m_g0 (v := .int (M.1 k4 1)) X hSt hP hk4 1 (by decide) rfl k_f_X6_71 dX6_stand_89 ?_
    obtain ⟨r2, err2, hres⟩ := m_ob_e hres
    refine m_bi (m_cV (n := 1) (As := [.int (M.1 k4 1)]) (rest := [.int x1, .ref (m_ad G 164)]) X hSt hP hS hl.1 (c_X5_partOf l G (m_person_of hg1) err2) k_c_yX5_partOf k_m_X6_92 k_i_yX5_partOf k_s_yX5_partOf k_n_X5 (by decide +kernel) (m_rc5 hSt hP (m_person_of hg1).1) rfl rfl ⟨Nat.le_of_ble_eq_true rfl, Nat.le_of_ble_eq_true rfl⟩ (Nat.le_of_ble_eq_true rfl) ⟨Nat.zero_le _, Nat.zero_le _⟩ dX6_stand_92) hS (fun H locs hP hS => ?_)
    obtain ⟨hg3, hres⟩ := m_gd_e hres
    obtain ⟨M4, eM4, hres⟩ := m_bd_e hres
    refine m_is (j := x1.toNatClampNeg) X hSt hP hS m_z_164 hg3 rfl dX6_stand_95 eM4 (fun H locs hP hS => ?_)
    refine lv_aload_n X.1 X.2.1 dX6_stand_96 rfl (lv_at hl 0 rfl) ?_
    refine m_g6 (v := .ref (m_ad G 165)) X hSt hP m_z_159 6 (by decide) rfl k_f_X6_27 dX6_stand_97 ?_
    refine lv_iload_n X.1 X.2.1 dX6_stand_100 rfl (lv_at hl 1 rfl) ?_
    refine lv_aload_n X.1 X.2.1 dX6_stand_101 rfl (lv_at hl 3 rfl) ?_
    refine lv_aload X.1 X.2.1 dX6_stand_102 (lv_at hl 4 rfl) ?_
    refine m_g0 (v := .int (M4.1 k4 0)) X hSt hP hk4 0 (by decide) rfl k_f_X6_67 dX6_stand_104 ?_
    obtain ⟨r5, err5, hres⟩ := m_ob_e hres
    refine m_bi (m_cV (n := 1) (As := [.int (M4.1 k4 0)]) (rest := [.int x1, .ref (m_ad G 165)]) X hSt hP hS hl.1 (c_X1_debtToHolder l G  err5) k_c_yX1_debtToHolder k_m_X6_97 k_i_yX1_debtToHolder k_s_yX1_debtToHolder k_n_X1 (by decide +kernel) (m_rc1 hSt hP m_z_45) rfl rfl ⟨Nat.le_of_ble_eq_true rfl, Nat.le_of_ble_eq_true rfl⟩ (Nat.le_of_ble_eq_true rfl) ⟨Nat.zero_le _, Nat.zero_le _⟩ dX6_stand_107) hS (fun H locs hP hS => ?_)
    obtain ⟨M6, eM6, hres⟩ := m_bd_e hres
    refine m_is (j := x1.toNatClampNeg) X hSt hP hS m_z_165 hg3 rfl dX6_stand_110 eM6 (fun H locs hP hS => ?_)
    refine lv_aload_n X.1 X.2.1 dX6_stand_111 rfl (lv_at hl 0 rfl) ?_
    refine m_g6 (v := .ref (m_ad G 166)) X hSt hP m_z_159 7 (by decide) rfl k_f_X6_30 dX6_stand_112 ?_
    refine lv_iload_n X.1 X.2.1 dX6_stand_115 rfl (lv_at hl 1 rfl) ?_
    refine lv_aload X.1 X.2.1 dX6_stand_116 (lv_at hl 4 rfl) ?_
    refine m_g0 (v := .int (M6.1 k4 9)) X hSt hP hk4 9 (by decide) rfl k_f_X6_100 dX6_stand_118 ?_
    obtain ⟨hb8, hres⟩ := m_gd_e hres
    obtain ⟨M7, eM7, hres⟩ := m_bd_e hres
    refine m_zs (j := x1.toNatClampNeg) X hSt hP hS m_z_166 hg3 rfl hb8  dX6_stand_121 eM7 (fun H locs hP hS => ?_)
    refine lv_aload_n X.1 X.2.1 dX6_stand_122 rfl (lv_at hl 0 rfl) ?_
    refine m_g6 (v := .ref (m_ad G 167)) X hSt hP m_z_159 8 (by decide) rfl k_f_X6_34 dX6_stand_123 ?_
    refine lv_iload_n X.1 X.2.1 dX6_stand_126 rfl (lv_at hl 1 rfl) ?_
    refine lv_aload_n X.1 X.2.1 dX6_stand_127 rfl (lv_at hl 3 rfl) ?_
    refine lv_iload_n X.1 X.2.1 dX6_stand_128 rfl (lv_at hl 2 rfl) ?_
    obtain ⟨r9, err9, hres⟩ := m_ob_e hres
    refine m_bi (m_cV (n := 1) (As := [.int x2]) (rest := [.int x1, .ref (m_ad G 167)]) X hSt hP hS hl.1 (c_X1_answerer l G  err9) k_c_yX1_answerer k_m_X6_104 k_i_yX1_answerer k_s_yX1_answerer k_n_X1 (by decide +kernel) (m_rc1 hSt hP m_z_45) rfl rfl ⟨Nat.le_of_ble_eq_true rfl, Nat.le_of_ble_eq_true rfl⟩ (Nat.le_of_ble_eq_true rfl) ⟨Nat.zero_le _, Nat.zero_le _⟩ dX6_stand_129) hS (fun H locs hP hS => ?_)
    refine lv_iconst (v := (-1)) X.1 X.2.1 dX6_stand_132 (by decide) ?_
    refine lv_icmp_eq (tgt := 140) X.1 X.2.1 dX6_stand_133 (by decide) (fun hc10 => ?_) (fun hc10 => ?_)
    · have hres := m_it hres hc10
      refine lv_iconst (v := 0) X.1 X.2.1 dX6_stand_140 (by decide) ?_
      obtain ⟨M11, eM11, hres⟩ := m_bd_e hres
      refine m_zs (j := x1.toNatClampNeg) X hSt hP hS m_z_167 hg3 rfl (by decide)  dX6_stand_141 eM11 (fun H locs hP hS => ?_)
      exact m_rv X hr hlk hP hS (Option.some.inj hres) dX6_stand_142
    · have hres := m_if hres hc10
      refine lv_iconst (v := 1) X.1 X.2.1 dX6_stand_136 (by decide) ?_
      refine lv_goto (tgt := 141) X.1 X.2.1 dX6_stand_137 (by decide) ?_
      obtain ⟨M12, eM12, hres⟩ := m_bd_e hres
      refine m_zs (j := x1.toNatClampNeg) X hSt hP hS m_z_167 hg3 rfl (by decide)  dX6_stand_141 eM12 (fun H locs hP hS => ?_)
      exact m_rv X hr hlk hP hS (Option.some.inj hres) dX6_stand_142
  unfold f_X6_stand at hres
  refine lv_aload_n X.1 X.2.1 dX6_stand_0 rfl (lv_at hl 3 rfl) ?_
  refine m_g1 (v := .ref (m_ad G 47)) X hSt hP m_z_45 2 (by decide) rfl k_f_X6_63 dX6_stand_1 ?_
  refine lv_iload_n X.1 X.2.1 dX6_stand_4 rfl (lv_at hl 2 rfl) ?_
  obtain ⟨hg13, hres⟩ := m_gd_e hres
  refine m_qa3 (j := x2.toNatClampNeg) X hSt hP m_z_47 hg13 rfl dX6_stand_5 ?_
  refine lv_astore (lv' := [(4, .ref (m_ad G (99 + x2.toNatClampNeg))), (0, .ref (m_ad G 159)), (1, .int x1), (2, .int x2), (3, .ref (m_ad G 45))]) X.1 X.2.1 dX6_stand_6 hl (by decide) rfl (fun ls hl => ?_)
  refine lv_aload_n X.1 X.2.1 dX6_stand_8 rfl (lv_at hl 1 rfl) ?_
  refine m_g6 (v := .ref (m_ad G 160)) X hSt hP m_z_159 1 (by decide) rfl k_f_X6_9 dX6_stand_9 ?_
  refine lv_iload_n X.1 X.2.1 dX6_stand_12 rfl (lv_at hl 2 rfl) ?_
  refine lv_aload X.1 X.2.1 dX6_stand_13 (lv_at hl 0 rfl) ?_
  refine m_g0 (v := .int (M.1 (99 + x2.toNatClampNeg) 0)) X hSt hP (m_deal_of hg13) 0 (by decide) rfl k_f_X6_67 dX6_stand_15 ?_
  obtain ⟨hg14, hres⟩ := m_gd_e hres
  obtain ⟨M15, eM15, hres⟩ := m_bd_e hres
  refine m_is (j := x1.toNatClampNeg) X hSt hP hS m_z_160 hg14 rfl dX6_stand_18 eM15 (fun H locs hP hS => ?_)
  refine lv_aload_n X.1 X.2.1 dX6_stand_19 rfl (lv_at hl 1 rfl) ?_
  refine m_g6 (v := .ref (m_ad G 161)) X hSt hP m_z_159 2 (by decide) rfl k_f_X6_15 dX6_stand_20 ?_
  refine lv_iload_n X.1 X.2.1 dX6_stand_23 rfl (lv_at hl 2 rfl) ?_
  refine lv_aload X.1 X.2.1 dX6_stand_24 (lv_at hl 0 rfl) ?_
  refine m_g0 (v := .int (M15.1 (99 + x2.toNatClampNeg) 1)) X hSt hP (m_deal_of hg13) 1 (by decide) rfl k_f_X6_71 dX6_stand_26 ?_
  obtain ⟨M16, eM16, hres⟩ := m_bd_e hres
  refine m_is (j := x1.toNatClampNeg) X hSt hP hS m_z_161 hg14 rfl dX6_stand_29 eM16 (fun H locs hP hS => ?_)
  refine lv_aload_n X.1 X.2.1 dX6_stand_30 rfl (lv_at hl 1 rfl) ?_
  refine m_g6 (v := .ref (m_ad G 162)) X hSt hP m_z_159 3 (by decide) rfl k_f_X6_18 dX6_stand_31 ?_
  refine lv_iload_n X.1 X.2.1 dX6_stand_34 rfl (lv_at hl 2 rfl) ?_
  refine lv_aload X.1 X.2.1 dX6_stand_35 (lv_at hl 0 rfl) ?_
  obtain ⟨r17, err17, hres⟩ := m_bd_e hres
  refine m_bi (m_cV (n := 0) (As := []) (rest := [.int x1, .ref (m_ad G 162)]) X hSt hP hS hl.1 (c_X0_left l G (m_deal_of hg13) err17) k_c_yX0_left k_m_X6_73 k_i_yX0_left k_s_yX0_left k_n_X0 (by decide +kernel) (m_rc0 hSt hP (m_deal_of hg13)) rfl rfl ⟨Nat.le_of_ble_eq_true rfl, Nat.le_of_ble_eq_true rfl⟩ (Nat.le_of_ble_eq_true rfl) ⟨Nat.zero_le _, Nat.zero_le _⟩ dX6_stand_37) hS (fun H locs hP hS => ?_)
  obtain ⟨M18, eM18, hres⟩ := m_bd_e hres
  refine m_is (j := x1.toNatClampNeg) X hSt hP hS m_z_162 hg14 rfl dX6_stand_40 eM18 (fun H locs hP hS => ?_)
  refine lv_aload_n X.1 X.2.1 dX6_stand_41 rfl (lv_at hl 4 rfl) ?_
  refine lv_iload_n X.1 X.2.1 dX6_stand_42 rfl (lv_at hl 3 rfl) ?_
  obtain ⟨r19, err19, hres⟩ := m_ob_e hres
  refine m_bz (m_cV (n := 1) (As := [.int x2]) (rest := []) X hSt hP hS hl.1 (c_X1_isPurseOpen l G  err19) k_c_yX1_isPurseOpen k_m_X6_77 k_i_yX1_isPurseOpen k_s_yX1_isPurseOpen k_n_X1 (by decide +kernel) (m_rc1 hSt hP m_z_45) rfl rfl ⟨Nat.le_of_ble_eq_true rfl, Nat.le_of_ble_eq_true rfl⟩ (Nat.le_of_ble_eq_true rfl) ⟨Nat.zero_le _, Nat.zero_le _⟩ dX6_stand_43) hS (fun H locs hP hS hz20 => ?_)
  refine lv_if_eq (tgt := 72) X.1 X.2.1 dX6_stand_46 (by decide) (fun hc21 => ?_) (fun hc21 => ?_)
  · have hres := m_it hres hc21
    exact B72 (99 + x2.toNatClampNeg) M18 _ _ _ hP hS (lv_sub hl [1, 2, 3, 4, 0] rfl) (m_deal_of hg13) hres
  · have hres := m_if hres hc21
    refine lv_aload_n X.1 X.2.1 dX6_stand_49 rfl (lv_at hl 1 rfl) ?_
    refine m_g6 (v := .ref (m_ad G 163)) X hSt hP m_z_159 4 (by decide) rfl k_f_X6_21 dX6_stand_50 ?_
    refine lv_iload_n X.1 X.2.1 dX6_stand_53 rfl (lv_at hl 2 rfl) ?_
    refine lv_aload_n X.1 X.2.1 dX6_stand_54 rfl (lv_at hl 4 rfl) ?_
    refine lv_aload X.1 X.2.1 dX6_stand_55 (lv_at hl 0 rfl) ?_
    refine m_g0 (v := .int (M18.1 (99 + x2.toNatClampNeg) 0)) X hSt hP (m_deal_of hg13) 0 (by decide) rfl k_f_X6_67 dX6_stand_57 ?_
    refine lv_iconst (v := 0) X.1 X.2.1 dX6_stand_60 (by decide) ?_
    refine lv_aload_n X.1 X.2.1 dX6_stand_61 rfl (lv_at hl 4 rfl) ?_
    refine lv_iload_n X.1 X.2.1 dX6_stand_62 rfl (lv_at hl 3 rfl) ?_
    obtain ⟨r22, err22, hres⟩ := m_ob_e hres
    refine m_bi (m_cV (n := 1) (As := [.int x2]) (rest := [.int 0, .int (M18.1 (99 + x2.toNatClampNeg) 0), .ref (m_ad G 45), .int x1, .ref (m_ad G 163)]) X hSt hP hS hl.1 (c_X1_hiddenBehind l G  err22) k_c_yX1_hiddenBehind k_m_X6_80 k_i_yX1_hiddenBehind k_s_yX1_hiddenBehind k_n_X1 (by decide +kernel) (m_rc1 hSt hP m_z_45) rfl rfl ⟨Nat.le_of_ble_eq_true rfl, Nat.le_of_ble_eq_true rfl⟩ (Nat.le_of_ble_eq_true rfl) ⟨Nat.zero_le _, Nat.zero_le _⟩ dX6_stand_63) hS (fun H locs hP hS => ?_)
    refine lv_i2l (v := r22.toInt64) X.1 X.2.1 dX6_stand_66 rfl ?_
    refine lv_lconst (v := 0) X.1 X.2.1 dX6_stand_67 (by decide) ?_
    obtain ⟨r23, M24, err23, hres⟩ := m_o2_e hres
    refine m_bi (m_cV (n := 4) (As := [.int (M18.1 (99 + x2.toNatClampNeg) 0), .int 0, .long r22.toInt64, .long 0]) (rest := [.int x1, .ref (m_ad G 163)]) X hSt hP hS hl.1 (c_X1_netOf l G  err23) k_c_yX1_netOf k_m_X6_84 k_i_yX1_netOf k_s_yX1_netOf k_n_X1 (by decide +kernel) (m_rc1 hSt hP m_z_45) rfl rfl ⟨Nat.le_of_ble_eq_true rfl, Nat.le_of_ble_eq_true rfl⟩ (Nat.le_of_ble_eq_true rfl) ⟨Nat.zero_le _, Nat.zero_le _⟩ dX6_stand_68) hS (fun H locs hP hS => ?_)
    obtain ⟨M25, eM25, hres⟩ := m_bd_e hres
    refine m_is (j := x1.toNatClampNeg) X hSt hP hS m_z_163 hg14 rfl dX6_stand_71 eM25 (fun H locs hP hS => ?_)
    exact B72 (99 + x2.toNatClampNeg) M25 _ _ _ hP hS (lv_sub hl [1, 2, 3, 4, 0] rfl) (m_deal_of hg13) hres
theorem dX6_lineUp_0 : decode cX6_lineUp 0 = .ok (.aload_n 0, 1) := by decide +kernel
theorem dX6_lineUp_1 : decode cX6_lineUp 1 = .ok (.aload_n 1, 1) := by decide +kernel
theorem dX6_lineUp_2 : decode cX6_lineUp 2 = .ok (.getfield 37, 3) := by decide +kernel
theorem dX6_lineUp_5 : decode cX6_lineUp 5 = .ok (.putfield 43, 3) := by decide +kernel
theorem dX6_lineUp_8 : decode cX6_lineUp 8 = .ok (.iconst 0, 1) := by decide +kernel
theorem dX6_lineUp_9 : decode cX6_lineUp 9 = .ok (.istore_n 3, 1) := by decide +kernel
theorem dX6_lineUp_10 : decode cX6_lineUp 10 = .ok (.iload_n 3, 1) := by decide +kernel
theorem dX6_lineUp_11 : decode cX6_lineUp 11 = .ok (.aload_n 0, 1) := by decide +kernel
theorem dX6_lineUp_12 : decode cX6_lineUp 12 = .ok (.getfield 43, 3) := by decide +kernel
theorem dX6_lineUp_15 : decode cX6_lineUp 15 = .ok (.if_icmp .ge 39, 3) := by decide +kernel
theorem dX6_lineUp_18 : decode cX6_lineUp 18 = .ok (.aload_n 0, 1) := by decide +kernel
theorem dX6_lineUp_19 : decode cX6_lineUp 19 = .ok (.iload_n 3, 1) := by decide +kernel
theorem dX6_lineUp_20 : decode cX6_lineUp 20 = .ok (.invokevirtual 46, 3) := by decide +kernel
theorem dX6_lineUp_23 : decode cX6_lineUp 23 = .ok (.aload_n 2, 1) := by decide +kernel
theorem dX6_lineUp_24 : decode cX6_lineUp 24 = .ok (.aload_n 1, 1) := by decide +kernel
theorem dX6_lineUp_25 : decode cX6_lineUp 25 = .ok (.getfield 50, 3) := by decide +kernel
theorem dX6_lineUp_28 : decode cX6_lineUp 28 = .ok (.iload_n 3, 1) := by decide +kernel
theorem dX6_lineUp_29 : decode cX6_lineUp 29 = .ok (.iaload, 1) := by decide +kernel
theorem dX6_lineUp_30 : decode cX6_lineUp 30 = .ok (.invokevirtual 53, 3) := by decide +kernel
theorem dX6_lineUp_33 : decode cX6_lineUp 33 = .ok (.ifCond .eq 15, 3) := by decide +kernel
theorem dX6_lineUp_36 : decode cX6_lineUp 36 = .ok (.aload_n 0, 1) := by decide +kernel
theorem dX6_lineUp_37 : decode cX6_lineUp 37 = .ok (.iload_n 3, 1) := by decide +kernel
theorem dX6_lineUp_38 : decode cX6_lineUp 38 = .ok (.aload_n 1, 1) := by decide +kernel
theorem dX6_lineUp_39 : decode cX6_lineUp 39 = .ok (.getfield 50, 3) := by decide +kernel
theorem dX6_lineUp_42 : decode cX6_lineUp 42 = .ok (.iload_n 3, 1) := by decide +kernel
theorem dX6_lineUp_43 : decode cX6_lineUp 43 = .ok (.iaload, 1) := by decide +kernel
theorem dX6_lineUp_44 : decode cX6_lineUp 44 = .ok (.aload_n 2, 1) := by decide +kernel
theorem dX6_lineUp_45 : decode cX6_lineUp 45 = .ok (.invokevirtual 59, 3) := by decide +kernel
theorem dX6_lineUp_48 : decode cX6_lineUp 48 = .ok (.iinc 3 1, 3) := by decide +kernel
theorem dX6_lineUp_51 : decode cX6_lineUp 51 = .ok (.goto (-41), 3) := by decide +kernel
theorem dX6_lineUp_54 : decode cX6_lineUp 54 = .ok (.return_, 1) := by decide +kernel
def f_X6_lineUp_b10 (n : Nat) (k1 : Nat) : Nat → Int32 → m_M → Option m_M
  | 0, _, _ => none
  | u + 1, x3, M =>
    if (M.1 159 0) ≤ x3 then
  some M
  else
  m_ob (f_X6_leaveOut x3 M) fun M2 =>
  m_gd (m_in x3 6) (
  m_bd (f_X1_isThere (M2.1 (k1 + 2) x3.toNatClampNeg) M2) fun r4 =>
  if r4 = 0 then
  f_X6_lineUp_b10 n k1 u (x3 + 1) M2
  else
  m_ob (f_X6_stand n x3 (M2.1 (k1 + 2) x3.toNatClampNeg) M2) fun M7 =>
  f_X6_lineUp_b10 n k1 u (x3 + 1) M7)
def f_X6_lineUp (n : Nat) (k1 : Nat) (M : m_M) : Option m_M :=
  m_bd (m_sI M 159 0 (M.1 k1 4)) fun M8 =>
  f_X6_lineUp_b10 n k1 n 0 M8
set_option maxHeartbeats 4000000 in
set_option maxRecDepth 100000 in
theorem c_X6_lineUp (l : Launch) (G : m_G) {n : Nat} {k1 : Nat} {M : m_M} {M0 : m_M} (hk1 : m_isKept k1) (hres : f_X6_lineUp n k1 M = some M0) : Met l yX6_lineUp (m_U yX6_lineUp cX6_lineUp 4 none) (m_R 5 125) (m_Pc G [.ref (m_ad G 159), .ref (m_ad G k1), .ref (m_ad G 45)] M) (m_Qv G M0) 0 0 (m_A G) := by
  refine m_i0 (n := 4) RX6 rfl (by decide) (Nat.le_of_ble_eq_true rfl) ?_
  intro p e s m args below meth c X hr hlk hSt hP hS ls hl
  have hl : lv_has ls 4 [(0, .ref (m_ad G 159)), (1, .ref (m_ad G k1)), (2, .ref (m_ad G 45))] := hl
  have B10 : ∀ (u : Nat) (x3 : Int32) (M : m_M) (H : Heap) (locs : List Loc) (ls : Array Slot), m_P G M H → va_S (m_A G) s.heap H locs → lv_has ls 4 [(0, .ref (m_ad G 159)), (1, .ref (m_ad G k1)), (2, .ref (m_ad G 45)), (3, .int x3)] → f_X6_lineUp_b10 n k1 u x3 M = some M0 → W p l e (m_R 5 125) s m args below meth c H locs 0 0 (MQ below (m_Qv G M0) args s 0 0 (m_A G)) (F0 m 10 ls []) := by
    intro u
    induction u with
    | zero =>
      intro x3 M H locs ls hP hS hl hres
      cases hres
    | succ u ih =>
      intro x3 M H locs ls hP hS hl hres
      rw [f_X6_lineUp_b10] at hres
      refine lv_iload_n X.1 X.2.1 dX6_lineUp_10 rfl (lv_at hl 3 rfl) ?_
      refine lv_aload_n X.1 X.2.1 dX6_lineUp_11 rfl (lv_at hl 0 rfl) ?_
      refine m_g6 (v := .int (M.1 159 0)) X hSt hP m_z_159 0 (by decide) rfl k_f_X6_43 dX6_lineUp_12 ?_
      refine lv_icmp_ge (tgt := 54) X.1 X.2.1 dX6_lineUp_15 (by decide) (fun hc1 => ?_) (fun hc1 => ?_)
      · have hres := m_it hres hc1
        exact m_rv X hr hlk hP hS (Option.some.inj hres) dX6_lineUp_54
      · have hres := m_if hres hc1
        refine lv_aload_n X.1 X.2.1 dX6_lineUp_18 rfl (lv_at hl 0 rfl) ?_
        refine lv_iload_n X.1 X.2.1 dX6_lineUp_19 rfl (lv_at hl 3 rfl) ?_
        obtain ⟨M2, eM2, hres⟩ := m_ob_e hres
        refine m_bv (m_cV (n := 1) (As := [.int x3]) (rest := []) X hSt hP hS hl.1 (c_X6_leaveOut l G  eM2) k_c_yX6_leaveOut k_m_X6_46 k_i_yX6_leaveOut k_s_yX6_leaveOut k_n_X6 (by decide +kernel) (m_rc6 hSt hP m_z_159) rfl rfl ⟨Nat.le_of_ble_eq_true rfl, Nat.le_of_ble_eq_true rfl⟩ (Nat.le_of_ble_eq_true rfl) ⟨Nat.zero_le _, Nat.zero_le _⟩ dX6_lineUp_20) hS (fun H locs hP hS => ?_)
        refine lv_aload_n X.1 X.2.1 dX6_lineUp_23 rfl (lv_at hl 2 rfl) ?_
        refine lv_aload_n X.1 X.2.1 dX6_lineUp_24 rfl (lv_at hl 1 rfl) ?_
        refine m_g3 (v := .ref (m_ad G (k1 + 2))) X hSt hP hk1.1 6 (by decide) rfl k_f_X6_50 dX6_lineUp_25 ?_
        refine lv_iload_n X.1 X.2.1 dX6_lineUp_28 rfl (lv_at hl 3 rfl) ?_
        obtain ⟨hg3, hres⟩ := m_gd_e hres
        refine m_ia (j := x3.toNatClampNeg) X hSt hP hk1.2.2.1 hg3 rfl dX6_lineUp_29 ?_
        obtain ⟨r4, err4, hres⟩ := m_bd_e hres
        refine m_bz (m_cV (n := 1) (As := [.int (M2.1 (k1 + 2) x3.toNatClampNeg)]) (rest := []) X hSt hP hS hl.1 (c_X1_isThere l G  err4) k_c_yX1_isThere k_m_X6_53 k_i_yX1_isThere k_s_yX1_isThere k_n_X1 (by decide +kernel) (m_rc1 hSt hP m_z_45) rfl rfl ⟨Nat.le_of_ble_eq_true rfl, Nat.le_of_ble_eq_true rfl⟩ (Nat.le_of_ble_eq_true rfl) ⟨Nat.zero_le _, Nat.zero_le _⟩ dX6_lineUp_30) hS (fun H locs hP hS hz5 => ?_)
        refine lv_if_eq (tgt := 48) X.1 X.2.1 dX6_lineUp_33 (by decide) (fun hc6 => ?_) (fun hc6 => ?_)
        · have hres := m_it hres hc6
          refine lv_iinc (v := (x3 + 1)) (lv' := [(3, .int (x3 + 1)), (0, .ref (m_ad G 159)), (1, .ref (m_ad G k1)), (2, .ref (m_ad G 45))]) X.1 X.2.1 dX6_lineUp_48 hl (k := 3) rfl rfl (by decide) rfl (fun ls hl => ?_)
          refine lv_goto (tgt := 10) X.1 X.2.1 dX6_lineUp_51 (by decide) ?_
          exact ih (x3 + 1) M2 _ _ _ hP hS (lv_sub hl [1, 2, 3, 0] rfl) hres
        · have hres := m_if hres hc6
          refine lv_aload_n X.1 X.2.1 dX6_lineUp_36 rfl (lv_at hl 0 rfl) ?_
          refine lv_iload_n X.1 X.2.1 dX6_lineUp_37 rfl (lv_at hl 3 rfl) ?_
          refine lv_aload_n X.1 X.2.1 dX6_lineUp_38 rfl (lv_at hl 1 rfl) ?_
          refine m_g3 (v := .ref (m_ad G (k1 + 2))) X hSt hP hk1.1 6 (by decide) rfl k_f_X6_50 dX6_lineUp_39 ?_
          refine lv_iload_n X.1 X.2.1 dX6_lineUp_42 rfl (lv_at hl 3 rfl) ?_
          refine m_ia (j := x3.toNatClampNeg) X hSt hP hk1.2.2.1 hg3 rfl dX6_lineUp_43 ?_
          refine lv_aload_n X.1 X.2.1 dX6_lineUp_44 rfl (lv_at hl 2 rfl) ?_
          obtain ⟨M7, eM7, hres⟩ := m_ob_e hres
          refine m_bv (m_cV (n := 3) (As := [.int x3, .int (M2.1 (k1 + 2) x3.toNatClampNeg), .ref (m_ad G 45)]) (rest := []) X hSt hP hS hl.1 (c_X6_stand l G  eM7) k_c_yX6_stand k_m_X6_59 k_i_yX6_stand k_s_yX6_stand k_n_X6 (by decide +kernel) (m_rc6 hSt hP m_z_159) rfl rfl ⟨Nat.le_of_ble_eq_true rfl, Nat.le_of_ble_eq_true rfl⟩ (Nat.le_of_ble_eq_true rfl) ⟨Nat.zero_le _, Nat.zero_le _⟩ dX6_lineUp_45) hS (fun H locs hP hS => ?_)
          refine lv_iinc (v := (x3 + 1)) (lv' := [(3, .int (x3 + 1)), (0, .ref (m_ad G 159)), (1, .ref (m_ad G k1)), (2, .ref (m_ad G 45))]) X.1 X.2.1 dX6_lineUp_48 hl (k := 3) rfl rfl (by decide) rfl (fun ls hl => ?_)
          refine lv_goto (tgt := 10) X.1 X.2.1 dX6_lineUp_51 (by decide) ?_
          exact ih (x3 + 1) M7 _ _ _ hP hS (lv_sub hl [1, 2, 3, 0] rfl) hres
  unfold f_X6_lineUp at hres
  refine lv_aload_n X.1 X.2.1 dX6_lineUp_0 rfl (lv_at hl 0 rfl) ?_
  refine lv_aload_n X.1 X.2.1 dX6_lineUp_1 rfl (lv_at hl 1 rfl) ?_
  refine m_g3 (v := .int (M.1 k1 4)) X hSt hP hk1.1 4 (by decide) rfl k_f_X6_37 dX6_lineUp_2 ?_
  obtain ⟨M8, eM8, hres⟩ := m_bd_e hres
  refine m_pi6 X hSt hP hS m_z_159 0 (by decide) eM8 rfl rfl (by decide) k_f_X6_43 dX6_lineUp_5 (fun H locs hP hS => ?_)
  refine lv_iconst (v := 0) X.1 X.2.1 dX6_lineUp_8 (by decide) ?_
  refine lv_istore_n (lv' := [(3, .int 0), (0, .ref (m_ad G 159)), (1, .ref (m_ad G k1)), (2, .ref (m_ad G 45))]) X.1 X.2.1 dX6_lineUp_9 rfl hl (by decide) rfl (fun ls hl => ?_)
  exact B10 n 0 M8 _ _ _ hP hS (lv_sub hl [1, 2, 3, 0] rfl) hres
theorem dX7_lineUp_0 : decode cX7_lineUp 0 = .ok (.aload_n 0, 1) := by decide +kernel
theorem dX7_lineUp_1 : decode cX7_lineUp 1 = .ok (.getfield 29, 3) := by decide +kernel
theorem dX7_lineUp_4 : decode cX7_lineUp 4 = .ok (.iload_n 1, 1) := by decide +kernel
theorem dX7_lineUp_5 : decode cX7_lineUp 5 = .ok (.iconst 0, 1) := by decide +kernel
theorem dX7_lineUp_6 : decode cX7_lineUp 6 = .ok (.invokevirtual 168, 3) := by decide +kernel
theorem dX7_lineUp_9 : decode cX7_lineUp 9 = .ok (.aload_n 0, 1) := by decide +kernel
theorem dX7_lineUp_10 : decode cX7_lineUp 10 = .ok (.getfield 36, 3) := by decide +kernel
theorem dX7_lineUp_13 : decode cX7_lineUp 13 = .ok (.aload_n 0, 1) := by decide +kernel
theorem dX7_lineUp_14 : decode cX7_lineUp 14 = .ok (.getfield 10, 3) := by decide +kernel
theorem dX7_lineUp_17 : decode cX7_lineUp 17 = .ok (.aload_n 0, 1) := by decide +kernel
theorem dX7_lineUp_18 : decode cX7_lineUp 18 = .ok (.getfield 29, 3) := by decide +kernel
theorem dX7_lineUp_21 : decode cX7_lineUp 21 = .ok (.invokevirtual 300, 3) := by decide +kernel
theorem dX7_lineUp_24 : decode cX7_lineUp 24 = .ok (.return_, 1) := by decide +kernel
def f_X7_lineUp (n : Nat) (x1 : Int32) (M : m_M) : Option m_M :=
  m_ob (f_X1_reckon n x1 0 M) fun M1 =>
  m_ob (f_X6_lineUp n 1 M1) fun M2 =>
  some M2
set_option maxHeartbeats 4000000 in
set_option maxRecDepth 100000 in
theorem c_X7_lineUp (l : Launch) (G : m_G) {n : Nat} {x1 : Int32} {M : m_M} {M0 : m_M}  (hres : f_X7_lineUp n x1 M = some M0) : Met l yX7_lineUp (m_U yX7_lineUp cX7_lineUp 2 none) (m_R 7 157) (m_Pc G [.ref (m_ad G 0), .int x1] M) (m_Qv G M0) 0 0 (m_A G) := by
  refine m_i0 (n := 2) RX7 rfl (by decide) (Nat.le_of_ble_eq_true rfl) ?_
  intro p e s m args below meth c X hr hlk hSt hP hS ls hl
  have hl : lv_has ls 2 [(0, .ref (m_ad G 0)), (1, .int x1)] := hl
  unfold f_X7_lineUp at hres
  refine lv_aload_n X.1 X.2.1 dX7_lineUp_0 rfl (lv_at hl 0 rfl) ?_
  refine m_g7 (v := .ref (m_ad G 45)) X hSt hP m_z_0 3 (by decide) rfl k_f_X7_29 dX7_lineUp_1 ?_
  refine lv_iload_n X.1 X.2.1 dX7_lineUp_4 rfl (lv_at hl 1 rfl) ?_
  refine lv_iconst (v := 0) X.1 X.2.1 dX7_lineUp_5 (by decide) ?_
  obtain ⟨M1, eM1, hres⟩ := m_ob_e hres
  refine m_bv (m_cV (n := 2) (As := [.int x1, .int 0]) (rest := []) X hSt hP hS hl.1 (c_X1_reckon l G  eM1) k_c_yX1_reckon k_m_X7_168 k_i_yX1_reckon k_s_yX1_reckon k_n_X1 (by decide +kernel) (m_rc1 hSt hP m_z_45) rfl rfl ⟨Nat.le_of_ble_eq_true rfl, Nat.le_of_ble_eq_true rfl⟩ (Nat.le_of_ble_eq_true rfl) ⟨Nat.zero_le _, Nat.zero_le _⟩ dX7_lineUp_6) hS (fun H locs hP hS => ?_)
  refine lv_aload_n X.1 X.2.1 dX7_lineUp_9 rfl (lv_at hl 0 rfl) ?_
  refine m_g7 (v := .ref (m_ad G 159)) X hSt hP m_z_0 4 (by decide) rfl k_f_X7_36 dX7_lineUp_10 ?_
  refine lv_aload_n X.1 X.2.1 dX7_lineUp_13 rfl (lv_at hl 0 rfl) ?_
  refine m_g7 (v := .ref (m_ad G 1)) X hSt hP m_z_0 0 (by decide) rfl k_f_X7_10 dX7_lineUp_14 ?_
  refine lv_aload_n X.1 X.2.1 dX7_lineUp_17 rfl (lv_at hl 0 rfl) ?_
  refine m_g7 (v := .ref (m_ad G 45)) X hSt hP m_z_0 3 (by decide) rfl k_f_X7_29 dX7_lineUp_18 ?_
  obtain ⟨M2, eM2, hres⟩ := m_ob_e hres
  refine m_bv (m_cV (n := 2) (As := [.ref (m_ad G 1), .ref (m_ad G 45)]) (rest := []) X hSt hP hS hl.1 (c_X6_lineUp l G m_kept_0 eM2) k_c_yX6_lineUp k_m_X7_300 k_i_yX6_lineUp k_s_yX6_lineUp k_n_X6 (by decide +kernel) (m_rc6 hSt hP m_z_159) rfl rfl ⟨Nat.le_of_ble_eq_true rfl, Nat.le_of_ble_eq_true rfl⟩ (Nat.le_of_ble_eq_true rfl) ⟨Nat.zero_le _, Nat.zero_le _⟩ dX7_lineUp_21) hS (fun H locs hP hS => ?_)
  exact m_rv X hr hlk hP hS (Option.some.inj hres) dX7_lineUp_24
theorem dX7_net_0 : decode cX7_net 0 = .ok (.aload_n 0, 1) := by decide +kernel
theorem dX7_net_1 : decode cX7_net 1 = .ok (.iload_n 1, 1) := by decide +kernel
theorem dX7_net_2 : decode cX7_net 2 = .ok (.invokevirtual 142, 3) := by decide +kernel
theorem dX7_net_5 : decode cX7_net 5 = .ok (.ifCond .eq 17, 3) := by decide +kernel
theorem dX7_net_8 : decode cX7_net 8 = .ok (.iload_n 2, 1) := by decide +kernel
theorem dX7_net_9 : decode cX7_net 9 = .ok (.invokestatic 125, 3) := by decide +kernel
theorem dX7_net_12 : decode cX7_net 12 = .ok (.ifCond .eq 10, 3) := by decide +kernel
theorem dX7_net_15 : decode cX7_net 15 = .ok (.iload_n 3, 1) := by decide +kernel
theorem dX7_net_16 : decode cX7_net 16 = .ok (.invokestatic 145, 3) := by decide +kernel
theorem dX7_net_19 : decode cX7_net 19 = .ok (.ifCond .ne 6, 3) := by decide +kernel
theorem dX7_net_22 : decode cX7_net 22 = .ok (.bipush (-2), 2) := by decide +kernel
theorem dX7_net_24 : decode cX7_net 24 = .ok (.ireturn, 1) := by decide +kernel
theorem dX7_net_25 : decode cX7_net 25 = .ok (.aload_n 0, 1) := by decide +kernel
theorem dX7_net_26 : decode cX7_net 26 = .ok (.getfield 29, 3) := by decide +kernel
theorem dX7_net_29 : decode cX7_net 29 = .ok (.iload_n 3, 1) := by decide +kernel
theorem dX7_net_30 : decode cX7_net 30 = .ok (.iconst 0, 1) := by decide +kernel
theorem dX7_net_31 : decode cX7_net 31 = .ok (.invokevirtual 168, 3) := by decide +kernel
theorem dX7_net_34 : decode cX7_net 34 = .ok (.aload_n 0, 1) := by decide +kernel
theorem dX7_net_35 : decode cX7_net 35 = .ok (.getfield 29, 3) := by decide +kernel
theorem dX7_net_38 : decode cX7_net 38 = .ok (.iload_n 1, 1) := by decide +kernel
theorem dX7_net_39 : decode cX7_net 39 = .ok (.iload_n 2, 1) := by decide +kernel
theorem dX7_net_40 : decode cX7_net 40 = .ok (.lconst 0, 1) := by decide +kernel
theorem dX7_net_41 : decode cX7_net 41 = .ok (.lconst 0, 1) := by decide +kernel
theorem dX7_net_42 : decode cX7_net 42 = .ok (.invokevirtual 180, 3) := by decide +kernel
theorem dX7_net_45 : decode cX7_net 45 = .ok (.ireturn, 1) := by decide +kernel
def f_X7_net (n : Nat) (x1 : Int32) (x2 : Int32) (x3 : Int32) (M : m_M) : Option (Int32 × m_M) :=
  m_bd (f_X7_isPerson x1 M) fun r1 =>
  if r1 = 0 then
  some ((-2), M)
  else
  m_bd (f_X7_isLaw x2) fun r4 =>
  if r4 = 0 then
  some ((-2), M)
  else
  m_bd (f_X7_isDay x3) fun r7 =>
  if r7 = 0 then
  some ((-2), M)
  else
  m_ob (f_X1_reckon n x3 0 M) fun M10 =>
  m_o2 (f_X1_netOf n x1 x2 0 0 M10) fun r11 M12 =>
  some (r11, M12)
set_option maxHeartbeats 4000000 in
set_option maxRecDepth 100000 in
theorem c_X7_net (l : Launch) (G : m_G) {n : Nat} {x1 : Int32} {x2 : Int32} {x3 : Int32} {M : m_M} {r0 : Int32} {M0 : m_M}  (hres : f_X7_net n x1 x2 x3 M = some (r0, M0)) : Met l yX7_net (m_U yX7_net cX7_net 4 (some .int)) (m_R 7 157) (m_Pc G [.ref (m_ad G 0), .int x1, .int x2, .int x3] M) (m_Qi G r0 M0) 0 0 (m_A G) := by
  refine m_i0 (n := 4) RX7 rfl (by decide) (Nat.le_of_ble_eq_true rfl) ?_
  intro p e s m args below meth c X hr hlk hSt hP hS ls hl
  have hl : lv_has ls 4 [(0, .ref (m_ad G 0)), (1, .int x1), (2, .int x2), (3, .int x3)] := hl
  unfold f_X7_net at hres
  refine lv_aload_n X.1 X.2.1 dX7_net_0 rfl (lv_at hl 0 rfl) ?_
  refine lv_iload_n X.1 X.2.1 dX7_net_1 rfl (lv_at hl 1 rfl) ?_
  obtain ⟨r1, err1, hres⟩ := m_bd_e hres
  refine m_bz (m_cV (n := 1) (As := [.int x1]) (rest := []) X hSt hP hS hl.1 (c_X7_isPerson l G  err1) k_c_yX7_isPerson k_m_X7_142 k_i_yX7_isPerson k_s_yX7_isPerson k_n_X7 (by decide +kernel) (m_rc7 hSt hP m_z_0) rfl rfl ⟨Nat.le_of_ble_eq_true rfl, Nat.le_of_ble_eq_true rfl⟩ (Nat.le_of_ble_eq_true rfl) ⟨Nat.zero_le _, Nat.zero_le _⟩ dX7_net_2) hS (fun H locs hP hS hz2 => ?_)
  refine lv_if_eq (tgt := 22) X.1 X.2.1 dX7_net_5 (by decide) (fun hc3 => ?_) (fun hc3 => ?_)
  · have hres := m_it hres hc3
    refine lv_bipush (v := (-2)) X.1 X.2.1 dX7_net_22 (by decide) ?_
    exact m_ri X hr hlk hP hS (Prod.mk.inj (Option.some.inj hres)).1 (Prod.mk.inj (Option.some.inj hres)).2 dX7_net_24
  · have hres := m_if hres hc3
    refine lv_iload_n X.1 X.2.1 dX7_net_8 rfl (lv_at hl 2 rfl) ?_
    obtain ⟨r4, err4, hres⟩ := m_bd_e hres
    refine m_bz (m_cS (n := 1) (As := [.int x2]) (rest := []) X hSt hP hS hl.1 (c_X7_isLaw l G (M := M)  err4) k_c_yX7_isLaw k_m_X7_125 k_t_yX7_isLaw k_n_X7 (by decide +kernel) rfl rfl ⟨Nat.le_of_ble_eq_true rfl, Nat.le_of_ble_eq_true rfl⟩ (Nat.le_of_ble_eq_true rfl) ⟨Nat.zero_le _, Nat.zero_le _⟩ dX7_net_9) hS (fun H locs hP hS hz5 => ?_)
    refine lv_if_eq (tgt := 22) X.1 X.2.1 dX7_net_12 (by decide) (fun hc6 => ?_) (fun hc6 => ?_)
    · have hres := m_it hres hc6
      refine lv_bipush (v := (-2)) X.1 X.2.1 dX7_net_22 (by decide) ?_
      exact m_ri X hr hlk hP hS (Prod.mk.inj (Option.some.inj hres)).1 (Prod.mk.inj (Option.some.inj hres)).2 dX7_net_24
    · have hres := m_if hres hc6
      refine lv_iload_n X.1 X.2.1 dX7_net_15 rfl (lv_at hl 3 rfl) ?_
      obtain ⟨r7, err7, hres⟩ := m_bd_e hres
      refine m_bz (m_cS (n := 1) (As := [.int x3]) (rest := []) X hSt hP hS hl.1 (c_X7_isDay l G (M := M)  err7) k_c_yX7_isDay k_m_X7_145 k_t_yX7_isDay k_n_X7 (by decide +kernel) rfl rfl ⟨Nat.le_of_ble_eq_true rfl, Nat.le_of_ble_eq_true rfl⟩ (Nat.le_of_ble_eq_true rfl) ⟨Nat.zero_le _, Nat.zero_le _⟩ dX7_net_16) hS (fun H locs hP hS hz8 => ?_)
      refine lv_if_ne (tgt := 25) X.1 X.2.1 dX7_net_19 (by decide) (fun hc9 => ?_) (fun hc9 => ?_)
      · have hres := m_if hres hc9
        refine lv_aload_n X.1 X.2.1 dX7_net_25 rfl (lv_at hl 0 rfl) ?_
        refine m_g7 (v := .ref (m_ad G 45)) X hSt hP m_z_0 3 (by decide) rfl k_f_X7_29 dX7_net_26 ?_
        refine lv_iload_n X.1 X.2.1 dX7_net_29 rfl (lv_at hl 3 rfl) ?_
        refine lv_iconst (v := 0) X.1 X.2.1 dX7_net_30 (by decide) ?_
        obtain ⟨M10, eM10, hres⟩ := m_ob_e hres
        refine m_bv (m_cV (n := 2) (As := [.int x3, .int 0]) (rest := []) X hSt hP hS hl.1 (c_X1_reckon l G  eM10) k_c_yX1_reckon k_m_X7_168 k_i_yX1_reckon k_s_yX1_reckon k_n_X1 (by decide +kernel) (m_rc1 hSt hP m_z_45) rfl rfl ⟨Nat.le_of_ble_eq_true rfl, Nat.le_of_ble_eq_true rfl⟩ (Nat.le_of_ble_eq_true rfl) ⟨Nat.zero_le _, Nat.zero_le _⟩ dX7_net_31) hS (fun H locs hP hS => ?_)
        refine lv_aload_n X.1 X.2.1 dX7_net_34 rfl (lv_at hl 0 rfl) ?_
        refine m_g7 (v := .ref (m_ad G 45)) X hSt hP m_z_0 3 (by decide) rfl k_f_X7_29 dX7_net_35 ?_
        refine lv_iload_n X.1 X.2.1 dX7_net_38 rfl (lv_at hl 1 rfl) ?_
        refine lv_iload_n X.1 X.2.1 dX7_net_39 rfl (lv_at hl 2 rfl) ?_
        refine lv_lconst (v := 0) X.1 X.2.1 dX7_net_40 (by decide) ?_
        refine lv_lconst (v := 0) X.1 X.2.1 dX7_net_41 (by decide) ?_
        obtain ⟨r11, M12, err11, hres⟩ := m_o2_e hres
        refine m_bi (m_cV (n := 4) (As := [.int x1, .int x2, .long 0, .long 0]) (rest := []) X hSt hP hS hl.1 (c_X1_netOf l G  err11) k_c_yX1_netOf k_m_X7_180 k_i_yX1_netOf k_s_yX1_netOf k_n_X1 (by decide +kernel) (m_rc1 hSt hP m_z_45) rfl rfl ⟨Nat.le_of_ble_eq_true rfl, Nat.le_of_ble_eq_true rfl⟩ (Nat.le_of_ble_eq_true rfl) ⟨Nat.zero_le _, Nat.zero_le _⟩ dX7_net_42) hS (fun H locs hP hS => ?_)
        exact m_ri X hr hlk hP hS (Prod.mk.inj (Option.some.inj hres)).1 (Prod.mk.inj (Option.some.inj hres)).2 dX7_net_45
      · have hres := m_it hres hc9
        refine lv_bipush (v := (-2)) X.1 X.2.1 dX7_net_22 (by decide) ?_
        exact m_ri X hr hlk hP hS (Prod.mk.inj (Option.some.inj hres)).1 (Prod.mk.inj (Option.some.inj hres)).2 dX7_net_24
theorem dX7_note_0 : decode cX7_note 0 = .ok (.aload_n 0, 1) := by decide +kernel
theorem dX7_note_1 : decode cX7_note 1 = .ok (.iload_n 1, 1) := by decide +kernel
theorem dX7_note_2 : decode cX7_note 2 = .ok (.iload_n 2, 1) := by decide +kernel
theorem dX7_note_3 : decode cX7_note 3 = .ok (.iload_n 3, 1) := by decide +kernel
theorem dX7_note_4 : decode cX7_note 4 = .ok (.iload 4, 2) := by decide +kernel
theorem dX7_note_6 : decode cX7_note 6 = .ok (.iload 5, 2) := by decide +kernel
theorem dX7_note_8 : decode cX7_note 8 = .ok (.invokevirtual 65, 3) := by decide +kernel
theorem dX7_note_11 : decode cX7_note 11 = .ok (.ireturn, 1) := by decide +kernel
def f_X7_note (n : Nat) (x1 : Int32) (x2 : Int32) (x3 : Int32) (x4 : Int32) (x5 : Int32) (M : m_M) : Option (Int32 × m_M) :=
  m_o2 (f_X7_bring n x1 x2 x3 x4 x5 M) fun r1 M2 =>
  some (r1, M2)
set_option maxHeartbeats 4000000 in
set_option maxRecDepth 100000 in
theorem c_X7_note (l : Launch) (G : m_G) {n : Nat} {x1 : Int32} {x2 : Int32} {x3 : Int32} {x4 : Int32} {x5 : Int32} {M : m_M} {r0 : Int32} {M0 : m_M}  (hres : f_X7_note n x1 x2 x3 x4 x5 M = some (r0, M0)) : Met l yX7_note (m_U yX7_note cX7_note 6 (some .int)) (m_R 7 160) (m_Pc G [.ref (m_ad G 0), .int x1, .int x2, .int x3, .int x4, .int x5] M) (m_Qi G r0 M0) 0 0 (m_A G) := by
  refine m_i0 (n := 6) RX7 rfl (by decide) (Nat.le_of_ble_eq_true rfl) ?_
  intro p e s m args below meth c X hr hlk hSt hP hS ls hl
  have hl : lv_has ls 6 [(0, .ref (m_ad G 0)), (1, .int x1), (2, .int x2), (3, .int x3), (4, .int x4), (5, .int x5)] := hl
  unfold f_X7_note at hres
  refine lv_aload_n X.1 X.2.1 dX7_note_0 rfl (lv_at hl 0 rfl) ?_
  refine lv_iload_n X.1 X.2.1 dX7_note_1 rfl (lv_at hl 1 rfl) ?_
  refine lv_iload_n X.1 X.2.1 dX7_note_2 rfl (lv_at hl 2 rfl) ?_
  refine lv_iload_n X.1 X.2.1 dX7_note_3 rfl (lv_at hl 3 rfl) ?_
  refine lv_iload X.1 X.2.1 dX7_note_4 (lv_at hl 4 rfl) ?_
  refine lv_iload X.1 X.2.1 dX7_note_6 (lv_at hl 5 rfl) ?_
  obtain ⟨r1, M2, err1, hres⟩ := m_o2_e hres
  refine m_bi (m_cV (n := 5) (As := [.int x1, .int x2, .int x3, .int x4, .int x5]) (rest := []) X hSt hP hS hl.1 (c_X7_bring l G  err1) k_c_yX7_bring k_m_X7_65 k_i_yX7_bring k_s_yX7_bring k_n_X7 (by decide +kernel) (m_rc7 hSt hP m_z_0) rfl rfl ⟨Nat.le_of_ble_eq_true rfl, Nat.le_of_ble_eq_true rfl⟩ (Nat.le_of_ble_eq_true rfl) ⟨Nat.zero_le _, Nat.zero_le _⟩ dX7_note_8) hS (fun H locs hP hS => ?_)
  exact m_ri X hr hlk hP hS (Prod.mk.inj (Option.some.inj hres)).1 (Prod.mk.inj (Option.some.inj hres)).2 dX7_note_11
theorem dX6_take_0 : decode cX6_take 0 = .ok (.lconst 0, 1) := by decide +kernel
theorem dX6_take_1 : decode cX6_take 1 = .ok (.aload_n 0, 1) := by decide +kernel
theorem dX6_take_2 : decode cX6_take 2 = .ok (.getfield 18, 3) := by decide +kernel
theorem dX6_take_5 : decode cX6_take 5 = .ok (.iload_n 1, 1) := by decide +kernel
theorem dX6_take_6 : decode cX6_take 6 = .ok (.iaload, 1) := by decide +kernel
theorem dX6_take_7 : decode cX6_take 7 = .ok (.i2l, 1) := by decide +kernel
theorem dX6_take_8 : decode cX6_take 8 = .ok (.aload_n 0, 1) := by decide +kernel
theorem dX6_take_9 : decode cX6_take 9 = .ok (.getfield 21, 3) := by decide +kernel
theorem dX6_take_12 : decode cX6_take 12 = .ok (.iload_n 1, 1) := by decide +kernel
theorem dX6_take_13 : decode cX6_take 13 = .ok (.iaload, 1) := by decide +kernel
theorem dX6_take_14 : decode cX6_take 14 = .ok (.i2l, 1) := by decide +kernel
theorem dX6_take_15 : decode cX6_take 15 = .ok (.lload_n 2, 1) := by decide +kernel
theorem dX6_take_16 : decode cX6_take 16 = .ok (.lsub, 1) := by decide +kernel
theorem dX6_take_17 : decode cX6_take 17 = .ok (.invokestatic 107, 3) := by decide +kernel
theorem dX6_take_20 : decode cX6_take 20 = .ok (.invokestatic 113, 3) := by decide +kernel
theorem dX6_take_23 : decode cX6_take 23 = .ok (.lreturn, 1) := by decide +kernel
def f_X6_take (x1 : Int32) (x2 : Int64) (M : m_M) : Option Int64 :=
  m_gd (m_in x1 6) (
  m_bd (m_minJ ((M.1 162 x1.toNatClampNeg).toInt64) (((M.1 163 x1.toNatClampNeg).toInt64) - x2)) fun r2 =>
  m_bd (m_maxJ 0 r2) fun r3 =>
  some r3)
set_option maxHeartbeats 4000000 in
set_option maxRecDepth 100000 in
theorem c_X6_take (l : Launch) (G : m_G) {x1 : Int32} {x2 : Int64} {M : m_M} {r0 : Int64}  (hres : f_X6_take x1 x2 M = some r0) : Met l yX6_take (m_U yX6_take cX6_take 4 (some .long)) (m_R 1 30) (m_Pc G [.ref (m_ad G 159), .int x1, .long x2] M) (m_Ql G r0 M) 0 0 (m_A G) := by
  refine m_i0 (n := 4) RX6 rfl (by decide) (Nat.le_of_ble_eq_true rfl) ?_
  intro p e s m args below meth c X hr hlk hSt hP hS ls hl
  have hl : lv_has ls 4 [(0, .ref (m_ad G 159)), (1, .int x1), (2, .long x2)] := hl
  unfold f_X6_take at hres
  refine lv_lconst (v := 0) X.1 X.2.1 dX6_take_0 (by decide) ?_
  refine lv_aload_n X.1 X.2.1 dX6_take_1 rfl (lv_at hl 0 rfl) ?_
  refine m_g6 (v := .ref (m_ad G 162)) X hSt hP m_z_159 3 (by decide) rfl k_f_X6_18 dX6_take_2 ?_
  refine lv_iload_n X.1 X.2.1 dX6_take_5 rfl (lv_at hl 1 rfl) ?_
  obtain ⟨hg1, hres⟩ := m_gd_e hres
  refine m_ia (j := x1.toNatClampNeg) X hSt hP m_z_162 hg1 rfl dX6_take_6 ?_
  refine lv_i2l (v := (M.1 162 x1.toNatClampNeg).toInt64) X.1 X.2.1 dX6_take_7 rfl ?_
  refine lv_aload_n X.1 X.2.1 dX6_take_8 rfl (lv_at hl 0 rfl) ?_
  refine m_g6 (v := .ref (m_ad G 163)) X hSt hP m_z_159 4 (by decide) rfl k_f_X6_21 dX6_take_9 ?_
  refine lv_iload_n X.1 X.2.1 dX6_take_12 rfl (lv_at hl 1 rfl) ?_
  refine m_ia (j := x1.toNatClampNeg) X hSt hP m_z_163 hg1 rfl dX6_take_13 ?_
  refine lv_i2l (v := (M.1 163 x1.toNatClampNeg).toInt64) X.1 X.2.1 dX6_take_14 rfl ?_
  refine lv_lload_n X.1 X.2.1 dX6_take_15 rfl (lv_at hl 2 rfl) ?_
  refine lv_lsub X.1 X.2.1 dX6_take_16 ?_
  obtain ⟨r2, err2, hres⟩ := m_bd_e hres
  refine m_mnJ (rest := [.long 0]) X hl.1 k_m_X6_107 k_t_yJ9_min_f86c9 k_n_J9 k_c_yJ9_min_f86c9 (Nat.le_of_ble_eq_true rfl) (Nat.le_of_ble_eq_true rfl) ⟨Nat.zero_le _, Nat.zero_le _⟩ dX6_take_17 err2 ?_
  obtain ⟨r3, err3, hres⟩ := m_bd_e hres
  refine m_mxJ (rest := []) X hl.1 k_m_X6_113 k_t_yJ9_max_f86c9 k_n_J9 k_c_yJ9_max_f86c9 (Nat.le_of_ble_eq_true rfl) (Nat.le_of_ble_eq_true rfl) ⟨Nat.zero_le _, Nat.zero_le _⟩ dX6_take_20 err3 ?_
  exact m_rl X hr hlk hP hS (Option.some.inj hres) rfl dX6_take_23
theorem dX6_isIn_0 : decode cX6_isIn 0 = .ok (.iload_n 0, 1) := by decide +kernel
theorem dX6_isIn_1 : decode cX6_isIn 1 = .ok (.iload_n 1, 1) := by decide +kernel
theorem dX6_isIn_2 : decode cX6_isIn 2 = .ok (.ishr, 1) := by decide +kernel
theorem dX6_isIn_3 : decode cX6_isIn 3 = .ok (.iconst 1, 1) := by decide +kernel
theorem dX6_isIn_4 : decode cX6_isIn 4 = .ok (.iand, 1) := by decide +kernel
theorem dX6_isIn_5 : decode cX6_isIn 5 = .ok (.ifCond .eq 7, 3) := by decide +kernel
theorem dX6_isIn_8 : decode cX6_isIn 8 = .ok (.iconst 1, 1) := by decide +kernel
theorem dX6_isIn_9 : decode cX6_isIn 9 = .ok (.goto 4, 3) := by decide +kernel
theorem dX6_isIn_12 : decode cX6_isIn 12 = .ok (.iconst 0, 1) := by decide +kernel
theorem dX6_isIn_13 : decode cX6_isIn 13 = .ok (.ireturn, 1) := by decide +kernel
def f_X6_isIn (x0 : Int32) (x1 : Int32) : Int32 :=
  if ((x0 >>> (x1 &&& 31)) &&& (1 : Int32)) = 0 then
  0
  else
  1
set_option maxHeartbeats 4000000 in
set_option maxRecDepth 100000 in
theorem c_X6_isIn (l : Launch) (G : m_G) {x0 : Int32} {x1 : Int32} {M : m_M} {r0 : Int32}  (hres : f_X6_isIn x0 x1 = r0) : Met l yX6_isIn (m_U yX6_isIn cX6_isIn 2 (some .boolean)) (m_R 0 0) (m_Pc G [.int x0, .int x1] M) (m_Qz G r0 M) 0 0 (m_A G) := by
  refine m_i0 (n := 2) RX6 rfl (by decide) (Nat.le_of_ble_eq_true rfl) ?_
  intro p e s m args below meth c X hr hlk hSt hP hS ls hl
  have hl : lv_has ls 2 [(0, .int x0), (1, .int x1)] := hl
  unfold f_X6_isIn at hres
  refine lv_iload_n X.1 X.2.1 dX6_isIn_0 rfl (lv_at hl 0 rfl) ?_
  refine lv_iload_n X.1 X.2.1 dX6_isIn_1 rfl (lv_at hl 1 rfl) ?_
  refine lv_ishr X.1 X.2.1 dX6_isIn_2 ?_
  refine lv_iconst (v := 1) X.1 X.2.1 dX6_isIn_3 (by decide) ?_
  refine lv_iand X.1 X.2.1 dX6_isIn_4 ?_
  refine lv_if_eq (tgt := 12) X.1 X.2.1 dX6_isIn_5 (by decide) (fun hc1 => ?_) (fun hc1 => ?_)
  · have hres := m_it hres hc1
    refine lv_iconst (v := 0) X.1 X.2.1 dX6_isIn_12 (by decide) ?_
    exact m_rz X hr hlk hP hS hres rfl (by decide) dX6_isIn_13
  · have hres := m_if hres hc1
    refine lv_iconst (v := 1) X.1 X.2.1 dX6_isIn_8 (by decide) ?_
    refine lv_goto (tgt := 13) X.1 X.2.1 dX6_isIn_9 (by decide) ?_
    exact m_rz X hr hlk hP hS hres rfl (by decide) dX6_isIn_13
theorem dX6_tryAhead_0 : decode cX6_tryAhead 0 = .ok (.aload_n 0, 1) := by decide +kernel
theorem dX6_tryAhead_1 : decode cX6_tryAhead 1 = .ok (.iload_n 1, 1) := by decide +kernel
theorem dX6_tryAhead_2 : decode cX6_tryAhead 2 = .ok (.lload_n 3, 1) := by decide +kernel
theorem dX6_tryAhead_3 : decode cX6_tryAhead 3 = .ok (.invokevirtual 124, 3) := by decide +kernel
theorem dX6_tryAhead_6 : decode cX6_tryAhead 6 = .ok (.lstore 6, 2) := by decide +kernel
theorem dX6_tryAhead_8 : decode cX6_tryAhead 8 = .ok (.aload_n 0, 1) := by decide +kernel
theorem dX6_tryAhead_9 : decode cX6_tryAhead 9 = .ok (.aload_n 0, 1) := by decide +kernel
theorem dX6_tryAhead_10 : decode cX6_tryAhead 10 = .ok (.getfield 128, 3) := by decide +kernel
theorem dX6_tryAhead_13 : decode cX6_tryAhead 13 = .ok (.lload 6, 2) := by decide +kernel
theorem dX6_tryAhead_15 : decode cX6_tryAhead 15 = .ok (.invokestatic 107, 3) := by decide +kernel
theorem dX6_tryAhead_18 : decode cX6_tryAhead 18 = .ok (.putfield 128, 3) := by decide +kernel
theorem dX6_tryAhead_21 : decode cX6_tryAhead 21 = .ok (.aload_n 0, 1) := by decide +kernel
theorem dX6_tryAhead_22 : decode cX6_tryAhead 22 = .ok (.aload_n 0, 1) := by decide +kernel
theorem dX6_tryAhead_23 : decode cX6_tryAhead 23 = .ok (.getfield 132, 3) := by decide +kernel
theorem dX6_tryAhead_26 : decode cX6_tryAhead 26 = .ok (.lload 6, 2) := by decide +kernel
theorem dX6_tryAhead_28 : decode cX6_tryAhead 28 = .ok (.invokestatic 113, 3) := by decide +kernel
theorem dX6_tryAhead_31 : decode cX6_tryAhead 31 = .ok (.putfield 132, 3) := by decide +kernel
theorem dX6_tryAhead_34 : decode cX6_tryAhead 34 = .ok (.iload 5, 2) := by decide +kernel
theorem dX6_tryAhead_36 : decode cX6_tryAhead 36 = .ok (.bipush 6, 2) := by decide +kernel
theorem dX6_tryAhead_38 : decode cX6_tryAhead 38 = .ok (.if_icmp .lt 4, 3) := by decide +kernel
theorem dX6_tryAhead_41 : decode cX6_tryAhead 41 = .ok (.return_, 1) := by decide +kernel
theorem dX6_tryAhead_42 : decode cX6_tryAhead 42 = .ok (.iconst 0, 1) := by decide +kernel
theorem dX6_tryAhead_43 : decode cX6_tryAhead 43 = .ok (.istore 8, 2) := by decide +kernel
theorem dX6_tryAhead_45 : decode cX6_tryAhead 45 = .ok (.iload 8, 2) := by decide +kernel
theorem dX6_tryAhead_47 : decode cX6_tryAhead 47 = .ok (.aload_n 0, 1) := by decide +kernel
theorem dX6_tryAhead_48 : decode cX6_tryAhead 48 = .ok (.getfield 43, 3) := by decide +kernel
theorem dX6_tryAhead_51 : decode cX6_tryAhead 51 = .ok (.if_icmp .ge 64, 3) := by decide +kernel
theorem dX6_tryAhead_54 : decode cX6_tryAhead 54 = .ok (.iload 8, 2) := by decide +kernel
theorem dX6_tryAhead_56 : decode cX6_tryAhead 56 = .ok (.iload_n 1, 1) := by decide +kernel
theorem dX6_tryAhead_57 : decode cX6_tryAhead 57 = .ok (.if_icmp .eq 52, 3) := by decide +kernel
theorem dX6_tryAhead_60 : decode cX6_tryAhead 60 = .ok (.aload_n 0, 1) := by decide +kernel
theorem dX6_tryAhead_61 : decode cX6_tryAhead 61 = .ok (.getfield 9, 3) := by decide +kernel
theorem dX6_tryAhead_64 : decode cX6_tryAhead 64 = .ok (.iload 8, 2) := by decide +kernel
theorem dX6_tryAhead_66 : decode cX6_tryAhead 66 = .ok (.iaload, 1) := by decide +kernel
theorem dX6_tryAhead_67 : decode cX6_tryAhead 67 = .ok (.aload_n 0, 1) := by decide +kernel
theorem dX6_tryAhead_68 : decode cX6_tryAhead 68 = .ok (.getfield 9, 3) := by decide +kernel
theorem dX6_tryAhead_71 : decode cX6_tryAhead 71 = .ok (.iload_n 1, 1) := by decide +kernel
theorem dX6_tryAhead_72 : decode cX6_tryAhead 72 = .ok (.iaload, 1) := by decide +kernel
theorem dX6_tryAhead_73 : decode cX6_tryAhead 73 = .ok (.if_icmp .ne 36, 3) := by decide +kernel
theorem dX6_tryAhead_76 : decode cX6_tryAhead 76 = .ok (.iload_n 2, 1) := by decide +kernel
theorem dX6_tryAhead_77 : decode cX6_tryAhead 77 = .ok (.iload 8, 2) := by decide +kernel
theorem dX6_tryAhead_79 : decode cX6_tryAhead 79 = .ok (.invokestatic 120, 3) := by decide +kernel
theorem dX6_tryAhead_82 : decode cX6_tryAhead 82 = .ok (.ifCond .ne 27, 3) := by decide +kernel
theorem dX6_tryAhead_85 : decode cX6_tryAhead 85 = .ok (.aload_n 0, 1) := by decide +kernel
theorem dX6_tryAhead_86 : decode cX6_tryAhead 86 = .ok (.iload_n 1, 1) := by decide +kernel
theorem dX6_tryAhead_87 : decode cX6_tryAhead 87 = .ok (.iload_n 2, 1) := by decide +kernel
theorem dX6_tryAhead_88 : decode cX6_tryAhead 88 = .ok (.iconst 1, 1) := by decide +kernel
theorem dX6_tryAhead_89 : decode cX6_tryAhead 89 = .ok (.iload 8, 2) := by decide +kernel
theorem dX6_tryAhead_91 : decode cX6_tryAhead 91 = .ok (.ishl, 1) := by decide +kernel
theorem dX6_tryAhead_92 : decode cX6_tryAhead 92 = .ok (.ior, 1) := by decide +kernel
theorem dX6_tryAhead_93 : decode cX6_tryAhead 93 = .ok (.lload_n 3, 1) := by decide +kernel
theorem dX6_tryAhead_94 : decode cX6_tryAhead 94 = .ok (.aload_n 0, 1) := by decide +kernel
theorem dX6_tryAhead_95 : decode cX6_tryAhead 95 = .ok (.iload 8, 2) := by decide +kernel
theorem dX6_tryAhead_97 : decode cX6_tryAhead 97 = .ok (.lload_n 3, 1) := by decide +kernel
theorem dX6_tryAhead_98 : decode cX6_tryAhead 98 = .ok (.invokevirtual 124, 3) := by decide +kernel
theorem dX6_tryAhead_101 : decode cX6_tryAhead 101 = .ok (.ladd, 1) := by decide +kernel
theorem dX6_tryAhead_102 : decode cX6_tryAhead 102 = .ok (.iload 5, 2) := by decide +kernel
theorem dX6_tryAhead_104 : decode cX6_tryAhead 104 = .ok (.iconst 1, 1) := by decide +kernel
theorem dX6_tryAhead_105 : decode cX6_tryAhead 105 = .ok (.iadd, 1) := by decide +kernel
theorem dX6_tryAhead_106 : decode cX6_tryAhead 106 = .ok (.invokevirtual 135, 3) := by decide +kernel
theorem dX6_tryAhead_109 : decode cX6_tryAhead 109 = .ok (.iinc 8 1, 3) := by decide +kernel
theorem dX6_tryAhead_112 : decode cX6_tryAhead 112 = .ok (.goto (-67), 3) := by decide +kernel
theorem dX6_tryAhead_115 : decode cX6_tryAhead 115 = .ok (.return_, 1) := by decide +kernel
def f_X6_tryAhead_b45 (n : Nat) (rv : Int32 → Int32 → Int64 → Int32 → m_M → Option m_M) (x1 : Int32) (x2 : Int32) (x3 : Int64) (x5 : Int32) : Nat → Int32 → m_M → Option m_M
  | 0, _, _ => none
  | u + 1, x8, M =>
    if (M.1 159 0) ≤ x8 then
  some M
  else
  if x8 = x1 then
  f_X6_tryAhead_b45 n rv x1 x2 x3 x5 u (x8 + 1) M
  else
  m_gd (m_in x8 6) (
  m_gd (m_in x1 6) (
  if (M.1 160 x8.toNatClampNeg) = (M.1 160 x1.toNatClampNeg) then
  m_bd (f_X6_isIn x2 x8) fun r6 =>
  if r6 = 0 then
  m_ob (f_X6_take x8 x3 M) fun r9 =>
  m_ob (rv x1 (x2 ||| ((1 : Int32) <<< (x8 &&& 31))) (x3 + r9) (x5 + (1 : Int32)) M) fun M10 =>
  f_X6_tryAhead_b45 n rv x1 x2 x3 x5 u (x8 + 1) M10
  else
  f_X6_tryAhead_b45 n rv x1 x2 x3 x5 u (x8 + 1) M
  else
  f_X6_tryAhead_b45 n rv x1 x2 x3 x5 u (x8 + 1) M))
def fb_X6_tryAhead (n : Nat) (rv : Int32 → Int32 → Int64 → Int32 → m_M → Option m_M) (x1 : Int32) (x2 : Int32) (x3 : Int64) (x5 : Int32) (M : m_M) : Option m_M :=
  m_ob (f_X6_take x1 x3 M) fun r11 =>
  m_bd (m_minJ (M.2 159 9) r11) fun r12 =>
  m_bd (m_sL M 159 9 r12) fun M13 =>
  m_bd (m_maxJ (M13.2 159 10) r11) fun r14 =>
  m_bd (m_sL M13 159 10 r14) fun M15 =>
  if x5 < 6 then
  f_X6_tryAhead_b45 n rv x1 x2 x3 x5 n 0 M15
  else
  some M15
set_option maxHeartbeats 4000000 in
set_option maxRecDepth 100000 in
theorem cb_X6_tryAhead (l : Launch) (G : m_G) {n : Nat} {rv : Int32 → Int32 → Int64 → Int32 → m_M → Option m_M} {x1 : Int32} {x2 : Int32} {x3 : Int64} {x5 : Int32} {M : m_M} {M0 : m_M} {fv wv : Nat} (hrv : ∀ (x1 : Int32) (x2 : Int32) (x3 : Int64) (x5 : Int32) (M M0 : m_M), rv x1 x2 x3 x5 M = some M0 → Met l yX6_tryAhead (m_U yX6_tryAhead cX6_tryAhead 9 none) (m_R fv wv) (m_Pc G [.ref (m_ad G 159), .int x1, .int x2, .long x3, .int x5] M) (m_Qv G M0) 0 0 (m_A G))  (hres : fb_X6_tryAhead n rv x1 x2 x3 x5 M = some M0) : Met l yX6_tryAhead (m_U yX6_tryAhead cX6_tryAhead 9 none) (m_R (fv + 2) (wv + 53)) (m_Pc G [.ref (m_ad G 159), .int x1, .int x2, .long x3, .int x5] M) (m_Qv G M0) 0 0 (m_A G) := by
  refine m_i0 (n := 9) RX6 rfl (by decide) (Nat.le_of_ble_eq_true rfl) ?_
  intro p e s m args below meth c X hr hlk hSt hP hS ls hl
  have hl : lv_has ls 9 [(0, .ref (m_ad G 159)), (1, .int x1), (2, .int x2), (3, .long x3), (5, .int x5)] := hl
  have B45 : ∀ (u : Nat) (x8 : Int32) (M : m_M) (H : Heap) (locs : List Loc) (ls : Array Slot), m_P G M H → va_S (m_A G) s.heap H locs → lv_has ls 9 [(0, .ref (m_ad G 159)), (1, .int x1), (2, .int x2), (3, .long x3), (5, .int x5), (8, .int x8)] → f_X6_tryAhead_b45 n rv x1 x2 x3 x5 u x8 M = some M0 → W p l e (m_R (fv + 2) (wv + 53)) s m args below meth c H locs 0 0 (MQ below (m_Qv G M0) args s 0 0 (m_A G)) (F0 m 45 ls []) := by
    intro u
    induction u with
    | zero =>
      intro x8 M H locs ls hP hS hl hres
      cases hres
    | succ u ih =>
      intro x8 M H locs ls hP hS hl hres
      rw [f_X6_tryAhead_b45] at hres
      refine lv_iload X.1 X.2.1 dX6_tryAhead_45 (lv_at hl 5 rfl) ?_
      refine lv_aload_n X.1 X.2.1 dX6_tryAhead_47 rfl (lv_at hl 0 rfl) ?_
      refine m_g6 (v := .int (M.1 159 0)) X hSt hP m_z_159 0 (by decide) rfl k_f_X6_43 dX6_tryAhead_48 ?_
      refine lv_icmp_ge (tgt := 115) X.1 X.2.1 dX6_tryAhead_51 (by decide) (fun hc1 => ?_) (fun hc1 => ?_)
      · have hres := m_it hres hc1
        exact m_rv X hr hlk hP hS (Option.some.inj hres) dX6_tryAhead_115
      · have hres := m_if hres hc1
        refine lv_iload X.1 X.2.1 dX6_tryAhead_54 (lv_at hl 5 rfl) ?_
        refine lv_iload_n X.1 X.2.1 dX6_tryAhead_56 rfl (lv_at hl 1 rfl) ?_
        refine lv_icmp_eq (tgt := 109) X.1 X.2.1 dX6_tryAhead_57 (by decide) (fun hc2 => ?_) (fun hc2 => ?_)
        · have hres := m_it hres hc2
          refine lv_iinc (v := (x8 + 1)) (lv' := [(8, .int (x8 + 1)), (0, .ref (m_ad G 159)), (1, .int x1), (2, .int x2), (3, .long x3), (5, .int x5)]) X.1 X.2.1 dX6_tryAhead_109 hl (k := 5) rfl rfl (by decide) rfl (fun ls hl => ?_)
          refine lv_goto (tgt := 45) X.1 X.2.1 dX6_tryAhead_112 (by decide) ?_
          exact ih (x8 + 1) M _ _ _ hP hS (lv_sub hl [1, 2, 3, 4, 5, 0] rfl) hres
        · have hres := m_if hres hc2
          refine lv_aload_n X.1 X.2.1 dX6_tryAhead_60 rfl (lv_at hl 0 rfl) ?_
          refine m_g6 (v := .ref (m_ad G 160)) X hSt hP m_z_159 1 (by decide) rfl k_f_X6_9 dX6_tryAhead_61 ?_
          refine lv_iload X.1 X.2.1 dX6_tryAhead_64 (lv_at hl 5 rfl) ?_
          obtain ⟨hg3, hres⟩ := m_gd_e hres
          refine m_ia (j := x8.toNatClampNeg) X hSt hP m_z_160 hg3 rfl dX6_tryAhead_66 ?_
          refine lv_aload_n X.1 X.2.1 dX6_tryAhead_67 rfl (lv_at hl 0 rfl) ?_
          refine m_g6 (v := .ref (m_ad G 160)) X hSt hP m_z_159 1 (by decide) rfl k_f_X6_9 dX6_tryAhead_68 ?_
          refine lv_iload_n X.1 X.2.1 dX6_tryAhead_71 rfl (lv_at hl 1 rfl) ?_
          obtain ⟨hg4, hres⟩ := m_gd_e hres
          refine m_ia (j := x1.toNatClampNeg) X hSt hP m_z_160 hg4 rfl dX6_tryAhead_72 ?_
          refine lv_icmp_ne (tgt := 109) X.1 X.2.1 dX6_tryAhead_73 (by decide) (fun hc5 => ?_) (fun hc5 => ?_)
          · have hres := m_if hres hc5
            refine lv_iinc (v := (x8 + 1)) (lv' := [(8, .int (x8 + 1)), (0, .ref (m_ad G 159)), (1, .int x1), (2, .int x2), (3, .long x3), (5, .int x5)]) X.1 X.2.1 dX6_tryAhead_109 hl (k := 5) rfl rfl (by decide) rfl (fun ls hl => ?_)
            refine lv_goto (tgt := 45) X.1 X.2.1 dX6_tryAhead_112 (by decide) ?_
            exact ih (x8 + 1) M _ _ _ hP hS (lv_sub hl [1, 2, 3, 4, 5, 0] rfl) hres
          · have hres := m_it hres hc5
            refine lv_iload_n X.1 X.2.1 dX6_tryAhead_76 rfl (lv_at hl 2 rfl) ?_
            refine lv_iload X.1 X.2.1 dX6_tryAhead_77 (lv_at hl 5 rfl) ?_
            obtain ⟨r6, err6, hres⟩ := m_bd_e hres
            refine m_bz (m_cS (n := 2) (As := [.int x2, .int x8]) (rest := []) X hSt hP hS hl.1 (c_X6_isIn l G (M := M)  err6) k_c_yX6_isIn k_m_X6_120 k_t_yX6_isIn k_n_X6 (by decide +kernel) rfl rfl ⟨by show 0 + 1 ≤ (fv + 2); omega, by show 8 + (2 + 11) + 0 ≤ (wv + 53); omega⟩ (Nat.le_of_ble_eq_true rfl) ⟨Nat.zero_le _, Nat.zero_le _⟩ dX6_tryAhead_79) hS (fun H locs hP hS hz7 => ?_)
            refine lv_if_ne (tgt := 109) X.1 X.2.1 dX6_tryAhead_82 (by decide) (fun hc8 => ?_) (fun hc8 => ?_)
            · have hres := m_if hres hc8
              refine lv_iinc (v := (x8 + 1)) (lv' := [(8, .int (x8 + 1)), (0, .ref (m_ad G 159)), (1, .int x1), (2, .int x2), (3, .long x3), (5, .int x5)]) X.1 X.2.1 dX6_tryAhead_109 hl (k := 5) rfl rfl (by decide) rfl (fun ls hl => ?_)
              refine lv_goto (tgt := 45) X.1 X.2.1 dX6_tryAhead_112 (by decide) ?_
              exact ih (x8 + 1) M _ _ _ hP hS (lv_sub hl [1, 2, 3, 4, 5, 0] rfl) hres
            · have hres := m_it hres hc8
              refine lv_aload_n X.1 X.2.1 dX6_tryAhead_85 rfl (lv_at hl 0 rfl) ?_
              refine lv_iload_n X.1 X.2.1 dX6_tryAhead_86 rfl (lv_at hl 1 rfl) ?_
              refine lv_iload_n X.1 X.2.1 dX6_tryAhead_87 rfl (lv_at hl 2 rfl) ?_
              refine lv_iconst (v := 1) X.1 X.2.1 dX6_tryAhead_88 (by decide) ?_
              refine lv_iload X.1 X.2.1 dX6_tryAhead_89 (lv_at hl 5 rfl) ?_
              refine lv_ishl X.1 X.2.1 dX6_tryAhead_91 ?_
              refine lv_ior X.1 X.2.1 dX6_tryAhead_92 ?_
              refine lv_lload_n X.1 X.2.1 dX6_tryAhead_93 rfl (lv_at hl 3 rfl) ?_
              refine lv_aload_n X.1 X.2.1 dX6_tryAhead_94 rfl (lv_at hl 0 rfl) ?_
              refine lv_iload X.1 X.2.1 dX6_tryAhead_95 (lv_at hl 5 rfl) ?_
              refine lv_lload_n X.1 X.2.1 dX6_tryAhead_97 rfl (lv_at hl 3 rfl) ?_
              obtain ⟨r9, err9, hres⟩ := m_ob_e hres
              refine m_bl (m_cV (n := 2) (As := [.int x8, .long x3]) (rest := [.long x3, .int (x2 ||| ((1 : Int32) <<< (x8 &&& 31))), .int x1, .ref (m_ad G 159)]) X hSt hP hS hl.1 (c_X6_take l G  err9) k_c_yX6_take k_m_X6_124 k_i_yX6_take k_s_yX6_take k_n_X6 (by decide +kernel) (m_rc6 hSt hP m_z_159) rfl rfl ⟨by show 1 + 1 ≤ (fv + 2); omega, by show 8 + (4 + 11) + 30 ≤ (wv + 53); omega⟩ (Nat.le_of_ble_eq_true rfl) ⟨Nat.zero_le _, Nat.zero_le _⟩ dX6_tryAhead_98) hS (fun H locs hP hS => ?_)
              refine lv_ladd X.1 X.2.1 dX6_tryAhead_101 ?_
              refine lv_iload X.1 X.2.1 dX6_tryAhead_102 (lv_at hl 4 rfl) ?_
              refine lv_iconst (v := 1) X.1 X.2.1 dX6_tryAhead_104 (by decide) ?_
              refine lv_iadd X.1 X.2.1 dX6_tryAhead_105 ?_
              obtain ⟨M10, eM10, hres⟩ := m_ob_e hres
              refine m_bv (m_cV (n := 4) (As := [.int x1, .int (x2 ||| ((1 : Int32) <<< (x8 &&& 31))), .long (x3 + r9), .int (x5 + (1 : Int32))]) (rest := []) X hSt hP hS hl.1 (hrv x1 (x2 ||| ((1 : Int32) <<< (x8 &&& 31))) (x3 + r9) (x5 + (1 : Int32)) M _  eM10) k_c_yX6_tryAhead k_m_X6_135 k_i_yX6_tryAhead k_s_yX6_tryAhead k_n_X6 (by decide +kernel) (m_rc6 hSt hP m_z_159) rfl rfl ⟨by show fv + 1 ≤ (fv + 2); omega, by show 8 + (9 + 11) + wv ≤ (wv + 53); omega⟩ (Nat.le_of_ble_eq_true rfl) ⟨Nat.zero_le _, Nat.zero_le _⟩ dX6_tryAhead_106) hS (fun H locs hP hS => ?_)
              refine lv_iinc (v := (x8 + 1)) (lv' := [(8, .int (x8 + 1)), (0, .ref (m_ad G 159)), (1, .int x1), (2, .int x2), (3, .long x3), (5, .int x5)]) X.1 X.2.1 dX6_tryAhead_109 hl (k := 5) rfl rfl (by decide) rfl (fun ls hl => ?_)
              refine lv_goto (tgt := 45) X.1 X.2.1 dX6_tryAhead_112 (by decide) ?_
              exact ih (x8 + 1) M10 _ _ _ hP hS (lv_sub hl [1, 2, 3, 4, 5, 0] rfl) hres
  unfold fb_X6_tryAhead at hres
  refine lv_aload_n X.1 X.2.1 dX6_tryAhead_0 rfl (lv_at hl 0 rfl) ?_
  refine lv_iload_n X.1 X.2.1 dX6_tryAhead_1 rfl (lv_at hl 1 rfl) ?_
  refine lv_lload_n X.1 X.2.1 dX6_tryAhead_2 rfl (lv_at hl 3 rfl) ?_
  obtain ⟨r11, err11, hres⟩ := m_ob_e hres
  refine m_bl (m_cV (n := 2) (As := [.int x1, .long x3]) (rest := []) X hSt hP hS hl.1 (c_X6_take l G  err11) k_c_yX6_take k_m_X6_124 k_i_yX6_take k_s_yX6_take k_n_X6 (by decide +kernel) (m_rc6 hSt hP m_z_159) rfl rfl ⟨by show 1 + 1 ≤ (fv + 2); omega, by show 8 + (4 + 11) + 30 ≤ (wv + 53); omega⟩ (Nat.le_of_ble_eq_true rfl) ⟨Nat.zero_le _, Nat.zero_le _⟩ dX6_tryAhead_3) hS (fun H locs hP hS => ?_)
  refine lv_lstore (lv' := [(6, .long r11), (0, .ref (m_ad G 159)), (1, .int x1), (2, .int x2), (3, .long x3), (5, .int x5)]) X.1 X.2.1 dX6_tryAhead_6 hl (by decide) rfl (fun ls hl => ?_)
  refine lv_aload_n X.1 X.2.1 dX6_tryAhead_8 rfl (lv_at hl 1 rfl) ?_
  refine lv_aload_n X.1 X.2.1 dX6_tryAhead_9 rfl (lv_at hl 1 rfl) ?_
  refine m_g6 (v := .long (M.2 159 9)) X hSt hP m_z_159 9 (by decide) rfl k_f_X6_128 dX6_tryAhead_10 ?_
  refine lv_lload X.1 X.2.1 dX6_tryAhead_13 (lv_at hl 0 rfl) ?_
  obtain ⟨r12, err12, hres⟩ := m_bd_e hres
  refine m_mnJ (rest := [.ref (m_ad G 159)]) X hl.1 k_m_X6_107 k_t_yJ9_min_f86c9 k_n_J9 k_c_yJ9_min_f86c9 (Nat.le_of_ble_eq_true rfl) (Nat.le_of_ble_eq_true rfl) ⟨Nat.zero_le _, Nat.zero_le _⟩ dX6_tryAhead_15 err12 ?_
  obtain ⟨M13, eM13, hres⟩ := m_bd_e hres
  refine m_pl6 X hSt hP hS m_z_159 9 (by decide) eM13 rfl rfl (by decide) k_f_X6_128 dX6_tryAhead_18 (fun H locs hP hS => ?_)
  refine lv_aload_n X.1 X.2.1 dX6_tryAhead_21 rfl (lv_at hl 1 rfl) ?_
  refine lv_aload_n X.1 X.2.1 dX6_tryAhead_22 rfl (lv_at hl 1 rfl) ?_
  refine m_g6 (v := .long (M13.2 159 10)) X hSt hP m_z_159 10 (by decide) rfl k_f_X6_132 dX6_tryAhead_23 ?_
  refine lv_lload X.1 X.2.1 dX6_tryAhead_26 (lv_at hl 0 rfl) ?_
  obtain ⟨r14, err14, hres⟩ := m_bd_e hres
  refine m_mxJ (rest := [.ref (m_ad G 159)]) X hl.1 k_m_X6_113 k_t_yJ9_max_f86c9 k_n_J9 k_c_yJ9_max_f86c9 (Nat.le_of_ble_eq_true rfl) (Nat.le_of_ble_eq_true rfl) ⟨Nat.zero_le _, Nat.zero_le _⟩ dX6_tryAhead_28 err14 ?_
  obtain ⟨M15, eM15, hres⟩ := m_bd_e hres
  refine m_pl6 X hSt hP hS m_z_159 10 (by decide) eM15 rfl rfl (by decide) k_f_X6_132 dX6_tryAhead_31 (fun H locs hP hS => ?_)
  refine lv_iload X.1 X.2.1 dX6_tryAhead_34 (lv_at hl 5 rfl) ?_
  refine lv_bipush (v := 6) X.1 X.2.1 dX6_tryAhead_36 (by decide) ?_
  refine lv_icmp_lt (tgt := 42) X.1 X.2.1 dX6_tryAhead_38 (by decide) (fun hc16 => ?_) (fun hc16 => ?_)
  · have hres := m_it hres hc16
    refine lv_iconst (v := 0) X.1 X.2.1 dX6_tryAhead_42 (by decide) ?_
    refine lv_istore (lv' := [(8, .int 0), (6, .long r11), (0, .ref (m_ad G 159)), (1, .int x1), (2, .int x2), (3, .long x3), (5, .int x5)]) X.1 X.2.1 dX6_tryAhead_43 hl (by decide) rfl (fun ls hl => ?_)
    exact B45 n 0 M15 _ _ _ hP hS (lv_sub hl [2, 3, 4, 5, 6, 0] rfl) hres
  · have hres := m_if hres hc16
    exact m_rv X hr hlk hP hS (Option.some.inj hres) dX6_tryAhead_41
def f_X6_tryAhead (n : Nat) : Nat → Int32 → Int32 → Int64 → Int32 → m_M → Option m_M
  | 0, _, _, _, _, _ => none
  | d + 1, x1, x2, x3, x5, M => fb_X6_tryAhead n (f_X6_tryAhead n d) x1 x2 x3 x5 M
theorem cd_X6_tryAhead (l : Launch) (G : m_G) {n : Nat} : ∀ (d : Nat) (x1 : Int32) (x2 : Int32) (x3 : Int64) (x5 : Int32) (M M0 : m_M), f_X6_tryAhead n d x1 x2 x3 x5 M = some M0 → Met l yX6_tryAhead (m_U yX6_tryAhead cX6_tryAhead 9 none) (m_R (2 * d) (53 * d)) (m_Pc G [.ref (m_ad G 159), .int x1, .int x2, .long x3, .int x5] M) (m_Qv G M0) 0 0 (m_A G) := by
  intro d
  induction d with
  | zero =>
    intro x1 x2 x3 x5 M M0  hres
    cases hres
  | succ d ih =>
    intro x1 x2 x3 x5 M M0  hres
    rw [f_X6_tryAhead] at hres
    have hk := cb_X6_tryAhead l G (fv := 2 * d) (wv := 53 * d) ih  hres
    rw [show 2 * (d + 1) = 2 * d + 2 from Nat.mul_succ _ _, show 53 * (d + 1) = 53 * d + 53 from Nat.mul_succ _ _]
    exact hk
theorem dX6_tryOrders_0 : decode cX6_tryOrders 0 = .ok (.aload_n 0, 1) := by decide +kernel
theorem dX6_tryOrders_1 : decode cX6_tryOrders 1 = .ok (.aload_n 0, 1) := by decide +kernel
theorem dX6_tryOrders_2 : decode cX6_tryOrders 2 = .ok (.getfield 18, 3) := by decide +kernel
theorem dX6_tryOrders_5 : decode cX6_tryOrders 5 = .ok (.iload_n 1, 1) := by decide +kernel
theorem dX6_tryOrders_6 : decode cX6_tryOrders 6 = .ok (.iaload, 1) := by decide +kernel
theorem dX6_tryOrders_7 : decode cX6_tryOrders 7 = .ok (.i2l, 1) := by decide +kernel
theorem dX6_tryOrders_8 : decode cX6_tryOrders 8 = .ok (.putfield 128, 3) := by decide +kernel
theorem dX6_tryOrders_11 : decode cX6_tryOrders 11 = .ok (.aload_n 0, 1) := by decide +kernel
theorem dX6_tryOrders_12 : decode cX6_tryOrders 12 = .ok (.lconst 0, 1) := by decide +kernel
theorem dX6_tryOrders_13 : decode cX6_tryOrders 13 = .ok (.putfield 132, 3) := by decide +kernel
theorem dX6_tryOrders_16 : decode cX6_tryOrders 16 = .ok (.aload_n 0, 1) := by decide +kernel
theorem dX6_tryOrders_17 : decode cX6_tryOrders 17 = .ok (.iload_n 1, 1) := by decide +kernel
theorem dX6_tryOrders_18 : decode cX6_tryOrders 18 = .ok (.iconst 0, 1) := by decide +kernel
theorem dX6_tryOrders_19 : decode cX6_tryOrders 19 = .ok (.lconst 0, 1) := by decide +kernel
theorem dX6_tryOrders_20 : decode cX6_tryOrders 20 = .ok (.iconst 0, 1) := by decide +kernel
theorem dX6_tryOrders_21 : decode cX6_tryOrders 21 = .ok (.invokevirtual 135, 3) := by decide +kernel
theorem dX6_tryOrders_24 : decode cX6_tryOrders 24 = .ok (.return_, 1) := by decide +kernel
def f_X6_tryOrders (n : Nat) (x1 : Int32) (M : m_M) : Option m_M :=
  m_gd (m_in x1 6) (
  m_bd (m_sL M 159 9 ((M.1 162 x1.toNatClampNeg).toInt64)) fun M2 =>
  m_bd (m_sL M2 159 10 0) fun M3 =>
  m_ob (f_X6_tryAhead n 10 x1 0 0 0 M3) fun M4 =>
  some M4)
set_option maxHeartbeats 4000000 in
set_option maxRecDepth 100000 in
theorem c_X6_tryOrders (l : Launch) (G : m_G) {n : Nat} {x1 : Int32} {M : m_M} {M0 : m_M}  (hres : f_X6_tryOrders n x1 M = some M0) : Met l yX6_tryOrders (m_U yX6_tryOrders cX6_tryOrders 2 none) (m_R 21 558) (m_Pc G [.ref (m_ad G 159), .int x1] M) (m_Qv G M0) 0 0 (m_A G) := by
  refine m_i0 (n := 2) RX6 rfl (by decide) (Nat.le_of_ble_eq_true rfl) ?_
  intro p e s m args below meth c X hr hlk hSt hP hS ls hl
  have hl : lv_has ls 2 [(0, .ref (m_ad G 159)), (1, .int x1)] := hl
  unfold f_X6_tryOrders at hres
  refine lv_aload_n X.1 X.2.1 dX6_tryOrders_0 rfl (lv_at hl 0 rfl) ?_
  refine lv_aload_n X.1 X.2.1 dX6_tryOrders_1 rfl (lv_at hl 0 rfl) ?_
  refine m_g6 (v := .ref (m_ad G 162)) X hSt hP m_z_159 3 (by decide) rfl k_f_X6_18 dX6_tryOrders_2 ?_
  refine lv_iload_n X.1 X.2.1 dX6_tryOrders_5 rfl (lv_at hl 1 rfl) ?_
  obtain ⟨hg1, hres⟩ := m_gd_e hres
  refine m_ia (j := x1.toNatClampNeg) X hSt hP m_z_162 hg1 rfl dX6_tryOrders_6 ?_
  refine lv_i2l (v := (M.1 162 x1.toNatClampNeg).toInt64) X.1 X.2.1 dX6_tryOrders_7 rfl ?_
  obtain ⟨M2, eM2, hres⟩ := m_bd_e hres
  refine m_pl6 X hSt hP hS m_z_159 9 (by decide) eM2 rfl rfl (by decide) k_f_X6_128 dX6_tryOrders_8 (fun H locs hP hS => ?_)
  refine lv_aload_n X.1 X.2.1 dX6_tryOrders_11 rfl (lv_at hl 0 rfl) ?_
  refine lv_lconst (v := 0) X.1 X.2.1 dX6_tryOrders_12 (by decide) ?_
  obtain ⟨M3, eM3, hres⟩ := m_bd_e hres
  refine m_pl6 X hSt hP hS m_z_159 10 (by decide) eM3 rfl rfl (by decide) k_f_X6_132 dX6_tryOrders_13 (fun H locs hP hS => ?_)
  refine lv_aload_n X.1 X.2.1 dX6_tryOrders_16 rfl (lv_at hl 0 rfl) ?_
  refine lv_iload_n X.1 X.2.1 dX6_tryOrders_17 rfl (lv_at hl 1 rfl) ?_
  refine lv_iconst (v := 0) X.1 X.2.1 dX6_tryOrders_18 (by decide) ?_
  refine lv_lconst (v := 0) X.1 X.2.1 dX6_tryOrders_19 (by decide) ?_
  refine lv_iconst (v := 0) X.1 X.2.1 dX6_tryOrders_20 (by decide) ?_
  obtain ⟨M4, eM4, hres⟩ := m_ob_e hres
  refine m_bv (m_cV (n := 4) (As := [.int x1, .int 0, .long 0, .int 0]) (rest := []) X hSt hP hS hl.1 (cd_X6_tryAhead l G 10 x1 0 0 0 M3 _  eM4) k_c_yX6_tryAhead k_m_X6_135 k_i_yX6_tryAhead k_s_yX6_tryAhead k_n_X6 (by decide +kernel) (m_rc6 hSt hP m_z_159) rfl rfl ⟨Nat.le_of_ble_eq_true rfl, Nat.le_of_ble_eq_true rfl⟩ (Nat.le_of_ble_eq_true rfl) ⟨Nat.zero_le _, Nat.zero_le _⟩ dX6_tryOrders_21) hS (fun H locs hP hS => ?_)
  exact m_rv X hr hlk hP hS (Option.some.inj hres) dX6_tryOrders_24
theorem dX7_orders_0 : decode cX7_orders 0 = .ok (.aload_n 0, 1) := by decide +kernel
theorem dX7_orders_1 : decode cX7_orders 1 = .ok (.iload_n 1, 1) := by decide +kernel
theorem dX7_orders_2 : decode cX7_orders 2 = .ok (.invokevirtual 227, 3) := by decide +kernel
theorem dX7_orders_5 : decode cX7_orders 5 = .ok (.ifCond .eq 19, 3) := by decide +kernel
theorem dX7_orders_8 : decode cX7_orders 8 = .ok (.iload_n 2, 1) := by decide +kernel
theorem dX7_orders_9 : decode cX7_orders 9 = .ok (.ifCond .lt 15, 3) := by decide +kernel
theorem dX7_orders_12 : decode cX7_orders 12 = .ok (.iload_n 2, 1) := by decide +kernel
theorem dX7_orders_13 : decode cX7_orders 13 = .ok (.iconst 1, 1) := by decide +kernel
theorem dX7_orders_14 : decode cX7_orders 14 = .ok (.if_icmp .gt 10, 3) := by decide +kernel
theorem dX7_orders_17 : decode cX7_orders 17 = .ok (.iload_n 3, 1) := by decide +kernel
theorem dX7_orders_18 : decode cX7_orders 18 = .ok (.invokestatic 145, 3) := by decide +kernel
theorem dX7_orders_21 : decode cX7_orders 21 = .ok (.ifCond .ne 6, 3) := by decide +kernel
theorem dX7_orders_24 : decode cX7_orders 24 = .ok (.bipush (-2), 2) := by decide +kernel
theorem dX7_orders_26 : decode cX7_orders 26 = .ok (.ireturn, 1) := by decide +kernel
theorem dX7_orders_27 : decode cX7_orders 27 = .ok (.aload_n 0, 1) := by decide +kernel
theorem dX7_orders_28 : decode cX7_orders 28 = .ok (.iload_n 3, 1) := by decide +kernel
theorem dX7_orders_29 : decode cX7_orders 29 = .ok (.invokevirtual 230, 3) := by decide +kernel
theorem dX7_orders_32 : decode cX7_orders 32 = .ok (.aload_n 0, 1) := by decide +kernel
theorem dX7_orders_33 : decode cX7_orders 33 = .ok (.getfield 36, 3) := by decide +kernel
theorem dX7_orders_36 : decode cX7_orders 36 = .ok (.iload_n 1, 1) := by decide +kernel
theorem dX7_orders_37 : decode cX7_orders 37 = .ok (.invokevirtual 236, 3) := by decide +kernel
theorem dX7_orders_40 : decode cX7_orders 40 = .ok (.iload_n 2, 1) := by decide +kernel
theorem dX7_orders_41 : decode cX7_orders 41 = .ok (.ifCond .ne 13, 3) := by decide +kernel
theorem dX7_orders_44 : decode cX7_orders 44 = .ok (.aload_n 0, 1) := by decide +kernel
theorem dX7_orders_45 : decode cX7_orders 45 = .ok (.getfield 36, 3) := by decide +kernel
theorem dX7_orders_48 : decode cX7_orders 48 = .ok (.getfield 239, 3) := by decide +kernel
theorem dX7_orders_51 : decode cX7_orders 51 = .ok (.goto 10, 3) := by decide +kernel
theorem dX7_orders_54 : decode cX7_orders 54 = .ok (.aload_n 0, 1) := by decide +kernel
theorem dX7_orders_55 : decode cX7_orders 55 = .ok (.getfield 36, 3) := by decide +kernel
theorem dX7_orders_58 : decode cX7_orders 58 = .ok (.getfield 242, 3) := by decide +kernel
theorem dX7_orders_61 : decode cX7_orders 61 = .ok (.l2i, 1) := by decide +kernel
theorem dX7_orders_62 : decode cX7_orders 62 = .ok (.ireturn, 1) := by decide +kernel
def f_X7_orders (n : Nat) (x1 : Int32) (x2 : Int32) (x3 : Int32) (M : m_M) : Option (Int32 × m_M) :=
  m_bd (f_X7_isLined x1 M) fun r1 =>
  if r1 = 0 then
  some ((-2), M)
  else
  if x2 < 0 then
  some ((-2), M)
  else
  if (1 : Int32) < x2 then
  some ((-2), M)
  else
  m_bd (f_X7_isDay x3) fun r6 =>
  if r6 = 0 then
  some ((-2), M)
  else
  m_ob (f_X7_lineUp n x3 M) fun M9 =>
  m_ob (f_X6_tryOrders n x1 M9) fun M10 =>
  if x2 = 0 then
  some ((M10.2 159 9).toInt32, M10)
  else
  some ((M10.2 159 10).toInt32, M10)
set_option maxHeartbeats 4000000 in
set_option maxRecDepth 100000 in
theorem c_X7_orders (l : Launch) (G : m_G) {n : Nat} {x1 : Int32} {x2 : Int32} {x3 : Int32} {M : m_M} {r0 : Int32} {M0 : m_M}  (hres : f_X7_orders n x1 x2 x3 M = some (r0, M0)) : Met l yX7_orders (m_U yX7_orders cX7_orders 4 (some .int)) (m_R 22 579) (m_Pc G [.ref (m_ad G 0), .int x1, .int x2, .int x3] M) (m_Qi G r0 M0) 0 0 (m_A G) := by
  refine m_i0 (n := 4) RX7 rfl (by decide) (Nat.le_of_ble_eq_true rfl) ?_
  intro p e s m args below meth c X hr hlk hSt hP hS ls hl
  have hl : lv_has ls 4 [(0, .ref (m_ad G 0)), (1, .int x1), (2, .int x2), (3, .int x3)] := hl
  unfold f_X7_orders at hres
  refine lv_aload_n X.1 X.2.1 dX7_orders_0 rfl (lv_at hl 0 rfl) ?_
  refine lv_iload_n X.1 X.2.1 dX7_orders_1 rfl (lv_at hl 1 rfl) ?_
  obtain ⟨r1, err1, hres⟩ := m_bd_e hres
  refine m_bz (m_cV (n := 1) (As := [.int x1]) (rest := []) X hSt hP hS hl.1 (c_X7_isLined l G  err1) k_c_yX7_isLined k_m_X7_227 k_i_yX7_isLined k_s_yX7_isLined k_n_X7 (by decide +kernel) (m_rc7 hSt hP m_z_0) rfl rfl ⟨Nat.le_of_ble_eq_true rfl, Nat.le_of_ble_eq_true rfl⟩ (Nat.le_of_ble_eq_true rfl) ⟨Nat.zero_le _, Nat.zero_le _⟩ dX7_orders_2) hS (fun H locs hP hS hz2 => ?_)
  refine lv_if_eq (tgt := 24) X.1 X.2.1 dX7_orders_5 (by decide) (fun hc3 => ?_) (fun hc3 => ?_)
  · have hres := m_it hres hc3
    refine lv_bipush (v := (-2)) X.1 X.2.1 dX7_orders_24 (by decide) ?_
    exact m_ri X hr hlk hP hS (Prod.mk.inj (Option.some.inj hres)).1 (Prod.mk.inj (Option.some.inj hres)).2 dX7_orders_26
  · have hres := m_if hres hc3
    refine lv_iload_n X.1 X.2.1 dX7_orders_8 rfl (lv_at hl 2 rfl) ?_
    refine lv_if_lt (tgt := 24) X.1 X.2.1 dX7_orders_9 (by decide) (fun hc4 => ?_) (fun hc4 => ?_)
    · have hres := m_it hres hc4
      refine lv_bipush (v := (-2)) X.1 X.2.1 dX7_orders_24 (by decide) ?_
      exact m_ri X hr hlk hP hS (Prod.mk.inj (Option.some.inj hres)).1 (Prod.mk.inj (Option.some.inj hres)).2 dX7_orders_26
    · have hres := m_if hres hc4
      refine lv_iload_n X.1 X.2.1 dX7_orders_12 rfl (lv_at hl 2 rfl) ?_
      refine lv_iconst (v := 1) X.1 X.2.1 dX7_orders_13 (by decide) ?_
      refine lv_icmp_gt (tgt := 24) X.1 X.2.1 dX7_orders_14 (by decide) (fun hc5 => ?_) (fun hc5 => ?_)
      · have hres := m_it hres hc5
        refine lv_bipush (v := (-2)) X.1 X.2.1 dX7_orders_24 (by decide) ?_
        exact m_ri X hr hlk hP hS (Prod.mk.inj (Option.some.inj hres)).1 (Prod.mk.inj (Option.some.inj hres)).2 dX7_orders_26
      · have hres := m_if hres hc5
        refine lv_iload_n X.1 X.2.1 dX7_orders_17 rfl (lv_at hl 3 rfl) ?_
        obtain ⟨r6, err6, hres⟩ := m_bd_e hres
        refine m_bz (m_cS (n := 1) (As := [.int x3]) (rest := []) X hSt hP hS hl.1 (c_X7_isDay l G (M := M)  err6) k_c_yX7_isDay k_m_X7_145 k_t_yX7_isDay k_n_X7 (by decide +kernel) rfl rfl ⟨Nat.le_of_ble_eq_true rfl, Nat.le_of_ble_eq_true rfl⟩ (Nat.le_of_ble_eq_true rfl) ⟨Nat.zero_le _, Nat.zero_le _⟩ dX7_orders_18) hS (fun H locs hP hS hz7 => ?_)
        refine lv_if_ne (tgt := 27) X.1 X.2.1 dX7_orders_21 (by decide) (fun hc8 => ?_) (fun hc8 => ?_)
        · have hres := m_if hres hc8
          refine lv_aload_n X.1 X.2.1 dX7_orders_27 rfl (lv_at hl 0 rfl) ?_
          refine lv_iload_n X.1 X.2.1 dX7_orders_28 rfl (lv_at hl 3 rfl) ?_
          obtain ⟨M9, eM9, hres⟩ := m_ob_e hres
          refine m_bv (m_cV (n := 1) (As := [.int x3]) (rest := []) X hSt hP hS hl.1 (c_X7_lineUp l G  eM9) k_c_yX7_lineUp k_m_X7_230 k_i_yX7_lineUp k_s_yX7_lineUp k_n_X7 (by decide +kernel) (m_rc7 hSt hP m_z_0) rfl rfl ⟨Nat.le_of_ble_eq_true rfl, Nat.le_of_ble_eq_true rfl⟩ (Nat.le_of_ble_eq_true rfl) ⟨Nat.zero_le _, Nat.zero_le _⟩ dX7_orders_29) hS (fun H locs hP hS => ?_)
          refine lv_aload_n X.1 X.2.1 dX7_orders_32 rfl (lv_at hl 0 rfl) ?_
          refine m_g7 (v := .ref (m_ad G 159)) X hSt hP m_z_0 4 (by decide) rfl k_f_X7_36 dX7_orders_33 ?_
          refine lv_iload_n X.1 X.2.1 dX7_orders_36 rfl (lv_at hl 1 rfl) ?_
          obtain ⟨M10, eM10, hres⟩ := m_ob_e hres
          refine m_bv (m_cV (n := 1) (As := [.int x1]) (rest := []) X hSt hP hS hl.1 (c_X6_tryOrders l G  eM10) k_c_yX6_tryOrders k_m_X7_236 k_i_yX6_tryOrders k_s_yX6_tryOrders k_n_X6 (by decide +kernel) (m_rc6 hSt hP m_z_159) rfl rfl ⟨Nat.le_of_ble_eq_true rfl, Nat.le_of_ble_eq_true rfl⟩ (Nat.le_of_ble_eq_true rfl) ⟨Nat.zero_le _, Nat.zero_le _⟩ dX7_orders_37) hS (fun H locs hP hS => ?_)
          refine lv_iload_n X.1 X.2.1 dX7_orders_40 rfl (lv_at hl 2 rfl) ?_
          refine lv_if_ne (tgt := 54) X.1 X.2.1 dX7_orders_41 (by decide) (fun hc11 => ?_) (fun hc11 => ?_)
          · have hres := m_if hres hc11
            refine lv_aload_n X.1 X.2.1 dX7_orders_54 rfl (lv_at hl 0 rfl) ?_
            refine m_g7 (v := .ref (m_ad G 159)) X hSt hP m_z_0 4 (by decide) rfl k_f_X7_36 dX7_orders_55 ?_
            refine m_g6 (v := .long (M10.2 159 10)) X hSt hP m_z_159 10 (by decide) rfl k_f_X7_242 dX7_orders_58 ?_
            refine lv_l2i (v := (M10.2 159 10).toInt32) X.1 X.2.1 dX7_orders_61 rfl ?_
            exact m_ri X hr hlk hP hS (Prod.mk.inj (Option.some.inj hres)).1 (Prod.mk.inj (Option.some.inj hres)).2 dX7_orders_62
          · have hres := m_it hres hc11
            refine lv_aload_n X.1 X.2.1 dX7_orders_44 rfl (lv_at hl 0 rfl) ?_
            refine m_g7 (v := .ref (m_ad G 159)) X hSt hP m_z_0 4 (by decide) rfl k_f_X7_36 dX7_orders_45 ?_
            refine m_g6 (v := .long (M10.2 159 9)) X hSt hP m_z_159 9 (by decide) rfl k_f_X7_239 dX7_orders_48 ?_
            refine lv_goto (tgt := 61) X.1 X.2.1 dX7_orders_51 (by decide) ?_
            refine lv_l2i (v := (M10.2 159 9).toInt32) X.1 X.2.1 dX7_orders_61 rfl ?_
            exact m_ri X hr hlk hP hS (Prod.mk.inj (Option.some.inj hres)).1 (Prod.mk.inj (Option.some.inj hres)).2 dX7_orders_62
        · have hres := m_it hres hc8
          refine lv_bipush (v := (-2)) X.1 X.2.1 dX7_orders_24 (by decide) ?_
          exact m_ri X hr hlk hP hS (Prod.mk.inj (Option.some.inj hres)).1 (Prod.mk.inj (Option.some.inj hres)).2 dX7_orders_26
theorem dX7_owed_0 : decode cX7_owed 0 = .ok (.aload_n 0, 1) := by decide +kernel
theorem dX7_owed_1 : decode cX7_owed 1 = .ok (.iload_n 1, 1) := by decide +kernel
theorem dX7_owed_2 : decode cX7_owed 2 = .ok (.invokevirtual 184, 3) := by decide +kernel
theorem dX7_owed_5 : decode cX7_owed 5 = .ok (.ifCond .eq 10, 3) := by decide +kernel
theorem dX7_owed_8 : decode cX7_owed 8 = .ok (.iload_n 2, 1) := by decide +kernel
theorem dX7_owed_9 : decode cX7_owed 9 = .ok (.invokestatic 145, 3) := by decide +kernel
theorem dX7_owed_12 : decode cX7_owed 12 = .ok (.ifCond .ne 6, 3) := by decide +kernel
theorem dX7_owed_15 : decode cX7_owed 15 = .ok (.bipush (-2), 2) := by decide +kernel
theorem dX7_owed_17 : decode cX7_owed 17 = .ok (.ireturn, 1) := by decide +kernel
theorem dX7_owed_18 : decode cX7_owed 18 = .ok (.aload_n 0, 1) := by decide +kernel
theorem dX7_owed_19 : decode cX7_owed 19 = .ok (.getfield 29, 3) := by decide +kernel
theorem dX7_owed_22 : decode cX7_owed 22 = .ok (.iload_n 2, 1) := by decide +kernel
theorem dX7_owed_23 : decode cX7_owed 23 = .ok (.iconst 0, 1) := by decide +kernel
theorem dX7_owed_24 : decode cX7_owed 24 = .ok (.invokevirtual 148, 3) := by decide +kernel
theorem dX7_owed_27 : decode cX7_owed 27 = .ok (.aload_n 0, 1) := by decide +kernel
theorem dX7_owed_28 : decode cX7_owed 28 = .ok (.getfield 29, 3) := by decide +kernel
theorem dX7_owed_31 : decode cX7_owed 31 = .ok (.iload_n 1, 1) := by decide +kernel
theorem dX7_owed_32 : decode cX7_owed 32 = .ok (.invokevirtual 187, 3) := by decide +kernel
theorem dX7_owed_35 : decode cX7_owed 35 = .ok (.ifCond .eq 18, 3) := by decide +kernel
theorem dX7_owed_38 : decode cX7_owed 38 = .ok (.aload_n 0, 1) := by decide +kernel
theorem dX7_owed_39 : decode cX7_owed 39 = .ok (.getfield 29, 3) := by decide +kernel
theorem dX7_owed_42 : decode cX7_owed 42 = .ok (.getfield 190, 3) := by decide +kernel
theorem dX7_owed_45 : decode cX7_owed 45 = .ok (.iload_n 1, 1) := by decide +kernel
theorem dX7_owed_46 : decode cX7_owed 46 = .ok (.aaload, 1) := by decide +kernel
theorem dX7_owed_47 : decode cX7_owed 47 = .ok (.invokevirtual 194, 3) := by decide +kernel
theorem dX7_owed_50 : decode cX7_owed 50 = .ok (.goto 5, 3) := by decide +kernel
theorem dX7_owed_53 : decode cX7_owed 53 = .ok (.bipush (-3), 2) := by decide +kernel
theorem dX7_owed_55 : decode cX7_owed 55 = .ok (.ireturn, 1) := by decide +kernel
def f_X7_owed (n : Nat) (x1 : Int32) (x2 : Int32) (M : m_M) : Option (Int32 × m_M) :=
  m_bd (f_X7_isDeal x1 M) fun r1 =>
  if r1 = 0 then
  some ((-2), M)
  else
  m_bd (f_X7_isDay x2) fun r4 =>
  if r4 = 0 then
  some ((-2), M)
  else
  m_ob (f_X1_replay n x2 0 M) fun M7 =>
  m_bd (f_X1_isThere x1 M7) fun r8 =>
  if r8 = 0 then
  some ((-3), M7)
  else
  m_gd (m_in x1 60) (
  m_bd (f_X0_left (99 + x1.toNatClampNeg) M7) fun r12 =>
  some (r12, M7))
set_option maxHeartbeats 4000000 in
set_option maxRecDepth 100000 in
theorem c_X7_owed (l : Launch) (G : m_G) {n : Nat} {x1 : Int32} {x2 : Int32} {M : m_M} {r0 : Int32} {M0 : m_M}  (hres : f_X7_owed n x1 x2 M = some (r0, M0)) : Met l yX7_owed (m_U yX7_owed cX7_owed 3 (some .int)) (m_R 6 135) (m_Pc G [.ref (m_ad G 0), .int x1, .int x2] M) (m_Qi G r0 M0) 0 0 (m_A G) := by
  refine m_i0 (n := 3) RX7 rfl (by decide) (Nat.le_of_ble_eq_true rfl) ?_
  intro p e s m args below meth c X hr hlk hSt hP hS ls hl
  have hl : lv_has ls 3 [(0, .ref (m_ad G 0)), (1, .int x1), (2, .int x2)] := hl
  unfold f_X7_owed at hres
  refine lv_aload_n X.1 X.2.1 dX7_owed_0 rfl (lv_at hl 0 rfl) ?_
  refine lv_iload_n X.1 X.2.1 dX7_owed_1 rfl (lv_at hl 1 rfl) ?_
  obtain ⟨r1, err1, hres⟩ := m_bd_e hres
  refine m_bz (m_cV (n := 1) (As := [.int x1]) (rest := []) X hSt hP hS hl.1 (c_X7_isDeal l G  err1) k_c_yX7_isDeal k_m_X7_184 k_i_yX7_isDeal k_s_yX7_isDeal k_n_X7 (by decide +kernel) (m_rc7 hSt hP m_z_0) rfl rfl ⟨Nat.le_of_ble_eq_true rfl, Nat.le_of_ble_eq_true rfl⟩ (Nat.le_of_ble_eq_true rfl) ⟨Nat.zero_le _, Nat.zero_le _⟩ dX7_owed_2) hS (fun H locs hP hS hz2 => ?_)
  refine lv_if_eq (tgt := 15) X.1 X.2.1 dX7_owed_5 (by decide) (fun hc3 => ?_) (fun hc3 => ?_)
  · have hres := m_it hres hc3
    refine lv_bipush (v := (-2)) X.1 X.2.1 dX7_owed_15 (by decide) ?_
    exact m_ri X hr hlk hP hS (Prod.mk.inj (Option.some.inj hres)).1 (Prod.mk.inj (Option.some.inj hres)).2 dX7_owed_17
  · have hres := m_if hres hc3
    refine lv_iload_n X.1 X.2.1 dX7_owed_8 rfl (lv_at hl 2 rfl) ?_
    obtain ⟨r4, err4, hres⟩ := m_bd_e hres
    refine m_bz (m_cS (n := 1) (As := [.int x2]) (rest := []) X hSt hP hS hl.1 (c_X7_isDay l G (M := M)  err4) k_c_yX7_isDay k_m_X7_145 k_t_yX7_isDay k_n_X7 (by decide +kernel) rfl rfl ⟨Nat.le_of_ble_eq_true rfl, Nat.le_of_ble_eq_true rfl⟩ (Nat.le_of_ble_eq_true rfl) ⟨Nat.zero_le _, Nat.zero_le _⟩ dX7_owed_9) hS (fun H locs hP hS hz5 => ?_)
    refine lv_if_ne (tgt := 18) X.1 X.2.1 dX7_owed_12 (by decide) (fun hc6 => ?_) (fun hc6 => ?_)
    · have hres := m_if hres hc6
      refine lv_aload_n X.1 X.2.1 dX7_owed_18 rfl (lv_at hl 0 rfl) ?_
      refine m_g7 (v := .ref (m_ad G 45)) X hSt hP m_z_0 3 (by decide) rfl k_f_X7_29 dX7_owed_19 ?_
      refine lv_iload_n X.1 X.2.1 dX7_owed_22 rfl (lv_at hl 2 rfl) ?_
      refine lv_iconst (v := 0) X.1 X.2.1 dX7_owed_23 (by decide) ?_
      obtain ⟨M7, eM7, hres⟩ := m_ob_e hres
      refine m_bv (m_cV (n := 2) (As := [.int x2, .int 0]) (rest := []) X hSt hP hS hl.1 (c_X1_replay l G  eM7) k_c_yX1_replay k_m_X7_148 k_i_yX1_replay k_s_yX1_replay k_n_X1 (by decide +kernel) (m_rc1 hSt hP m_z_45) rfl rfl ⟨Nat.le_of_ble_eq_true rfl, Nat.le_of_ble_eq_true rfl⟩ (Nat.le_of_ble_eq_true rfl) ⟨Nat.zero_le _, Nat.zero_le _⟩ dX7_owed_24) hS (fun H locs hP hS => ?_)
      refine lv_aload_n X.1 X.2.1 dX7_owed_27 rfl (lv_at hl 0 rfl) ?_
      refine m_g7 (v := .ref (m_ad G 45)) X hSt hP m_z_0 3 (by decide) rfl k_f_X7_29 dX7_owed_28 ?_
      refine lv_iload_n X.1 X.2.1 dX7_owed_31 rfl (lv_at hl 1 rfl) ?_
      obtain ⟨r8, err8, hres⟩ := m_bd_e hres
      refine m_bz (m_cV (n := 1) (As := [.int x1]) (rest := []) X hSt hP hS hl.1 (c_X1_isThere l G  err8) k_c_yX1_isThere k_m_X7_187 k_i_yX1_isThere k_s_yX1_isThere k_n_X1 (by decide +kernel) (m_rc1 hSt hP m_z_45) rfl rfl ⟨Nat.le_of_ble_eq_true rfl, Nat.le_of_ble_eq_true rfl⟩ (Nat.le_of_ble_eq_true rfl) ⟨Nat.zero_le _, Nat.zero_le _⟩ dX7_owed_32) hS (fun H locs hP hS hz9 => ?_)
      refine lv_if_eq (tgt := 53) X.1 X.2.1 dX7_owed_35 (by decide) (fun hc10 => ?_) (fun hc10 => ?_)
      · have hres := m_it hres hc10
        refine lv_bipush (v := (-3)) X.1 X.2.1 dX7_owed_53 (by decide) ?_
        exact m_ri X hr hlk hP hS (Prod.mk.inj (Option.some.inj hres)).1 (Prod.mk.inj (Option.some.inj hres)).2 dX7_owed_55
      · have hres := m_if hres hc10
        refine lv_aload_n X.1 X.2.1 dX7_owed_38 rfl (lv_at hl 0 rfl) ?_
        refine m_g7 (v := .ref (m_ad G 45)) X hSt hP m_z_0 3 (by decide) rfl k_f_X7_29 dX7_owed_39 ?_
        refine m_g1 (v := .ref (m_ad G 47)) X hSt hP m_z_45 2 (by decide) rfl k_f_X7_190 dX7_owed_42 ?_
        refine lv_iload_n X.1 X.2.1 dX7_owed_45 rfl (lv_at hl 1 rfl) ?_
        obtain ⟨hg11, hres⟩ := m_gd_e hres
        refine m_qa3 (j := x1.toNatClampNeg) X hSt hP m_z_47 hg11 rfl dX7_owed_46 ?_
        obtain ⟨r12, err12, hres⟩ := m_bd_e hres
        refine m_bi (m_cV (n := 0) (As := []) (rest := []) X hSt hP hS hl.1 (c_X0_left l G (m_deal_of hg11) err12) k_c_yX0_left k_m_X7_194 k_i_yX0_left k_s_yX0_left k_n_X0 (by decide +kernel) (m_rc0 hSt hP (m_deal_of hg11)) rfl rfl ⟨Nat.le_of_ble_eq_true rfl, Nat.le_of_ble_eq_true rfl⟩ (Nat.le_of_ble_eq_true rfl) ⟨Nat.zero_le _, Nat.zero_le _⟩ dX7_owed_47) hS (fun H locs hP hS => ?_)
        refine lv_goto (tgt := 55) X.1 X.2.1 dX7_owed_50 (by decide) ?_
        exact m_ri X hr hlk hP hS (Prod.mk.inj (Option.some.inj hres)).1 (Prod.mk.inj (Option.some.inj hres)).2 dX7_owed_55
    · have hres := m_it hres hc6
      refine lv_bipush (v := (-2)) X.1 X.2.1 dX7_owed_15 (by decide) ?_
      exact m_ri X hr hlk hP hS (Prod.mk.inj (Option.some.inj hres)).1 (Prod.mk.inj (Option.some.inj hres)).2 dX7_owed_17
theorem dX7_own_0 : decode cX7_own 0 = .ok (.aload_n 0, 1) := by decide +kernel
theorem dX7_own_1 : decode cX7_own 1 = .ok (.iload_n 1, 1) := by decide +kernel
theorem dX7_own_2 : decode cX7_own 2 = .ok (.invokevirtual 142, 3) := by decide +kernel
theorem dX7_own_5 : decode cX7_own 5 = .ok (.ifCond .eq 19, 3) := by decide +kernel
theorem dX7_own_8 : decode cX7_own 8 = .ok (.iload_n 2, 1) := by decide +kernel
theorem dX7_own_9 : decode cX7_own 9 = .ok (.ifCond .lt 15, 3) := by decide +kernel
theorem dX7_own_12 : decode cX7_own 12 = .ok (.iload_n 2, 1) := by decide +kernel
theorem dX7_own_13 : decode cX7_own 13 = .ok (.iconst 2, 1) := by decide +kernel
theorem dX7_own_14 : decode cX7_own 14 = .ok (.if_icmp .gt 10, 3) := by decide +kernel
theorem dX7_own_17 : decode cX7_own 17 = .ok (.iload_n 3, 1) := by decide +kernel
theorem dX7_own_18 : decode cX7_own 18 = .ok (.invokestatic 145, 3) := by decide +kernel
theorem dX7_own_21 : decode cX7_own 21 = .ok (.ifCond .ne 6, 3) := by decide +kernel
theorem dX7_own_24 : decode cX7_own 24 = .ok (.bipush (-2), 2) := by decide +kernel
theorem dX7_own_26 : decode cX7_own 26 = .ok (.ireturn, 1) := by decide +kernel
theorem dX7_own_27 : decode cX7_own 27 = .ok (.aload_n 0, 1) := by decide +kernel
theorem dX7_own_28 : decode cX7_own 28 = .ok (.getfield 29, 3) := by decide +kernel
theorem dX7_own_31 : decode cX7_own 31 = .ok (.iload_n 3, 1) := by decide +kernel
theorem dX7_own_32 : decode cX7_own 32 = .ok (.iconst 0, 1) := by decide +kernel
theorem dX7_own_33 : decode cX7_own 33 = .ok (.invokevirtual 168, 3) := by decide +kernel
theorem dX7_own_36 : decode cX7_own 36 = .ok (.iload_n 2, 1) := by decide +kernel
theorem dX7_own_37 : decode cX7_own 37 = .ok (.ifCond .ne 16, 3) := by decide +kernel
theorem dX7_own_40 : decode cX7_own 40 = .ok (.aload_n 0, 1) := by decide +kernel
theorem dX7_own_41 : decode cX7_own 41 = .ok (.getfield 29, 3) := by decide +kernel
theorem dX7_own_44 : decode cX7_own 44 = .ok (.getfield 152, 3) := by decide +kernel
theorem dX7_own_47 : decode cX7_own 47 = .ok (.iload_n 1, 1) := by decide +kernel
theorem dX7_own_48 : decode cX7_own 48 = .ok (.aaload, 1) := by decide +kernel
theorem dX7_own_49 : decode cX7_own 49 = .ok (.getfield 171, 3) := by decide +kernel
theorem dX7_own_52 : decode cX7_own 52 = .ok (.ireturn, 1) := by decide +kernel
theorem dX7_own_53 : decode cX7_own 53 = .ok (.iload_n 2, 1) := by decide +kernel
theorem dX7_own_54 : decode cX7_own 54 = .ok (.iconst 1, 1) := by decide +kernel
theorem dX7_own_55 : decode cX7_own 55 = .ok (.if_icmp .ne 14, 3) := by decide +kernel
theorem dX7_own_58 : decode cX7_own 58 = .ok (.aload_n 0, 1) := by decide +kernel
theorem dX7_own_59 : decode cX7_own 59 = .ok (.getfield 29, 3) := by decide +kernel
theorem dX7_own_62 : decode cX7_own 62 = .ok (.iload_n 1, 1) := by decide +kernel
theorem dX7_own_63 : decode cX7_own 63 = .ok (.invokevirtual 174, 3) := by decide +kernel
theorem dX7_own_66 : decode cX7_own 66 = .ok (.goto 11, 3) := by decide +kernel
theorem dX7_own_69 : decode cX7_own 69 = .ok (.aload_n 0, 1) := by decide +kernel
theorem dX7_own_70 : decode cX7_own 70 = .ok (.getfield 29, 3) := by decide +kernel
theorem dX7_own_73 : decode cX7_own 73 = .ok (.iload_n 1, 1) := by decide +kernel
theorem dX7_own_74 : decode cX7_own 74 = .ok (.invokevirtual 177, 3) := by decide +kernel
theorem dX7_own_77 : decode cX7_own 77 = .ok (.ireturn, 1) := by decide +kernel
def f_X7_own (n : Nat) (x1 : Int32) (x2 : Int32) (x3 : Int32) (M : m_M) : Option (Int32 × m_M) :=
  m_bd (f_X7_isPerson x1 M) fun r1 =>
  if r1 = 0 then
  some ((-2), M)
  else
  if x2 < 0 then
  some ((-2), M)
  else
  if (2 : Int32) < x2 then
  some ((-2), M)
  else
  m_bd (f_X7_isDay x3) fun r6 =>
  if r6 = 0 then
  some ((-2), M)
  else
  m_ob (f_X1_reckon n x3 0 M) fun M9 =>
  if x2 = 0 then
  m_gd (m_in x1 10) (
  some ((M9.1 (49 + 5 * x1.toNatClampNeg) 5), M9))
  else
  if x2 = 1 then
  m_ob (f_X1_debtToHolder x1 M9) fun r13 =>
  some (r13, M9)
  else
  m_ob (f_X1_debtToFellows n x1 M9) fun r12 =>
  some (r12, M9)
set_option maxHeartbeats 4000000 in
set_option maxRecDepth 100000 in
theorem c_X7_own (l : Launch) (G : m_G) {n : Nat} {x1 : Int32} {x2 : Int32} {x3 : Int32} {M : m_M} {r0 : Int32} {M0 : m_M}  (hres : f_X7_own n x1 x2 x3 M = some (r0, M0)) : Met l yX7_own (m_U yX7_own cX7_own 4 (some .int)) (m_R 7 157) (m_Pc G [.ref (m_ad G 0), .int x1, .int x2, .int x3] M) (m_Qi G r0 M0) 0 0 (m_A G) := by
  refine m_i0 (n := 4) RX7 rfl (by decide) (Nat.le_of_ble_eq_true rfl) ?_
  intro p e s m args below meth c X hr hlk hSt hP hS ls hl
  have hl : lv_has ls 4 [(0, .ref (m_ad G 0)), (1, .int x1), (2, .int x2), (3, .int x3)] := hl
  unfold f_X7_own at hres
  refine lv_aload_n X.1 X.2.1 dX7_own_0 rfl (lv_at hl 0 rfl) ?_
  refine lv_iload_n X.1 X.2.1 dX7_own_1 rfl (lv_at hl 1 rfl) ?_
  obtain ⟨r1, err1, hres⟩ := m_bd_e hres
  refine m_bz (m_cV (n := 1) (As := [.int x1]) (rest := []) X hSt hP hS hl.1 (c_X7_isPerson l G  err1) k_c_yX7_isPerson k_m_X7_142 k_i_yX7_isPerson k_s_yX7_isPerson k_n_X7 (by decide +kernel) (m_rc7 hSt hP m_z_0) rfl rfl ⟨Nat.le_of_ble_eq_true rfl, Nat.le_of_ble_eq_true rfl⟩ (Nat.le_of_ble_eq_true rfl) ⟨Nat.zero_le _, Nat.zero_le _⟩ dX7_own_2) hS (fun H locs hP hS hz2 => ?_)
  refine lv_if_eq (tgt := 24) X.1 X.2.1 dX7_own_5 (by decide) (fun hc3 => ?_) (fun hc3 => ?_)
  · have hres := m_it hres hc3
    refine lv_bipush (v := (-2)) X.1 X.2.1 dX7_own_24 (by decide) ?_
    exact m_ri X hr hlk hP hS (Prod.mk.inj (Option.some.inj hres)).1 (Prod.mk.inj (Option.some.inj hres)).2 dX7_own_26
  · have hres := m_if hres hc3
    refine lv_iload_n X.1 X.2.1 dX7_own_8 rfl (lv_at hl 2 rfl) ?_
    refine lv_if_lt (tgt := 24) X.1 X.2.1 dX7_own_9 (by decide) (fun hc4 => ?_) (fun hc4 => ?_)
    · have hres := m_it hres hc4
      refine lv_bipush (v := (-2)) X.1 X.2.1 dX7_own_24 (by decide) ?_
      exact m_ri X hr hlk hP hS (Prod.mk.inj (Option.some.inj hres)).1 (Prod.mk.inj (Option.some.inj hres)).2 dX7_own_26
    · have hres := m_if hres hc4
      refine lv_iload_n X.1 X.2.1 dX7_own_12 rfl (lv_at hl 2 rfl) ?_
      refine lv_iconst (v := 2) X.1 X.2.1 dX7_own_13 (by decide) ?_
      refine lv_icmp_gt (tgt := 24) X.1 X.2.1 dX7_own_14 (by decide) (fun hc5 => ?_) (fun hc5 => ?_)
      · have hres := m_it hres hc5
        refine lv_bipush (v := (-2)) X.1 X.2.1 dX7_own_24 (by decide) ?_
        exact m_ri X hr hlk hP hS (Prod.mk.inj (Option.some.inj hres)).1 (Prod.mk.inj (Option.some.inj hres)).2 dX7_own_26
      · have hres := m_if hres hc5
        refine lv_iload_n X.1 X.2.1 dX7_own_17 rfl (lv_at hl 3 rfl) ?_
        obtain ⟨r6, err6, hres⟩ := m_bd_e hres
        refine m_bz (m_cS (n := 1) (As := [.int x3]) (rest := []) X hSt hP hS hl.1 (c_X7_isDay l G (M := M)  err6) k_c_yX7_isDay k_m_X7_145 k_t_yX7_isDay k_n_X7 (by decide +kernel) rfl rfl ⟨Nat.le_of_ble_eq_true rfl, Nat.le_of_ble_eq_true rfl⟩ (Nat.le_of_ble_eq_true rfl) ⟨Nat.zero_le _, Nat.zero_le _⟩ dX7_own_18) hS (fun H locs hP hS hz7 => ?_)
        refine lv_if_ne (tgt := 27) X.1 X.2.1 dX7_own_21 (by decide) (fun hc8 => ?_) (fun hc8 => ?_)
        · have hres := m_if hres hc8
          refine lv_aload_n X.1 X.2.1 dX7_own_27 rfl (lv_at hl 0 rfl) ?_
          refine m_g7 (v := .ref (m_ad G 45)) X hSt hP m_z_0 3 (by decide) rfl k_f_X7_29 dX7_own_28 ?_
          refine lv_iload_n X.1 X.2.1 dX7_own_31 rfl (lv_at hl 3 rfl) ?_
          refine lv_iconst (v := 0) X.1 X.2.1 dX7_own_32 (by decide) ?_
          obtain ⟨M9, eM9, hres⟩ := m_ob_e hres
          refine m_bv (m_cV (n := 2) (As := [.int x3, .int 0]) (rest := []) X hSt hP hS hl.1 (c_X1_reckon l G  eM9) k_c_yX1_reckon k_m_X7_168 k_i_yX1_reckon k_s_yX1_reckon k_n_X1 (by decide +kernel) (m_rc1 hSt hP m_z_45) rfl rfl ⟨Nat.le_of_ble_eq_true rfl, Nat.le_of_ble_eq_true rfl⟩ (Nat.le_of_ble_eq_true rfl) ⟨Nat.zero_le _, Nat.zero_le _⟩ dX7_own_33) hS (fun H locs hP hS => ?_)
          refine lv_iload_n X.1 X.2.1 dX7_own_36 rfl (lv_at hl 2 rfl) ?_
          refine lv_if_ne (tgt := 53) X.1 X.2.1 dX7_own_37 (by decide) (fun hc10 => ?_) (fun hc10 => ?_)
          · have hres := m_if hres hc10
            refine lv_iload_n X.1 X.2.1 dX7_own_53 rfl (lv_at hl 2 rfl) ?_
            refine lv_iconst (v := 1) X.1 X.2.1 dX7_own_54 (by decide) ?_
            refine lv_icmp_ne (tgt := 69) X.1 X.2.1 dX7_own_55 (by decide) (fun hc11 => ?_) (fun hc11 => ?_)
            · have hres := m_if hres hc11
              refine lv_aload_n X.1 X.2.1 dX7_own_69 rfl (lv_at hl 0 rfl) ?_
              refine m_g7 (v := .ref (m_ad G 45)) X hSt hP m_z_0 3 (by decide) rfl k_f_X7_29 dX7_own_70 ?_
              refine lv_iload_n X.1 X.2.1 dX7_own_73 rfl (lv_at hl 1 rfl) ?_
              obtain ⟨r12, err12, hres⟩ := m_ob_e hres
              refine m_bi (m_cV (n := 1) (As := [.int x1]) (rest := []) X hSt hP hS hl.1 (c_X1_debtToFellows l G  err12) k_c_yX1_debtToFellows k_m_X7_177 k_i_yX1_debtToFellows k_s_yX1_debtToFellows k_n_X1 (by decide +kernel) (m_rc1 hSt hP m_z_45) rfl rfl ⟨Nat.le_of_ble_eq_true rfl, Nat.le_of_ble_eq_true rfl⟩ (Nat.le_of_ble_eq_true rfl) ⟨Nat.zero_le _, Nat.zero_le _⟩ dX7_own_74) hS (fun H locs hP hS => ?_)
              exact m_ri X hr hlk hP hS (Prod.mk.inj (Option.some.inj hres)).1 (Prod.mk.inj (Option.some.inj hres)).2 dX7_own_77
            · have hres := m_it hres hc11
              refine lv_aload_n X.1 X.2.1 dX7_own_58 rfl (lv_at hl 0 rfl) ?_
              refine m_g7 (v := .ref (m_ad G 45)) X hSt hP m_z_0 3 (by decide) rfl k_f_X7_29 dX7_own_59 ?_
              refine lv_iload_n X.1 X.2.1 dX7_own_62 rfl (lv_at hl 1 rfl) ?_
              obtain ⟨r13, err13, hres⟩ := m_ob_e hres
              refine m_bi (m_cV (n := 1) (As := [.int x1]) (rest := []) X hSt hP hS hl.1 (c_X1_debtToHolder l G  err13) k_c_yX1_debtToHolder k_m_X7_174 k_i_yX1_debtToHolder k_s_yX1_debtToHolder k_n_X1 (by decide +kernel) (m_rc1 hSt hP m_z_45) rfl rfl ⟨Nat.le_of_ble_eq_true rfl, Nat.le_of_ble_eq_true rfl⟩ (Nat.le_of_ble_eq_true rfl) ⟨Nat.zero_le _, Nat.zero_le _⟩ dX7_own_63) hS (fun H locs hP hS => ?_)
              refine lv_goto (tgt := 77) X.1 X.2.1 dX7_own_66 (by decide) ?_
              exact m_ri X hr hlk hP hS (Prod.mk.inj (Option.some.inj hres)).1 (Prod.mk.inj (Option.some.inj hres)).2 dX7_own_77
          · have hres := m_it hres hc10
            refine lv_aload_n X.1 X.2.1 dX7_own_40 rfl (lv_at hl 0 rfl) ?_
            refine m_g7 (v := .ref (m_ad G 45)) X hSt hP m_z_0 3 (by decide) rfl k_f_X7_29 dX7_own_41 ?_
            refine m_g1 (v := .ref (m_ad G 46)) X hSt hP m_z_45 1 (by decide) rfl k_f_X7_152 dX7_own_44 ?_
            refine lv_iload_n X.1 X.2.1 dX7_own_47 rfl (lv_at hl 1 rfl) ?_
            obtain ⟨hg14, hres⟩ := m_gd_e hres
            refine m_qa6 (j := x1.toNatClampNeg) X hSt hP m_z_46 hg14 rfl dX7_own_48 ?_
            refine m_g5 (v := .int (M9.1 (49 + 5 * x1.toNatClampNeg) 5)) X hSt hP (m_person_of hg14).1 5 (by decide) rfl k_f_X7_171 dX7_own_49 ?_
            exact m_ri X hr hlk hP hS (Prod.mk.inj (Option.some.inj hres)).1 (Prod.mk.inj (Option.some.inj hres)).2 dX7_own_52
        · have hres := m_it hres hc8
          refine lv_bipush (v := (-2)) X.1 X.2.1 dX7_own_24 (by decide) ?_
          exact m_ri X hr hlk hP hS (Prod.mk.inj (Option.some.inj hres)).1 (Prod.mk.inj (Option.some.inj hres)).2 dX7_own_26
theorem dX7_part_0 : decode cX7_part 0 = .ok (.iload_n 1, 1) := by decide +kernel
theorem dX7_part_1 : decode cX7_part 1 = .ok (.ifCond .lt 8, 3) := by decide +kernel
theorem dX7_part_4 : decode cX7_part 4 = .ok (.iload_n 1, 1) := by decide +kernel
theorem dX7_part_5 : decode cX7_part 5 = .ok (.iconst 1, 1) := by decide +kernel
theorem dX7_part_6 : decode cX7_part 6 = .ok (.if_icmp .le 7, 3) := by decide +kernel
theorem dX7_part_9 : decode cX7_part 9 = .ok (.ldc2_w 268, 3) := by decide +kernel
theorem dX7_part_12 : decode cX7_part 12 = .ok (.lreturn, 1) := by decide +kernel
theorem dX7_part_13 : decode cX7_part 13 = .ok (.iload_n 1, 1) := by decide +kernel
theorem dX7_part_14 : decode cX7_part 14 = .ok (.ifCond .ne 10, 3) := by decide +kernel
theorem dX7_part_17 : decode cX7_part 17 = .ok (.aload_n 0, 1) := by decide +kernel
theorem dX7_part_18 : decode cX7_part 18 = .ok (.getfield 54, 3) := by decide +kernel
theorem dX7_part_21 : decode cX7_part 21 = .ok (.goto 7, 3) := by decide +kernel
theorem dX7_part_24 : decode cX7_part 24 = .ok (.aload_n 0, 1) := by decide +kernel
theorem dX7_part_25 : decode cX7_part 25 = .ok (.getfield 58, 3) := by decide +kernel
theorem dX7_part_28 : decode cX7_part 28 = .ok (.lreturn, 1) := by decide +kernel
def f_X7_part (x1 : Int32) (M : m_M) : Int64 :=
  if x1 < 0 then
  (-1)
  else
  if x1 ≤ 1 then
  if x1 = 0 then
  (M.2 0 8)
  else
  (M.2 0 9)
  else
  (-1)
set_option maxHeartbeats 4000000 in
set_option maxRecDepth 100000 in
theorem c_X7_part (l : Launch) (G : m_G) {x1 : Int32} {M : m_M} {r0 : Int64}  (hres : f_X7_part x1 M = r0) : Met l yX7_part (m_U yX7_part cX7_part 2 (some .long)) (m_R 0 0) (m_Pc G [.ref (m_ad G 0), .int x1] M) (m_Ql G r0 M) 0 0 (m_A G) := by
  refine m_i0 (n := 2) RX7 rfl (by decide) (Nat.le_of_ble_eq_true rfl) ?_
  intro p e s m args below meth c X hr hlk hSt hP hS ls hl
  have hl : lv_has ls 2 [(0, .ref (m_ad G 0)), (1, .int x1)] := hl
  unfold f_X7_part at hres
  refine lv_iload_n X.1 X.2.1 dX7_part_0 rfl (lv_at hl 1 rfl) ?_
  refine lv_if_lt (tgt := 9) X.1 X.2.1 dX7_part_1 (by decide) (fun hc1 => ?_) (fun hc1 => ?_)
  · have hres := m_it hres hc1
    refine lv_ldc2 (v := (-1)) X.1 X.2.1 X.2.2.2.1 (X.2.2.2.2 _ k_l_X7_268) dX7_part_9 ?_
    exact m_rl X hr hlk hP hS hres rfl dX7_part_12
  · have hres := m_if hres hc1
    refine lv_iload_n X.1 X.2.1 dX7_part_4 rfl (lv_at hl 1 rfl) ?_
    refine lv_iconst (v := 1) X.1 X.2.1 dX7_part_5 (by decide) ?_
    refine lv_icmp_le (tgt := 13) X.1 X.2.1 dX7_part_6 (by decide) (fun hc2 => ?_) (fun hc2 => ?_)
    · have hres := m_it hres hc2
      refine lv_iload_n X.1 X.2.1 dX7_part_13 rfl (lv_at hl 1 rfl) ?_
      refine lv_if_ne (tgt := 24) X.1 X.2.1 dX7_part_14 (by decide) (fun hc3 => ?_) (fun hc3 => ?_)
      · have hres := m_if hres hc3
        refine lv_aload_n X.1 X.2.1 dX7_part_24 rfl (lv_at hl 0 rfl) ?_
        refine m_g7 (v := .long (M.2 0 9)) X hSt hP m_z_0 9 (by decide) rfl k_f_X7_58 dX7_part_25 ?_
        exact m_rl X hr hlk hP hS hres rfl dX7_part_28
      · have hres := m_it hres hc3
        refine lv_aload_n X.1 X.2.1 dX7_part_17 rfl (lv_at hl 0 rfl) ?_
        refine m_g7 (v := .long (M.2 0 8)) X hSt hP m_z_0 8 (by decide) rfl k_f_X7_54 dX7_part_18 ?_
        refine lv_goto (tgt := 28) X.1 X.2.1 dX7_part_21 (by decide) ?_
        exact m_rl X hr hlk hP hS hres rfl dX7_part_28
    · have hres := m_if hres hc2
      refine lv_ldc2 (v := (-1)) X.1 X.2.1 X.2.2.2.1 (X.2.2.2.2 _ k_l_X7_268) dX7_part_9 ?_
      exact m_rl X hr hlk hP hS hres rfl dX7_part_12
theorem dX7_parted_0 : decode cX7_parted 0 = .ok (.iload_n 1, 1) := by decide +kernel
theorem dX7_parted_1 : decode cX7_parted 1 = .ok (.invokestatic 145, 3) := by decide +kernel
theorem dX7_parted_4 : decode cX7_parted 4 = .ok (.ifCond .ne 6, 3) := by decide +kernel
theorem dX7_parted_7 : decode cX7_parted 7 = .ok (.bipush (-10), 2) := by decide +kernel
theorem dX7_parted_9 : decode cX7_parted 9 = .ok (.ireturn, 1) := by decide +kernel
theorem dX7_parted_10 : decode cX7_parted 10 = .ok (.aload_n 0, 1) := by decide +kernel
theorem dX7_parted_11 : decode cX7_parted 11 = .ok (.getfield 29, 3) := by decide +kernel
theorem dX7_parted_14 : decode cX7_parted 14 = .ok (.iload_n 1, 1) := by decide +kernel
theorem dX7_parted_15 : decode cX7_parted 15 = .ok (.iconst 0, 1) := by decide +kernel
theorem dX7_parted_16 : decode cX7_parted 16 = .ok (.invokevirtual 168, 3) := by decide +kernel
theorem dX7_parted_19 : decode cX7_parted 19 = .ok (.iconst 0, 1) := by decide +kernel
theorem dX7_parted_20 : decode cX7_parted 20 = .ok (.istore_n 2, 1) := by decide +kernel
theorem dX7_parted_21 : decode cX7_parted 21 = .ok (.iload_n 2, 1) := by decide +kernel
theorem dX7_parted_22 : decode cX7_parted 22 = .ok (.aload_n 0, 1) := by decide +kernel
theorem dX7_parted_23 : decode cX7_parted 23 = .ok (.getfield 29, 3) := by decide +kernel
theorem dX7_parted_26 : decode cX7_parted 26 = .ok (.getfield 264, 3) := by decide +kernel
theorem dX7_parted_29 : decode cX7_parted 29 = .ok (.if_icmp .ge 32, 3) := by decide +kernel
theorem dX7_parted_32 : decode cX7_parted 32 = .ok (.aload_n 0, 1) := by decide +kernel
theorem dX7_parted_33 : decode cX7_parted 33 = .ok (.getfield 29, 3) := by decide +kernel
theorem dX7_parted_36 : decode cX7_parted 36 = .ok (.iload_n 2, 1) := by decide +kernel
theorem dX7_parted_37 : decode cX7_parted 37 = .ok (.iconst 0, 1) := by decide +kernel
theorem dX7_parted_38 : decode cX7_parted 38 = .ok (.invokevirtual 265, 3) := by decide +kernel
theorem dX7_parted_41 : decode cX7_parted 41 = .ok (.aload_n 0, 1) := by decide +kernel
theorem dX7_parted_42 : decode cX7_parted 42 = .ok (.getfield 29, 3) := by decide +kernel
theorem dX7_parted_45 : decode cX7_parted 45 = .ok (.iload_n 2, 1) := by decide +kernel
theorem dX7_parted_46 : decode cX7_parted 46 = .ok (.iconst 1, 1) := by decide +kernel
theorem dX7_parted_47 : decode cX7_parted 47 = .ok (.invokevirtual 265, 3) := by decide +kernel
theorem dX7_parted_50 : decode cX7_parted 50 = .ok (.if_icmp .eq 5, 3) := by decide +kernel
theorem dX7_parted_53 : decode cX7_parted 53 = .ok (.iload_n 2, 1) := by decide +kernel
theorem dX7_parted_54 : decode cX7_parted 54 = .ok (.ireturn, 1) := by decide +kernel
theorem dX7_parted_55 : decode cX7_parted 55 = .ok (.iinc 2 1, 3) := by decide +kernel
theorem dX7_parted_58 : decode cX7_parted 58 = .ok (.goto (-37), 3) := by decide +kernel
theorem dX7_parted_61 : decode cX7_parted 61 = .ok (.iconst (-1), 1) := by decide +kernel
theorem dX7_parted_62 : decode cX7_parted 62 = .ok (.ireturn, 1) := by decide +kernel
def f_X7_parted_b21 (n : Nat) (x1 : Int32) : Nat → Int32 → m_M → Option (Int32 × m_M)
  | 0, _, _ => none
  | u + 1, x2, M =>
    if (M.1 45 4) ≤ x2 then
  some ((-1), M)
  else
  m_o2 (f_X1_purseAsk n x2 0 M) fun r2 M3 =>
  m_o2 (f_X1_purseAsk n x2 1 M3) fun r4 M5 =>
  if r2 = r4 then
  f_X7_parted_b21 n x1 u (x2 + 1) M5
  else
  some (x2, M5)
def f_X7_parted (n : Nat) (x1 : Int32) (M : m_M) : Option (Int32 × m_M) :=
  m_bd (f_X7_isDay x1) fun r7 =>
  if r7 = 0 then
  some ((-10), M)
  else
  m_ob (f_X1_reckon n x1 0 M) fun M10 =>
  f_X7_parted_b21 n x1 n 0 M10
set_option maxHeartbeats 4000000 in
set_option maxRecDepth 100000 in
theorem c_X7_parted (l : Launch) (G : m_G) {n : Nat} {x1 : Int32} {M : m_M} {r0 : Int32} {M0 : m_M}  (hres : f_X7_parted n x1 M = some (r0, M0)) : Met l yX7_parted (m_U yX7_parted cX7_parted 3 (some .int)) (m_R 7 157) (m_Pc G [.ref (m_ad G 0), .int x1] M) (m_Qi G r0 M0) 0 0 (m_A G) := by
  refine m_i0 (n := 3) RX7 rfl (by decide) (Nat.le_of_ble_eq_true rfl) ?_
  intro p e s m args below meth c X hr hlk hSt hP hS ls hl
  have hl : lv_has ls 3 [(0, .ref (m_ad G 0)), (1, .int x1)] := hl
  have B21 : ∀ (u : Nat) (x2 : Int32) (M : m_M) (H : Heap) (locs : List Loc) (ls : Array Slot), m_P G M H → va_S (m_A G) s.heap H locs → lv_has ls 3 [(0, .ref (m_ad G 0)), (2, .int x2)] → f_X7_parted_b21 n x1 u x2 M = some (r0, M0) → W p l e (m_R 7 157) s m args below meth c H locs 0 0 (MQ below (m_Qi G r0 M0) args s 0 0 (m_A G)) (F0 m 21 ls []) := by
    intro u
    induction u with
    | zero =>
      intro x2 M H locs ls hP hS hl hres
      cases hres
    | succ u ih =>
      intro x2 M H locs ls hP hS hl hres
      rw [f_X7_parted_b21] at hres
      refine lv_iload_n X.1 X.2.1 dX7_parted_21 rfl (lv_at hl 1 rfl) ?_
      refine lv_aload_n X.1 X.2.1 dX7_parted_22 rfl (lv_at hl 0 rfl) ?_
      refine m_g7 (v := .ref (m_ad G 45)) X hSt hP m_z_0 3 (by decide) rfl k_f_X7_29 dX7_parted_23 ?_
      refine m_g1 (v := .int (M.1 45 4)) X hSt hP m_z_45 4 (by decide) rfl k_f_X7_264 dX7_parted_26 ?_
      refine lv_icmp_ge (tgt := 61) X.1 X.2.1 dX7_parted_29 (by decide) (fun hc1 => ?_) (fun hc1 => ?_)
      · have hres := m_it hres hc1
        refine lv_iconst (v := (-1)) X.1 X.2.1 dX7_parted_61 (by decide) ?_
        exact m_ri X hr hlk hP hS (Prod.mk.inj (Option.some.inj hres)).1 (Prod.mk.inj (Option.some.inj hres)).2 dX7_parted_62
      · have hres := m_if hres hc1
        refine lv_aload_n X.1 X.2.1 dX7_parted_32 rfl (lv_at hl 0 rfl) ?_
        refine m_g7 (v := .ref (m_ad G 45)) X hSt hP m_z_0 3 (by decide) rfl k_f_X7_29 dX7_parted_33 ?_
        refine lv_iload_n X.1 X.2.1 dX7_parted_36 rfl (lv_at hl 1 rfl) ?_
        refine lv_iconst (v := 0) X.1 X.2.1 dX7_parted_37 (by decide) ?_
        obtain ⟨r2, M3, err2, hres⟩ := m_o2_e hres
        refine m_bi (m_cV (n := 2) (As := [.int x2, .int 0]) (rest := []) X hSt hP hS hl.1 (c_X1_purseAsk l G  err2) k_c_yX1_purseAsk k_m_X7_265 k_i_yX1_purseAsk k_s_yX1_purseAsk k_n_X1 (by decide +kernel) (m_rc1 hSt hP m_z_45) rfl rfl ⟨Nat.le_of_ble_eq_true rfl, Nat.le_of_ble_eq_true rfl⟩ (Nat.le_of_ble_eq_true rfl) ⟨Nat.zero_le _, Nat.zero_le _⟩ dX7_parted_38) hS (fun H locs hP hS => ?_)
        refine lv_aload_n X.1 X.2.1 dX7_parted_41 rfl (lv_at hl 0 rfl) ?_
        refine m_g7 (v := .ref (m_ad G 45)) X hSt hP m_z_0 3 (by decide) rfl k_f_X7_29 dX7_parted_42 ?_
        refine lv_iload_n X.1 X.2.1 dX7_parted_45 rfl (lv_at hl 1 rfl) ?_
        refine lv_iconst (v := 1) X.1 X.2.1 dX7_parted_46 (by decide) ?_
        obtain ⟨r4, M5, err4, hres⟩ := m_o2_e hres
        refine m_bi (m_cV (n := 2) (As := [.int x2, .int 1]) (rest := [.int r2]) X hSt hP hS hl.1 (c_X1_purseAsk l G  err4) k_c_yX1_purseAsk k_m_X7_265 k_i_yX1_purseAsk k_s_yX1_purseAsk k_n_X1 (by decide +kernel) (m_rc1 hSt hP m_z_45) rfl rfl ⟨Nat.le_of_ble_eq_true rfl, Nat.le_of_ble_eq_true rfl⟩ (Nat.le_of_ble_eq_true rfl) ⟨Nat.zero_le _, Nat.zero_le _⟩ dX7_parted_47) hS (fun H locs hP hS => ?_)
        refine lv_icmp_eq (tgt := 55) X.1 X.2.1 dX7_parted_50 (by decide) (fun hc6 => ?_) (fun hc6 => ?_)
        · have hres := m_it hres hc6
          refine lv_iinc (v := (x2 + 1)) (lv' := [(2, .int (x2 + 1)), (0, .ref (m_ad G 0))]) X.1 X.2.1 dX7_parted_55 hl (k := 1) rfl rfl (by decide) rfl (fun ls hl => ?_)
          refine lv_goto (tgt := 21) X.1 X.2.1 dX7_parted_58 (by decide) ?_
          exact ih (x2 + 1) M5 _ _ _ hP hS (lv_sub hl [1, 0] rfl) hres
        · have hres := m_if hres hc6
          refine lv_iload_n X.1 X.2.1 dX7_parted_53 rfl (lv_at hl 1 rfl) ?_
          exact m_ri X hr hlk hP hS (Prod.mk.inj (Option.some.inj hres)).1 (Prod.mk.inj (Option.some.inj hres)).2 dX7_parted_54
  unfold f_X7_parted at hres
  refine lv_iload_n X.1 X.2.1 dX7_parted_0 rfl (lv_at hl 1 rfl) ?_
  obtain ⟨r7, err7, hres⟩ := m_bd_e hres
  refine m_bz (m_cS (n := 1) (As := [.int x1]) (rest := []) X hSt hP hS hl.1 (c_X7_isDay l G (M := M)  err7) k_c_yX7_isDay k_m_X7_145 k_t_yX7_isDay k_n_X7 (by decide +kernel) rfl rfl ⟨Nat.le_of_ble_eq_true rfl, Nat.le_of_ble_eq_true rfl⟩ (Nat.le_of_ble_eq_true rfl) ⟨Nat.zero_le _, Nat.zero_le _⟩ dX7_parted_1) hS (fun H locs hP hS hz8 => ?_)
  refine lv_if_ne (tgt := 10) X.1 X.2.1 dX7_parted_4 (by decide) (fun hc9 => ?_) (fun hc9 => ?_)
  · have hres := m_if hres hc9
    refine lv_aload_n X.1 X.2.1 dX7_parted_10 rfl (lv_at hl 0 rfl) ?_
    refine m_g7 (v := .ref (m_ad G 45)) X hSt hP m_z_0 3 (by decide) rfl k_f_X7_29 dX7_parted_11 ?_
    refine lv_iload_n X.1 X.2.1 dX7_parted_14 rfl (lv_at hl 1 rfl) ?_
    refine lv_iconst (v := 0) X.1 X.2.1 dX7_parted_15 (by decide) ?_
    obtain ⟨M10, eM10, hres⟩ := m_ob_e hres
    refine m_bv (m_cV (n := 2) (As := [.int x1, .int 0]) (rest := []) X hSt hP hS hl.1 (c_X1_reckon l G  eM10) k_c_yX1_reckon k_m_X7_168 k_i_yX1_reckon k_s_yX1_reckon k_n_X1 (by decide +kernel) (m_rc1 hSt hP m_z_45) rfl rfl ⟨Nat.le_of_ble_eq_true rfl, Nat.le_of_ble_eq_true rfl⟩ (Nat.le_of_ble_eq_true rfl) ⟨Nat.zero_le _, Nat.zero_le _⟩ dX7_parted_16) hS (fun H locs hP hS => ?_)
    refine lv_iconst (v := 0) X.1 X.2.1 dX7_parted_19 (by decide) ?_
    refine lv_istore_n (lv' := [(2, .int 0), (0, .ref (m_ad G 0)), (1, .int x1)]) X.1 X.2.1 dX7_parted_20 rfl hl (by decide) rfl (fun ls hl => ?_)
    exact B21 n 0 M10 _ _ _ hP hS (lv_sub hl [1, 0] rfl) hres
  · have hres := m_it hres hc9
    refine lv_bipush (v := (-10)) X.1 X.2.1 dX7_parted_7 (by decide) ?_
    exact m_ri X hr hlk hP hS (Prod.mk.inj (Option.some.inj hres)).1 (Prod.mk.inj (Option.some.inj hres)).2 dX7_parted_9
theorem dX7_person_0 : decode cX7_person 0 = .ok (.aload_n 0, 1) := by decide +kernel
theorem dX7_person_1 : decode cX7_person 1 = .ok (.getfield 10, 3) := by decide +kernel
theorem dX7_person_4 : decode cX7_person 4 = .ok (.getfield 61, 3) := by decide +kernel
theorem dX7_person_7 : decode cX7_person 7 = .ok (.bipush 10, 2) := by decide +kernel
theorem dX7_person_9 : decode cX7_person 9 = .ok (.if_icmp .lt 6, 3) := by decide +kernel
theorem dX7_person_12 : decode cX7_person 12 = .ok (.bipush (-4), 2) := by decide +kernel
theorem dX7_person_14 : decode cX7_person 14 = .ok (.ireturn, 1) := by decide +kernel
theorem dX7_person_15 : decode cX7_person 15 = .ok (.aload_n 0, 1) := by decide +kernel
theorem dX7_person_16 : decode cX7_person 16 = .ok (.getfield 10, 3) := by decide +kernel
theorem dX7_person_19 : decode cX7_person 19 = .ok (.dup, 1) := by decide +kernel
theorem dX7_person_20 : decode cX7_person 20 = .ok (.getfield 61, 3) := by decide +kernel
theorem dX7_person_23 : decode cX7_person 23 = .ok (.iconst 1, 1) := by decide +kernel
theorem dX7_person_24 : decode cX7_person 24 = .ok (.iadd, 1) := by decide +kernel
theorem dX7_person_25 : decode cX7_person 25 = .ok (.putfield 61, 3) := by decide +kernel
theorem dX7_person_28 : decode cX7_person 28 = .ok (.aload_n 0, 1) := by decide +kernel
theorem dX7_person_29 : decode cX7_person 29 = .ok (.getfield 10, 3) := by decide +kernel
theorem dX7_person_32 : decode cX7_person 32 = .ok (.getfield 61, 3) := by decide +kernel
theorem dX7_person_35 : decode cX7_person 35 = .ok (.iconst 1, 1) := by decide +kernel
theorem dX7_person_36 : decode cX7_person 36 = .ok (.isub, 1) := by decide +kernel
theorem dX7_person_37 : decode cX7_person 37 = .ok (.ireturn, 1) := by decide +kernel
def f_X7_person (M : m_M) : Int32 × m_M :=
  if (M.1 1 0) < 10 then
  m_bd (m_sI M 1 0 ((M.1 1 0) + (1 : Int32))) fun M2 =>
  (((M2.1 1 0) - (1 : Int32)), M2)
  else
  ((-4), M)
set_option maxHeartbeats 4000000 in
set_option maxRecDepth 100000 in
theorem c_X7_person (l : Launch) (G : m_G) {M : m_M} {r0 : Int32} {M0 : m_M}  (hres : f_X7_person M = (r0, M0)) : Met l yX7_person (m_U yX7_person cX7_person 1 (some .int)) (m_R 0 0) (m_Pc G [.ref (m_ad G 0)] M) (m_Qi G r0 M0) 0 0 (m_A G) := by
  refine m_i0 (n := 1) RX7 rfl (by decide) (Nat.le_of_ble_eq_true rfl) ?_
  intro p e s m args below meth c X hr hlk hSt hP hS ls hl
  have hl : lv_has ls 1 [(0, .ref (m_ad G 0))] := hl
  unfold f_X7_person at hres
  refine lv_aload_n X.1 X.2.1 dX7_person_0 rfl (lv_at hl 0 rfl) ?_
  refine m_g7 (v := .ref (m_ad G 1)) X hSt hP m_z_0 0 (by decide) rfl k_f_X7_10 dX7_person_1 ?_
  refine m_g3 (v := .int (M.1 1 0)) X hSt hP m_kept_0.1 0 (by decide) rfl k_f_X7_61 dX7_person_4 ?_
  refine lv_bipush (v := 10) X.1 X.2.1 dX7_person_7 (by decide) ?_
  refine lv_icmp_lt (tgt := 15) X.1 X.2.1 dX7_person_9 (by decide) (fun hc1 => ?_) (fun hc1 => ?_)
  · have hres := m_it hres hc1
    refine lv_aload_n X.1 X.2.1 dX7_person_15 rfl (lv_at hl 0 rfl) ?_
    refine m_g7 (v := .ref (m_ad G 1)) X hSt hP m_z_0 0 (by decide) rfl k_f_X7_10 dX7_person_16 ?_
    refine lv_dup X.1 X.2.1 dX7_person_19 rfl ?_
    refine m_g3 (v := .int (M.1 1 0)) X hSt hP m_kept_0.1 0 (by decide) rfl k_f_X7_61 dX7_person_20 ?_
    refine lv_iconst (v := 1) X.1 X.2.1 dX7_person_23 (by decide) ?_
    refine lv_iadd X.1 X.2.1 dX7_person_24 ?_
    obtain ⟨M2, eM2, hres⟩ := m_bd_e hres
    refine m_pi3 X hSt hP hS m_kept_0.1 0 (by decide) eM2 rfl rfl (by decide) k_f_X7_61 dX7_person_25 (fun H locs hP hS => ?_)
    refine lv_aload_n X.1 X.2.1 dX7_person_28 rfl (lv_at hl 0 rfl) ?_
    refine m_g7 (v := .ref (m_ad G 1)) X hSt hP m_z_0 0 (by decide) rfl k_f_X7_10 dX7_person_29 ?_
    refine m_g3 (v := .int (M2.1 1 0)) X hSt hP m_kept_0.1 0 (by decide) rfl k_f_X7_61 dX7_person_32 ?_
    refine lv_iconst (v := 1) X.1 X.2.1 dX7_person_35 (by decide) ?_
    refine lv_isub X.1 X.2.1 dX7_person_36 ?_
    exact m_ri X hr hlk hP hS (Prod.mk.inj hres).1 (Prod.mk.inj hres).2 dX7_person_37
  · have hres := m_if hres hc1
    refine lv_bipush (v := (-4)) X.1 X.2.1 dX7_person_12 (by decide) ?_
    exact m_ri X hr hlk hP hS (Prod.mk.inj hres).1 (Prod.mk.inj hres).2 dX7_person_14
theorem dX2_goToStart_0 : decode cX2_goToStart 0 = .ok (.aload_n 0, 1) := by decide +kernel
theorem dX2_goToStart_1 : decode cX2_goToStart 1 = .ok (.iconst 0, 1) := by decide +kernel
theorem dX2_goToStart_2 : decode cX2_goToStart 2 = .ok (.putfield 22, 3) := by decide +kernel
theorem dX2_goToStart_5 : decode cX2_goToStart 5 = .ok (.aload_n 0, 1) := by decide +kernel
theorem dX2_goToStart_6 : decode cX2_goToStart 6 = .ok (.iconst (-1), 1) := by decide +kernel
theorem dX2_goToStart_7 : decode cX2_goToStart 7 = .ok (.putfield 15, 3) := by decide +kernel
theorem dX2_goToStart_10 : decode cX2_goToStart 10 = .ok (.return_, 1) := by decide +kernel
def f_X2_goToStart (M : m_M) : m_M :=
  m_bd (m_sI M 168 2 0) fun M1 =>
  m_bd (m_sI M1 168 3 (-1)) fun M2 =>
  M2
set_option maxHeartbeats 4000000 in
set_option maxRecDepth 100000 in
theorem c_X2_goToStart (l : Launch) (G : m_G) {M : m_M} {M0 : m_M}  (hres : f_X2_goToStart M = M0) : Met l yX2_goToStart (m_U yX2_goToStart cX2_goToStart 1 none) (m_R 0 0) (m_Pc G [.ref (m_ad G 168)] M) (m_Qv G M0) 0 0 (m_A G) := by
  refine m_i0 (n := 1) RX2 rfl (by decide) (Nat.le_of_ble_eq_true rfl) ?_
  intro p e s m args below meth c X hr hlk hSt hP hS ls hl
  have hl : lv_has ls 1 [(0, .ref (m_ad G 168))] := hl
  unfold f_X2_goToStart at hres
  refine lv_aload_n X.1 X.2.1 dX2_goToStart_0 rfl (lv_at hl 0 rfl) ?_
  refine lv_iconst (v := 0) X.1 X.2.1 dX2_goToStart_1 (by decide) ?_
  obtain ⟨M1, eM1, hres⟩ := m_bd_e hres
  refine m_pi2 X hSt hP hS m_z_168 2 (by decide) eM1 rfl rfl (by decide) k_f_X2_22 dX2_goToStart_2 (fun H locs hP hS => ?_)
  refine lv_aload_n X.1 X.2.1 dX2_goToStart_5 rfl (lv_at hl 0 rfl) ?_
  refine lv_iconst (v := (-1)) X.1 X.2.1 dX2_goToStart_6 (by decide) ?_
  obtain ⟨M2, eM2, hres⟩ := m_bd_e hres
  refine m_pi2 X hSt hP hS m_z_168 3 (by decide) eM2 rfl rfl (by decide) k_f_X2_15 dX2_goToStart_7 (fun H locs hP hS => ?_)
  exact m_rv X hr hlk hP hS hres dX2_goToStart_10
theorem dX2_skipBlanks_0 : decode cX2_skipBlanks 0 = .ok (.aload_n 0, 1) := by decide +kernel
theorem dX2_skipBlanks_1 : decode cX2_skipBlanks 1 = .ok (.getfield 22, 3) := by decide +kernel
theorem dX2_skipBlanks_4 : decode cX2_skipBlanks 4 = .ok (.aload_n 0, 1) := by decide +kernel
theorem dX2_skipBlanks_5 : decode cX2_skipBlanks 5 = .ok (.getfield 19, 3) := by decide +kernel
theorem dX2_skipBlanks_8 : decode cX2_skipBlanks 8 = .ok (.if_icmp .ge 30, 3) := by decide +kernel
theorem dX2_skipBlanks_11 : decode cX2_skipBlanks 11 = .ok (.aload_n 0, 1) := by decide +kernel
theorem dX2_skipBlanks_12 : decode cX2_skipBlanks 12 = .ok (.getfield 9, 3) := by decide +kernel
theorem dX2_skipBlanks_15 : decode cX2_skipBlanks 15 = .ok (.aload_n 0, 1) := by decide +kernel
theorem dX2_skipBlanks_16 : decode cX2_skipBlanks 16 = .ok (.getfield 22, 3) := by decide +kernel
theorem dX2_skipBlanks_19 : decode cX2_skipBlanks 19 = .ok (.iaload, 1) := by decide +kernel
theorem dX2_skipBlanks_20 : decode cX2_skipBlanks 20 = .ok (.bipush 32, 2) := by decide +kernel
theorem dX2_skipBlanks_22 : decode cX2_skipBlanks 22 = .ok (.if_icmp .ne 16, 3) := by decide +kernel
theorem dX2_skipBlanks_25 : decode cX2_skipBlanks 25 = .ok (.aload_n 0, 1) := by decide +kernel
theorem dX2_skipBlanks_26 : decode cX2_skipBlanks 26 = .ok (.dup, 1) := by decide +kernel
theorem dX2_skipBlanks_27 : decode cX2_skipBlanks 27 = .ok (.getfield 22, 3) := by decide +kernel
theorem dX2_skipBlanks_30 : decode cX2_skipBlanks 30 = .ok (.iconst 1, 1) := by decide +kernel
theorem dX2_skipBlanks_31 : decode cX2_skipBlanks 31 = .ok (.iadd, 1) := by decide +kernel
theorem dX2_skipBlanks_32 : decode cX2_skipBlanks 32 = .ok (.putfield 22, 3) := by decide +kernel
theorem dX2_skipBlanks_35 : decode cX2_skipBlanks 35 = .ok (.goto (-35), 3) := by decide +kernel
theorem dX2_skipBlanks_38 : decode cX2_skipBlanks 38 = .ok (.return_, 1) := by decide +kernel
def f_X2_skipBlanks_b0 (n : Nat) : Nat → m_M → Option m_M
  | 0, _ => none
  | u + 1, M =>
    if (M.1 168 1) ≤ (M.1 168 2) then
  some M
  else
  m_gd (m_in (M.1 168 2) 300) (
  if (M.1 169 ((M.1 168 2).toNatClampNeg)) = 32 then
  m_bd (m_sI M 168 2 ((M.1 168 2) + (1 : Int32))) fun M4 =>
  f_X2_skipBlanks_b0 n u M4
  else
  some M)
def f_X2_skipBlanks (n : Nat) (M : m_M) : Option m_M :=
  if (M.1 168 1) ≤ (M.1 168 2) then
  some M
  else
  m_gd (m_in (M.1 168 2) 300) (
  if (M.1 169 ((M.1 168 2).toNatClampNeg)) = 32 then
  m_bd (m_sI M 168 2 ((M.1 168 2) + (1 : Int32))) fun M8 =>
  f_X2_skipBlanks_b0 n n M8
  else
  some M)
set_option maxHeartbeats 4000000 in
set_option maxRecDepth 100000 in
theorem c_X2_skipBlanks (l : Launch) (G : m_G) {n : Nat} {M : m_M} {M0 : m_M}  (hres : f_X2_skipBlanks n M = some M0) : Met l yX2_skipBlanks (m_U yX2_skipBlanks cX2_skipBlanks 1 none) (m_R 0 0) (m_Pc G [.ref (m_ad G 168)] M) (m_Qv G M0) 0 0 (m_A G) := by
  refine m_i0 (n := 1) RX2 rfl (by decide) (Nat.le_of_ble_eq_true rfl) ?_
  intro p e s m args below meth c X hr hlk hSt hP hS ls hl
  have hl : lv_has ls 1 [(0, .ref (m_ad G 168))] := hl
  have B0 : ∀ (u : Nat) (M : m_M) (H : Heap) (locs : List Loc) (ls : Array Slot), m_P G M H → va_S (m_A G) s.heap H locs → lv_has ls 1 [(0, .ref (m_ad G 168))] → f_X2_skipBlanks_b0 n u M = some M0 → W p l e (m_R 0 0) s m args below meth c H locs 0 0 (MQ below (m_Qv G M0) args s 0 0 (m_A G)) (F0 m 0 ls []) := by
    intro u
    induction u with
    | zero =>
      intro M H locs ls hP hS hl hres
      cases hres
    | succ u ih =>
      intro M H locs ls hP hS hl hres
      rw [f_X2_skipBlanks_b0] at hres
      refine lv_aload_n X.1 X.2.1 dX2_skipBlanks_0 rfl (lv_at hl 0 rfl) ?_
      refine m_g2 (v := .int (M.1 168 2)) X hSt hP m_z_168 2 (by decide) rfl k_f_X2_22 dX2_skipBlanks_1 ?_
      refine lv_aload_n X.1 X.2.1 dX2_skipBlanks_4 rfl (lv_at hl 0 rfl) ?_
      refine m_g2 (v := .int (M.1 168 1)) X hSt hP m_z_168 1 (by decide) rfl k_f_X2_19 dX2_skipBlanks_5 ?_
      refine lv_icmp_ge (tgt := 38) X.1 X.2.1 dX2_skipBlanks_8 (by decide) (fun hc1 => ?_) (fun hc1 => ?_)
      · have hres := m_it hres hc1
        exact m_rv X hr hlk hP hS (Option.some.inj hres) dX2_skipBlanks_38
      · have hres := m_if hres hc1
        refine lv_aload_n X.1 X.2.1 dX2_skipBlanks_11 rfl (lv_at hl 0 rfl) ?_
        refine m_g2 (v := .ref (m_ad G 169)) X hSt hP m_z_168 0 (by decide) rfl k_f_X2_9 dX2_skipBlanks_12 ?_
        refine lv_aload_n X.1 X.2.1 dX2_skipBlanks_15 rfl (lv_at hl 0 rfl) ?_
        refine m_g2 (v := .int (M.1 168 2)) X hSt hP m_z_168 2 (by decide) rfl k_f_X2_22 dX2_skipBlanks_16 ?_
        obtain ⟨hg2, hres⟩ := m_gd_e hres
        refine m_ia (j := ((M.1 168 2).toNatClampNeg)) X hSt hP m_z_169 hg2 rfl dX2_skipBlanks_19 ?_
        refine lv_bipush (v := 32) X.1 X.2.1 dX2_skipBlanks_20 (by decide) ?_
        refine lv_icmp_ne (tgt := 38) X.1 X.2.1 dX2_skipBlanks_22 (by decide) (fun hc3 => ?_) (fun hc3 => ?_)
        · have hres := m_if hres hc3
          exact m_rv X hr hlk hP hS (Option.some.inj hres) dX2_skipBlanks_38
        · have hres := m_it hres hc3
          refine lv_aload_n X.1 X.2.1 dX2_skipBlanks_25 rfl (lv_at hl 0 rfl) ?_
          refine lv_dup X.1 X.2.1 dX2_skipBlanks_26 rfl ?_
          refine m_g2 (v := .int (M.1 168 2)) X hSt hP m_z_168 2 (by decide) rfl k_f_X2_22 dX2_skipBlanks_27 ?_
          refine lv_iconst (v := 1) X.1 X.2.1 dX2_skipBlanks_30 (by decide) ?_
          refine lv_iadd X.1 X.2.1 dX2_skipBlanks_31 ?_
          obtain ⟨M4, eM4, hres⟩ := m_bd_e hres
          refine m_pi2 X hSt hP hS m_z_168 2 (by decide) eM4 rfl rfl (by decide) k_f_X2_22 dX2_skipBlanks_32 (fun H locs hP hS => ?_)
          refine lv_goto (tgt := 0) X.1 X.2.1 dX2_skipBlanks_35 (by decide) ?_
          exact ih M4 _ _ _ hP hS (lv_sub hl [0] rfl) hres
  unfold f_X2_skipBlanks at hres
  refine lv_aload_n X.1 X.2.1 dX2_skipBlanks_0 rfl (lv_at hl 0 rfl) ?_
  refine m_g2 (v := .int (M.1 168 2)) X hSt hP m_z_168 2 (by decide) rfl k_f_X2_22 dX2_skipBlanks_1 ?_
  refine lv_aload_n X.1 X.2.1 dX2_skipBlanks_4 rfl (lv_at hl 0 rfl) ?_
  refine m_g2 (v := .int (M.1 168 1)) X hSt hP m_z_168 1 (by decide) rfl k_f_X2_19 dX2_skipBlanks_5 ?_
  refine lv_icmp_ge (tgt := 38) X.1 X.2.1 dX2_skipBlanks_8 (by decide) (fun hc5 => ?_) (fun hc5 => ?_)
  · have hres := m_it hres hc5
    exact m_rv X hr hlk hP hS (Option.some.inj hres) dX2_skipBlanks_38
  · have hres := m_if hres hc5
    refine lv_aload_n X.1 X.2.1 dX2_skipBlanks_11 rfl (lv_at hl 0 rfl) ?_
    refine m_g2 (v := .ref (m_ad G 169)) X hSt hP m_z_168 0 (by decide) rfl k_f_X2_9 dX2_skipBlanks_12 ?_
    refine lv_aload_n X.1 X.2.1 dX2_skipBlanks_15 rfl (lv_at hl 0 rfl) ?_
    refine m_g2 (v := .int (M.1 168 2)) X hSt hP m_z_168 2 (by decide) rfl k_f_X2_22 dX2_skipBlanks_16 ?_
    obtain ⟨hg6, hres⟩ := m_gd_e hres
    refine m_ia (j := ((M.1 168 2).toNatClampNeg)) X hSt hP m_z_169 hg6 rfl dX2_skipBlanks_19 ?_
    refine lv_bipush (v := 32) X.1 X.2.1 dX2_skipBlanks_20 (by decide) ?_
    refine lv_icmp_ne (tgt := 38) X.1 X.2.1 dX2_skipBlanks_22 (by decide) (fun hc7 => ?_) (fun hc7 => ?_)
    · have hres := m_if hres hc7
      exact m_rv X hr hlk hP hS (Option.some.inj hres) dX2_skipBlanks_38
    · have hres := m_it hres hc7
      refine lv_aload_n X.1 X.2.1 dX2_skipBlanks_25 rfl (lv_at hl 0 rfl) ?_
      refine lv_dup X.1 X.2.1 dX2_skipBlanks_26 rfl ?_
      refine m_g2 (v := .int (M.1 168 2)) X hSt hP m_z_168 2 (by decide) rfl k_f_X2_22 dX2_skipBlanks_27 ?_
      refine lv_iconst (v := 1) X.1 X.2.1 dX2_skipBlanks_30 (by decide) ?_
      refine lv_iadd X.1 X.2.1 dX2_skipBlanks_31 ?_
      obtain ⟨M8, eM8, hres⟩ := m_bd_e hres
      refine m_pi2 X hSt hP hS m_z_168 2 (by decide) eM8 rfl rfl (by decide) k_f_X2_22 dX2_skipBlanks_32 (fun H locs hP hS => ?_)
      refine lv_goto (tgt := 0) X.1 X.2.1 dX2_skipBlanks_35 (by decide) ?_
      exact B0 n M8 _ _ _ hP hS (lv_sub hl [0] rfl) hres
theorem dX2_blame_0 : decode cX2_blame 0 = .ok (.aload_n 0, 1) := by decide +kernel
theorem dX2_blame_1 : decode cX2_blame 1 = .ok (.getfield 15, 3) := by decide +kernel
theorem dX2_blame_4 : decode cX2_blame 4 = .ok (.iconst (-1), 1) := by decide +kernel
theorem dX2_blame_5 : decode cX2_blame 5 = .ok (.if_icmp .ne 8, 3) := by decide +kernel
theorem dX2_blame_8 : decode cX2_blame 8 = .ok (.aload_n 0, 1) := by decide +kernel
theorem dX2_blame_9 : decode cX2_blame 9 = .ok (.iload_n 1, 1) := by decide +kernel
theorem dX2_blame_10 : decode cX2_blame 10 = .ok (.putfield 15, 3) := by decide +kernel
theorem dX2_blame_13 : decode cX2_blame 13 = .ok (.return_, 1) := by decide +kernel
def f_X2_blame (x1 : Int32) (M : m_M) : m_M :=
  if (M.1 168 3) = (-1) then
  m_bd (m_sI M 168 3 x1) fun M2 =>
  M2
  else
  M
set_option maxHeartbeats 4000000 in
set_option maxRecDepth 100000 in
theorem c_X2_blame (l : Launch) (G : m_G) {x1 : Int32} {M : m_M} {M0 : m_M}  (hres : f_X2_blame x1 M = M0) : Met l yX2_blame (m_U yX2_blame cX2_blame 2 none) (m_R 0 0) (m_Pc G [.ref (m_ad G 168), .int x1] M) (m_Qv G M0) 0 0 (m_A G) := by
  refine m_i0 (n := 2) RX2 rfl (by decide) (Nat.le_of_ble_eq_true rfl) ?_
  intro p e s m args below meth c X hr hlk hSt hP hS ls hl
  have hl : lv_has ls 2 [(0, .ref (m_ad G 168)), (1, .int x1)] := hl
  unfold f_X2_blame at hres
  refine lv_aload_n X.1 X.2.1 dX2_blame_0 rfl (lv_at hl 0 rfl) ?_
  refine m_g2 (v := .int (M.1 168 3)) X hSt hP m_z_168 3 (by decide) rfl k_f_X2_15 dX2_blame_1 ?_
  refine lv_iconst (v := (-1)) X.1 X.2.1 dX2_blame_4 (by decide) ?_
  refine lv_icmp_ne (tgt := 13) X.1 X.2.1 dX2_blame_5 (by decide) (fun hc1 => ?_) (fun hc1 => ?_)
  · have hres := m_if hres hc1
    exact m_rv X hr hlk hP hS hres dX2_blame_13
  · have hres := m_it hres hc1
    refine lv_aload_n X.1 X.2.1 dX2_blame_8 rfl (lv_at hl 0 rfl) ?_
    refine lv_iload_n X.1 X.2.1 dX2_blame_9 rfl (lv_at hl 1 rfl) ?_
    obtain ⟨M2, eM2, hres⟩ := m_bd_e hres
    refine m_pi2 X hSt hP hS m_z_168 3 (by decide) eM2 rfl rfl (by decide) k_f_X2_15 dX2_blame_10 (fun H locs hP hS => ?_)
    exact m_rv X hr hlk hP hS hres dX2_blame_13
theorem dX2_number_0 : decode cX2_number 0 = .ok (.aload_n 0, 1) := by decide +kernel
theorem dX2_number_1 : decode cX2_number 1 = .ok (.invokevirtual 32, 3) := by decide +kernel
theorem dX2_number_4 : decode cX2_number 4 = .ok (.aload_n 0, 1) := by decide +kernel
theorem dX2_number_5 : decode cX2_number 5 = .ok (.getfield 22, 3) := by decide +kernel
theorem dX2_number_8 : decode cX2_number 8 = .ok (.istore_n 1, 1) := by decide +kernel
theorem dX2_number_9 : decode cX2_number 9 = .ok (.iconst 0, 1) := by decide +kernel
theorem dX2_number_10 : decode cX2_number 10 = .ok (.istore_n 2, 1) := by decide +kernel
theorem dX2_number_11 : decode cX2_number 11 = .ok (.aload_n 0, 1) := by decide +kernel
theorem dX2_number_12 : decode cX2_number 12 = .ok (.getfield 22, 3) := by decide +kernel
theorem dX2_number_15 : decode cX2_number 15 = .ok (.aload_n 0, 1) := by decide +kernel
theorem dX2_number_16 : decode cX2_number 16 = .ok (.getfield 19, 3) := by decide +kernel
theorem dX2_number_19 : decode cX2_number 19 = .ok (.if_icmp .ge 72, 3) := by decide +kernel
theorem dX2_number_22 : decode cX2_number 22 = .ok (.aload_n 0, 1) := by decide +kernel
theorem dX2_number_23 : decode cX2_number 23 = .ok (.getfield 9, 3) := by decide +kernel
theorem dX2_number_26 : decode cX2_number 26 = .ok (.aload_n 0, 1) := by decide +kernel
theorem dX2_number_27 : decode cX2_number 27 = .ok (.getfield 22, 3) := by decide +kernel
theorem dX2_number_30 : decode cX2_number 30 = .ok (.iaload, 1) := by decide +kernel
theorem dX2_number_31 : decode cX2_number 31 = .ok (.bipush 48, 2) := by decide +kernel
theorem dX2_number_33 : decode cX2_number 33 = .ok (.if_icmp .lt 58, 3) := by decide +kernel
theorem dX2_number_36 : decode cX2_number 36 = .ok (.aload_n 0, 1) := by decide +kernel
theorem dX2_number_37 : decode cX2_number 37 = .ok (.getfield 9, 3) := by decide +kernel
theorem dX2_number_40 : decode cX2_number 40 = .ok (.aload_n 0, 1) := by decide +kernel
theorem dX2_number_41 : decode cX2_number 41 = .ok (.getfield 22, 3) := by decide +kernel
theorem dX2_number_44 : decode cX2_number 44 = .ok (.iaload, 1) := by decide +kernel
theorem dX2_number_45 : decode cX2_number 45 = .ok (.bipush 57, 2) := by decide +kernel
theorem dX2_number_47 : decode cX2_number 47 = .ok (.if_icmp .gt 44, 3) := by decide +kernel
theorem dX2_number_50 : decode cX2_number 50 = .ok (.aload_n 0, 1) := by decide +kernel
theorem dX2_number_51 : decode cX2_number 51 = .ok (.getfield 22, 3) := by decide +kernel
theorem dX2_number_54 : decode cX2_number 54 = .ok (.iload_n 1, 1) := by decide +kernel
theorem dX2_number_55 : decode cX2_number 55 = .ok (.isub, 1) := by decide +kernel
theorem dX2_number_56 : decode cX2_number 56 = .ok (.iconst 4, 1) := by decide +kernel
theorem dX2_number_57 : decode cX2_number 57 = .ok (.if_icmp .ge 21, 3) := by decide +kernel
theorem dX2_number_60 : decode cX2_number 60 = .ok (.bipush 10, 2) := by decide +kernel
theorem dX2_number_62 : decode cX2_number 62 = .ok (.iload_n 2, 1) := by decide +kernel
theorem dX2_number_63 : decode cX2_number 63 = .ok (.imul, 1) := by decide +kernel
theorem dX2_number_64 : decode cX2_number 64 = .ok (.aload_n 0, 1) := by decide +kernel
theorem dX2_number_65 : decode cX2_number 65 = .ok (.getfield 9, 3) := by decide +kernel
theorem dX2_number_68 : decode cX2_number 68 = .ok (.aload_n 0, 1) := by decide +kernel
theorem dX2_number_69 : decode cX2_number 69 = .ok (.getfield 22, 3) := by decide +kernel
theorem dX2_number_72 : decode cX2_number 72 = .ok (.iaload, 1) := by decide +kernel
theorem dX2_number_73 : decode cX2_number 73 = .ok (.bipush 48, 2) := by decide +kernel
theorem dX2_number_75 : decode cX2_number 75 = .ok (.isub, 1) := by decide +kernel
theorem dX2_number_76 : decode cX2_number 76 = .ok (.iadd, 1) := by decide +kernel
theorem dX2_number_77 : decode cX2_number 77 = .ok (.istore_n 2, 1) := by decide +kernel
theorem dX2_number_78 : decode cX2_number 78 = .ok (.aload_n 0, 1) := by decide +kernel
theorem dX2_number_79 : decode cX2_number 79 = .ok (.dup, 1) := by decide +kernel
theorem dX2_number_80 : decode cX2_number 80 = .ok (.getfield 22, 3) := by decide +kernel
theorem dX2_number_83 : decode cX2_number 83 = .ok (.iconst 1, 1) := by decide +kernel
theorem dX2_number_84 : decode cX2_number 84 = .ok (.iadd, 1) := by decide +kernel
theorem dX2_number_85 : decode cX2_number 85 = .ok (.putfield 22, 3) := by decide +kernel
theorem dX2_number_88 : decode cX2_number 88 = .ok (.goto (-77), 3) := by decide +kernel
theorem dX2_number_91 : decode cX2_number 91 = .ok (.aload_n 0, 1) := by decide +kernel
theorem dX2_number_92 : decode cX2_number 92 = .ok (.getfield 22, 3) := by decide +kernel
theorem dX2_number_95 : decode cX2_number 95 = .ok (.iload_n 1, 1) := by decide +kernel
theorem dX2_number_96 : decode cX2_number 96 = .ok (.if_icmp .eq 13, 3) := by decide +kernel
theorem dX2_number_99 : decode cX2_number 99 = .ok (.aload_n 0, 1) := by decide +kernel
theorem dX2_number_100 : decode cX2_number 100 = .ok (.getfield 22, 3) := by decide +kernel
theorem dX2_number_103 : decode cX2_number 103 = .ok (.iload_n 1, 1) := by decide +kernel
theorem dX2_number_104 : decode cX2_number 104 = .ok (.isub, 1) := by decide +kernel
theorem dX2_number_105 : decode cX2_number 105 = .ok (.iconst 4, 1) := by decide +kernel
theorem dX2_number_106 : decode cX2_number 106 = .ok (.if_icmp .le 8, 3) := by decide +kernel
theorem dX2_number_109 : decode cX2_number 109 = .ok (.aload_n 0, 1) := by decide +kernel
theorem dX2_number_110 : decode cX2_number 110 = .ok (.iload_n 1, 1) := by decide +kernel
theorem dX2_number_111 : decode cX2_number 111 = .ok (.invokevirtual 75, 3) := by decide +kernel
theorem dX2_number_114 : decode cX2_number 114 = .ok (.iload_n 2, 1) := by decide +kernel
theorem dX2_number_115 : decode cX2_number 115 = .ok (.ireturn, 1) := by decide +kernel
def f_X2_number_b91 (n : Nat) (x1 : Int32) (x2 : Int32) (M : m_M) : Option (Int32 × m_M) :=
  if (M.1 168 2) = x1 then
  m_bd (f_X2_blame x1 M) fun M2 =>
  some (x2, M2)
  else
  if ((M.1 168 2) - x1) ≤ 4 then
  some (x2, M)
  else
  m_bd (f_X2_blame x1 M) fun M4 =>
  some (x2, M4)
def f_X2_number_b78 (n : Nat) (q11 : Int32 → Int32 → m_M → Option (Int32 × m_M)) (x1 : Int32) (x2 : Int32) (M : m_M) : Option (Int32 × m_M) :=
  m_bd (m_sI M 168 2 ((M.1 168 2) + (1 : Int32))) fun M5 =>
  q11 x1 x2 M5
def f_X2_number_b11 (n : Nat) : Nat → Int32 → Int32 → m_M → Option (Int32 × m_M)
  | 0, _, _, _ => none
  | u + 1, x1, x2, M =>
    if (M.1 168 1) ≤ (M.1 168 2) then
  f_X2_number_b91 n x1 x2 M
  else
  m_gd (m_in (M.1 168 2) 300) (
  if (M.1 169 ((M.1 168 2).toNatClampNeg)) < 48 then
  f_X2_number_b91 n x1 x2 M
  else
  if (57 : Int32) < (M.1 169 ((M.1 168 2).toNatClampNeg)) then
  f_X2_number_b91 n x1 x2 M
  else
  if (4 : Int32) ≤ ((M.1 168 2) - x1) then
  f_X2_number_b78 n (f_X2_number_b11 n u) x1 x2 M
  else
  m_bd (((10 : Int32) * x2) + ((M.1 169 ((M.1 168 2).toNatClampNeg)) - (48 : Int32))) fun t11 =>
  f_X2_number_b78 n (f_X2_number_b11 n u) x1 t11 M)
def f_X2_number (n : Nat) (M : m_M) : Option (Int32 × m_M) :=
  m_ob (f_X2_skipBlanks n M) fun M12 =>
  f_X2_number_b11 n n (M12.1 168 2) 0 M12
set_option maxHeartbeats 4000000 in
set_option maxRecDepth 100000 in
theorem c_X2_number (l : Launch) (G : m_G) {n : Nat} {M : m_M} {r0 : Int32} {M0 : m_M}  (hres : f_X2_number n M = some (r0, M0)) : Met l yX2_number (m_U yX2_number cX2_number 3 (some .int)) (m_R 1 21) (m_Pc G [.ref (m_ad G 168)] M) (m_Qi G r0 M0) 0 0 (m_A G) := by
  refine m_i0 (n := 3) RX2 rfl (by decide) (Nat.le_of_ble_eq_true rfl) ?_
  intro p e s m args below meth c X hr hlk hSt hP hS ls hl
  have hl : lv_has ls 3 [(0, .ref (m_ad G 168))] := hl
  have B91 : ∀  (x1 : Int32) (x2 : Int32) (M : m_M) (H : Heap) (locs : List Loc) (ls : Array Slot), m_P G M H → va_S (m_A G) s.heap H locs → lv_has ls 3 [(0, .ref (m_ad G 168)), (1, .int x1), (2, .int x2)] → f_X2_number_b91 n x1 x2 M = some (r0, M0) → W p l e (m_R 1 21) s m args below meth c H locs 0 0 (MQ below (m_Qi G r0 M0) args s 0 0 (m_A G)) (F0 m 91 ls []) := by
    intro x1 x2 M H locs ls hP hS hl hres
    unfold f_X2_number_b91 at hres
    refine lv_aload_n X.1 X.2.1 dX2_number_91 rfl (lv_at hl 0 rfl) ?_
    refine m_g2 (v := .int (M.1 168 2)) X hSt hP m_z_168 2 (by decide) rfl k_f_X2_22 dX2_number_92 ?_
    refine lv_iload_n X.1 X.2.1 dX2_number_95 rfl (lv_at hl 1 rfl) ?_
    refine lv_icmp_eq (tgt := 109) X.1 X.2.1 dX2_number_96 (by decide) (fun hc1 => ?_) (fun hc1 => ?_)
    · have hres := m_it hres hc1
      refine lv_aload_n X.1 X.2.1 dX2_number_109 rfl (lv_at hl 0 rfl) ?_
      refine lv_iload_n X.1 X.2.1 dX2_number_110 rfl (lv_at hl 1 rfl) ?_
      obtain ⟨M2, eM2, hres⟩ := m_bd_e hres
      refine m_bv (m_cV (n := 1) (As := [.int x1]) (rest := []) X hSt hP hS hl.1 (c_X2_blame l G  eM2) k_c_yX2_blame k_m_X2_75 k_i_yX2_blame k_s_yX2_blame k_n_X2 (by decide +kernel) (m_rc2 hSt hP m_z_168) rfl rfl ⟨Nat.le_of_ble_eq_true rfl, Nat.le_of_ble_eq_true rfl⟩ (Nat.le_of_ble_eq_true rfl) ⟨Nat.zero_le _, Nat.zero_le _⟩ dX2_number_111) hS (fun H locs hP hS => ?_)
      refine lv_iload_n X.1 X.2.1 dX2_number_114 rfl (lv_at hl 2 rfl) ?_
      exact m_ri X hr hlk hP hS (Prod.mk.inj (Option.some.inj hres)).1 (Prod.mk.inj (Option.some.inj hres)).2 dX2_number_115
    · have hres := m_if hres hc1
      refine lv_aload_n X.1 X.2.1 dX2_number_99 rfl (lv_at hl 0 rfl) ?_
      refine m_g2 (v := .int (M.1 168 2)) X hSt hP m_z_168 2 (by decide) rfl k_f_X2_22 dX2_number_100 ?_
      refine lv_iload_n X.1 X.2.1 dX2_number_103 rfl (lv_at hl 1 rfl) ?_
      refine lv_isub X.1 X.2.1 dX2_number_104 ?_
      refine lv_iconst (v := 4) X.1 X.2.1 dX2_number_105 (by decide) ?_
      refine lv_icmp_le (tgt := 114) X.1 X.2.1 dX2_number_106 (by decide) (fun hc3 => ?_) (fun hc3 => ?_)
      · have hres := m_it hres hc3
        refine lv_iload_n X.1 X.2.1 dX2_number_114 rfl (lv_at hl 2 rfl) ?_
        exact m_ri X hr hlk hP hS (Prod.mk.inj (Option.some.inj hres)).1 (Prod.mk.inj (Option.some.inj hres)).2 dX2_number_115
      · have hres := m_if hres hc3
        refine lv_aload_n X.1 X.2.1 dX2_number_109 rfl (lv_at hl 0 rfl) ?_
        refine lv_iload_n X.1 X.2.1 dX2_number_110 rfl (lv_at hl 1 rfl) ?_
        obtain ⟨M4, eM4, hres⟩ := m_bd_e hres
        refine m_bv (m_cV (n := 1) (As := [.int x1]) (rest := []) X hSt hP hS hl.1 (c_X2_blame l G  eM4) k_c_yX2_blame k_m_X2_75 k_i_yX2_blame k_s_yX2_blame k_n_X2 (by decide +kernel) (m_rc2 hSt hP m_z_168) rfl rfl ⟨Nat.le_of_ble_eq_true rfl, Nat.le_of_ble_eq_true rfl⟩ (Nat.le_of_ble_eq_true rfl) ⟨Nat.zero_le _, Nat.zero_le _⟩ dX2_number_111) hS (fun H locs hP hS => ?_)
        refine lv_iload_n X.1 X.2.1 dX2_number_114 rfl (lv_at hl 2 rfl) ?_
        exact m_ri X hr hlk hP hS (Prod.mk.inj (Option.some.inj hres)).1 (Prod.mk.inj (Option.some.inj hres)).2 dX2_number_115
  have B78 : ∀ (q11 : Int32 → Int32 → m_M → Option (Int32 × m_M)) (hq11 : ∀ (x1 : Int32) (x2 : Int32) (M : m_M) (H : Heap) (locs : List Loc) (ls : Array Slot), m_P G M H → va_S (m_A G) s.heap H locs → lv_has ls 3 [(0, .ref (m_ad G 168)), (1, .int x1), (2, .int x2)] → q11 x1 x2 M = some (r0, M0) → W p l e (m_R 1 21) s m args below meth c H locs 0 0 (MQ below (m_Qi G r0 M0) args s 0 0 (m_A G)) (F0 m 11 ls [])) (x1 : Int32) (x2 : Int32) (M : m_M) (H : Heap) (locs : List Loc) (ls : Array Slot), m_P G M H → va_S (m_A G) s.heap H locs → lv_has ls 3 [(0, .ref (m_ad G 168)), (1, .int x1), (2, .int x2)] → f_X2_number_b78 n q11 x1 x2 M = some (r0, M0) → W p l e (m_R 1 21) s m args below meth c H locs 0 0 (MQ below (m_Qi G r0 M0) args s 0 0 (m_A G)) (F0 m 78 ls []) := by
    intro q11 hq11 x1 x2 M H locs ls hP hS hl hres
    unfold f_X2_number_b78 at hres
    refine lv_aload_n X.1 X.2.1 dX2_number_78 rfl (lv_at hl 0 rfl) ?_
    refine lv_dup X.1 X.2.1 dX2_number_79 rfl ?_
    refine m_g2 (v := .int (M.1 168 2)) X hSt hP m_z_168 2 (by decide) rfl k_f_X2_22 dX2_number_80 ?_
    refine lv_iconst (v := 1) X.1 X.2.1 dX2_number_83 (by decide) ?_
    refine lv_iadd X.1 X.2.1 dX2_number_84 ?_
    obtain ⟨M5, eM5, hres⟩ := m_bd_e hres
    refine m_pi2 X hSt hP hS m_z_168 2 (by decide) eM5 rfl rfl (by decide) k_f_X2_22 dX2_number_85 (fun H locs hP hS => ?_)
    refine lv_goto (tgt := 11) X.1 X.2.1 dX2_number_88 (by decide) ?_
    exact hq11 x1 x2 M5 _ _ _ hP hS (lv_sub hl [0, 1, 2] rfl) hres
  have B11 : ∀ (u : Nat) (x1 : Int32) (x2 : Int32) (M : m_M) (H : Heap) (locs : List Loc) (ls : Array Slot), m_P G M H → va_S (m_A G) s.heap H locs → lv_has ls 3 [(0, .ref (m_ad G 168)), (1, .int x1), (2, .int x2)] → f_X2_number_b11 n u x1 x2 M = some (r0, M0) → W p l e (m_R 1 21) s m args below meth c H locs 0 0 (MQ below (m_Qi G r0 M0) args s 0 0 (m_A G)) (F0 m 11 ls []) := by
    intro u
    induction u with
    | zero =>
      intro x1 x2 M H locs ls hP hS hl hres
      cases hres
    | succ u ih =>
      intro x1 x2 M H locs ls hP hS hl hres
      rw [f_X2_number_b11] at hres
      refine lv_aload_n X.1 X.2.1 dX2_number_11 rfl (lv_at hl 0 rfl) ?_
      refine m_g2 (v := .int (M.1 168 2)) X hSt hP m_z_168 2 (by decide) rfl k_f_X2_22 dX2_number_12 ?_
      refine lv_aload_n X.1 X.2.1 dX2_number_15 rfl (lv_at hl 0 rfl) ?_
      refine m_g2 (v := .int (M.1 168 1)) X hSt hP m_z_168 1 (by decide) rfl k_f_X2_19 dX2_number_16 ?_
      refine lv_icmp_ge (tgt := 91) X.1 X.2.1 dX2_number_19 (by decide) (fun hc6 => ?_) (fun hc6 => ?_)
      · have hres := m_it hres hc6
        exact B91 x1 x2 M _ _ _ hP hS (lv_sub hl [0, 1, 2] rfl) hres
      · have hres := m_if hres hc6
        refine lv_aload_n X.1 X.2.1 dX2_number_22 rfl (lv_at hl 0 rfl) ?_
        refine m_g2 (v := .ref (m_ad G 169)) X hSt hP m_z_168 0 (by decide) rfl k_f_X2_9 dX2_number_23 ?_
        refine lv_aload_n X.1 X.2.1 dX2_number_26 rfl (lv_at hl 0 rfl) ?_
        refine m_g2 (v := .int (M.1 168 2)) X hSt hP m_z_168 2 (by decide) rfl k_f_X2_22 dX2_number_27 ?_
        obtain ⟨hg7, hres⟩ := m_gd_e hres
        refine m_ia (j := ((M.1 168 2).toNatClampNeg)) X hSt hP m_z_169 hg7 rfl dX2_number_30 ?_
        refine lv_bipush (v := 48) X.1 X.2.1 dX2_number_31 (by decide) ?_
        refine lv_icmp_lt (tgt := 91) X.1 X.2.1 dX2_number_33 (by decide) (fun hc8 => ?_) (fun hc8 => ?_)
        · have hres := m_it hres hc8
          exact B91 x1 x2 M _ _ _ hP hS (lv_sub hl [0, 1, 2] rfl) hres
        · have hres := m_if hres hc8
          refine lv_aload_n X.1 X.2.1 dX2_number_36 rfl (lv_at hl 0 rfl) ?_
          refine m_g2 (v := .ref (m_ad G 169)) X hSt hP m_z_168 0 (by decide) rfl k_f_X2_9 dX2_number_37 ?_
          refine lv_aload_n X.1 X.2.1 dX2_number_40 rfl (lv_at hl 0 rfl) ?_
          refine m_g2 (v := .int (M.1 168 2)) X hSt hP m_z_168 2 (by decide) rfl k_f_X2_22 dX2_number_41 ?_
          refine m_ia (j := ((M.1 168 2).toNatClampNeg)) X hSt hP m_z_169 hg7 rfl dX2_number_44 ?_
          refine lv_bipush (v := 57) X.1 X.2.1 dX2_number_45 (by decide) ?_
          refine lv_icmp_gt (tgt := 91) X.1 X.2.1 dX2_number_47 (by decide) (fun hc9 => ?_) (fun hc9 => ?_)
          · have hres := m_it hres hc9
            exact B91 x1 x2 M _ _ _ hP hS (lv_sub hl [0, 1, 2] rfl) hres
          · have hres := m_if hres hc9
            refine lv_aload_n X.1 X.2.1 dX2_number_50 rfl (lv_at hl 0 rfl) ?_
            refine m_g2 (v := .int (M.1 168 2)) X hSt hP m_z_168 2 (by decide) rfl k_f_X2_22 dX2_number_51 ?_
            refine lv_iload_n X.1 X.2.1 dX2_number_54 rfl (lv_at hl 1 rfl) ?_
            refine lv_isub X.1 X.2.1 dX2_number_55 ?_
            refine lv_iconst (v := 4) X.1 X.2.1 dX2_number_56 (by decide) ?_
            refine lv_icmp_ge (tgt := 78) X.1 X.2.1 dX2_number_57 (by decide) (fun hc10 => ?_) (fun hc10 => ?_)
            · have hres := m_it hres hc10
              exact B78 (f_X2_number_b11 n u) ih x1 x2 M _ _ _ hP hS (lv_sub hl [0, 1, 2] rfl) hres
            · have hres := m_if hres hc10
              refine lv_bipush (v := 10) X.1 X.2.1 dX2_number_60 (by decide) ?_
              refine lv_iload_n X.1 X.2.1 dX2_number_62 rfl (lv_at hl 2 rfl) ?_
              refine lv_imul X.1 X.2.1 dX2_number_63 ?_
              refine lv_aload_n X.1 X.2.1 dX2_number_64 rfl (lv_at hl 0 rfl) ?_
              refine m_g2 (v := .ref (m_ad G 169)) X hSt hP m_z_168 0 (by decide) rfl k_f_X2_9 dX2_number_65 ?_
              refine lv_aload_n X.1 X.2.1 dX2_number_68 rfl (lv_at hl 0 rfl) ?_
              refine m_g2 (v := .int (M.1 168 2)) X hSt hP m_z_168 2 (by decide) rfl k_f_X2_22 dX2_number_69 ?_
              refine m_ia (j := ((M.1 168 2).toNatClampNeg)) X hSt hP m_z_169 hg7 rfl dX2_number_72 ?_
              refine lv_bipush (v := 48) X.1 X.2.1 dX2_number_73 (by decide) ?_
              refine lv_isub X.1 X.2.1 dX2_number_75 ?_
              refine lv_iadd X.1 X.2.1 dX2_number_76 ?_
              obtain ⟨t11, et11, hres⟩ := m_bd_e hres
              refine m_ti et11 ?_
              refine lv_istore_n (lv' := [(2, .int t11), (0, .ref (m_ad G 168)), (1, .int x1)]) X.1 X.2.1 dX2_number_77 rfl hl (by decide) rfl (fun ls hl => ?_)
              exact B78 (f_X2_number_b11 n u) ih x1 t11 M _ _ _ hP hS (lv_sub hl [1, 2, 0] rfl) hres
  unfold f_X2_number at hres
  refine lv_aload_n X.1 X.2.1 dX2_number_0 rfl (lv_at hl 0 rfl) ?_
  obtain ⟨M12, eM12, hres⟩ := m_ob_e hres
  refine m_bv (m_cV (n := 0) (As := []) (rest := []) X hSt hP hS hl.1 (c_X2_skipBlanks l G  eM12) k_c_yX2_skipBlanks k_m_X2_32 k_i_yX2_skipBlanks k_s_yX2_skipBlanks k_n_X2 (by decide +kernel) (m_rc2 hSt hP m_z_168) rfl rfl ⟨Nat.le_of_ble_eq_true rfl, Nat.le_of_ble_eq_true rfl⟩ (Nat.le_of_ble_eq_true rfl) ⟨Nat.zero_le _, Nat.zero_le _⟩ dX2_number_1) hS (fun H locs hP hS => ?_)
  refine lv_aload_n X.1 X.2.1 dX2_number_4 rfl (lv_at hl 0 rfl) ?_
  refine m_g2 (v := .int (M12.1 168 2)) X hSt hP m_z_168 2 (by decide) rfl k_f_X2_22 dX2_number_5 ?_
  refine lv_istore_n (lv' := [(1, .int (M12.1 168 2)), (0, .ref (m_ad G 168))]) X.1 X.2.1 dX2_number_8 rfl hl (by decide) rfl (fun ls hl => ?_)
  refine lv_iconst (v := 0) X.1 X.2.1 dX2_number_9 (by decide) ?_
  refine lv_istore_n (lv' := [(2, .int 0), (1, .int (M12.1 168 2)), (0, .ref (m_ad G 168))]) X.1 X.2.1 dX2_number_10 rfl hl (by decide) rfl (fun ls hl => ?_)
  exact B11 n (M12.1 168 2) 0 M12 _ _ _ hP hS (lv_sub hl [2, 1, 0] rfl) hres
theorem dX2_isVerb_0 : decode cX2_isVerb 0 = .ok (.aload_n 0, 1) := by decide +kernel
theorem dX2_isVerb_1 : decode cX2_isVerb 1 = .ok (.getfield 22, 3) := by decide +kernel
theorem dX2_isVerb_4 : decode cX2_isVerb 4 = .ok (.iload_n 1, 1) := by decide +kernel
theorem dX2_isVerb_5 : decode cX2_isVerb 5 = .ok (.isub, 1) := by decide +kernel
theorem dX2_isVerb_6 : decode cX2_isVerb 6 = .ok (.iload_n 3, 1) := by decide +kernel
theorem dX2_isVerb_7 : decode cX2_isVerb 7 = .ok (.iload_n 2, 1) := by decide +kernel
theorem dX2_isVerb_8 : decode cX2_isVerb 8 = .ok (.isub, 1) := by decide +kernel
theorem dX2_isVerb_9 : decode cX2_isVerb 9 = .ok (.if_icmp .eq 5, 3) := by decide +kernel
theorem dX2_isVerb_12 : decode cX2_isVerb 12 = .ok (.iconst 0, 1) := by decide +kernel
theorem dX2_isVerb_13 : decode cX2_isVerb 13 = .ok (.ireturn, 1) := by decide +kernel
theorem dX2_isVerb_14 : decode cX2_isVerb 14 = .ok (.iload_n 2, 1) := by decide +kernel
theorem dX2_isVerb_15 : decode cX2_isVerb 15 = .ok (.istore 4, 2) := by decide +kernel
theorem dX2_isVerb_17 : decode cX2_isVerb 17 = .ok (.iload 4, 2) := by decide +kernel
theorem dX2_isVerb_19 : decode cX2_isVerb 19 = .ok (.iload_n 3, 1) := by decide +kernel
theorem dX2_isVerb_20 : decode cX2_isVerb 20 = .ok (.if_icmp .ge 32, 3) := by decide +kernel
theorem dX2_isVerb_23 : decode cX2_isVerb 23 = .ok (.aload_n 0, 1) := by decide +kernel
theorem dX2_isVerb_24 : decode cX2_isVerb 24 = .ok (.getfield 9, 3) := by decide +kernel
theorem dX2_isVerb_27 : decode cX2_isVerb 27 = .ok (.iload_n 1, 1) := by decide +kernel
theorem dX2_isVerb_28 : decode cX2_isVerb 28 = .ok (.iload 4, 2) := by decide +kernel
theorem dX2_isVerb_30 : decode cX2_isVerb 30 = .ok (.iadd, 1) := by decide +kernel
theorem dX2_isVerb_31 : decode cX2_isVerb 31 = .ok (.iload_n 2, 1) := by decide +kernel
theorem dX2_isVerb_32 : decode cX2_isVerb 32 = .ok (.isub, 1) := by decide +kernel
theorem dX2_isVerb_33 : decode cX2_isVerb 33 = .ok (.iaload, 1) := by decide +kernel
theorem dX2_isVerb_34 : decode cX2_isVerb 34 = .ok (.ldc 83, 2) := by decide +kernel
theorem dX2_isVerb_36 : decode cX2_isVerb 36 = .ok (.iload 4, 2) := by decide +kernel
theorem dX2_isVerb_38 : decode cX2_isVerb 38 = .ok (.invokevirtual 53, 3) := by decide +kernel
theorem dX2_isVerb_41 : decode cX2_isVerb 41 = .ok (.if_icmp .eq 5, 3) := by decide +kernel
theorem dX2_isVerb_44 : decode cX2_isVerb 44 = .ok (.iconst 0, 1) := by decide +kernel
theorem dX2_isVerb_45 : decode cX2_isVerb 45 = .ok (.ireturn, 1) := by decide +kernel
theorem dX2_isVerb_46 : decode cX2_isVerb 46 = .ok (.iinc 4 1, 3) := by decide +kernel
theorem dX2_isVerb_49 : decode cX2_isVerb 49 = .ok (.goto (-32), 3) := by decide +kernel
theorem dX2_isVerb_52 : decode cX2_isVerb 52 = .ok (.iconst 1, 1) := by decide +kernel
theorem dX2_isVerb_53 : decode cX2_isVerb 53 = .ok (.ireturn, 1) := by decide +kernel
def f_X2_isVerb_b17 (n : Nat) (x1 : Int32) (x2 : Int32) (x3 : Int32) (M : m_M) : Nat → Int32 → Option Int32
  | 0, _ => none
  | u + 1, x4 =>
    if x3 ≤ x4 then
  some 1
  else
  m_gd (m_in ((x1 + x4) - x2) 300) (
  m_ob (f_J0_charAt_5068e 5 x4) fun r3 =>
  if (M.1 169 (((x1 + x4) - x2).toNatClampNeg)) = r3 then
  f_X2_isVerb_b17 n x1 x2 x3 M u (x4 + 1)
  else
  some 0)
def f_X2_isVerb (n : Nat) (x1 : Int32) (x2 : Int32) (x3 : Int32) (M : m_M) : Option Int32 :=
  if ((M.1 168 2) - x1) = (x3 - x2) then
  f_X2_isVerb_b17 n x1 x2 x3 M n x2
  else
  some 0
set_option maxHeartbeats 4000000 in
set_option maxRecDepth 100000 in
theorem c_X2_isVerb (l : Launch) (G : m_G) {n : Nat} {x1 : Int32} {x2 : Int32} {x3 : Int32} {M : m_M} {r0 : Int32}  (hres : f_X2_isVerb n x1 x2 x3 M = some r0) : Met l yX2_isVerb (m_U yX2_isVerb cX2_isVerb 5 (some .boolean)) (m_R 4 85) (m_Pc G [.ref (m_ad G 168), .int x1, .int x2, .int x3] M) (m_Qz G r0 M) 0 0 (m_A G) := by
  refine m_i0 (n := 5) RX2 rfl (by decide) (Nat.le_of_ble_eq_true rfl) ?_
  intro p e s m args below meth c X hr hlk hSt hP hS ls hl
  have hl : lv_has ls 5 [(0, .ref (m_ad G 168)), (1, .int x1), (2, .int x2), (3, .int x3)] := hl
  have B17 : ∀ (u : Nat) (x4 : Int32) (H : Heap) (locs : List Loc) (ls : Array Slot), m_P G M H → va_S (m_A G) s.heap H locs → lv_has ls 5 [(0, .ref (m_ad G 168)), (1, .int x1), (2, .int x2), (3, .int x3), (4, .int x4)] → f_X2_isVerb_b17 n x1 x2 x3 M u x4 = some r0 → W p l e (m_R 4 85) s m args below meth c H locs 0 0 (MQ below (m_Qz G r0 M) args s 0 0 (m_A G)) (F0 m 17 ls []) := by
    intro u
    induction u with
    | zero =>
      intro x4 H locs ls hP hS hl hres
      cases hres
    | succ u ih =>
      intro x4 H locs ls hP hS hl hres
      rw [f_X2_isVerb_b17] at hres
      refine lv_iload X.1 X.2.1 dX2_isVerb_17 (lv_at hl 4 rfl) ?_
      refine lv_iload_n X.1 X.2.1 dX2_isVerb_19 rfl (lv_at hl 3 rfl) ?_
      refine lv_icmp_ge (tgt := 52) X.1 X.2.1 dX2_isVerb_20 (by decide) (fun hc1 => ?_) (fun hc1 => ?_)
      · have hres := m_it hres hc1
        refine lv_iconst (v := 1) X.1 X.2.1 dX2_isVerb_52 (by decide) ?_
        exact m_rz X hr hlk hP hS (Option.some.inj hres) rfl (by decide) dX2_isVerb_53
      · have hres := m_if hres hc1
        refine lv_aload_n X.1 X.2.1 dX2_isVerb_23 rfl (lv_at hl 0 rfl) ?_
        refine m_g2 (v := .ref (m_ad G 169)) X hSt hP m_z_168 0 (by decide) rfl k_f_X2_9 dX2_isVerb_24 ?_
        refine lv_iload_n X.1 X.2.1 dX2_isVerb_27 rfl (lv_at hl 1 rfl) ?_
        refine lv_iload X.1 X.2.1 dX2_isVerb_28 (lv_at hl 4 rfl) ?_
        refine lv_iadd X.1 X.2.1 dX2_isVerb_30 ?_
        refine lv_iload_n X.1 X.2.1 dX2_isVerb_31 rfl (lv_at hl 2 rfl) ?_
        refine lv_isub X.1 X.2.1 dX2_isVerb_32 ?_
        obtain ⟨hg2, hres⟩ := m_gd_e hres
        refine m_ia (j := (((x1 + x4) - x2).toNatClampNeg)) X hSt hP m_z_169 hg2 rfl dX2_isVerb_33 ?_
        refine m_ld5 X hSt dX2_isVerb_34 ?_
        refine lv_iload X.1 X.2.1 dX2_isVerb_36 (lv_at hl 4 rfl) ?_
        obtain ⟨r3, err3, hres⟩ := m_ob_e hres
        refine m_bn (m_cV (n := 1) (As := [.int x4]) (rest := [.int (M.1 169 (((x1 + x4) - x2).toNatClampNeg))]) X hSt hP hS hl.1 (c_J0_charAt_5068e l G (M := M) (by decide) err3) k_c_yJ0_charAt_5068e k_m_X2_53 k_i_yJ0_charAt_5068e k_s_yJ0_charAt_5068e k_n_J0 (by decide +kernel) (m_rcS hSt hS (by decide)) rfl rfl ⟨Nat.le_of_ble_eq_true rfl, Nat.le_of_ble_eq_true rfl⟩ (Nat.le_of_ble_eq_true rfl) ⟨Nat.zero_le _, Nat.zero_le _⟩ dX2_isVerb_38) hS (fun H locs hP hS hz4 => ?_)
        refine lv_icmp_eq (tgt := 46) X.1 X.2.1 dX2_isVerb_41 (by decide) (fun hc5 => ?_) (fun hc5 => ?_)
        · have hres := m_it hres hc5
          refine lv_iinc (v := (x4 + 1)) (lv' := [(4, .int (x4 + 1)), (0, .ref (m_ad G 168)), (1, .int x1), (2, .int x2), (3, .int x3)]) X.1 X.2.1 dX2_isVerb_46 hl (k := 4) rfl rfl (by decide) rfl (fun ls hl => ?_)
          refine lv_goto (tgt := 17) X.1 X.2.1 dX2_isVerb_49 (by decide) ?_
          exact ih (x4 + 1) _ _ _ hP hS (lv_sub hl [1, 2, 3, 4, 0] rfl) hres
        · have hres := m_if hres hc5
          refine lv_iconst (v := 0) X.1 X.2.1 dX2_isVerb_44 (by decide) ?_
          exact m_rz X hr hlk hP hS (Option.some.inj hres) rfl (by decide) dX2_isVerb_45
  unfold f_X2_isVerb at hres
  refine lv_aload_n X.1 X.2.1 dX2_isVerb_0 rfl (lv_at hl 0 rfl) ?_
  refine m_g2 (v := .int (M.1 168 2)) X hSt hP m_z_168 2 (by decide) rfl k_f_X2_22 dX2_isVerb_1 ?_
  refine lv_iload_n X.1 X.2.1 dX2_isVerb_4 rfl (lv_at hl 1 rfl) ?_
  refine lv_isub X.1 X.2.1 dX2_isVerb_5 ?_
  refine lv_iload_n X.1 X.2.1 dX2_isVerb_6 rfl (lv_at hl 3 rfl) ?_
  refine lv_iload_n X.1 X.2.1 dX2_isVerb_7 rfl (lv_at hl 2 rfl) ?_
  refine lv_isub X.1 X.2.1 dX2_isVerb_8 ?_
  refine lv_icmp_eq (tgt := 14) X.1 X.2.1 dX2_isVerb_9 (by decide) (fun hc6 => ?_) (fun hc6 => ?_)
  · have hres := m_it hres hc6
    refine lv_iload_n X.1 X.2.1 dX2_isVerb_14 rfl (lv_at hl 2 rfl) ?_
    refine lv_istore (lv' := [(4, .int x2), (0, .ref (m_ad G 168)), (1, .int x1), (2, .int x2), (3, .int x3)]) X.1 X.2.1 dX2_isVerb_15 hl (by decide) rfl (fun ls hl => ?_)
    exact B17 n x2 _ _ _ hP hS (lv_sub hl [1, 2, 3, 4, 0] rfl) hres
  · have hres := m_if hres hc6
    refine lv_iconst (v := 0) X.1 X.2.1 dX2_isVerb_12 (by decide) ?_
    exact m_rz X hr hlk hP hS (Option.some.inj hres) rfl (by decide) dX2_isVerb_13
theorem dX2_kindOf_0 : decode cX2_kindOf 0 = .ok (.iconst 0, 1) := by decide +kernel
theorem dX2_kindOf_1 : decode cX2_kindOf 1 = .ok (.istore_n 2, 1) := by decide +kernel
theorem dX2_kindOf_2 : decode cX2_kindOf 2 = .ok (.iconst 0, 1) := by decide +kernel
theorem dX2_kindOf_3 : decode cX2_kindOf 3 = .ok (.istore_n 3, 1) := by decide +kernel
theorem dX2_kindOf_4 : decode cX2_kindOf 4 = .ok (.iconst 0, 1) := by decide +kernel
theorem dX2_kindOf_5 : decode cX2_kindOf 5 = .ok (.istore 4, 2) := by decide +kernel
theorem dX2_kindOf_7 : decode cX2_kindOf 7 = .ok (.iload 4, 2) := by decide +kernel
theorem dX2_kindOf_9 : decode cX2_kindOf 9 = .ok (.ldc 83, 2) := by decide +kernel
theorem dX2_kindOf_11 : decode cX2_kindOf 11 = .ok (.invokevirtual 85, 3) := by decide +kernel
theorem dX2_kindOf_14 : decode cX2_kindOf 14 = .ok (.if_icmp .ge 42, 3) := by decide +kernel
theorem dX2_kindOf_17 : decode cX2_kindOf 17 = .ok (.ldc 83, 2) := by decide +kernel
theorem dX2_kindOf_19 : decode cX2_kindOf 19 = .ok (.iload 4, 2) := by decide +kernel
theorem dX2_kindOf_21 : decode cX2_kindOf 21 = .ok (.invokevirtual 53, 3) := by decide +kernel
theorem dX2_kindOf_24 : decode cX2_kindOf 24 = .ok (.bipush 32, 2) := by decide +kernel
theorem dX2_kindOf_26 : decode cX2_kindOf 26 = .ok (.if_icmp .ne 24, 3) := by decide +kernel
theorem dX2_kindOf_29 : decode cX2_kindOf 29 = .ok (.aload_n 0, 1) := by decide +kernel
theorem dX2_kindOf_30 : decode cX2_kindOf 30 = .ok (.iload_n 1, 1) := by decide +kernel
theorem dX2_kindOf_31 : decode cX2_kindOf 31 = .ok (.iload_n 3, 1) := by decide +kernel
theorem dX2_kindOf_32 : decode cX2_kindOf 32 = .ok (.iload 4, 2) := by decide +kernel
theorem dX2_kindOf_34 : decode cX2_kindOf 34 = .ok (.invokevirtual 88, 3) := by decide +kernel
theorem dX2_kindOf_37 : decode cX2_kindOf 37 = .ok (.ifCond .eq 5, 3) := by decide +kernel
theorem dX2_kindOf_40 : decode cX2_kindOf 40 = .ok (.iload_n 2, 1) := by decide +kernel
theorem dX2_kindOf_41 : decode cX2_kindOf 41 = .ok (.ireturn, 1) := by decide +kernel
theorem dX2_kindOf_42 : decode cX2_kindOf 42 = .ok (.iinc 2 1, 3) := by decide +kernel
theorem dX2_kindOf_45 : decode cX2_kindOf 45 = .ok (.iload 4, 2) := by decide +kernel
theorem dX2_kindOf_47 : decode cX2_kindOf 47 = .ok (.iconst 1, 1) := by decide +kernel
theorem dX2_kindOf_48 : decode cX2_kindOf 48 = .ok (.iadd, 1) := by decide +kernel
theorem dX2_kindOf_49 : decode cX2_kindOf 49 = .ok (.istore_n 3, 1) := by decide +kernel
theorem dX2_kindOf_50 : decode cX2_kindOf 50 = .ok (.iinc 4 1, 3) := by decide +kernel
theorem dX2_kindOf_53 : decode cX2_kindOf 53 = .ok (.goto (-46), 3) := by decide +kernel
theorem dX2_kindOf_56 : decode cX2_kindOf 56 = .ok (.iconst (-1), 1) := by decide +kernel
theorem dX2_kindOf_57 : decode cX2_kindOf 57 = .ok (.ireturn, 1) := by decide +kernel
def f_X2_kindOf_b7 (n : Nat) (x1 : Int32) (M : m_M) : Nat → Int32 → Int32 → Int32 → Option Int32
  | 0, _, _, _ => none
  | u + 1, x2, x3, x4 =>
    m_bd (f_J0_length_8abf5 5) fun r1 =>
  if r1 ≤ x4 then
  some (-1)
  else
  m_ob (f_J0_charAt_5068e 5 x4) fun r3 =>
  if r3 = 32 then
  m_ob (f_X2_isVerb n x1 x3 x4 M) fun r6 =>
  if r6 = 0 then
  f_X2_kindOf_b7 n x1 M u (x2 + 1) (x4 + (1 : Int32)) (x4 + 1)
  else
  some x2
  else
  f_X2_kindOf_b7 n x1 M u x2 x3 (x4 + 1)
def f_X2_kindOf (n : Nat) (x1 : Int32) (M : m_M) : Option Int32 :=
  f_X2_kindOf_b7 n x1 M n 0 0 0
set_option maxHeartbeats 4000000 in
set_option maxRecDepth 100000 in
theorem c_X2_kindOf (l : Launch) (G : m_G) {n : Nat} {x1 : Int32} {M : m_M} {r0 : Int32}  (hres : f_X2_kindOf n x1 M = some r0) : Met l yX2_kindOf (m_U yX2_kindOf cX2_kindOf 5 (some .int)) (m_R 5 109) (m_Pc G [.ref (m_ad G 168), .int x1] M) (m_Qi G r0 M) 0 0 (m_A G) := by
  refine m_i0 (n := 5) RX2 rfl (by decide) (Nat.le_of_ble_eq_true rfl) ?_
  intro p e s m args below meth c X hr hlk hSt hP hS ls hl
  have hl : lv_has ls 5 [(0, .ref (m_ad G 168)), (1, .int x1)] := hl
  have B7 : ∀ (u : Nat) (x2 : Int32) (x3 : Int32) (x4 : Int32) (H : Heap) (locs : List Loc) (ls : Array Slot), m_P G M H → va_S (m_A G) s.heap H locs → lv_has ls 5 [(0, .ref (m_ad G 168)), (1, .int x1), (2, .int x2), (3, .int x3), (4, .int x4)] → f_X2_kindOf_b7 n x1 M u x2 x3 x4 = some r0 → W p l e (m_R 5 109) s m args below meth c H locs 0 0 (MQ below (m_Qi G r0 M) args s 0 0 (m_A G)) (F0 m 7 ls []) := by
    intro u
    induction u with
    | zero =>
      intro x2 x3 x4 H locs ls hP hS hl hres
      cases hres
    | succ u ih =>
      intro x2 x3 x4 H locs ls hP hS hl hres
      rw [f_X2_kindOf_b7] at hres
      refine lv_iload X.1 X.2.1 dX2_kindOf_7 (lv_at hl 4 rfl) ?_
      refine m_ld5 X hSt dX2_kindOf_9 ?_
      obtain ⟨r1, err1, hres⟩ := m_bd_e hres
      refine m_bi (m_cV (n := 0) (As := []) (rest := [.int x4]) X hSt hP hS hl.1 (c_J0_length_8abf5 l G (M := M) (by decide) err1) k_c_yJ0_length_8abf5 k_m_X2_85 k_i_yJ0_length_8abf5 k_s_yJ0_length_8abf5 k_n_J0 (by decide +kernel) (m_rcS hSt hS (by decide)) rfl rfl ⟨Nat.le_of_ble_eq_true rfl, Nat.le_of_ble_eq_true rfl⟩ (Nat.le_of_ble_eq_true rfl) ⟨Nat.zero_le _, Nat.zero_le _⟩ dX2_kindOf_11) hS (fun H locs hP hS => ?_)
      refine lv_icmp_ge (tgt := 56) X.1 X.2.1 dX2_kindOf_14 (by decide) (fun hc2 => ?_) (fun hc2 => ?_)
      · have hres := m_it hres hc2
        refine lv_iconst (v := (-1)) X.1 X.2.1 dX2_kindOf_56 (by decide) ?_
        exact m_ri X hr hlk hP hS (Option.some.inj hres) rfl dX2_kindOf_57
      · have hres := m_if hres hc2
        refine m_ld5 X hSt dX2_kindOf_17 ?_
        refine lv_iload X.1 X.2.1 dX2_kindOf_19 (lv_at hl 4 rfl) ?_
        obtain ⟨r3, err3, hres⟩ := m_ob_e hres
        refine m_bn (m_cV (n := 1) (As := [.int x4]) (rest := []) X hSt hP hS hl.1 (c_J0_charAt_5068e l G (M := M) (by decide) err3) k_c_yJ0_charAt_5068e k_m_X2_53 k_i_yJ0_charAt_5068e k_s_yJ0_charAt_5068e k_n_J0 (by decide +kernel) (m_rcS hSt hS (by decide)) rfl rfl ⟨Nat.le_of_ble_eq_true rfl, Nat.le_of_ble_eq_true rfl⟩ (Nat.le_of_ble_eq_true rfl) ⟨Nat.zero_le _, Nat.zero_le _⟩ dX2_kindOf_21) hS (fun H locs hP hS hz4 => ?_)
        refine lv_bipush (v := 32) X.1 X.2.1 dX2_kindOf_24 (by decide) ?_
        refine lv_icmp_ne (tgt := 50) X.1 X.2.1 dX2_kindOf_26 (by decide) (fun hc5 => ?_) (fun hc5 => ?_)
        · have hres := m_if hres hc5
          refine lv_iinc (v := (x4 + 1)) (lv' := [(4, .int (x4 + 1)), (0, .ref (m_ad G 168)), (1, .int x1), (2, .int x2), (3, .int x3)]) X.1 X.2.1 dX2_kindOf_50 hl (k := 4) rfl rfl (by decide) rfl (fun ls hl => ?_)
          refine lv_goto (tgt := 7) X.1 X.2.1 dX2_kindOf_53 (by decide) ?_
          exact ih x2 x3 (x4 + 1) _ _ _ hP hS (lv_sub hl [1, 2, 3, 4, 0] rfl) hres
        · have hres := m_it hres hc5
          refine lv_aload_n X.1 X.2.1 dX2_kindOf_29 rfl (lv_at hl 0 rfl) ?_
          refine lv_iload_n X.1 X.2.1 dX2_kindOf_30 rfl (lv_at hl 1 rfl) ?_
          refine lv_iload_n X.1 X.2.1 dX2_kindOf_31 rfl (lv_at hl 3 rfl) ?_
          refine lv_iload X.1 X.2.1 dX2_kindOf_32 (lv_at hl 4 rfl) ?_
          obtain ⟨r6, err6, hres⟩ := m_ob_e hres
          refine m_bz (m_cV (n := 3) (As := [.int x1, .int x3, .int x4]) (rest := []) X hSt hP hS hl.1 (c_X2_isVerb l G  err6) k_c_yX2_isVerb k_m_X2_88 k_i_yX2_isVerb k_s_yX2_isVerb k_n_X2 (by decide +kernel) (m_rc2 hSt hP m_z_168) rfl rfl ⟨Nat.le_of_ble_eq_true rfl, Nat.le_of_ble_eq_true rfl⟩ (Nat.le_of_ble_eq_true rfl) ⟨Nat.zero_le _, Nat.zero_le _⟩ dX2_kindOf_34) hS (fun H locs hP hS hz7 => ?_)
          refine lv_if_eq (tgt := 42) X.1 X.2.1 dX2_kindOf_37 (by decide) (fun hc8 => ?_) (fun hc8 => ?_)
          · have hres := m_it hres hc8
            refine lv_iinc (v := (x2 + 1)) (lv' := [(2, .int (x2 + 1)), (0, .ref (m_ad G 168)), (1, .int x1), (3, .int x3), (4, .int x4)]) X.1 X.2.1 dX2_kindOf_42 hl (k := 2) rfl rfl (by decide) rfl (fun ls hl => ?_)
            refine lv_iload X.1 X.2.1 dX2_kindOf_45 (lv_at hl 4 rfl) ?_
            refine lv_iconst (v := 1) X.1 X.2.1 dX2_kindOf_47 (by decide) ?_
            refine lv_iadd X.1 X.2.1 dX2_kindOf_48 ?_
            refine lv_istore_n (lv' := [(3, .int (x4 + (1 : Int32))), (2, .int (x2 + 1)), (0, .ref (m_ad G 168)), (1, .int x1), (4, .int x4)]) X.1 X.2.1 dX2_kindOf_49 rfl hl (by decide) rfl (fun ls hl => ?_)
            refine lv_iinc (v := (x4 + 1)) (lv' := [(4, .int (x4 + 1)), (3, .int (x4 + (1 : Int32))), (2, .int (x2 + 1)), (0, .ref (m_ad G 168)), (1, .int x1)]) X.1 X.2.1 dX2_kindOf_50 hl (k := 4) rfl rfl (by decide) rfl (fun ls hl => ?_)
            refine lv_goto (tgt := 7) X.1 X.2.1 dX2_kindOf_53 (by decide) ?_
            exact ih (x2 + 1) (x4 + (1 : Int32)) (x4 + 1) _ _ _ hP hS (lv_sub hl [3, 4, 2, 1, 0] rfl) hres
          · have hres := m_if hres hc8
            refine lv_iload_n X.1 X.2.1 dX2_kindOf_40 rfl (lv_at hl 2 rfl) ?_
            exact m_ri X hr hlk hP hS (Option.some.inj hres) rfl dX2_kindOf_41
  unfold f_X2_kindOf at hres
  refine lv_iconst (v := 0) X.1 X.2.1 dX2_kindOf_0 (by decide) ?_
  refine lv_istore_n (lv' := [(2, .int 0), (0, .ref (m_ad G 168)), (1, .int x1)]) X.1 X.2.1 dX2_kindOf_1 rfl hl (by decide) rfl (fun ls hl => ?_)
  refine lv_iconst (v := 0) X.1 X.2.1 dX2_kindOf_2 (by decide) ?_
  refine lv_istore_n (lv' := [(3, .int 0), (2, .int 0), (0, .ref (m_ad G 168)), (1, .int x1)]) X.1 X.2.1 dX2_kindOf_3 rfl hl (by decide) rfl (fun ls hl => ?_)
  refine lv_iconst (v := 0) X.1 X.2.1 dX2_kindOf_4 (by decide) ?_
  refine lv_istore (lv' := [(4, .int 0), (3, .int 0), (2, .int 0), (0, .ref (m_ad G 168)), (1, .int x1)]) X.1 X.2.1 dX2_kindOf_5 hl (by decide) rfl (fun ls hl => ?_)
  exact B7 n 0 0 0 _ _ _ hP hS (lv_sub hl [3, 4, 2, 1, 0] rfl) hres
theorem dX2_verb_0 : decode cX2_verb 0 = .ok (.aload_n 0, 1) := by decide +kernel
theorem dX2_verb_1 : decode cX2_verb 1 = .ok (.invokevirtual 32, 3) := by decide +kernel
theorem dX2_verb_4 : decode cX2_verb 4 = .ok (.aload_n 0, 1) := by decide +kernel
theorem dX2_verb_5 : decode cX2_verb 5 = .ok (.getfield 22, 3) := by decide +kernel
theorem dX2_verb_8 : decode cX2_verb 8 = .ok (.istore_n 1, 1) := by decide +kernel
theorem dX2_verb_9 : decode cX2_verb 9 = .ok (.aload_n 0, 1) := by decide +kernel
theorem dX2_verb_10 : decode cX2_verb 10 = .ok (.getfield 22, 3) := by decide +kernel
theorem dX2_verb_13 : decode cX2_verb 13 = .ok (.aload_n 0, 1) := by decide +kernel
theorem dX2_verb_14 : decode cX2_verb 14 = .ok (.getfield 19, 3) := by decide +kernel
theorem dX2_verb_17 : decode cX2_verb 17 = .ok (.if_icmp .ge 44, 3) := by decide +kernel
theorem dX2_verb_20 : decode cX2_verb 20 = .ok (.aload_n 0, 1) := by decide +kernel
theorem dX2_verb_21 : decode cX2_verb 21 = .ok (.getfield 9, 3) := by decide +kernel
theorem dX2_verb_24 : decode cX2_verb 24 = .ok (.aload_n 0, 1) := by decide +kernel
theorem dX2_verb_25 : decode cX2_verb 25 = .ok (.getfield 22, 3) := by decide +kernel
theorem dX2_verb_28 : decode cX2_verb 28 = .ok (.iaload, 1) := by decide +kernel
theorem dX2_verb_29 : decode cX2_verb 29 = .ok (.bipush 97, 2) := by decide +kernel
theorem dX2_verb_31 : decode cX2_verb 31 = .ok (.if_icmp .lt 30, 3) := by decide +kernel
theorem dX2_verb_34 : decode cX2_verb 34 = .ok (.aload_n 0, 1) := by decide +kernel
theorem dX2_verb_35 : decode cX2_verb 35 = .ok (.getfield 9, 3) := by decide +kernel
theorem dX2_verb_38 : decode cX2_verb 38 = .ok (.aload_n 0, 1) := by decide +kernel
theorem dX2_verb_39 : decode cX2_verb 39 = .ok (.getfield 22, 3) := by decide +kernel
theorem dX2_verb_42 : decode cX2_verb 42 = .ok (.iaload, 1) := by decide +kernel
theorem dX2_verb_43 : decode cX2_verb 43 = .ok (.bipush 122, 2) := by decide +kernel
theorem dX2_verb_45 : decode cX2_verb 45 = .ok (.if_icmp .gt 16, 3) := by decide +kernel
theorem dX2_verb_48 : decode cX2_verb 48 = .ok (.aload_n 0, 1) := by decide +kernel
theorem dX2_verb_49 : decode cX2_verb 49 = .ok (.dup, 1) := by decide +kernel
theorem dX2_verb_50 : decode cX2_verb 50 = .ok (.getfield 22, 3) := by decide +kernel
theorem dX2_verb_53 : decode cX2_verb 53 = .ok (.iconst 1, 1) := by decide +kernel
theorem dX2_verb_54 : decode cX2_verb 54 = .ok (.iadd, 1) := by decide +kernel
theorem dX2_verb_55 : decode cX2_verb 55 = .ok (.putfield 22, 3) := by decide +kernel
theorem dX2_verb_58 : decode cX2_verb 58 = .ok (.goto (-49), 3) := by decide +kernel
theorem dX2_verb_61 : decode cX2_verb 61 = .ok (.aload_n 0, 1) := by decide +kernel
theorem dX2_verb_62 : decode cX2_verb 62 = .ok (.iload_n 1, 1) := by decide +kernel
theorem dX2_verb_63 : decode cX2_verb 63 = .ok (.invokevirtual 79, 3) := by decide +kernel
theorem dX2_verb_66 : decode cX2_verb 66 = .ok (.istore_n 2, 1) := by decide +kernel
theorem dX2_verb_67 : decode cX2_verb 67 = .ok (.iload_n 2, 1) := by decide +kernel
theorem dX2_verb_68 : decode cX2_verb 68 = .ok (.iconst (-1), 1) := by decide +kernel
theorem dX2_verb_69 : decode cX2_verb 69 = .ok (.if_icmp .ne 8, 3) := by decide +kernel
theorem dX2_verb_72 : decode cX2_verb 72 = .ok (.aload_n 0, 1) := by decide +kernel
theorem dX2_verb_73 : decode cX2_verb 73 = .ok (.iload_n 1, 1) := by decide +kernel
theorem dX2_verb_74 : decode cX2_verb 74 = .ok (.invokevirtual 75, 3) := by decide +kernel
theorem dX2_verb_77 : decode cX2_verb 77 = .ok (.iload_n 2, 1) := by decide +kernel
theorem dX2_verb_78 : decode cX2_verb 78 = .ok (.ireturn, 1) := by decide +kernel
def f_X2_verb_b61 (n : Nat) (x1 : Int32) (M : m_M) : Option (Int32 × m_M) :=
  m_ob (f_X2_kindOf n x1 M) fun r1 =>
  if r1 = (-1) then
  m_bd (f_X2_blame x1 M) fun M3 =>
  some (r1, M3)
  else
  some (r1, M)
def f_X2_verb_b9 (n : Nat) : Nat → Int32 → m_M → Option (Int32 × m_M)
  | 0, _, _ => none
  | u + 1, x1, M =>
    if (M.1 168 1) ≤ (M.1 168 2) then
  f_X2_verb_b61 n x1 M
  else
  m_gd (m_in (M.1 168 2) 300) (
  if (M.1 169 ((M.1 168 2).toNatClampNeg)) < 97 then
  f_X2_verb_b61 n x1 M
  else
  if (122 : Int32) < (M.1 169 ((M.1 168 2).toNatClampNeg)) then
  f_X2_verb_b61 n x1 M
  else
  m_bd (m_sI M 168 2 ((M.1 168 2) + (1 : Int32))) fun M8 =>
  f_X2_verb_b9 n u x1 M8)
def f_X2_verb (n : Nat) (M : m_M) : Option (Int32 × m_M) :=
  m_ob (f_X2_skipBlanks n M) fun M9 =>
  f_X2_verb_b9 n n (M9.1 168 2) M9
set_option maxHeartbeats 4000000 in
set_option maxRecDepth 100000 in
theorem c_X2_verb (l : Launch) (G : m_G) {n : Nat} {M : m_M} {r0 : Int32} {M0 : m_M}  (hres : f_X2_verb n M = some (r0, M0)) : Met l yX2_verb (m_U yX2_verb cX2_verb 3 (some .int)) (m_R 6 133) (m_Pc G [.ref (m_ad G 168)] M) (m_Qi G r0 M0) 0 0 (m_A G) := by
  refine m_i0 (n := 3) RX2 rfl (by decide) (Nat.le_of_ble_eq_true rfl) ?_
  intro p e s m args below meth c X hr hlk hSt hP hS ls hl
  have hl : lv_has ls 3 [(0, .ref (m_ad G 168))] := hl
  have B61 : ∀  (x1 : Int32) (M : m_M) (H : Heap) (locs : List Loc) (ls : Array Slot), m_P G M H → va_S (m_A G) s.heap H locs → lv_has ls 3 [(0, .ref (m_ad G 168)), (1, .int x1)] → f_X2_verb_b61 n x1 M = some (r0, M0) → W p l e (m_R 6 133) s m args below meth c H locs 0 0 (MQ below (m_Qi G r0 M0) args s 0 0 (m_A G)) (F0 m 61 ls []) := by
    intro x1 M H locs ls hP hS hl hres
    unfold f_X2_verb_b61 at hres
    refine lv_aload_n X.1 X.2.1 dX2_verb_61 rfl (lv_at hl 0 rfl) ?_
    refine lv_iload_n X.1 X.2.1 dX2_verb_62 rfl (lv_at hl 1 rfl) ?_
    obtain ⟨r1, err1, hres⟩ := m_ob_e hres
    refine m_bi (m_cV (n := 1) (As := [.int x1]) (rest := []) X hSt hP hS hl.1 (c_X2_kindOf l G  err1) k_c_yX2_kindOf k_m_X2_79 k_i_yX2_kindOf k_s_yX2_kindOf k_n_X2 (by decide +kernel) (m_rc2 hSt hP m_z_168) rfl rfl ⟨Nat.le_of_ble_eq_true rfl, Nat.le_of_ble_eq_true rfl⟩ (Nat.le_of_ble_eq_true rfl) ⟨Nat.zero_le _, Nat.zero_le _⟩ dX2_verb_63) hS (fun H locs hP hS => ?_)
    refine lv_istore_n (lv' := [(2, .int r1), (0, .ref (m_ad G 168)), (1, .int x1)]) X.1 X.2.1 dX2_verb_66 rfl hl (by decide) rfl (fun ls hl => ?_)
    refine lv_iload_n X.1 X.2.1 dX2_verb_67 rfl (lv_at hl 0 rfl) ?_
    refine lv_iconst (v := (-1)) X.1 X.2.1 dX2_verb_68 (by decide) ?_
    refine lv_icmp_ne (tgt := 77) X.1 X.2.1 dX2_verb_69 (by decide) (fun hc2 => ?_) (fun hc2 => ?_)
    · have hres := m_if hres hc2
      refine lv_iload_n X.1 X.2.1 dX2_verb_77 rfl (lv_at hl 0 rfl) ?_
      exact m_ri X hr hlk hP hS (Prod.mk.inj (Option.some.inj hres)).1 (Prod.mk.inj (Option.some.inj hres)).2 dX2_verb_78
    · have hres := m_it hres hc2
      refine lv_aload_n X.1 X.2.1 dX2_verb_72 rfl (lv_at hl 1 rfl) ?_
      refine lv_iload_n X.1 X.2.1 dX2_verb_73 rfl (lv_at hl 2 rfl) ?_
      obtain ⟨M3, eM3, hres⟩ := m_bd_e hres
      refine m_bv (m_cV (n := 1) (As := [.int x1]) (rest := []) X hSt hP hS hl.1 (c_X2_blame l G  eM3) k_c_yX2_blame k_m_X2_75 k_i_yX2_blame k_s_yX2_blame k_n_X2 (by decide +kernel) (m_rc2 hSt hP m_z_168) rfl rfl ⟨Nat.le_of_ble_eq_true rfl, Nat.le_of_ble_eq_true rfl⟩ (Nat.le_of_ble_eq_true rfl) ⟨Nat.zero_le _, Nat.zero_le _⟩ dX2_verb_74) hS (fun H locs hP hS => ?_)
      refine lv_iload_n X.1 X.2.1 dX2_verb_77 rfl (lv_at hl 0 rfl) ?_
      exact m_ri X hr hlk hP hS (Prod.mk.inj (Option.some.inj hres)).1 (Prod.mk.inj (Option.some.inj hres)).2 dX2_verb_78
  have B9 : ∀ (u : Nat) (x1 : Int32) (M : m_M) (H : Heap) (locs : List Loc) (ls : Array Slot), m_P G M H → va_S (m_A G) s.heap H locs → lv_has ls 3 [(0, .ref (m_ad G 168)), (1, .int x1)] → f_X2_verb_b9 n u x1 M = some (r0, M0) → W p l e (m_R 6 133) s m args below meth c H locs 0 0 (MQ below (m_Qi G r0 M0) args s 0 0 (m_A G)) (F0 m 9 ls []) := by
    intro u
    induction u with
    | zero =>
      intro x1 M H locs ls hP hS hl hres
      cases hres
    | succ u ih =>
      intro x1 M H locs ls hP hS hl hres
      rw [f_X2_verb_b9] at hres
      refine lv_aload_n X.1 X.2.1 dX2_verb_9 rfl (lv_at hl 0 rfl) ?_
      refine m_g2 (v := .int (M.1 168 2)) X hSt hP m_z_168 2 (by decide) rfl k_f_X2_22 dX2_verb_10 ?_
      refine lv_aload_n X.1 X.2.1 dX2_verb_13 rfl (lv_at hl 0 rfl) ?_
      refine m_g2 (v := .int (M.1 168 1)) X hSt hP m_z_168 1 (by decide) rfl k_f_X2_19 dX2_verb_14 ?_
      refine lv_icmp_ge (tgt := 61) X.1 X.2.1 dX2_verb_17 (by decide) (fun hc4 => ?_) (fun hc4 => ?_)
      · have hres := m_it hres hc4
        exact B61 x1 M _ _ _ hP hS (lv_sub hl [0, 1] rfl) hres
      · have hres := m_if hres hc4
        refine lv_aload_n X.1 X.2.1 dX2_verb_20 rfl (lv_at hl 0 rfl) ?_
        refine m_g2 (v := .ref (m_ad G 169)) X hSt hP m_z_168 0 (by decide) rfl k_f_X2_9 dX2_verb_21 ?_
        refine lv_aload_n X.1 X.2.1 dX2_verb_24 rfl (lv_at hl 0 rfl) ?_
        refine m_g2 (v := .int (M.1 168 2)) X hSt hP m_z_168 2 (by decide) rfl k_f_X2_22 dX2_verb_25 ?_
        obtain ⟨hg5, hres⟩ := m_gd_e hres
        refine m_ia (j := ((M.1 168 2).toNatClampNeg)) X hSt hP m_z_169 hg5 rfl dX2_verb_28 ?_
        refine lv_bipush (v := 97) X.1 X.2.1 dX2_verb_29 (by decide) ?_
        refine lv_icmp_lt (tgt := 61) X.1 X.2.1 dX2_verb_31 (by decide) (fun hc6 => ?_) (fun hc6 => ?_)
        · have hres := m_it hres hc6
          exact B61 x1 M _ _ _ hP hS (lv_sub hl [0, 1] rfl) hres
        · have hres := m_if hres hc6
          refine lv_aload_n X.1 X.2.1 dX2_verb_34 rfl (lv_at hl 0 rfl) ?_
          refine m_g2 (v := .ref (m_ad G 169)) X hSt hP m_z_168 0 (by decide) rfl k_f_X2_9 dX2_verb_35 ?_
          refine lv_aload_n X.1 X.2.1 dX2_verb_38 rfl (lv_at hl 0 rfl) ?_
          refine m_g2 (v := .int (M.1 168 2)) X hSt hP m_z_168 2 (by decide) rfl k_f_X2_22 dX2_verb_39 ?_
          refine m_ia (j := ((M.1 168 2).toNatClampNeg)) X hSt hP m_z_169 hg5 rfl dX2_verb_42 ?_
          refine lv_bipush (v := 122) X.1 X.2.1 dX2_verb_43 (by decide) ?_
          refine lv_icmp_gt (tgt := 61) X.1 X.2.1 dX2_verb_45 (by decide) (fun hc7 => ?_) (fun hc7 => ?_)
          · have hres := m_it hres hc7
            exact B61 x1 M _ _ _ hP hS (lv_sub hl [0, 1] rfl) hres
          · have hres := m_if hres hc7
            refine lv_aload_n X.1 X.2.1 dX2_verb_48 rfl (lv_at hl 0 rfl) ?_
            refine lv_dup X.1 X.2.1 dX2_verb_49 rfl ?_
            refine m_g2 (v := .int (M.1 168 2)) X hSt hP m_z_168 2 (by decide) rfl k_f_X2_22 dX2_verb_50 ?_
            refine lv_iconst (v := 1) X.1 X.2.1 dX2_verb_53 (by decide) ?_
            refine lv_iadd X.1 X.2.1 dX2_verb_54 ?_
            obtain ⟨M8, eM8, hres⟩ := m_bd_e hres
            refine m_pi2 X hSt hP hS m_z_168 2 (by decide) eM8 rfl rfl (by decide) k_f_X2_22 dX2_verb_55 (fun H locs hP hS => ?_)
            refine lv_goto (tgt := 9) X.1 X.2.1 dX2_verb_58 (by decide) ?_
            exact ih x1 M8 _ _ _ hP hS (lv_sub hl [0, 1] rfl) hres
  unfold f_X2_verb at hres
  refine lv_aload_n X.1 X.2.1 dX2_verb_0 rfl (lv_at hl 0 rfl) ?_
  obtain ⟨M9, eM9, hres⟩ := m_ob_e hres
  refine m_bv (m_cV (n := 0) (As := []) (rest := []) X hSt hP hS hl.1 (c_X2_skipBlanks l G  eM9) k_c_yX2_skipBlanks k_m_X2_32 k_i_yX2_skipBlanks k_s_yX2_skipBlanks k_n_X2 (by decide +kernel) (m_rc2 hSt hP m_z_168) rfl rfl ⟨Nat.le_of_ble_eq_true rfl, Nat.le_of_ble_eq_true rfl⟩ (Nat.le_of_ble_eq_true rfl) ⟨Nat.zero_le _, Nat.zero_le _⟩ dX2_verb_1) hS (fun H locs hP hS => ?_)
  refine lv_aload_n X.1 X.2.1 dX2_verb_4 rfl (lv_at hl 0 rfl) ?_
  refine m_g2 (v := .int (M9.1 168 2)) X hSt hP m_z_168 2 (by decide) rfl k_f_X2_22 dX2_verb_5 ?_
  refine lv_istore_n (lv' := [(1, .int (M9.1 168 2)), (0, .ref (m_ad G 168))]) X.1 X.2.1 dX2_verb_8 rfl hl (by decide) rfl (fun ls hl => ?_)
  exact B9 n (M9.1 168 2) M9 _ _ _ hP hS (lv_sub hl [1, 0] rfl) hres
