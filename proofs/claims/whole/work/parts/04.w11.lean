/-! WALKS 11: X8_shareOf X8_askOf X8_tell X8_ask X8_best X8_clear X8_code X8_doubtMany X8_lined X8_count X8_digest X8_doubt X8_isLaw -/
theorem dX8_shareOf_0 : decode cX8_shareOf 0 = .ok (.aload_n 0, 1) := by decide +kernel
theorem dX8_shareOf_1 : decode cX8_shareOf 1 = .ok (.iload_n 1, 1) := by decide +kernel
theorem dX8_shareOf_2 : decode cX8_shareOf 2 = .ok (.invokevirtual 171, 3) := by decide +kernel
theorem dX8_shareOf_5 : decode cX8_shareOf 5 = .ok (.i2l, 1) := by decide +kernel
theorem dX8_shareOf_6 : decode cX8_shareOf 6 = .ok (.lstore 4, 2) := by decide +kernel
theorem dX8_shareOf_8 : decode cX8_shareOf 8 = .ok (.aload_n 0, 1) := by decide +kernel
theorem dX8_shareOf_9 : decode cX8_shareOf 9 = .ok (.getfield 39, 3) := by decide +kernel
theorem dX8_shareOf_12 : decode cX8_shareOf 12 = .ok (.iconst 4, 1) := by decide +kernel
theorem dX8_shareOf_13 : decode cX8_shareOf 13 = .ok (.aload_n 0, 1) := by decide +kernel
theorem dX8_shareOf_14 : decode cX8_shareOf 14 = .ok (.iload_n 1, 1) := by decide +kernel
theorem dX8_shareOf_15 : decode cX8_shareOf 15 = .ok (.invokevirtual 361, 3) := by decide +kernel
theorem dX8_shareOf_18 : decode cX8_shareOf 18 = .ok (.imul, 1) := by decide +kernel
theorem dX8_shareOf_19 : decode cX8_shareOf 19 = .ok (.aload_n 0, 1) := by decide +kernel
theorem dX8_shareOf_20 : decode cX8_shareOf 20 = .ok (.iload_n 1, 1) := by decide +kernel
theorem dX8_shareOf_21 : decode cX8_shareOf 21 = .ok (.invokevirtual 379, 3) := by decide +kernel
theorem dX8_shareOf_24 : decode cX8_shareOf 24 = .ok (.iadd, 1) := by decide +kernel
theorem dX8_shareOf_25 : decode cX8_shareOf 25 = .ok (.iaload, 1) := by decide +kernel
theorem dX8_shareOf_26 : decode cX8_shareOf 26 = .ok (.i2l, 1) := by decide +kernel
theorem dX8_shareOf_27 : decode cX8_shareOf 27 = .ok (.lstore 6, 2) := by decide +kernel
theorem dX8_shareOf_29 : decode cX8_shareOf 29 = .ok (.aload_n 0, 1) := by decide +kernel
theorem dX8_shareOf_30 : decode cX8_shareOf 30 = .ok (.lconst 0, 1) := by decide +kernel
theorem dX8_shareOf_31 : decode cX8_shareOf 31 = .ok (.putfield 367, 3) := by decide +kernel
theorem dX8_shareOf_34 : decode cX8_shareOf 34 = .ok (.aload_n 0, 1) := by decide +kernel
theorem dX8_shareOf_35 : decode cX8_shareOf 35 = .ok (.lconst 1, 1) := by decide +kernel
theorem dX8_shareOf_36 : decode cX8_shareOf 36 = .ok (.putfield 370, 3) := by decide +kernel
theorem dX8_shareOf_39 : decode cX8_shareOf 39 = .ok (.lload_n 2, 1) := by decide +kernel
theorem dX8_shareOf_40 : decode cX8_shareOf 40 = .ok (.lconst 0, 1) := by decide +kernel
theorem dX8_shareOf_41 : decode cX8_shareOf 41 = .ok (.lcmp, 1) := by decide +kernel
theorem dX8_shareOf_42 : decode cX8_shareOf 42 = .ok (.ifCond .le 50, 3) := by decide +kernel
theorem dX8_shareOf_45 : decode cX8_shareOf 45 = .ok (.lload 6, 2) := by decide +kernel
theorem dX8_shareOf_47 : decode cX8_shareOf 47 = .ok (.lload_n 2, 1) := by decide +kernel
theorem dX8_shareOf_48 : decode cX8_shareOf 48 = .ok (.lcmp, 1) := by decide +kernel
theorem dX8_shareOf_49 : decode cX8_shareOf 49 = .ok (.ifCond .lt 7, 3) := by decide +kernel
theorem dX8_shareOf_52 : decode cX8_shareOf 52 = .ok (.iconst 1, 1) := by decide +kernel
theorem dX8_shareOf_53 : decode cX8_shareOf 53 = .ok (.goto 4, 3) := by decide +kernel
theorem dX8_shareOf_56 : decode cX8_shareOf 56 = .ok (.iconst 0, 1) := by decide +kernel
theorem dX8_shareOf_57 : decode cX8_shareOf 57 = .ok (.istore 8, 2) := by decide +kernel
theorem dX8_shareOf_59 : decode cX8_shareOf 59 = .ok (.aload_n 0, 1) := by decide +kernel
theorem dX8_shareOf_60 : decode cX8_shareOf 60 = .ok (.iload 8, 2) := by decide +kernel
theorem dX8_shareOf_62 : decode cX8_shareOf 62 = .ok (.ifCond .eq 8, 3) := by decide +kernel
theorem dX8_shareOf_65 : decode cX8_shareOf 65 = .ok (.lload 4, 2) := by decide +kernel
theorem dX8_shareOf_67 : decode cX8_shareOf 67 = .ok (.goto 8, 3) := by decide +kernel
theorem dX8_shareOf_70 : decode cX8_shareOf 70 = .ok (.lload 6, 2) := by decide +kernel
theorem dX8_shareOf_72 : decode cX8_shareOf 72 = .ok (.lload 4, 2) := by decide +kernel
theorem dX8_shareOf_74 : decode cX8_shareOf 74 = .ok (.lmul, 1) := by decide +kernel
theorem dX8_shareOf_75 : decode cX8_shareOf 75 = .ok (.putfield 367, 3) := by decide +kernel
theorem dX8_shareOf_78 : decode cX8_shareOf 78 = .ok (.aload_n 0, 1) := by decide +kernel
theorem dX8_shareOf_79 : decode cX8_shareOf 79 = .ok (.iload 8, 2) := by decide +kernel
theorem dX8_shareOf_81 : decode cX8_shareOf 81 = .ok (.ifCond .eq 7, 3) := by decide +kernel
theorem dX8_shareOf_84 : decode cX8_shareOf 84 = .ok (.lconst 1, 1) := by decide +kernel
theorem dX8_shareOf_85 : decode cX8_shareOf 85 = .ok (.goto 4, 3) := by decide +kernel
theorem dX8_shareOf_88 : decode cX8_shareOf 88 = .ok (.lload_n 2, 1) := by decide +kernel
theorem dX8_shareOf_89 : decode cX8_shareOf 89 = .ok (.putfield 370, 3) := by decide +kernel
theorem dX8_shareOf_92 : decode cX8_shareOf 92 = .ok (.return_, 1) := by decide +kernel
def f_X8_shareOf_b75 (x1 : Int32) (x2 : Int64) (x8 : Int32) (s1 : Int64) (M : m_M) : Option m_M :=
  m_bd (m_sL M 172 46 s1) fun M1 =>
  if x8 = 0 then
  m_bd (m_sL M1 172 47 x2) fun M3 =>
  some M3
  else
  m_bd (m_sL M1 172 47 1) fun M4 =>
  some M4
def f_X8_shareOf_b57 (x1 : Int32) (x2 : Int64) (x4 : Int64) (x6 : Int64) (s0 : Int32) (M : m_M) : Option m_M :=
  if s0 = 0 then
  f_X8_shareOf_b75 x1 x2 s0 (x6 * x4) M
  else
  f_X8_shareOf_b75 x1 x2 s0 x4 M
def f_X8_shareOf (x1 : Int32) (x2 : Int64) (M : m_M) : Option m_M :=
  m_ob (f_X8_owedOf x1 M) fun r6 =>
  m_ob (f_X8_manOf x1 M) fun r7 =>
  m_ob (f_X8_tradeOf x1 M) fun r8 =>
  m_gd (m_in (((4 : Int32) * r7) + r8) 40) (
  m_bd ((M.1 181 ((((4 : Int32) * r7) + r8).toNatClampNeg)).toInt64) fun t10 =>
  m_bd (m_sL M 172 46 0) fun M11 =>
  m_bd (m_sL M11 172 47 1) fun M12 =>
  if x2 ≤ 0 then
  some M12
  else
  if t10 < x2 then
  f_X8_shareOf_b57 x1 x2 r6.toInt64 t10 0 M12
  else
  f_X8_shareOf_b57 x1 x2 r6.toInt64 t10 1 M12)
set_option maxHeartbeats 4000000 in
set_option maxRecDepth 100000 in
theorem c_X8_shareOf (l : Launch) (G : m_G) {x1 : Int32} {x2 : Int64} {M : m_M} {M0 : m_M}  (hres : f_X8_shareOf x1 x2 M = some M0) : Met l yX8_shareOf (m_U yX8_shareOf cX8_shareOf 9 none) (m_R 2 44) (m_Pc G [.ref (m_ad G 172), .int x1, .long x2] M) (m_Qv G M0) 0 0 (m_A G) := by
  refine m_i0 (n := 9) RX8 rfl (by decide) (Nat.le_of_ble_eq_true rfl) ?_
  intro p e s m args below meth c X hr hlk hSt hP hS ls hl
  have hl : lv_has ls 9 [(0, .ref (m_ad G 172)), (1, .int x1), (2, .long x2)] := hl
  have B75 : ∀  (x8 : Int32) (s1 : Int64) (M : m_M) (H : Heap) (locs : List Loc) (ls : Array Slot), m_P G M H → va_S (m_A G) s.heap H locs → lv_has ls 9 [(0, .ref (m_ad G 172)), (2, .long x2), (8, .int x8)] → f_X8_shareOf_b75 x1 x2 x8 s1 M = some M0 → W p l e (m_R 2 44) s m args below meth c H locs 0 0 (MQ below (m_Qv G M0) args s 0 0 (m_A G)) (F0 m 75 ls [.long s1, .ref (m_ad G 172)]) := by
    intro x8 s1 M H locs ls hP hS hl hres
    unfold f_X8_shareOf_b75 at hres
    obtain ⟨M1, eM1, hres⟩ := m_bd_e hres
    refine m_pl8 X hSt hP hS m_z_172 46 (by decide) eM1 rfl rfl (by decide) k_f_X8_367 dX8_shareOf_75 (fun H locs hP hS => ?_)
    refine lv_aload_n X.1 X.2.1 dX8_shareOf_78 rfl (lv_at hl 0 rfl) ?_
    refine lv_iload X.1 X.2.1 dX8_shareOf_79 (lv_at hl 2 rfl) ?_
    refine lv_if_eq (tgt := 88) X.1 X.2.1 dX8_shareOf_81 (by decide) (fun hc2 => ?_) (fun hc2 => ?_)
    · have hres := m_it hres hc2
      refine lv_lload_n X.1 X.2.1 dX8_shareOf_88 rfl (lv_at hl 1 rfl) ?_
      obtain ⟨M3, eM3, hres⟩ := m_bd_e hres
      refine m_pl8 X hSt hP hS m_z_172 47 (by decide) eM3 rfl rfl (by decide) k_f_X8_370 dX8_shareOf_89 (fun H locs hP hS => ?_)
      exact m_rv X hr hlk hP hS (Option.some.inj hres) dX8_shareOf_92
    · have hres := m_if hres hc2
      refine lv_lconst (v := 1) X.1 X.2.1 dX8_shareOf_84 (by decide) ?_
      refine lv_goto (tgt := 89) X.1 X.2.1 dX8_shareOf_85 (by decide) ?_
      obtain ⟨M4, eM4, hres⟩ := m_bd_e hres
      refine m_pl8 X hSt hP hS m_z_172 47 (by decide) eM4 rfl rfl (by decide) k_f_X8_370 dX8_shareOf_89 (fun H locs hP hS => ?_)
      exact m_rv X hr hlk hP hS (Option.some.inj hres) dX8_shareOf_92
  have B57 : ∀  (x4 : Int64) (x6 : Int64) (s0 : Int32) (M : m_M) (H : Heap) (locs : List Loc) (ls : Array Slot), m_P G M H → va_S (m_A G) s.heap H locs → lv_has ls 9 [(0, .ref (m_ad G 172)), (2, .long x2), (4, .long x4), (6, .long x6)] → f_X8_shareOf_b57 x1 x2 x4 x6 s0 M = some M0 → W p l e (m_R 2 44) s m args below meth c H locs 0 0 (MQ below (m_Qv G M0) args s 0 0 (m_A G)) (F0 m 57 ls [.int s0]) := by
    intro x4 x6 s0 M H locs ls hP hS hl hres
    unfold f_X8_shareOf_b57 at hres
    refine lv_istore (lv' := [(8, .int s0), (0, .ref (m_ad G 172)), (2, .long x2), (4, .long x4), (6, .long x6)]) X.1 X.2.1 dX8_shareOf_57 hl (by decide) rfl (fun ls hl => ?_)
    refine lv_aload_n X.1 X.2.1 dX8_shareOf_59 rfl (lv_at hl 1 rfl) ?_
    refine lv_iload X.1 X.2.1 dX8_shareOf_60 (lv_at hl 0 rfl) ?_
    refine lv_if_eq (tgt := 70) X.1 X.2.1 dX8_shareOf_62 (by decide) (fun hc5 => ?_) (fun hc5 => ?_)
    · have hres := m_it hres hc5
      refine lv_lload X.1 X.2.1 dX8_shareOf_70 (lv_at hl 4 rfl) ?_
      refine lv_lload X.1 X.2.1 dX8_shareOf_72 (lv_at hl 3 rfl) ?_
      refine lv_lmul X.1 X.2.1 dX8_shareOf_74 ?_
      exact B75 s0 (x6 * x4) M _ _ _ hP hS (lv_sub hl [1, 2, 0] rfl) hres
    · have hres := m_if hres hc5
      refine lv_lload X.1 X.2.1 dX8_shareOf_65 (lv_at hl 3 rfl) ?_
      refine lv_goto (tgt := 75) X.1 X.2.1 dX8_shareOf_67 (by decide) ?_
      exact B75 s0 x4 M _ _ _ hP hS (lv_sub hl [1, 2, 0] rfl) hres
  unfold f_X8_shareOf at hres
  refine lv_aload_n X.1 X.2.1 dX8_shareOf_0 rfl (lv_at hl 0 rfl) ?_
  refine lv_iload_n X.1 X.2.1 dX8_shareOf_1 rfl (lv_at hl 1 rfl) ?_
  obtain ⟨r6, err6, hres⟩ := m_ob_e hres
  refine m_bi (m_cV (n := 1) (As := [.int x1]) (rest := []) X hSt hP hS hl.1 (c_X8_owedOf l G  err6) k_c_yX8_owedOf k_m_X8_171 k_i_yX8_owedOf k_s_yX8_owedOf k_n_X8 (by decide +kernel) (m_rc8 hSt hP m_z_172) rfl rfl ⟨Nat.le_of_ble_eq_true rfl, Nat.le_of_ble_eq_true rfl⟩ (Nat.le_of_ble_eq_true rfl) ⟨Nat.zero_le _, Nat.zero_le _⟩ dX8_shareOf_2) hS (fun H locs hP hS => ?_)
  refine lv_i2l (v := r6.toInt64) X.1 X.2.1 dX8_shareOf_5 rfl ?_
  refine lv_lstore (lv' := [(4, .long r6.toInt64), (0, .ref (m_ad G 172)), (1, .int x1), (2, .long x2)]) X.1 X.2.1 dX8_shareOf_6 hl (by decide) rfl (fun ls hl => ?_)
  refine lv_aload_n X.1 X.2.1 dX8_shareOf_8 rfl (lv_at hl 1 rfl) ?_
  refine m_g8 (v := .ref (m_ad G 181)) X hSt hP m_z_172 11 (by decide) rfl k_f_X8_39 dX8_shareOf_9 ?_
  refine lv_iconst (v := 4) X.1 X.2.1 dX8_shareOf_12 (by decide) ?_
  refine lv_aload_n X.1 X.2.1 dX8_shareOf_13 rfl (lv_at hl 1 rfl) ?_
  refine lv_iload_n X.1 X.2.1 dX8_shareOf_14 rfl (lv_at hl 2 rfl) ?_
  obtain ⟨r7, err7, hres⟩ := m_ob_e hres
  refine m_bi (m_cV (n := 1) (As := [.int x1]) (rest := [.int 4, .ref (m_ad G 181)]) X hSt hP hS hl.1 (c_X8_manOf l G  err7) k_c_yX8_manOf k_m_X8_361 k_i_yX8_manOf k_s_yX8_manOf k_n_X8 (by decide +kernel) (m_rc8 hSt hP m_z_172) rfl rfl ⟨Nat.le_of_ble_eq_true rfl, Nat.le_of_ble_eq_true rfl⟩ (Nat.le_of_ble_eq_true rfl) ⟨Nat.zero_le _, Nat.zero_le _⟩ dX8_shareOf_15) hS (fun H locs hP hS => ?_)
  refine lv_imul X.1 X.2.1 dX8_shareOf_18 ?_
  refine lv_aload_n X.1 X.2.1 dX8_shareOf_19 rfl (lv_at hl 1 rfl) ?_
  refine lv_iload_n X.1 X.2.1 dX8_shareOf_20 rfl (lv_at hl 2 rfl) ?_
  obtain ⟨r8, err8, hres⟩ := m_ob_e hres
  refine m_bi (m_cV (n := 1) (As := [.int x1]) (rest := [.int ((4 : Int32) * r7), .ref (m_ad G 181)]) X hSt hP hS hl.1 (c_X8_tradeOf l G  err8) k_c_yX8_tradeOf k_m_X8_379 k_i_yX8_tradeOf k_s_yX8_tradeOf k_n_X8 (by decide +kernel) (m_rc8 hSt hP m_z_172) rfl rfl ⟨Nat.le_of_ble_eq_true rfl, Nat.le_of_ble_eq_true rfl⟩ (Nat.le_of_ble_eq_true rfl) ⟨Nat.zero_le _, Nat.zero_le _⟩ dX8_shareOf_21) hS (fun H locs hP hS => ?_)
  refine lv_iadd X.1 X.2.1 dX8_shareOf_24 ?_
  obtain ⟨hg9, hres⟩ := m_gd_e hres
  refine m_ia (j := ((((4 : Int32) * r7) + r8).toNatClampNeg)) X hSt hP m_z_181 hg9 rfl dX8_shareOf_25 ?_
  refine lv_i2l (v := (M.1 181 ((((4 : Int32) * r7) + r8).toNatClampNeg)).toInt64) X.1 X.2.1 dX8_shareOf_26 rfl ?_
  obtain ⟨t10, et10, hres⟩ := m_bd_e hres
  refine m_tl et10 ?_
  refine lv_lstore (lv' := [(6, .long t10), (4, .long r6.toInt64), (0, .ref (m_ad G 172)), (1, .int x1), (2, .long x2)]) X.1 X.2.1 dX8_shareOf_27 hl (by decide) rfl (fun ls hl => ?_)
  refine lv_aload_n X.1 X.2.1 dX8_shareOf_29 rfl (lv_at hl 2 rfl) ?_
  refine lv_lconst (v := 0) X.1 X.2.1 dX8_shareOf_30 (by decide) ?_
  obtain ⟨M11, eM11, hres⟩ := m_bd_e hres
  refine m_pl8 X hSt hP hS m_z_172 46 (by decide) eM11 rfl rfl (by decide) k_f_X8_367 dX8_shareOf_31 (fun H locs hP hS => ?_)
  refine lv_aload_n X.1 X.2.1 dX8_shareOf_34 rfl (lv_at hl 2 rfl) ?_
  refine lv_lconst (v := 1) X.1 X.2.1 dX8_shareOf_35 (by decide) ?_
  obtain ⟨M12, eM12, hres⟩ := m_bd_e hres
  refine m_pl8 X hSt hP hS m_z_172 47 (by decide) eM12 rfl rfl (by decide) k_f_X8_370 dX8_shareOf_36 (fun H locs hP hS => ?_)
  refine lv_lload_n X.1 X.2.1 dX8_shareOf_39 rfl (lv_at hl 4 rfl) ?_
  refine lv_lconst (v := 0) X.1 X.2.1 dX8_shareOf_40 (by decide) ?_
  refine m_lle (tgt := 92) X dX8_shareOf_41 dX8_shareOf_42 (by decide) (fun hc13 => ?_) (fun hc13 => ?_)
  · have hres := m_it hres hc13
    exact m_rv X hr hlk hP hS (Option.some.inj hres) dX8_shareOf_92
  · have hres := m_if hres hc13
    refine lv_lload X.1 X.2.1 dX8_shareOf_45 (lv_at hl 0 rfl) ?_
    refine lv_lload_n X.1 X.2.1 dX8_shareOf_47 rfl (lv_at hl 4 rfl) ?_
    refine m_llt (tgt := 56) X dX8_shareOf_48 dX8_shareOf_49 (by decide) (fun hc14 => ?_) (fun hc14 => ?_)
    · have hres := m_it hres hc14
      refine lv_iconst (v := 0) X.1 X.2.1 dX8_shareOf_56 (by decide) ?_
      exact B57 r6.toInt64 t10 0 M12 _ _ _ hP hS (lv_sub hl [2, 4, 1, 0] rfl) hres
    · have hres := m_if hres hc14
      refine lv_iconst (v := 1) X.1 X.2.1 dX8_shareOf_52 (by decide) ?_
      refine lv_goto (tgt := 57) X.1 X.2.1 dX8_shareOf_53 (by decide) ?_
      exact B57 r6.toInt64 t10 1 M12 _ _ _ hP hS (lv_sub hl [2, 4, 1, 0] rfl) hres
theorem dX8_askOf_0 : decode cX8_askOf 0 = .ok (.aload_n 0, 1) := by decide +kernel
theorem dX8_askOf_1 : decode cX8_askOf 1 = .ok (.lconst 0, 1) := by decide +kernel
theorem dX8_askOf_2 : decode cX8_askOf 2 = .ok (.putfield 367, 3) := by decide +kernel
theorem dX8_askOf_5 : decode cX8_askOf 5 = .ok (.aload_n 0, 1) := by decide +kernel
theorem dX8_askOf_6 : decode cX8_askOf 6 = .ok (.lconst 1, 1) := by decide +kernel
theorem dX8_askOf_7 : decode cX8_askOf 7 = .ok (.putfield 370, 3) := by decide +kernel
theorem dX8_askOf_10 : decode cX8_askOf 10 = .ok (.aload_n 0, 1) := by decide +kernel
theorem dX8_askOf_11 : decode cX8_askOf 11 = .ok (.iload_n 1, 1) := by decide +kernel
theorem dX8_askOf_12 : decode cX8_askOf 12 = .ok (.invokevirtual 364, 3) := by decide +kernel
theorem dX8_askOf_15 : decode cX8_askOf 15 = .ok (.iconst (-1), 1) := by decide +kernel
theorem dX8_askOf_16 : decode cX8_askOf 16 = .ok (.if_icmp .ne 4, 3) := by decide +kernel
theorem dX8_askOf_19 : decode cX8_askOf 19 = .ok (.return_, 1) := by decide +kernel
theorem dX8_askOf_20 : decode cX8_askOf 20 = .ok (.aload_n 0, 1) := by decide +kernel
theorem dX8_askOf_21 : decode cX8_askOf 21 = .ok (.iload_n 1, 1) := by decide +kernel
theorem dX8_askOf_22 : decode cX8_askOf 22 = .ok (.invokevirtual 171, 3) := by decide +kernel
theorem dX8_askOf_25 : decode cX8_askOf 25 = .ok (.istore 4, 2) := by decide +kernel
theorem dX8_askOf_27 : decode cX8_askOf 27 = .ok (.iload_n 2, 1) := by decide +kernel
theorem dX8_askOf_28 : decode cX8_askOf 28 = .ok (.ifCond .ne 35, 3) := by decide +kernel
theorem dX8_askOf_31 : decode cX8_askOf 31 = .ok (.aload_n 0, 1) := by decide +kernel
theorem dX8_askOf_32 : decode cX8_askOf 32 = .ok (.aload_n 0, 1) := by decide +kernel
theorem dX8_askOf_33 : decode cX8_askOf 33 = .ok (.getfield 63, 3) := by decide +kernel
theorem dX8_askOf_36 : decode cX8_askOf 36 = .ok (.iload_n 1, 1) := by decide +kernel
theorem dX8_askOf_37 : decode cX8_askOf 37 = .ok (.baload, 1) := by decide +kernel
theorem dX8_askOf_38 : decode cX8_askOf 38 = .ok (.ifCond .ne 12, 3) := by decide +kernel
theorem dX8_askOf_41 : decode cX8_askOf 41 = .ok (.aload_n 0, 1) := by decide +kernel
theorem dX8_askOf_42 : decode cX8_askOf 42 = .ok (.getfield 66, 3) := by decide +kernel
theorem dX8_askOf_45 : decode cX8_askOf 45 = .ok (.iload_n 1, 1) := by decide +kernel
theorem dX8_askOf_46 : decode cX8_askOf 46 = .ok (.baload, 1) := by decide +kernel
theorem dX8_askOf_47 : decode cX8_askOf 47 = .ok (.ifCond .eq 9, 3) := by decide +kernel
theorem dX8_askOf_50 : decode cX8_askOf 50 = .ok (.iload 4, 2) := by decide +kernel
theorem dX8_askOf_52 : decode cX8_askOf 52 = .ok (.i2l, 1) := by decide +kernel
theorem dX8_askOf_53 : decode cX8_askOf 53 = .ok (.goto 4, 3) := by decide +kernel
theorem dX8_askOf_56 : decode cX8_askOf 56 = .ok (.lconst 0, 1) := by decide +kernel
theorem dX8_askOf_57 : decode cX8_askOf 57 = .ok (.putfield 367, 3) := by decide +kernel
theorem dX8_askOf_60 : decode cX8_askOf 60 = .ok (.goto 186, 3) := by decide +kernel
theorem dX8_askOf_63 : decode cX8_askOf 63 = .ok (.iload_n 2, 1) := by decide +kernel
theorem dX8_askOf_64 : decode cX8_askOf 64 = .ok (.iconst 1, 1) := by decide +kernel
theorem dX8_askOf_65 : decode cX8_askOf 65 = .ok (.if_icmp .ne 32, 3) := by decide +kernel
theorem dX8_askOf_68 : decode cX8_askOf 68 = .ok (.aload_n 0, 1) := by decide +kernel
theorem dX8_askOf_69 : decode cX8_askOf 69 = .ok (.iload 4, 2) := by decide +kernel
theorem dX8_askOf_71 : decode cX8_askOf 71 = .ok (.aload_n 0, 1) := by decide +kernel
theorem dX8_askOf_72 : decode cX8_askOf 72 = .ok (.iload_n 1, 1) := by decide +kernel
theorem dX8_askOf_73 : decode cX8_askOf 73 = .ok (.invokevirtual 167, 3) := by decide +kernel
theorem dX8_askOf_76 : decode cX8_askOf 76 = .ok (.if_icmp .ge 9, 3) := by decide +kernel
theorem dX8_askOf_79 : decode cX8_askOf 79 = .ok (.iload 4, 2) := by decide +kernel
theorem dX8_askOf_81 : decode cX8_askOf 81 = .ok (.i2l, 1) := by decide +kernel
theorem dX8_askOf_82 : decode cX8_askOf 82 = .ok (.goto 9, 3) := by decide +kernel
theorem dX8_askOf_85 : decode cX8_askOf 85 = .ok (.aload_n 0, 1) := by decide +kernel
theorem dX8_askOf_86 : decode cX8_askOf 86 = .ok (.iload_n 1, 1) := by decide +kernel
theorem dX8_askOf_87 : decode cX8_askOf 87 = .ok (.invokevirtual 167, 3) := by decide +kernel
theorem dX8_askOf_90 : decode cX8_askOf 90 = .ok (.i2l, 1) := by decide +kernel
theorem dX8_askOf_91 : decode cX8_askOf 91 = .ok (.putfield 367, 3) := by decide +kernel
theorem dX8_askOf_94 : decode cX8_askOf 94 = .ok (.goto 152, 3) := by decide +kernel
theorem dX8_askOf_97 : decode cX8_askOf 97 = .ok (.iload_n 2, 1) := by decide +kernel
theorem dX8_askOf_98 : decode cX8_askOf 98 = .ok (.iconst 2, 1) := by decide +kernel
theorem dX8_askOf_99 : decode cX8_askOf 99 = .ok (.if_icmp .ne 56, 3) := by decide +kernel
theorem dX8_askOf_102 : decode cX8_askOf 102 = .ok (.aload_n 0, 1) := by decide +kernel
theorem dX8_askOf_103 : decode cX8_askOf 103 = .ok (.iload_n 1, 1) := by decide +kernel
theorem dX8_askOf_104 : decode cX8_askOf 104 = .ok (.invokevirtual 373, 3) := by decide +kernel
theorem dX8_askOf_107 : decode cX8_askOf 107 = .ok (.ifCond .eq 22, 3) := by decide +kernel
theorem dX8_askOf_110 : decode cX8_askOf 110 = .ok (.aload_n 0, 1) := by decide +kernel
theorem dX8_askOf_111 : decode cX8_askOf 111 = .ok (.aload_n 0, 1) := by decide +kernel
theorem dX8_askOf_112 : decode cX8_askOf 112 = .ok (.iload_n 1, 1) := by decide +kernel
theorem dX8_askOf_113 : decode cX8_askOf 113 = .ok (.invokevirtual 361, 3) := by decide +kernel
theorem dX8_askOf_116 : decode cX8_askOf 116 = .ok (.iload_n 3, 1) := by decide +kernel
theorem dX8_askOf_117 : decode cX8_askOf 117 = .ok (.iconst 0, 1) := by decide +kernel
theorem dX8_askOf_118 : decode cX8_askOf 118 = .ok (.aload_n 0, 1) := by decide +kernel
theorem dX8_askOf_119 : decode cX8_askOf 119 = .ok (.iload_n 1, 1) := by decide +kernel
theorem dX8_askOf_120 : decode cX8_askOf 120 = .ok (.invokevirtual 376, 3) := by decide +kernel
theorem dX8_askOf_123 : decode cX8_askOf 123 = .ok (.invokevirtual 337, 3) := by decide +kernel
theorem dX8_askOf_126 : decode cX8_askOf 126 = .ok (.goto 4, 3) := by decide +kernel
theorem dX8_askOf_129 : decode cX8_askOf 129 = .ok (.iconst 0, 1) := by decide +kernel
theorem dX8_askOf_130 : decode cX8_askOf 130 = .ok (.istore 5, 2) := by decide +kernel
theorem dX8_askOf_132 : decode cX8_askOf 132 = .ok (.aload_n 0, 1) := by decide +kernel
theorem dX8_askOf_133 : decode cX8_askOf 133 = .ok (.iload 4, 2) := by decide +kernel
theorem dX8_askOf_135 : decode cX8_askOf 135 = .ok (.iload 5, 2) := by decide +kernel
theorem dX8_askOf_137 : decode cX8_askOf 137 = .ok (.if_icmp .ge 9, 3) := by decide +kernel
theorem dX8_askOf_140 : decode cX8_askOf 140 = .ok (.iload 4, 2) := by decide +kernel
theorem dX8_askOf_142 : decode cX8_askOf 142 = .ok (.i2l, 1) := by decide +kernel
theorem dX8_askOf_143 : decode cX8_askOf 143 = .ok (.goto 6, 3) := by decide +kernel
theorem dX8_askOf_146 : decode cX8_askOf 146 = .ok (.iload 5, 2) := by decide +kernel
theorem dX8_askOf_148 : decode cX8_askOf 148 = .ok (.i2l, 1) := by decide +kernel
theorem dX8_askOf_149 : decode cX8_askOf 149 = .ok (.putfield 367, 3) := by decide +kernel
theorem dX8_askOf_152 : decode cX8_askOf 152 = .ok (.goto 94, 3) := by decide +kernel
theorem dX8_askOf_155 : decode cX8_askOf 155 = .ok (.aload_n 0, 1) := by decide +kernel
theorem dX8_askOf_156 : decode cX8_askOf 156 = .ok (.getfield 69, 3) := by decide +kernel
theorem dX8_askOf_159 : decode cX8_askOf 159 = .ok (.iload_n 1, 1) := by decide +kernel
theorem dX8_askOf_160 : decode cX8_askOf 160 = .ok (.baload, 1) := by decide +kernel
theorem dX8_askOf_161 : decode cX8_askOf 161 = .ok (.ifCond .eq 85, 3) := by decide +kernel
theorem dX8_askOf_164 : decode cX8_askOf 164 = .ok (.aload_n 0, 1) := by decide +kernel
theorem dX8_askOf_165 : decode cX8_askOf 165 = .ok (.aload_n 0, 1) := by decide +kernel
theorem dX8_askOf_166 : decode cX8_askOf 166 = .ok (.iload_n 1, 1) := by decide +kernel
theorem dX8_askOf_167 : decode cX8_askOf 167 = .ok (.invokevirtual 361, 3) := by decide +kernel
theorem dX8_askOf_170 : decode cX8_askOf 170 = .ok (.iconst 0, 1) := by decide +kernel
theorem dX8_askOf_171 : decode cX8_askOf 171 = .ok (.invokevirtual 332, 3) := by decide +kernel
theorem dX8_askOf_174 : decode cX8_askOf 174 = .ok (.i2l, 1) := by decide +kernel
theorem dX8_askOf_175 : decode cX8_askOf 175 = .ok (.lstore 5, 2) := by decide +kernel
theorem dX8_askOf_177 : decode cX8_askOf 177 = .ok (.iconst 0, 1) := by decide +kernel
theorem dX8_askOf_178 : decode cX8_askOf 178 = .ok (.istore 7, 2) := by decide +kernel
theorem dX8_askOf_180 : decode cX8_askOf 180 = .ok (.iload 7, 2) := by decide +kernel
theorem dX8_askOf_182 : decode cX8_askOf 182 = .ok (.aload_n 0, 1) := by decide +kernel
theorem dX8_askOf_183 : decode cX8_askOf 183 = .ok (.getfield 127, 3) := by decide +kernel
theorem dX8_askOf_186 : decode cX8_askOf 186 = .ok (.if_icmp .ge 53, 3) := by decide +kernel
theorem dX8_askOf_189 : decode cX8_askOf 189 = .ok (.lload 5, 2) := by decide +kernel
theorem dX8_askOf_191 : decode cX8_askOf 191 = .ok (.aload_n 0, 1) := by decide +kernel
theorem dX8_askOf_192 : decode cX8_askOf 192 = .ok (.iload 7, 2) := by decide +kernel
theorem dX8_askOf_194 : decode cX8_askOf 194 = .ok (.invokevirtual 361, 3) := by decide +kernel
theorem dX8_askOf_197 : decode cX8_askOf 197 = .ok (.aload_n 0, 1) := by decide +kernel
theorem dX8_askOf_198 : decode cX8_askOf 198 = .ok (.iload_n 1, 1) := by decide +kernel
theorem dX8_askOf_199 : decode cX8_askOf 199 = .ok (.invokevirtual 361, 3) := by decide +kernel
theorem dX8_askOf_202 : decode cX8_askOf 202 = .ok (.if_icmp .ne 27, 3) := by decide +kernel
theorem dX8_askOf_205 : decode cX8_askOf 205 = .ok (.aload_n 0, 1) := by decide +kernel
theorem dX8_askOf_206 : decode cX8_askOf 206 = .ok (.iload 7, 2) := by decide +kernel
theorem dX8_askOf_208 : decode cX8_askOf 208 = .ok (.invokevirtual 379, 3) := by decide +kernel
theorem dX8_askOf_211 : decode cX8_askOf 211 = .ok (.aload_n 0, 1) := by decide +kernel
theorem dX8_askOf_212 : decode cX8_askOf 212 = .ok (.iload_n 1, 1) := by decide +kernel
theorem dX8_askOf_213 : decode cX8_askOf 213 = .ok (.invokevirtual 379, 3) := by decide +kernel
theorem dX8_askOf_216 : decode cX8_askOf 216 = .ok (.if_icmp .ne 13, 3) := by decide +kernel
theorem dX8_askOf_219 : decode cX8_askOf 219 = .ok (.aload_n 0, 1) := by decide +kernel
theorem dX8_askOf_220 : decode cX8_askOf 220 = .ok (.iload 7, 2) := by decide +kernel
theorem dX8_askOf_222 : decode cX8_askOf 222 = .ok (.invokevirtual 171, 3) := by decide +kernel
theorem dX8_askOf_225 : decode cX8_askOf 225 = .ok (.i2l, 1) := by decide +kernel
theorem dX8_askOf_226 : decode cX8_askOf 226 = .ok (.goto 4, 3) := by decide +kernel
theorem dX8_askOf_229 : decode cX8_askOf 229 = .ok (.lconst 0, 1) := by decide +kernel
theorem dX8_askOf_230 : decode cX8_askOf 230 = .ok (.ladd, 1) := by decide +kernel
theorem dX8_askOf_231 : decode cX8_askOf 231 = .ok (.lstore 5, 2) := by decide +kernel
theorem dX8_askOf_233 : decode cX8_askOf 233 = .ok (.iinc 7 1, 3) := by decide +kernel
theorem dX8_askOf_236 : decode cX8_askOf 236 = .ok (.goto (-56), 3) := by decide +kernel
theorem dX8_askOf_239 : decode cX8_askOf 239 = .ok (.aload_n 0, 1) := by decide +kernel
theorem dX8_askOf_240 : decode cX8_askOf 240 = .ok (.iload_n 1, 1) := by decide +kernel
theorem dX8_askOf_241 : decode cX8_askOf 241 = .ok (.lload 5, 2) := by decide +kernel
theorem dX8_askOf_243 : decode cX8_askOf 243 = .ok (.invokevirtual 382, 3) := by decide +kernel
theorem dX8_askOf_246 : decode cX8_askOf 246 = .ok (.return_, 1) := by decide +kernel
def f_X8_askOf_b180 (n : Nat) (x1 : Int32) (x2 : Int32) (x3 : Int32) : Nat → Int64 → Int32 → m_M → Option m_M
  | 0, _, _, _ => none
  | u + 1, x5, x7, M =>
    if (M.1 172 23) ≤ x7 then
  m_ob (f_X8_shareOf x1 x5 M) fun M2 =>
  some M2
  else
  m_ob (f_X8_manOf x7 M) fun r3 =>
  m_ob (f_X8_manOf x1 M) fun r4 =>
  if r3 = r4 then
  m_ob (f_X8_tradeOf x7 M) fun r6 =>
  m_ob (f_X8_tradeOf x1 M) fun r7 =>
  if r6 = r7 then
  m_ob (f_X8_owedOf x7 M) fun r9 =>
  f_X8_askOf_b180 n x1 x2 x3 u (x5 + r9.toInt64) (x7 + 1) M
  else
  f_X8_askOf_b180 n x1 x2 x3 u (x5 + (0 : Int64)) (x7 + 1) M
  else
  f_X8_askOf_b180 n x1 x2 x3 u (x5 + (0 : Int64)) (x7 + 1) M
def f_X8_askOf_b130 (n : Nat) (x1 : Int32) (x2 : Int32) (x3 : Int32) (x4 : Int32) (s0 : Int32) (M : m_M) : Option m_M :=
  if s0 ≤ x4 then
  m_bd (m_sL M 172 46 s0.toInt64) fun M11 =>
  some M11
  else
  m_bd (m_sL M 172 46 x4.toInt64) fun M12 =>
  some M12
def f_X8_askOf (n : Nat) (x1 : Int32) (x2 : Int32) (x3 : Int32) (M : m_M) : Option m_M :=
  m_bd (m_sL M 172 46 0) fun M13 =>
  m_bd (m_sL M13 172 47 1) fun M14 =>
  m_ob (f_X8_whoOf x1 M14) fun r15 =>
  if r15 = (-1) then
  some M14
  else
  m_ob (f_X8_owedOf x1 M14) fun r17 =>
  if x2 = 0 then
  m_gd (m_in x1 60) (
  if (M14.1 189 x1.toNatClampNeg) = 0 then
  if (M14.1 190 x1.toNatClampNeg) = 0 then
  m_bd (m_sL M14 172 46 0) fun M41 =>
  some M41
  else
  m_bd (m_sL M14 172 46 r17.toInt64) fun M42 =>
  some M42
  else
  m_bd (m_sL M14 172 46 r17.toInt64) fun M39 =>
  some M39)
  else
  if x2 = 1 then
  m_ob (f_X8_thereOf x1 M14) fun r32 =>
  if r32 ≤ r17 then
  m_ob (f_X8_thereOf x1 M14) fun r34 =>
  m_bd (m_sL M14 172 46 r34.toInt64) fun M35 =>
  some M35
  else
  m_bd (m_sL M14 172 46 r17.toInt64) fun M36 =>
  some M36
  else
  if x2 = 2 then
  m_ob (f_X8_isOpen x1 M14) fun r25 =>
  if r25 = 0 then
  f_X8_askOf_b130 n x1 x2 x3 r17 0 M14
  else
  m_ob (f_X8_manOf x1 M14) fun r28 =>
  m_ob (f_X8_hiddenOf n x1 M14) fun r29 =>
  m_o2 (f_X8_netOf n r28 x3 0 r29 M14) fun r30 M31 =>
  f_X8_askOf_b130 n x1 x2 x3 r17 r30 M31
  else
  m_gd (m_in x1 60) (
  if (M14.1 191 x1.toNatClampNeg) = 0 then
  some M14
  else
  m_ob (f_X8_manOf x1 M14) fun r23 =>
  m_ob (f_X8_ownOf n r23 0 M14) fun r24 =>
  f_X8_askOf_b180 n x1 x2 x3 n r24.toInt64 0 M14)
set_option maxHeartbeats 4000000 in
set_option maxRecDepth 100000 in
theorem c_X8_askOf (l : Launch) (G : m_G) {n : Nat} {x1 : Int32} {x2 : Int32} {x3 : Int32} {M : m_M} {M0 : m_M}  (hres : f_X8_askOf n x1 x2 x3 M = some M0) : Met l yX8_askOf (m_U yX8_askOf cX8_askOf 8 none) (m_R 5 118) (m_Pc G [.ref (m_ad G 172), .int x1, .int x2, .int x3] M) (m_Qv G M0) 0 0 (m_A G) := by
  refine m_i0 (n := 8) RX8 rfl (by decide) (Nat.le_of_ble_eq_true rfl) ?_
  intro p e s m args below meth c X hr hlk hSt hP hS ls hl
  have hl : lv_has ls 8 [(0, .ref (m_ad G 172)), (1, .int x1), (2, .int x2), (3, .int x3)] := hl
  have B180 : ∀ (u : Nat) (x5 : Int64) (x7 : Int32) (M : m_M) (H : Heap) (locs : List Loc) (ls : Array Slot), m_P G M H → va_S (m_A G) s.heap H locs → lv_has ls 8 [(0, .ref (m_ad G 172)), (1, .int x1), (5, .long x5), (7, .int x7)] → f_X8_askOf_b180 n x1 x2 x3 u x5 x7 M = some M0 → W p l e (m_R 5 118) s m args below meth c H locs 0 0 (MQ below (m_Qv G M0) args s 0 0 (m_A G)) (F0 m 180 ls []) := by
    intro u
    induction u with
    | zero =>
      intro x5 x7 M H locs ls hP hS hl hres
      cases hres
    | succ u ih =>
      intro x5 x7 M H locs ls hP hS hl hres
      rw [f_X8_askOf_b180] at hres
      refine lv_iload X.1 X.2.1 dX8_askOf_180 (lv_at hl 3 rfl) ?_
      refine lv_aload_n X.1 X.2.1 dX8_askOf_182 rfl (lv_at hl 0 rfl) ?_
      refine m_g8 (v := .int (M.1 172 23)) X hSt hP m_z_172 23 (by decide) rfl k_f_X8_127 dX8_askOf_183 ?_
      refine lv_icmp_ge (tgt := 239) X.1 X.2.1 dX8_askOf_186 (by decide) (fun hc1 => ?_) (fun hc1 => ?_)
      · have hres := m_it hres hc1
        refine lv_aload_n X.1 X.2.1 dX8_askOf_239 rfl (lv_at hl 0 rfl) ?_
        refine lv_iload_n X.1 X.2.1 dX8_askOf_240 rfl (lv_at hl 1 rfl) ?_
        refine lv_lload X.1 X.2.1 dX8_askOf_241 (lv_at hl 2 rfl) ?_
        obtain ⟨M2, eM2, hres⟩ := m_ob_e hres
        refine m_bv (m_cV (n := 2) (As := [.int x1, .long x5]) (rest := []) X hSt hP hS hl.1 (c_X8_shareOf l G  eM2) k_c_yX8_shareOf k_m_X8_382 k_i_yX8_shareOf k_s_yX8_shareOf k_n_X8 (by decide +kernel) (m_rc8 hSt hP m_z_172) rfl rfl ⟨Nat.le_of_ble_eq_true rfl, Nat.le_of_ble_eq_true rfl⟩ (Nat.le_of_ble_eq_true rfl) ⟨Nat.zero_le _, Nat.zero_le _⟩ dX8_askOf_243) hS (fun H locs hP hS => ?_)
        exact m_rv X hr hlk hP hS (Option.some.inj hres) dX8_askOf_246
      · have hres := m_if hres hc1
        refine lv_lload X.1 X.2.1 dX8_askOf_189 (lv_at hl 2 rfl) ?_
        refine lv_aload_n X.1 X.2.1 dX8_askOf_191 rfl (lv_at hl 0 rfl) ?_
        refine lv_iload X.1 X.2.1 dX8_askOf_192 (lv_at hl 3 rfl) ?_
        obtain ⟨r3, err3, hres⟩ := m_ob_e hres
        refine m_bi (m_cV (n := 1) (As := [.int x7]) (rest := [.long x5]) X hSt hP hS hl.1 (c_X8_manOf l G  err3) k_c_yX8_manOf k_m_X8_361 k_i_yX8_manOf k_s_yX8_manOf k_n_X8 (by decide +kernel) (m_rc8 hSt hP m_z_172) rfl rfl ⟨Nat.le_of_ble_eq_true rfl, Nat.le_of_ble_eq_true rfl⟩ (Nat.le_of_ble_eq_true rfl) ⟨Nat.zero_le _, Nat.zero_le _⟩ dX8_askOf_194) hS (fun H locs hP hS => ?_)
        refine lv_aload_n X.1 X.2.1 dX8_askOf_197 rfl (lv_at hl 0 rfl) ?_
        refine lv_iload_n X.1 X.2.1 dX8_askOf_198 rfl (lv_at hl 1 rfl) ?_
        obtain ⟨r4, err4, hres⟩ := m_ob_e hres
        refine m_bi (m_cV (n := 1) (As := [.int x1]) (rest := [.int r3, .long x5]) X hSt hP hS hl.1 (c_X8_manOf l G  err4) k_c_yX8_manOf k_m_X8_361 k_i_yX8_manOf k_s_yX8_manOf k_n_X8 (by decide +kernel) (m_rc8 hSt hP m_z_172) rfl rfl ⟨Nat.le_of_ble_eq_true rfl, Nat.le_of_ble_eq_true rfl⟩ (Nat.le_of_ble_eq_true rfl) ⟨Nat.zero_le _, Nat.zero_le _⟩ dX8_askOf_199) hS (fun H locs hP hS => ?_)
        refine lv_icmp_ne (tgt := 229) X.1 X.2.1 dX8_askOf_202 (by decide) (fun hc5 => ?_) (fun hc5 => ?_)
        · have hres := m_if hres hc5
          refine lv_lconst (v := 0) X.1 X.2.1 dX8_askOf_229 (by decide) ?_
          refine lv_ladd X.1 X.2.1 dX8_askOf_230 ?_
          refine lv_lstore (lv' := [(5, .long (x5 + (0 : Int64))), (0, .ref (m_ad G 172)), (1, .int x1), (7, .int x7)]) X.1 X.2.1 dX8_askOf_231 hl (by decide) rfl (fun ls hl => ?_)
          refine lv_iinc (v := (x7 + 1)) (lv' := [(7, .int (x7 + 1)), (5, .long (x5 + (0 : Int64))), (0, .ref (m_ad G 172)), (1, .int x1)]) X.1 X.2.1 dX8_askOf_233 hl (k := 3) rfl rfl (by decide) rfl (fun ls hl => ?_)
          refine lv_goto (tgt := 180) X.1 X.2.1 dX8_askOf_236 (by decide) ?_
          exact ih (x5 + (0 : Int64)) (x7 + 1) M _ _ _ hP hS (lv_sub hl [2, 3, 1, 0] rfl) hres
        · have hres := m_it hres hc5
          refine lv_aload_n X.1 X.2.1 dX8_askOf_205 rfl (lv_at hl 0 rfl) ?_
          refine lv_iload X.1 X.2.1 dX8_askOf_206 (lv_at hl 3 rfl) ?_
          obtain ⟨r6, err6, hres⟩ := m_ob_e hres
          refine m_bi (m_cV (n := 1) (As := [.int x7]) (rest := [.long x5]) X hSt hP hS hl.1 (c_X8_tradeOf l G  err6) k_c_yX8_tradeOf k_m_X8_379 k_i_yX8_tradeOf k_s_yX8_tradeOf k_n_X8 (by decide +kernel) (m_rc8 hSt hP m_z_172) rfl rfl ⟨Nat.le_of_ble_eq_true rfl, Nat.le_of_ble_eq_true rfl⟩ (Nat.le_of_ble_eq_true rfl) ⟨Nat.zero_le _, Nat.zero_le _⟩ dX8_askOf_208) hS (fun H locs hP hS => ?_)
          refine lv_aload_n X.1 X.2.1 dX8_askOf_211 rfl (lv_at hl 0 rfl) ?_
          refine lv_iload_n X.1 X.2.1 dX8_askOf_212 rfl (lv_at hl 1 rfl) ?_
          obtain ⟨r7, err7, hres⟩ := m_ob_e hres
          refine m_bi (m_cV (n := 1) (As := [.int x1]) (rest := [.int r6, .long x5]) X hSt hP hS hl.1 (c_X8_tradeOf l G  err7) k_c_yX8_tradeOf k_m_X8_379 k_i_yX8_tradeOf k_s_yX8_tradeOf k_n_X8 (by decide +kernel) (m_rc8 hSt hP m_z_172) rfl rfl ⟨Nat.le_of_ble_eq_true rfl, Nat.le_of_ble_eq_true rfl⟩ (Nat.le_of_ble_eq_true rfl) ⟨Nat.zero_le _, Nat.zero_le _⟩ dX8_askOf_213) hS (fun H locs hP hS => ?_)
          refine lv_icmp_ne (tgt := 229) X.1 X.2.1 dX8_askOf_216 (by decide) (fun hc8 => ?_) (fun hc8 => ?_)
          · have hres := m_if hres hc8
            refine lv_lconst (v := 0) X.1 X.2.1 dX8_askOf_229 (by decide) ?_
            refine lv_ladd X.1 X.2.1 dX8_askOf_230 ?_
            refine lv_lstore (lv' := [(5, .long (x5 + (0 : Int64))), (0, .ref (m_ad G 172)), (1, .int x1), (7, .int x7)]) X.1 X.2.1 dX8_askOf_231 hl (by decide) rfl (fun ls hl => ?_)
            refine lv_iinc (v := (x7 + 1)) (lv' := [(7, .int (x7 + 1)), (5, .long (x5 + (0 : Int64))), (0, .ref (m_ad G 172)), (1, .int x1)]) X.1 X.2.1 dX8_askOf_233 hl (k := 3) rfl rfl (by decide) rfl (fun ls hl => ?_)
            refine lv_goto (tgt := 180) X.1 X.2.1 dX8_askOf_236 (by decide) ?_
            exact ih (x5 + (0 : Int64)) (x7 + 1) M _ _ _ hP hS (lv_sub hl [2, 3, 1, 0] rfl) hres
          · have hres := m_it hres hc8
            refine lv_aload_n X.1 X.2.1 dX8_askOf_219 rfl (lv_at hl 0 rfl) ?_
            refine lv_iload X.1 X.2.1 dX8_askOf_220 (lv_at hl 3 rfl) ?_
            obtain ⟨r9, err9, hres⟩ := m_ob_e hres
            refine m_bi (m_cV (n := 1) (As := [.int x7]) (rest := [.long x5]) X hSt hP hS hl.1 (c_X8_owedOf l G  err9) k_c_yX8_owedOf k_m_X8_171 k_i_yX8_owedOf k_s_yX8_owedOf k_n_X8 (by decide +kernel) (m_rc8 hSt hP m_z_172) rfl rfl ⟨Nat.le_of_ble_eq_true rfl, Nat.le_of_ble_eq_true rfl⟩ (Nat.le_of_ble_eq_true rfl) ⟨Nat.zero_le _, Nat.zero_le _⟩ dX8_askOf_222) hS (fun H locs hP hS => ?_)
            refine lv_i2l (v := r9.toInt64) X.1 X.2.1 dX8_askOf_225 rfl ?_
            refine lv_goto (tgt := 230) X.1 X.2.1 dX8_askOf_226 (by decide) ?_
            refine lv_ladd X.1 X.2.1 dX8_askOf_230 ?_
            refine lv_lstore (lv' := [(5, .long (x5 + r9.toInt64)), (0, .ref (m_ad G 172)), (1, .int x1), (7, .int x7)]) X.1 X.2.1 dX8_askOf_231 hl (by decide) rfl (fun ls hl => ?_)
            refine lv_iinc (v := (x7 + 1)) (lv' := [(7, .int (x7 + 1)), (5, .long (x5 + r9.toInt64)), (0, .ref (m_ad G 172)), (1, .int x1)]) X.1 X.2.1 dX8_askOf_233 hl (k := 3) rfl rfl (by decide) rfl (fun ls hl => ?_)
            refine lv_goto (tgt := 180) X.1 X.2.1 dX8_askOf_236 (by decide) ?_
            exact ih (x5 + r9.toInt64) (x7 + 1) M _ _ _ hP hS (lv_sub hl [2, 3, 1, 0] rfl) hres
  have B130 : ∀  (x4 : Int32) (s0 : Int32) (M : m_M) (H : Heap) (locs : List Loc) (ls : Array Slot), m_P G M H → va_S (m_A G) s.heap H locs → lv_has ls 8 [(0, .ref (m_ad G 172)), (4, .int x4)] → f_X8_askOf_b130 n x1 x2 x3 x4 s0 M = some M0 → W p l e (m_R 5 118) s m args below meth c H locs 0 0 (MQ below (m_Qv G M0) args s 0 0 (m_A G)) (F0 m 130 ls [.int s0]) := by
    intro x4 s0 M H locs ls hP hS hl hres
    unfold f_X8_askOf_b130 at hres
    refine lv_istore (lv' := [(5, .int s0), (0, .ref (m_ad G 172)), (4, .int x4)]) X.1 X.2.1 dX8_askOf_130 hl (by decide) rfl (fun ls hl => ?_)
    refine lv_aload_n X.1 X.2.1 dX8_askOf_132 rfl (lv_at hl 1 rfl) ?_
    refine lv_iload X.1 X.2.1 dX8_askOf_133 (lv_at hl 2 rfl) ?_
    refine lv_iload X.1 X.2.1 dX8_askOf_135 (lv_at hl 0 rfl) ?_
    refine lv_icmp_ge (tgt := 146) X.1 X.2.1 dX8_askOf_137 (by decide) (fun hc10 => ?_) (fun hc10 => ?_)
    · have hres := m_it hres hc10
      refine lv_iload X.1 X.2.1 dX8_askOf_146 (lv_at hl 0 rfl) ?_
      refine lv_i2l (v := s0.toInt64) X.1 X.2.1 dX8_askOf_148 rfl ?_
      obtain ⟨M11, eM11, hres⟩ := m_bd_e hres
      refine m_pl8 X hSt hP hS m_z_172 46 (by decide) eM11 rfl rfl (by decide) k_f_X8_367 dX8_askOf_149 (fun H locs hP hS => ?_)
      refine lv_goto (tgt := 246) X.1 X.2.1 dX8_askOf_152 (by decide) ?_
      exact m_rv X hr hlk hP hS (Option.some.inj hres) dX8_askOf_246
    · have hres := m_if hres hc10
      refine lv_iload X.1 X.2.1 dX8_askOf_140 (lv_at hl 2 rfl) ?_
      refine lv_i2l (v := x4.toInt64) X.1 X.2.1 dX8_askOf_142 rfl ?_
      refine lv_goto (tgt := 149) X.1 X.2.1 dX8_askOf_143 (by decide) ?_
      obtain ⟨M12, eM12, hres⟩ := m_bd_e hres
      refine m_pl8 X hSt hP hS m_z_172 46 (by decide) eM12 rfl rfl (by decide) k_f_X8_367 dX8_askOf_149 (fun H locs hP hS => ?_)
      refine lv_goto (tgt := 246) X.1 X.2.1 dX8_askOf_152 (by decide) ?_
      exact m_rv X hr hlk hP hS (Option.some.inj hres) dX8_askOf_246
  unfold f_X8_askOf at hres
  refine lv_aload_n X.1 X.2.1 dX8_askOf_0 rfl (lv_at hl 0 rfl) ?_
  refine lv_lconst (v := 0) X.1 X.2.1 dX8_askOf_1 (by decide) ?_
  obtain ⟨M13, eM13, hres⟩ := m_bd_e hres
  refine m_pl8 X hSt hP hS m_z_172 46 (by decide) eM13 rfl rfl (by decide) k_f_X8_367 dX8_askOf_2 (fun H locs hP hS => ?_)
  refine lv_aload_n X.1 X.2.1 dX8_askOf_5 rfl (lv_at hl 0 rfl) ?_
  refine lv_lconst (v := 1) X.1 X.2.1 dX8_askOf_6 (by decide) ?_
  obtain ⟨M14, eM14, hres⟩ := m_bd_e hres
  refine m_pl8 X hSt hP hS m_z_172 47 (by decide) eM14 rfl rfl (by decide) k_f_X8_370 dX8_askOf_7 (fun H locs hP hS => ?_)
  refine lv_aload_n X.1 X.2.1 dX8_askOf_10 rfl (lv_at hl 0 rfl) ?_
  refine lv_iload_n X.1 X.2.1 dX8_askOf_11 rfl (lv_at hl 1 rfl) ?_
  obtain ⟨r15, err15, hres⟩ := m_ob_e hres
  refine m_bi (m_cV (n := 1) (As := [.int x1]) (rest := []) X hSt hP hS hl.1 (c_X8_whoOf l G  err15) k_c_yX8_whoOf k_m_X8_364 k_i_yX8_whoOf k_s_yX8_whoOf k_n_X8 (by decide +kernel) (m_rc8 hSt hP m_z_172) rfl rfl ⟨Nat.le_of_ble_eq_true rfl, Nat.le_of_ble_eq_true rfl⟩ (Nat.le_of_ble_eq_true rfl) ⟨Nat.zero_le _, Nat.zero_le _⟩ dX8_askOf_12) hS (fun H locs hP hS => ?_)
  refine lv_iconst (v := (-1)) X.1 X.2.1 dX8_askOf_15 (by decide) ?_
  refine lv_icmp_ne (tgt := 20) X.1 X.2.1 dX8_askOf_16 (by decide) (fun hc16 => ?_) (fun hc16 => ?_)
  · have hres := m_if hres hc16
    refine lv_aload_n X.1 X.2.1 dX8_askOf_20 rfl (lv_at hl 0 rfl) ?_
    refine lv_iload_n X.1 X.2.1 dX8_askOf_21 rfl (lv_at hl 1 rfl) ?_
    obtain ⟨r17, err17, hres⟩ := m_ob_e hres
    refine m_bi (m_cV (n := 1) (As := [.int x1]) (rest := []) X hSt hP hS hl.1 (c_X8_owedOf l G  err17) k_c_yX8_owedOf k_m_X8_171 k_i_yX8_owedOf k_s_yX8_owedOf k_n_X8 (by decide +kernel) (m_rc8 hSt hP m_z_172) rfl rfl ⟨Nat.le_of_ble_eq_true rfl, Nat.le_of_ble_eq_true rfl⟩ (Nat.le_of_ble_eq_true rfl) ⟨Nat.zero_le _, Nat.zero_le _⟩ dX8_askOf_22) hS (fun H locs hP hS => ?_)
    refine lv_istore (lv' := [(4, .int r17), (0, .ref (m_ad G 172)), (1, .int x1), (2, .int x2), (3, .int x3)]) X.1 X.2.1 dX8_askOf_25 hl (by decide) rfl (fun ls hl => ?_)
    refine lv_iload_n X.1 X.2.1 dX8_askOf_27 rfl (lv_at hl 3 rfl) ?_
    refine lv_if_ne (tgt := 63) X.1 X.2.1 dX8_askOf_28 (by decide) (fun hc18 => ?_) (fun hc18 => ?_)
    · have hres := m_if hres hc18
      refine lv_iload_n X.1 X.2.1 dX8_askOf_63 rfl (lv_at hl 3 rfl) ?_
      refine lv_iconst (v := 1) X.1 X.2.1 dX8_askOf_64 (by decide) ?_
      refine lv_icmp_ne (tgt := 97) X.1 X.2.1 dX8_askOf_65 (by decide) (fun hc19 => ?_) (fun hc19 => ?_)
      · have hres := m_if hres hc19
        refine lv_iload_n X.1 X.2.1 dX8_askOf_97 rfl (lv_at hl 3 rfl) ?_
        refine lv_iconst (v := 2) X.1 X.2.1 dX8_askOf_98 (by decide) ?_
        refine lv_icmp_ne (tgt := 155) X.1 X.2.1 dX8_askOf_99 (by decide) (fun hc20 => ?_) (fun hc20 => ?_)
        · have hres := m_if hres hc20
          refine lv_aload_n X.1 X.2.1 dX8_askOf_155 rfl (lv_at hl 1 rfl) ?_
          refine m_g8 (v := .ref (m_ad G 191)) X hSt hP m_z_172 21 (by decide) rfl k_f_X8_69 dX8_askOf_156 ?_
          refine lv_iload_n X.1 X.2.1 dX8_askOf_159 rfl (lv_at hl 2 rfl) ?_
          obtain ⟨hg21, hres⟩ := m_gd_e hres
          refine m_za (j := x1.toNatClampNeg) X hSt hP m_z_191 hg21 rfl dX8_askOf_160 ?_
          refine lv_if_eq (tgt := 246) X.1 X.2.1 dX8_askOf_161 (by decide) (fun hc22 => ?_) (fun hc22 => ?_)
          · have hres := m_it hres hc22
            exact m_rv X hr hlk hP hS (Option.some.inj hres) dX8_askOf_246
          · have hres := m_if hres hc22
            refine lv_aload_n X.1 X.2.1 dX8_askOf_164 rfl (lv_at hl 1 rfl) ?_
            refine lv_aload_n X.1 X.2.1 dX8_askOf_165 rfl (lv_at hl 1 rfl) ?_
            refine lv_iload_n X.1 X.2.1 dX8_askOf_166 rfl (lv_at hl 2 rfl) ?_
            obtain ⟨r23, err23, hres⟩ := m_ob_e hres
            refine m_bi (m_cV (n := 1) (As := [.int x1]) (rest := [.ref (m_ad G 172)]) X hSt hP hS hl.1 (c_X8_manOf l G  err23) k_c_yX8_manOf k_m_X8_361 k_i_yX8_manOf k_s_yX8_manOf k_n_X8 (by decide +kernel) (m_rc8 hSt hP m_z_172) rfl rfl ⟨Nat.le_of_ble_eq_true rfl, Nat.le_of_ble_eq_true rfl⟩ (Nat.le_of_ble_eq_true rfl) ⟨Nat.zero_le _, Nat.zero_le _⟩ dX8_askOf_167) hS (fun H locs hP hS => ?_)
            refine lv_iconst (v := 0) X.1 X.2.1 dX8_askOf_170 (by decide) ?_
            obtain ⟨r24, err24, hres⟩ := m_ob_e hres
            refine m_bi (m_cV (n := 2) (As := [.int r23, .int 0]) (rest := []) X hSt hP hS hl.1 (c_X8_ownOf l G  err24) k_c_yX8_ownOf k_m_X8_332 k_i_yX8_ownOf k_s_yX8_ownOf k_n_X8 (by decide +kernel) (m_rc8 hSt hP m_z_172) rfl rfl ⟨Nat.le_of_ble_eq_true rfl, Nat.le_of_ble_eq_true rfl⟩ (Nat.le_of_ble_eq_true rfl) ⟨Nat.zero_le _, Nat.zero_le _⟩ dX8_askOf_171) hS (fun H locs hP hS => ?_)
            refine lv_i2l (v := r24.toInt64) X.1 X.2.1 dX8_askOf_174 rfl ?_
            refine lv_lstore (lv' := [(5, .long r24.toInt64), (4, .int r17), (0, .ref (m_ad G 172)), (1, .int x1), (2, .int x2), (3, .int x3)]) X.1 X.2.1 dX8_askOf_175 hl (by decide) rfl (fun ls hl => ?_)
            refine lv_iconst (v := 0) X.1 X.2.1 dX8_askOf_177 (by decide) ?_
            refine lv_istore (lv' := [(7, .int 0), (5, .long r24.toInt64), (4, .int r17), (0, .ref (m_ad G 172)), (1, .int x1), (2, .int x2), (3, .int x3)]) X.1 X.2.1 dX8_askOf_178 hl (by decide) rfl (fun ls hl => ?_)
            exact B180 n r24.toInt64 0 M14 _ _ _ hP hS (lv_sub hl [3, 4, 1, 0] rfl) hres
        · have hres := m_it hres hc20
          refine lv_aload_n X.1 X.2.1 dX8_askOf_102 rfl (lv_at hl 1 rfl) ?_
          refine lv_iload_n X.1 X.2.1 dX8_askOf_103 rfl (lv_at hl 2 rfl) ?_
          obtain ⟨r25, err25, hres⟩ := m_ob_e hres
          refine m_bz (m_cV (n := 1) (As := [.int x1]) (rest := []) X hSt hP hS hl.1 (c_X8_isOpen l G  err25) k_c_yX8_isOpen k_m_X8_373 k_i_yX8_isOpen k_s_yX8_isOpen k_n_X8 (by decide +kernel) (m_rc8 hSt hP m_z_172) rfl rfl ⟨Nat.le_of_ble_eq_true rfl, Nat.le_of_ble_eq_true rfl⟩ (Nat.le_of_ble_eq_true rfl) ⟨Nat.zero_le _, Nat.zero_le _⟩ dX8_askOf_104) hS (fun H locs hP hS hz26 => ?_)
          refine lv_if_eq (tgt := 129) X.1 X.2.1 dX8_askOf_107 (by decide) (fun hc27 => ?_) (fun hc27 => ?_)
          · have hres := m_it hres hc27
            refine lv_iconst (v := 0) X.1 X.2.1 dX8_askOf_129 (by decide) ?_
            exact B130 r17 0 M14 _ _ _ hP hS (lv_sub hl [1, 0] rfl) hres
          · have hres := m_if hres hc27
            refine lv_aload_n X.1 X.2.1 dX8_askOf_110 rfl (lv_at hl 1 rfl) ?_
            refine lv_aload_n X.1 X.2.1 dX8_askOf_111 rfl (lv_at hl 1 rfl) ?_
            refine lv_iload_n X.1 X.2.1 dX8_askOf_112 rfl (lv_at hl 2 rfl) ?_
            obtain ⟨r28, err28, hres⟩ := m_ob_e hres
            refine m_bi (m_cV (n := 1) (As := [.int x1]) (rest := [.ref (m_ad G 172)]) X hSt hP hS hl.1 (c_X8_manOf l G  err28) k_c_yX8_manOf k_m_X8_361 k_i_yX8_manOf k_s_yX8_manOf k_n_X8 (by decide +kernel) (m_rc8 hSt hP m_z_172) rfl rfl ⟨Nat.le_of_ble_eq_true rfl, Nat.le_of_ble_eq_true rfl⟩ (Nat.le_of_ble_eq_true rfl) ⟨Nat.zero_le _, Nat.zero_le _⟩ dX8_askOf_113) hS (fun H locs hP hS => ?_)
            refine lv_iload_n X.1 X.2.1 dX8_askOf_116 rfl (lv_at hl 4 rfl) ?_
            refine lv_iconst (v := 0) X.1 X.2.1 dX8_askOf_117 (by decide) ?_
            refine lv_aload_n X.1 X.2.1 dX8_askOf_118 rfl (lv_at hl 1 rfl) ?_
            refine lv_iload_n X.1 X.2.1 dX8_askOf_119 rfl (lv_at hl 2 rfl) ?_
            obtain ⟨r29, err29, hres⟩ := m_ob_e hres
            refine m_bi (m_cV (n := 1) (As := [.int x1]) (rest := [.int 0, .int x3, .int r28, .ref (m_ad G 172)]) X hSt hP hS hl.1 (c_X8_hiddenOf l G  err29) k_c_yX8_hiddenOf k_m_X8_376 k_i_yX8_hiddenOf k_s_yX8_hiddenOf k_n_X8 (by decide +kernel) (m_rc8 hSt hP m_z_172) rfl rfl ⟨Nat.le_of_ble_eq_true rfl, Nat.le_of_ble_eq_true rfl⟩ (Nat.le_of_ble_eq_true rfl) ⟨Nat.zero_le _, Nat.zero_le _⟩ dX8_askOf_120) hS (fun H locs hP hS => ?_)
            obtain ⟨r30, M31, err30, hres⟩ := m_o2_e hres
            refine m_bi (m_cV (n := 4) (As := [.int r28, .int x3, .int 0, .int r29]) (rest := []) X hSt hP hS hl.1 (c_X8_netOf l G  err30) k_c_yX8_netOf k_m_X8_337 k_i_yX8_netOf k_s_yX8_netOf k_n_X8 (by decide +kernel) (m_rc8 hSt hP m_z_172) rfl rfl ⟨Nat.le_of_ble_eq_true rfl, Nat.le_of_ble_eq_true rfl⟩ (Nat.le_of_ble_eq_true rfl) ⟨Nat.zero_le _, Nat.zero_le _⟩ dX8_askOf_123) hS (fun H locs hP hS => ?_)
            refine lv_goto (tgt := 130) X.1 X.2.1 dX8_askOf_126 (by decide) ?_
            exact B130 r17 r30 M31 _ _ _ hP hS (lv_sub hl [1, 0] rfl) hres
      · have hres := m_it hres hc19
        refine lv_aload_n X.1 X.2.1 dX8_askOf_68 rfl (lv_at hl 1 rfl) ?_
        refine lv_iload X.1 X.2.1 dX8_askOf_69 (lv_at hl 0 rfl) ?_
        refine lv_aload_n X.1 X.2.1 dX8_askOf_71 rfl (lv_at hl 1 rfl) ?_
        refine lv_iload_n X.1 X.2.1 dX8_askOf_72 rfl (lv_at hl 2 rfl) ?_
        obtain ⟨r32, err32, hres⟩ := m_ob_e hres
        refine m_bi (m_cV (n := 1) (As := [.int x1]) (rest := [.int r17, .ref (m_ad G 172)]) X hSt hP hS hl.1 (c_X8_thereOf l G  err32) k_c_yX8_thereOf k_m_X8_167 k_i_yX8_thereOf k_s_yX8_thereOf k_n_X8 (by decide +kernel) (m_rc8 hSt hP m_z_172) rfl rfl ⟨Nat.le_of_ble_eq_true rfl, Nat.le_of_ble_eq_true rfl⟩ (Nat.le_of_ble_eq_true rfl) ⟨Nat.zero_le _, Nat.zero_le _⟩ dX8_askOf_73) hS (fun H locs hP hS => ?_)
        refine lv_icmp_ge (tgt := 85) X.1 X.2.1 dX8_askOf_76 (by decide) (fun hc33 => ?_) (fun hc33 => ?_)
        · have hres := m_it hres hc33
          refine lv_aload_n X.1 X.2.1 dX8_askOf_85 rfl (lv_at hl 1 rfl) ?_
          refine lv_iload_n X.1 X.2.1 dX8_askOf_86 rfl (lv_at hl 2 rfl) ?_
          obtain ⟨r34, err34, hres⟩ := m_ob_e hres
          refine m_bi (m_cV (n := 1) (As := [.int x1]) (rest := [.ref (m_ad G 172)]) X hSt hP hS hl.1 (c_X8_thereOf l G  err34) k_c_yX8_thereOf k_m_X8_167 k_i_yX8_thereOf k_s_yX8_thereOf k_n_X8 (by decide +kernel) (m_rc8 hSt hP m_z_172) rfl rfl ⟨Nat.le_of_ble_eq_true rfl, Nat.le_of_ble_eq_true rfl⟩ (Nat.le_of_ble_eq_true rfl) ⟨Nat.zero_le _, Nat.zero_le _⟩ dX8_askOf_87) hS (fun H locs hP hS => ?_)
          refine lv_i2l (v := r34.toInt64) X.1 X.2.1 dX8_askOf_90 rfl ?_
          obtain ⟨M35, eM35, hres⟩ := m_bd_e hres
          refine m_pl8 X hSt hP hS m_z_172 46 (by decide) eM35 rfl rfl (by decide) k_f_X8_367 dX8_askOf_91 (fun H locs hP hS => ?_)
          refine lv_goto (tgt := 246) X.1 X.2.1 dX8_askOf_94 (by decide) ?_
          exact m_rv X hr hlk hP hS (Option.some.inj hres) dX8_askOf_246
        · have hres := m_if hres hc33
          refine lv_iload X.1 X.2.1 dX8_askOf_79 (lv_at hl 0 rfl) ?_
          refine lv_i2l (v := r17.toInt64) X.1 X.2.1 dX8_askOf_81 rfl ?_
          refine lv_goto (tgt := 91) X.1 X.2.1 dX8_askOf_82 (by decide) ?_
          obtain ⟨M36, eM36, hres⟩ := m_bd_e hres
          refine m_pl8 X hSt hP hS m_z_172 46 (by decide) eM36 rfl rfl (by decide) k_f_X8_367 dX8_askOf_91 (fun H locs hP hS => ?_)
          refine lv_goto (tgt := 246) X.1 X.2.1 dX8_askOf_94 (by decide) ?_
          exact m_rv X hr hlk hP hS (Option.some.inj hres) dX8_askOf_246
    · have hres := m_it hres hc18
      refine lv_aload_n X.1 X.2.1 dX8_askOf_31 rfl (lv_at hl 1 rfl) ?_
      refine lv_aload_n X.1 X.2.1 dX8_askOf_32 rfl (lv_at hl 1 rfl) ?_
      refine m_g8 (v := .ref (m_ad G 189)) X hSt hP m_z_172 19 (by decide) rfl k_f_X8_63 dX8_askOf_33 ?_
      refine lv_iload_n X.1 X.2.1 dX8_askOf_36 rfl (lv_at hl 2 rfl) ?_
      obtain ⟨hg37, hres⟩ := m_gd_e hres
      refine m_za (j := x1.toNatClampNeg) X hSt hP m_z_189 hg37 rfl dX8_askOf_37 ?_
      refine lv_if_ne (tgt := 50) X.1 X.2.1 dX8_askOf_38 (by decide) (fun hc38 => ?_) (fun hc38 => ?_)
      · have hres := m_if hres hc38
        refine lv_iload X.1 X.2.1 dX8_askOf_50 (lv_at hl 0 rfl) ?_
        refine lv_i2l (v := r17.toInt64) X.1 X.2.1 dX8_askOf_52 rfl ?_
        refine lv_goto (tgt := 57) X.1 X.2.1 dX8_askOf_53 (by decide) ?_
        obtain ⟨M39, eM39, hres⟩ := m_bd_e hres
        refine m_pl8 X hSt hP hS m_z_172 46 (by decide) eM39 rfl rfl (by decide) k_f_X8_367 dX8_askOf_57 (fun H locs hP hS => ?_)
        refine lv_goto (tgt := 246) X.1 X.2.1 dX8_askOf_60 (by decide) ?_
        exact m_rv X hr hlk hP hS (Option.some.inj hres) dX8_askOf_246
      · have hres := m_it hres hc38
        refine lv_aload_n X.1 X.2.1 dX8_askOf_41 rfl (lv_at hl 1 rfl) ?_
        refine m_g8 (v := .ref (m_ad G 190)) X hSt hP m_z_172 20 (by decide) rfl k_f_X8_66 dX8_askOf_42 ?_
        refine lv_iload_n X.1 X.2.1 dX8_askOf_45 rfl (lv_at hl 2 rfl) ?_
        refine m_za (j := x1.toNatClampNeg) X hSt hP m_z_190 hg37 rfl dX8_askOf_46 ?_
        refine lv_if_eq (tgt := 56) X.1 X.2.1 dX8_askOf_47 (by decide) (fun hc40 => ?_) (fun hc40 => ?_)
        · have hres := m_it hres hc40
          refine lv_lconst (v := 0) X.1 X.2.1 dX8_askOf_56 (by decide) ?_
          obtain ⟨M41, eM41, hres⟩ := m_bd_e hres
          refine m_pl8 X hSt hP hS m_z_172 46 (by decide) eM41 rfl rfl (by decide) k_f_X8_367 dX8_askOf_57 (fun H locs hP hS => ?_)
          refine lv_goto (tgt := 246) X.1 X.2.1 dX8_askOf_60 (by decide) ?_
          exact m_rv X hr hlk hP hS (Option.some.inj hres) dX8_askOf_246
        · have hres := m_if hres hc40
          refine lv_iload X.1 X.2.1 dX8_askOf_50 (lv_at hl 0 rfl) ?_
          refine lv_i2l (v := r17.toInt64) X.1 X.2.1 dX8_askOf_52 rfl ?_
          refine lv_goto (tgt := 57) X.1 X.2.1 dX8_askOf_53 (by decide) ?_
          obtain ⟨M42, eM42, hres⟩ := m_bd_e hres
          refine m_pl8 X hSt hP hS m_z_172 46 (by decide) eM42 rfl rfl (by decide) k_f_X8_367 dX8_askOf_57 (fun H locs hP hS => ?_)
          refine lv_goto (tgt := 246) X.1 X.2.1 dX8_askOf_60 (by decide) ?_
          exact m_rv X hr hlk hP hS (Option.some.inj hres) dX8_askOf_246
  · have hres := m_it hres hc16
    exact m_rv X hr hlk hP hS (Option.some.inj hres) dX8_askOf_19
theorem dX8_tell_0 : decode cX8_tell 0 = .ok (.lload_n 1, 1) := by decide +kernel
theorem dX8_tell_1 : decode cX8_tell 1 = .ok (.lstore 5, 2) := by decide +kernel
theorem dX8_tell_3 : decode cX8_tell 3 = .ok (.lload_n 3, 1) := by decide +kernel
theorem dX8_tell_4 : decode cX8_tell 4 = .ok (.lstore 7, 2) := by decide +kernel
theorem dX8_tell_6 : decode cX8_tell 6 = .ok (.lload 7, 2) := by decide +kernel
theorem dX8_tell_8 : decode cX8_tell 8 = .ok (.lconst 0, 1) := by decide +kernel
theorem dX8_tell_9 : decode cX8_tell 9 = .ok (.lcmp, 1) := by decide +kernel
theorem dX8_tell_10 : decode cX8_tell 10 = .ok (.ifCond .eq 21, 3) := by decide +kernel
theorem dX8_tell_13 : decode cX8_tell 13 = .ok (.lload 5, 2) := by decide +kernel
theorem dX8_tell_15 : decode cX8_tell 15 = .ok (.lload 7, 2) := by decide +kernel
theorem dX8_tell_17 : decode cX8_tell 17 = .ok (.lrem, 1) := by decide +kernel
theorem dX8_tell_18 : decode cX8_tell 18 = .ok (.lstore 9, 2) := by decide +kernel
theorem dX8_tell_20 : decode cX8_tell 20 = .ok (.lload 7, 2) := by decide +kernel
theorem dX8_tell_22 : decode cX8_tell 22 = .ok (.lstore 5, 2) := by decide +kernel
theorem dX8_tell_24 : decode cX8_tell 24 = .ok (.lload 9, 2) := by decide +kernel
theorem dX8_tell_26 : decode cX8_tell 26 = .ok (.lstore 7, 2) := by decide +kernel
theorem dX8_tell_28 : decode cX8_tell 28 = .ok (.goto (-22), 3) := by decide +kernel
theorem dX8_tell_31 : decode cX8_tell 31 = .ok (.aload_n 0, 1) := by decide +kernel
theorem dX8_tell_32 : decode cX8_tell 32 = .ok (.lload_n 1, 1) := by decide +kernel
theorem dX8_tell_33 : decode cX8_tell 33 = .ok (.lload 5, 2) := by decide +kernel
theorem dX8_tell_35 : decode cX8_tell 35 = .ok (.ldiv, 1) := by decide +kernel
theorem dX8_tell_36 : decode cX8_tell 36 = .ok (.putfield 386, 3) := by decide +kernel
theorem dX8_tell_39 : decode cX8_tell 39 = .ok (.aload_n 0, 1) := by decide +kernel
theorem dX8_tell_40 : decode cX8_tell 40 = .ok (.lload_n 3, 1) := by decide +kernel
theorem dX8_tell_41 : decode cX8_tell 41 = .ok (.lload 5, 2) := by decide +kernel
theorem dX8_tell_43 : decode cX8_tell 43 = .ok (.ldiv, 1) := by decide +kernel
theorem dX8_tell_44 : decode cX8_tell 44 = .ok (.putfield 23, 3) := by decide +kernel
theorem dX8_tell_47 : decode cX8_tell 47 = .ok (.return_, 1) := by decide +kernel
def f_X8_tell_b6 (n : Nat) (x1 : Int64) (x3 : Int64) : Nat → Int64 → Int64 → m_M → Option m_M
  | 0, _, _, _ => none
  | u + 1, x5, x7, M =>
    if x7 = 0 then
  m_gd (¬ x5 = 0) (
  m_bd (m_sL M 172 5 (x1 / x5)) fun M3 =>
  m_gd (¬ x5 = 0) (
  m_bd (m_sL M3 172 6 (x3 / x5)) fun M5 =>
  some M5))
  else
  m_gd (¬ x7 = 0) (
  f_X8_tell_b6 n x1 x3 u x7 (x5 - x5 / x7 * x7) M)
def f_X8_tell (n : Nat) (x1 : Int64) (x3 : Int64) (M : m_M) : Option m_M :=
  f_X8_tell_b6 n x1 x3 n x1 x3 M
set_option maxHeartbeats 4000000 in
set_option maxRecDepth 100000 in
theorem c_X8_tell (l : Launch) (G : m_G) {n : Nat} {x1 : Int64} {x3 : Int64} {M : m_M} {M0 : m_M}  (hres : f_X8_tell n x1 x3 M = some M0) : Met l yX8_tell (m_U yX8_tell cX8_tell 11 none) (m_R 0 0) (m_Pc G [.ref (m_ad G 172), .long x1, .long x3] M) (m_Qv G M0) 0 0 (m_A G) := by
  refine m_i0 (n := 11) RX8 rfl (by decide) (Nat.le_of_ble_eq_true rfl) ?_
  intro p e s m args below meth c X hr hlk hSt hP hS ls hl
  have hl : lv_has ls 11 [(0, .ref (m_ad G 172)), (1, .long x1), (3, .long x3)] := hl
  have B6 : ∀ (u : Nat) (x5 : Int64) (x7 : Int64) (M : m_M) (H : Heap) (locs : List Loc) (ls : Array Slot), m_P G M H → va_S (m_A G) s.heap H locs → lv_has ls 11 [(0, .ref (m_ad G 172)), (1, .long x1), (3, .long x3), (5, .long x5), (7, .long x7)] → f_X8_tell_b6 n x1 x3 u x5 x7 M = some M0 → W p l e (m_R 0 0) s m args below meth c H locs 0 0 (MQ below (m_Qv G M0) args s 0 0 (m_A G)) (F0 m 6 ls []) := by
    intro u
    induction u with
    | zero =>
      intro x5 x7 M H locs ls hP hS hl hres
      cases hres
    | succ u ih =>
      intro x5 x7 M H locs ls hP hS hl hres
      rw [f_X8_tell_b6] at hres
      refine lv_lload X.1 X.2.1 dX8_tell_6 (lv_at hl 4 rfl) ?_
      refine lv_lconst (v := 0) X.1 X.2.1 dX8_tell_8 (by decide) ?_
      refine m_leq (tgt := 31) X dX8_tell_9 dX8_tell_10 (by decide) (fun hc1 => ?_) (fun hc1 => ?_)
      · have hres := m_it hres hc1
        refine lv_aload_n X.1 X.2.1 dX8_tell_31 rfl (lv_at hl 0 rfl) ?_
        refine lv_lload_n X.1 X.2.1 dX8_tell_32 rfl (lv_at hl 1 rfl) ?_
        refine lv_lload X.1 X.2.1 dX8_tell_33 (lv_at hl 3 rfl) ?_
        obtain ⟨hg2, hres⟩ := m_gd_e hres
        refine lv_ldiv X.1 X.2.1 dX8_tell_35 hg2 ?_
        obtain ⟨M3, eM3, hres⟩ := m_bd_e hres
        refine m_pl8 X hSt hP hS m_z_172 5 (by decide) eM3 rfl rfl (by decide) k_f_X8_386 dX8_tell_36 (fun H locs hP hS => ?_)
        refine lv_aload_n X.1 X.2.1 dX8_tell_39 rfl (lv_at hl 0 rfl) ?_
        refine lv_lload_n X.1 X.2.1 dX8_tell_40 rfl (lv_at hl 2 rfl) ?_
        refine lv_lload X.1 X.2.1 dX8_tell_41 (lv_at hl 3 rfl) ?_
        obtain ⟨hg4, hres⟩ := m_gd_e hres
        refine lv_ldiv X.1 X.2.1 dX8_tell_43 hg4 ?_
        obtain ⟨M5, eM5, hres⟩ := m_bd_e hres
        refine m_pl8 X hSt hP hS m_z_172 6 (by decide) eM5 rfl rfl (by decide) k_f_X8_23 dX8_tell_44 (fun H locs hP hS => ?_)
        exact m_rv X hr hlk hP hS (Option.some.inj hres) dX8_tell_47
      · have hres := m_if hres hc1
        refine lv_lload X.1 X.2.1 dX8_tell_13 (lv_at hl 3 rfl) ?_
        refine lv_lload X.1 X.2.1 dX8_tell_15 (lv_at hl 4 rfl) ?_
        obtain ⟨hg6, hres⟩ := m_gd_e hres
        refine lv_lrem X.1 X.2.1 dX8_tell_17 hg6 ?_
        refine lv_lstore (lv' := [(9, .long (x5 - x5 / x7 * x7)), (0, .ref (m_ad G 172)), (1, .long x1), (3, .long x3), (5, .long x5), (7, .long x7)]) X.1 X.2.1 dX8_tell_18 hl (by decide) rfl (fun ls hl => ?_)
        refine lv_lload X.1 X.2.1 dX8_tell_20 (lv_at hl 5 rfl) ?_
        refine lv_lstore (lv' := [(5, .long x7), (9, .long (x5 - x5 / x7 * x7)), (0, .ref (m_ad G 172)), (1, .long x1), (3, .long x3), (7, .long x7)]) X.1 X.2.1 dX8_tell_22 hl (by decide) rfl (fun ls hl => ?_)
        refine lv_lload X.1 X.2.1 dX8_tell_24 (lv_at hl 1 rfl) ?_
        refine lv_lstore (lv' := [(7, .long (x5 - x5 / x7 * x7)), (5, .long x7), (9, .long (x5 - x5 / x7 * x7)), (0, .ref (m_ad G 172)), (1, .long x1), (3, .long x3)]) X.1 X.2.1 dX8_tell_26 hl (by decide) rfl (fun ls hl => ?_)
        refine lv_goto (tgt := 6) X.1 X.2.1 dX8_tell_28 (by decide) ?_
        exact ih x7 (x5 - x5 / x7 * x7) M _ _ _ hP hS (lv_sub hl [3, 4, 5, 1, 0] rfl) hres
  unfold f_X8_tell at hres
  refine lv_lload_n X.1 X.2.1 dX8_tell_0 rfl (lv_at hl 1 rfl) ?_
  refine lv_lstore (lv' := [(5, .long x1), (0, .ref (m_ad G 172)), (1, .long x1), (3, .long x3)]) X.1 X.2.1 dX8_tell_1 hl (by decide) rfl (fun ls hl => ?_)
  refine lv_lload_n X.1 X.2.1 dX8_tell_3 rfl (lv_at hl 3 rfl) ?_
  refine lv_lstore (lv' := [(7, .long x3), (5, .long x1), (0, .ref (m_ad G 172)), (1, .long x1), (3, .long x3)]) X.1 X.2.1 dX8_tell_4 hl (by decide) rfl (fun ls hl => ?_)
  exact B6 n x1 x3 M _ _ _ hP hS (lv_sub hl [2, 3, 4, 1, 0] rfl) hres
theorem dX8_ask_0 : decode cX8_ask 0 = .ok (.aload_n 0, 1) := by decide +kernel
theorem dX8_ask_1 : decode cX8_ask 1 = .ok (.iload_n 1, 1) := by decide +kernel
theorem dX8_ask_2 : decode cX8_ask 2 = .ok (.iload_n 3, 1) := by decide +kernel
theorem dX8_ask_3 : decode cX8_ask 3 = .ok (.invokevirtual 355, 3) := by decide +kernel
theorem dX8_ask_6 : decode cX8_ask 6 = .ok (.ifCond .eq 10, 3) := by decide +kernel
theorem dX8_ask_9 : decode cX8_ask 9 = .ok (.iload_n 2, 1) := by decide +kernel
theorem dX8_ask_10 : decode cX8_ask 10 = .ok (.invokestatic 389, 3) := by decide +kernel
theorem dX8_ask_13 : decode cX8_ask 13 = .ok (.ifCond .ne 6, 3) := by decide +kernel
theorem dX8_ask_16 : decode cX8_ask 16 = .ok (.bipush (-2), 2) := by decide +kernel
theorem dX8_ask_18 : decode cX8_ask 18 = .ok (.ireturn, 1) := by decide +kernel
theorem dX8_ask_19 : decode cX8_ask 19 = .ok (.aload_n 0, 1) := by decide +kernel
theorem dX8_ask_20 : decode cX8_ask 20 = .ok (.iload_n 1, 1) := by decide +kernel
theorem dX8_ask_21 : decode cX8_ask 21 = .ok (.iload_n 3, 1) := by decide +kernel
theorem dX8_ask_22 : decode cX8_ask 22 = .ok (.invokevirtual 358, 3) := by decide +kernel
theorem dX8_ask_25 : decode cX8_ask 25 = .ok (.ifCond .eq 6, 3) := by decide +kernel
theorem dX8_ask_28 : decode cX8_ask 28 = .ok (.bipush (-3), 2) := by decide +kernel
theorem dX8_ask_30 : decode cX8_ask 30 = .ok (.ireturn, 1) := by decide +kernel
theorem dX8_ask_31 : decode cX8_ask 31 = .ok (.aload_n 0, 1) := by decide +kernel
theorem dX8_ask_32 : decode cX8_ask 32 = .ok (.iload_n 3, 1) := by decide +kernel
theorem dX8_ask_33 : decode cX8_ask 33 = .ok (.invokevirtual 350, 3) := by decide +kernel
theorem dX8_ask_36 : decode cX8_ask 36 = .ok (.aload_n 0, 1) := by decide +kernel
theorem dX8_ask_37 : decode cX8_ask 37 = .ok (.iload_n 1, 1) := by decide +kernel
theorem dX8_ask_38 : decode cX8_ask 38 = .ok (.iload_n 2, 1) := by decide +kernel
theorem dX8_ask_39 : decode cX8_ask 39 = .ok (.iconst 0, 1) := by decide +kernel
theorem dX8_ask_40 : decode cX8_ask 40 = .ok (.invokevirtual 392, 3) := by decide +kernel
theorem dX8_ask_43 : decode cX8_ask 43 = .ok (.aload_n 0, 1) := by decide +kernel
theorem dX8_ask_44 : decode cX8_ask 44 = .ok (.aload_n 0, 1) := by decide +kernel
theorem dX8_ask_45 : decode cX8_ask 45 = .ok (.getfield 367, 3) := by decide +kernel
theorem dX8_ask_48 : decode cX8_ask 48 = .ok (.aload_n 0, 1) := by decide +kernel
theorem dX8_ask_49 : decode cX8_ask 49 = .ok (.getfield 370, 3) := by decide +kernel
theorem dX8_ask_52 : decode cX8_ask 52 = .ok (.invokevirtual 396, 3) := by decide +kernel
theorem dX8_ask_55 : decode cX8_ask 55 = .ok (.iconst 1, 1) := by decide +kernel
theorem dX8_ask_56 : decode cX8_ask 56 = .ok (.ireturn, 1) := by decide +kernel
def f_X8_ask (n : Nat) (x1 : Int32) (x2 : Int32) (x3 : Int32) (M : m_M) : Option (Int32 × m_M) :=
  m_o2 (f_X8_isAsked n x1 x3 M) fun r1 M2 =>
  if r1 = 0 then
  some ((-2), M2)
  else
  m_bd (f_X8_isAsk x2) fun r5 =>
  if r5 = 0 then
  some ((-2), M2)
  else
  m_ob (f_X8_isEarly x1 x3 M2) fun r8 =>
  if r8 = 0 then
  m_ob (f_X8_layToday n x3 M2) fun M11 =>
  m_ob (f_X8_askOf n x1 x2 0 M11) fun M12 =>
  m_ob (f_X8_tell n (M12.2 172 46) (M12.2 172 47) M12) fun M13 =>
  some (1, M13)
  else
  some ((-3), M2)
set_option maxHeartbeats 4000000 in
set_option maxRecDepth 100000 in
theorem c_X8_ask (l : Launch) (G : m_G) {n : Nat} {x1 : Int32} {x2 : Int32} {x3 : Int32} {M : m_M} {r0 : Int32} {M0 : m_M}  (hres : f_X8_ask n x1 x2 x3 M = some (r0, M0)) : Met l yX8_ask (m_U yX8_ask cX8_ask 4 (some .int)) (m_R 8 182) (m_Pc G [.ref (m_ad G 172), .int x1, .int x2, .int x3] M) (m_Qi G r0 M0) 0 0 (m_A G) := by
  refine m_i0 (n := 4) RX8 rfl (by decide) (Nat.le_of_ble_eq_true rfl) ?_
  intro p e s m args below meth c X hr hlk hSt hP hS ls hl
  have hl : lv_has ls 4 [(0, .ref (m_ad G 172)), (1, .int x1), (2, .int x2), (3, .int x3)] := hl
  unfold f_X8_ask at hres
  refine lv_aload_n X.1 X.2.1 dX8_ask_0 rfl (lv_at hl 0 rfl) ?_
  refine lv_iload_n X.1 X.2.1 dX8_ask_1 rfl (lv_at hl 1 rfl) ?_
  refine lv_iload_n X.1 X.2.1 dX8_ask_2 rfl (lv_at hl 3 rfl) ?_
  obtain ⟨r1, M2, err1, hres⟩ := m_o2_e hres
  refine m_bz (m_cV (n := 2) (As := [.int x1, .int x3]) (rest := []) X hSt hP hS hl.1 (c_X8_isAsked l G  err1) k_c_yX8_isAsked k_m_X8_355 k_i_yX8_isAsked k_s_yX8_isAsked k_n_X8 (by decide +kernel) (m_rc8 hSt hP m_z_172) rfl rfl ⟨Nat.le_of_ble_eq_true rfl, Nat.le_of_ble_eq_true rfl⟩ (Nat.le_of_ble_eq_true rfl) ⟨Nat.zero_le _, Nat.zero_le _⟩ dX8_ask_3) hS (fun H locs hP hS hz3 => ?_)
  refine lv_if_eq (tgt := 16) X.1 X.2.1 dX8_ask_6 (by decide) (fun hc4 => ?_) (fun hc4 => ?_)
  · have hres := m_it hres hc4
    refine lv_bipush (v := (-2)) X.1 X.2.1 dX8_ask_16 (by decide) ?_
    exact m_ri X hr hlk hP hS (Prod.mk.inj (Option.some.inj hres)).1 (Prod.mk.inj (Option.some.inj hres)).2 dX8_ask_18
  · have hres := m_if hres hc4
    refine lv_iload_n X.1 X.2.1 dX8_ask_9 rfl (lv_at hl 2 rfl) ?_
    obtain ⟨r5, err5, hres⟩ := m_bd_e hres
    refine m_bz (m_cS (n := 1) (As := [.int x2]) (rest := []) X hSt hP hS hl.1 (c_X8_isAsk l G (M := M2)  err5) k_c_yX8_isAsk k_m_X8_389 k_t_yX8_isAsk k_n_X8 (by decide +kernel) rfl rfl ⟨Nat.le_of_ble_eq_true rfl, Nat.le_of_ble_eq_true rfl⟩ (Nat.le_of_ble_eq_true rfl) ⟨Nat.zero_le _, Nat.zero_le _⟩ dX8_ask_10) hS (fun H locs hP hS hz6 => ?_)
    refine lv_if_ne (tgt := 19) X.1 X.2.1 dX8_ask_13 (by decide) (fun hc7 => ?_) (fun hc7 => ?_)
    · have hres := m_if hres hc7
      refine lv_aload_n X.1 X.2.1 dX8_ask_19 rfl (lv_at hl 0 rfl) ?_
      refine lv_iload_n X.1 X.2.1 dX8_ask_20 rfl (lv_at hl 1 rfl) ?_
      refine lv_iload_n X.1 X.2.1 dX8_ask_21 rfl (lv_at hl 3 rfl) ?_
      obtain ⟨r8, err8, hres⟩ := m_ob_e hres
      refine m_bz (m_cV (n := 2) (As := [.int x1, .int x3]) (rest := []) X hSt hP hS hl.1 (c_X8_isEarly l G  err8) k_c_yX8_isEarly k_m_X8_358 k_i_yX8_isEarly k_s_yX8_isEarly k_n_X8 (by decide +kernel) (m_rc8 hSt hP m_z_172) rfl rfl ⟨Nat.le_of_ble_eq_true rfl, Nat.le_of_ble_eq_true rfl⟩ (Nat.le_of_ble_eq_true rfl) ⟨Nat.zero_le _, Nat.zero_le _⟩ dX8_ask_22) hS (fun H locs hP hS hz9 => ?_)
      refine lv_if_eq (tgt := 31) X.1 X.2.1 dX8_ask_25 (by decide) (fun hc10 => ?_) (fun hc10 => ?_)
      · have hres := m_it hres hc10
        refine lv_aload_n X.1 X.2.1 dX8_ask_31 rfl (lv_at hl 0 rfl) ?_
        refine lv_iload_n X.1 X.2.1 dX8_ask_32 rfl (lv_at hl 3 rfl) ?_
        obtain ⟨M11, eM11, hres⟩ := m_ob_e hres
        refine m_bv (m_cV (n := 1) (As := [.int x3]) (rest := []) X hSt hP hS hl.1 (c_X8_layToday l G  eM11) k_c_yX8_layToday k_m_X8_350 k_i_yX8_layToday k_s_yX8_layToday k_n_X8 (by decide +kernel) (m_rc8 hSt hP m_z_172) rfl rfl ⟨Nat.le_of_ble_eq_true rfl, Nat.le_of_ble_eq_true rfl⟩ (Nat.le_of_ble_eq_true rfl) ⟨Nat.zero_le _, Nat.zero_le _⟩ dX8_ask_33) hS (fun H locs hP hS => ?_)
        refine lv_aload_n X.1 X.2.1 dX8_ask_36 rfl (lv_at hl 0 rfl) ?_
        refine lv_iload_n X.1 X.2.1 dX8_ask_37 rfl (lv_at hl 1 rfl) ?_
        refine lv_iload_n X.1 X.2.1 dX8_ask_38 rfl (lv_at hl 2 rfl) ?_
        refine lv_iconst (v := 0) X.1 X.2.1 dX8_ask_39 (by decide) ?_
        obtain ⟨M12, eM12, hres⟩ := m_ob_e hres
        refine m_bv (m_cV (n := 3) (As := [.int x1, .int x2, .int 0]) (rest := []) X hSt hP hS hl.1 (c_X8_askOf l G  eM12) k_c_yX8_askOf k_m_X8_392 k_i_yX8_askOf k_s_yX8_askOf k_n_X8 (by decide +kernel) (m_rc8 hSt hP m_z_172) rfl rfl ⟨Nat.le_of_ble_eq_true rfl, Nat.le_of_ble_eq_true rfl⟩ (Nat.le_of_ble_eq_true rfl) ⟨Nat.zero_le _, Nat.zero_le _⟩ dX8_ask_40) hS (fun H locs hP hS => ?_)
        refine lv_aload_n X.1 X.2.1 dX8_ask_43 rfl (lv_at hl 0 rfl) ?_
        refine lv_aload_n X.1 X.2.1 dX8_ask_44 rfl (lv_at hl 0 rfl) ?_
        refine m_g8 (v := .long (M12.2 172 46)) X hSt hP m_z_172 46 (by decide) rfl k_f_X8_367 dX8_ask_45 ?_
        refine lv_aload_n X.1 X.2.1 dX8_ask_48 rfl (lv_at hl 0 rfl) ?_
        refine m_g8 (v := .long (M12.2 172 47)) X hSt hP m_z_172 47 (by decide) rfl k_f_X8_370 dX8_ask_49 ?_
        obtain ⟨M13, eM13, hres⟩ := m_ob_e hres
        refine m_bv (m_cV (n := 2) (As := [.long (M12.2 172 46), .long (M12.2 172 47)]) (rest := []) X hSt hP hS hl.1 (c_X8_tell l G  eM13) k_c_yX8_tell k_m_X8_396 k_i_yX8_tell k_s_yX8_tell k_n_X8 (by decide +kernel) (m_rc8 hSt hP m_z_172) rfl rfl ⟨Nat.le_of_ble_eq_true rfl, Nat.le_of_ble_eq_true rfl⟩ (Nat.le_of_ble_eq_true rfl) ⟨Nat.zero_le _, Nat.zero_le _⟩ dX8_ask_52) hS (fun H locs hP hS => ?_)
        refine lv_iconst (v := 1) X.1 X.2.1 dX8_ask_55 (by decide) ?_
        exact m_ri X hr hlk hP hS (Prod.mk.inj (Option.some.inj hres)).1 (Prod.mk.inj (Option.some.inj hres)).2 dX8_ask_56
      · have hres := m_if hres hc10
        refine lv_bipush (v := (-3)) X.1 X.2.1 dX8_ask_28 (by decide) ?_
        exact m_ri X hr hlk hP hS (Prod.mk.inj (Option.some.inj hres)).1 (Prod.mk.inj (Option.some.inj hres)).2 dX8_ask_30
    · have hres := m_it hres hc7
      refine lv_bipush (v := (-2)) X.1 X.2.1 dX8_ask_16 (by decide) ?_
      exact m_ri X hr hlk hP hS (Prod.mk.inj (Option.some.inj hres)).1 (Prod.mk.inj (Option.some.inj hres)).2 dX8_ask_18
theorem dX8_best_0 : decode cX8_best 0 = .ok (.aload_n 0, 1) := by decide +kernel
theorem dX8_best_1 : decode cX8_best 1 = .ok (.iload_n 1, 1) := by decide +kernel
theorem dX8_best_2 : decode cX8_best 2 = .ok (.iload_n 2, 1) := by decide +kernel
theorem dX8_best_3 : decode cX8_best 3 = .ok (.invokevirtual 355, 3) := by decide +kernel
theorem dX8_best_6 : decode cX8_best 6 = .ok (.ifCond .ne 6, 3) := by decide +kernel
theorem dX8_best_9 : decode cX8_best 9 = .ok (.bipush (-10), 2) := by decide +kernel
theorem dX8_best_11 : decode cX8_best 11 = .ok (.ireturn, 1) := by decide +kernel
theorem dX8_best_12 : decode cX8_best 12 = .ok (.aload_n 0, 1) := by decide +kernel
theorem dX8_best_13 : decode cX8_best 13 = .ok (.iload_n 1, 1) := by decide +kernel
theorem dX8_best_14 : decode cX8_best 14 = .ok (.iload_n 2, 1) := by decide +kernel
theorem dX8_best_15 : decode cX8_best 15 = .ok (.invokevirtual 358, 3) := by decide +kernel
theorem dX8_best_18 : decode cX8_best 18 = .ok (.ifCond .eq 6, 3) := by decide +kernel
theorem dX8_best_21 : decode cX8_best 21 = .ok (.bipush (-20), 2) := by decide +kernel
theorem dX8_best_23 : decode cX8_best 23 = .ok (.ireturn, 1) := by decide +kernel
theorem dX8_best_24 : decode cX8_best 24 = .ok (.aload_n 0, 1) := by decide +kernel
theorem dX8_best_25 : decode cX8_best 25 = .ok (.iload_n 2, 1) := by decide +kernel
theorem dX8_best_26 : decode cX8_best 26 = .ok (.invokevirtual 350, 3) := by decide +kernel
theorem dX8_best_29 : decode cX8_best 29 = .ok (.iconst (-1), 1) := by decide +kernel
theorem dX8_best_30 : decode cX8_best 30 = .ok (.istore_n 3, 1) := by decide +kernel
theorem dX8_best_31 : decode cX8_best 31 = .ok (.lconst 0, 1) := by decide +kernel
theorem dX8_best_32 : decode cX8_best 32 = .ok (.lstore 4, 2) := by decide +kernel
theorem dX8_best_34 : decode cX8_best 34 = .ok (.lconst 1, 1) := by decide +kernel
theorem dX8_best_35 : decode cX8_best 35 = .ok (.lstore 6, 2) := by decide +kernel
theorem dX8_best_37 : decode cX8_best 37 = .ok (.iconst 0, 1) := by decide +kernel
theorem dX8_best_38 : decode cX8_best 38 = .ok (.istore 8, 2) := by decide +kernel
theorem dX8_best_40 : decode cX8_best 40 = .ok (.iload 8, 2) := by decide +kernel
theorem dX8_best_42 : decode cX8_best 42 = .ok (.iconst 3, 1) := by decide +kernel
theorem dX8_best_43 : decode cX8_best 43 = .ok (.if_icmp .gt 50, 3) := by decide +kernel
theorem dX8_best_46 : decode cX8_best 46 = .ok (.aload_n 0, 1) := by decide +kernel
theorem dX8_best_47 : decode cX8_best 47 = .ok (.iload_n 1, 1) := by decide +kernel
theorem dX8_best_48 : decode cX8_best 48 = .ok (.iload 8, 2) := by decide +kernel
theorem dX8_best_50 : decode cX8_best 50 = .ok (.iconst 0, 1) := by decide +kernel
theorem dX8_best_51 : decode cX8_best 51 = .ok (.invokevirtual 392, 3) := by decide +kernel
theorem dX8_best_54 : decode cX8_best 54 = .ok (.aload_n 0, 1) := by decide +kernel
theorem dX8_best_55 : decode cX8_best 55 = .ok (.getfield 367, 3) := by decide +kernel
theorem dX8_best_58 : decode cX8_best 58 = .ok (.lload 6, 2) := by decide +kernel
theorem dX8_best_60 : decode cX8_best 60 = .ok (.lmul, 1) := by decide +kernel
theorem dX8_best_61 : decode cX8_best 61 = .ok (.lload 4, 2) := by decide +kernel
theorem dX8_best_63 : decode cX8_best 63 = .ok (.aload_n 0, 1) := by decide +kernel
theorem dX8_best_64 : decode cX8_best 64 = .ok (.getfield 370, 3) := by decide +kernel
theorem dX8_best_67 : decode cX8_best 67 = .ok (.lmul, 1) := by decide +kernel
theorem dX8_best_68 : decode cX8_best 68 = .ok (.lcmp, 1) := by decide +kernel
theorem dX8_best_69 : decode cX8_best 69 = .ok (.ifCond .le 18, 3) := by decide +kernel
theorem dX8_best_72 : decode cX8_best 72 = .ok (.iload 8, 2) := by decide +kernel
theorem dX8_best_74 : decode cX8_best 74 = .ok (.istore_n 3, 1) := by decide +kernel
theorem dX8_best_75 : decode cX8_best 75 = .ok (.aload_n 0, 1) := by decide +kernel
theorem dX8_best_76 : decode cX8_best 76 = .ok (.getfield 367, 3) := by decide +kernel
theorem dX8_best_79 : decode cX8_best 79 = .ok (.lstore 4, 2) := by decide +kernel
theorem dX8_best_81 : decode cX8_best 81 = .ok (.aload_n 0, 1) := by decide +kernel
theorem dX8_best_82 : decode cX8_best 82 = .ok (.getfield 370, 3) := by decide +kernel
theorem dX8_best_85 : decode cX8_best 85 = .ok (.lstore 6, 2) := by decide +kernel
theorem dX8_best_87 : decode cX8_best 87 = .ok (.iinc 8 1, 3) := by decide +kernel
theorem dX8_best_90 : decode cX8_best 90 = .ok (.goto (-50), 3) := by decide +kernel
theorem dX8_best_93 : decode cX8_best 93 = .ok (.iload_n 3, 1) := by decide +kernel
theorem dX8_best_94 : decode cX8_best 94 = .ok (.ireturn, 1) := by decide +kernel
def f_X8_best_b40 (n : Nat) (x1 : Int32) (x2 : Int32) : Nat → Int32 → Int64 → Int64 → Int32 → m_M → Option (Int32 × m_M)
  | 0, _, _, _, _, _ => none
  | u + 1, x3, x4, x6, x8, M =>
    if (3 : Int32) < x8 then
  some (x3, M)
  else
  m_ob (f_X8_askOf n x1 x8 0 M) fun M2 =>
  if ((M2.2 172 46) * x6) ≤ (x4 * (M2.2 172 47)) then
  f_X8_best_b40 n x1 x2 u x3 x4 x6 (x8 + 1) M2
  else
  f_X8_best_b40 n x1 x2 u x8 (M2.2 172 46) (M2.2 172 47) (x8 + 1) M2
def f_X8_best (n : Nat) (x1 : Int32) (x2 : Int32) (M : m_M) : Option (Int32 × m_M) :=
  m_o2 (f_X8_isAsked n x1 x2 M) fun r4 M5 =>
  if r4 = 0 then
  some ((-10), M5)
  else
  m_ob (f_X8_isEarly x1 x2 M5) fun r8 =>
  if r8 = 0 then
  m_ob (f_X8_layToday n x2 M5) fun M11 =>
  f_X8_best_b40 n x1 x2 n (-1) 0 1 0 M11
  else
  some ((-20), M5)
set_option maxHeartbeats 4000000 in
set_option maxRecDepth 100000 in
theorem c_X8_best (l : Launch) (G : m_G) {n : Nat} {x1 : Int32} {x2 : Int32} {M : m_M} {r0 : Int32} {M0 : m_M}  (hres : f_X8_best n x1 x2 M = some (r0, M0)) : Met l yX8_best (m_U yX8_best cX8_best 9 (some .int)) (m_R 8 182) (m_Pc G [.ref (m_ad G 172), .int x1, .int x2] M) (m_Qi G r0 M0) 0 0 (m_A G) := by
  refine m_i0 (n := 9) RX8 rfl (by decide) (Nat.le_of_ble_eq_true rfl) ?_
  intro p e s m args below meth c X hr hlk hSt hP hS ls hl
  have hl : lv_has ls 9 [(0, .ref (m_ad G 172)), (1, .int x1), (2, .int x2)] := hl
  have B40 : ∀ (u : Nat) (x3 : Int32) (x4 : Int64) (x6 : Int64) (x8 : Int32) (M : m_M) (H : Heap) (locs : List Loc) (ls : Array Slot), m_P G M H → va_S (m_A G) s.heap H locs → lv_has ls 9 [(0, .ref (m_ad G 172)), (1, .int x1), (3, .int x3), (4, .long x4), (6, .long x6), (8, .int x8)] → f_X8_best_b40 n x1 x2 u x3 x4 x6 x8 M = some (r0, M0) → W p l e (m_R 8 182) s m args below meth c H locs 0 0 (MQ below (m_Qi G r0 M0) args s 0 0 (m_A G)) (F0 m 40 ls []) := by
    intro u
    induction u with
    | zero =>
      intro x3 x4 x6 x8 M H locs ls hP hS hl hres
      cases hres
    | succ u ih =>
      intro x3 x4 x6 x8 M H locs ls hP hS hl hres
      rw [f_X8_best_b40] at hres
      refine lv_iload X.1 X.2.1 dX8_best_40 (lv_at hl 5 rfl) ?_
      refine lv_iconst (v := 3) X.1 X.2.1 dX8_best_42 (by decide) ?_
      refine lv_icmp_gt (tgt := 93) X.1 X.2.1 dX8_best_43 (by decide) (fun hc1 => ?_) (fun hc1 => ?_)
      · have hres := m_it hres hc1
        refine lv_iload_n X.1 X.2.1 dX8_best_93 rfl (lv_at hl 2 rfl) ?_
        exact m_ri X hr hlk hP hS (Prod.mk.inj (Option.some.inj hres)).1 (Prod.mk.inj (Option.some.inj hres)).2 dX8_best_94
      · have hres := m_if hres hc1
        refine lv_aload_n X.1 X.2.1 dX8_best_46 rfl (lv_at hl 0 rfl) ?_
        refine lv_iload_n X.1 X.2.1 dX8_best_47 rfl (lv_at hl 1 rfl) ?_
        refine lv_iload X.1 X.2.1 dX8_best_48 (lv_at hl 5 rfl) ?_
        refine lv_iconst (v := 0) X.1 X.2.1 dX8_best_50 (by decide) ?_
        obtain ⟨M2, eM2, hres⟩ := m_ob_e hres
        refine m_bv (m_cV (n := 3) (As := [.int x1, .int x8, .int 0]) (rest := []) X hSt hP hS hl.1 (c_X8_askOf l G  eM2) k_c_yX8_askOf k_m_X8_392 k_i_yX8_askOf k_s_yX8_askOf k_n_X8 (by decide +kernel) (m_rc8 hSt hP m_z_172) rfl rfl ⟨Nat.le_of_ble_eq_true rfl, Nat.le_of_ble_eq_true rfl⟩ (Nat.le_of_ble_eq_true rfl) ⟨Nat.zero_le _, Nat.zero_le _⟩ dX8_best_51) hS (fun H locs hP hS => ?_)
        refine lv_aload_n X.1 X.2.1 dX8_best_54 rfl (lv_at hl 0 rfl) ?_
        refine m_g8 (v := .long (M2.2 172 46)) X hSt hP m_z_172 46 (by decide) rfl k_f_X8_367 dX8_best_55 ?_
        refine lv_lload X.1 X.2.1 dX8_best_58 (lv_at hl 4 rfl) ?_
        refine lv_lmul X.1 X.2.1 dX8_best_60 ?_
        refine lv_lload X.1 X.2.1 dX8_best_61 (lv_at hl 3 rfl) ?_
        refine lv_aload_n X.1 X.2.1 dX8_best_63 rfl (lv_at hl 0 rfl) ?_
        refine m_g8 (v := .long (M2.2 172 47)) X hSt hP m_z_172 47 (by decide) rfl k_f_X8_370 dX8_best_64 ?_
        refine lv_lmul X.1 X.2.1 dX8_best_67 ?_
        refine m_lle (tgt := 87) X dX8_best_68 dX8_best_69 (by decide) (fun hc3 => ?_) (fun hc3 => ?_)
        · have hres := m_it hres hc3
          refine lv_iinc (v := (x8 + 1)) (lv' := [(8, .int (x8 + 1)), (0, .ref (m_ad G 172)), (1, .int x1), (3, .int x3), (4, .long x4), (6, .long x6)]) X.1 X.2.1 dX8_best_87 hl (k := 5) rfl rfl (by decide) rfl (fun ls hl => ?_)
          refine lv_goto (tgt := 40) X.1 X.2.1 dX8_best_90 (by decide) ?_
          exact ih x3 x4 x6 (x8 + 1) M2 _ _ _ hP hS (lv_sub hl [1, 2, 3, 4, 5, 0] rfl) hres
        · have hres := m_if hres hc3
          refine lv_iload X.1 X.2.1 dX8_best_72 (lv_at hl 5 rfl) ?_
          refine lv_istore_n (lv' := [(3, .int x8), (0, .ref (m_ad G 172)), (1, .int x1), (4, .long x4), (6, .long x6), (8, .int x8)]) X.1 X.2.1 dX8_best_74 rfl hl (by decide) rfl (fun ls hl => ?_)
          refine lv_aload_n X.1 X.2.1 dX8_best_75 rfl (lv_at hl 1 rfl) ?_
          refine m_g8 (v := .long (M2.2 172 46)) X hSt hP m_z_172 46 (by decide) rfl k_f_X8_367 dX8_best_76 ?_
          refine lv_lstore (lv' := [(4, .long (M2.2 172 46)), (3, .int x8), (0, .ref (m_ad G 172)), (1, .int x1), (6, .long x6), (8, .int x8)]) X.1 X.2.1 dX8_best_79 hl (by decide) rfl (fun ls hl => ?_)
          refine lv_aload_n X.1 X.2.1 dX8_best_81 rfl (lv_at hl 2 rfl) ?_
          refine m_g8 (v := .long (M2.2 172 47)) X hSt hP m_z_172 47 (by decide) rfl k_f_X8_370 dX8_best_82 ?_
          refine lv_lstore (lv' := [(6, .long (M2.2 172 47)), (4, .long (M2.2 172 46)), (3, .int x8), (0, .ref (m_ad G 172)), (1, .int x1), (8, .int x8)]) X.1 X.2.1 dX8_best_85 hl (by decide) rfl (fun ls hl => ?_)
          refine lv_iinc (v := (x8 + 1)) (lv' := [(8, .int (x8 + 1)), (6, .long (M2.2 172 47)), (4, .long (M2.2 172 46)), (3, .int x8), (0, .ref (m_ad G 172)), (1, .int x1)]) X.1 X.2.1 dX8_best_87 hl (k := 5) rfl rfl (by decide) rfl (fun ls hl => ?_)
          refine lv_goto (tgt := 40) X.1 X.2.1 dX8_best_90 (by decide) ?_
          exact ih x8 (M2.2 172 46) (M2.2 172 47) (x8 + 1) M2 _ _ _ hP hS (lv_sub hl [4, 5, 3, 2, 1, 0] rfl) hres
  unfold f_X8_best at hres
  refine lv_aload_n X.1 X.2.1 dX8_best_0 rfl (lv_at hl 0 rfl) ?_
  refine lv_iload_n X.1 X.2.1 dX8_best_1 rfl (lv_at hl 1 rfl) ?_
  refine lv_iload_n X.1 X.2.1 dX8_best_2 rfl (lv_at hl 2 rfl) ?_
  obtain ⟨r4, M5, err4, hres⟩ := m_o2_e hres
  refine m_bz (m_cV (n := 2) (As := [.int x1, .int x2]) (rest := []) X hSt hP hS hl.1 (c_X8_isAsked l G  err4) k_c_yX8_isAsked k_m_X8_355 k_i_yX8_isAsked k_s_yX8_isAsked k_n_X8 (by decide +kernel) (m_rc8 hSt hP m_z_172) rfl rfl ⟨Nat.le_of_ble_eq_true rfl, Nat.le_of_ble_eq_true rfl⟩ (Nat.le_of_ble_eq_true rfl) ⟨Nat.zero_le _, Nat.zero_le _⟩ dX8_best_3) hS (fun H locs hP hS hz6 => ?_)
  refine lv_if_ne (tgt := 12) X.1 X.2.1 dX8_best_6 (by decide) (fun hc7 => ?_) (fun hc7 => ?_)
  · have hres := m_if hres hc7
    refine lv_aload_n X.1 X.2.1 dX8_best_12 rfl (lv_at hl 0 rfl) ?_
    refine lv_iload_n X.1 X.2.1 dX8_best_13 rfl (lv_at hl 1 rfl) ?_
    refine lv_iload_n X.1 X.2.1 dX8_best_14 rfl (lv_at hl 2 rfl) ?_
    obtain ⟨r8, err8, hres⟩ := m_ob_e hres
    refine m_bz (m_cV (n := 2) (As := [.int x1, .int x2]) (rest := []) X hSt hP hS hl.1 (c_X8_isEarly l G  err8) k_c_yX8_isEarly k_m_X8_358 k_i_yX8_isEarly k_s_yX8_isEarly k_n_X8 (by decide +kernel) (m_rc8 hSt hP m_z_172) rfl rfl ⟨Nat.le_of_ble_eq_true rfl, Nat.le_of_ble_eq_true rfl⟩ (Nat.le_of_ble_eq_true rfl) ⟨Nat.zero_le _, Nat.zero_le _⟩ dX8_best_15) hS (fun H locs hP hS hz9 => ?_)
    refine lv_if_eq (tgt := 24) X.1 X.2.1 dX8_best_18 (by decide) (fun hc10 => ?_) (fun hc10 => ?_)
    · have hres := m_it hres hc10
      refine lv_aload_n X.1 X.2.1 dX8_best_24 rfl (lv_at hl 0 rfl) ?_
      refine lv_iload_n X.1 X.2.1 dX8_best_25 rfl (lv_at hl 2 rfl) ?_
      obtain ⟨M11, eM11, hres⟩ := m_ob_e hres
      refine m_bv (m_cV (n := 1) (As := [.int x2]) (rest := []) X hSt hP hS hl.1 (c_X8_layToday l G  eM11) k_c_yX8_layToday k_m_X8_350 k_i_yX8_layToday k_s_yX8_layToday k_n_X8 (by decide +kernel) (m_rc8 hSt hP m_z_172) rfl rfl ⟨Nat.le_of_ble_eq_true rfl, Nat.le_of_ble_eq_true rfl⟩ (Nat.le_of_ble_eq_true rfl) ⟨Nat.zero_le _, Nat.zero_le _⟩ dX8_best_26) hS (fun H locs hP hS => ?_)
      refine lv_iconst (v := (-1)) X.1 X.2.1 dX8_best_29 (by decide) ?_
      refine lv_istore_n (lv' := [(3, .int (-1)), (0, .ref (m_ad G 172)), (1, .int x1), (2, .int x2)]) X.1 X.2.1 dX8_best_30 rfl hl (by decide) rfl (fun ls hl => ?_)
      refine lv_lconst (v := 0) X.1 X.2.1 dX8_best_31 (by decide) ?_
      refine lv_lstore (lv' := [(4, .long 0), (3, .int (-1)), (0, .ref (m_ad G 172)), (1, .int x1), (2, .int x2)]) X.1 X.2.1 dX8_best_32 hl (by decide) rfl (fun ls hl => ?_)
      refine lv_lconst (v := 1) X.1 X.2.1 dX8_best_34 (by decide) ?_
      refine lv_lstore (lv' := [(6, .long 1), (4, .long 0), (3, .int (-1)), (0, .ref (m_ad G 172)), (1, .int x1), (2, .int x2)]) X.1 X.2.1 dX8_best_35 hl (by decide) rfl (fun ls hl => ?_)
      refine lv_iconst (v := 0) X.1 X.2.1 dX8_best_37 (by decide) ?_
      refine lv_istore (lv' := [(8, .int 0), (6, .long 1), (4, .long 0), (3, .int (-1)), (0, .ref (m_ad G 172)), (1, .int x1), (2, .int x2)]) X.1 X.2.1 dX8_best_38 hl (by decide) rfl (fun ls hl => ?_)
      exact B40 n (-1) 0 1 0 M11 _ _ _ hP hS (lv_sub hl [4, 5, 3, 2, 1, 0] rfl) hres
    · have hres := m_if hres hc10
      refine lv_bipush (v := (-20)) X.1 X.2.1 dX8_best_21 (by decide) ?_
      exact m_ri X hr hlk hP hS (Prod.mk.inj (Option.some.inj hres)).1 (Prod.mk.inj (Option.some.inj hres)).2 dX8_best_23
  · have hres := m_it hres hc7
    refine lv_bipush (v := (-10)) X.1 X.2.1 dX8_best_9 (by decide) ?_
    exact m_ri X hr hlk hP hS (Prod.mk.inj (Option.some.inj hres)).1 (Prod.mk.inj (Option.some.inj hres)).2 dX8_best_11
theorem dX8_clear_0 : decode cX8_clear 0 = .ok (.aload_n 0, 1) := by decide +kernel
theorem dX8_clear_1 : decode cX8_clear 1 = .ok (.getfield 196, 3) := by decide +kernel
theorem dX8_clear_4 : decode cX8_clear 4 = .ok (.istore_n 1, 1) := by decide +kernel
theorem dX8_clear_5 : decode cX8_clear 5 = .ok (.aload_n 0, 1) := by decide +kernel
theorem dX8_clear_6 : decode cX8_clear 6 = .ok (.iconst 0, 1) := by decide +kernel
theorem dX8_clear_7 : decode cX8_clear 7 = .ok (.putfield 196, 3) := by decide +kernel
theorem dX8_clear_10 : decode cX8_clear 10 = .ok (.iload_n 1, 1) := by decide +kernel
theorem dX8_clear_11 : decode cX8_clear 11 = .ok (.ireturn, 1) := by decide +kernel
def f_X8_clear (M : m_M) : Int32 × m_M :=
  m_bd (m_sI M 172 4 0) fun M1 =>
  ((M.1 172 4), M1)
set_option maxHeartbeats 4000000 in
set_option maxRecDepth 100000 in
theorem c_X8_clear (l : Launch) (G : m_G) {M : m_M} {r0 : Int32} {M0 : m_M}  (hres : f_X8_clear M = (r0, M0)) : Met l yX8_clear (m_U yX8_clear cX8_clear 2 (some .int)) (m_R 0 0) (m_Pc G [.ref (m_ad G 172)] M) (m_Qi G r0 M0) 0 0 (m_A G) := by
  refine m_i0 (n := 2) RX8 rfl (by decide) (Nat.le_of_ble_eq_true rfl) ?_
  intro p e s m args below meth c X hr hlk hSt hP hS ls hl
  have hl : lv_has ls 2 [(0, .ref (m_ad G 172))] := hl
  unfold f_X8_clear at hres
  refine lv_aload_n X.1 X.2.1 dX8_clear_0 rfl (lv_at hl 0 rfl) ?_
  refine m_g8 (v := .int (M.1 172 4)) X hSt hP m_z_172 4 (by decide) rfl k_f_X8_196 dX8_clear_1 ?_
  refine lv_istore_n (lv' := [(1, .int (M.1 172 4)), (0, .ref (m_ad G 172))]) X.1 X.2.1 dX8_clear_4 rfl hl (by decide) rfl (fun ls hl => ?_)
  refine lv_aload_n X.1 X.2.1 dX8_clear_5 rfl (lv_at hl 1 rfl) ?_
  refine lv_iconst (v := 0) X.1 X.2.1 dX8_clear_6 (by decide) ?_
  obtain ⟨M1, eM1, hres⟩ := m_bd_e hres
  refine m_pi8 X hSt hP hS m_z_172 4 (by decide) eM1 rfl rfl (by decide) k_f_X8_196 dX8_clear_7 (fun H locs hP hS => ?_)
  refine lv_iload_n X.1 X.2.1 dX8_clear_10 rfl (lv_at hl 0 rfl) ?_
  exact m_ri X hr hlk hP hS (Prod.mk.inj hres).1 (Prod.mk.inj hres).2 dX8_clear_11
theorem dX8_code_0 : decode cX8_code 0 = .ok (.iconst 0, 1) := by decide +kernel
theorem dX8_code_1 : decode cX8_code 1 = .ok (.istore 6, 2) := by decide +kernel
theorem dX8_code_3 : decode cX8_code 3 = .ok (.iconst 0, 1) := by decide +kernel
theorem dX8_code_4 : decode cX8_code 4 = .ok (.istore 7, 2) := by decide +kernel
theorem dX8_code_6 : decode cX8_code 6 = .ok (.iload 7, 2) := by decide +kernel
theorem dX8_code_8 : decode cX8_code 8 = .ok (.bipush 6, 2) := by decide +kernel
theorem dX8_code_10 : decode cX8_code 10 = .ok (.if_icmp .ge 88, 3) := by decide +kernel
theorem dX8_code_13 : decode cX8_code 13 = .ok (.iload 7, 2) := by decide +kernel
theorem dX8_code_15 : decode cX8_code 15 = .ok (.ifCond .ne 7, 3) := by decide +kernel
theorem dX8_code_18 : decode cX8_code 18 = .ok (.iload_n 0, 1) := by decide +kernel
theorem dX8_code_19 : decode cX8_code 19 = .ok (.goto 46, 3) := by decide +kernel
theorem dX8_code_22 : decode cX8_code 22 = .ok (.iload 7, 2) := by decide +kernel
theorem dX8_code_24 : decode cX8_code 24 = .ok (.iconst 1, 1) := by decide +kernel
theorem dX8_code_25 : decode cX8_code 25 = .ok (.if_icmp .ne 7, 3) := by decide +kernel
theorem dX8_code_28 : decode cX8_code 28 = .ok (.iload_n 1, 1) := by decide +kernel
theorem dX8_code_29 : decode cX8_code 29 = .ok (.goto 36, 3) := by decide +kernel
theorem dX8_code_32 : decode cX8_code 32 = .ok (.iload 7, 2) := by decide +kernel
theorem dX8_code_34 : decode cX8_code 34 = .ok (.iconst 2, 1) := by decide +kernel
theorem dX8_code_35 : decode cX8_code 35 = .ok (.if_icmp .ne 7, 3) := by decide +kernel
theorem dX8_code_38 : decode cX8_code 38 = .ok (.iload_n 2, 1) := by decide +kernel
theorem dX8_code_39 : decode cX8_code 39 = .ok (.goto 26, 3) := by decide +kernel
theorem dX8_code_42 : decode cX8_code 42 = .ok (.iload 7, 2) := by decide +kernel
theorem dX8_code_44 : decode cX8_code 44 = .ok (.iconst 3, 1) := by decide +kernel
theorem dX8_code_45 : decode cX8_code 45 = .ok (.if_icmp .ne 7, 3) := by decide +kernel
theorem dX8_code_48 : decode cX8_code 48 = .ok (.iload_n 3, 1) := by decide +kernel
theorem dX8_code_49 : decode cX8_code 49 = .ok (.goto 16, 3) := by decide +kernel
theorem dX8_code_52 : decode cX8_code 52 = .ok (.iload 7, 2) := by decide +kernel
theorem dX8_code_54 : decode cX8_code 54 = .ok (.iconst 4, 1) := by decide +kernel
theorem dX8_code_55 : decode cX8_code 55 = .ok (.if_icmp .ne 8, 3) := by decide +kernel
theorem dX8_code_58 : decode cX8_code 58 = .ok (.iload 4, 2) := by decide +kernel
theorem dX8_code_60 : decode cX8_code 60 = .ok (.goto 5, 3) := by decide +kernel
theorem dX8_code_63 : decode cX8_code 63 = .ok (.iload 5, 2) := by decide +kernel
theorem dX8_code_65 : decode cX8_code 65 = .ok (.istore 8, 2) := by decide +kernel
theorem dX8_code_67 : decode cX8_code 67 = .ok (.iload 8, 2) := by decide +kernel
theorem dX8_code_69 : decode cX8_code 69 = .ok (.ifCond .ne 8, 3) := by decide +kernel
theorem dX8_code_72 : decode cX8_code 72 = .ok (.iload 6, 2) := by decide +kernel
theorem dX8_code_74 : decode cX8_code 74 = .ok (.goto 16, 3) := by decide +kernel
theorem dX8_code_77 : decode cX8_code 77 = .ok (.bipush 27, 2) := by decide +kernel
theorem dX8_code_79 : decode cX8_code 79 = .ok (.iload 6, 2) := by decide +kernel
theorem dX8_code_81 : decode cX8_code 81 = .ok (.imul, 1) := by decide +kernel
theorem dX8_code_82 : decode cX8_code 82 = .ok (.iload 8, 2) := by decide +kernel
theorem dX8_code_84 : decode cX8_code 84 = .ok (.iadd, 1) := by decide +kernel
theorem dX8_code_85 : decode cX8_code 85 = .ok (.bipush 97, 2) := by decide +kernel
theorem dX8_code_87 : decode cX8_code 87 = .ok (.isub, 1) := by decide +kernel
theorem dX8_code_88 : decode cX8_code 88 = .ok (.iconst 1, 1) := by decide +kernel
theorem dX8_code_89 : decode cX8_code 89 = .ok (.iadd, 1) := by decide +kernel
theorem dX8_code_90 : decode cX8_code 90 = .ok (.istore 6, 2) := by decide +kernel
theorem dX8_code_92 : decode cX8_code 92 = .ok (.iinc 7 1, 3) := by decide +kernel
theorem dX8_code_95 : decode cX8_code 95 = .ok (.goto (-89), 3) := by decide +kernel
theorem dX8_code_98 : decode cX8_code 98 = .ok (.iload 6, 2) := by decide +kernel
theorem dX8_code_100 : decode cX8_code 100 = .ok (.ireturn, 1) := by decide +kernel
def f_X8_code_b65 (n : Nat) (x0 : Int32) (x1 : Int32) (x2 : Int32) (x3 : Int32) (x4 : Int32) (x5 : Int32) (q6 : Int32 → Int32 → Option Int32) (x6 : Int32) (x7 : Int32) (s0 : Int32) : Option Int32 :=
  if s0 = 0 then
  q6 x6 (x7 + 1)
  else
  m_bd (((((27 : Int32) * x6) + s0) - (97 : Int32)) + (1 : Int32)) fun t2 =>
  q6 t2 (x7 + 1)
def f_X8_code_b6 (n : Nat) (x0 : Int32) (x1 : Int32) (x2 : Int32) (x3 : Int32) (x4 : Int32) (x5 : Int32) : Nat → Int32 → Int32 → Option Int32
  | 0, _, _ => none
  | u + 1, x6, x7 =>
    if (6 : Int32) ≤ x7 then
  some x6
  else
  if x7 = 0 then
  f_X8_code_b65 n x0 x1 x2 x3 x4 x5 (f_X8_code_b6 n x0 x1 x2 x3 x4 x5 u) x6 x7 x0
  else
  if x7 = 1 then
  f_X8_code_b65 n x0 x1 x2 x3 x4 x5 (f_X8_code_b6 n x0 x1 x2 x3 x4 x5 u) x6 x7 x1
  else
  if x7 = 2 then
  f_X8_code_b65 n x0 x1 x2 x3 x4 x5 (f_X8_code_b6 n x0 x1 x2 x3 x4 x5 u) x6 x7 x2
  else
  if x7 = 3 then
  f_X8_code_b65 n x0 x1 x2 x3 x4 x5 (f_X8_code_b6 n x0 x1 x2 x3 x4 x5 u) x6 x7 x3
  else
  if x7 = 4 then
  f_X8_code_b65 n x0 x1 x2 x3 x4 x5 (f_X8_code_b6 n x0 x1 x2 x3 x4 x5 u) x6 x7 x4
  else
  f_X8_code_b65 n x0 x1 x2 x3 x4 x5 (f_X8_code_b6 n x0 x1 x2 x3 x4 x5 u) x6 x7 x5
def f_X8_code (n : Nat) (x0 : Int32) (x1 : Int32) (x2 : Int32) (x3 : Int32) (x4 : Int32) (x5 : Int32) : Option Int32 :=
  f_X8_code_b6 n x0 x1 x2 x3 x4 x5 n 0 0
set_option maxHeartbeats 4000000 in
set_option maxRecDepth 100000 in
theorem c_X8_code (l : Launch) (G : m_G) {n : Nat} {x0 : Int32} {x1 : Int32} {x2 : Int32} {x3 : Int32} {x4 : Int32} {x5 : Int32} {M : m_M} {r0 : Int32}  (hres : f_X8_code n x0 x1 x2 x3 x4 x5 = some r0) : Met l yX8_code (m_U yX8_code cX8_code 9 (some .int)) (m_R 0 0) (m_Pc G [.int x0, .int x1, .int x2, .int x3, .int x4, .int x5] M) (m_Qi G r0 M) 0 0 (m_A G) := by
  refine m_i0 (n := 9) RX8 rfl (by decide) (Nat.le_of_ble_eq_true rfl) ?_
  intro p e s m args below meth c X hr hlk hSt hP hS ls hl
  have hl : lv_has ls 9 [(0, .int x0), (1, .int x1), (2, .int x2), (3, .int x3), (4, .int x4), (5, .int x5)] := hl
  have B65 : ∀ (q6 : Int32 → Int32 → Option Int32) (hq6 : ∀ (x6 : Int32) (x7 : Int32) (H : Heap) (locs : List Loc) (ls : Array Slot), m_P G M H → va_S (m_A G) s.heap H locs → lv_has ls 9 [(0, .int x0), (1, .int x1), (2, .int x2), (3, .int x3), (4, .int x4), (5, .int x5), (6, .int x6), (7, .int x7)] → q6 x6 x7 = some r0 → W p l e (m_R 0 0) s m args below meth c H locs 0 0 (MQ below (m_Qi G r0 M) args s 0 0 (m_A G)) (F0 m 6 ls [])) (x6 : Int32) (x7 : Int32) (s0 : Int32) (H : Heap) (locs : List Loc) (ls : Array Slot), m_P G M H → va_S (m_A G) s.heap H locs → lv_has ls 9 [(0, .int x0), (1, .int x1), (2, .int x2), (3, .int x3), (4, .int x4), (5, .int x5), (6, .int x6), (7, .int x7)] → f_X8_code_b65 n x0 x1 x2 x3 x4 x5 q6 x6 x7 s0 = some r0 → W p l e (m_R 0 0) s m args below meth c H locs 0 0 (MQ below (m_Qi G r0 M) args s 0 0 (m_A G)) (F0 m 65 ls [.int s0]) := by
    intro q6 hq6 x6 x7 s0 H locs ls hP hS hl hres
    unfold f_X8_code_b65 at hres
    refine lv_istore (lv' := [(8, .int s0), (0, .int x0), (1, .int x1), (2, .int x2), (3, .int x3), (4, .int x4), (5, .int x5), (6, .int x6), (7, .int x7)]) X.1 X.2.1 dX8_code_65 hl (by decide) rfl (fun ls hl => ?_)
    refine lv_iload X.1 X.2.1 dX8_code_67 (lv_at hl 0 rfl) ?_
    refine lv_if_ne (tgt := 77) X.1 X.2.1 dX8_code_69 (by decide) (fun hc1 => ?_) (fun hc1 => ?_)
    · have hres := m_if hres hc1
      refine lv_bipush (v := 27) X.1 X.2.1 dX8_code_77 (by decide) ?_
      refine lv_iload X.1 X.2.1 dX8_code_79 (lv_at hl 7 rfl) ?_
      refine lv_imul X.1 X.2.1 dX8_code_81 ?_
      refine lv_iload X.1 X.2.1 dX8_code_82 (lv_at hl 0 rfl) ?_
      refine lv_iadd X.1 X.2.1 dX8_code_84 ?_
      refine lv_bipush (v := 97) X.1 X.2.1 dX8_code_85 (by decide) ?_
      refine lv_isub X.1 X.2.1 dX8_code_87 ?_
      refine lv_iconst (v := 1) X.1 X.2.1 dX8_code_88 (by decide) ?_
      refine lv_iadd X.1 X.2.1 dX8_code_89 ?_
      obtain ⟨t2, et2, hres⟩ := m_bd_e hres
      refine m_ti et2 ?_
      refine lv_istore (lv' := [(6, .int t2), (8, .int s0), (0, .int x0), (1, .int x1), (2, .int x2), (3, .int x3), (4, .int x4), (5, .int x5), (7, .int x7)]) X.1 X.2.1 dX8_code_90 hl (by decide) rfl (fun ls hl => ?_)
      refine lv_iinc (v := (x7 + 1)) (lv' := [(7, .int (x7 + 1)), (6, .int t2), (8, .int s0), (0, .int x0), (1, .int x1), (2, .int x2), (3, .int x3), (4, .int x4), (5, .int x5)]) X.1 X.2.1 dX8_code_92 hl (k := 8) rfl rfl (by decide) rfl (fun ls hl => ?_)
      refine lv_goto (tgt := 6) X.1 X.2.1 dX8_code_95 (by decide) ?_
      exact hq6 t2 (x7 + 1) _ _ _ hP hS (lv_sub hl [3, 4, 5, 6, 7, 8, 1, 0] rfl) hres
    · have hres := m_it hres hc1
      refine lv_iload X.1 X.2.1 dX8_code_72 (lv_at hl 7 rfl) ?_
      refine lv_goto (tgt := 90) X.1 X.2.1 dX8_code_74 (by decide) ?_
      refine lv_istore (lv' := [(6, .int x6), (8, .int s0), (0, .int x0), (1, .int x1), (2, .int x2), (3, .int x3), (4, .int x4), (5, .int x5), (7, .int x7)]) X.1 X.2.1 dX8_code_90 hl (by decide) rfl (fun ls hl => ?_)
      refine lv_iinc (v := (x7 + 1)) (lv' := [(7, .int (x7 + 1)), (6, .int x6), (8, .int s0), (0, .int x0), (1, .int x1), (2, .int x2), (3, .int x3), (4, .int x4), (5, .int x5)]) X.1 X.2.1 dX8_code_92 hl (k := 8) rfl rfl (by decide) rfl (fun ls hl => ?_)
      refine lv_goto (tgt := 6) X.1 X.2.1 dX8_code_95 (by decide) ?_
      exact hq6 x6 (x7 + 1) _ _ _ hP hS (lv_sub hl [3, 4, 5, 6, 7, 8, 1, 0] rfl) hres
  have B6 : ∀ (u : Nat) (x6 : Int32) (x7 : Int32) (H : Heap) (locs : List Loc) (ls : Array Slot), m_P G M H → va_S (m_A G) s.heap H locs → lv_has ls 9 [(0, .int x0), (1, .int x1), (2, .int x2), (3, .int x3), (4, .int x4), (5, .int x5), (6, .int x6), (7, .int x7)] → f_X8_code_b6 n x0 x1 x2 x3 x4 x5 u x6 x7 = some r0 → W p l e (m_R 0 0) s m args below meth c H locs 0 0 (MQ below (m_Qi G r0 M) args s 0 0 (m_A G)) (F0 m 6 ls []) := by
    intro u
    induction u with
    | zero =>
      intro x6 x7 H locs ls hP hS hl hres
      cases hres
    | succ u ih =>
      intro x6 x7 H locs ls hP hS hl hres
      rw [f_X8_code_b6] at hres
      refine lv_iload X.1 X.2.1 dX8_code_6 (lv_at hl 7 rfl) ?_
      refine lv_bipush (v := 6) X.1 X.2.1 dX8_code_8 (by decide) ?_
      refine lv_icmp_ge (tgt := 98) X.1 X.2.1 dX8_code_10 (by decide) (fun hc3 => ?_) (fun hc3 => ?_)
      · have hres := m_it hres hc3
        refine lv_iload X.1 X.2.1 dX8_code_98 (lv_at hl 6 rfl) ?_
        exact m_ri X hr hlk hP hS (Option.some.inj hres) rfl dX8_code_100
      · have hres := m_if hres hc3
        refine lv_iload X.1 X.2.1 dX8_code_13 (lv_at hl 7 rfl) ?_
        refine lv_if_ne (tgt := 22) X.1 X.2.1 dX8_code_15 (by decide) (fun hc4 => ?_) (fun hc4 => ?_)
        · have hres := m_if hres hc4
          refine lv_iload X.1 X.2.1 dX8_code_22 (lv_at hl 7 rfl) ?_
          refine lv_iconst (v := 1) X.1 X.2.1 dX8_code_24 (by decide) ?_
          refine lv_icmp_ne (tgt := 32) X.1 X.2.1 dX8_code_25 (by decide) (fun hc5 => ?_) (fun hc5 => ?_)
          · have hres := m_if hres hc5
            refine lv_iload X.1 X.2.1 dX8_code_32 (lv_at hl 7 rfl) ?_
            refine lv_iconst (v := 2) X.1 X.2.1 dX8_code_34 (by decide) ?_
            refine lv_icmp_ne (tgt := 42) X.1 X.2.1 dX8_code_35 (by decide) (fun hc6 => ?_) (fun hc6 => ?_)
            · have hres := m_if hres hc6
              refine lv_iload X.1 X.2.1 dX8_code_42 (lv_at hl 7 rfl) ?_
              refine lv_iconst (v := 3) X.1 X.2.1 dX8_code_44 (by decide) ?_
              refine lv_icmp_ne (tgt := 52) X.1 X.2.1 dX8_code_45 (by decide) (fun hc7 => ?_) (fun hc7 => ?_)
              · have hres := m_if hres hc7
                refine lv_iload X.1 X.2.1 dX8_code_52 (lv_at hl 7 rfl) ?_
                refine lv_iconst (v := 4) X.1 X.2.1 dX8_code_54 (by decide) ?_
                refine lv_icmp_ne (tgt := 63) X.1 X.2.1 dX8_code_55 (by decide) (fun hc8 => ?_) (fun hc8 => ?_)
                · have hres := m_if hres hc8
                  refine lv_iload X.1 X.2.1 dX8_code_63 (lv_at hl 5 rfl) ?_
                  exact B65 (f_X8_code_b6 n x0 x1 x2 x3 x4 x5 u) ih x6 x7 x5 _ _ _ hP hS (lv_sub hl [0, 1, 2, 3, 4, 5, 6, 7] rfl) hres
                · have hres := m_it hres hc8
                  refine lv_iload X.1 X.2.1 dX8_code_58 (lv_at hl 4 rfl) ?_
                  refine lv_goto (tgt := 65) X.1 X.2.1 dX8_code_60 (by decide) ?_
                  exact B65 (f_X8_code_b6 n x0 x1 x2 x3 x4 x5 u) ih x6 x7 x4 _ _ _ hP hS (lv_sub hl [0, 1, 2, 3, 4, 5, 6, 7] rfl) hres
              · have hres := m_it hres hc7
                refine lv_iload_n X.1 X.2.1 dX8_code_48 rfl (lv_at hl 3 rfl) ?_
                refine lv_goto (tgt := 65) X.1 X.2.1 dX8_code_49 (by decide) ?_
                exact B65 (f_X8_code_b6 n x0 x1 x2 x3 x4 x5 u) ih x6 x7 x3 _ _ _ hP hS (lv_sub hl [0, 1, 2, 3, 4, 5, 6, 7] rfl) hres
            · have hres := m_it hres hc6
              refine lv_iload_n X.1 X.2.1 dX8_code_38 rfl (lv_at hl 2 rfl) ?_
              refine lv_goto (tgt := 65) X.1 X.2.1 dX8_code_39 (by decide) ?_
              exact B65 (f_X8_code_b6 n x0 x1 x2 x3 x4 x5 u) ih x6 x7 x2 _ _ _ hP hS (lv_sub hl [0, 1, 2, 3, 4, 5, 6, 7] rfl) hres
          · have hres := m_it hres hc5
            refine lv_iload_n X.1 X.2.1 dX8_code_28 rfl (lv_at hl 1 rfl) ?_
            refine lv_goto (tgt := 65) X.1 X.2.1 dX8_code_29 (by decide) ?_
            exact B65 (f_X8_code_b6 n x0 x1 x2 x3 x4 x5 u) ih x6 x7 x1 _ _ _ hP hS (lv_sub hl [0, 1, 2, 3, 4, 5, 6, 7] rfl) hres
        · have hres := m_it hres hc4
          refine lv_iload_n X.1 X.2.1 dX8_code_18 rfl (lv_at hl 0 rfl) ?_
          refine lv_goto (tgt := 65) X.1 X.2.1 dX8_code_19 (by decide) ?_
          exact B65 (f_X8_code_b6 n x0 x1 x2 x3 x4 x5 u) ih x6 x7 x0 _ _ _ hP hS (lv_sub hl [0, 1, 2, 3, 4, 5, 6, 7] rfl) hres
  unfold f_X8_code at hres
  refine lv_iconst (v := 0) X.1 X.2.1 dX8_code_0 (by decide) ?_
  refine lv_istore (lv' := [(6, .int 0), (0, .int x0), (1, .int x1), (2, .int x2), (3, .int x3), (4, .int x4), (5, .int x5)]) X.1 X.2.1 dX8_code_1 hl (by decide) rfl (fun ls hl => ?_)
  refine lv_iconst (v := 0) X.1 X.2.1 dX8_code_3 (by decide) ?_
  refine lv_istore (lv' := [(7, .int 0), (6, .int 0), (0, .int x0), (1, .int x1), (2, .int x2), (3, .int x3), (4, .int x4), (5, .int x5)]) X.1 X.2.1 dX8_code_4 hl (by decide) rfl (fun ls hl => ?_)
  exact B6 n 0 0 _ _ _ hP hS (lv_sub hl [2, 3, 4, 5, 6, 7, 1, 0] rfl) hres
theorem dX8_doubtMany_0 : decode cX8_doubtMany 0 = .ok (.iconst 0, 1) := by decide +kernel
theorem dX8_doubtMany_1 : decode cX8_doubtMany 1 = .ok (.istore_n 1, 1) := by decide +kernel
theorem dX8_doubtMany_2 : decode cX8_doubtMany 2 = .ok (.iconst 0, 1) := by decide +kernel
theorem dX8_doubtMany_3 : decode cX8_doubtMany 3 = .ok (.istore_n 2, 1) := by decide +kernel
theorem dX8_doubtMany_4 : decode cX8_doubtMany 4 = .ok (.iload_n 2, 1) := by decide +kernel
theorem dX8_doubtMany_5 : decode cX8_doubtMany 5 = .ok (.aload_n 0, 1) := by decide +kernel
theorem dX8_doubtMany_6 : decode cX8_doubtMany 6 = .ok (.invokevirtual 133, 3) := by decide +kernel
theorem dX8_doubtMany_9 : decode cX8_doubtMany 9 = .ok (.if_icmp .ge 18, 3) := by decide +kernel
theorem dX8_doubtMany_12 : decode cX8_doubtMany 12 = .ok (.iload_n 1, 1) := by decide +kernel
theorem dX8_doubtMany_13 : decode cX8_doubtMany 13 = .ok (.aload_n 0, 1) := by decide +kernel
theorem dX8_doubtMany_14 : decode cX8_doubtMany 14 = .ok (.iload_n 2, 1) := by decide +kernel
theorem dX8_doubtMany_15 : decode cX8_doubtMany 15 = .ok (.iconst 5, 1) := by decide +kernel
theorem dX8_doubtMany_16 : decode cX8_doubtMany 16 = .ok (.invokevirtual 136, 3) := by decide +kernel
theorem dX8_doubtMany_19 : decode cX8_doubtMany 19 = .ok (.iadd, 1) := by decide +kernel
theorem dX8_doubtMany_20 : decode cX8_doubtMany 20 = .ok (.istore_n 1, 1) := by decide +kernel
theorem dX8_doubtMany_21 : decode cX8_doubtMany 21 = .ok (.iinc 2 1, 3) := by decide +kernel
theorem dX8_doubtMany_24 : decode cX8_doubtMany 24 = .ok (.goto (-20), 3) := by decide +kernel
theorem dX8_doubtMany_27 : decode cX8_doubtMany 27 = .ok (.iload_n 1, 1) := by decide +kernel
theorem dX8_doubtMany_28 : decode cX8_doubtMany 28 = .ok (.ireturn, 1) := by decide +kernel
def f_X8_doubtMany_b4 (n : Nat) (M : m_M) : Nat → Int32 → Int32 → Option Int32
  | 0, _, _ => none
  | u + 1, x1, x2 =>
    m_bd (f_X8_notes M) fun r1 =>
  if r1 ≤ x2 then
  some x1
  else
  m_ob (f_X8_of x2 5 M) fun r3 =>
  f_X8_doubtMany_b4 n M u (x1 + r3) (x2 + 1)
def f_X8_doubtMany (n : Nat) (M : m_M) : Option Int32 :=
  f_X8_doubtMany_b4 n M n 0 0
set_option maxHeartbeats 4000000 in
set_option maxRecDepth 100000 in
theorem c_X8_doubtMany (l : Launch) (G : m_G) {n : Nat} {M : m_M} {r0 : Int32}  (hres : f_X8_doubtMany n M = some r0) : Met l yX8_doubtMany (m_U yX8_doubtMany cX8_doubtMany 3 (some .int)) (m_R 1 22) (m_Pc G [.ref (m_ad G 172)] M) (m_Qi G r0 M) 0 0 (m_A G) := by
  refine m_i0 (n := 3) RX8 rfl (by decide) (Nat.le_of_ble_eq_true rfl) ?_
  intro p e s m args below meth c X hr hlk hSt hP hS ls hl
  have hl : lv_has ls 3 [(0, .ref (m_ad G 172))] := hl
  have B4 : ∀ (u : Nat) (x1 : Int32) (x2 : Int32) (H : Heap) (locs : List Loc) (ls : Array Slot), m_P G M H → va_S (m_A G) s.heap H locs → lv_has ls 3 [(0, .ref (m_ad G 172)), (1, .int x1), (2, .int x2)] → f_X8_doubtMany_b4 n M u x1 x2 = some r0 → W p l e (m_R 1 22) s m args below meth c H locs 0 0 (MQ below (m_Qi G r0 M) args s 0 0 (m_A G)) (F0 m 4 ls []) := by
    intro u
    induction u with
    | zero =>
      intro x1 x2 H locs ls hP hS hl hres
      cases hres
    | succ u ih =>
      intro x1 x2 H locs ls hP hS hl hres
      rw [f_X8_doubtMany_b4] at hres
      refine lv_iload_n X.1 X.2.1 dX8_doubtMany_4 rfl (lv_at hl 2 rfl) ?_
      refine lv_aload_n X.1 X.2.1 dX8_doubtMany_5 rfl (lv_at hl 0 rfl) ?_
      obtain ⟨r1, err1, hres⟩ := m_bd_e hres
      refine m_bi (m_cV (n := 0) (As := []) (rest := [.int x2]) X hSt hP hS hl.1 (c_X8_notes l G  err1) k_c_yX8_notes k_m_X8_133 k_i_yX8_notes k_s_yX8_notes k_n_X8 (by decide +kernel) (m_rc8 hSt hP m_z_172) rfl rfl ⟨Nat.le_of_ble_eq_true rfl, Nat.le_of_ble_eq_true rfl⟩ (Nat.le_of_ble_eq_true rfl) ⟨Nat.zero_le _, Nat.zero_le _⟩ dX8_doubtMany_6) hS (fun H locs hP hS => ?_)
      refine lv_icmp_ge (tgt := 27) X.1 X.2.1 dX8_doubtMany_9 (by decide) (fun hc2 => ?_) (fun hc2 => ?_)
      · have hres := m_it hres hc2
        refine lv_iload_n X.1 X.2.1 dX8_doubtMany_27 rfl (lv_at hl 1 rfl) ?_
        exact m_ri X hr hlk hP hS (Option.some.inj hres) rfl dX8_doubtMany_28
      · have hres := m_if hres hc2
        refine lv_iload_n X.1 X.2.1 dX8_doubtMany_12 rfl (lv_at hl 1 rfl) ?_
        refine lv_aload_n X.1 X.2.1 dX8_doubtMany_13 rfl (lv_at hl 0 rfl) ?_
        refine lv_iload_n X.1 X.2.1 dX8_doubtMany_14 rfl (lv_at hl 2 rfl) ?_
        refine lv_iconst (v := 5) X.1 X.2.1 dX8_doubtMany_15 (by decide) ?_
        obtain ⟨r3, err3, hres⟩ := m_ob_e hres
        refine m_bi (m_cV (n := 2) (As := [.int x2, .int 5]) (rest := [.int x1]) X hSt hP hS hl.1 (c_X8_of l G  err3) k_c_yX8_of k_m_X8_136 k_i_yX8_of k_s_yX8_of k_n_X8 (by decide +kernel) (m_rc8 hSt hP m_z_172) rfl rfl ⟨Nat.le_of_ble_eq_true rfl, Nat.le_of_ble_eq_true rfl⟩ (Nat.le_of_ble_eq_true rfl) ⟨Nat.zero_le _, Nat.zero_le _⟩ dX8_doubtMany_16) hS (fun H locs hP hS => ?_)
        refine lv_iadd X.1 X.2.1 dX8_doubtMany_19 ?_
        refine lv_istore_n (lv' := [(1, .int (x1 + r3)), (0, .ref (m_ad G 172)), (2, .int x2)]) X.1 X.2.1 dX8_doubtMany_20 rfl hl (by decide) rfl (fun ls hl => ?_)
        refine lv_iinc (v := (x2 + 1)) (lv' := [(2, .int (x2 + 1)), (1, .int (x1 + r3)), (0, .ref (m_ad G 172))]) X.1 X.2.1 dX8_doubtMany_21 hl (k := 2) rfl rfl (by decide) rfl (fun ls hl => ?_)
        refine lv_goto (tgt := 4) X.1 X.2.1 dX8_doubtMany_24 (by decide) ?_
        exact ih (x1 + r3) (x2 + 1) _ _ _ hP hS (lv_sub hl [2, 1, 0] rfl) hres
  unfold f_X8_doubtMany at hres
  refine lv_iconst (v := 0) X.1 X.2.1 dX8_doubtMany_0 (by decide) ?_
  refine lv_istore_n (lv' := [(1, .int 0), (0, .ref (m_ad G 172))]) X.1 X.2.1 dX8_doubtMany_1 rfl hl (by decide) rfl (fun ls hl => ?_)
  refine lv_iconst (v := 0) X.1 X.2.1 dX8_doubtMany_2 (by decide) ?_
  refine lv_istore_n (lv' := [(2, .int 0), (1, .int 0), (0, .ref (m_ad G 172))]) X.1 X.2.1 dX8_doubtMany_3 rfl hl (by decide) rfl (fun ls hl => ?_)
  exact B4 n 0 0 _ _ _ hP hS (lv_sub hl [2, 1, 0] rfl) hres
theorem dX8_lined_0 : decode cX8_lined 0 = .ok (.aload_n 0, 1) := by decide +kernel
theorem dX8_lined_1 : decode cX8_lined 1 = .ok (.getfield 7, 3) := by decide +kernel
theorem dX8_lined_4 : decode cX8_lined 4 = .ok (.sipush 470, 3) := by decide +kernel
theorem dX8_lined_7 : decode cX8_lined 7 = .ok (.iaload, 1) := by decide +kernel
theorem dX8_lined_8 : decode cX8_lined 8 = .ok (.ireturn, 1) := by decide +kernel
def f_X8_lined (M : m_M) : Int32 :=
  (M.1 173 470)
set_option maxHeartbeats 4000000 in
set_option maxRecDepth 100000 in
theorem c_X8_lined (l : Launch) (G : m_G) {M : m_M} {r0 : Int32}  (hres : f_X8_lined M = r0) : Met l yX8_lined (m_U yX8_lined cX8_lined 1 (some .int)) (m_R 0 0) (m_Pc G [.ref (m_ad G 172)] M) (m_Qi G r0 M) 0 0 (m_A G) := by
  refine m_i0 (n := 1) RX8 rfl (by decide) (Nat.le_of_ble_eq_true rfl) ?_
  intro p e s m args below meth c X hr hlk hSt hP hS ls hl
  have hl : lv_has ls 1 [(0, .ref (m_ad G 172))] := hl
  unfold f_X8_lined at hres
  refine lv_aload_n X.1 X.2.1 dX8_lined_0 rfl (lv_at hl 0 rfl) ?_
  refine m_g8 (v := .ref (m_ad G 173)) X hSt hP m_z_172 0 (by decide) rfl k_f_X8_7 dX8_lined_1 ?_
  refine lv_sipush (v := 470) X.1 X.2.1 dX8_lined_4 (by decide) ?_
  refine m_ia (j := 470) X hSt hP m_z_173 (by decide +kernel) (by decide +kernel) dX8_lined_7 ?_
  exact m_ri X hr hlk hP hS hres rfl dX8_lined_8
theorem dX8_count_0 : decode cX8_count 0 = .ok (.iload_n 1, 1) := by decide +kernel
theorem dX8_count_1 : decode cX8_count 1 = .ok (.tableswitch 82 0 5 #[39, 44, 49, 67, 72, 77], 39) := by decide +kernel
theorem dX8_count_40 : decode cX8_count 40 = .ok (.aload_n 0, 1) := by decide +kernel
theorem dX8_count_41 : decode cX8_count 41 = .ok (.invokevirtual 107, 3) := by decide +kernel
theorem dX8_count_44 : decode cX8_count 44 = .ok (.ireturn, 1) := by decide +kernel
theorem dX8_count_45 : decode cX8_count 45 = .ok (.aload_n 0, 1) := by decide +kernel
theorem dX8_count_46 : decode cX8_count 46 = .ok (.invokevirtual 133, 3) := by decide +kernel
theorem dX8_count_49 : decode cX8_count 49 = .ok (.ireturn, 1) := by decide +kernel
theorem dX8_count_50 : decode cX8_count 50 = .ok (.aload_n 0, 1) := by decide +kernel
theorem dX8_count_51 : decode cX8_count 51 = .ok (.bipush 31, 2) := by decide +kernel
theorem dX8_count_53 : decode cX8_count 53 = .ok (.putfield 72, 3) := by decide +kernel
theorem dX8_count_56 : decode cX8_count 56 = .ok (.aload_n 0, 1) := by decide +kernel
theorem dX8_count_57 : decode cX8_count 57 = .ok (.sipush 999, 3) := by decide +kernel
theorem dX8_count_60 : decode cX8_count 60 = .ok (.invokevirtual 174, 3) := by decide +kernel
theorem dX8_count_63 : decode cX8_count 63 = .ok (.aload_n 0, 1) := by decide +kernel
theorem dX8_count_64 : decode cX8_count 64 = .ok (.getfield 124, 3) := by decide +kernel
theorem dX8_count_67 : decode cX8_count 67 = .ok (.ireturn, 1) := by decide +kernel
theorem dX8_count_68 : decode cX8_count 68 = .ok (.aload_n 0, 1) := by decide +kernel
theorem dX8_count_69 : decode cX8_count 69 = .ok (.invokevirtual 191, 3) := by decide +kernel
theorem dX8_count_72 : decode cX8_count 72 = .ok (.ireturn, 1) := by decide +kernel
theorem dX8_count_73 : decode cX8_count 73 = .ok (.aload_n 0, 1) := by decide +kernel
theorem dX8_count_74 : decode cX8_count 74 = .ok (.invokevirtual 400, 3) := by decide +kernel
theorem dX8_count_77 : decode cX8_count 77 = .ok (.ireturn, 1) := by decide +kernel
theorem dX8_count_78 : decode cX8_count 78 = .ok (.aload_n 0, 1) := by decide +kernel
theorem dX8_count_79 : decode cX8_count 79 = .ok (.getfield 196, 3) := by decide +kernel
theorem dX8_count_82 : decode cX8_count 82 = .ok (.ireturn, 1) := by decide +kernel
theorem dX8_count_83 : decode cX8_count 83 = .ok (.bipush (-2), 2) := by decide +kernel
theorem dX8_count_85 : decode cX8_count 85 = .ok (.ireturn, 1) := by decide +kernel
def f_X8_count (n : Nat) (x1 : Int32) (M : m_M) : Option (Int32 × m_M) :=
  if x1 = 0 then
  m_bd (f_X8_persons M) fun r2 =>
  some (r2, M)
  else
  if x1 = 1 then
  m_bd (f_X8_notes M) fun r4 =>
  some (r4, M)
  else
  if x1 = 2 then
  m_bd (m_sI M 172 24 31) fun M6 =>
  m_ob (f_X8_layDay n 999 M6) fun M7 =>
  some ((M7.1 172 22), M7)
  else
  if x1 = 3 then
  m_ob (f_X8_doubtMany n M) fun r9 =>
  some (r9, M)
  else
  if x1 = 4 then
  m_bd (f_X8_lined M) fun r11 =>
  some (r11, M)
  else
  if x1 = 5 then
  some ((M.1 172 4), M)
  else
  some ((-2), M)
set_option maxHeartbeats 4000000 in
set_option maxRecDepth 100000 in
theorem c_X8_count (l : Launch) (G : m_G) {n : Nat} {x1 : Int32} {M : m_M} {r0 : Int32} {M0 : m_M}  (hres : f_X8_count n x1 M = some (r0, M0)) : Met l yX8_count (m_U yX8_count cX8_count 2 (some .int)) (m_R 3 72) (m_Pc G [.ref (m_ad G 172), .int x1] M) (m_Qi G r0 M0) 0 0 (m_A G) := by
  refine m_i0 (n := 2) RX8 rfl (by decide) (Nat.le_of_ble_eq_true rfl) ?_
  intro p e s m args below meth c X hr hlk hSt hP hS ls hl
  have hl : lv_has ls 2 [(0, .ref (m_ad G 172)), (1, .int x1)] := hl
  unfold f_X8_count at hres
  refine lv_iload_n X.1 X.2.1 dX8_count_0 rfl (lv_at hl 1 rfl) ?_
  by_cases hc1 : x1 = 0
  · have hres := m_it hres hc1
    refine m_tin (tgt := 40) X dX8_count_1 ⟨_, hc1, by decide, by decide, rfl⟩ (by decide) ?_
    refine lv_aload_n X.1 X.2.1 dX8_count_40 rfl (lv_at hl 0 rfl) ?_
    obtain ⟨r2, err2, hres⟩ := m_bd_e hres
    refine m_bi (m_cV (n := 0) (As := []) (rest := []) X hSt hP hS hl.1 (c_X8_persons l G  err2) k_c_yX8_persons k_m_X8_107 k_i_yX8_persons k_s_yX8_persons k_n_X8 (by decide +kernel) (m_rc8 hSt hP m_z_172) rfl rfl ⟨Nat.le_of_ble_eq_true rfl, Nat.le_of_ble_eq_true rfl⟩ (Nat.le_of_ble_eq_true rfl) ⟨Nat.zero_le _, Nat.zero_le _⟩ dX8_count_41) hS (fun H locs hP hS => ?_)
    exact m_ri X hr hlk hP hS (Prod.mk.inj (Option.some.inj hres)).1 (Prod.mk.inj (Option.some.inj hres)).2 dX8_count_44
  · have hres := m_if hres hc1
    by_cases hc3 : x1 = 1
    · have hres := m_it hres hc3
      refine m_tin (tgt := 45) X dX8_count_1 ⟨_, hc3, by decide, by decide, rfl⟩ (by decide) ?_
      refine lv_aload_n X.1 X.2.1 dX8_count_45 rfl (lv_at hl 0 rfl) ?_
      obtain ⟨r4, err4, hres⟩ := m_bd_e hres
      refine m_bi (m_cV (n := 0) (As := []) (rest := []) X hSt hP hS hl.1 (c_X8_notes l G  err4) k_c_yX8_notes k_m_X8_133 k_i_yX8_notes k_s_yX8_notes k_n_X8 (by decide +kernel) (m_rc8 hSt hP m_z_172) rfl rfl ⟨Nat.le_of_ble_eq_true rfl, Nat.le_of_ble_eq_true rfl⟩ (Nat.le_of_ble_eq_true rfl) ⟨Nat.zero_le _, Nat.zero_le _⟩ dX8_count_46) hS (fun H locs hP hS => ?_)
      exact m_ri X hr hlk hP hS (Prod.mk.inj (Option.some.inj hres)).1 (Prod.mk.inj (Option.some.inj hres)).2 dX8_count_49
    · have hres := m_if hres hc3
      by_cases hc5 : x1 = 2
      · have hres := m_it hres hc5
        refine m_tin (tgt := 50) X dX8_count_1 ⟨_, hc5, by decide, by decide, rfl⟩ (by decide) ?_
        refine lv_aload_n X.1 X.2.1 dX8_count_50 rfl (lv_at hl 0 rfl) ?_
        refine lv_bipush (v := 31) X.1 X.2.1 dX8_count_51 (by decide) ?_
        obtain ⟨M6, eM6, hres⟩ := m_bd_e hres
        refine m_pi8 X hSt hP hS m_z_172 24 (by decide) eM6 rfl rfl (by decide) k_f_X8_72 dX8_count_53 (fun H locs hP hS => ?_)
        refine lv_aload_n X.1 X.2.1 dX8_count_56 rfl (lv_at hl 0 rfl) ?_
        refine lv_sipush (v := 999) X.1 X.2.1 dX8_count_57 (by decide) ?_
        obtain ⟨M7, eM7, hres⟩ := m_ob_e hres
        refine m_bv (m_cV (n := 1) (As := [.int 999]) (rest := []) X hSt hP hS hl.1 (c_X8_layDay l G  eM7) k_c_yX8_layDay k_m_X8_174 k_i_yX8_layDay k_s_yX8_layDay k_n_X8 (by decide +kernel) (m_rc8 hSt hP m_z_172) rfl rfl ⟨Nat.le_of_ble_eq_true rfl, Nat.le_of_ble_eq_true rfl⟩ (Nat.le_of_ble_eq_true rfl) ⟨Nat.zero_le _, Nat.zero_le _⟩ dX8_count_60) hS (fun H locs hP hS => ?_)
        refine lv_aload_n X.1 X.2.1 dX8_count_63 rfl (lv_at hl 0 rfl) ?_
        refine m_g8 (v := .int (M7.1 172 22)) X hSt hP m_z_172 22 (by decide) rfl k_f_X8_124 dX8_count_64 ?_
        exact m_ri X hr hlk hP hS (Prod.mk.inj (Option.some.inj hres)).1 (Prod.mk.inj (Option.some.inj hres)).2 dX8_count_67
      · have hres := m_if hres hc5
        by_cases hc8 : x1 = 3
        · have hres := m_it hres hc8
          refine m_tin (tgt := 68) X dX8_count_1 ⟨_, hc8, by decide, by decide, rfl⟩ (by decide) ?_
          refine lv_aload_n X.1 X.2.1 dX8_count_68 rfl (lv_at hl 0 rfl) ?_
          obtain ⟨r9, err9, hres⟩ := m_ob_e hres
          refine m_bi (m_cV (n := 0) (As := []) (rest := []) X hSt hP hS hl.1 (c_X8_doubtMany l G  err9) k_c_yX8_doubtMany k_m_X8_191 k_i_yX8_doubtMany k_s_yX8_doubtMany k_n_X8 (by decide +kernel) (m_rc8 hSt hP m_z_172) rfl rfl ⟨Nat.le_of_ble_eq_true rfl, Nat.le_of_ble_eq_true rfl⟩ (Nat.le_of_ble_eq_true rfl) ⟨Nat.zero_le _, Nat.zero_le _⟩ dX8_count_69) hS (fun H locs hP hS => ?_)
          exact m_ri X hr hlk hP hS (Prod.mk.inj (Option.some.inj hres)).1 (Prod.mk.inj (Option.some.inj hres)).2 dX8_count_72
        · have hres := m_if hres hc8
          by_cases hc10 : x1 = 4
          · have hres := m_it hres hc10
            refine m_tin (tgt := 73) X dX8_count_1 ⟨_, hc10, by decide, by decide, rfl⟩ (by decide) ?_
            refine lv_aload_n X.1 X.2.1 dX8_count_73 rfl (lv_at hl 0 rfl) ?_
            obtain ⟨r11, err11, hres⟩ := m_bd_e hres
            refine m_bi (m_cV (n := 0) (As := []) (rest := []) X hSt hP hS hl.1 (c_X8_lined l G  err11) k_c_yX8_lined k_m_X8_400 k_i_yX8_lined k_s_yX8_lined k_n_X8 (by decide +kernel) (m_rc8 hSt hP m_z_172) rfl rfl ⟨Nat.le_of_ble_eq_true rfl, Nat.le_of_ble_eq_true rfl⟩ (Nat.le_of_ble_eq_true rfl) ⟨Nat.zero_le _, Nat.zero_le _⟩ dX8_count_74) hS (fun H locs hP hS => ?_)
            exact m_ri X hr hlk hP hS (Prod.mk.inj (Option.some.inj hres)).1 (Prod.mk.inj (Option.some.inj hres)).2 dX8_count_77
          · have hres := m_if hres hc10
            by_cases hc12 : x1 = 5
            · have hres := m_it hres hc12
              refine m_tin (tgt := 78) X dX8_count_1 ⟨_, hc12, by decide, by decide, rfl⟩ (by decide) ?_
              refine lv_aload_n X.1 X.2.1 dX8_count_78 rfl (lv_at hl 0 rfl) ?_
              refine m_g8 (v := .int (M.1 172 4)) X hSt hP m_z_172 4 (by decide) rfl k_f_X8_196 dX8_count_79 ?_
              exact m_ri X hr hlk hP hS (Prod.mk.inj (Option.some.inj hres)).1 (Prod.mk.inj (Option.some.inj hres)).2 dX8_count_82
            · have hres := m_if hres hc12
              refine m_tdf (tgt := 83) X dX8_count_1 (by
    have := m_ne (z := 0) hc1 (by decide)
    have := m_ne (z := 1) hc3 (by decide)
    have := m_ne (z := 2) hc5 (by decide)
    have := m_ne (z := 3) hc8 (by decide)
    have := m_ne (z := 4) hc10 (by decide)
    have := m_ne (z := 5) hc12 (by decide)
    exact Or.inl (by omega)) (by decide) ?_
              refine lv_bipush (v := (-2)) X.1 X.2.1 dX8_count_83 (by decide) ?_
              exact m_ri X hr hlk hP hS (Prod.mk.inj (Option.some.inj hres)).1 (Prod.mk.inj (Option.some.inj hres)).2 dX8_count_85
theorem dX8_digest_0 : decode cX8_digest 0 = .ok (.ldc2_w 441, 3) := by decide +kernel
theorem dX8_digest_3 : decode cX8_digest 3 = .ok (.lstore_n 1, 1) := by decide +kernel
theorem dX8_digest_4 : decode cX8_digest 4 = .ok (.iconst 0, 1) := by decide +kernel
theorem dX8_digest_5 : decode cX8_digest 5 = .ok (.istore_n 3, 1) := by decide +kernel
theorem dX8_digest_6 : decode cX8_digest 6 = .ok (.iload_n 3, 1) := by decide +kernel
theorem dX8_digest_7 : decode cX8_digest 7 = .ok (.iconst 5, 1) := by decide +kernel
theorem dX8_digest_8 : decode cX8_digest 8 = .ok (.if_icmp .ge 22, 3) := by decide +kernel
theorem dX8_digest_11 : decode cX8_digest 11 = .ok (.ldc2_w 443, 3) := by decide +kernel
theorem dX8_digest_14 : decode cX8_digest 14 = .ok (.lload_n 1, 1) := by decide +kernel
theorem dX8_digest_15 : decode cX8_digest 15 = .ok (.lmul, 1) := by decide +kernel
theorem dX8_digest_16 : decode cX8_digest 16 = .ok (.aload_n 0, 1) := by decide +kernel
theorem dX8_digest_17 : decode cX8_digest 17 = .ok (.iload_n 3, 1) := by decide +kernel
theorem dX8_digest_18 : decode cX8_digest 18 = .ok (.invokevirtual 445, 3) := by decide +kernel
theorem dX8_digest_21 : decode cX8_digest 21 = .ok (.i2l, 1) := by decide +kernel
theorem dX8_digest_22 : decode cX8_digest 22 = .ok (.ladd, 1) := by decide +kernel
theorem dX8_digest_23 : decode cX8_digest 23 = .ok (.lstore_n 1, 1) := by decide +kernel
theorem dX8_digest_24 : decode cX8_digest 24 = .ok (.iinc 3 1, 3) := by decide +kernel
theorem dX8_digest_27 : decode cX8_digest 27 = .ok (.goto (-21), 3) := by decide +kernel
theorem dX8_digest_30 : decode cX8_digest 30 = .ok (.iconst 0, 1) := by decide +kernel
theorem dX8_digest_31 : decode cX8_digest 31 = .ok (.istore_n 3, 1) := by decide +kernel
theorem dX8_digest_32 : decode cX8_digest 32 = .ok (.iload_n 3, 1) := by decide +kernel
theorem dX8_digest_33 : decode cX8_digest 33 = .ok (.bipush 6, 2) := by decide +kernel
theorem dX8_digest_35 : decode cX8_digest 35 = .ok (.aload_n 0, 1) := by decide +kernel
theorem dX8_digest_36 : decode cX8_digest 36 = .ok (.invokevirtual 133, 3) := by decide +kernel
theorem dX8_digest_39 : decode cX8_digest 39 = .ok (.imul, 1) := by decide +kernel
theorem dX8_digest_40 : decode cX8_digest 40 = .ok (.if_icmp .ge 25, 3) := by decide +kernel
theorem dX8_digest_43 : decode cX8_digest 43 = .ok (.ldc2_w 443, 3) := by decide +kernel
theorem dX8_digest_46 : decode cX8_digest 46 = .ok (.lload_n 1, 1) := by decide +kernel
theorem dX8_digest_47 : decode cX8_digest 47 = .ok (.lmul, 1) := by decide +kernel
theorem dX8_digest_48 : decode cX8_digest 48 = .ok (.aload_n 0, 1) := by decide +kernel
theorem dX8_digest_49 : decode cX8_digest 49 = .ok (.getfield 7, 3) := by decide +kernel
theorem dX8_digest_52 : decode cX8_digest 52 = .ok (.iconst 0, 1) := by decide +kernel
theorem dX8_digest_53 : decode cX8_digest 53 = .ok (.iload_n 3, 1) := by decide +kernel
theorem dX8_digest_54 : decode cX8_digest 54 = .ok (.iadd, 1) := by decide +kernel
theorem dX8_digest_55 : decode cX8_digest 55 = .ok (.iaload, 1) := by decide +kernel
theorem dX8_digest_56 : decode cX8_digest 56 = .ok (.i2l, 1) := by decide +kernel
theorem dX8_digest_57 : decode cX8_digest 57 = .ok (.ladd, 1) := by decide +kernel
theorem dX8_digest_58 : decode cX8_digest 58 = .ok (.lstore_n 1, 1) := by decide +kernel
theorem dX8_digest_59 : decode cX8_digest 59 = .ok (.iinc 3 1, 3) := by decide +kernel
theorem dX8_digest_62 : decode cX8_digest 62 = .ok (.goto (-30), 3) := by decide +kernel
theorem dX8_digest_65 : decode cX8_digest 65 = .ok (.iconst 0, 1) := by decide +kernel
theorem dX8_digest_66 : decode cX8_digest 66 = .ok (.istore_n 3, 1) := by decide +kernel
theorem dX8_digest_67 : decode cX8_digest 67 = .ok (.iload_n 3, 1) := by decide +kernel
theorem dX8_digest_68 : decode cX8_digest 68 = .ok (.iconst 2, 1) := by decide +kernel
theorem dX8_digest_69 : decode cX8_digest 69 = .ok (.if_icmp .ge 60, 3) := by decide +kernel
theorem dX8_digest_72 : decode cX8_digest 72 = .ok (.iconst 0, 1) := by decide +kernel
theorem dX8_digest_73 : decode cX8_digest 73 = .ok (.istore 4, 2) := by decide +kernel
theorem dX8_digest_75 : decode cX8_digest 75 = .ok (.iload 4, 2) := by decide +kernel
theorem dX8_digest_77 : decode cX8_digest 77 = .ok (.aload_n 0, 1) := by decide +kernel
theorem dX8_digest_78 : decode cX8_digest 78 = .ok (.getfield 7, 3) := by decide +kernel
theorem dX8_digest_81 : decode cX8_digest 81 = .ok (.sipush 360, 3) := by decide +kernel
theorem dX8_digest_84 : decode cX8_digest 84 = .ok (.bipush 51, 2) := by decide +kernel
theorem dX8_digest_86 : decode cX8_digest 86 = .ok (.iload_n 3, 1) := by decide +kernel
theorem dX8_digest_87 : decode cX8_digest 87 = .ok (.imul, 1) := by decide +kernel
theorem dX8_digest_88 : decode cX8_digest 88 = .ok (.iadd, 1) := by decide +kernel
theorem dX8_digest_89 : decode cX8_digest 89 = .ok (.iaload, 1) := by decide +kernel
theorem dX8_digest_90 : decode cX8_digest 90 = .ok (.if_icmp .gt 33, 3) := by decide +kernel
theorem dX8_digest_93 : decode cX8_digest 93 = .ok (.ldc2_w 443, 3) := by decide +kernel
theorem dX8_digest_96 : decode cX8_digest 96 = .ok (.lload_n 1, 1) := by decide +kernel
theorem dX8_digest_97 : decode cX8_digest 97 = .ok (.lmul, 1) := by decide +kernel
theorem dX8_digest_98 : decode cX8_digest 98 = .ok (.aload_n 0, 1) := by decide +kernel
theorem dX8_digest_99 : decode cX8_digest 99 = .ok (.getfield 7, 3) := by decide +kernel
theorem dX8_digest_102 : decode cX8_digest 102 = .ok (.sipush 360, 3) := by decide +kernel
theorem dX8_digest_105 : decode cX8_digest 105 = .ok (.bipush 51, 2) := by decide +kernel
theorem dX8_digest_107 : decode cX8_digest 107 = .ok (.iload_n 3, 1) := by decide +kernel
theorem dX8_digest_108 : decode cX8_digest 108 = .ok (.imul, 1) := by decide +kernel
theorem dX8_digest_109 : decode cX8_digest 109 = .ok (.iadd, 1) := by decide +kernel
theorem dX8_digest_110 : decode cX8_digest 110 = .ok (.iload 4, 2) := by decide +kernel
theorem dX8_digest_112 : decode cX8_digest 112 = .ok (.iadd, 1) := by decide +kernel
theorem dX8_digest_113 : decode cX8_digest 113 = .ok (.iaload, 1) := by decide +kernel
theorem dX8_digest_114 : decode cX8_digest 114 = .ok (.i2l, 1) := by decide +kernel
theorem dX8_digest_115 : decode cX8_digest 115 = .ok (.ladd, 1) := by decide +kernel
theorem dX8_digest_116 : decode cX8_digest 116 = .ok (.lstore_n 1, 1) := by decide +kernel
theorem dX8_digest_117 : decode cX8_digest 117 = .ok (.iinc 4 1, 3) := by decide +kernel
theorem dX8_digest_120 : decode cX8_digest 120 = .ok (.goto (-45), 3) := by decide +kernel
theorem dX8_digest_123 : decode cX8_digest 123 = .ok (.iinc 3 1, 3) := by decide +kernel
theorem dX8_digest_126 : decode cX8_digest 126 = .ok (.goto (-59), 3) := by decide +kernel
theorem dX8_digest_129 : decode cX8_digest 129 = .ok (.iconst 0, 1) := by decide +kernel
theorem dX8_digest_130 : decode cX8_digest 130 = .ok (.istore_n 3, 1) := by decide +kernel
theorem dX8_digest_131 : decode cX8_digest 131 = .ok (.iload_n 3, 1) := by decide +kernel
theorem dX8_digest_132 : decode cX8_digest 132 = .ok (.aload_n 0, 1) := by decide +kernel
theorem dX8_digest_133 : decode cX8_digest 133 = .ok (.invokevirtual 400, 3) := by decide +kernel
theorem dX8_digest_136 : decode cX8_digest 136 = .ok (.if_icmp .ge 27, 3) := by decide +kernel
theorem dX8_digest_139 : decode cX8_digest 139 = .ok (.ldc2_w 443, 3) := by decide +kernel
theorem dX8_digest_142 : decode cX8_digest 142 = .ok (.lload_n 1, 1) := by decide +kernel
theorem dX8_digest_143 : decode cX8_digest 143 = .ok (.lmul, 1) := by decide +kernel
theorem dX8_digest_144 : decode cX8_digest 144 = .ok (.aload_n 0, 1) := by decide +kernel
theorem dX8_digest_145 : decode cX8_digest 145 = .ok (.getfield 7, 3) := by decide +kernel
theorem dX8_digest_148 : decode cX8_digest 148 = .ok (.sipush 462, 3) := by decide +kernel
theorem dX8_digest_151 : decode cX8_digest 151 = .ok (.iload_n 3, 1) := by decide +kernel
theorem dX8_digest_152 : decode cX8_digest 152 = .ok (.iadd, 1) := by decide +kernel
theorem dX8_digest_153 : decode cX8_digest 153 = .ok (.iaload, 1) := by decide +kernel
theorem dX8_digest_154 : decode cX8_digest 154 = .ok (.i2l, 1) := by decide +kernel
theorem dX8_digest_155 : decode cX8_digest 155 = .ok (.ladd, 1) := by decide +kernel
theorem dX8_digest_156 : decode cX8_digest 156 = .ok (.lstore_n 1, 1) := by decide +kernel
theorem dX8_digest_157 : decode cX8_digest 157 = .ok (.iinc 3 1, 3) := by decide +kernel
theorem dX8_digest_160 : decode cX8_digest 160 = .ok (.goto (-29), 3) := by decide +kernel
theorem dX8_digest_163 : decode cX8_digest 163 = .ok (.aload_n 0, 1) := by decide +kernel
theorem dX8_digest_164 : decode cX8_digest 164 = .ok (.sipush 999, 3) := by decide +kernel
theorem dX8_digest_167 : decode cX8_digest 167 = .ok (.invokevirtual 350, 3) := by decide +kernel
theorem dX8_digest_170 : decode cX8_digest 170 = .ok (.iconst 0, 1) := by decide +kernel
theorem dX8_digest_171 : decode cX8_digest 171 = .ok (.istore_n 3, 1) := by decide +kernel
theorem dX8_digest_172 : decode cX8_digest 172 = .ok (.iload_n 3, 1) := by decide +kernel
theorem dX8_digest_173 : decode cX8_digest 173 = .ok (.aload_n 0, 1) := by decide +kernel
theorem dX8_digest_174 : decode cX8_digest 174 = .ok (.invokevirtual 107, 3) := by decide +kernel
theorem dX8_digest_177 : decode cX8_digest 177 = .ok (.if_icmp .ge 64, 3) := by decide +kernel
theorem dX8_digest_180 : decode cX8_digest 180 = .ok (.ldc2_w 443, 3) := by decide +kernel
theorem dX8_digest_183 : decode cX8_digest 183 = .ok (.ldc2_w 443, 3) := by decide +kernel
theorem dX8_digest_186 : decode cX8_digest 186 = .ok (.lload_n 1, 1) := by decide +kernel
theorem dX8_digest_187 : decode cX8_digest 187 = .ok (.lmul, 1) := by decide +kernel
theorem dX8_digest_188 : decode cX8_digest 188 = .ok (.aload_n 0, 1) := by decide +kernel
theorem dX8_digest_189 : decode cX8_digest 189 = .ok (.getfield 27, 3) := by decide +kernel
theorem dX8_digest_192 : decode cX8_digest 192 = .ok (.iload_n 3, 1) := by decide +kernel
theorem dX8_digest_193 : decode cX8_digest 193 = .ok (.iaload, 1) := by decide +kernel
theorem dX8_digest_194 : decode cX8_digest 194 = .ok (.i2l, 1) := by decide +kernel
theorem dX8_digest_195 : decode cX8_digest 195 = .ok (.ladd, 1) := by decide +kernel
theorem dX8_digest_196 : decode cX8_digest 196 = .ok (.lmul, 1) := by decide +kernel
theorem dX8_digest_197 : decode cX8_digest 197 = .ok (.aload_n 0, 1) := by decide +kernel
theorem dX8_digest_198 : decode cX8_digest 198 = .ok (.iload_n 3, 1) := by decide +kernel
theorem dX8_digest_199 : decode cX8_digest 199 = .ok (.invokevirtual 326, 3) := by decide +kernel
theorem dX8_digest_202 : decode cX8_digest 202 = .ok (.i2l, 1) := by decide +kernel
theorem dX8_digest_203 : decode cX8_digest 203 = .ok (.ladd, 1) := by decide +kernel
theorem dX8_digest_204 : decode cX8_digest 204 = .ok (.lstore_n 1, 1) := by decide +kernel
theorem dX8_digest_205 : decode cX8_digest 205 = .ok (.ldc2_w 443, 3) := by decide +kernel
theorem dX8_digest_208 : decode cX8_digest 208 = .ok (.ldc2_w 443, 3) := by decide +kernel
theorem dX8_digest_211 : decode cX8_digest 211 = .ok (.lload_n 1, 1) := by decide +kernel
theorem dX8_digest_212 : decode cX8_digest 212 = .ok (.lmul, 1) := by decide +kernel
theorem dX8_digest_213 : decode cX8_digest 213 = .ok (.aload_n 0, 1) := by decide +kernel
theorem dX8_digest_214 : decode cX8_digest 214 = .ok (.iload_n 3, 1) := by decide +kernel
theorem dX8_digest_215 : decode cX8_digest 215 = .ok (.iconst 0, 1) := by decide +kernel
theorem dX8_digest_216 : decode cX8_digest 216 = .ok (.iconst 0, 1) := by decide +kernel
theorem dX8_digest_217 : decode cX8_digest 217 = .ok (.iconst 0, 1) := by decide +kernel
theorem dX8_digest_218 : decode cX8_digest 218 = .ok (.invokevirtual 337, 3) := by decide +kernel
theorem dX8_digest_221 : decode cX8_digest 221 = .ok (.i2l, 1) := by decide +kernel
theorem dX8_digest_222 : decode cX8_digest 222 = .ok (.ladd, 1) := by decide +kernel
theorem dX8_digest_223 : decode cX8_digest 223 = .ok (.lmul, 1) := by decide +kernel
theorem dX8_digest_224 : decode cX8_digest 224 = .ok (.aload_n 0, 1) := by decide +kernel
theorem dX8_digest_225 : decode cX8_digest 225 = .ok (.iload_n 3, 1) := by decide +kernel
theorem dX8_digest_226 : decode cX8_digest 226 = .ok (.iconst 1, 1) := by decide +kernel
theorem dX8_digest_227 : decode cX8_digest 227 = .ok (.iconst 0, 1) := by decide +kernel
theorem dX8_digest_228 : decode cX8_digest 228 = .ok (.iconst 0, 1) := by decide +kernel
theorem dX8_digest_229 : decode cX8_digest 229 = .ok (.invokevirtual 337, 3) := by decide +kernel
theorem dX8_digest_232 : decode cX8_digest 232 = .ok (.i2l, 1) := by decide +kernel
theorem dX8_digest_233 : decode cX8_digest 233 = .ok (.ladd, 1) := by decide +kernel
theorem dX8_digest_234 : decode cX8_digest 234 = .ok (.lstore_n 1, 1) := by decide +kernel
theorem dX8_digest_235 : decode cX8_digest 235 = .ok (.iinc 3 1, 3) := by decide +kernel
theorem dX8_digest_238 : decode cX8_digest 238 = .ok (.goto (-66), 3) := by decide +kernel
theorem dX8_digest_241 : decode cX8_digest 241 = .ok (.ldc2_w 443, 3) := by decide +kernel
theorem dX8_digest_244 : decode cX8_digest 244 = .ok (.ldc2_w 443, 3) := by decide +kernel
theorem dX8_digest_247 : decode cX8_digest 247 = .ok (.lload_n 1, 1) := by decide +kernel
theorem dX8_digest_248 : decode cX8_digest 248 = .ok (.lmul, 1) := by decide +kernel
theorem dX8_digest_249 : decode cX8_digest 249 = .ok (.aload_n 0, 1) := by decide +kernel
theorem dX8_digest_250 : decode cX8_digest 250 = .ok (.getfield 386, 3) := by decide +kernel
theorem dX8_digest_253 : decode cX8_digest 253 = .ok (.ladd, 1) := by decide +kernel
theorem dX8_digest_254 : decode cX8_digest 254 = .ok (.lmul, 1) := by decide +kernel
theorem dX8_digest_255 : decode cX8_digest 255 = .ok (.aload_n 0, 1) := by decide +kernel
theorem dX8_digest_256 : decode cX8_digest 256 = .ok (.getfield 23, 3) := by decide +kernel
theorem dX8_digest_259 : decode cX8_digest 259 = .ok (.ladd, 1) := by decide +kernel
theorem dX8_digest_260 : decode cX8_digest 260 = .ok (.lreturn, 1) := by decide +kernel
def f_X8_digest_b172 (n : Nat) : Nat → Int64 → Int32 → m_M → Option (Int64 × m_M)
  | 0, _, _, _ => none
  | u + 1, x1, x3, M =>
    m_bd (f_X8_persons M) fun r1 =>
  if r1 ≤ x3 then
  some ((((31 : Int64) * (((31 : Int64) * x1) + (M.2 172 5))) + (M.2 172 6)), M)
  else
  m_gd (m_in x3 10) (
  m_ob (f_X8_inAll x3 M) fun r4 =>
  m_bd (((31 : Int64) * (((31 : Int64) * x1) + ((M.1 177 x3.toNatClampNeg).toInt64))) + r4.toInt64) fun t5 =>
  m_o2 (f_X8_netOf n x3 0 0 0 M) fun r6 M7 =>
  m_o2 (f_X8_netOf n x3 1 0 0 M7) fun r8 M9 =>
  m_bd (((31 : Int64) * (((31 : Int64) * t5) + r6.toInt64)) + r8.toInt64) fun t10 =>
  f_X8_digest_b172 n u t10 (x3 + 1) M9)
def f_X8_digest_b131 (n : Nat) : Nat → Int64 → Int32 → m_M → Option (Int64 × m_M)
  | 0, _, _, _ => none
  | u + 1, x1, x3, M =>
    m_bd (f_X8_lined M) fun r11 =>
  if r11 ≤ x3 then
  m_ob (f_X8_layToday n 999 M) fun M13 =>
  f_X8_digest_b172 n n x1 0 M13
  else
  m_gd (m_in ((462 : Int32) + x3) 471) (
  m_bd (((31 : Int64) * x1) + ((M.1 173 (((462 : Int32) + x3).toNatClampNeg)).toInt64)) fun t15 =>
  f_X8_digest_b131 n u t15 (x3 + 1) M)
def f_X8_digest_b75 (n : Nat) (q67 : Int64 → Int32 → m_M → Option (Int64 × m_M)) : Nat → Int64 → Int32 → Int32 → m_M → Option (Int64 × m_M)
  | 0, _, _, _, _ => none
  | u + 1, x1, x3, x4, M =>
    m_gd (m_in ((360 : Int32) + ((51 : Int32) * x3)) 471) (
  if (M.1 173 (((360 : Int32) + ((51 : Int32) * x3)).toNatClampNeg)) < x4 then
  q67 x1 (x3 + 1) M
  else
  m_gd (m_in (((360 : Int32) + ((51 : Int32) * x3)) + x4) 471) (
  m_bd (((31 : Int64) * x1) + ((M.1 173 ((((360 : Int32) + ((51 : Int32) * x3)) + x4).toNatClampNeg)).toInt64)) fun t19 =>
  f_X8_digest_b75 n q67 u t19 x3 (x4 + 1) M))
def f_X8_digest_b67 (n : Nat) : Nat → Int64 → Int32 → m_M → Option (Int64 × m_M)
  | 0, _, _, _ => none
  | u + 1, x1, x3, M =>
    if (2 : Int32) ≤ x3 then
  f_X8_digest_b131 n n x1 0 M
  else
  f_X8_digest_b75 n (f_X8_digest_b67 n u) n x1 x3 0 M
def f_X8_digest_b32 (n : Nat) : Nat → Int64 → Int32 → m_M → Option (Int64 × m_M)
  | 0, _, _, _ => none
  | u + 1, x1, x3, M =>
    m_bd (f_X8_notes M) fun r21 =>
  if ((6 : Int32) * r21) ≤ x3 then
  f_X8_digest_b67 n n x1 0 M
  else
  m_gd (m_in ((0 : Int32) + x3) 471) (
  m_bd (((31 : Int64) * x1) + ((M.1 173 (((0 : Int32) + x3).toNatClampNeg)).toInt64)) fun t24 =>
  f_X8_digest_b32 n u t24 (x3 + 1) M)
def f_X8_digest_b6 (n : Nat) : Nat → Int64 → Int32 → m_M → Option (Int64 × m_M)
  | 0, _, _, _ => none
  | u + 1, x1, x3, M =>
    if (5 : Int32) ≤ x3 then
  f_X8_digest_b32 n n x1 0 M
  else
  m_o2 (f_X8_count n x3 M) fun r26 M27 =>
  m_bd (((31 : Int64) * x1) + r26.toInt64) fun t28 =>
  f_X8_digest_b6 n u t28 (x3 + 1) M27
def f_X8_digest (n : Nat) (M : m_M) : Option (Int64 × m_M) :=
  f_X8_digest_b6 n n 491 0 M
set_option maxHeartbeats 4000000 in
set_option maxRecDepth 100000 in
theorem c_X8_digest (l : Launch) (G : m_G) {n : Nat} {M : m_M} {r0 : Int64} {M0 : m_M}  (hres : f_X8_digest n M = some (r0, M0)) : Met l yX8_digest (m_U yX8_digest cX8_digest 5 (some .long)) (m_R 8 182) (m_Pc G [.ref (m_ad G 172)] M) (m_Ql G r0 M0) 0 0 (m_A G) := by
  refine m_i0 (n := 5) RX8 rfl (by decide) (Nat.le_of_ble_eq_true rfl) ?_
  intro p e s m args below meth c X hr hlk hSt hP hS ls hl
  have hl : lv_has ls 5 [(0, .ref (m_ad G 172))] := hl
  have B172 : ∀ (u : Nat) (x1 : Int64) (x3 : Int32) (M : m_M) (H : Heap) (locs : List Loc) (ls : Array Slot), m_P G M H → va_S (m_A G) s.heap H locs → lv_has ls 5 [(0, .ref (m_ad G 172)), (1, .long x1), (3, .int x3)] → f_X8_digest_b172 n u x1 x3 M = some (r0, M0) → W p l e (m_R 8 182) s m args below meth c H locs 0 0 (MQ below (m_Ql G r0 M0) args s 0 0 (m_A G)) (F0 m 172 ls []) := by
    intro u
    induction u with
    | zero =>
      intro x1 x3 M H locs ls hP hS hl hres
      cases hres
    | succ u ih =>
      intro x1 x3 M H locs ls hP hS hl hres
      rw [f_X8_digest_b172] at hres
      refine lv_iload_n X.1 X.2.1 dX8_digest_172 rfl (lv_at hl 2 rfl) ?_
      refine lv_aload_n X.1 X.2.1 dX8_digest_173 rfl (lv_at hl 0 rfl) ?_
      obtain ⟨r1, err1, hres⟩ := m_bd_e hres
      refine m_bi (m_cV (n := 0) (As := []) (rest := [.int x3]) X hSt hP hS hl.1 (c_X8_persons l G  err1) k_c_yX8_persons k_m_X8_107 k_i_yX8_persons k_s_yX8_persons k_n_X8 (by decide +kernel) (m_rc8 hSt hP m_z_172) rfl rfl ⟨Nat.le_of_ble_eq_true rfl, Nat.le_of_ble_eq_true rfl⟩ (Nat.le_of_ble_eq_true rfl) ⟨Nat.zero_le _, Nat.zero_le _⟩ dX8_digest_174) hS (fun H locs hP hS => ?_)
      refine lv_icmp_ge (tgt := 241) X.1 X.2.1 dX8_digest_177 (by decide) (fun hc2 => ?_) (fun hc2 => ?_)
      · have hres := m_it hres hc2
        refine lv_ldc2 (v := 31) X.1 X.2.1 X.2.2.2.1 (X.2.2.2.2 _ k_l_X8_443) dX8_digest_241 ?_
        refine lv_ldc2 (v := 31) X.1 X.2.1 X.2.2.2.1 (X.2.2.2.2 _ k_l_X8_443) dX8_digest_244 ?_
        refine lv_lload_n X.1 X.2.1 dX8_digest_247 rfl (lv_at hl 1 rfl) ?_
        refine lv_lmul X.1 X.2.1 dX8_digest_248 ?_
        refine lv_aload_n X.1 X.2.1 dX8_digest_249 rfl (lv_at hl 0 rfl) ?_
        refine m_g8 (v := .long (M.2 172 5)) X hSt hP m_z_172 5 (by decide) rfl k_f_X8_386 dX8_digest_250 ?_
        refine lv_ladd X.1 X.2.1 dX8_digest_253 ?_
        refine lv_lmul X.1 X.2.1 dX8_digest_254 ?_
        refine lv_aload_n X.1 X.2.1 dX8_digest_255 rfl (lv_at hl 0 rfl) ?_
        refine m_g8 (v := .long (M.2 172 6)) X hSt hP m_z_172 6 (by decide) rfl k_f_X8_23 dX8_digest_256 ?_
        refine lv_ladd X.1 X.2.1 dX8_digest_259 ?_
        exact m_rl X hr hlk hP hS (Prod.mk.inj (Option.some.inj hres)).1 (Prod.mk.inj (Option.some.inj hres)).2 dX8_digest_260
      · have hres := m_if hres hc2
        refine lv_ldc2 (v := 31) X.1 X.2.1 X.2.2.2.1 (X.2.2.2.2 _ k_l_X8_443) dX8_digest_180 ?_
        refine lv_ldc2 (v := 31) X.1 X.2.1 X.2.2.2.1 (X.2.2.2.2 _ k_l_X8_443) dX8_digest_183 ?_
        refine lv_lload_n X.1 X.2.1 dX8_digest_186 rfl (lv_at hl 1 rfl) ?_
        refine lv_lmul X.1 X.2.1 dX8_digest_187 ?_
        refine lv_aload_n X.1 X.2.1 dX8_digest_188 rfl (lv_at hl 0 rfl) ?_
        refine m_g8 (v := .ref (m_ad G 177)) X hSt hP m_z_172 7 (by decide) rfl k_f_X8_27 dX8_digest_189 ?_
        refine lv_iload_n X.1 X.2.1 dX8_digest_192 rfl (lv_at hl 2 rfl) ?_
        obtain ⟨hg3, hres⟩ := m_gd_e hres
        refine m_ia (j := x3.toNatClampNeg) X hSt hP m_z_177 hg3 rfl dX8_digest_193 ?_
        refine lv_i2l (v := (M.1 177 x3.toNatClampNeg).toInt64) X.1 X.2.1 dX8_digest_194 rfl ?_
        refine lv_ladd X.1 X.2.1 dX8_digest_195 ?_
        refine lv_lmul X.1 X.2.1 dX8_digest_196 ?_
        refine lv_aload_n X.1 X.2.1 dX8_digest_197 rfl (lv_at hl 0 rfl) ?_
        refine lv_iload_n X.1 X.2.1 dX8_digest_198 rfl (lv_at hl 2 rfl) ?_
        obtain ⟨r4, err4, hres⟩ := m_ob_e hres
        refine m_bi (m_cV (n := 1) (As := [.int x3]) (rest := [.long ((31 : Int64) * (((31 : Int64) * x1) + ((M.1 177 x3.toNatClampNeg).toInt64)))]) X hSt hP hS hl.1 (c_X8_inAll l G  err4) k_c_yX8_inAll k_m_X8_326 k_i_yX8_inAll k_s_yX8_inAll k_n_X8 (by decide +kernel) (m_rc8 hSt hP m_z_172) rfl rfl ⟨Nat.le_of_ble_eq_true rfl, Nat.le_of_ble_eq_true rfl⟩ (Nat.le_of_ble_eq_true rfl) ⟨Nat.zero_le _, Nat.zero_le _⟩ dX8_digest_199) hS (fun H locs hP hS => ?_)
        refine lv_i2l (v := r4.toInt64) X.1 X.2.1 dX8_digest_202 rfl ?_
        refine lv_ladd X.1 X.2.1 dX8_digest_203 ?_
        obtain ⟨t5, et5, hres⟩ := m_bd_e hres
        refine m_tl et5 ?_
        refine lv_lstore_n (lv' := [(1, .long t5), (0, .ref (m_ad G 172)), (3, .int x3)]) X.1 X.2.1 dX8_digest_204 rfl hl (by decide) rfl (fun ls hl => ?_)
        refine lv_ldc2 (v := 31) X.1 X.2.1 X.2.2.2.1 (X.2.2.2.2 _ k_l_X8_443) dX8_digest_205 ?_
        refine lv_ldc2 (v := 31) X.1 X.2.1 X.2.2.2.1 (X.2.2.2.2 _ k_l_X8_443) dX8_digest_208 ?_
        refine lv_lload_n X.1 X.2.1 dX8_digest_211 rfl (lv_at hl 0 rfl) ?_
        refine lv_lmul X.1 X.2.1 dX8_digest_212 ?_
        refine lv_aload_n X.1 X.2.1 dX8_digest_213 rfl (lv_at hl 1 rfl) ?_
        refine lv_iload_n X.1 X.2.1 dX8_digest_214 rfl (lv_at hl 2 rfl) ?_
        refine lv_iconst (v := 0) X.1 X.2.1 dX8_digest_215 (by decide) ?_
        refine lv_iconst (v := 0) X.1 X.2.1 dX8_digest_216 (by decide) ?_
        refine lv_iconst (v := 0) X.1 X.2.1 dX8_digest_217 (by decide) ?_
        obtain ⟨r6, M7, err6, hres⟩ := m_o2_e hres
        refine m_bi (m_cV (n := 4) (As := [.int x3, .int 0, .int 0, .int 0]) (rest := [.long ((31 : Int64) * t5), .long 31]) X hSt hP hS hl.1 (c_X8_netOf l G  err6) k_c_yX8_netOf k_m_X8_337 k_i_yX8_netOf k_s_yX8_netOf k_n_X8 (by decide +kernel) (m_rc8 hSt hP m_z_172) rfl rfl ⟨Nat.le_of_ble_eq_true rfl, Nat.le_of_ble_eq_true rfl⟩ (Nat.le_of_ble_eq_true rfl) ⟨Nat.zero_le _, Nat.zero_le _⟩ dX8_digest_218) hS (fun H locs hP hS => ?_)
        refine lv_i2l (v := r6.toInt64) X.1 X.2.1 dX8_digest_221 rfl ?_
        refine lv_ladd X.1 X.2.1 dX8_digest_222 ?_
        refine lv_lmul X.1 X.2.1 dX8_digest_223 ?_
        refine lv_aload_n X.1 X.2.1 dX8_digest_224 rfl (lv_at hl 1 rfl) ?_
        refine lv_iload_n X.1 X.2.1 dX8_digest_225 rfl (lv_at hl 2 rfl) ?_
        refine lv_iconst (v := 1) X.1 X.2.1 dX8_digest_226 (by decide) ?_
        refine lv_iconst (v := 0) X.1 X.2.1 dX8_digest_227 (by decide) ?_
        refine lv_iconst (v := 0) X.1 X.2.1 dX8_digest_228 (by decide) ?_
        obtain ⟨r8, M9, err8, hres⟩ := m_o2_e hres
        refine m_bi (m_cV (n := 4) (As := [.int x3, .int 1, .int 0, .int 0]) (rest := [.long ((31 : Int64) * (((31 : Int64) * t5) + r6.toInt64))]) X hSt hP hS hl.1 (c_X8_netOf l G  err8) k_c_yX8_netOf k_m_X8_337 k_i_yX8_netOf k_s_yX8_netOf k_n_X8 (by decide +kernel) (m_rc8 hSt hP m_z_172) rfl rfl ⟨Nat.le_of_ble_eq_true rfl, Nat.le_of_ble_eq_true rfl⟩ (Nat.le_of_ble_eq_true rfl) ⟨Nat.zero_le _, Nat.zero_le _⟩ dX8_digest_229) hS (fun H locs hP hS => ?_)
        refine lv_i2l (v := r8.toInt64) X.1 X.2.1 dX8_digest_232 rfl ?_
        refine lv_ladd X.1 X.2.1 dX8_digest_233 ?_
        obtain ⟨t10, et10, hres⟩ := m_bd_e hres
        refine m_tl et10 ?_
        refine lv_lstore_n (lv' := [(1, .long t10), (0, .ref (m_ad G 172)), (3, .int x3)]) X.1 X.2.1 dX8_digest_234 rfl hl (by decide) rfl (fun ls hl => ?_)
        refine lv_iinc (v := (x3 + 1)) (lv' := [(3, .int (x3 + 1)), (1, .long t10), (0, .ref (m_ad G 172))]) X.1 X.2.1 dX8_digest_235 hl (k := 2) rfl rfl (by decide) rfl (fun ls hl => ?_)
        refine lv_goto (tgt := 172) X.1 X.2.1 dX8_digest_238 (by decide) ?_
        exact ih t10 (x3 + 1) M9 _ _ _ hP hS (lv_sub hl [2, 1, 0] rfl) hres
  have B131 : ∀ (u : Nat) (x1 : Int64) (x3 : Int32) (M : m_M) (H : Heap) (locs : List Loc) (ls : Array Slot), m_P G M H → va_S (m_A G) s.heap H locs → lv_has ls 5 [(0, .ref (m_ad G 172)), (1, .long x1), (3, .int x3)] → f_X8_digest_b131 n u x1 x3 M = some (r0, M0) → W p l e (m_R 8 182) s m args below meth c H locs 0 0 (MQ below (m_Ql G r0 M0) args s 0 0 (m_A G)) (F0 m 131 ls []) := by
    intro u
    induction u with
    | zero =>
      intro x1 x3 M H locs ls hP hS hl hres
      cases hres
    | succ u ih =>
      intro x1 x3 M H locs ls hP hS hl hres
      rw [f_X8_digest_b131] at hres
      refine lv_iload_n X.1 X.2.1 dX8_digest_131 rfl (lv_at hl 2 rfl) ?_
      refine lv_aload_n X.1 X.2.1 dX8_digest_132 rfl (lv_at hl 0 rfl) ?_
      obtain ⟨r11, err11, hres⟩ := m_bd_e hres
      refine m_bi (m_cV (n := 0) (As := []) (rest := [.int x3]) X hSt hP hS hl.1 (c_X8_lined l G  err11) k_c_yX8_lined k_m_X8_400 k_i_yX8_lined k_s_yX8_lined k_n_X8 (by decide +kernel) (m_rc8 hSt hP m_z_172) rfl rfl ⟨Nat.le_of_ble_eq_true rfl, Nat.le_of_ble_eq_true rfl⟩ (Nat.le_of_ble_eq_true rfl) ⟨Nat.zero_le _, Nat.zero_le _⟩ dX8_digest_133) hS (fun H locs hP hS => ?_)
      refine lv_icmp_ge (tgt := 163) X.1 X.2.1 dX8_digest_136 (by decide) (fun hc12 => ?_) (fun hc12 => ?_)
      · have hres := m_it hres hc12
        refine lv_aload_n X.1 X.2.1 dX8_digest_163 rfl (lv_at hl 0 rfl) ?_
        refine lv_sipush (v := 999) X.1 X.2.1 dX8_digest_164 (by decide) ?_
        obtain ⟨M13, eM13, hres⟩ := m_ob_e hres
        refine m_bv (m_cV (n := 1) (As := [.int 999]) (rest := []) X hSt hP hS hl.1 (c_X8_layToday l G  eM13) k_c_yX8_layToday k_m_X8_350 k_i_yX8_layToday k_s_yX8_layToday k_n_X8 (by decide +kernel) (m_rc8 hSt hP m_z_172) rfl rfl ⟨Nat.le_of_ble_eq_true rfl, Nat.le_of_ble_eq_true rfl⟩ (Nat.le_of_ble_eq_true rfl) ⟨Nat.zero_le _, Nat.zero_le _⟩ dX8_digest_167) hS (fun H locs hP hS => ?_)
        refine lv_iconst (v := 0) X.1 X.2.1 dX8_digest_170 (by decide) ?_
        refine lv_istore_n (lv' := [(3, .int 0), (0, .ref (m_ad G 172)), (1, .long x1)]) X.1 X.2.1 dX8_digest_171 rfl hl (by decide) rfl (fun ls hl => ?_)
        exact B172 n x1 0 M13 _ _ _ hP hS (lv_sub hl [1, 2, 0] rfl) hres
      · have hres := m_if hres hc12
        refine lv_ldc2 (v := 31) X.1 X.2.1 X.2.2.2.1 (X.2.2.2.2 _ k_l_X8_443) dX8_digest_139 ?_
        refine lv_lload_n X.1 X.2.1 dX8_digest_142 rfl (lv_at hl 1 rfl) ?_
        refine lv_lmul X.1 X.2.1 dX8_digest_143 ?_
        refine lv_aload_n X.1 X.2.1 dX8_digest_144 rfl (lv_at hl 0 rfl) ?_
        refine m_g8 (v := .ref (m_ad G 173)) X hSt hP m_z_172 0 (by decide) rfl k_f_X8_7 dX8_digest_145 ?_
        refine lv_sipush (v := 462) X.1 X.2.1 dX8_digest_148 (by decide) ?_
        refine lv_iload_n X.1 X.2.1 dX8_digest_151 rfl (lv_at hl 2 rfl) ?_
        refine lv_iadd X.1 X.2.1 dX8_digest_152 ?_
        obtain ⟨hg14, hres⟩ := m_gd_e hres
        refine m_ia (j := (((462 : Int32) + x3).toNatClampNeg)) X hSt hP m_z_173 hg14 rfl dX8_digest_153 ?_
        refine lv_i2l (v := (M.1 173 (((462 : Int32) + x3).toNatClampNeg)).toInt64) X.1 X.2.1 dX8_digest_154 rfl ?_
        refine lv_ladd X.1 X.2.1 dX8_digest_155 ?_
        obtain ⟨t15, et15, hres⟩ := m_bd_e hres
        refine m_tl et15 ?_
        refine lv_lstore_n (lv' := [(1, .long t15), (0, .ref (m_ad G 172)), (3, .int x3)]) X.1 X.2.1 dX8_digest_156 rfl hl (by decide) rfl (fun ls hl => ?_)
        refine lv_iinc (v := (x3 + 1)) (lv' := [(3, .int (x3 + 1)), (1, .long t15), (0, .ref (m_ad G 172))]) X.1 X.2.1 dX8_digest_157 hl (k := 2) rfl rfl (by decide) rfl (fun ls hl => ?_)
        refine lv_goto (tgt := 131) X.1 X.2.1 dX8_digest_160 (by decide) ?_
        exact ih t15 (x3 + 1) M _ _ _ hP hS (lv_sub hl [2, 1, 0] rfl) hres
  have B75 : ∀ (q67 : Int64 → Int32 → m_M → Option (Int64 × m_M)) (hq67 : ∀ (x1 : Int64) (x3 : Int32) (M : m_M) (H : Heap) (locs : List Loc) (ls : Array Slot), m_P G M H → va_S (m_A G) s.heap H locs → lv_has ls 5 [(0, .ref (m_ad G 172)), (1, .long x1), (3, .int x3)] → q67 x1 x3 M = some (r0, M0) → W p l e (m_R 8 182) s m args below meth c H locs 0 0 (MQ below (m_Ql G r0 M0) args s 0 0 (m_A G)) (F0 m 67 ls [])) (u : Nat) (x1 : Int64) (x3 : Int32) (x4 : Int32) (M : m_M) (H : Heap) (locs : List Loc) (ls : Array Slot), m_P G M H → va_S (m_A G) s.heap H locs → lv_has ls 5 [(0, .ref (m_ad G 172)), (1, .long x1), (3, .int x3), (4, .int x4)] → f_X8_digest_b75 n q67 u x1 x3 x4 M = some (r0, M0) → W p l e (m_R 8 182) s m args below meth c H locs 0 0 (MQ below (m_Ql G r0 M0) args s 0 0 (m_A G)) (F0 m 75 ls []) := by
    intro q67 hq67 u
    induction u with
    | zero =>
      intro x1 x3 x4 M H locs ls hP hS hl hres
      cases hres
    | succ u ih =>
      intro x1 x3 x4 M H locs ls hP hS hl hres
      rw [f_X8_digest_b75] at hres
      refine lv_iload X.1 X.2.1 dX8_digest_75 (lv_at hl 3 rfl) ?_
      refine lv_aload_n X.1 X.2.1 dX8_digest_77 rfl (lv_at hl 0 rfl) ?_
      refine m_g8 (v := .ref (m_ad G 173)) X hSt hP m_z_172 0 (by decide) rfl k_f_X8_7 dX8_digest_78 ?_
      refine lv_sipush (v := 360) X.1 X.2.1 dX8_digest_81 (by decide) ?_
      refine lv_bipush (v := 51) X.1 X.2.1 dX8_digest_84 (by decide) ?_
      refine lv_iload_n X.1 X.2.1 dX8_digest_86 rfl (lv_at hl 2 rfl) ?_
      refine lv_imul X.1 X.2.1 dX8_digest_87 ?_
      refine lv_iadd X.1 X.2.1 dX8_digest_88 ?_
      obtain ⟨hg16, hres⟩ := m_gd_e hres
      refine m_ia (j := (((360 : Int32) + ((51 : Int32) * x3)).toNatClampNeg)) X hSt hP m_z_173 hg16 rfl dX8_digest_89 ?_
      refine lv_icmp_gt (tgt := 123) X.1 X.2.1 dX8_digest_90 (by decide) (fun hc17 => ?_) (fun hc17 => ?_)
      · have hres := m_it hres hc17
        refine lv_iinc (v := (x3 + 1)) (lv' := [(3, .int (x3 + 1)), (0, .ref (m_ad G 172)), (1, .long x1), (4, .int x4)]) X.1 X.2.1 dX8_digest_123 hl (k := 2) rfl rfl (by decide) rfl (fun ls hl => ?_)
        refine lv_goto (tgt := 67) X.1 X.2.1 dX8_digest_126 (by decide) ?_
        exact hq67 x1 (x3 + 1) M _ _ _ hP hS (lv_sub hl [1, 2, 0] rfl) hres
      · have hres := m_if hres hc17
        refine lv_ldc2 (v := 31) X.1 X.2.1 X.2.2.2.1 (X.2.2.2.2 _ k_l_X8_443) dX8_digest_93 ?_
        refine lv_lload_n X.1 X.2.1 dX8_digest_96 rfl (lv_at hl 1 rfl) ?_
        refine lv_lmul X.1 X.2.1 dX8_digest_97 ?_
        refine lv_aload_n X.1 X.2.1 dX8_digest_98 rfl (lv_at hl 0 rfl) ?_
        refine m_g8 (v := .ref (m_ad G 173)) X hSt hP m_z_172 0 (by decide) rfl k_f_X8_7 dX8_digest_99 ?_
        refine lv_sipush (v := 360) X.1 X.2.1 dX8_digest_102 (by decide) ?_
        refine lv_bipush (v := 51) X.1 X.2.1 dX8_digest_105 (by decide) ?_
        refine lv_iload_n X.1 X.2.1 dX8_digest_107 rfl (lv_at hl 2 rfl) ?_
        refine lv_imul X.1 X.2.1 dX8_digest_108 ?_
        refine lv_iadd X.1 X.2.1 dX8_digest_109 ?_
        refine lv_iload X.1 X.2.1 dX8_digest_110 (lv_at hl 3 rfl) ?_
        refine lv_iadd X.1 X.2.1 dX8_digest_112 ?_
        obtain ⟨hg18, hres⟩ := m_gd_e hres
        refine m_ia (j := ((((360 : Int32) + ((51 : Int32) * x3)) + x4).toNatClampNeg)) X hSt hP m_z_173 hg18 rfl dX8_digest_113 ?_
        refine lv_i2l (v := (M.1 173 ((((360 : Int32) + ((51 : Int32) * x3)) + x4).toNatClampNeg)).toInt64) X.1 X.2.1 dX8_digest_114 rfl ?_
        refine lv_ladd X.1 X.2.1 dX8_digest_115 ?_
        obtain ⟨t19, et19, hres⟩ := m_bd_e hres
        refine m_tl et19 ?_
        refine lv_lstore_n (lv' := [(1, .long t19), (0, .ref (m_ad G 172)), (3, .int x3), (4, .int x4)]) X.1 X.2.1 dX8_digest_116 rfl hl (by decide) rfl (fun ls hl => ?_)
        refine lv_iinc (v := (x4 + 1)) (lv' := [(4, .int (x4 + 1)), (1, .long t19), (0, .ref (m_ad G 172)), (3, .int x3)]) X.1 X.2.1 dX8_digest_117 hl (k := 3) rfl rfl (by decide) rfl (fun ls hl => ?_)
        refine lv_goto (tgt := 75) X.1 X.2.1 dX8_digest_120 (by decide) ?_
        exact ih t19 x3 (x4 + 1) M _ _ _ hP hS (lv_sub hl [2, 1, 3, 0] rfl) hres
  have B67 : ∀ (u : Nat) (x1 : Int64) (x3 : Int32) (M : m_M) (H : Heap) (locs : List Loc) (ls : Array Slot), m_P G M H → va_S (m_A G) s.heap H locs → lv_has ls 5 [(0, .ref (m_ad G 172)), (1, .long x1), (3, .int x3)] → f_X8_digest_b67 n u x1 x3 M = some (r0, M0) → W p l e (m_R 8 182) s m args below meth c H locs 0 0 (MQ below (m_Ql G r0 M0) args s 0 0 (m_A G)) (F0 m 67 ls []) := by
    intro u
    induction u with
    | zero =>
      intro x1 x3 M H locs ls hP hS hl hres
      cases hres
    | succ u ih =>
      intro x1 x3 M H locs ls hP hS hl hres
      rw [f_X8_digest_b67] at hres
      refine lv_iload_n X.1 X.2.1 dX8_digest_67 rfl (lv_at hl 2 rfl) ?_
      refine lv_iconst (v := 2) X.1 X.2.1 dX8_digest_68 (by decide) ?_
      refine lv_icmp_ge (tgt := 129) X.1 X.2.1 dX8_digest_69 (by decide) (fun hc20 => ?_) (fun hc20 => ?_)
      · have hres := m_it hres hc20
        refine lv_iconst (v := 0) X.1 X.2.1 dX8_digest_129 (by decide) ?_
        refine lv_istore_n (lv' := [(3, .int 0), (0, .ref (m_ad G 172)), (1, .long x1)]) X.1 X.2.1 dX8_digest_130 rfl hl (by decide) rfl (fun ls hl => ?_)
        exact B131 n x1 0 M _ _ _ hP hS (lv_sub hl [1, 2, 0] rfl) hres
      · have hres := m_if hres hc20
        refine lv_iconst (v := 0) X.1 X.2.1 dX8_digest_72 (by decide) ?_
        refine lv_istore (lv' := [(4, .int 0), (0, .ref (m_ad G 172)), (1, .long x1), (3, .int x3)]) X.1 X.2.1 dX8_digest_73 hl (by decide) rfl (fun ls hl => ?_)
        exact B75 (f_X8_digest_b67 n u) ih n x1 x3 0 M _ _ _ hP hS (lv_sub hl [1, 2, 3, 0] rfl) hres
  have B32 : ∀ (u : Nat) (x1 : Int64) (x3 : Int32) (M : m_M) (H : Heap) (locs : List Loc) (ls : Array Slot), m_P G M H → va_S (m_A G) s.heap H locs → lv_has ls 5 [(0, .ref (m_ad G 172)), (1, .long x1), (3, .int x3)] → f_X8_digest_b32 n u x1 x3 M = some (r0, M0) → W p l e (m_R 8 182) s m args below meth c H locs 0 0 (MQ below (m_Ql G r0 M0) args s 0 0 (m_A G)) (F0 m 32 ls []) := by
    intro u
    induction u with
    | zero =>
      intro x1 x3 M H locs ls hP hS hl hres
      cases hres
    | succ u ih =>
      intro x1 x3 M H locs ls hP hS hl hres
      rw [f_X8_digest_b32] at hres
      refine lv_iload_n X.1 X.2.1 dX8_digest_32 rfl (lv_at hl 2 rfl) ?_
      refine lv_bipush (v := 6) X.1 X.2.1 dX8_digest_33 (by decide) ?_
      refine lv_aload_n X.1 X.2.1 dX8_digest_35 rfl (lv_at hl 0 rfl) ?_
      obtain ⟨r21, err21, hres⟩ := m_bd_e hres
      refine m_bi (m_cV (n := 0) (As := []) (rest := [.int 6, .int x3]) X hSt hP hS hl.1 (c_X8_notes l G  err21) k_c_yX8_notes k_m_X8_133 k_i_yX8_notes k_s_yX8_notes k_n_X8 (by decide +kernel) (m_rc8 hSt hP m_z_172) rfl rfl ⟨Nat.le_of_ble_eq_true rfl, Nat.le_of_ble_eq_true rfl⟩ (Nat.le_of_ble_eq_true rfl) ⟨Nat.zero_le _, Nat.zero_le _⟩ dX8_digest_36) hS (fun H locs hP hS => ?_)
      refine lv_imul X.1 X.2.1 dX8_digest_39 ?_
      refine lv_icmp_ge (tgt := 65) X.1 X.2.1 dX8_digest_40 (by decide) (fun hc22 => ?_) (fun hc22 => ?_)
      · have hres := m_it hres hc22
        refine lv_iconst (v := 0) X.1 X.2.1 dX8_digest_65 (by decide) ?_
        refine lv_istore_n (lv' := [(3, .int 0), (0, .ref (m_ad G 172)), (1, .long x1)]) X.1 X.2.1 dX8_digest_66 rfl hl (by decide) rfl (fun ls hl => ?_)
        exact B67 n x1 0 M _ _ _ hP hS (lv_sub hl [1, 2, 0] rfl) hres
      · have hres := m_if hres hc22
        refine lv_ldc2 (v := 31) X.1 X.2.1 X.2.2.2.1 (X.2.2.2.2 _ k_l_X8_443) dX8_digest_43 ?_
        refine lv_lload_n X.1 X.2.1 dX8_digest_46 rfl (lv_at hl 1 rfl) ?_
        refine lv_lmul X.1 X.2.1 dX8_digest_47 ?_
        refine lv_aload_n X.1 X.2.1 dX8_digest_48 rfl (lv_at hl 0 rfl) ?_
        refine m_g8 (v := .ref (m_ad G 173)) X hSt hP m_z_172 0 (by decide) rfl k_f_X8_7 dX8_digest_49 ?_
        refine lv_iconst (v := 0) X.1 X.2.1 dX8_digest_52 (by decide) ?_
        refine lv_iload_n X.1 X.2.1 dX8_digest_53 rfl (lv_at hl 2 rfl) ?_
        refine lv_iadd X.1 X.2.1 dX8_digest_54 ?_
        obtain ⟨hg23, hres⟩ := m_gd_e hres
        refine m_ia (j := (((0 : Int32) + x3).toNatClampNeg)) X hSt hP m_z_173 hg23 rfl dX8_digest_55 ?_
        refine lv_i2l (v := (M.1 173 (((0 : Int32) + x3).toNatClampNeg)).toInt64) X.1 X.2.1 dX8_digest_56 rfl ?_
        refine lv_ladd X.1 X.2.1 dX8_digest_57 ?_
        obtain ⟨t24, et24, hres⟩ := m_bd_e hres
        refine m_tl et24 ?_
        refine lv_lstore_n (lv' := [(1, .long t24), (0, .ref (m_ad G 172)), (3, .int x3)]) X.1 X.2.1 dX8_digest_58 rfl hl (by decide) rfl (fun ls hl => ?_)
        refine lv_iinc (v := (x3 + 1)) (lv' := [(3, .int (x3 + 1)), (1, .long t24), (0, .ref (m_ad G 172))]) X.1 X.2.1 dX8_digest_59 hl (k := 2) rfl rfl (by decide) rfl (fun ls hl => ?_)
        refine lv_goto (tgt := 32) X.1 X.2.1 dX8_digest_62 (by decide) ?_
        exact ih t24 (x3 + 1) M _ _ _ hP hS (lv_sub hl [2, 1, 0] rfl) hres
  have B6 : ∀ (u : Nat) (x1 : Int64) (x3 : Int32) (M : m_M) (H : Heap) (locs : List Loc) (ls : Array Slot), m_P G M H → va_S (m_A G) s.heap H locs → lv_has ls 5 [(0, .ref (m_ad G 172)), (1, .long x1), (3, .int x3)] → f_X8_digest_b6 n u x1 x3 M = some (r0, M0) → W p l e (m_R 8 182) s m args below meth c H locs 0 0 (MQ below (m_Ql G r0 M0) args s 0 0 (m_A G)) (F0 m 6 ls []) := by
    intro u
    induction u with
    | zero =>
      intro x1 x3 M H locs ls hP hS hl hres
      cases hres
    | succ u ih =>
      intro x1 x3 M H locs ls hP hS hl hres
      rw [f_X8_digest_b6] at hres
      refine lv_iload_n X.1 X.2.1 dX8_digest_6 rfl (lv_at hl 2 rfl) ?_
      refine lv_iconst (v := 5) X.1 X.2.1 dX8_digest_7 (by decide) ?_
      refine lv_icmp_ge (tgt := 30) X.1 X.2.1 dX8_digest_8 (by decide) (fun hc25 => ?_) (fun hc25 => ?_)
      · have hres := m_it hres hc25
        refine lv_iconst (v := 0) X.1 X.2.1 dX8_digest_30 (by decide) ?_
        refine lv_istore_n (lv' := [(3, .int 0), (0, .ref (m_ad G 172)), (1, .long x1)]) X.1 X.2.1 dX8_digest_31 rfl hl (by decide) rfl (fun ls hl => ?_)
        exact B32 n x1 0 M _ _ _ hP hS (lv_sub hl [1, 2, 0] rfl) hres
      · have hres := m_if hres hc25
        refine lv_ldc2 (v := 31) X.1 X.2.1 X.2.2.2.1 (X.2.2.2.2 _ k_l_X8_443) dX8_digest_11 ?_
        refine lv_lload_n X.1 X.2.1 dX8_digest_14 rfl (lv_at hl 1 rfl) ?_
        refine lv_lmul X.1 X.2.1 dX8_digest_15 ?_
        refine lv_aload_n X.1 X.2.1 dX8_digest_16 rfl (lv_at hl 0 rfl) ?_
        refine lv_iload_n X.1 X.2.1 dX8_digest_17 rfl (lv_at hl 2 rfl) ?_
        obtain ⟨r26, M27, err26, hres⟩ := m_o2_e hres
        refine m_bi (m_cV (n := 1) (As := [.int x3]) (rest := [.long ((31 : Int64) * x1)]) X hSt hP hS hl.1 (c_X8_count l G  err26) k_c_yX8_count k_m_X8_445 k_i_yX8_count k_s_yX8_count k_n_X8 (by decide +kernel) (m_rc8 hSt hP m_z_172) rfl rfl ⟨Nat.le_of_ble_eq_true rfl, Nat.le_of_ble_eq_true rfl⟩ (Nat.le_of_ble_eq_true rfl) ⟨Nat.zero_le _, Nat.zero_le _⟩ dX8_digest_18) hS (fun H locs hP hS => ?_)
        refine lv_i2l (v := r26.toInt64) X.1 X.2.1 dX8_digest_21 rfl ?_
        refine lv_ladd X.1 X.2.1 dX8_digest_22 ?_
        obtain ⟨t28, et28, hres⟩ := m_bd_e hres
        refine m_tl et28 ?_
        refine lv_lstore_n (lv' := [(1, .long t28), (0, .ref (m_ad G 172)), (3, .int x3)]) X.1 X.2.1 dX8_digest_23 rfl hl (by decide) rfl (fun ls hl => ?_)
        refine lv_iinc (v := (x3 + 1)) (lv' := [(3, .int (x3 + 1)), (1, .long t28), (0, .ref (m_ad G 172))]) X.1 X.2.1 dX8_digest_24 hl (k := 2) rfl rfl (by decide) rfl (fun ls hl => ?_)
        refine lv_goto (tgt := 6) X.1 X.2.1 dX8_digest_27 (by decide) ?_
        exact ih t28 (x3 + 1) M27 _ _ _ hP hS (lv_sub hl [2, 1, 0] rfl) hres
  unfold f_X8_digest at hres
  refine lv_ldc2 (v := 491) X.1 X.2.1 X.2.2.2.1 (X.2.2.2.2 _ k_l_X8_441) dX8_digest_0 ?_
  refine lv_lstore_n (lv' := [(1, .long 491), (0, .ref (m_ad G 172))]) X.1 X.2.1 dX8_digest_3 rfl hl (by decide) rfl (fun ls hl => ?_)
  refine lv_iconst (v := 0) X.1 X.2.1 dX8_digest_4 (by decide) ?_
  refine lv_istore_n (lv' := [(3, .int 0), (1, .long 491), (0, .ref (m_ad G 172))]) X.1 X.2.1 dX8_digest_5 rfl hl (by decide) rfl (fun ls hl => ?_)
  exact B6 n 491 0 M _ _ _ hP hS (lv_sub hl [2, 1, 0] rfl) hres
theorem dX8_doubt_0 : decode cX8_doubt 0 = .ok (.iload_n 1, 1) := by decide +kernel
theorem dX8_doubt_1 : decode cX8_doubt 1 = .ok (.i2l, 1) := by decide +kernel
theorem dX8_doubt_2 : decode cX8_doubt 2 = .ok (.lconst 0, 1) := by decide +kernel
theorem dX8_doubt_3 : decode cX8_doubt 3 = .ok (.aload_n 0, 1) := by decide +kernel
theorem dX8_doubt_4 : decode cX8_doubt 4 = .ok (.invokevirtual 133, 3) := by decide +kernel
theorem dX8_doubt_7 : decode cX8_doubt 7 = .ok (.iconst 1, 1) := by decide +kernel
theorem dX8_doubt_8 : decode cX8_doubt 8 = .ok (.isub, 1) := by decide +kernel
theorem dX8_doubt_9 : decode cX8_doubt 9 = .ok (.i2l, 1) := by decide +kernel
theorem dX8_doubt_10 : decode cX8_doubt 10 = .ok (.invokestatic 111, 3) := by decide +kernel
theorem dX8_doubt_13 : decode cX8_doubt 13 = .ok (.ifCond .ne 6, 3) := by decide +kernel
theorem dX8_doubt_16 : decode cX8_doubt 16 = .ok (.bipush (-2), 2) := by decide +kernel
theorem dX8_doubt_18 : decode cX8_doubt 18 = .ok (.ireturn, 1) := by decide +kernel
theorem dX8_doubt_19 : decode cX8_doubt 19 = .ok (.aload_n 0, 1) := by decide +kernel
theorem dX8_doubt_20 : decode cX8_doubt 20 = .ok (.iload_n 1, 1) := by decide +kernel
theorem dX8_doubt_21 : decode cX8_doubt 21 = .ok (.iconst 1, 1) := by decide +kernel
theorem dX8_doubt_22 : decode cX8_doubt 22 = .ok (.invokevirtual 136, 3) := by decide +kernel
theorem dX8_doubt_25 : decode cX8_doubt 25 = .ok (.istore_n 3, 1) := by decide +kernel
theorem dX8_doubt_26 : decode cX8_doubt 26 = .ok (.iload_n 3, 1) := by decide +kernel
theorem dX8_doubt_27 : decode cX8_doubt 27 = .ok (.ifCond .eq 14, 3) := by decide +kernel
theorem dX8_doubt_30 : decode cX8_doubt 30 = .ok (.iload_n 3, 1) := by decide +kernel
theorem dX8_doubt_31 : decode cX8_doubt 31 = .ok (.iconst 4, 1) := by decide +kernel
theorem dX8_doubt_32 : decode cX8_doubt 32 = .ok (.if_icmp .eq 9, 3) := by decide +kernel
theorem dX8_doubt_35 : decode cX8_doubt 35 = .ok (.iload_n 3, 1) := by decide +kernel
theorem dX8_doubt_36 : decode cX8_doubt 36 = .ok (.bipush 14, 2) := by decide +kernel
theorem dX8_doubt_38 : decode cX8_doubt 38 = .ok (.if_icmp .ne 6, 3) := by decide +kernel
theorem dX8_doubt_41 : decode cX8_doubt 41 = .ok (.bipush (-2), 2) := by decide +kernel
theorem dX8_doubt_43 : decode cX8_doubt 43 = .ok (.ireturn, 1) := by decide +kernel
theorem dX8_doubt_44 : decode cX8_doubt 44 = .ok (.aload_n 0, 1) := by decide +kernel
theorem dX8_doubt_45 : decode cX8_doubt 45 = .ok (.iload_n 1, 1) := by decide +kernel
theorem dX8_doubt_46 : decode cX8_doubt 46 = .ok (.iconst 5, 1) := by decide +kernel
theorem dX8_doubt_47 : decode cX8_doubt 47 = .ok (.invokevirtual 136, 3) := by decide +kernel
theorem dX8_doubt_50 : decode cX8_doubt 50 = .ok (.iconst 1, 1) := by decide +kernel
theorem dX8_doubt_51 : decode cX8_doubt 51 = .ok (.if_icmp .ne 7, 3) := by decide +kernel
theorem dX8_doubt_54 : decode cX8_doubt 54 = .ok (.iconst 1, 1) := by decide +kernel
theorem dX8_doubt_55 : decode cX8_doubt 55 = .ok (.goto 4, 3) := by decide +kernel
theorem dX8_doubt_58 : decode cX8_doubt 58 = .ok (.iconst 0, 1) := by decide +kernel
theorem dX8_doubt_59 : decode cX8_doubt 59 = .ok (.iload_n 2, 1) := by decide +kernel
theorem dX8_doubt_60 : decode cX8_doubt 60 = .ok (.if_icmp .ne 6, 3) := by decide +kernel
theorem dX8_doubt_63 : decode cX8_doubt 63 = .ok (.bipush (-3), 2) := by decide +kernel
theorem dX8_doubt_65 : decode cX8_doubt 65 = .ok (.ireturn, 1) := by decide +kernel
theorem dX8_doubt_66 : decode cX8_doubt 66 = .ok (.iload_n 2, 1) := by decide +kernel
theorem dX8_doubt_67 : decode cX8_doubt 67 = .ok (.ifCond .eq 14, 3) := by decide +kernel
theorem dX8_doubt_70 : decode cX8_doubt 70 = .ok (.aload_n 0, 1) := by decide +kernel
theorem dX8_doubt_71 : decode cX8_doubt 71 = .ok (.invokevirtual 191, 3) := by decide +kernel
theorem dX8_doubt_74 : decode cX8_doubt 74 = .ok (.iconst 5, 1) := by decide +kernel
theorem dX8_doubt_75 : decode cX8_doubt 75 = .ok (.if_icmp .ne 6, 3) := by decide +kernel
theorem dX8_doubt_78 : decode cX8_doubt 78 = .ok (.bipush (-4), 2) := by decide +kernel
theorem dX8_doubt_80 : decode cX8_doubt 80 = .ok (.ireturn, 1) := by decide +kernel
theorem dX8_doubt_81 : decode cX8_doubt 81 = .ok (.aload_n 0, 1) := by decide +kernel
theorem dX8_doubt_82 : decode cX8_doubt 82 = .ok (.getfield 7, 3) := by decide +kernel
theorem dX8_doubt_85 : decode cX8_doubt 85 = .ok (.iconst 0, 1) := by decide +kernel
theorem dX8_doubt_86 : decode cX8_doubt 86 = .ok (.bipush 6, 2) := by decide +kernel
theorem dX8_doubt_88 : decode cX8_doubt 88 = .ok (.iload_n 1, 1) := by decide +kernel
theorem dX8_doubt_89 : decode cX8_doubt 89 = .ok (.imul, 1) := by decide +kernel
theorem dX8_doubt_90 : decode cX8_doubt 90 = .ok (.iadd, 1) := by decide +kernel
theorem dX8_doubt_91 : decode cX8_doubt 91 = .ok (.iconst 5, 1) := by decide +kernel
theorem dX8_doubt_92 : decode cX8_doubt 92 = .ok (.iadd, 1) := by decide +kernel
theorem dX8_doubt_93 : decode cX8_doubt 93 = .ok (.iload_n 2, 1) := by decide +kernel
theorem dX8_doubt_94 : decode cX8_doubt 94 = .ok (.ifCond .eq 7, 3) := by decide +kernel
theorem dX8_doubt_97 : decode cX8_doubt 97 = .ok (.iconst 1, 1) := by decide +kernel
theorem dX8_doubt_98 : decode cX8_doubt 98 = .ok (.goto 4, 3) := by decide +kernel
theorem dX8_doubt_101 : decode cX8_doubt 101 = .ok (.iconst 0, 1) := by decide +kernel
theorem dX8_doubt_102 : decode cX8_doubt 102 = .ok (.iastore, 1) := by decide +kernel
theorem dX8_doubt_103 : decode cX8_doubt 103 = .ok (.iconst 1, 1) := by decide +kernel
theorem dX8_doubt_104 : decode cX8_doubt 104 = .ok (.ireturn, 1) := by decide +kernel
def f_X8_doubt_b81 (n : Nat) (x1 : Int32) (x2 : Int32) (M : m_M) : Option (Int32 × m_M) :=
  if x2 = 0 then
  m_gd (m_in (((0 : Int32) + ((6 : Int32) * x1)) + (5 : Int32)) 471) (
  m_bd (m_sI M 173 ((((0 : Int32) + ((6 : Int32) * x1)) + (5 : Int32)).toNatClampNeg) 0) fun M3 =>
  some (1, M3))
  else
  m_gd (m_in (((0 : Int32) + ((6 : Int32) * x1)) + (5 : Int32)) 471) (
  m_bd (m_sI M 173 ((((0 : Int32) + ((6 : Int32) * x1)) + (5 : Int32)).toNatClampNeg) 1) fun M5 =>
  some (1, M5))
def f_X8_doubt_b59 (n : Nat) (x1 : Int32) (x2 : Int32) (s0 : Int32) (M : m_M) : Option (Int32 × m_M) :=
  if s0 = x2 then
  some ((-3), M)
  else
  if x2 = 0 then
  f_X8_doubt_b81 n x1 x2 M
  else
  m_ob (f_X8_doubtMany n M) fun r8 =>
  if r8 = 5 then
  some ((-4), M)
  else
  f_X8_doubt_b81 n x1 x2 M
def f_X8_doubt (n : Nat) (x1 : Int32) (x2 : Int32) (M : m_M) : Option (Int32 × m_M) :=
  m_bd (f_X8_notes M) fun r10 =>
  m_bd (f_X8_isIn x1.toInt64 0 ((r10 - (1 : Int32)).toInt64)) fun r11 =>
  if r11 = 0 then
  some ((-2), M)
  else
  m_ob (f_X8_of x1 1 M) fun r14 =>
  if r14 = 0 then
  some ((-2), M)
  else
  if r14 = 4 then
  some ((-2), M)
  else
  if r14 = 14 then
  some ((-2), M)
  else
  m_ob (f_X8_of x1 5 M) fun r18 =>
  if r18 = 1 then
  f_X8_doubt_b59 n x1 x2 1 M
  else
  f_X8_doubt_b59 n x1 x2 0 M
set_option maxHeartbeats 4000000 in
set_option maxRecDepth 100000 in
theorem c_X8_doubt (l : Launch) (G : m_G) {n : Nat} {x1 : Int32} {x2 : Int32} {M : m_M} {r0 : Int32} {M0 : m_M}  (hres : f_X8_doubt n x1 x2 M = some (r0, M0)) : Met l yX8_doubt (m_U yX8_doubt cX8_doubt 4 (some .int)) (m_R 2 44) (m_Pc G [.ref (m_ad G 172), .int x1, .int x2] M) (m_Qi G r0 M0) 0 0 (m_A G) := by
  refine m_i0 (n := 4) RX8 rfl (by decide) (Nat.le_of_ble_eq_true rfl) ?_
  intro p e s m args below meth c X hr hlk hSt hP hS ls hl
  have hl : lv_has ls 4 [(0, .ref (m_ad G 172)), (1, .int x1), (2, .int x2)] := hl
  have B81 : ∀  (M : m_M) (H : Heap) (locs : List Loc) (ls : Array Slot), m_P G M H → va_S (m_A G) s.heap H locs → lv_has ls 4 [(0, .ref (m_ad G 172)), (1, .int x1), (2, .int x2)] → f_X8_doubt_b81 n x1 x2 M = some (r0, M0) → W p l e (m_R 2 44) s m args below meth c H locs 0 0 (MQ below (m_Qi G r0 M0) args s 0 0 (m_A G)) (F0 m 81 ls []) := by
    intro M H locs ls hP hS hl hres
    unfold f_X8_doubt_b81 at hres
    refine lv_aload_n X.1 X.2.1 dX8_doubt_81 rfl (lv_at hl 0 rfl) ?_
    refine m_g8 (v := .ref (m_ad G 173)) X hSt hP m_z_172 0 (by decide) rfl k_f_X8_7 dX8_doubt_82 ?_
    refine lv_iconst (v := 0) X.1 X.2.1 dX8_doubt_85 (by decide) ?_
    refine lv_bipush (v := 6) X.1 X.2.1 dX8_doubt_86 (by decide) ?_
    refine lv_iload_n X.1 X.2.1 dX8_doubt_88 rfl (lv_at hl 1 rfl) ?_
    refine lv_imul X.1 X.2.1 dX8_doubt_89 ?_
    refine lv_iadd X.1 X.2.1 dX8_doubt_90 ?_
    refine lv_iconst (v := 5) X.1 X.2.1 dX8_doubt_91 (by decide) ?_
    refine lv_iadd X.1 X.2.1 dX8_doubt_92 ?_
    refine lv_iload_n X.1 X.2.1 dX8_doubt_93 rfl (lv_at hl 2 rfl) ?_
    refine lv_if_eq (tgt := 101) X.1 X.2.1 dX8_doubt_94 (by decide) (fun hc1 => ?_) (fun hc1 => ?_)
    · have hres := m_it hres hc1
      refine lv_iconst (v := 0) X.1 X.2.1 dX8_doubt_101 (by decide) ?_
      obtain ⟨hg2, hres⟩ := m_gd_e hres
      obtain ⟨M3, eM3, hres⟩ := m_bd_e hres
      refine m_is (j := ((((0 : Int32) + ((6 : Int32) * x1)) + (5 : Int32)).toNatClampNeg)) X hSt hP hS m_z_173 hg2 rfl dX8_doubt_102 eM3 (fun H locs hP hS => ?_)
      refine lv_iconst (v := 1) X.1 X.2.1 dX8_doubt_103 (by decide) ?_
      exact m_ri X hr hlk hP hS (Prod.mk.inj (Option.some.inj hres)).1 (Prod.mk.inj (Option.some.inj hres)).2 dX8_doubt_104
    · have hres := m_if hres hc1
      refine lv_iconst (v := 1) X.1 X.2.1 dX8_doubt_97 (by decide) ?_
      refine lv_goto (tgt := 102) X.1 X.2.1 dX8_doubt_98 (by decide) ?_
      obtain ⟨hg4, hres⟩ := m_gd_e hres
      obtain ⟨M5, eM5, hres⟩ := m_bd_e hres
      refine m_is (j := ((((0 : Int32) + ((6 : Int32) * x1)) + (5 : Int32)).toNatClampNeg)) X hSt hP hS m_z_173 hg4 rfl dX8_doubt_102 eM5 (fun H locs hP hS => ?_)
      refine lv_iconst (v := 1) X.1 X.2.1 dX8_doubt_103 (by decide) ?_
      exact m_ri X hr hlk hP hS (Prod.mk.inj (Option.some.inj hres)).1 (Prod.mk.inj (Option.some.inj hres)).2 dX8_doubt_104
  have B59 : ∀  (s0 : Int32) (M : m_M) (H : Heap) (locs : List Loc) (ls : Array Slot), m_P G M H → va_S (m_A G) s.heap H locs → lv_has ls 4 [(0, .ref (m_ad G 172)), (1, .int x1), (2, .int x2)] → f_X8_doubt_b59 n x1 x2 s0 M = some (r0, M0) → W p l e (m_R 2 44) s m args below meth c H locs 0 0 (MQ below (m_Qi G r0 M0) args s 0 0 (m_A G)) (F0 m 59 ls [.int s0]) := by
    intro s0 M H locs ls hP hS hl hres
    unfold f_X8_doubt_b59 at hres
    refine lv_iload_n X.1 X.2.1 dX8_doubt_59 rfl (lv_at hl 2 rfl) ?_
    refine lv_icmp_ne (tgt := 66) X.1 X.2.1 dX8_doubt_60 (by decide) (fun hc6 => ?_) (fun hc6 => ?_)
    · have hres := m_if hres hc6
      refine lv_iload_n X.1 X.2.1 dX8_doubt_66 rfl (lv_at hl 2 rfl) ?_
      refine lv_if_eq (tgt := 81) X.1 X.2.1 dX8_doubt_67 (by decide) (fun hc7 => ?_) (fun hc7 => ?_)
      · have hres := m_it hres hc7
        exact B81 M _ _ _ hP hS (lv_sub hl [0, 1, 2] rfl) hres
      · have hres := m_if hres hc7
        refine lv_aload_n X.1 X.2.1 dX8_doubt_70 rfl (lv_at hl 0 rfl) ?_
        obtain ⟨r8, err8, hres⟩ := m_ob_e hres
        refine m_bi (m_cV (n := 0) (As := []) (rest := []) X hSt hP hS hl.1 (c_X8_doubtMany l G  err8) k_c_yX8_doubtMany k_m_X8_191 k_i_yX8_doubtMany k_s_yX8_doubtMany k_n_X8 (by decide +kernel) (m_rc8 hSt hP m_z_172) rfl rfl ⟨Nat.le_of_ble_eq_true rfl, Nat.le_of_ble_eq_true rfl⟩ (Nat.le_of_ble_eq_true rfl) ⟨Nat.zero_le _, Nat.zero_le _⟩ dX8_doubt_71) hS (fun H locs hP hS => ?_)
        refine lv_iconst (v := 5) X.1 X.2.1 dX8_doubt_74 (by decide) ?_
        refine lv_icmp_ne (tgt := 81) X.1 X.2.1 dX8_doubt_75 (by decide) (fun hc9 => ?_) (fun hc9 => ?_)
        · have hres := m_if hres hc9
          exact B81 M _ _ _ hP hS (lv_sub hl [0, 1, 2] rfl) hres
        · have hres := m_it hres hc9
          refine lv_bipush (v := (-4)) X.1 X.2.1 dX8_doubt_78 (by decide) ?_
          exact m_ri X hr hlk hP hS (Prod.mk.inj (Option.some.inj hres)).1 (Prod.mk.inj (Option.some.inj hres)).2 dX8_doubt_80
    · have hres := m_it hres hc6
      refine lv_bipush (v := (-3)) X.1 X.2.1 dX8_doubt_63 (by decide) ?_
      exact m_ri X hr hlk hP hS (Prod.mk.inj (Option.some.inj hres)).1 (Prod.mk.inj (Option.some.inj hres)).2 dX8_doubt_65
  unfold f_X8_doubt at hres
  refine lv_iload_n X.1 X.2.1 dX8_doubt_0 rfl (lv_at hl 1 rfl) ?_
  refine lv_i2l (v := x1.toInt64) X.1 X.2.1 dX8_doubt_1 rfl ?_
  refine lv_lconst (v := 0) X.1 X.2.1 dX8_doubt_2 (by decide) ?_
  refine lv_aload_n X.1 X.2.1 dX8_doubt_3 rfl (lv_at hl 0 rfl) ?_
  obtain ⟨r10, err10, hres⟩ := m_bd_e hres
  refine m_bi (m_cV (n := 0) (As := []) (rest := [.long 0, .long x1.toInt64]) X hSt hP hS hl.1 (c_X8_notes l G  err10) k_c_yX8_notes k_m_X8_133 k_i_yX8_notes k_s_yX8_notes k_n_X8 (by decide +kernel) (m_rc8 hSt hP m_z_172) rfl rfl ⟨Nat.le_of_ble_eq_true rfl, Nat.le_of_ble_eq_true rfl⟩ (Nat.le_of_ble_eq_true rfl) ⟨Nat.zero_le _, Nat.zero_le _⟩ dX8_doubt_4) hS (fun H locs hP hS => ?_)
  refine lv_iconst (v := 1) X.1 X.2.1 dX8_doubt_7 (by decide) ?_
  refine lv_isub X.1 X.2.1 dX8_doubt_8 ?_
  refine lv_i2l (v := (r10 - (1 : Int32)).toInt64) X.1 X.2.1 dX8_doubt_9 rfl ?_
  obtain ⟨r11, err11, hres⟩ := m_bd_e hres
  refine m_bz (m_cS (n := 3) (As := [.long x1.toInt64, .long 0, .long ((r10 - (1 : Int32)).toInt64)]) (rest := []) X hSt hP hS hl.1 (c_X8_isIn l G (M := M)  err11) k_c_yX8_isIn k_m_X8_111 k_t_yX8_isIn k_n_X8 (by decide +kernel) rfl rfl ⟨Nat.le_of_ble_eq_true rfl, Nat.le_of_ble_eq_true rfl⟩ (Nat.le_of_ble_eq_true rfl) ⟨Nat.zero_le _, Nat.zero_le _⟩ dX8_doubt_10) hS (fun H locs hP hS hz12 => ?_)
  refine lv_if_ne (tgt := 19) X.1 X.2.1 dX8_doubt_13 (by decide) (fun hc13 => ?_) (fun hc13 => ?_)
  · have hres := m_if hres hc13
    refine lv_aload_n X.1 X.2.1 dX8_doubt_19 rfl (lv_at hl 0 rfl) ?_
    refine lv_iload_n X.1 X.2.1 dX8_doubt_20 rfl (lv_at hl 1 rfl) ?_
    refine lv_iconst (v := 1) X.1 X.2.1 dX8_doubt_21 (by decide) ?_
    obtain ⟨r14, err14, hres⟩ := m_ob_e hres
    refine m_bi (m_cV (n := 2) (As := [.int x1, .int 1]) (rest := []) X hSt hP hS hl.1 (c_X8_of l G  err14) k_c_yX8_of k_m_X8_136 k_i_yX8_of k_s_yX8_of k_n_X8 (by decide +kernel) (m_rc8 hSt hP m_z_172) rfl rfl ⟨Nat.le_of_ble_eq_true rfl, Nat.le_of_ble_eq_true rfl⟩ (Nat.le_of_ble_eq_true rfl) ⟨Nat.zero_le _, Nat.zero_le _⟩ dX8_doubt_22) hS (fun H locs hP hS => ?_)
    refine lv_istore_n (lv' := [(3, .int r14), (0, .ref (m_ad G 172)), (1, .int x1), (2, .int x2)]) X.1 X.2.1 dX8_doubt_25 rfl hl (by decide) rfl (fun ls hl => ?_)
    refine lv_iload_n X.1 X.2.1 dX8_doubt_26 rfl (lv_at hl 0 rfl) ?_
    refine lv_if_eq (tgt := 41) X.1 X.2.1 dX8_doubt_27 (by decide) (fun hc15 => ?_) (fun hc15 => ?_)
    · have hres := m_it hres hc15
      refine lv_bipush (v := (-2)) X.1 X.2.1 dX8_doubt_41 (by decide) ?_
      exact m_ri X hr hlk hP hS (Prod.mk.inj (Option.some.inj hres)).1 (Prod.mk.inj (Option.some.inj hres)).2 dX8_doubt_43
    · have hres := m_if hres hc15
      refine lv_iload_n X.1 X.2.1 dX8_doubt_30 rfl (lv_at hl 0 rfl) ?_
      refine lv_iconst (v := 4) X.1 X.2.1 dX8_doubt_31 (by decide) ?_
      refine lv_icmp_eq (tgt := 41) X.1 X.2.1 dX8_doubt_32 (by decide) (fun hc16 => ?_) (fun hc16 => ?_)
      · have hres := m_it hres hc16
        refine lv_bipush (v := (-2)) X.1 X.2.1 dX8_doubt_41 (by decide) ?_
        exact m_ri X hr hlk hP hS (Prod.mk.inj (Option.some.inj hres)).1 (Prod.mk.inj (Option.some.inj hres)).2 dX8_doubt_43
      · have hres := m_if hres hc16
        refine lv_iload_n X.1 X.2.1 dX8_doubt_35 rfl (lv_at hl 0 rfl) ?_
        refine lv_bipush (v := 14) X.1 X.2.1 dX8_doubt_36 (by decide) ?_
        refine lv_icmp_ne (tgt := 44) X.1 X.2.1 dX8_doubt_38 (by decide) (fun hc17 => ?_) (fun hc17 => ?_)
        · have hres := m_if hres hc17
          refine lv_aload_n X.1 X.2.1 dX8_doubt_44 rfl (lv_at hl 1 rfl) ?_
          refine lv_iload_n X.1 X.2.1 dX8_doubt_45 rfl (lv_at hl 2 rfl) ?_
          refine lv_iconst (v := 5) X.1 X.2.1 dX8_doubt_46 (by decide) ?_
          obtain ⟨r18, err18, hres⟩ := m_ob_e hres
          refine m_bi (m_cV (n := 2) (As := [.int x1, .int 5]) (rest := []) X hSt hP hS hl.1 (c_X8_of l G  err18) k_c_yX8_of k_m_X8_136 k_i_yX8_of k_s_yX8_of k_n_X8 (by decide +kernel) (m_rc8 hSt hP m_z_172) rfl rfl ⟨Nat.le_of_ble_eq_true rfl, Nat.le_of_ble_eq_true rfl⟩ (Nat.le_of_ble_eq_true rfl) ⟨Nat.zero_le _, Nat.zero_le _⟩ dX8_doubt_47) hS (fun H locs hP hS => ?_)
          refine lv_iconst (v := 1) X.1 X.2.1 dX8_doubt_50 (by decide) ?_
          refine lv_icmp_ne (tgt := 58) X.1 X.2.1 dX8_doubt_51 (by decide) (fun hc19 => ?_) (fun hc19 => ?_)
          · have hres := m_if hres hc19
            refine lv_iconst (v := 0) X.1 X.2.1 dX8_doubt_58 (by decide) ?_
            exact B59 0 M _ _ _ hP hS (lv_sub hl [1, 2, 3] rfl) hres
          · have hres := m_it hres hc19
            refine lv_iconst (v := 1) X.1 X.2.1 dX8_doubt_54 (by decide) ?_
            refine lv_goto (tgt := 59) X.1 X.2.1 dX8_doubt_55 (by decide) ?_
            exact B59 1 M _ _ _ hP hS (lv_sub hl [1, 2, 3] rfl) hres
        · have hres := m_it hres hc17
          refine lv_bipush (v := (-2)) X.1 X.2.1 dX8_doubt_41 (by decide) ?_
          exact m_ri X hr hlk hP hS (Prod.mk.inj (Option.some.inj hres)).1 (Prod.mk.inj (Option.some.inj hres)).2 dX8_doubt_43
  · have hres := m_it hres hc13
    refine lv_bipush (v := (-2)) X.1 X.2.1 dX8_doubt_16 (by decide) ?_
    exact m_ri X hr hlk hP hS (Prod.mk.inj (Option.some.inj hres)).1 (Prod.mk.inj (Option.some.inj hres)).2 dX8_doubt_18
theorem dX8_isLaw_0 : decode cX8_isLaw 0 = .ok (.iload_n 0, 1) := by decide +kernel
theorem dX8_isLaw_1 : decode cX8_isLaw 1 = .ok (.i2l, 1) := by decide +kernel
theorem dX8_isLaw_2 : decode cX8_isLaw 2 = .ok (.lconst 0, 1) := by decide +kernel
theorem dX8_isLaw_3 : decode cX8_isLaw 3 = .ok (.lconst 1, 1) := by decide +kernel
theorem dX8_isLaw_4 : decode cX8_isLaw 4 = .ok (.invokestatic 111, 3) := by decide +kernel
theorem dX8_isLaw_7 : decode cX8_isLaw 7 = .ok (.ireturn, 1) := by decide +kernel
def f_X8_isLaw (x0 : Int32) : Int32 :=
  m_bd (f_X8_isIn x0.toInt64 0 1) fun r1 =>
  r1
set_option maxHeartbeats 4000000 in
set_option maxRecDepth 100000 in
theorem c_X8_isLaw (l : Launch) (G : m_G) {x0 : Int32} {M : m_M} {r0 : Int32}  (hres : f_X8_isLaw x0 = r0) : Met l yX8_isLaw (m_U yX8_isLaw cX8_isLaw 1 (some .boolean)) (m_R 1 25) (m_Pc G [.int x0] M) (m_Qz G r0 M) 0 0 (m_A G) := by
  refine m_i0 (n := 1) RX8 rfl (by decide) (Nat.le_of_ble_eq_true rfl) ?_
  intro p e s m args below meth c X hr hlk hSt hP hS ls hl
  have hl : lv_has ls 1 [(0, .int x0)] := hl
  unfold f_X8_isLaw at hres
  refine lv_iload_n X.1 X.2.1 dX8_isLaw_0 rfl (lv_at hl 0 rfl) ?_
  refine lv_i2l (v := x0.toInt64) X.1 X.2.1 dX8_isLaw_1 rfl ?_
  refine lv_lconst (v := 0) X.1 X.2.1 dX8_isLaw_2 (by decide) ?_
  refine lv_lconst (v := 1) X.1 X.2.1 dX8_isLaw_3 (by decide) ?_
  obtain ⟨r1, err1, hres⟩ := m_bd_e hres
  refine m_bz (m_cS (n := 3) (As := [.long x0.toInt64, .long 0, .long 1]) (rest := []) X hSt hP hS hl.1 (c_X8_isIn l G (M := M)  err1) k_c_yX8_isIn k_m_X8_111 k_t_yX8_isIn k_n_X8 (by decide +kernel) rfl rfl ⟨Nat.le_of_ble_eq_true rfl, Nat.le_of_ble_eq_true rfl⟩ (Nat.le_of_ble_eq_true rfl) ⟨Nat.zero_le _, Nat.zero_le _⟩ dX8_isLaw_4) hS (fun H locs hP hS hz2 => ?_)
  exact m_rz X hr hlk hP hS hres rfl hz2 dX8_isLaw_7
