/-! WALKS 14: X8_net X8_next X8_swap X8_nextOrder X8_note X8_orders X8_owed X8_own X8_part X8_parted X8_person X8_wordCode X8_verbCode X8_verb -/
theorem dX8_net_0 : decode cX8_net 0 = .ok (.aload_n 0, 1) := by decide +kernel
theorem dX8_net_1 : decode cX8_net 1 = .ok (.iload_n 1, 1) := by decide +kernel
theorem dX8_net_2 : decode cX8_net 2 = .ok (.invokevirtual 148, 3) := by decide +kernel
theorem dX8_net_5 : decode cX8_net 5 = .ok (.ifCond .eq 17, 3) := by decide +kernel
theorem dX8_net_8 : decode cX8_net 8 = .ok (.iload_n 2, 1) := by decide +kernel
theorem dX8_net_9 : decode cX8_net 9 = .ok (.invokestatic 269, 3) := by decide +kernel
theorem dX8_net_12 : decode cX8_net 12 = .ok (.ifCond .eq 10, 3) := by decide +kernel
theorem dX8_net_15 : decode cX8_net 15 = .ok (.iload_n 3, 1) := by decide +kernel
theorem dX8_net_16 : decode cX8_net 16 = .ok (.invokestatic 347, 3) := by decide +kernel
theorem dX8_net_19 : decode cX8_net 19 = .ok (.ifCond .ne 6, 3) := by decide +kernel
theorem dX8_net_22 : decode cX8_net 22 = .ok (.bipush (-2), 2) := by decide +kernel
theorem dX8_net_24 : decode cX8_net 24 = .ok (.ireturn, 1) := by decide +kernel
theorem dX8_net_25 : decode cX8_net 25 = .ok (.aload_n 0, 1) := by decide +kernel
theorem dX8_net_26 : decode cX8_net 26 = .ok (.iload_n 3, 1) := by decide +kernel
theorem dX8_net_27 : decode cX8_net 27 = .ok (.invokevirtual 350, 3) := by decide +kernel
theorem dX8_net_30 : decode cX8_net 30 = .ok (.aload_n 0, 1) := by decide +kernel
theorem dX8_net_31 : decode cX8_net 31 = .ok (.iload_n 1, 1) := by decide +kernel
theorem dX8_net_32 : decode cX8_net 32 = .ok (.iload_n 2, 1) := by decide +kernel
theorem dX8_net_33 : decode cX8_net 33 = .ok (.iconst 0, 1) := by decide +kernel
theorem dX8_net_34 : decode cX8_net 34 = .ok (.iconst 0, 1) := by decide +kernel
theorem dX8_net_35 : decode cX8_net 35 = .ok (.invokevirtual 337, 3) := by decide +kernel
theorem dX8_net_38 : decode cX8_net 38 = .ok (.ireturn, 1) := by decide +kernel
def f_X8_net (n : Nat) (x1 : Int32) (x2 : Int32) (x3 : Int32) (M : m_M) : Option (Int32 × m_M) :=
  m_bd (f_X8_isPerson x1 M) fun r1 =>
  if r1 = 0 then
  some ((-2), M)
  else
  m_bd (f_X8_isLaw x2) fun r4 =>
  if r4 = 0 then
  some ((-2), M)
  else
  m_bd (f_X8_isDay x3) fun r7 =>
  if r7 = 0 then
  some ((-2), M)
  else
  m_ob (f_X8_layToday n x3 M) fun M10 =>
  m_o2 (f_X8_netOf n x1 x2 0 0 M10) fun r11 M12 =>
  some (r11, M12)
set_option maxHeartbeats 4000000 in
set_option maxRecDepth 100000 in
theorem c_X8_net (l : Launch) (G : m_G) {n : Nat} {x1 : Int32} {x2 : Int32} {x3 : Int32} {M : m_M} {r0 : Int32} {M0 : m_M}  (hres : f_X8_net n x1 x2 x3 M = some (r0, M0)) : Met l yX8_net (m_U yX8_net cX8_net 4 (some .int)) (m_R 8 182) (m_Pc G [.ref (m_ad G 172), .int x1, .int x2, .int x3] M) (m_Qi G r0 M0) 0 0 (m_A G) := by
  refine m_i0 (n := 4) RX8 rfl (by decide) (Nat.le_of_ble_eq_true rfl) ?_
  intro p e s m args below meth c X hr hlk hSt hP hS ls hl
  have hl : lv_has ls 4 [(0, .ref (m_ad G 172)), (1, .int x1), (2, .int x2), (3, .int x3)] := hl
  unfold f_X8_net at hres
  refine lv_aload_n X.1 X.2.1 dX8_net_0 rfl (lv_at hl 0 rfl) ?_
  refine lv_iload_n X.1 X.2.1 dX8_net_1 rfl (lv_at hl 1 rfl) ?_
  obtain ⟨r1, err1, hres⟩ := m_bd_e hres
  refine m_bz (m_cV (n := 1) (As := [.int x1]) (rest := []) X hSt hP hS hl.1 (c_X8_isPerson l G  err1) k_c_yX8_isPerson k_m_X8_148 k_i_yX8_isPerson k_s_yX8_isPerson k_n_X8 (by decide +kernel) (m_rc8 hSt hP m_z_172) rfl rfl ⟨Nat.le_of_ble_eq_true rfl, Nat.le_of_ble_eq_true rfl⟩ (Nat.le_of_ble_eq_true rfl) ⟨Nat.zero_le _, Nat.zero_le _⟩ dX8_net_2) hS (fun H locs hP hS hz2 => ?_)
  refine lv_if_eq (tgt := 22) X.1 X.2.1 dX8_net_5 (by decide) (fun hc3 => ?_) (fun hc3 => ?_)
  · have hres := m_it hres hc3
    refine lv_bipush (v := (-2)) X.1 X.2.1 dX8_net_22 (by decide) ?_
    exact m_ri X hr hlk hP hS (Prod.mk.inj (Option.some.inj hres)).1 (Prod.mk.inj (Option.some.inj hres)).2 dX8_net_24
  · have hres := m_if hres hc3
    refine lv_iload_n X.1 X.2.1 dX8_net_8 rfl (lv_at hl 2 rfl) ?_
    obtain ⟨r4, err4, hres⟩ := m_bd_e hres
    refine m_bz (m_cS (n := 1) (As := [.int x2]) (rest := []) X hSt hP hS hl.1 (c_X8_isLaw l G (M := M)  err4) k_c_yX8_isLaw k_m_X8_269 k_t_yX8_isLaw k_n_X8 (by decide +kernel) rfl rfl ⟨Nat.le_of_ble_eq_true rfl, Nat.le_of_ble_eq_true rfl⟩ (Nat.le_of_ble_eq_true rfl) ⟨Nat.zero_le _, Nat.zero_le _⟩ dX8_net_9) hS (fun H locs hP hS hz5 => ?_)
    refine lv_if_eq (tgt := 22) X.1 X.2.1 dX8_net_12 (by decide) (fun hc6 => ?_) (fun hc6 => ?_)
    · have hres := m_it hres hc6
      refine lv_bipush (v := (-2)) X.1 X.2.1 dX8_net_22 (by decide) ?_
      exact m_ri X hr hlk hP hS (Prod.mk.inj (Option.some.inj hres)).1 (Prod.mk.inj (Option.some.inj hres)).2 dX8_net_24
    · have hres := m_if hres hc6
      refine lv_iload_n X.1 X.2.1 dX8_net_15 rfl (lv_at hl 3 rfl) ?_
      obtain ⟨r7, err7, hres⟩ := m_bd_e hres
      refine m_bz (m_cS (n := 1) (As := [.int x3]) (rest := []) X hSt hP hS hl.1 (c_X8_isDay l G (M := M)  err7) k_c_yX8_isDay k_m_X8_347 k_t_yX8_isDay k_n_X8 (by decide +kernel) rfl rfl ⟨Nat.le_of_ble_eq_true rfl, Nat.le_of_ble_eq_true rfl⟩ (Nat.le_of_ble_eq_true rfl) ⟨Nat.zero_le _, Nat.zero_le _⟩ dX8_net_16) hS (fun H locs hP hS hz8 => ?_)
      refine lv_if_ne (tgt := 25) X.1 X.2.1 dX8_net_19 (by decide) (fun hc9 => ?_) (fun hc9 => ?_)
      · have hres := m_if hres hc9
        refine lv_aload_n X.1 X.2.1 dX8_net_25 rfl (lv_at hl 0 rfl) ?_
        refine lv_iload_n X.1 X.2.1 dX8_net_26 rfl (lv_at hl 3 rfl) ?_
        obtain ⟨M10, eM10, hres⟩ := m_ob_e hres
        refine m_bv (m_cV (n := 1) (As := [.int x3]) (rest := []) X hSt hP hS hl.1 (c_X8_layToday l G  eM10) k_c_yX8_layToday k_m_X8_350 k_i_yX8_layToday k_s_yX8_layToday k_n_X8 (by decide +kernel) (m_rc8 hSt hP m_z_172) rfl rfl ⟨Nat.le_of_ble_eq_true rfl, Nat.le_of_ble_eq_true rfl⟩ (Nat.le_of_ble_eq_true rfl) ⟨Nat.zero_le _, Nat.zero_le _⟩ dX8_net_27) hS (fun H locs hP hS => ?_)
        refine lv_aload_n X.1 X.2.1 dX8_net_30 rfl (lv_at hl 0 rfl) ?_
        refine lv_iload_n X.1 X.2.1 dX8_net_31 rfl (lv_at hl 1 rfl) ?_
        refine lv_iload_n X.1 X.2.1 dX8_net_32 rfl (lv_at hl 2 rfl) ?_
        refine lv_iconst (v := 0) X.1 X.2.1 dX8_net_33 (by decide) ?_
        refine lv_iconst (v := 0) X.1 X.2.1 dX8_net_34 (by decide) ?_
        obtain ⟨r11, M12, err11, hres⟩ := m_o2_e hres
        refine m_bi (m_cV (n := 4) (As := [.int x1, .int x2, .int 0, .int 0]) (rest := []) X hSt hP hS hl.1 (c_X8_netOf l G  err11) k_c_yX8_netOf k_m_X8_337 k_i_yX8_netOf k_s_yX8_netOf k_n_X8 (by decide +kernel) (m_rc8 hSt hP m_z_172) rfl rfl ⟨Nat.le_of_ble_eq_true rfl, Nat.le_of_ble_eq_true rfl⟩ (Nat.le_of_ble_eq_true rfl) ⟨Nat.zero_le _, Nat.zero_le _⟩ dX8_net_35) hS (fun H locs hP hS => ?_)
        exact m_ri X hr hlk hP hS (Prod.mk.inj (Option.some.inj hres)).1 (Prod.mk.inj (Option.some.inj hres)).2 dX8_net_38
      · have hres := m_it hres hc9
        refine lv_bipush (v := (-2)) X.1 X.2.1 dX8_net_22 (by decide) ?_
        exact m_ri X hr hlk hP hS (Prod.mk.inj (Option.some.inj hres)).1 (Prod.mk.inj (Option.some.inj hres)).2 dX8_net_24
theorem dX8_next_0 : decode cX8_next 0 = .ok (.aload_n 0, 1) := by decide +kernel
theorem dX8_next_1 : decode cX8_next 1 = .ok (.aload_n 0, 1) := by decide +kernel
theorem dX8_next_2 : decode cX8_next 2 = .ok (.getfield 209, 3) := by decide +kernel
theorem dX8_next_5 : decode cX8_next 5 = .ok (.aload_n 0, 1) := by decide +kernel
theorem dX8_next_6 : decode cX8_next 6 = .ok (.getfield 212, 3) := by decide +kernel
theorem dX8_next_9 : decode cX8_next 9 = .ok (.iadd, 1) := by decide +kernel
theorem dX8_next_10 : decode cX8_next 10 = .ok (.invokevirtual 227, 3) := by decide +kernel
theorem dX8_next_13 : decode cX8_next 13 = .ok (.return_, 1) := by decide +kernel
def f_X8_next (n : Nat) (M : m_M) : Option m_M :=
  m_ob (f_X8_look n ((M.1 172 27) + (M.1 172 28)) M) fun M1 =>
  some M1
set_option maxHeartbeats 4000000 in
set_option maxRecDepth 100000 in
theorem c_X8_next (l : Launch) (G : m_G) {n : Nat} {M : m_M} {M0 : m_M}  (hres : f_X8_next n M = some M0) : Met l yX8_next (m_U yX8_next cX8_next 1 none) (m_R 3 68) (m_Pc G [.ref (m_ad G 172)] M) (m_Qv G M0) 0 0 (m_A G) := by
  refine m_i0 (n := 1) RX8 rfl (by decide) (Nat.le_of_ble_eq_true rfl) ?_
  intro p e s m args below meth c X hr hlk hSt hP hS ls hl
  have hl : lv_has ls 1 [(0, .ref (m_ad G 172))] := hl
  unfold f_X8_next at hres
  refine lv_aload_n X.1 X.2.1 dX8_next_0 rfl (lv_at hl 0 rfl) ?_
  refine lv_aload_n X.1 X.2.1 dX8_next_1 rfl (lv_at hl 0 rfl) ?_
  refine m_g8 (v := .int (M.1 172 27)) X hSt hP m_z_172 27 (by decide) rfl k_f_X8_209 dX8_next_2 ?_
  refine lv_aload_n X.1 X.2.1 dX8_next_5 rfl (lv_at hl 0 rfl) ?_
  refine m_g8 (v := .int (M.1 172 28)) X hSt hP m_z_172 28 (by decide) rfl k_f_X8_212 dX8_next_6 ?_
  refine lv_iadd X.1 X.2.1 dX8_next_9 ?_
  obtain ⟨M1, eM1, hres⟩ := m_ob_e hres
  refine m_bv (m_cV (n := 1) (As := [.int ((M.1 172 27) + (M.1 172 28))]) (rest := []) X hSt hP hS hl.1 (c_X8_look l G  eM1) k_c_yX8_look k_m_X8_227 k_i_yX8_look k_s_yX8_look k_n_X8 (by decide +kernel) (m_rc8 hSt hP m_z_172) rfl rfl ⟨Nat.le_of_ble_eq_true rfl, Nat.le_of_ble_eq_true rfl⟩ (Nat.le_of_ble_eq_true rfl) ⟨Nat.zero_le _, Nat.zero_le _⟩ dX8_next_10) hS (fun H locs hP hS => ?_)
  exact m_rv X hr hlk hP hS (Option.some.inj hres) dX8_next_13
theorem dX8_swap_0 : decode cX8_swap 0 = .ok (.aload_n 0, 1) := by decide +kernel
theorem dX8_swap_1 : decode cX8_swap 1 = .ok (.getfield 98, 3) := by decide +kernel
theorem dX8_swap_4 : decode cX8_swap 4 = .ok (.iload_n 1, 1) := by decide +kernel
theorem dX8_swap_5 : decode cX8_swap 5 = .ok (.iaload, 1) := by decide +kernel
theorem dX8_swap_6 : decode cX8_swap 6 = .ok (.istore_n 3, 1) := by decide +kernel
theorem dX8_swap_7 : decode cX8_swap 7 = .ok (.aload_n 0, 1) := by decide +kernel
theorem dX8_swap_8 : decode cX8_swap 8 = .ok (.getfield 98, 3) := by decide +kernel
theorem dX8_swap_11 : decode cX8_swap 11 = .ok (.iload_n 1, 1) := by decide +kernel
theorem dX8_swap_12 : decode cX8_swap 12 = .ok (.aload_n 0, 1) := by decide +kernel
theorem dX8_swap_13 : decode cX8_swap 13 = .ok (.getfield 98, 3) := by decide +kernel
theorem dX8_swap_16 : decode cX8_swap 16 = .ok (.iload_n 2, 1) := by decide +kernel
theorem dX8_swap_17 : decode cX8_swap 17 = .ok (.iaload, 1) := by decide +kernel
theorem dX8_swap_18 : decode cX8_swap 18 = .ok (.iastore, 1) := by decide +kernel
theorem dX8_swap_19 : decode cX8_swap 19 = .ok (.aload_n 0, 1) := by decide +kernel
theorem dX8_swap_20 : decode cX8_swap 20 = .ok (.getfield 98, 3) := by decide +kernel
theorem dX8_swap_23 : decode cX8_swap 23 = .ok (.iload_n 2, 1) := by decide +kernel
theorem dX8_swap_24 : decode cX8_swap 24 = .ok (.iload_n 3, 1) := by decide +kernel
theorem dX8_swap_25 : decode cX8_swap 25 = .ok (.iastore, 1) := by decide +kernel
theorem dX8_swap_26 : decode cX8_swap 26 = .ok (.return_, 1) := by decide +kernel
def f_X8_swap (x1 : Int32) (x2 : Int32) (M : m_M) : Option m_M :=
  m_gd (m_in x1 6) (
  m_gd (m_in x2 6) (
  m_bd (m_sI M 199 x1.toNatClampNeg (M.1 199 x2.toNatClampNeg)) fun M3 =>
  m_bd (m_sI M3 199 x2.toNatClampNeg (M.1 199 x1.toNatClampNeg)) fun M4 =>
  some M4))
set_option maxHeartbeats 4000000 in
set_option maxRecDepth 100000 in
theorem c_X8_swap (l : Launch) (G : m_G) {x1 : Int32} {x2 : Int32} {M : m_M} {M0 : m_M}  (hres : f_X8_swap x1 x2 M = some M0) : Met l yX8_swap (m_U yX8_swap cX8_swap 4 none) (m_R 0 0) (m_Pc G [.ref (m_ad G 172), .int x1, .int x2] M) (m_Qv G M0) 0 0 (m_A G) := by
  refine m_i0 (n := 4) RX8 rfl (by decide) (Nat.le_of_ble_eq_true rfl) ?_
  intro p e s m args below meth c X hr hlk hSt hP hS ls hl
  have hl : lv_has ls 4 [(0, .ref (m_ad G 172)), (1, .int x1), (2, .int x2)] := hl
  unfold f_X8_swap at hres
  refine lv_aload_n X.1 X.2.1 dX8_swap_0 rfl (lv_at hl 0 rfl) ?_
  refine m_g8 (v := .ref (m_ad G 199)) X hSt hP m_z_172 51 (by decide) rfl k_f_X8_98 dX8_swap_1 ?_
  refine lv_iload_n X.1 X.2.1 dX8_swap_4 rfl (lv_at hl 1 rfl) ?_
  obtain ⟨hg1, hres⟩ := m_gd_e hres
  refine m_ia (j := x1.toNatClampNeg) X hSt hP m_z_199 hg1 rfl dX8_swap_5 ?_
  refine lv_istore_n (lv' := [(3, .int (M.1 199 x1.toNatClampNeg)), (0, .ref (m_ad G 172)), (1, .int x1), (2, .int x2)]) X.1 X.2.1 dX8_swap_6 rfl hl (by decide) rfl (fun ls hl => ?_)
  refine lv_aload_n X.1 X.2.1 dX8_swap_7 rfl (lv_at hl 1 rfl) ?_
  refine m_g8 (v := .ref (m_ad G 199)) X hSt hP m_z_172 51 (by decide) rfl k_f_X8_98 dX8_swap_8 ?_
  refine lv_iload_n X.1 X.2.1 dX8_swap_11 rfl (lv_at hl 2 rfl) ?_
  refine lv_aload_n X.1 X.2.1 dX8_swap_12 rfl (lv_at hl 1 rfl) ?_
  refine m_g8 (v := .ref (m_ad G 199)) X hSt hP m_z_172 51 (by decide) rfl k_f_X8_98 dX8_swap_13 ?_
  refine lv_iload_n X.1 X.2.1 dX8_swap_16 rfl (lv_at hl 3 rfl) ?_
  obtain ⟨hg2, hres⟩ := m_gd_e hres
  refine m_ia (j := x2.toNatClampNeg) X hSt hP m_z_199 hg2 rfl dX8_swap_17 ?_
  obtain ⟨M3, eM3, hres⟩ := m_bd_e hres
  refine m_is (j := x1.toNatClampNeg) X hSt hP hS m_z_199 hg1 rfl dX8_swap_18 eM3 (fun H locs hP hS => ?_)
  refine lv_aload_n X.1 X.2.1 dX8_swap_19 rfl (lv_at hl 1 rfl) ?_
  refine m_g8 (v := .ref (m_ad G 199)) X hSt hP m_z_172 51 (by decide) rfl k_f_X8_98 dX8_swap_20 ?_
  refine lv_iload_n X.1 X.2.1 dX8_swap_23 rfl (lv_at hl 3 rfl) ?_
  refine lv_iload_n X.1 X.2.1 dX8_swap_24 rfl (lv_at hl 0 rfl) ?_
  obtain ⟨M4, eM4, hres⟩ := m_bd_e hres
  refine m_is (j := x2.toNatClampNeg) X hSt hP hS m_z_199 hg2 rfl dX8_swap_25 eM4 (fun H locs hP hS => ?_)
  exact m_rv X hr hlk hP hS (Option.some.inj hres) dX8_swap_26
theorem dX8_nextOrder_0 : decode cX8_nextOrder 0 = .ok (.aload_n 0, 1) := by decide +kernel
theorem dX8_nextOrder_1 : decode cX8_nextOrder 1 = .ok (.invokevirtual 400, 3) := by decide +kernel
theorem dX8_nextOrder_4 : decode cX8_nextOrder 4 = .ok (.iconst 2, 1) := by decide +kernel
theorem dX8_nextOrder_5 : decode cX8_nextOrder 5 = .ok (.isub, 1) := by decide +kernel
theorem dX8_nextOrder_6 : decode cX8_nextOrder 6 = .ok (.istore_n 1, 1) := by decide +kernel
theorem dX8_nextOrder_7 : decode cX8_nextOrder 7 = .ok (.iload_n 1, 1) := by decide +kernel
theorem dX8_nextOrder_8 : decode cX8_nextOrder 8 = .ok (.ifCond .lt 26, 3) := by decide +kernel
theorem dX8_nextOrder_11 : decode cX8_nextOrder 11 = .ok (.aload_n 0, 1) := by decide +kernel
theorem dX8_nextOrder_12 : decode cX8_nextOrder 12 = .ok (.getfield 98, 3) := by decide +kernel
theorem dX8_nextOrder_15 : decode cX8_nextOrder 15 = .ok (.iload_n 1, 1) := by decide +kernel
theorem dX8_nextOrder_16 : decode cX8_nextOrder 16 = .ok (.iaload, 1) := by decide +kernel
theorem dX8_nextOrder_17 : decode cX8_nextOrder 17 = .ok (.aload_n 0, 1) := by decide +kernel
theorem dX8_nextOrder_18 : decode cX8_nextOrder 18 = .ok (.getfield 98, 3) := by decide +kernel
theorem dX8_nextOrder_21 : decode cX8_nextOrder 21 = .ok (.iload_n 1, 1) := by decide +kernel
theorem dX8_nextOrder_22 : decode cX8_nextOrder 22 = .ok (.iconst 1, 1) := by decide +kernel
theorem dX8_nextOrder_23 : decode cX8_nextOrder 23 = .ok (.iadd, 1) := by decide +kernel
theorem dX8_nextOrder_24 : decode cX8_nextOrder 24 = .ok (.iaload, 1) := by decide +kernel
theorem dX8_nextOrder_25 : decode cX8_nextOrder 25 = .ok (.if_icmp .le 9, 3) := by decide +kernel
theorem dX8_nextOrder_28 : decode cX8_nextOrder 28 = .ok (.iinc 1 (-1), 3) := by decide +kernel
theorem dX8_nextOrder_31 : decode cX8_nextOrder 31 = .ok (.goto (-24), 3) := by decide +kernel
theorem dX8_nextOrder_34 : decode cX8_nextOrder 34 = .ok (.iload_n 1, 1) := by decide +kernel
theorem dX8_nextOrder_35 : decode cX8_nextOrder 35 = .ok (.ifCond .ge 5, 3) := by decide +kernel
theorem dX8_nextOrder_38 : decode cX8_nextOrder 38 = .ok (.iconst 0, 1) := by decide +kernel
theorem dX8_nextOrder_39 : decode cX8_nextOrder 39 = .ok (.ireturn, 1) := by decide +kernel
theorem dX8_nextOrder_40 : decode cX8_nextOrder 40 = .ok (.aload_n 0, 1) := by decide +kernel
theorem dX8_nextOrder_41 : decode cX8_nextOrder 41 = .ok (.invokevirtual 400, 3) := by decide +kernel
theorem dX8_nextOrder_44 : decode cX8_nextOrder 44 = .ok (.iconst 1, 1) := by decide +kernel
theorem dX8_nextOrder_45 : decode cX8_nextOrder 45 = .ok (.isub, 1) := by decide +kernel
theorem dX8_nextOrder_46 : decode cX8_nextOrder 46 = .ok (.istore_n 2, 1) := by decide +kernel
theorem dX8_nextOrder_47 : decode cX8_nextOrder 47 = .ok (.aload_n 0, 1) := by decide +kernel
theorem dX8_nextOrder_48 : decode cX8_nextOrder 48 = .ok (.getfield 98, 3) := by decide +kernel
theorem dX8_nextOrder_51 : decode cX8_nextOrder 51 = .ok (.iload_n 2, 1) := by decide +kernel
theorem dX8_nextOrder_52 : decode cX8_nextOrder 52 = .ok (.iaload, 1) := by decide +kernel
theorem dX8_nextOrder_53 : decode cX8_nextOrder 53 = .ok (.aload_n 0, 1) := by decide +kernel
theorem dX8_nextOrder_54 : decode cX8_nextOrder 54 = .ok (.getfield 98, 3) := by decide +kernel
theorem dX8_nextOrder_57 : decode cX8_nextOrder 57 = .ok (.iload_n 1, 1) := by decide +kernel
theorem dX8_nextOrder_58 : decode cX8_nextOrder 58 = .ok (.iaload, 1) := by decide +kernel
theorem dX8_nextOrder_59 : decode cX8_nextOrder 59 = .ok (.if_icmp .ge 9, 3) := by decide +kernel
theorem dX8_nextOrder_62 : decode cX8_nextOrder 62 = .ok (.iinc 2 (-1), 3) := by decide +kernel
theorem dX8_nextOrder_65 : decode cX8_nextOrder 65 = .ok (.goto (-18), 3) := by decide +kernel
theorem dX8_nextOrder_68 : decode cX8_nextOrder 68 = .ok (.aload_n 0, 1) := by decide +kernel
theorem dX8_nextOrder_69 : decode cX8_nextOrder 69 = .ok (.iload_n 1, 1) := by decide +kernel
theorem dX8_nextOrder_70 : decode cX8_nextOrder 70 = .ok (.iload_n 2, 1) := by decide +kernel
theorem dX8_nextOrder_71 : decode cX8_nextOrder 71 = .ok (.invokevirtual 418, 3) := by decide +kernel
theorem dX8_nextOrder_74 : decode cX8_nextOrder 74 = .ok (.iload_n 1, 1) := by decide +kernel
theorem dX8_nextOrder_75 : decode cX8_nextOrder 75 = .ok (.iconst 1, 1) := by decide +kernel
theorem dX8_nextOrder_76 : decode cX8_nextOrder 76 = .ok (.iadd, 1) := by decide +kernel
theorem dX8_nextOrder_77 : decode cX8_nextOrder 77 = .ok (.istore_n 3, 1) := by decide +kernel
theorem dX8_nextOrder_78 : decode cX8_nextOrder 78 = .ok (.aload_n 0, 1) := by decide +kernel
theorem dX8_nextOrder_79 : decode cX8_nextOrder 79 = .ok (.invokevirtual 400, 3) := by decide +kernel
theorem dX8_nextOrder_82 : decode cX8_nextOrder 82 = .ok (.iconst 1, 1) := by decide +kernel
theorem dX8_nextOrder_83 : decode cX8_nextOrder 83 = .ok (.isub, 1) := by decide +kernel
theorem dX8_nextOrder_84 : decode cX8_nextOrder 84 = .ok (.istore 4, 2) := by decide +kernel
theorem dX8_nextOrder_86 : decode cX8_nextOrder 86 = .ok (.iload_n 3, 1) := by decide +kernel
theorem dX8_nextOrder_87 : decode cX8_nextOrder 87 = .ok (.iload 4, 2) := by decide +kernel
theorem dX8_nextOrder_89 : decode cX8_nextOrder 89 = .ok (.if_icmp .ge 19, 3) := by decide +kernel
theorem dX8_nextOrder_92 : decode cX8_nextOrder 92 = .ok (.aload_n 0, 1) := by decide +kernel
theorem dX8_nextOrder_93 : decode cX8_nextOrder 93 = .ok (.iload_n 3, 1) := by decide +kernel
theorem dX8_nextOrder_94 : decode cX8_nextOrder 94 = .ok (.iload 4, 2) := by decide +kernel
theorem dX8_nextOrder_96 : decode cX8_nextOrder 96 = .ok (.invokevirtual 418, 3) := by decide +kernel
theorem dX8_nextOrder_99 : decode cX8_nextOrder 99 = .ok (.iinc 3 1, 3) := by decide +kernel
theorem dX8_nextOrder_102 : decode cX8_nextOrder 102 = .ok (.iinc 4 (-1), 3) := by decide +kernel
theorem dX8_nextOrder_105 : decode cX8_nextOrder 105 = .ok (.goto (-19), 3) := by decide +kernel
theorem dX8_nextOrder_108 : decode cX8_nextOrder 108 = .ok (.iconst 1, 1) := by decide +kernel
theorem dX8_nextOrder_109 : decode cX8_nextOrder 109 = .ok (.ireturn, 1) := by decide +kernel
def f_X8_nextOrder_b86 (n : Nat) : Nat → Int32 → Int32 → m_M → Option (Int32 × m_M)
  | 0, _, _, _ => none
  | u + 1, x3, x4, M =>
    if x4 ≤ x3 then
  some (1, M)
  else
  m_ob (f_X8_swap x3 x4 M) fun M2 =>
  f_X8_nextOrder_b86 n u (x3 + 1) (x4 + (-1)) M2
def f_X8_nextOrder_b47 (n : Nat) : Nat → Int32 → Int32 → m_M → Option (Int32 × m_M)
  | 0, _, _, _ => none
  | u + 1, x1, x2, M =>
    m_gd (m_in x2 6) (
  m_gd (m_in x1 6) (
  if (M.1 199 x1.toNatClampNeg) ≤ (M.1 199 x2.toNatClampNeg) then
  m_ob (f_X8_swap x1 x2 M) fun M6 =>
  m_bd (f_X8_lined M6) fun r7 =>
  f_X8_nextOrder_b86 n n (x1 + (1 : Int32)) (r7 - (1 : Int32)) M6
  else
  f_X8_nextOrder_b47 n u x1 (x2 + (-1)) M))
def f_X8_nextOrder_b34 (n : Nat) (x1 : Int32) (M : m_M) : Option (Int32 × m_M) :=
  if (0 : Int32) ≤ x1 then
  m_bd (f_X8_lined M) fun r9 =>
  f_X8_nextOrder_b47 n n x1 (r9 - (1 : Int32)) M
  else
  some (0, M)
def f_X8_nextOrder_b7 (n : Nat) : Nat → Int32 → m_M → Option (Int32 × m_M)
  | 0, _, _ => none
  | u + 1, x1, M =>
    if x1 < 0 then
  f_X8_nextOrder_b34 n x1 M
  else
  m_gd (m_in x1 6) (
  m_gd (m_in (x1 + (1 : Int32)) 6) (
  if (M.1 199 x1.toNatClampNeg) ≤ (M.1 199 ((x1 + (1 : Int32)).toNatClampNeg)) then
  f_X8_nextOrder_b34 n x1 M
  else
  f_X8_nextOrder_b7 n u (x1 + (-1)) M))
def f_X8_nextOrder (n : Nat) (M : m_M) : Option (Int32 × m_M) :=
  m_bd (f_X8_lined M) fun r14 =>
  f_X8_nextOrder_b7 n n (r14 - (2 : Int32)) M
set_option maxHeartbeats 4000000 in
set_option maxRecDepth 100000 in
theorem c_X8_nextOrder (l : Launch) (G : m_G) {n : Nat} {M : m_M} {r0 : Int32} {M0 : m_M}  (hres : f_X8_nextOrder n M = some (r0, M0)) : Met l yX8_nextOrder (m_U yX8_nextOrder cX8_nextOrder 5 (some .boolean)) (m_R 1 23) (m_Pc G [.ref (m_ad G 172)] M) (m_Qz G r0 M0) 0 0 (m_A G) := by
  refine m_i0 (n := 5) RX8 rfl (by decide) (Nat.le_of_ble_eq_true rfl) ?_
  intro p e s m args below meth c X hr hlk hSt hP hS ls hl
  have hl : lv_has ls 5 [(0, .ref (m_ad G 172))] := hl
  have B86 : ∀ (u : Nat) (x3 : Int32) (x4 : Int32) (M : m_M) (H : Heap) (locs : List Loc) (ls : Array Slot), m_P G M H → va_S (m_A G) s.heap H locs → lv_has ls 5 [(0, .ref (m_ad G 172)), (3, .int x3), (4, .int x4)] → f_X8_nextOrder_b86 n u x3 x4 M = some (r0, M0) → W p l e (m_R 1 23) s m args below meth c H locs 0 0 (MQ below (m_Qz G r0 M0) args s 0 0 (m_A G)) (F0 m 86 ls []) := by
    intro u
    induction u with
    | zero =>
      intro x3 x4 M H locs ls hP hS hl hres
      cases hres
    | succ u ih =>
      intro x3 x4 M H locs ls hP hS hl hres
      rw [f_X8_nextOrder_b86] at hres
      refine lv_iload_n X.1 X.2.1 dX8_nextOrder_86 rfl (lv_at hl 1 rfl) ?_
      refine lv_iload X.1 X.2.1 dX8_nextOrder_87 (lv_at hl 2 rfl) ?_
      refine lv_icmp_ge (tgt := 108) X.1 X.2.1 dX8_nextOrder_89 (by decide) (fun hc1 => ?_) (fun hc1 => ?_)
      · have hres := m_it hres hc1
        refine lv_iconst (v := 1) X.1 X.2.1 dX8_nextOrder_108 (by decide) ?_
        exact m_rz X hr hlk hP hS (Prod.mk.inj (Option.some.inj hres)).1 (Prod.mk.inj (Option.some.inj hres)).2 (by decide) dX8_nextOrder_109
      · have hres := m_if hres hc1
        refine lv_aload_n X.1 X.2.1 dX8_nextOrder_92 rfl (lv_at hl 0 rfl) ?_
        refine lv_iload_n X.1 X.2.1 dX8_nextOrder_93 rfl (lv_at hl 1 rfl) ?_
        refine lv_iload X.1 X.2.1 dX8_nextOrder_94 (lv_at hl 2 rfl) ?_
        obtain ⟨M2, eM2, hres⟩ := m_ob_e hres
        refine m_bv (m_cV (n := 2) (As := [.int x3, .int x4]) (rest := []) X hSt hP hS hl.1 (c_X8_swap l G  eM2) k_c_yX8_swap k_m_X8_418 k_i_yX8_swap k_s_yX8_swap k_n_X8 (by decide +kernel) (m_rc8 hSt hP m_z_172) rfl rfl ⟨Nat.le_of_ble_eq_true rfl, Nat.le_of_ble_eq_true rfl⟩ (Nat.le_of_ble_eq_true rfl) ⟨Nat.zero_le _, Nat.zero_le _⟩ dX8_nextOrder_96) hS (fun H locs hP hS => ?_)
        refine lv_iinc (v := (x3 + 1)) (lv' := [(3, .int (x3 + 1)), (0, .ref (m_ad G 172)), (4, .int x4)]) X.1 X.2.1 dX8_nextOrder_99 hl (k := 1) rfl rfl (by decide) rfl (fun ls hl => ?_)
        refine lv_iinc (v := (x4 + (-1))) (lv' := [(4, .int (x4 + (-1))), (3, .int (x3 + 1)), (0, .ref (m_ad G 172))]) X.1 X.2.1 dX8_nextOrder_102 hl (k := 2) rfl rfl (by decide) rfl (fun ls hl => ?_)
        refine lv_goto (tgt := 86) X.1 X.2.1 dX8_nextOrder_105 (by decide) ?_
        exact ih (x3 + 1) (x4 + (-1)) M2 _ _ _ hP hS (lv_sub hl [2, 1, 0] rfl) hres
  have B47 : ∀ (u : Nat) (x1 : Int32) (x2 : Int32) (M : m_M) (H : Heap) (locs : List Loc) (ls : Array Slot), m_P G M H → va_S (m_A G) s.heap H locs → lv_has ls 5 [(0, .ref (m_ad G 172)), (1, .int x1), (2, .int x2)] → f_X8_nextOrder_b47 n u x1 x2 M = some (r0, M0) → W p l e (m_R 1 23) s m args below meth c H locs 0 0 (MQ below (m_Qz G r0 M0) args s 0 0 (m_A G)) (F0 m 47 ls []) := by
    intro u
    induction u with
    | zero =>
      intro x1 x2 M H locs ls hP hS hl hres
      cases hres
    | succ u ih =>
      intro x1 x2 M H locs ls hP hS hl hres
      rw [f_X8_nextOrder_b47] at hres
      refine lv_aload_n X.1 X.2.1 dX8_nextOrder_47 rfl (lv_at hl 0 rfl) ?_
      refine m_g8 (v := .ref (m_ad G 199)) X hSt hP m_z_172 51 (by decide) rfl k_f_X8_98 dX8_nextOrder_48 ?_
      refine lv_iload_n X.1 X.2.1 dX8_nextOrder_51 rfl (lv_at hl 2 rfl) ?_
      obtain ⟨hg3, hres⟩ := m_gd_e hres
      refine m_ia (j := x2.toNatClampNeg) X hSt hP m_z_199 hg3 rfl dX8_nextOrder_52 ?_
      refine lv_aload_n X.1 X.2.1 dX8_nextOrder_53 rfl (lv_at hl 0 rfl) ?_
      refine m_g8 (v := .ref (m_ad G 199)) X hSt hP m_z_172 51 (by decide) rfl k_f_X8_98 dX8_nextOrder_54 ?_
      refine lv_iload_n X.1 X.2.1 dX8_nextOrder_57 rfl (lv_at hl 1 rfl) ?_
      obtain ⟨hg4, hres⟩ := m_gd_e hres
      refine m_ia (j := x1.toNatClampNeg) X hSt hP m_z_199 hg4 rfl dX8_nextOrder_58 ?_
      refine lv_icmp_ge (tgt := 68) X.1 X.2.1 dX8_nextOrder_59 (by decide) (fun hc5 => ?_) (fun hc5 => ?_)
      · have hres := m_it hres hc5
        refine lv_aload_n X.1 X.2.1 dX8_nextOrder_68 rfl (lv_at hl 0 rfl) ?_
        refine lv_iload_n X.1 X.2.1 dX8_nextOrder_69 rfl (lv_at hl 1 rfl) ?_
        refine lv_iload_n X.1 X.2.1 dX8_nextOrder_70 rfl (lv_at hl 2 rfl) ?_
        obtain ⟨M6, eM6, hres⟩ := m_ob_e hres
        refine m_bv (m_cV (n := 2) (As := [.int x1, .int x2]) (rest := []) X hSt hP hS hl.1 (c_X8_swap l G  eM6) k_c_yX8_swap k_m_X8_418 k_i_yX8_swap k_s_yX8_swap k_n_X8 (by decide +kernel) (m_rc8 hSt hP m_z_172) rfl rfl ⟨Nat.le_of_ble_eq_true rfl, Nat.le_of_ble_eq_true rfl⟩ (Nat.le_of_ble_eq_true rfl) ⟨Nat.zero_le _, Nat.zero_le _⟩ dX8_nextOrder_71) hS (fun H locs hP hS => ?_)
        refine lv_iload_n X.1 X.2.1 dX8_nextOrder_74 rfl (lv_at hl 1 rfl) ?_
        refine lv_iconst (v := 1) X.1 X.2.1 dX8_nextOrder_75 (by decide) ?_
        refine lv_iadd X.1 X.2.1 dX8_nextOrder_76 ?_
        refine lv_istore_n (lv' := [(3, .int (x1 + (1 : Int32))), (0, .ref (m_ad G 172)), (1, .int x1), (2, .int x2)]) X.1 X.2.1 dX8_nextOrder_77 rfl hl (by decide) rfl (fun ls hl => ?_)
        refine lv_aload_n X.1 X.2.1 dX8_nextOrder_78 rfl (lv_at hl 1 rfl) ?_
        obtain ⟨r7, err7, hres⟩ := m_bd_e hres
        refine m_bi (m_cV (n := 0) (As := []) (rest := []) X hSt hP hS hl.1 (c_X8_lined l G  err7) k_c_yX8_lined k_m_X8_400 k_i_yX8_lined k_s_yX8_lined k_n_X8 (by decide +kernel) (m_rc8 hSt hP m_z_172) rfl rfl ⟨Nat.le_of_ble_eq_true rfl, Nat.le_of_ble_eq_true rfl⟩ (Nat.le_of_ble_eq_true rfl) ⟨Nat.zero_le _, Nat.zero_le _⟩ dX8_nextOrder_79) hS (fun H locs hP hS => ?_)
        refine lv_iconst (v := 1) X.1 X.2.1 dX8_nextOrder_82 (by decide) ?_
        refine lv_isub X.1 X.2.1 dX8_nextOrder_83 ?_
        refine lv_istore (lv' := [(4, .int (r7 - (1 : Int32))), (3, .int (x1 + (1 : Int32))), (0, .ref (m_ad G 172)), (1, .int x1), (2, .int x2)]) X.1 X.2.1 dX8_nextOrder_84 hl (by decide) rfl (fun ls hl => ?_)
        exact B86 n (x1 + (1 : Int32)) (r7 - (1 : Int32)) M6 _ _ _ hP hS (lv_sub hl [2, 1, 0] rfl) hres
      · have hres := m_if hres hc5
        refine lv_iinc (v := (x2 + (-1))) (lv' := [(2, .int (x2 + (-1))), (0, .ref (m_ad G 172)), (1, .int x1)]) X.1 X.2.1 dX8_nextOrder_62 hl (k := 2) rfl rfl (by decide) rfl (fun ls hl => ?_)
        refine lv_goto (tgt := 47) X.1 X.2.1 dX8_nextOrder_65 (by decide) ?_
        exact ih x1 (x2 + (-1)) M _ _ _ hP hS (lv_sub hl [1, 2, 0] rfl) hres
  have B34 : ∀  (x1 : Int32) (M : m_M) (H : Heap) (locs : List Loc) (ls : Array Slot), m_P G M H → va_S (m_A G) s.heap H locs → lv_has ls 5 [(0, .ref (m_ad G 172)), (1, .int x1)] → f_X8_nextOrder_b34 n x1 M = some (r0, M0) → W p l e (m_R 1 23) s m args below meth c H locs 0 0 (MQ below (m_Qz G r0 M0) args s 0 0 (m_A G)) (F0 m 34 ls []) := by
    intro x1 M H locs ls hP hS hl hres
    unfold f_X8_nextOrder_b34 at hres
    refine lv_iload_n X.1 X.2.1 dX8_nextOrder_34 rfl (lv_at hl 1 rfl) ?_
    refine lv_if_ge (tgt := 40) X.1 X.2.1 dX8_nextOrder_35 (by decide) (fun hc8 => ?_) (fun hc8 => ?_)
    · have hres := m_it hres hc8
      refine lv_aload_n X.1 X.2.1 dX8_nextOrder_40 rfl (lv_at hl 0 rfl) ?_
      obtain ⟨r9, err9, hres⟩ := m_bd_e hres
      refine m_bi (m_cV (n := 0) (As := []) (rest := []) X hSt hP hS hl.1 (c_X8_lined l G  err9) k_c_yX8_lined k_m_X8_400 k_i_yX8_lined k_s_yX8_lined k_n_X8 (by decide +kernel) (m_rc8 hSt hP m_z_172) rfl rfl ⟨Nat.le_of_ble_eq_true rfl, Nat.le_of_ble_eq_true rfl⟩ (Nat.le_of_ble_eq_true rfl) ⟨Nat.zero_le _, Nat.zero_le _⟩ dX8_nextOrder_41) hS (fun H locs hP hS => ?_)
      refine lv_iconst (v := 1) X.1 X.2.1 dX8_nextOrder_44 (by decide) ?_
      refine lv_isub X.1 X.2.1 dX8_nextOrder_45 ?_
      refine lv_istore_n (lv' := [(2, .int (r9 - (1 : Int32))), (0, .ref (m_ad G 172)), (1, .int x1)]) X.1 X.2.1 dX8_nextOrder_46 rfl hl (by decide) rfl (fun ls hl => ?_)
      exact B47 n x1 (r9 - (1 : Int32)) M _ _ _ hP hS (lv_sub hl [1, 2, 0] rfl) hres
    · have hres := m_if hres hc8
      refine lv_iconst (v := 0) X.1 X.2.1 dX8_nextOrder_38 (by decide) ?_
      exact m_rz X hr hlk hP hS (Prod.mk.inj (Option.some.inj hres)).1 (Prod.mk.inj (Option.some.inj hres)).2 (by decide) dX8_nextOrder_39
  have B7 : ∀ (u : Nat) (x1 : Int32) (M : m_M) (H : Heap) (locs : List Loc) (ls : Array Slot), m_P G M H → va_S (m_A G) s.heap H locs → lv_has ls 5 [(0, .ref (m_ad G 172)), (1, .int x1)] → f_X8_nextOrder_b7 n u x1 M = some (r0, M0) → W p l e (m_R 1 23) s m args below meth c H locs 0 0 (MQ below (m_Qz G r0 M0) args s 0 0 (m_A G)) (F0 m 7 ls []) := by
    intro u
    induction u with
    | zero =>
      intro x1 M H locs ls hP hS hl hres
      cases hres
    | succ u ih =>
      intro x1 M H locs ls hP hS hl hres
      rw [f_X8_nextOrder_b7] at hres
      refine lv_iload_n X.1 X.2.1 dX8_nextOrder_7 rfl (lv_at hl 1 rfl) ?_
      refine lv_if_lt (tgt := 34) X.1 X.2.1 dX8_nextOrder_8 (by decide) (fun hc10 => ?_) (fun hc10 => ?_)
      · have hres := m_it hres hc10
        exact B34 x1 M _ _ _ hP hS (lv_sub hl [0, 1] rfl) hres
      · have hres := m_if hres hc10
        refine lv_aload_n X.1 X.2.1 dX8_nextOrder_11 rfl (lv_at hl 0 rfl) ?_
        refine m_g8 (v := .ref (m_ad G 199)) X hSt hP m_z_172 51 (by decide) rfl k_f_X8_98 dX8_nextOrder_12 ?_
        refine lv_iload_n X.1 X.2.1 dX8_nextOrder_15 rfl (lv_at hl 1 rfl) ?_
        obtain ⟨hg11, hres⟩ := m_gd_e hres
        refine m_ia (j := x1.toNatClampNeg) X hSt hP m_z_199 hg11 rfl dX8_nextOrder_16 ?_
        refine lv_aload_n X.1 X.2.1 dX8_nextOrder_17 rfl (lv_at hl 0 rfl) ?_
        refine m_g8 (v := .ref (m_ad G 199)) X hSt hP m_z_172 51 (by decide) rfl k_f_X8_98 dX8_nextOrder_18 ?_
        refine lv_iload_n X.1 X.2.1 dX8_nextOrder_21 rfl (lv_at hl 1 rfl) ?_
        refine lv_iconst (v := 1) X.1 X.2.1 dX8_nextOrder_22 (by decide) ?_
        refine lv_iadd X.1 X.2.1 dX8_nextOrder_23 ?_
        obtain ⟨hg12, hres⟩ := m_gd_e hres
        refine m_ia (j := ((x1 + (1 : Int32)).toNatClampNeg)) X hSt hP m_z_199 hg12 rfl dX8_nextOrder_24 ?_
        refine lv_icmp_le (tgt := 34) X.1 X.2.1 dX8_nextOrder_25 (by decide) (fun hc13 => ?_) (fun hc13 => ?_)
        · have hres := m_it hres hc13
          exact B34 x1 M _ _ _ hP hS (lv_sub hl [0, 1] rfl) hres
        · have hres := m_if hres hc13
          refine lv_iinc (v := (x1 + (-1))) (lv' := [(1, .int (x1 + (-1))), (0, .ref (m_ad G 172))]) X.1 X.2.1 dX8_nextOrder_28 hl (k := 1) rfl rfl (by decide) rfl (fun ls hl => ?_)
          refine lv_goto (tgt := 7) X.1 X.2.1 dX8_nextOrder_31 (by decide) ?_
          exact ih (x1 + (-1)) M _ _ _ hP hS (lv_sub hl [1, 0] rfl) hres
  unfold f_X8_nextOrder at hres
  refine lv_aload_n X.1 X.2.1 dX8_nextOrder_0 rfl (lv_at hl 0 rfl) ?_
  obtain ⟨r14, err14, hres⟩ := m_bd_e hres
  refine m_bi (m_cV (n := 0) (As := []) (rest := []) X hSt hP hS hl.1 (c_X8_lined l G  err14) k_c_yX8_lined k_m_X8_400 k_i_yX8_lined k_s_yX8_lined k_n_X8 (by decide +kernel) (m_rc8 hSt hP m_z_172) rfl rfl ⟨Nat.le_of_ble_eq_true rfl, Nat.le_of_ble_eq_true rfl⟩ (Nat.le_of_ble_eq_true rfl) ⟨Nat.zero_le _, Nat.zero_le _⟩ dX8_nextOrder_1) hS (fun H locs hP hS => ?_)
  refine lv_iconst (v := 2) X.1 X.2.1 dX8_nextOrder_4 (by decide) ?_
  refine lv_isub X.1 X.2.1 dX8_nextOrder_5 ?_
  refine lv_istore_n (lv' := [(1, .int (r14 - (2 : Int32))), (0, .ref (m_ad G 172))]) X.1 X.2.1 dX8_nextOrder_6 rfl hl (by decide) rfl (fun ls hl => ?_)
  exact B7 n (r14 - (2 : Int32)) M _ _ _ hP hS (lv_sub hl [1, 0] rfl) hres
theorem dX8_note_0 : decode cX8_note 0 = .ok (.aload_n 0, 1) := by decide +kernel
theorem dX8_note_1 : decode cX8_note 1 = .ok (.invokevirtual 133, 3) := by decide +kernel
theorem dX8_note_4 : decode cX8_note 4 = .ok (.ifCond .ne 7, 3) := by decide +kernel
theorem dX8_note_7 : decode cX8_note 7 = .ok (.iconst 0, 1) := by decide +kernel
theorem dX8_note_8 : decode cX8_note 8 = .ok (.goto 14, 3) := by decide +kernel
theorem dX8_note_11 : decode cX8_note 11 = .ok (.aload_n 0, 1) := by decide +kernel
theorem dX8_note_12 : decode cX8_note 12 = .ok (.aload_n 0, 1) := by decide +kernel
theorem dX8_note_13 : decode cX8_note 13 = .ok (.invokevirtual 133, 3) := by decide +kernel
theorem dX8_note_16 : decode cX8_note 16 = .ok (.iconst 1, 1) := by decide +kernel
theorem dX8_note_17 : decode cX8_note 17 = .ok (.isub, 1) := by decide +kernel
theorem dX8_note_18 : decode cX8_note 18 = .ok (.iconst 0, 1) := by decide +kernel
theorem dX8_note_19 : decode cX8_note 19 = .ok (.invokevirtual 136, 3) := by decide +kernel
theorem dX8_note_22 : decode cX8_note 22 = .ok (.istore 6, 2) := by decide +kernel
theorem dX8_note_24 : decode cX8_note 24 = .ok (.aload_n 0, 1) := by decide +kernel
theorem dX8_note_25 : decode cX8_note 25 = .ok (.bipush 31, 2) := by decide +kernel
theorem dX8_note_27 : decode cX8_note 27 = .ok (.putfield 72, 3) := by decide +kernel
theorem dX8_note_30 : decode cX8_note 30 = .ok (.aload_n 0, 1) := by decide +kernel
theorem dX8_note_31 : decode cX8_note 31 = .ok (.sipush 999, 3) := by decide +kernel
theorem dX8_note_34 : decode cX8_note 34 = .ok (.invokevirtual 174, 3) := by decide +kernel
theorem dX8_note_37 : decode cX8_note 37 = .ok (.iload_n 1, 1) := by decide +kernel
theorem dX8_note_38 : decode cX8_note 38 = .ok (.i2l, 1) := by decide +kernel
theorem dX8_note_39 : decode cX8_note 39 = .ok (.iload 6, 2) := by decide +kernel
theorem dX8_note_41 : decode cX8_note 41 = .ok (.i2l, 1) := by decide +kernel
theorem dX8_note_42 : decode cX8_note 42 = .ok (.ldc2_w 119, 3) := by decide +kernel
theorem dX8_note_45 : decode cX8_note 45 = .ok (.invokestatic 111, 3) := by decide +kernel
theorem dX8_note_48 : decode cX8_note 48 = .ok (.ifCond .eq 16, 3) := by decide +kernel
theorem dX8_note_51 : decode cX8_note 51 = .ok (.aload_n 0, 1) := by decide +kernel
theorem dX8_note_52 : decode cX8_note 52 = .ok (.iload_n 2, 1) := by decide +kernel
theorem dX8_note_53 : decode cX8_note 53 = .ok (.iload_n 3, 1) := by decide +kernel
theorem dX8_note_54 : decode cX8_note 54 = .ok (.iload 4, 2) := by decide +kernel
theorem dX8_note_56 : decode cX8_note 56 = .ok (.iload 5, 2) := by decide +kernel
theorem dX8_note_58 : decode cX8_note 58 = .ok (.invokevirtual 178, 3) := by decide +kernel
theorem dX8_note_61 : decode cX8_note 61 = .ok (.ifCond .ne 6, 3) := by decide +kernel
theorem dX8_note_64 : decode cX8_note 64 = .ok (.bipush (-2), 2) := by decide +kernel
theorem dX8_note_66 : decode cX8_note 66 = .ok (.ireturn, 1) := by decide +kernel
theorem dX8_note_67 : decode cX8_note 67 = .ok (.aload_n 0, 1) := by decide +kernel
theorem dX8_note_68 : decode cX8_note 68 = .ok (.iload_n 2, 1) := by decide +kernel
theorem dX8_note_69 : decode cX8_note 69 = .ok (.iload_n 3, 1) := by decide +kernel
theorem dX8_note_70 : decode cX8_note 70 = .ok (.iload 4, 2) := by decide +kernel
theorem dX8_note_72 : decode cX8_note 72 = .ok (.iload 5, 2) := by decide +kernel
theorem dX8_note_74 : decode cX8_note 74 = .ok (.invokevirtual 182, 3) := by decide +kernel
theorem dX8_note_77 : decode cX8_note 77 = .ok (.ifCond .ne 6, 3) := by decide +kernel
theorem dX8_note_80 : decode cX8_note 80 = .ok (.bipush (-3), 2) := by decide +kernel
theorem dX8_note_82 : decode cX8_note 82 = .ok (.ireturn, 1) := by decide +kernel
theorem dX8_note_83 : decode cX8_note 83 = .ok (.aload_n 0, 1) := by decide +kernel
theorem dX8_note_84 : decode cX8_note 84 = .ok (.invokevirtual 133, 3) := by decide +kernel
theorem dX8_note_87 : decode cX8_note 87 = .ok (.bipush 60, 2) := by decide +kernel
theorem dX8_note_89 : decode cX8_note 89 = .ok (.if_icmp .ne 6, 3) := by decide +kernel
theorem dX8_note_92 : decode cX8_note 92 = .ok (.bipush (-4), 2) := by decide +kernel
theorem dX8_note_94 : decode cX8_note 94 = .ok (.ireturn, 1) := by decide +kernel
theorem dX8_note_95 : decode cX8_note 95 = .ok (.iconst 0, 1) := by decide +kernel
theorem dX8_note_96 : decode cX8_note 96 = .ok (.bipush 6, 2) := by decide +kernel
theorem dX8_note_98 : decode cX8_note 98 = .ok (.aload_n 0, 1) := by decide +kernel
theorem dX8_note_99 : decode cX8_note 99 = .ok (.invokevirtual 133, 3) := by decide +kernel
theorem dX8_note_102 : decode cX8_note 102 = .ok (.imul, 1) := by decide +kernel
theorem dX8_note_103 : decode cX8_note 103 = .ok (.iadd, 1) := by decide +kernel
theorem dX8_note_104 : decode cX8_note 104 = .ok (.istore 7, 2) := by decide +kernel
theorem dX8_note_106 : decode cX8_note 106 = .ok (.aload_n 0, 1) := by decide +kernel
theorem dX8_note_107 : decode cX8_note 107 = .ok (.getfield 7, 3) := by decide +kernel
theorem dX8_note_110 : decode cX8_note 110 = .ok (.iload 7, 2) := by decide +kernel
theorem dX8_note_112 : decode cX8_note 112 = .ok (.iconst 0, 1) := by decide +kernel
theorem dX8_note_113 : decode cX8_note 113 = .ok (.iadd, 1) := by decide +kernel
theorem dX8_note_114 : decode cX8_note 114 = .ok (.iload_n 1, 1) := by decide +kernel
theorem dX8_note_115 : decode cX8_note 115 = .ok (.iastore, 1) := by decide +kernel
theorem dX8_note_116 : decode cX8_note 116 = .ok (.aload_n 0, 1) := by decide +kernel
theorem dX8_note_117 : decode cX8_note 117 = .ok (.getfield 7, 3) := by decide +kernel
theorem dX8_note_120 : decode cX8_note 120 = .ok (.iload 7, 2) := by decide +kernel
theorem dX8_note_122 : decode cX8_note 122 = .ok (.iconst 1, 1) := by decide +kernel
theorem dX8_note_123 : decode cX8_note 123 = .ok (.iadd, 1) := by decide +kernel
theorem dX8_note_124 : decode cX8_note 124 = .ok (.iload_n 2, 1) := by decide +kernel
theorem dX8_note_125 : decode cX8_note 125 = .ok (.iastore, 1) := by decide +kernel
theorem dX8_note_126 : decode cX8_note 126 = .ok (.aload_n 0, 1) := by decide +kernel
theorem dX8_note_127 : decode cX8_note 127 = .ok (.getfield 7, 3) := by decide +kernel
theorem dX8_note_130 : decode cX8_note 130 = .ok (.iload 7, 2) := by decide +kernel
theorem dX8_note_132 : decode cX8_note 132 = .ok (.iconst 2, 1) := by decide +kernel
theorem dX8_note_133 : decode cX8_note 133 = .ok (.iadd, 1) := by decide +kernel
theorem dX8_note_134 : decode cX8_note 134 = .ok (.iload_n 3, 1) := by decide +kernel
theorem dX8_note_135 : decode cX8_note 135 = .ok (.iastore, 1) := by decide +kernel
theorem dX8_note_136 : decode cX8_note 136 = .ok (.aload_n 0, 1) := by decide +kernel
theorem dX8_note_137 : decode cX8_note 137 = .ok (.getfield 7, 3) := by decide +kernel
theorem dX8_note_140 : decode cX8_note 140 = .ok (.iload 7, 2) := by decide +kernel
theorem dX8_note_142 : decode cX8_note 142 = .ok (.iconst 3, 1) := by decide +kernel
theorem dX8_note_143 : decode cX8_note 143 = .ok (.iadd, 1) := by decide +kernel
theorem dX8_note_144 : decode cX8_note 144 = .ok (.iload_n 2, 1) := by decide +kernel
theorem dX8_note_145 : decode cX8_note 145 = .ok (.invokestatic 185, 3) := by decide +kernel
theorem dX8_note_148 : decode cX8_note 148 = .ok (.ifCond .eq 8, 3) := by decide +kernel
theorem dX8_note_151 : decode cX8_note 151 = .ok (.iload 4, 2) := by decide +kernel
theorem dX8_note_153 : decode cX8_note 153 = .ok (.goto 4, 3) := by decide +kernel
theorem dX8_note_156 : decode cX8_note 156 = .ok (.iconst 0, 1) := by decide +kernel
theorem dX8_note_157 : decode cX8_note 157 = .ok (.iastore, 1) := by decide +kernel
theorem dX8_note_158 : decode cX8_note 158 = .ok (.aload_n 0, 1) := by decide +kernel
theorem dX8_note_159 : decode cX8_note 159 = .ok (.getfield 7, 3) := by decide +kernel
theorem dX8_note_162 : decode cX8_note 162 = .ok (.iload 7, 2) := by decide +kernel
theorem dX8_note_164 : decode cX8_note 164 = .ok (.iconst 4, 1) := by decide +kernel
theorem dX8_note_165 : decode cX8_note 165 = .ok (.iadd, 1) := by decide +kernel
theorem dX8_note_166 : decode cX8_note 166 = .ok (.iload_n 2, 1) := by decide +kernel
theorem dX8_note_167 : decode cX8_note 167 = .ok (.invokestatic 188, 3) := by decide +kernel
theorem dX8_note_170 : decode cX8_note 170 = .ok (.ifCond .eq 8, 3) := by decide +kernel
theorem dX8_note_173 : decode cX8_note 173 = .ok (.iload 5, 2) := by decide +kernel
theorem dX8_note_175 : decode cX8_note 175 = .ok (.goto 4, 3) := by decide +kernel
theorem dX8_note_178 : decode cX8_note 178 = .ok (.iconst 0, 1) := by decide +kernel
theorem dX8_note_179 : decode cX8_note 179 = .ok (.iastore, 1) := by decide +kernel
theorem dX8_note_180 : decode cX8_note 180 = .ok (.aload_n 0, 1) := by decide +kernel
theorem dX8_note_181 : decode cX8_note 181 = .ok (.getfield 7, 3) := by decide +kernel
theorem dX8_note_184 : decode cX8_note 184 = .ok (.iload 7, 2) := by decide +kernel
theorem dX8_note_186 : decode cX8_note 186 = .ok (.iconst 5, 1) := by decide +kernel
theorem dX8_note_187 : decode cX8_note 187 = .ok (.iadd, 1) := by decide +kernel
theorem dX8_note_188 : decode cX8_note 188 = .ok (.iconst 0, 1) := by decide +kernel
theorem dX8_note_189 : decode cX8_note 189 = .ok (.iastore, 1) := by decide +kernel
theorem dX8_note_190 : decode cX8_note 190 = .ok (.aload_n 0, 1) := by decide +kernel
theorem dX8_note_191 : decode cX8_note 191 = .ok (.getfield 7, 3) := by decide +kernel
theorem dX8_note_194 : decode cX8_note 194 = .ok (.sipush 469, 3) := by decide +kernel
theorem dX8_note_197 : decode cX8_note 197 = .ok (.dup2, 1) := by decide +kernel
theorem dX8_note_198 : decode cX8_note 198 = .ok (.iaload, 1) := by decide +kernel
theorem dX8_note_199 : decode cX8_note 199 = .ok (.iconst 1, 1) := by decide +kernel
theorem dX8_note_200 : decode cX8_note 200 = .ok (.iadd, 1) := by decide +kernel
theorem dX8_note_201 : decode cX8_note 201 = .ok (.iastore, 1) := by decide +kernel
theorem dX8_note_202 : decode cX8_note 202 = .ok (.aload_n 0, 1) := by decide +kernel
theorem dX8_note_203 : decode cX8_note 203 = .ok (.invokevirtual 133, 3) := by decide +kernel
theorem dX8_note_206 : decode cX8_note 206 = .ok (.iconst 1, 1) := by decide +kernel
theorem dX8_note_207 : decode cX8_note 207 = .ok (.isub, 1) := by decide +kernel
theorem dX8_note_208 : decode cX8_note 208 = .ok (.ireturn, 1) := by decide +kernel
def f_X8_note_b179 (n : Nat) (x1 : Int32) (x2 : Int32) (x3 : Int32) (x4 : Int32) (x5 : Int32) (x7 : Int32) (s1 : Int32) (s2 : Int32) (M : m_M) : Option (Int32 × m_M) :=
  m_gd (m_in s1 471) (
  m_bd (m_sI M 173 s1.toNatClampNeg s2) fun M2 =>
  m_gd (m_in (x7 + (5 : Int32)) 471) (
  m_bd (m_sI M2 173 ((x7 + (5 : Int32)).toNatClampNeg) 0) fun M4 =>
  m_bd (m_sI M4 173 469 ((M4.1 173 469) + (1 : Int32))) fun M5 =>
  m_bd (f_X8_notes M5) fun r6 =>
  some ((r6 - (1 : Int32)), M5)))
def f_X8_note_b157 (n : Nat) (x1 : Int32) (x2 : Int32) (x3 : Int32) (x4 : Int32) (x5 : Int32) (x7 : Int32) (s1 : Int32) (s2 : Int32) (M : m_M) : Option (Int32 × m_M) :=
  m_gd (m_in s1 471) (
  m_bd (m_sI M 173 s1.toNatClampNeg s2) fun M8 =>
  m_bd (f_X8_namesV x2) fun r9 =>
  if r9 = 0 then
  f_X8_note_b179 n x1 x2 x3 x4 x5 x7 (x7 + (4 : Int32)) 0 M8
  else
  f_X8_note_b179 n x1 x2 x3 x4 x5 x7 (x7 + (4 : Int32)) x5 M8)
def f_X8_note_b22 (n : Nat) (x1 : Int32) (x2 : Int32) (x3 : Int32) (x4 : Int32) (x5 : Int32) (s0 : Int32) (M : m_M) : Option (Int32 × m_M) :=
  m_bd (m_sI M 172 24 31) fun M12 =>
  m_ob (f_X8_layDay n 999 M12) fun M13 =>
  m_bd (f_X8_isIn x1.toInt64 s0.toInt64 999) fun r14 =>
  if r14 = 0 then
  some ((-2), M13)
  else
  m_bd (f_X8_fits x2 x3 x4 x5 M13) fun r17 =>
  if r17 = 0 then
  some ((-2), M13)
  else
  m_ob (f_X8_may n x2 x3 x4 x5 M13) fun r20 =>
  if r20 = 0 then
  some ((-3), M13)
  else
  m_bd (f_X8_notes M13) fun r23 =>
  if r23 = 60 then
  some ((-4), M13)
  else
  m_bd (f_X8_notes M13) fun r25 =>
  m_bd ((0 : Int32) + ((6 : Int32) * r25)) fun t26 =>
  m_gd (m_in (t26 + (0 : Int32)) 471) (
  m_bd (m_sI M13 173 ((t26 + (0 : Int32)).toNatClampNeg) x1) fun M28 =>
  m_gd (m_in (t26 + (1 : Int32)) 471) (
  m_bd (m_sI M28 173 ((t26 + (1 : Int32)).toNatClampNeg) x2) fun M30 =>
  m_gd (m_in (t26 + (2 : Int32)) 471) (
  m_bd (m_sI M30 173 ((t26 + (2 : Int32)).toNatClampNeg) x3) fun M32 =>
  m_bd (f_X8_namesB x2) fun r33 =>
  if r33 = 0 then
  f_X8_note_b157 n x1 x2 x3 x4 x5 t26 (t26 + (3 : Int32)) 0 M32
  else
  f_X8_note_b157 n x1 x2 x3 x4 x5 t26 (t26 + (3 : Int32)) x4 M32)))
def f_X8_note (n : Nat) (x1 : Int32) (x2 : Int32) (x3 : Int32) (x4 : Int32) (x5 : Int32) (M : m_M) : Option (Int32 × m_M) :=
  m_bd (f_X8_notes M) fun r36 =>
  if r36 = 0 then
  f_X8_note_b22 n x1 x2 x3 x4 x5 0 M
  else
  m_bd (f_X8_notes M) fun r38 =>
  m_ob (f_X8_of (r38 - (1 : Int32)) 0 M) fun r39 =>
  f_X8_note_b22 n x1 x2 x3 x4 x5 r39 M
set_option maxHeartbeats 4000000 in
set_option maxRecDepth 100000 in
theorem c_X8_note (l : Launch) (G : m_G) {n : Nat} {x1 : Int32} {x2 : Int32} {x3 : Int32} {x4 : Int32} {x5 : Int32} {M : m_M} {r0 : Int32} {M0 : m_M}  (hres : f_X8_note n x1 x2 x3 x4 x5 M = some (r0, M0)) : Met l yX8_note (m_U yX8_note cX8_note 8 (some .int)) (m_R 3 72) (m_Pc G [.ref (m_ad G 172), .int x1, .int x2, .int x3, .int x4, .int x5] M) (m_Qi G r0 M0) 0 0 (m_A G) := by
  refine m_i0 (n := 8) RX8 rfl (by decide) (Nat.le_of_ble_eq_true rfl) ?_
  intro p e s m args below meth c X hr hlk hSt hP hS ls hl
  have hl : lv_has ls 8 [(0, .ref (m_ad G 172)), (1, .int x1), (2, .int x2), (3, .int x3), (4, .int x4), (5, .int x5)] := hl
  have B179 : ∀  (x7 : Int32) (s1 : Int32) (s2 : Int32) (M : m_M) (H : Heap) (locs : List Loc) (ls : Array Slot), m_P G M H → va_S (m_A G) s.heap H locs → lv_has ls 8 [(0, .ref (m_ad G 172)), (7, .int x7)] → f_X8_note_b179 n x1 x2 x3 x4 x5 x7 s1 s2 M = some (r0, M0) → W p l e (m_R 3 72) s m args below meth c H locs 0 0 (MQ below (m_Qi G r0 M0) args s 0 0 (m_A G)) (F0 m 179 ls [.int s2, .int s1, .ref (m_ad G 173)]) := by
    intro x7 s1 s2 M H locs ls hP hS hl hres
    unfold f_X8_note_b179 at hres
    obtain ⟨hg1, hres⟩ := m_gd_e hres
    obtain ⟨M2, eM2, hres⟩ := m_bd_e hres
    refine m_is (j := s1.toNatClampNeg) X hSt hP hS m_z_173 hg1 rfl dX8_note_179 eM2 (fun H locs hP hS => ?_)
    refine lv_aload_n X.1 X.2.1 dX8_note_180 rfl (lv_at hl 0 rfl) ?_
    refine m_g8 (v := .ref (m_ad G 173)) X hSt hP m_z_172 0 (by decide) rfl k_f_X8_7 dX8_note_181 ?_
    refine lv_iload X.1 X.2.1 dX8_note_184 (lv_at hl 1 rfl) ?_
    refine lv_iconst (v := 5) X.1 X.2.1 dX8_note_186 (by decide) ?_
    refine lv_iadd X.1 X.2.1 dX8_note_187 ?_
    refine lv_iconst (v := 0) X.1 X.2.1 dX8_note_188 (by decide) ?_
    obtain ⟨hg3, hres⟩ := m_gd_e hres
    obtain ⟨M4, eM4, hres⟩ := m_bd_e hres
    refine m_is (j := ((x7 + (5 : Int32)).toNatClampNeg)) X hSt hP hS m_z_173 hg3 rfl dX8_note_189 eM4 (fun H locs hP hS => ?_)
    refine lv_aload_n X.1 X.2.1 dX8_note_190 rfl (lv_at hl 0 rfl) ?_
    refine m_g8 (v := .ref (m_ad G 173)) X hSt hP m_z_172 0 (by decide) rfl k_f_X8_7 dX8_note_191 ?_
    refine lv_sipush (v := 469) X.1 X.2.1 dX8_note_194 (by decide) ?_
    refine lv_dup2_11 X.1 X.2.1 dX8_note_197 rfl rfl ?_
    refine m_ia (j := 469) X hSt hP m_z_173 (by decide +kernel) (by decide +kernel) dX8_note_198 ?_
    refine lv_iconst (v := 1) X.1 X.2.1 dX8_note_199 (by decide) ?_
    refine lv_iadd X.1 X.2.1 dX8_note_200 ?_
    obtain ⟨M5, eM5, hres⟩ := m_bd_e hres
    refine m_is (j := 469) X hSt hP hS m_z_173 (by decide +kernel) (by decide +kernel) dX8_note_201 eM5 (fun H locs hP hS => ?_)
    refine lv_aload_n X.1 X.2.1 dX8_note_202 rfl (lv_at hl 0 rfl) ?_
    obtain ⟨r6, err6, hres⟩ := m_bd_e hres
    refine m_bi (m_cV (n := 0) (As := []) (rest := []) X hSt hP hS hl.1 (c_X8_notes l G  err6) k_c_yX8_notes k_m_X8_133 k_i_yX8_notes k_s_yX8_notes k_n_X8 (by decide +kernel) (m_rc8 hSt hP m_z_172) rfl rfl ⟨Nat.le_of_ble_eq_true rfl, Nat.le_of_ble_eq_true rfl⟩ (Nat.le_of_ble_eq_true rfl) ⟨Nat.zero_le _, Nat.zero_le _⟩ dX8_note_203) hS (fun H locs hP hS => ?_)
    refine lv_iconst (v := 1) X.1 X.2.1 dX8_note_206 (by decide) ?_
    refine lv_isub X.1 X.2.1 dX8_note_207 ?_
    exact m_ri X hr hlk hP hS (Prod.mk.inj (Option.some.inj hres)).1 (Prod.mk.inj (Option.some.inj hres)).2 dX8_note_208
  have B157 : ∀  (x7 : Int32) (s1 : Int32) (s2 : Int32) (M : m_M) (H : Heap) (locs : List Loc) (ls : Array Slot), m_P G M H → va_S (m_A G) s.heap H locs → lv_has ls 8 [(0, .ref (m_ad G 172)), (2, .int x2), (5, .int x5), (7, .int x7)] → f_X8_note_b157 n x1 x2 x3 x4 x5 x7 s1 s2 M = some (r0, M0) → W p l e (m_R 3 72) s m args below meth c H locs 0 0 (MQ below (m_Qi G r0 M0) args s 0 0 (m_A G)) (F0 m 157 ls [.int s2, .int s1, .ref (m_ad G 173)]) := by
    intro x7 s1 s2 M H locs ls hP hS hl hres
    unfold f_X8_note_b157 at hres
    obtain ⟨hg7, hres⟩ := m_gd_e hres
    obtain ⟨M8, eM8, hres⟩ := m_bd_e hres
    refine m_is (j := s1.toNatClampNeg) X hSt hP hS m_z_173 hg7 rfl dX8_note_157 eM8 (fun H locs hP hS => ?_)
    refine lv_aload_n X.1 X.2.1 dX8_note_158 rfl (lv_at hl 0 rfl) ?_
    refine m_g8 (v := .ref (m_ad G 173)) X hSt hP m_z_172 0 (by decide) rfl k_f_X8_7 dX8_note_159 ?_
    refine lv_iload X.1 X.2.1 dX8_note_162 (lv_at hl 3 rfl) ?_
    refine lv_iconst (v := 4) X.1 X.2.1 dX8_note_164 (by decide) ?_
    refine lv_iadd X.1 X.2.1 dX8_note_165 ?_
    refine lv_iload_n X.1 X.2.1 dX8_note_166 rfl (lv_at hl 1 rfl) ?_
    obtain ⟨r9, err9, hres⟩ := m_bd_e hres
    refine m_bz (m_cS (n := 1) (As := [.int x2]) (rest := [.int (x7 + (4 : Int32)), .ref (m_ad G 173)]) X hSt hP hS hl.1 (c_X8_namesV l G (M := M8)  err9) k_c_yX8_namesV k_m_X8_188 k_t_yX8_namesV k_n_X8 (by decide +kernel) rfl rfl ⟨Nat.le_of_ble_eq_true rfl, Nat.le_of_ble_eq_true rfl⟩ (Nat.le_of_ble_eq_true rfl) ⟨Nat.zero_le _, Nat.zero_le _⟩ dX8_note_167) hS (fun H locs hP hS hz10 => ?_)
    refine lv_if_eq (tgt := 178) X.1 X.2.1 dX8_note_170 (by decide) (fun hc11 => ?_) (fun hc11 => ?_)
    · have hres := m_it hres hc11
      refine lv_iconst (v := 0) X.1 X.2.1 dX8_note_178 (by decide) ?_
      exact B179 x7 (x7 + (4 : Int32)) 0 M8 _ _ _ hP hS (lv_sub hl [0, 3] rfl) hres
    · have hres := m_if hres hc11
      refine lv_iload X.1 X.2.1 dX8_note_173 (lv_at hl 2 rfl) ?_
      refine lv_goto (tgt := 179) X.1 X.2.1 dX8_note_175 (by decide) ?_
      exact B179 x7 (x7 + (4 : Int32)) x5 M8 _ _ _ hP hS (lv_sub hl [0, 3] rfl) hres
  have B22 : ∀  (s0 : Int32) (M : m_M) (H : Heap) (locs : List Loc) (ls : Array Slot), m_P G M H → va_S (m_A G) s.heap H locs → lv_has ls 8 [(0, .ref (m_ad G 172)), (1, .int x1), (2, .int x2), (3, .int x3), (4, .int x4), (5, .int x5)] → f_X8_note_b22 n x1 x2 x3 x4 x5 s0 M = some (r0, M0) → W p l e (m_R 3 72) s m args below meth c H locs 0 0 (MQ below (m_Qi G r0 M0) args s 0 0 (m_A G)) (F0 m 22 ls [.int s0]) := by
    intro s0 M H locs ls hP hS hl hres
    unfold f_X8_note_b22 at hres
    refine lv_istore (lv' := [(6, .int s0), (0, .ref (m_ad G 172)), (1, .int x1), (2, .int x2), (3, .int x3), (4, .int x4), (5, .int x5)]) X.1 X.2.1 dX8_note_22 hl (by decide) rfl (fun ls hl => ?_)
    refine lv_aload_n X.1 X.2.1 dX8_note_24 rfl (lv_at hl 1 rfl) ?_
    refine lv_bipush (v := 31) X.1 X.2.1 dX8_note_25 (by decide) ?_
    obtain ⟨M12, eM12, hres⟩ := m_bd_e hres
    refine m_pi8 X hSt hP hS m_z_172 24 (by decide) eM12 rfl rfl (by decide) k_f_X8_72 dX8_note_27 (fun H locs hP hS => ?_)
    refine lv_aload_n X.1 X.2.1 dX8_note_30 rfl (lv_at hl 1 rfl) ?_
    refine lv_sipush (v := 999) X.1 X.2.1 dX8_note_31 (by decide) ?_
    obtain ⟨M13, eM13, hres⟩ := m_ob_e hres
    refine m_bv (m_cV (n := 1) (As := [.int 999]) (rest := []) X hSt hP hS hl.1 (c_X8_layDay l G  eM13) k_c_yX8_layDay k_m_X8_174 k_i_yX8_layDay k_s_yX8_layDay k_n_X8 (by decide +kernel) (m_rc8 hSt hP m_z_172) rfl rfl ⟨Nat.le_of_ble_eq_true rfl, Nat.le_of_ble_eq_true rfl⟩ (Nat.le_of_ble_eq_true rfl) ⟨Nat.zero_le _, Nat.zero_le _⟩ dX8_note_34) hS (fun H locs hP hS => ?_)
    refine lv_iload_n X.1 X.2.1 dX8_note_37 rfl (lv_at hl 2 rfl) ?_
    refine lv_i2l (v := x1.toInt64) X.1 X.2.1 dX8_note_38 rfl ?_
    refine lv_iload X.1 X.2.1 dX8_note_39 (lv_at hl 0 rfl) ?_
    refine lv_i2l (v := s0.toInt64) X.1 X.2.1 dX8_note_41 rfl ?_
    refine lv_ldc2 (v := 999) X.1 X.2.1 X.2.2.2.1 (X.2.2.2.2 _ k_l_X8_119) dX8_note_42 ?_
    obtain ⟨r14, err14, hres⟩ := m_bd_e hres
    refine m_bz (m_cS (n := 3) (As := [.long x1.toInt64, .long s0.toInt64, .long 999]) (rest := []) X hSt hP hS hl.1 (c_X8_isIn l G (M := M13)  err14) k_c_yX8_isIn k_m_X8_111 k_t_yX8_isIn k_n_X8 (by decide +kernel) rfl rfl ⟨Nat.le_of_ble_eq_true rfl, Nat.le_of_ble_eq_true rfl⟩ (Nat.le_of_ble_eq_true rfl) ⟨Nat.zero_le _, Nat.zero_le _⟩ dX8_note_45) hS (fun H locs hP hS hz15 => ?_)
    refine lv_if_eq (tgt := 64) X.1 X.2.1 dX8_note_48 (by decide) (fun hc16 => ?_) (fun hc16 => ?_)
    · have hres := m_it hres hc16
      refine lv_bipush (v := (-2)) X.1 X.2.1 dX8_note_64 (by decide) ?_
      exact m_ri X hr hlk hP hS (Prod.mk.inj (Option.some.inj hres)).1 (Prod.mk.inj (Option.some.inj hres)).2 dX8_note_66
    · have hres := m_if hres hc16
      refine lv_aload_n X.1 X.2.1 dX8_note_51 rfl (lv_at hl 1 rfl) ?_
      refine lv_iload_n X.1 X.2.1 dX8_note_52 rfl (lv_at hl 3 rfl) ?_
      refine lv_iload_n X.1 X.2.1 dX8_note_53 rfl (lv_at hl 4 rfl) ?_
      refine lv_iload X.1 X.2.1 dX8_note_54 (lv_at hl 5 rfl) ?_
      refine lv_iload X.1 X.2.1 dX8_note_56 (lv_at hl 6 rfl) ?_
      obtain ⟨r17, err17, hres⟩ := m_bd_e hres
      refine m_bz (m_cV (n := 4) (As := [.int x2, .int x3, .int x4, .int x5]) (rest := []) X hSt hP hS hl.1 (c_X8_fits l G  err17) k_c_yX8_fits k_m_X8_178 k_i_yX8_fits k_s_yX8_fits k_n_X8 (by decide +kernel) (m_rc8 hSt hP m_z_172) rfl rfl ⟨Nat.le_of_ble_eq_true rfl, Nat.le_of_ble_eq_true rfl⟩ (Nat.le_of_ble_eq_true rfl) ⟨Nat.zero_le _, Nat.zero_le _⟩ dX8_note_58) hS (fun H locs hP hS hz18 => ?_)
      refine lv_if_ne (tgt := 67) X.1 X.2.1 dX8_note_61 (by decide) (fun hc19 => ?_) (fun hc19 => ?_)
      · have hres := m_if hres hc19
        refine lv_aload_n X.1 X.2.1 dX8_note_67 rfl (lv_at hl 1 rfl) ?_
        refine lv_iload_n X.1 X.2.1 dX8_note_68 rfl (lv_at hl 3 rfl) ?_
        refine lv_iload_n X.1 X.2.1 dX8_note_69 rfl (lv_at hl 4 rfl) ?_
        refine lv_iload X.1 X.2.1 dX8_note_70 (lv_at hl 5 rfl) ?_
        refine lv_iload X.1 X.2.1 dX8_note_72 (lv_at hl 6 rfl) ?_
        obtain ⟨r20, err20, hres⟩ := m_ob_e hres
        refine m_bz (m_cV (n := 4) (As := [.int x2, .int x3, .int x4, .int x5]) (rest := []) X hSt hP hS hl.1 (c_X8_may l G  err20) k_c_yX8_may k_m_X8_182 k_i_yX8_may k_s_yX8_may k_n_X8 (by decide +kernel) (m_rc8 hSt hP m_z_172) rfl rfl ⟨Nat.le_of_ble_eq_true rfl, Nat.le_of_ble_eq_true rfl⟩ (Nat.le_of_ble_eq_true rfl) ⟨Nat.zero_le _, Nat.zero_le _⟩ dX8_note_74) hS (fun H locs hP hS hz21 => ?_)
        refine lv_if_ne (tgt := 83) X.1 X.2.1 dX8_note_77 (by decide) (fun hc22 => ?_) (fun hc22 => ?_)
        · have hres := m_if hres hc22
          refine lv_aload_n X.1 X.2.1 dX8_note_83 rfl (lv_at hl 1 rfl) ?_
          obtain ⟨r23, err23, hres⟩ := m_bd_e hres
          refine m_bi (m_cV (n := 0) (As := []) (rest := []) X hSt hP hS hl.1 (c_X8_notes l G  err23) k_c_yX8_notes k_m_X8_133 k_i_yX8_notes k_s_yX8_notes k_n_X8 (by decide +kernel) (m_rc8 hSt hP m_z_172) rfl rfl ⟨Nat.le_of_ble_eq_true rfl, Nat.le_of_ble_eq_true rfl⟩ (Nat.le_of_ble_eq_true rfl) ⟨Nat.zero_le _, Nat.zero_le _⟩ dX8_note_84) hS (fun H locs hP hS => ?_)
          refine lv_bipush (v := 60) X.1 X.2.1 dX8_note_87 (by decide) ?_
          refine lv_icmp_ne (tgt := 95) X.1 X.2.1 dX8_note_89 (by decide) (fun hc24 => ?_) (fun hc24 => ?_)
          · have hres := m_if hres hc24
            refine lv_iconst (v := 0) X.1 X.2.1 dX8_note_95 (by decide) ?_
            refine lv_bipush (v := 6) X.1 X.2.1 dX8_note_96 (by decide) ?_
            refine lv_aload_n X.1 X.2.1 dX8_note_98 rfl (lv_at hl 1 rfl) ?_
            obtain ⟨r25, err25, hres⟩ := m_bd_e hres
            refine m_bi (m_cV (n := 0) (As := []) (rest := [.int 6, .int 0]) X hSt hP hS hl.1 (c_X8_notes l G  err25) k_c_yX8_notes k_m_X8_133 k_i_yX8_notes k_s_yX8_notes k_n_X8 (by decide +kernel) (m_rc8 hSt hP m_z_172) rfl rfl ⟨Nat.le_of_ble_eq_true rfl, Nat.le_of_ble_eq_true rfl⟩ (Nat.le_of_ble_eq_true rfl) ⟨Nat.zero_le _, Nat.zero_le _⟩ dX8_note_99) hS (fun H locs hP hS => ?_)
            refine lv_imul X.1 X.2.1 dX8_note_102 ?_
            refine lv_iadd X.1 X.2.1 dX8_note_103 ?_
            obtain ⟨t26, et26, hres⟩ := m_bd_e hres
            refine m_ti et26 ?_
            refine lv_istore (lv' := [(7, .int t26), (6, .int s0), (0, .ref (m_ad G 172)), (1, .int x1), (2, .int x2), (3, .int x3), (4, .int x4), (5, .int x5)]) X.1 X.2.1 dX8_note_104 hl (by decide) rfl (fun ls hl => ?_)
            refine lv_aload_n X.1 X.2.1 dX8_note_106 rfl (lv_at hl 2 rfl) ?_
            refine m_g8 (v := .ref (m_ad G 173)) X hSt hP m_z_172 0 (by decide) rfl k_f_X8_7 dX8_note_107 ?_
            refine lv_iload X.1 X.2.1 dX8_note_110 (lv_at hl 0 rfl) ?_
            refine lv_iconst (v := 0) X.1 X.2.1 dX8_note_112 (by decide) ?_
            refine lv_iadd X.1 X.2.1 dX8_note_113 ?_
            refine lv_iload_n X.1 X.2.1 dX8_note_114 rfl (lv_at hl 3 rfl) ?_
            obtain ⟨hg27, hres⟩ := m_gd_e hres
            obtain ⟨M28, eM28, hres⟩ := m_bd_e hres
            refine m_is (j := ((t26 + (0 : Int32)).toNatClampNeg)) X hSt hP hS m_z_173 hg27 rfl dX8_note_115 eM28 (fun H locs hP hS => ?_)
            refine lv_aload_n X.1 X.2.1 dX8_note_116 rfl (lv_at hl 2 rfl) ?_
            refine m_g8 (v := .ref (m_ad G 173)) X hSt hP m_z_172 0 (by decide) rfl k_f_X8_7 dX8_note_117 ?_
            refine lv_iload X.1 X.2.1 dX8_note_120 (lv_at hl 0 rfl) ?_
            refine lv_iconst (v := 1) X.1 X.2.1 dX8_note_122 (by decide) ?_
            refine lv_iadd X.1 X.2.1 dX8_note_123 ?_
            refine lv_iload_n X.1 X.2.1 dX8_note_124 rfl (lv_at hl 4 rfl) ?_
            obtain ⟨hg29, hres⟩ := m_gd_e hres
            obtain ⟨M30, eM30, hres⟩ := m_bd_e hres
            refine m_is (j := ((t26 + (1 : Int32)).toNatClampNeg)) X hSt hP hS m_z_173 hg29 rfl dX8_note_125 eM30 (fun H locs hP hS => ?_)
            refine lv_aload_n X.1 X.2.1 dX8_note_126 rfl (lv_at hl 2 rfl) ?_
            refine m_g8 (v := .ref (m_ad G 173)) X hSt hP m_z_172 0 (by decide) rfl k_f_X8_7 dX8_note_127 ?_
            refine lv_iload X.1 X.2.1 dX8_note_130 (lv_at hl 0 rfl) ?_
            refine lv_iconst (v := 2) X.1 X.2.1 dX8_note_132 (by decide) ?_
            refine lv_iadd X.1 X.2.1 dX8_note_133 ?_
            refine lv_iload_n X.1 X.2.1 dX8_note_134 rfl (lv_at hl 5 rfl) ?_
            obtain ⟨hg31, hres⟩ := m_gd_e hres
            obtain ⟨M32, eM32, hres⟩ := m_bd_e hres
            refine m_is (j := ((t26 + (2 : Int32)).toNatClampNeg)) X hSt hP hS m_z_173 hg31 rfl dX8_note_135 eM32 (fun H locs hP hS => ?_)
            refine lv_aload_n X.1 X.2.1 dX8_note_136 rfl (lv_at hl 2 rfl) ?_
            refine m_g8 (v := .ref (m_ad G 173)) X hSt hP m_z_172 0 (by decide) rfl k_f_X8_7 dX8_note_137 ?_
            refine lv_iload X.1 X.2.1 dX8_note_140 (lv_at hl 0 rfl) ?_
            refine lv_iconst (v := 3) X.1 X.2.1 dX8_note_142 (by decide) ?_
            refine lv_iadd X.1 X.2.1 dX8_note_143 ?_
            refine lv_iload_n X.1 X.2.1 dX8_note_144 rfl (lv_at hl 4 rfl) ?_
            obtain ⟨r33, err33, hres⟩ := m_bd_e hres
            refine m_bz (m_cS (n := 1) (As := [.int x2]) (rest := [.int (t26 + (3 : Int32)), .ref (m_ad G 173)]) X hSt hP hS hl.1 (c_X8_namesB l G (M := M32)  err33) k_c_yX8_namesB k_m_X8_185 k_t_yX8_namesB k_n_X8 (by decide +kernel) rfl rfl ⟨Nat.le_of_ble_eq_true rfl, Nat.le_of_ble_eq_true rfl⟩ (Nat.le_of_ble_eq_true rfl) ⟨Nat.zero_le _, Nat.zero_le _⟩ dX8_note_145) hS (fun H locs hP hS hz34 => ?_)
            refine lv_if_eq (tgt := 156) X.1 X.2.1 dX8_note_148 (by decide) (fun hc35 => ?_) (fun hc35 => ?_)
            · have hres := m_it hres hc35
              refine lv_iconst (v := 0) X.1 X.2.1 dX8_note_156 (by decide) ?_
              exact B157 t26 (t26 + (3 : Int32)) 0 M32 _ _ _ hP hS (lv_sub hl [2, 4, 7, 0] rfl) hres
            · have hres := m_if hres hc35
              refine lv_iload X.1 X.2.1 dX8_note_151 (lv_at hl 6 rfl) ?_
              refine lv_goto (tgt := 157) X.1 X.2.1 dX8_note_153 (by decide) ?_
              exact B157 t26 (t26 + (3 : Int32)) x4 M32 _ _ _ hP hS (lv_sub hl [2, 4, 7, 0] rfl) hres
          · have hres := m_it hres hc24
            refine lv_bipush (v := (-4)) X.1 X.2.1 dX8_note_92 (by decide) ?_
            exact m_ri X hr hlk hP hS (Prod.mk.inj (Option.some.inj hres)).1 (Prod.mk.inj (Option.some.inj hres)).2 dX8_note_94
        · have hres := m_it hres hc22
          refine lv_bipush (v := (-3)) X.1 X.2.1 dX8_note_80 (by decide) ?_
          exact m_ri X hr hlk hP hS (Prod.mk.inj (Option.some.inj hres)).1 (Prod.mk.inj (Option.some.inj hres)).2 dX8_note_82
      · have hres := m_it hres hc19
        refine lv_bipush (v := (-2)) X.1 X.2.1 dX8_note_64 (by decide) ?_
        exact m_ri X hr hlk hP hS (Prod.mk.inj (Option.some.inj hres)).1 (Prod.mk.inj (Option.some.inj hres)).2 dX8_note_66
  unfold f_X8_note at hres
  refine lv_aload_n X.1 X.2.1 dX8_note_0 rfl (lv_at hl 0 rfl) ?_
  obtain ⟨r36, err36, hres⟩ := m_bd_e hres
  refine m_bi (m_cV (n := 0) (As := []) (rest := []) X hSt hP hS hl.1 (c_X8_notes l G  err36) k_c_yX8_notes k_m_X8_133 k_i_yX8_notes k_s_yX8_notes k_n_X8 (by decide +kernel) (m_rc8 hSt hP m_z_172) rfl rfl ⟨Nat.le_of_ble_eq_true rfl, Nat.le_of_ble_eq_true rfl⟩ (Nat.le_of_ble_eq_true rfl) ⟨Nat.zero_le _, Nat.zero_le _⟩ dX8_note_1) hS (fun H locs hP hS => ?_)
  refine lv_if_ne (tgt := 11) X.1 X.2.1 dX8_note_4 (by decide) (fun hc37 => ?_) (fun hc37 => ?_)
  · have hres := m_if hres hc37
    refine lv_aload_n X.1 X.2.1 dX8_note_11 rfl (lv_at hl 0 rfl) ?_
    refine lv_aload_n X.1 X.2.1 dX8_note_12 rfl (lv_at hl 0 rfl) ?_
    obtain ⟨r38, err38, hres⟩ := m_bd_e hres
    refine m_bi (m_cV (n := 0) (As := []) (rest := [.ref (m_ad G 172)]) X hSt hP hS hl.1 (c_X8_notes l G  err38) k_c_yX8_notes k_m_X8_133 k_i_yX8_notes k_s_yX8_notes k_n_X8 (by decide +kernel) (m_rc8 hSt hP m_z_172) rfl rfl ⟨Nat.le_of_ble_eq_true rfl, Nat.le_of_ble_eq_true rfl⟩ (Nat.le_of_ble_eq_true rfl) ⟨Nat.zero_le _, Nat.zero_le _⟩ dX8_note_13) hS (fun H locs hP hS => ?_)
    refine lv_iconst (v := 1) X.1 X.2.1 dX8_note_16 (by decide) ?_
    refine lv_isub X.1 X.2.1 dX8_note_17 ?_
    refine lv_iconst (v := 0) X.1 X.2.1 dX8_note_18 (by decide) ?_
    obtain ⟨r39, err39, hres⟩ := m_ob_e hres
    refine m_bi (m_cV (n := 2) (As := [.int (r38 - (1 : Int32)), .int 0]) (rest := []) X hSt hP hS hl.1 (c_X8_of l G  err39) k_c_yX8_of k_m_X8_136 k_i_yX8_of k_s_yX8_of k_n_X8 (by decide +kernel) (m_rc8 hSt hP m_z_172) rfl rfl ⟨Nat.le_of_ble_eq_true rfl, Nat.le_of_ble_eq_true rfl⟩ (Nat.le_of_ble_eq_true rfl) ⟨Nat.zero_le _, Nat.zero_le _⟩ dX8_note_19) hS (fun H locs hP hS => ?_)
    exact B22 r39 M _ _ _ hP hS (lv_sub hl [0, 1, 2, 3, 4, 5] rfl) hres
  · have hres := m_it hres hc37
    refine lv_iconst (v := 0) X.1 X.2.1 dX8_note_7 (by decide) ?_
    refine lv_goto (tgt := 22) X.1 X.2.1 dX8_note_8 (by decide) ?_
    exact B22 0 M _ _ _ hP hS (lv_sub hl [0, 1, 2, 3, 4, 5] rfl) hres
theorem dX8_orders_0 : decode cX8_orders 0 = .ok (.aload_n 0, 1) := by decide +kernel
theorem dX8_orders_1 : decode cX8_orders 1 = .ok (.iload_n 1, 1) := by decide +kernel
theorem dX8_orders_2 : decode cX8_orders 2 = .ok (.invokevirtual 409, 3) := by decide +kernel
theorem dX8_orders_5 : decode cX8_orders 5 = .ok (.ifCond .eq 20, 3) := by decide +kernel
theorem dX8_orders_8 : decode cX8_orders 8 = .ok (.iload_n 2, 1) := by decide +kernel
theorem dX8_orders_9 : decode cX8_orders 9 = .ok (.i2l, 1) := by decide +kernel
theorem dX8_orders_10 : decode cX8_orders 10 = .ok (.lconst 0, 1) := by decide +kernel
theorem dX8_orders_11 : decode cX8_orders 11 = .ok (.lconst 1, 1) := by decide +kernel
theorem dX8_orders_12 : decode cX8_orders 12 = .ok (.invokestatic 111, 3) := by decide +kernel
theorem dX8_orders_15 : decode cX8_orders 15 = .ok (.ifCond .eq 10, 3) := by decide +kernel
theorem dX8_orders_18 : decode cX8_orders 18 = .ok (.iload_n 3, 1) := by decide +kernel
theorem dX8_orders_19 : decode cX8_orders 19 = .ok (.invokestatic 347, 3) := by decide +kernel
theorem dX8_orders_22 : decode cX8_orders 22 = .ok (.ifCond .ne 6, 3) := by decide +kernel
theorem dX8_orders_25 : decode cX8_orders 25 = .ok (.bipush (-2), 2) := by decide +kernel
theorem dX8_orders_27 : decode cX8_orders 27 = .ok (.ireturn, 1) := by decide +kernel
theorem dX8_orders_28 : decode cX8_orders 28 = .ok (.aload_n 0, 1) := by decide +kernel
theorem dX8_orders_29 : decode cX8_orders 29 = .ok (.iload_n 3, 1) := by decide +kernel
theorem dX8_orders_30 : decode cX8_orders 30 = .ok (.invokevirtual 412, 3) := by decide +kernel
theorem dX8_orders_33 : decode cX8_orders 33 = .ok (.iconst (-1), 1) := by decide +kernel
theorem dX8_orders_34 : decode cX8_orders 34 = .ok (.istore 4, 2) := by decide +kernel
theorem dX8_orders_36 : decode cX8_orders 36 = .ok (.iconst 0, 1) := by decide +kernel
theorem dX8_orders_37 : decode cX8_orders 37 = .ok (.istore 5, 2) := by decide +kernel
theorem dX8_orders_39 : decode cX8_orders 39 = .ok (.iconst 1, 1) := by decide +kernel
theorem dX8_orders_40 : decode cX8_orders 40 = .ok (.istore 6, 2) := by decide +kernel
theorem dX8_orders_42 : decode cX8_orders 42 = .ok (.iload 6, 2) := by decide +kernel
theorem dX8_orders_44 : decode cX8_orders 44 = .ok (.ifCond .eq 71, 3) := by decide +kernel
theorem dX8_orders_47 : decode cX8_orders 47 = .ok (.aload_n 0, 1) := by decide +kernel
theorem dX8_orders_48 : decode cX8_orders 48 = .ok (.iconst 0, 1) := by decide +kernel
theorem dX8_orders_49 : decode cX8_orders 49 = .ok (.invokevirtual 415, 3) := by decide +kernel
theorem dX8_orders_52 : decode cX8_orders 52 = .ok (.iload 4, 2) := by decide +kernel
theorem dX8_orders_54 : decode cX8_orders 54 = .ok (.iconst (-1), 1) := by decide +kernel
theorem dX8_orders_55 : decode cX8_orders 55 = .ok (.if_icmp .eq 14, 3) := by decide +kernel
theorem dX8_orders_58 : decode cX8_orders 58 = .ok (.aload_n 0, 1) := by decide +kernel
theorem dX8_orders_59 : decode cX8_orders 59 = .ok (.getfield 95, 3) := by decide +kernel
theorem dX8_orders_62 : decode cX8_orders 62 = .ok (.iload_n 1, 1) := by decide +kernel
theorem dX8_orders_63 : decode cX8_orders 63 = .ok (.iaload, 1) := by decide +kernel
theorem dX8_orders_64 : decode cX8_orders 64 = .ok (.iload 4, 2) := by decide +kernel
theorem dX8_orders_66 : decode cX8_orders 66 = .ok (.if_icmp .ge 12, 3) := by decide +kernel
theorem dX8_orders_69 : decode cX8_orders 69 = .ok (.aload_n 0, 1) := by decide +kernel
theorem dX8_orders_70 : decode cX8_orders 70 = .ok (.getfield 95, 3) := by decide +kernel
theorem dX8_orders_73 : decode cX8_orders 73 = .ok (.iload_n 1, 1) := by decide +kernel
theorem dX8_orders_74 : decode cX8_orders 74 = .ok (.iaload, 1) := by decide +kernel
theorem dX8_orders_75 : decode cX8_orders 75 = .ok (.goto 5, 3) := by decide +kernel
theorem dX8_orders_78 : decode cX8_orders 78 = .ok (.iload 4, 2) := by decide +kernel
theorem dX8_orders_80 : decode cX8_orders 80 = .ok (.istore 4, 2) := by decide +kernel
theorem dX8_orders_82 : decode cX8_orders 82 = .ok (.aload_n 0, 1) := by decide +kernel
theorem dX8_orders_83 : decode cX8_orders 83 = .ok (.getfield 95, 3) := by decide +kernel
theorem dX8_orders_86 : decode cX8_orders 86 = .ok (.iload_n 1, 1) := by decide +kernel
theorem dX8_orders_87 : decode cX8_orders 87 = .ok (.iaload, 1) := by decide +kernel
theorem dX8_orders_88 : decode cX8_orders 88 = .ok (.iload 5, 2) := by decide +kernel
theorem dX8_orders_90 : decode cX8_orders 90 = .ok (.if_icmp .le 12, 3) := by decide +kernel
theorem dX8_orders_93 : decode cX8_orders 93 = .ok (.aload_n 0, 1) := by decide +kernel
theorem dX8_orders_94 : decode cX8_orders 94 = .ok (.getfield 95, 3) := by decide +kernel
theorem dX8_orders_97 : decode cX8_orders 97 = .ok (.iload_n 1, 1) := by decide +kernel
theorem dX8_orders_98 : decode cX8_orders 98 = .ok (.iaload, 1) := by decide +kernel
theorem dX8_orders_99 : decode cX8_orders 99 = .ok (.goto 5, 3) := by decide +kernel
theorem dX8_orders_102 : decode cX8_orders 102 = .ok (.iload 5, 2) := by decide +kernel
theorem dX8_orders_104 : decode cX8_orders 104 = .ok (.istore 5, 2) := by decide +kernel
theorem dX8_orders_106 : decode cX8_orders 106 = .ok (.aload_n 0, 1) := by decide +kernel
theorem dX8_orders_107 : decode cX8_orders 107 = .ok (.invokevirtual 421, 3) := by decide +kernel
theorem dX8_orders_110 : decode cX8_orders 110 = .ok (.istore 6, 2) := by decide +kernel
theorem dX8_orders_112 : decode cX8_orders 112 = .ok (.goto (-70), 3) := by decide +kernel
theorem dX8_orders_115 : decode cX8_orders 115 = .ok (.iload_n 2, 1) := by decide +kernel
theorem dX8_orders_116 : decode cX8_orders 116 = .ok (.ifCond .ne 8, 3) := by decide +kernel
theorem dX8_orders_119 : decode cX8_orders 119 = .ok (.iload 4, 2) := by decide +kernel
theorem dX8_orders_121 : decode cX8_orders 121 = .ok (.goto 5, 3) := by decide +kernel
theorem dX8_orders_124 : decode cX8_orders 124 = .ok (.iload 5, 2) := by decide +kernel
theorem dX8_orders_126 : decode cX8_orders 126 = .ok (.ireturn, 1) := by decide +kernel
def f_X8_orders_b80 (n : Nat) (x1 : Int32) (x2 : Int32) (x3 : Int32) (q42 : Int32 → Int32 → Int32 → m_M → Option (Int32 × m_M)) (x5 : Int32) (s0 : Int32) (M : m_M) : Option (Int32 × m_M) :=
  m_gd (m_in x1 6) (
  if (M.1 198 x1.toNatClampNeg) ≤ x5 then
  m_o2 (f_X8_nextOrder n M) fun r3 M4 =>
  q42 s0 x5 r3 M4
  else
  m_o2 (f_X8_nextOrder n M) fun r6 M7 =>
  q42 s0 (M.1 198 x1.toNatClampNeg) r6 M7)
def f_X8_orders_b42 (n : Nat) (x1 : Int32) (x2 : Int32) (x3 : Int32) : Nat → Int32 → Int32 → Int32 → m_M → Option (Int32 × m_M)
  | 0, _, _, _, _ => none
  | u + 1, x4, x5, x6, M =>
    if x6 = 0 then
  if x2 = 0 then
  some (x4, M)
  else
  some (x5, M)
  else
  m_ob (f_X8_serve n 0 M) fun M11 =>
  if x4 = (-1) then
  m_gd (m_in x1 6) (
  f_X8_orders_b80 n x1 x2 x3 (f_X8_orders_b42 n x1 x2 x3 u) x5 (M11.1 198 x1.toNatClampNeg) M11)
  else
  m_gd (m_in x1 6) (
  if x4 ≤ (M11.1 198 x1.toNatClampNeg) then
  f_X8_orders_b80 n x1 x2 x3 (f_X8_orders_b42 n x1 x2 x3 u) x5 x4 M11
  else
  f_X8_orders_b80 n x1 x2 x3 (f_X8_orders_b42 n x1 x2 x3 u) x5 (M11.1 198 x1.toNatClampNeg) M11)
def f_X8_orders (n : Nat) (x1 : Int32) (x2 : Int32) (x3 : Int32) (M : m_M) : Option (Int32 × m_M) :=
  m_bd (f_X8_isPlace x1 M) fun r16 =>
  if r16 = 0 then
  some ((-2), M)
  else
  m_bd (f_X8_isIn x2.toInt64 0 1) fun r19 =>
  if r19 = 0 then
  some ((-2), M)
  else
  m_bd (f_X8_isDay x3) fun r22 =>
  if r22 = 0 then
  some ((-2), M)
  else
  m_ob (f_X8_layLine n x3 M) fun M25 =>
  f_X8_orders_b42 n x1 x2 x3 n (-1) 0 1 M25
set_option maxHeartbeats 4000000 in
set_option maxRecDepth 100000 in
theorem c_X8_orders (l : Launch) (G : m_G) {n : Nat} {x1 : Int32} {x2 : Int32} {x3 : Int32} {M : m_M} {r0 : Int32} {M0 : m_M}  (hres : f_X8_orders n x1 x2 x3 M = some (r0, M0)) : Met l yX8_orders (m_U yX8_orders cX8_orders 7 (some .int)) (m_R 9 206) (m_Pc G [.ref (m_ad G 172), .int x1, .int x2, .int x3] M) (m_Qi G r0 M0) 0 0 (m_A G) := by
  refine m_i0 (n := 7) RX8 rfl (by decide) (Nat.le_of_ble_eq_true rfl) ?_
  intro p e s m args below meth c X hr hlk hSt hP hS ls hl
  have hl : lv_has ls 7 [(0, .ref (m_ad G 172)), (1, .int x1), (2, .int x2), (3, .int x3)] := hl
  have B80 : ∀ (q42 : Int32 → Int32 → Int32 → m_M → Option (Int32 × m_M)) (hq42 : ∀ (x4 : Int32) (x5 : Int32) (x6 : Int32) (M : m_M) (H : Heap) (locs : List Loc) (ls : Array Slot), m_P G M H → va_S (m_A G) s.heap H locs → lv_has ls 7 [(0, .ref (m_ad G 172)), (1, .int x1), (2, .int x2), (4, .int x4), (5, .int x5), (6, .int x6)] → q42 x4 x5 x6 M = some (r0, M0) → W p l e (m_R 9 206) s m args below meth c H locs 0 0 (MQ below (m_Qi G r0 M0) args s 0 0 (m_A G)) (F0 m 42 ls [])) (x5 : Int32) (s0 : Int32) (M : m_M) (H : Heap) (locs : List Loc) (ls : Array Slot), m_P G M H → va_S (m_A G) s.heap H locs → lv_has ls 7 [(0, .ref (m_ad G 172)), (1, .int x1), (2, .int x2), (5, .int x5)] → f_X8_orders_b80 n x1 x2 x3 q42 x5 s0 M = some (r0, M0) → W p l e (m_R 9 206) s m args below meth c H locs 0 0 (MQ below (m_Qi G r0 M0) args s 0 0 (m_A G)) (F0 m 80 ls [.int s0]) := by
    intro q42 hq42 x5 s0 M H locs ls hP hS hl hres
    unfold f_X8_orders_b80 at hres
    refine lv_istore (lv' := [(4, .int s0), (0, .ref (m_ad G 172)), (1, .int x1), (2, .int x2), (5, .int x5)]) X.1 X.2.1 dX8_orders_80 hl (by decide) rfl (fun ls hl => ?_)
    refine lv_aload_n X.1 X.2.1 dX8_orders_82 rfl (lv_at hl 1 rfl) ?_
    refine m_g8 (v := .ref (m_ad G 198)) X hSt hP m_z_172 50 (by decide) rfl k_f_X8_95 dX8_orders_83 ?_
    refine lv_iload_n X.1 X.2.1 dX8_orders_86 rfl (lv_at hl 2 rfl) ?_
    obtain ⟨hg1, hres⟩ := m_gd_e hres
    refine m_ia (j := x1.toNatClampNeg) X hSt hP m_z_198 hg1 rfl dX8_orders_87 ?_
    refine lv_iload X.1 X.2.1 dX8_orders_88 (lv_at hl 4 rfl) ?_
    refine lv_icmp_le (tgt := 102) X.1 X.2.1 dX8_orders_90 (by decide) (fun hc2 => ?_) (fun hc2 => ?_)
    · have hres := m_it hres hc2
      refine lv_iload X.1 X.2.1 dX8_orders_102 (lv_at hl 4 rfl) ?_
      refine lv_istore (lv' := [(5, .int x5), (4, .int s0), (0, .ref (m_ad G 172)), (1, .int x1), (2, .int x2)]) X.1 X.2.1 dX8_orders_104 hl (by decide) rfl (fun ls hl => ?_)
      refine lv_aload_n X.1 X.2.1 dX8_orders_106 rfl (lv_at hl 2 rfl) ?_
      obtain ⟨r3, M4, err3, hres⟩ := m_o2_e hres
      refine m_bz (m_cV (n := 0) (As := []) (rest := []) X hSt hP hS hl.1 (c_X8_nextOrder l G  err3) k_c_yX8_nextOrder k_m_X8_421 k_i_yX8_nextOrder k_s_yX8_nextOrder k_n_X8 (by decide +kernel) (m_rc8 hSt hP m_z_172) rfl rfl ⟨Nat.le_of_ble_eq_true rfl, Nat.le_of_ble_eq_true rfl⟩ (Nat.le_of_ble_eq_true rfl) ⟨Nat.zero_le _, Nat.zero_le _⟩ dX8_orders_107) hS (fun H locs hP hS hz5 => ?_)
      refine lv_istore (lv' := [(6, .int r3), (5, .int x5), (4, .int s0), (0, .ref (m_ad G 172)), (1, .int x1), (2, .int x2)]) X.1 X.2.1 dX8_orders_110 hl (by decide) rfl (fun ls hl => ?_)
      refine lv_goto (tgt := 42) X.1 X.2.1 dX8_orders_112 (by decide) ?_
      exact hq42 s0 x5 r3 M4 _ _ _ hP hS (lv_sub hl [3, 4, 5, 2, 1, 0] rfl) hres
    · have hres := m_if hres hc2
      refine lv_aload_n X.1 X.2.1 dX8_orders_93 rfl (lv_at hl 1 rfl) ?_
      refine m_g8 (v := .ref (m_ad G 198)) X hSt hP m_z_172 50 (by decide) rfl k_f_X8_95 dX8_orders_94 ?_
      refine lv_iload_n X.1 X.2.1 dX8_orders_97 rfl (lv_at hl 2 rfl) ?_
      refine m_ia (j := x1.toNatClampNeg) X hSt hP m_z_198 hg1 rfl dX8_orders_98 ?_
      refine lv_goto (tgt := 104) X.1 X.2.1 dX8_orders_99 (by decide) ?_
      refine lv_istore (lv' := [(5, .int (M.1 198 x1.toNatClampNeg)), (4, .int s0), (0, .ref (m_ad G 172)), (1, .int x1), (2, .int x2)]) X.1 X.2.1 dX8_orders_104 hl (by decide) rfl (fun ls hl => ?_)
      refine lv_aload_n X.1 X.2.1 dX8_orders_106 rfl (lv_at hl 2 rfl) ?_
      obtain ⟨r6, M7, err6, hres⟩ := m_o2_e hres
      refine m_bz (m_cV (n := 0) (As := []) (rest := []) X hSt hP hS hl.1 (c_X8_nextOrder l G  err6) k_c_yX8_nextOrder k_m_X8_421 k_i_yX8_nextOrder k_s_yX8_nextOrder k_n_X8 (by decide +kernel) (m_rc8 hSt hP m_z_172) rfl rfl ⟨Nat.le_of_ble_eq_true rfl, Nat.le_of_ble_eq_true rfl⟩ (Nat.le_of_ble_eq_true rfl) ⟨Nat.zero_le _, Nat.zero_le _⟩ dX8_orders_107) hS (fun H locs hP hS hz8 => ?_)
      refine lv_istore (lv' := [(6, .int r6), (5, .int (M.1 198 x1.toNatClampNeg)), (4, .int s0), (0, .ref (m_ad G 172)), (1, .int x1), (2, .int x2)]) X.1 X.2.1 dX8_orders_110 hl (by decide) rfl (fun ls hl => ?_)
      refine lv_goto (tgt := 42) X.1 X.2.1 dX8_orders_112 (by decide) ?_
      exact hq42 s0 (M.1 198 x1.toNatClampNeg) r6 M7 _ _ _ hP hS (lv_sub hl [3, 4, 5, 2, 1, 0] rfl) hres
  have B42 : ∀ (u : Nat) (x4 : Int32) (x5 : Int32) (x6 : Int32) (M : m_M) (H : Heap) (locs : List Loc) (ls : Array Slot), m_P G M H → va_S (m_A G) s.heap H locs → lv_has ls 7 [(0, .ref (m_ad G 172)), (1, .int x1), (2, .int x2), (4, .int x4), (5, .int x5), (6, .int x6)] → f_X8_orders_b42 n x1 x2 x3 u x4 x5 x6 M = some (r0, M0) → W p l e (m_R 9 206) s m args below meth c H locs 0 0 (MQ below (m_Qi G r0 M0) args s 0 0 (m_A G)) (F0 m 42 ls []) := by
    intro u
    induction u with
    | zero =>
      intro x4 x5 x6 M H locs ls hP hS hl hres
      cases hres
    | succ u ih =>
      intro x4 x5 x6 M H locs ls hP hS hl hres
      rw [f_X8_orders_b42] at hres
      refine lv_iload X.1 X.2.1 dX8_orders_42 (lv_at hl 5 rfl) ?_
      refine lv_if_eq (tgt := 115) X.1 X.2.1 dX8_orders_44 (by decide) (fun hc9 => ?_) (fun hc9 => ?_)
      · have hres := m_it hres hc9
        refine lv_iload_n X.1 X.2.1 dX8_orders_115 rfl (lv_at hl 2 rfl) ?_
        refine lv_if_ne (tgt := 124) X.1 X.2.1 dX8_orders_116 (by decide) (fun hc10 => ?_) (fun hc10 => ?_)
        · have hres := m_if hres hc10
          refine lv_iload X.1 X.2.1 dX8_orders_124 (lv_at hl 4 rfl) ?_
          exact m_ri X hr hlk hP hS (Prod.mk.inj (Option.some.inj hres)).1 (Prod.mk.inj (Option.some.inj hres)).2 dX8_orders_126
        · have hres := m_it hres hc10
          refine lv_iload X.1 X.2.1 dX8_orders_119 (lv_at hl 3 rfl) ?_
          refine lv_goto (tgt := 126) X.1 X.2.1 dX8_orders_121 (by decide) ?_
          exact m_ri X hr hlk hP hS (Prod.mk.inj (Option.some.inj hres)).1 (Prod.mk.inj (Option.some.inj hres)).2 dX8_orders_126
      · have hres := m_if hres hc9
        refine lv_aload_n X.1 X.2.1 dX8_orders_47 rfl (lv_at hl 0 rfl) ?_
        refine lv_iconst (v := 0) X.1 X.2.1 dX8_orders_48 (by decide) ?_
        obtain ⟨M11, eM11, hres⟩ := m_ob_e hres
        refine m_bv (m_cV (n := 1) (As := [.int 0]) (rest := []) X hSt hP hS hl.1 (c_X8_serve l G  eM11) k_c_yX8_serve k_m_X8_415 k_i_yX8_serve k_s_yX8_serve k_n_X8 (by decide +kernel) (m_rc8 hSt hP m_z_172) rfl rfl ⟨Nat.le_of_ble_eq_true rfl, Nat.le_of_ble_eq_true rfl⟩ (Nat.le_of_ble_eq_true rfl) ⟨Nat.zero_le _, Nat.zero_le _⟩ dX8_orders_49) hS (fun H locs hP hS => ?_)
        refine lv_iload X.1 X.2.1 dX8_orders_52 (lv_at hl 3 rfl) ?_
        refine lv_iconst (v := (-1)) X.1 X.2.1 dX8_orders_54 (by decide) ?_
        refine lv_icmp_eq (tgt := 69) X.1 X.2.1 dX8_orders_55 (by decide) (fun hc12 => ?_) (fun hc12 => ?_)
        · have hres := m_it hres hc12
          refine lv_aload_n X.1 X.2.1 dX8_orders_69 rfl (lv_at hl 0 rfl) ?_
          refine m_g8 (v := .ref (m_ad G 198)) X hSt hP m_z_172 50 (by decide) rfl k_f_X8_95 dX8_orders_70 ?_
          refine lv_iload_n X.1 X.2.1 dX8_orders_73 rfl (lv_at hl 1 rfl) ?_
          obtain ⟨hg13, hres⟩ := m_gd_e hres
          refine m_ia (j := x1.toNatClampNeg) X hSt hP m_z_198 hg13 rfl dX8_orders_74 ?_
          refine lv_goto (tgt := 80) X.1 X.2.1 dX8_orders_75 (by decide) ?_
          exact B80 (f_X8_orders_b42 n x1 x2 x3 u) ih x5 (M11.1 198 x1.toNatClampNeg) M11 _ _ _ hP hS (lv_sub hl [0, 1, 2, 4] rfl) hres
        · have hres := m_if hres hc12
          refine lv_aload_n X.1 X.2.1 dX8_orders_58 rfl (lv_at hl 0 rfl) ?_
          refine m_g8 (v := .ref (m_ad G 198)) X hSt hP m_z_172 50 (by decide) rfl k_f_X8_95 dX8_orders_59 ?_
          refine lv_iload_n X.1 X.2.1 dX8_orders_62 rfl (lv_at hl 1 rfl) ?_
          obtain ⟨hg14, hres⟩ := m_gd_e hres
          refine m_ia (j := x1.toNatClampNeg) X hSt hP m_z_198 hg14 rfl dX8_orders_63 ?_
          refine lv_iload X.1 X.2.1 dX8_orders_64 (lv_at hl 3 rfl) ?_
          refine lv_icmp_ge (tgt := 78) X.1 X.2.1 dX8_orders_66 (by decide) (fun hc15 => ?_) (fun hc15 => ?_)
          · have hres := m_it hres hc15
            refine lv_iload X.1 X.2.1 dX8_orders_78 (lv_at hl 3 rfl) ?_
            exact B80 (f_X8_orders_b42 n x1 x2 x3 u) ih x5 x4 M11 _ _ _ hP hS (lv_sub hl [0, 1, 2, 4] rfl) hres
          · have hres := m_if hres hc15
            refine lv_aload_n X.1 X.2.1 dX8_orders_69 rfl (lv_at hl 0 rfl) ?_
            refine m_g8 (v := .ref (m_ad G 198)) X hSt hP m_z_172 50 (by decide) rfl k_f_X8_95 dX8_orders_70 ?_
            refine lv_iload_n X.1 X.2.1 dX8_orders_73 rfl (lv_at hl 1 rfl) ?_
            refine m_ia (j := x1.toNatClampNeg) X hSt hP m_z_198 hg14 rfl dX8_orders_74 ?_
            refine lv_goto (tgt := 80) X.1 X.2.1 dX8_orders_75 (by decide) ?_
            exact B80 (f_X8_orders_b42 n x1 x2 x3 u) ih x5 (M11.1 198 x1.toNatClampNeg) M11 _ _ _ hP hS (lv_sub hl [0, 1, 2, 4] rfl) hres
  unfold f_X8_orders at hres
  refine lv_aload_n X.1 X.2.1 dX8_orders_0 rfl (lv_at hl 0 rfl) ?_
  refine lv_iload_n X.1 X.2.1 dX8_orders_1 rfl (lv_at hl 1 rfl) ?_
  obtain ⟨r16, err16, hres⟩ := m_bd_e hres
  refine m_bz (m_cV (n := 1) (As := [.int x1]) (rest := []) X hSt hP hS hl.1 (c_X8_isPlace l G  err16) k_c_yX8_isPlace k_m_X8_409 k_i_yX8_isPlace k_s_yX8_isPlace k_n_X8 (by decide +kernel) (m_rc8 hSt hP m_z_172) rfl rfl ⟨Nat.le_of_ble_eq_true rfl, Nat.le_of_ble_eq_true rfl⟩ (Nat.le_of_ble_eq_true rfl) ⟨Nat.zero_le _, Nat.zero_le _⟩ dX8_orders_2) hS (fun H locs hP hS hz17 => ?_)
  refine lv_if_eq (tgt := 25) X.1 X.2.1 dX8_orders_5 (by decide) (fun hc18 => ?_) (fun hc18 => ?_)
  · have hres := m_it hres hc18
    refine lv_bipush (v := (-2)) X.1 X.2.1 dX8_orders_25 (by decide) ?_
    exact m_ri X hr hlk hP hS (Prod.mk.inj (Option.some.inj hres)).1 (Prod.mk.inj (Option.some.inj hres)).2 dX8_orders_27
  · have hres := m_if hres hc18
    refine lv_iload_n X.1 X.2.1 dX8_orders_8 rfl (lv_at hl 2 rfl) ?_
    refine lv_i2l (v := x2.toInt64) X.1 X.2.1 dX8_orders_9 rfl ?_
    refine lv_lconst (v := 0) X.1 X.2.1 dX8_orders_10 (by decide) ?_
    refine lv_lconst (v := 1) X.1 X.2.1 dX8_orders_11 (by decide) ?_
    obtain ⟨r19, err19, hres⟩ := m_bd_e hres
    refine m_bz (m_cS (n := 3) (As := [.long x2.toInt64, .long 0, .long 1]) (rest := []) X hSt hP hS hl.1 (c_X8_isIn l G (M := M)  err19) k_c_yX8_isIn k_m_X8_111 k_t_yX8_isIn k_n_X8 (by decide +kernel) rfl rfl ⟨Nat.le_of_ble_eq_true rfl, Nat.le_of_ble_eq_true rfl⟩ (Nat.le_of_ble_eq_true rfl) ⟨Nat.zero_le _, Nat.zero_le _⟩ dX8_orders_12) hS (fun H locs hP hS hz20 => ?_)
    refine lv_if_eq (tgt := 25) X.1 X.2.1 dX8_orders_15 (by decide) (fun hc21 => ?_) (fun hc21 => ?_)
    · have hres := m_it hres hc21
      refine lv_bipush (v := (-2)) X.1 X.2.1 dX8_orders_25 (by decide) ?_
      exact m_ri X hr hlk hP hS (Prod.mk.inj (Option.some.inj hres)).1 (Prod.mk.inj (Option.some.inj hres)).2 dX8_orders_27
    · have hres := m_if hres hc21
      refine lv_iload_n X.1 X.2.1 dX8_orders_18 rfl (lv_at hl 3 rfl) ?_
      obtain ⟨r22, err22, hres⟩ := m_bd_e hres
      refine m_bz (m_cS (n := 1) (As := [.int x3]) (rest := []) X hSt hP hS hl.1 (c_X8_isDay l G (M := M)  err22) k_c_yX8_isDay k_m_X8_347 k_t_yX8_isDay k_n_X8 (by decide +kernel) rfl rfl ⟨Nat.le_of_ble_eq_true rfl, Nat.le_of_ble_eq_true rfl⟩ (Nat.le_of_ble_eq_true rfl) ⟨Nat.zero_le _, Nat.zero_le _⟩ dX8_orders_19) hS (fun H locs hP hS hz23 => ?_)
      refine lv_if_ne (tgt := 28) X.1 X.2.1 dX8_orders_22 (by decide) (fun hc24 => ?_) (fun hc24 => ?_)
      · have hres := m_if hres hc24
        refine lv_aload_n X.1 X.2.1 dX8_orders_28 rfl (lv_at hl 0 rfl) ?_
        refine lv_iload_n X.1 X.2.1 dX8_orders_29 rfl (lv_at hl 3 rfl) ?_
        obtain ⟨M25, eM25, hres⟩ := m_ob_e hres
        refine m_bv (m_cV (n := 1) (As := [.int x3]) (rest := []) X hSt hP hS hl.1 (c_X8_layLine l G  eM25) k_c_yX8_layLine k_m_X8_412 k_i_yX8_layLine k_s_yX8_layLine k_n_X8 (by decide +kernel) (m_rc8 hSt hP m_z_172) rfl rfl ⟨Nat.le_of_ble_eq_true rfl, Nat.le_of_ble_eq_true rfl⟩ (Nat.le_of_ble_eq_true rfl) ⟨Nat.zero_le _, Nat.zero_le _⟩ dX8_orders_30) hS (fun H locs hP hS => ?_)
        refine lv_iconst (v := (-1)) X.1 X.2.1 dX8_orders_33 (by decide) ?_
        refine lv_istore (lv' := [(4, .int (-1)), (0, .ref (m_ad G 172)), (1, .int x1), (2, .int x2), (3, .int x3)]) X.1 X.2.1 dX8_orders_34 hl (by decide) rfl (fun ls hl => ?_)
        refine lv_iconst (v := 0) X.1 X.2.1 dX8_orders_36 (by decide) ?_
        refine lv_istore (lv' := [(5, .int 0), (4, .int (-1)), (0, .ref (m_ad G 172)), (1, .int x1), (2, .int x2), (3, .int x3)]) X.1 X.2.1 dX8_orders_37 hl (by decide) rfl (fun ls hl => ?_)
        refine lv_iconst (v := 1) X.1 X.2.1 dX8_orders_39 (by decide) ?_
        refine lv_istore (lv' := [(6, .int 1), (5, .int 0), (4, .int (-1)), (0, .ref (m_ad G 172)), (1, .int x1), (2, .int x2), (3, .int x3)]) X.1 X.2.1 dX8_orders_40 hl (by decide) rfl (fun ls hl => ?_)
        exact B42 n (-1) 0 1 M25 _ _ _ hP hS (lv_sub hl [3, 4, 5, 2, 1, 0] rfl) hres
      · have hres := m_it hres hc24
        refine lv_bipush (v := (-2)) X.1 X.2.1 dX8_orders_25 (by decide) ?_
        exact m_ri X hr hlk hP hS (Prod.mk.inj (Option.some.inj hres)).1 (Prod.mk.inj (Option.some.inj hres)).2 dX8_orders_27
theorem dX8_owed_0 : decode cX8_owed 0 = .ok (.aload_n 0, 1) := by decide +kernel
theorem dX8_owed_1 : decode cX8_owed 1 = .ok (.iload_n 1, 1) := by decide +kernel
theorem dX8_owed_2 : decode cX8_owed 2 = .ok (.iload_n 2, 1) := by decide +kernel
theorem dX8_owed_3 : decode cX8_owed 3 = .ok (.invokevirtual 355, 3) := by decide +kernel
theorem dX8_owed_6 : decode cX8_owed 6 = .ok (.ifCond .ne 6, 3) := by decide +kernel
theorem dX8_owed_9 : decode cX8_owed 9 = .ok (.bipush (-2), 2) := by decide +kernel
theorem dX8_owed_11 : decode cX8_owed 11 = .ok (.ireturn, 1) := by decide +kernel
theorem dX8_owed_12 : decode cX8_owed 12 = .ok (.aload_n 0, 1) := by decide +kernel
theorem dX8_owed_13 : decode cX8_owed 13 = .ok (.iload_n 1, 1) := by decide +kernel
theorem dX8_owed_14 : decode cX8_owed 14 = .ok (.iload_n 2, 1) := by decide +kernel
theorem dX8_owed_15 : decode cX8_owed 15 = .ok (.invokevirtual 358, 3) := by decide +kernel
theorem dX8_owed_18 : decode cX8_owed 18 = .ok (.ifCond .eq 6, 3) := by decide +kernel
theorem dX8_owed_21 : decode cX8_owed 21 = .ok (.bipush (-3), 2) := by decide +kernel
theorem dX8_owed_23 : decode cX8_owed 23 = .ok (.ireturn, 1) := by decide +kernel
theorem dX8_owed_24 : decode cX8_owed 24 = .ok (.aload_n 0, 1) := by decide +kernel
theorem dX8_owed_25 : decode cX8_owed 25 = .ok (.iload_n 2, 1) := by decide +kernel
theorem dX8_owed_26 : decode cX8_owed 26 = .ok (.invokevirtual 350, 3) := by decide +kernel
theorem dX8_owed_29 : decode cX8_owed 29 = .ok (.aload_n 0, 1) := by decide +kernel
theorem dX8_owed_30 : decode cX8_owed 30 = .ok (.iload_n 1, 1) := by decide +kernel
theorem dX8_owed_31 : decode cX8_owed 31 = .ok (.invokevirtual 171, 3) := by decide +kernel
theorem dX8_owed_34 : decode cX8_owed 34 = .ok (.ireturn, 1) := by decide +kernel
def f_X8_owed (n : Nat) (x1 : Int32) (x2 : Int32) (M : m_M) : Option (Int32 × m_M) :=
  m_o2 (f_X8_isAsked n x1 x2 M) fun r1 M2 =>
  if r1 = 0 then
  some ((-2), M2)
  else
  m_ob (f_X8_isEarly x1 x2 M2) fun r5 =>
  if r5 = 0 then
  m_ob (f_X8_layToday n x2 M2) fun M8 =>
  m_ob (f_X8_owedOf x1 M8) fun r9 =>
  some (r9, M8)
  else
  some ((-3), M2)
set_option maxHeartbeats 4000000 in
set_option maxRecDepth 100000 in
theorem c_X8_owed (l : Launch) (G : m_G) {n : Nat} {x1 : Int32} {x2 : Int32} {M : m_M} {r0 : Int32} {M0 : m_M}  (hres : f_X8_owed n x1 x2 M = some (r0, M0)) : Met l yX8_owed (m_U yX8_owed cX8_owed 3 (some .int)) (m_R 8 182) (m_Pc G [.ref (m_ad G 172), .int x1, .int x2] M) (m_Qi G r0 M0) 0 0 (m_A G) := by
  refine m_i0 (n := 3) RX8 rfl (by decide) (Nat.le_of_ble_eq_true rfl) ?_
  intro p e s m args below meth c X hr hlk hSt hP hS ls hl
  have hl : lv_has ls 3 [(0, .ref (m_ad G 172)), (1, .int x1), (2, .int x2)] := hl
  unfold f_X8_owed at hres
  refine lv_aload_n X.1 X.2.1 dX8_owed_0 rfl (lv_at hl 0 rfl) ?_
  refine lv_iload_n X.1 X.2.1 dX8_owed_1 rfl (lv_at hl 1 rfl) ?_
  refine lv_iload_n X.1 X.2.1 dX8_owed_2 rfl (lv_at hl 2 rfl) ?_
  obtain ⟨r1, M2, err1, hres⟩ := m_o2_e hres
  refine m_bz (m_cV (n := 2) (As := [.int x1, .int x2]) (rest := []) X hSt hP hS hl.1 (c_X8_isAsked l G  err1) k_c_yX8_isAsked k_m_X8_355 k_i_yX8_isAsked k_s_yX8_isAsked k_n_X8 (by decide +kernel) (m_rc8 hSt hP m_z_172) rfl rfl ⟨Nat.le_of_ble_eq_true rfl, Nat.le_of_ble_eq_true rfl⟩ (Nat.le_of_ble_eq_true rfl) ⟨Nat.zero_le _, Nat.zero_le _⟩ dX8_owed_3) hS (fun H locs hP hS hz3 => ?_)
  refine lv_if_ne (tgt := 12) X.1 X.2.1 dX8_owed_6 (by decide) (fun hc4 => ?_) (fun hc4 => ?_)
  · have hres := m_if hres hc4
    refine lv_aload_n X.1 X.2.1 dX8_owed_12 rfl (lv_at hl 0 rfl) ?_
    refine lv_iload_n X.1 X.2.1 dX8_owed_13 rfl (lv_at hl 1 rfl) ?_
    refine lv_iload_n X.1 X.2.1 dX8_owed_14 rfl (lv_at hl 2 rfl) ?_
    obtain ⟨r5, err5, hres⟩ := m_ob_e hres
    refine m_bz (m_cV (n := 2) (As := [.int x1, .int x2]) (rest := []) X hSt hP hS hl.1 (c_X8_isEarly l G  err5) k_c_yX8_isEarly k_m_X8_358 k_i_yX8_isEarly k_s_yX8_isEarly k_n_X8 (by decide +kernel) (m_rc8 hSt hP m_z_172) rfl rfl ⟨Nat.le_of_ble_eq_true rfl, Nat.le_of_ble_eq_true rfl⟩ (Nat.le_of_ble_eq_true rfl) ⟨Nat.zero_le _, Nat.zero_le _⟩ dX8_owed_15) hS (fun H locs hP hS hz6 => ?_)
    refine lv_if_eq (tgt := 24) X.1 X.2.1 dX8_owed_18 (by decide) (fun hc7 => ?_) (fun hc7 => ?_)
    · have hres := m_it hres hc7
      refine lv_aload_n X.1 X.2.1 dX8_owed_24 rfl (lv_at hl 0 rfl) ?_
      refine lv_iload_n X.1 X.2.1 dX8_owed_25 rfl (lv_at hl 2 rfl) ?_
      obtain ⟨M8, eM8, hres⟩ := m_ob_e hres
      refine m_bv (m_cV (n := 1) (As := [.int x2]) (rest := []) X hSt hP hS hl.1 (c_X8_layToday l G  eM8) k_c_yX8_layToday k_m_X8_350 k_i_yX8_layToday k_s_yX8_layToday k_n_X8 (by decide +kernel) (m_rc8 hSt hP m_z_172) rfl rfl ⟨Nat.le_of_ble_eq_true rfl, Nat.le_of_ble_eq_true rfl⟩ (Nat.le_of_ble_eq_true rfl) ⟨Nat.zero_le _, Nat.zero_le _⟩ dX8_owed_26) hS (fun H locs hP hS => ?_)
      refine lv_aload_n X.1 X.2.1 dX8_owed_29 rfl (lv_at hl 0 rfl) ?_
      refine lv_iload_n X.1 X.2.1 dX8_owed_30 rfl (lv_at hl 1 rfl) ?_
      obtain ⟨r9, err9, hres⟩ := m_ob_e hres
      refine m_bi (m_cV (n := 1) (As := [.int x1]) (rest := []) X hSt hP hS hl.1 (c_X8_owedOf l G  err9) k_c_yX8_owedOf k_m_X8_171 k_i_yX8_owedOf k_s_yX8_owedOf k_n_X8 (by decide +kernel) (m_rc8 hSt hP m_z_172) rfl rfl ⟨Nat.le_of_ble_eq_true rfl, Nat.le_of_ble_eq_true rfl⟩ (Nat.le_of_ble_eq_true rfl) ⟨Nat.zero_le _, Nat.zero_le _⟩ dX8_owed_31) hS (fun H locs hP hS => ?_)
      exact m_ri X hr hlk hP hS (Prod.mk.inj (Option.some.inj hres)).1 (Prod.mk.inj (Option.some.inj hres)).2 dX8_owed_34
    · have hres := m_if hres hc7
      refine lv_bipush (v := (-3)) X.1 X.2.1 dX8_owed_21 (by decide) ?_
      exact m_ri X hr hlk hP hS (Prod.mk.inj (Option.some.inj hres)).1 (Prod.mk.inj (Option.some.inj hres)).2 dX8_owed_23
  · have hres := m_it hres hc4
    refine lv_bipush (v := (-2)) X.1 X.2.1 dX8_owed_9 (by decide) ?_
    exact m_ri X hr hlk hP hS (Prod.mk.inj (Option.some.inj hres)).1 (Prod.mk.inj (Option.some.inj hres)).2 dX8_owed_11
theorem dX8_own_0 : decode cX8_own 0 = .ok (.aload_n 0, 1) := by decide +kernel
theorem dX8_own_1 : decode cX8_own 1 = .ok (.iload_n 1, 1) := by decide +kernel
theorem dX8_own_2 : decode cX8_own 2 = .ok (.invokevirtual 148, 3) := by decide +kernel
theorem dX8_own_5 : decode cX8_own 5 = .ok (.ifCond .eq 22, 3) := by decide +kernel
theorem dX8_own_8 : decode cX8_own 8 = .ok (.iload_n 2, 1) := by decide +kernel
theorem dX8_own_9 : decode cX8_own 9 = .ok (.i2l, 1) := by decide +kernel
theorem dX8_own_10 : decode cX8_own 10 = .ok (.lconst 0, 1) := by decide +kernel
theorem dX8_own_11 : decode cX8_own 11 = .ok (.ldc2_w 161, 3) := by decide +kernel
theorem dX8_own_14 : decode cX8_own 14 = .ok (.invokestatic 111, 3) := by decide +kernel
theorem dX8_own_17 : decode cX8_own 17 = .ok (.ifCond .eq 10, 3) := by decide +kernel
theorem dX8_own_20 : decode cX8_own 20 = .ok (.iload_n 3, 1) := by decide +kernel
theorem dX8_own_21 : decode cX8_own 21 = .ok (.invokestatic 347, 3) := by decide +kernel
theorem dX8_own_24 : decode cX8_own 24 = .ok (.ifCond .ne 6, 3) := by decide +kernel
theorem dX8_own_27 : decode cX8_own 27 = .ok (.bipush (-2), 2) := by decide +kernel
theorem dX8_own_29 : decode cX8_own 29 = .ok (.ireturn, 1) := by decide +kernel
theorem dX8_own_30 : decode cX8_own 30 = .ok (.aload_n 0, 1) := by decide +kernel
theorem dX8_own_31 : decode cX8_own 31 = .ok (.iload_n 3, 1) := by decide +kernel
theorem dX8_own_32 : decode cX8_own 32 = .ok (.invokevirtual 350, 3) := by decide +kernel
theorem dX8_own_35 : decode cX8_own 35 = .ok (.iload_n 2, 1) := by decide +kernel
theorem dX8_own_36 : decode cX8_own 36 = .ok (.ifCond .ne 11, 3) := by decide +kernel
theorem dX8_own_39 : decode cX8_own 39 = .ok (.aload_n 0, 1) := by decide +kernel
theorem dX8_own_40 : decode cX8_own 40 = .ok (.iload_n 1, 1) := by decide +kernel
theorem dX8_own_41 : decode cX8_own 41 = .ok (.invokevirtual 329, 3) := by decide +kernel
theorem dX8_own_44 : decode cX8_own 44 = .ok (.goto 11, 3) := by decide +kernel
theorem dX8_own_47 : decode cX8_own 47 = .ok (.aload_n 0, 1) := by decide +kernel
theorem dX8_own_48 : decode cX8_own 48 = .ok (.iload_n 1, 1) := by decide +kernel
theorem dX8_own_49 : decode cX8_own 49 = .ok (.iload_n 2, 1) := by decide +kernel
theorem dX8_own_50 : decode cX8_own 50 = .ok (.iconst 1, 1) := by decide +kernel
theorem dX8_own_51 : decode cX8_own 51 = .ok (.isub, 1) := by decide +kernel
theorem dX8_own_52 : decode cX8_own 52 = .ok (.invokevirtual 332, 3) := by decide +kernel
theorem dX8_own_55 : decode cX8_own 55 = .ok (.ireturn, 1) := by decide +kernel
def f_X8_own (n : Nat) (x1 : Int32) (x2 : Int32) (x3 : Int32) (M : m_M) : Option (Int32 × m_M) :=
  m_bd (f_X8_isPerson x1 M) fun r1 =>
  if r1 = 0 then
  some ((-2), M)
  else
  m_bd (f_X8_isIn x2.toInt64 0 2) fun r4 =>
  if r4 = 0 then
  some ((-2), M)
  else
  m_bd (f_X8_isDay x3) fun r7 =>
  if r7 = 0 then
  some ((-2), M)
  else
  m_ob (f_X8_layToday n x3 M) fun M10 =>
  if x2 = 0 then
  m_ob (f_X8_secondOf n x1 M10) fun r13 =>
  some (r13, M10)
  else
  m_ob (f_X8_ownOf n x1 (x2 - (1 : Int32)) M10) fun r12 =>
  some (r12, M10)
set_option maxHeartbeats 4000000 in
set_option maxRecDepth 100000 in
theorem c_X8_own (l : Launch) (G : m_G) {n : Nat} {x1 : Int32} {x2 : Int32} {x3 : Int32} {M : m_M} {r0 : Int32} {M0 : m_M}  (hres : f_X8_own n x1 x2 x3 M = some (r0, M0)) : Met l yX8_own (m_U yX8_own cX8_own 4 (some .int)) (m_R 8 182) (m_Pc G [.ref (m_ad G 172), .int x1, .int x2, .int x3] M) (m_Qi G r0 M0) 0 0 (m_A G) := by
  refine m_i0 (n := 4) RX8 rfl (by decide) (Nat.le_of_ble_eq_true rfl) ?_
  intro p e s m args below meth c X hr hlk hSt hP hS ls hl
  have hl : lv_has ls 4 [(0, .ref (m_ad G 172)), (1, .int x1), (2, .int x2), (3, .int x3)] := hl
  unfold f_X8_own at hres
  refine lv_aload_n X.1 X.2.1 dX8_own_0 rfl (lv_at hl 0 rfl) ?_
  refine lv_iload_n X.1 X.2.1 dX8_own_1 rfl (lv_at hl 1 rfl) ?_
  obtain ⟨r1, err1, hres⟩ := m_bd_e hres
  refine m_bz (m_cV (n := 1) (As := [.int x1]) (rest := []) X hSt hP hS hl.1 (c_X8_isPerson l G  err1) k_c_yX8_isPerson k_m_X8_148 k_i_yX8_isPerson k_s_yX8_isPerson k_n_X8 (by decide +kernel) (m_rc8 hSt hP m_z_172) rfl rfl ⟨Nat.le_of_ble_eq_true rfl, Nat.le_of_ble_eq_true rfl⟩ (Nat.le_of_ble_eq_true rfl) ⟨Nat.zero_le _, Nat.zero_le _⟩ dX8_own_2) hS (fun H locs hP hS hz2 => ?_)
  refine lv_if_eq (tgt := 27) X.1 X.2.1 dX8_own_5 (by decide) (fun hc3 => ?_) (fun hc3 => ?_)
  · have hres := m_it hres hc3
    refine lv_bipush (v := (-2)) X.1 X.2.1 dX8_own_27 (by decide) ?_
    exact m_ri X hr hlk hP hS (Prod.mk.inj (Option.some.inj hres)).1 (Prod.mk.inj (Option.some.inj hres)).2 dX8_own_29
  · have hres := m_if hres hc3
    refine lv_iload_n X.1 X.2.1 dX8_own_8 rfl (lv_at hl 2 rfl) ?_
    refine lv_i2l (v := x2.toInt64) X.1 X.2.1 dX8_own_9 rfl ?_
    refine lv_lconst (v := 0) X.1 X.2.1 dX8_own_10 (by decide) ?_
    refine lv_ldc2 (v := 2) X.1 X.2.1 X.2.2.2.1 (X.2.2.2.2 _ k_l_X8_161) dX8_own_11 ?_
    obtain ⟨r4, err4, hres⟩ := m_bd_e hres
    refine m_bz (m_cS (n := 3) (As := [.long x2.toInt64, .long 0, .long 2]) (rest := []) X hSt hP hS hl.1 (c_X8_isIn l G (M := M)  err4) k_c_yX8_isIn k_m_X8_111 k_t_yX8_isIn k_n_X8 (by decide +kernel) rfl rfl ⟨Nat.le_of_ble_eq_true rfl, Nat.le_of_ble_eq_true rfl⟩ (Nat.le_of_ble_eq_true rfl) ⟨Nat.zero_le _, Nat.zero_le _⟩ dX8_own_14) hS (fun H locs hP hS hz5 => ?_)
    refine lv_if_eq (tgt := 27) X.1 X.2.1 dX8_own_17 (by decide) (fun hc6 => ?_) (fun hc6 => ?_)
    · have hres := m_it hres hc6
      refine lv_bipush (v := (-2)) X.1 X.2.1 dX8_own_27 (by decide) ?_
      exact m_ri X hr hlk hP hS (Prod.mk.inj (Option.some.inj hres)).1 (Prod.mk.inj (Option.some.inj hres)).2 dX8_own_29
    · have hres := m_if hres hc6
      refine lv_iload_n X.1 X.2.1 dX8_own_20 rfl (lv_at hl 3 rfl) ?_
      obtain ⟨r7, err7, hres⟩ := m_bd_e hres
      refine m_bz (m_cS (n := 1) (As := [.int x3]) (rest := []) X hSt hP hS hl.1 (c_X8_isDay l G (M := M)  err7) k_c_yX8_isDay k_m_X8_347 k_t_yX8_isDay k_n_X8 (by decide +kernel) rfl rfl ⟨Nat.le_of_ble_eq_true rfl, Nat.le_of_ble_eq_true rfl⟩ (Nat.le_of_ble_eq_true rfl) ⟨Nat.zero_le _, Nat.zero_le _⟩ dX8_own_21) hS (fun H locs hP hS hz8 => ?_)
      refine lv_if_ne (tgt := 30) X.1 X.2.1 dX8_own_24 (by decide) (fun hc9 => ?_) (fun hc9 => ?_)
      · have hres := m_if hres hc9
        refine lv_aload_n X.1 X.2.1 dX8_own_30 rfl (lv_at hl 0 rfl) ?_
        refine lv_iload_n X.1 X.2.1 dX8_own_31 rfl (lv_at hl 3 rfl) ?_
        obtain ⟨M10, eM10, hres⟩ := m_ob_e hres
        refine m_bv (m_cV (n := 1) (As := [.int x3]) (rest := []) X hSt hP hS hl.1 (c_X8_layToday l G  eM10) k_c_yX8_layToday k_m_X8_350 k_i_yX8_layToday k_s_yX8_layToday k_n_X8 (by decide +kernel) (m_rc8 hSt hP m_z_172) rfl rfl ⟨Nat.le_of_ble_eq_true rfl, Nat.le_of_ble_eq_true rfl⟩ (Nat.le_of_ble_eq_true rfl) ⟨Nat.zero_le _, Nat.zero_le _⟩ dX8_own_32) hS (fun H locs hP hS => ?_)
        refine lv_iload_n X.1 X.2.1 dX8_own_35 rfl (lv_at hl 2 rfl) ?_
        refine lv_if_ne (tgt := 47) X.1 X.2.1 dX8_own_36 (by decide) (fun hc11 => ?_) (fun hc11 => ?_)
        · have hres := m_if hres hc11
          refine lv_aload_n X.1 X.2.1 dX8_own_47 rfl (lv_at hl 0 rfl) ?_
          refine lv_iload_n X.1 X.2.1 dX8_own_48 rfl (lv_at hl 1 rfl) ?_
          refine lv_iload_n X.1 X.2.1 dX8_own_49 rfl (lv_at hl 2 rfl) ?_
          refine lv_iconst (v := 1) X.1 X.2.1 dX8_own_50 (by decide) ?_
          refine lv_isub X.1 X.2.1 dX8_own_51 ?_
          obtain ⟨r12, err12, hres⟩ := m_ob_e hres
          refine m_bi (m_cV (n := 2) (As := [.int x1, .int (x2 - (1 : Int32))]) (rest := []) X hSt hP hS hl.1 (c_X8_ownOf l G  err12) k_c_yX8_ownOf k_m_X8_332 k_i_yX8_ownOf k_s_yX8_ownOf k_n_X8 (by decide +kernel) (m_rc8 hSt hP m_z_172) rfl rfl ⟨Nat.le_of_ble_eq_true rfl, Nat.le_of_ble_eq_true rfl⟩ (Nat.le_of_ble_eq_true rfl) ⟨Nat.zero_le _, Nat.zero_le _⟩ dX8_own_52) hS (fun H locs hP hS => ?_)
          exact m_ri X hr hlk hP hS (Prod.mk.inj (Option.some.inj hres)).1 (Prod.mk.inj (Option.some.inj hres)).2 dX8_own_55
        · have hres := m_it hres hc11
          refine lv_aload_n X.1 X.2.1 dX8_own_39 rfl (lv_at hl 0 rfl) ?_
          refine lv_iload_n X.1 X.2.1 dX8_own_40 rfl (lv_at hl 1 rfl) ?_
          obtain ⟨r13, err13, hres⟩ := m_ob_e hres
          refine m_bi (m_cV (n := 1) (As := [.int x1]) (rest := []) X hSt hP hS hl.1 (c_X8_secondOf l G  err13) k_c_yX8_secondOf k_m_X8_329 k_i_yX8_secondOf k_s_yX8_secondOf k_n_X8 (by decide +kernel) (m_rc8 hSt hP m_z_172) rfl rfl ⟨Nat.le_of_ble_eq_true rfl, Nat.le_of_ble_eq_true rfl⟩ (Nat.le_of_ble_eq_true rfl) ⟨Nat.zero_le _, Nat.zero_le _⟩ dX8_own_41) hS (fun H locs hP hS => ?_)
          refine lv_goto (tgt := 55) X.1 X.2.1 dX8_own_44 (by decide) ?_
          exact m_ri X hr hlk hP hS (Prod.mk.inj (Option.some.inj hres)).1 (Prod.mk.inj (Option.some.inj hres)).2 dX8_own_55
      · have hres := m_it hres hc9
        refine lv_bipush (v := (-2)) X.1 X.2.1 dX8_own_27 (by decide) ?_
        exact m_ri X hr hlk hP hS (Prod.mk.inj (Option.some.inj hres)).1 (Prod.mk.inj (Option.some.inj hres)).2 dX8_own_29
theorem dX8_part_0 : decode cX8_part 0 = .ok (.iload_n 1, 1) := by decide +kernel
theorem dX8_part_1 : decode cX8_part 1 = .ok (.ifCond .ne 10, 3) := by decide +kernel
theorem dX8_part_4 : decode cX8_part 4 = .ok (.aload_n 0, 1) := by decide +kernel
theorem dX8_part_5 : decode cX8_part 5 = .ok (.getfield 386, 3) := by decide +kernel
theorem dX8_part_8 : decode cX8_part 8 = .ok (.goto 18, 3) := by decide +kernel
theorem dX8_part_11 : decode cX8_part 11 = .ok (.iload_n 1, 1) := by decide +kernel
theorem dX8_part_12 : decode cX8_part 12 = .ok (.iconst 1, 1) := by decide +kernel
theorem dX8_part_13 : decode cX8_part 13 = .ok (.if_icmp .ne 10, 3) := by decide +kernel
theorem dX8_part_16 : decode cX8_part 16 = .ok (.aload_n 0, 1) := by decide +kernel
theorem dX8_part_17 : decode cX8_part 17 = .ok (.getfield 23, 3) := by decide +kernel
theorem dX8_part_20 : decode cX8_part 20 = .ok (.goto 6, 3) := by decide +kernel
theorem dX8_part_23 : decode cX8_part 23 = .ok (.ldc2_w 437, 3) := by decide +kernel
theorem dX8_part_26 : decode cX8_part 26 = .ok (.lreturn, 1) := by decide +kernel
def f_X8_part (x1 : Int32) (M : m_M) : Int64 :=
  if x1 = 0 then
  (M.2 172 5)
  else
  if x1 = 1 then
  (M.2 172 6)
  else
  (-1)
set_option maxHeartbeats 4000000 in
set_option maxRecDepth 100000 in
theorem c_X8_part (l : Launch) (G : m_G) {x1 : Int32} {M : m_M} {r0 : Int64}  (hres : f_X8_part x1 M = r0) : Met l yX8_part (m_U yX8_part cX8_part 2 (some .long)) (m_R 0 0) (m_Pc G [.ref (m_ad G 172), .int x1] M) (m_Ql G r0 M) 0 0 (m_A G) := by
  refine m_i0 (n := 2) RX8 rfl (by decide) (Nat.le_of_ble_eq_true rfl) ?_
  intro p e s m args below meth c X hr hlk hSt hP hS ls hl
  have hl : lv_has ls 2 [(0, .ref (m_ad G 172)), (1, .int x1)] := hl
  unfold f_X8_part at hres
  refine lv_iload_n X.1 X.2.1 dX8_part_0 rfl (lv_at hl 1 rfl) ?_
  refine lv_if_ne (tgt := 11) X.1 X.2.1 dX8_part_1 (by decide) (fun hc1 => ?_) (fun hc1 => ?_)
  · have hres := m_if hres hc1
    refine lv_iload_n X.1 X.2.1 dX8_part_11 rfl (lv_at hl 1 rfl) ?_
    refine lv_iconst (v := 1) X.1 X.2.1 dX8_part_12 (by decide) ?_
    refine lv_icmp_ne (tgt := 23) X.1 X.2.1 dX8_part_13 (by decide) (fun hc2 => ?_) (fun hc2 => ?_)
    · have hres := m_if hres hc2
      refine lv_ldc2 (v := (-1)) X.1 X.2.1 X.2.2.2.1 (X.2.2.2.2 _ k_l_X8_437) dX8_part_23 ?_
      exact m_rl X hr hlk hP hS hres rfl dX8_part_26
    · have hres := m_it hres hc2
      refine lv_aload_n X.1 X.2.1 dX8_part_16 rfl (lv_at hl 0 rfl) ?_
      refine m_g8 (v := .long (M.2 172 6)) X hSt hP m_z_172 6 (by decide) rfl k_f_X8_23 dX8_part_17 ?_
      refine lv_goto (tgt := 26) X.1 X.2.1 dX8_part_20 (by decide) ?_
      exact m_rl X hr hlk hP hS hres rfl dX8_part_26
  · have hres := m_it hres hc1
    refine lv_aload_n X.1 X.2.1 dX8_part_4 rfl (lv_at hl 0 rfl) ?_
    refine m_g8 (v := .long (M.2 172 5)) X hSt hP m_z_172 5 (by decide) rfl k_f_X8_386 dX8_part_5 ?_
    refine lv_goto (tgt := 26) X.1 X.2.1 dX8_part_8 (by decide) ?_
    exact m_rl X hr hlk hP hS hres rfl dX8_part_26
theorem dX8_parted_0 : decode cX8_parted 0 = .ok (.iload_n 1, 1) := by decide +kernel
theorem dX8_parted_1 : decode cX8_parted 1 = .ok (.invokestatic 347, 3) := by decide +kernel
theorem dX8_parted_4 : decode cX8_parted 4 = .ok (.ifCond .ne 6, 3) := by decide +kernel
theorem dX8_parted_7 : decode cX8_parted 7 = .ok (.bipush (-10), 2) := by decide +kernel
theorem dX8_parted_9 : decode cX8_parted 9 = .ok (.ireturn, 1) := by decide +kernel
theorem dX8_parted_10 : decode cX8_parted 10 = .ok (.aload_n 0, 1) := by decide +kernel
theorem dX8_parted_11 : decode cX8_parted 11 = .ok (.iload_n 1, 1) := by decide +kernel
theorem dX8_parted_12 : decode cX8_parted 12 = .ok (.invokevirtual 350, 3) := by decide +kernel
theorem dX8_parted_15 : decode cX8_parted 15 = .ok (.iconst 0, 1) := by decide +kernel
theorem dX8_parted_16 : decode cX8_parted 16 = .ok (.istore_n 2, 1) := by decide +kernel
theorem dX8_parted_17 : decode cX8_parted 17 = .ok (.iload_n 2, 1) := by decide +kernel
theorem dX8_parted_18 : decode cX8_parted 18 = .ok (.aload_n 0, 1) := by decide +kernel
theorem dX8_parted_19 : decode cX8_parted 19 = .ok (.getfield 127, 3) := by decide +kernel
theorem dX8_parted_22 : decode cX8_parted 22 = .ok (.if_icmp .ge 39, 3) := by decide +kernel
theorem dX8_parted_25 : decode cX8_parted 25 = .ok (.aload_n 0, 1) := by decide +kernel
theorem dX8_parted_26 : decode cX8_parted 26 = .ok (.iload_n 2, 1) := by decide +kernel
theorem dX8_parted_27 : decode cX8_parted 27 = .ok (.iconst 2, 1) := by decide +kernel
theorem dX8_parted_28 : decode cX8_parted 28 = .ok (.iconst 0, 1) := by decide +kernel
theorem dX8_parted_29 : decode cX8_parted 29 = .ok (.invokevirtual 392, 3) := by decide +kernel
theorem dX8_parted_32 : decode cX8_parted 32 = .ok (.aload_n 0, 1) := by decide +kernel
theorem dX8_parted_33 : decode cX8_parted 33 = .ok (.getfield 367, 3) := by decide +kernel
theorem dX8_parted_36 : decode cX8_parted 36 = .ok (.lstore_n 3, 1) := by decide +kernel
theorem dX8_parted_37 : decode cX8_parted 37 = .ok (.aload_n 0, 1) := by decide +kernel
theorem dX8_parted_38 : decode cX8_parted 38 = .ok (.iload_n 2, 1) := by decide +kernel
theorem dX8_parted_39 : decode cX8_parted 39 = .ok (.iconst 2, 1) := by decide +kernel
theorem dX8_parted_40 : decode cX8_parted 40 = .ok (.iconst 1, 1) := by decide +kernel
theorem dX8_parted_41 : decode cX8_parted 41 = .ok (.invokevirtual 392, 3) := by decide +kernel
theorem dX8_parted_44 : decode cX8_parted 44 = .ok (.aload_n 0, 1) := by decide +kernel
theorem dX8_parted_45 : decode cX8_parted 45 = .ok (.getfield 367, 3) := by decide +kernel
theorem dX8_parted_48 : decode cX8_parted 48 = .ok (.lload_n 3, 1) := by decide +kernel
theorem dX8_parted_49 : decode cX8_parted 49 = .ok (.lcmp, 1) := by decide +kernel
theorem dX8_parted_50 : decode cX8_parted 50 = .ok (.ifCond .eq 5, 3) := by decide +kernel
theorem dX8_parted_53 : decode cX8_parted 53 = .ok (.iload_n 2, 1) := by decide +kernel
theorem dX8_parted_54 : decode cX8_parted 54 = .ok (.ireturn, 1) := by decide +kernel
theorem dX8_parted_55 : decode cX8_parted 55 = .ok (.iinc 2 1, 3) := by decide +kernel
theorem dX8_parted_58 : decode cX8_parted 58 = .ok (.goto (-41), 3) := by decide +kernel
theorem dX8_parted_61 : decode cX8_parted 61 = .ok (.iconst (-1), 1) := by decide +kernel
theorem dX8_parted_62 : decode cX8_parted 62 = .ok (.ireturn, 1) := by decide +kernel
def f_X8_parted_b17 (n : Nat) (x1 : Int32) : Nat → Int32 → m_M → Option (Int32 × m_M)
  | 0, _, _ => none
  | u + 1, x2, M =>
    if (M.1 172 23) ≤ x2 then
  some ((-1), M)
  else
  m_ob (f_X8_askOf n x2 2 0 M) fun M2 =>
  m_ob (f_X8_askOf n x2 2 1 M2) fun M3 =>
  if (M3.2 172 46) = (M2.2 172 46) then
  f_X8_parted_b17 n x1 u (x2 + 1) M3
  else
  some (x2, M3)
def f_X8_parted (n : Nat) (x1 : Int32) (M : m_M) : Option (Int32 × m_M) :=
  m_bd (f_X8_isDay x1) fun r5 =>
  if r5 = 0 then
  some ((-10), M)
  else
  m_ob (f_X8_layToday n x1 M) fun M8 =>
  f_X8_parted_b17 n x1 n 0 M8
set_option maxHeartbeats 4000000 in
set_option maxRecDepth 100000 in
theorem c_X8_parted (l : Launch) (G : m_G) {n : Nat} {x1 : Int32} {M : m_M} {r0 : Int32} {M0 : m_M}  (hres : f_X8_parted n x1 M = some (r0, M0)) : Met l yX8_parted (m_U yX8_parted cX8_parted 5 (some .int)) (m_R 8 182) (m_Pc G [.ref (m_ad G 172), .int x1] M) (m_Qi G r0 M0) 0 0 (m_A G) := by
  refine m_i0 (n := 5) RX8 rfl (by decide) (Nat.le_of_ble_eq_true rfl) ?_
  intro p e s m args below meth c X hr hlk hSt hP hS ls hl
  have hl : lv_has ls 5 [(0, .ref (m_ad G 172)), (1, .int x1)] := hl
  have B17 : ∀ (u : Nat) (x2 : Int32) (M : m_M) (H : Heap) (locs : List Loc) (ls : Array Slot), m_P G M H → va_S (m_A G) s.heap H locs → lv_has ls 5 [(0, .ref (m_ad G 172)), (2, .int x2)] → f_X8_parted_b17 n x1 u x2 M = some (r0, M0) → W p l e (m_R 8 182) s m args below meth c H locs 0 0 (MQ below (m_Qi G r0 M0) args s 0 0 (m_A G)) (F0 m 17 ls []) := by
    intro u
    induction u with
    | zero =>
      intro x2 M H locs ls hP hS hl hres
      cases hres
    | succ u ih =>
      intro x2 M H locs ls hP hS hl hres
      rw [f_X8_parted_b17] at hres
      refine lv_iload_n X.1 X.2.1 dX8_parted_17 rfl (lv_at hl 1 rfl) ?_
      refine lv_aload_n X.1 X.2.1 dX8_parted_18 rfl (lv_at hl 0 rfl) ?_
      refine m_g8 (v := .int (M.1 172 23)) X hSt hP m_z_172 23 (by decide) rfl k_f_X8_127 dX8_parted_19 ?_
      refine lv_icmp_ge (tgt := 61) X.1 X.2.1 dX8_parted_22 (by decide) (fun hc1 => ?_) (fun hc1 => ?_)
      · have hres := m_it hres hc1
        refine lv_iconst (v := (-1)) X.1 X.2.1 dX8_parted_61 (by decide) ?_
        exact m_ri X hr hlk hP hS (Prod.mk.inj (Option.some.inj hres)).1 (Prod.mk.inj (Option.some.inj hres)).2 dX8_parted_62
      · have hres := m_if hres hc1
        refine lv_aload_n X.1 X.2.1 dX8_parted_25 rfl (lv_at hl 0 rfl) ?_
        refine lv_iload_n X.1 X.2.1 dX8_parted_26 rfl (lv_at hl 1 rfl) ?_
        refine lv_iconst (v := 2) X.1 X.2.1 dX8_parted_27 (by decide) ?_
        refine lv_iconst (v := 0) X.1 X.2.1 dX8_parted_28 (by decide) ?_
        obtain ⟨M2, eM2, hres⟩ := m_ob_e hres
        refine m_bv (m_cV (n := 3) (As := [.int x2, .int 2, .int 0]) (rest := []) X hSt hP hS hl.1 (c_X8_askOf l G  eM2) k_c_yX8_askOf k_m_X8_392 k_i_yX8_askOf k_s_yX8_askOf k_n_X8 (by decide +kernel) (m_rc8 hSt hP m_z_172) rfl rfl ⟨Nat.le_of_ble_eq_true rfl, Nat.le_of_ble_eq_true rfl⟩ (Nat.le_of_ble_eq_true rfl) ⟨Nat.zero_le _, Nat.zero_le _⟩ dX8_parted_29) hS (fun H locs hP hS => ?_)
        refine lv_aload_n X.1 X.2.1 dX8_parted_32 rfl (lv_at hl 0 rfl) ?_
        refine m_g8 (v := .long (M2.2 172 46)) X hSt hP m_z_172 46 (by decide) rfl k_f_X8_367 dX8_parted_33 ?_
        refine lv_lstore_n (lv' := [(3, .long (M2.2 172 46)), (0, .ref (m_ad G 172)), (2, .int x2)]) X.1 X.2.1 dX8_parted_36 rfl hl (by decide) rfl (fun ls hl => ?_)
        refine lv_aload_n X.1 X.2.1 dX8_parted_37 rfl (lv_at hl 1 rfl) ?_
        refine lv_iload_n X.1 X.2.1 dX8_parted_38 rfl (lv_at hl 2 rfl) ?_
        refine lv_iconst (v := 2) X.1 X.2.1 dX8_parted_39 (by decide) ?_
        refine lv_iconst (v := 1) X.1 X.2.1 dX8_parted_40 (by decide) ?_
        obtain ⟨M3, eM3, hres⟩ := m_ob_e hres
        refine m_bv (m_cV (n := 3) (As := [.int x2, .int 2, .int 1]) (rest := []) X hSt hP hS hl.1 (c_X8_askOf l G  eM3) k_c_yX8_askOf k_m_X8_392 k_i_yX8_askOf k_s_yX8_askOf k_n_X8 (by decide +kernel) (m_rc8 hSt hP m_z_172) rfl rfl ⟨Nat.le_of_ble_eq_true rfl, Nat.le_of_ble_eq_true rfl⟩ (Nat.le_of_ble_eq_true rfl) ⟨Nat.zero_le _, Nat.zero_le _⟩ dX8_parted_41) hS (fun H locs hP hS => ?_)
        refine lv_aload_n X.1 X.2.1 dX8_parted_44 rfl (lv_at hl 1 rfl) ?_
        refine m_g8 (v := .long (M3.2 172 46)) X hSt hP m_z_172 46 (by decide) rfl k_f_X8_367 dX8_parted_45 ?_
        refine lv_lload_n X.1 X.2.1 dX8_parted_48 rfl (lv_at hl 0 rfl) ?_
        refine m_leq (tgt := 55) X dX8_parted_49 dX8_parted_50 (by decide) (fun hc4 => ?_) (fun hc4 => ?_)
        · have hres := m_it hres hc4
          refine lv_iinc (v := (x2 + 1)) (lv' := [(2, .int (x2 + 1)), (3, .long (M2.2 172 46)), (0, .ref (m_ad G 172))]) X.1 X.2.1 dX8_parted_55 hl (k := 2) rfl rfl (by decide) rfl (fun ls hl => ?_)
          refine lv_goto (tgt := 17) X.1 X.2.1 dX8_parted_58 (by decide) ?_
          exact ih (x2 + 1) M3 _ _ _ hP hS (lv_sub hl [2, 0] rfl) hres
        · have hres := m_if hres hc4
          refine lv_iload_n X.1 X.2.1 dX8_parted_53 rfl (lv_at hl 2 rfl) ?_
          exact m_ri X hr hlk hP hS (Prod.mk.inj (Option.some.inj hres)).1 (Prod.mk.inj (Option.some.inj hres)).2 dX8_parted_54
  unfold f_X8_parted at hres
  refine lv_iload_n X.1 X.2.1 dX8_parted_0 rfl (lv_at hl 1 rfl) ?_
  obtain ⟨r5, err5, hres⟩ := m_bd_e hres
  refine m_bz (m_cS (n := 1) (As := [.int x1]) (rest := []) X hSt hP hS hl.1 (c_X8_isDay l G (M := M)  err5) k_c_yX8_isDay k_m_X8_347 k_t_yX8_isDay k_n_X8 (by decide +kernel) rfl rfl ⟨Nat.le_of_ble_eq_true rfl, Nat.le_of_ble_eq_true rfl⟩ (Nat.le_of_ble_eq_true rfl) ⟨Nat.zero_le _, Nat.zero_le _⟩ dX8_parted_1) hS (fun H locs hP hS hz6 => ?_)
  refine lv_if_ne (tgt := 10) X.1 X.2.1 dX8_parted_4 (by decide) (fun hc7 => ?_) (fun hc7 => ?_)
  · have hres := m_if hres hc7
    refine lv_aload_n X.1 X.2.1 dX8_parted_10 rfl (lv_at hl 0 rfl) ?_
    refine lv_iload_n X.1 X.2.1 dX8_parted_11 rfl (lv_at hl 1 rfl) ?_
    obtain ⟨M8, eM8, hres⟩ := m_ob_e hres
    refine m_bv (m_cV (n := 1) (As := [.int x1]) (rest := []) X hSt hP hS hl.1 (c_X8_layToday l G  eM8) k_c_yX8_layToday k_m_X8_350 k_i_yX8_layToday k_s_yX8_layToday k_n_X8 (by decide +kernel) (m_rc8 hSt hP m_z_172) rfl rfl ⟨Nat.le_of_ble_eq_true rfl, Nat.le_of_ble_eq_true rfl⟩ (Nat.le_of_ble_eq_true rfl) ⟨Nat.zero_le _, Nat.zero_le _⟩ dX8_parted_12) hS (fun H locs hP hS => ?_)
    refine lv_iconst (v := 0) X.1 X.2.1 dX8_parted_15 (by decide) ?_
    refine lv_istore_n (lv' := [(2, .int 0), (0, .ref (m_ad G 172)), (1, .int x1)]) X.1 X.2.1 dX8_parted_16 rfl hl (by decide) rfl (fun ls hl => ?_)
    exact B17 n 0 M8 _ _ _ hP hS (lv_sub hl [1, 0] rfl) hres
  · have hres := m_it hres hc7
    refine lv_bipush (v := (-10)) X.1 X.2.1 dX8_parted_7 (by decide) ?_
    exact m_ri X hr hlk hP hS (Prod.mk.inj (Option.some.inj hres)).1 (Prod.mk.inj (Option.some.inj hres)).2 dX8_parted_9
theorem dX8_person_0 : decode cX8_person 0 = .ok (.aload_n 0, 1) := by decide +kernel
theorem dX8_person_1 : decode cX8_person 1 = .ok (.invokevirtual 107, 3) := by decide +kernel
theorem dX8_person_4 : decode cX8_person 4 = .ok (.bipush 10, 2) := by decide +kernel
theorem dX8_person_6 : decode cX8_person 6 = .ok (.if_icmp .ne 6, 3) := by decide +kernel
theorem dX8_person_9 : decode cX8_person 9 = .ok (.bipush (-4), 2) := by decide +kernel
theorem dX8_person_11 : decode cX8_person 11 = .ok (.ireturn, 1) := by decide +kernel
theorem dX8_person_12 : decode cX8_person 12 = .ok (.aload_n 0, 1) := by decide +kernel
theorem dX8_person_13 : decode cX8_person 13 = .ok (.getfield 7, 3) := by decide +kernel
theorem dX8_person_16 : decode cX8_person 16 = .ok (.sipush 468, 3) := by decide +kernel
theorem dX8_person_19 : decode cX8_person 19 = .ok (.dup2, 1) := by decide +kernel
theorem dX8_person_20 : decode cX8_person 20 = .ok (.iaload, 1) := by decide +kernel
theorem dX8_person_21 : decode cX8_person 21 = .ok (.iconst 1, 1) := by decide +kernel
theorem dX8_person_22 : decode cX8_person 22 = .ok (.iadd, 1) := by decide +kernel
theorem dX8_person_23 : decode cX8_person 23 = .ok (.iastore, 1) := by decide +kernel
theorem dX8_person_24 : decode cX8_person 24 = .ok (.aload_n 0, 1) := by decide +kernel
theorem dX8_person_25 : decode cX8_person 25 = .ok (.invokevirtual 107, 3) := by decide +kernel
theorem dX8_person_28 : decode cX8_person 28 = .ok (.iconst 1, 1) := by decide +kernel
theorem dX8_person_29 : decode cX8_person 29 = .ok (.isub, 1) := by decide +kernel
theorem dX8_person_30 : decode cX8_person 30 = .ok (.ireturn, 1) := by decide +kernel
def f_X8_person (M : m_M) : Int32 × m_M :=
  m_bd (f_X8_persons M) fun r1 =>
  if r1 = 10 then
  ((-4), M)
  else
  m_bd (m_sI M 173 468 ((M.1 173 468) + (1 : Int32))) fun M3 =>
  m_bd (f_X8_persons M3) fun r4 =>
  ((r4 - (1 : Int32)), M3)
set_option maxHeartbeats 4000000 in
set_option maxRecDepth 100000 in
theorem c_X8_person (l : Launch) (G : m_G) {M : m_M} {r0 : Int32} {M0 : m_M}  (hres : f_X8_person M = (r0, M0)) : Met l yX8_person (m_U yX8_person cX8_person 1 (some .int)) (m_R 1 20) (m_Pc G [.ref (m_ad G 172)] M) (m_Qi G r0 M0) 0 0 (m_A G) := by
  refine m_i0 (n := 1) RX8 rfl (by decide) (Nat.le_of_ble_eq_true rfl) ?_
  intro p e s m args below meth c X hr hlk hSt hP hS ls hl
  have hl : lv_has ls 1 [(0, .ref (m_ad G 172))] := hl
  unfold f_X8_person at hres
  refine lv_aload_n X.1 X.2.1 dX8_person_0 rfl (lv_at hl 0 rfl) ?_
  obtain ⟨r1, err1, hres⟩ := m_bd_e hres
  refine m_bi (m_cV (n := 0) (As := []) (rest := []) X hSt hP hS hl.1 (c_X8_persons l G  err1) k_c_yX8_persons k_m_X8_107 k_i_yX8_persons k_s_yX8_persons k_n_X8 (by decide +kernel) (m_rc8 hSt hP m_z_172) rfl rfl ⟨Nat.le_of_ble_eq_true rfl, Nat.le_of_ble_eq_true rfl⟩ (Nat.le_of_ble_eq_true rfl) ⟨Nat.zero_le _, Nat.zero_le _⟩ dX8_person_1) hS (fun H locs hP hS => ?_)
  refine lv_bipush (v := 10) X.1 X.2.1 dX8_person_4 (by decide) ?_
  refine lv_icmp_ne (tgt := 12) X.1 X.2.1 dX8_person_6 (by decide) (fun hc2 => ?_) (fun hc2 => ?_)
  · have hres := m_if hres hc2
    refine lv_aload_n X.1 X.2.1 dX8_person_12 rfl (lv_at hl 0 rfl) ?_
    refine m_g8 (v := .ref (m_ad G 173)) X hSt hP m_z_172 0 (by decide) rfl k_f_X8_7 dX8_person_13 ?_
    refine lv_sipush (v := 468) X.1 X.2.1 dX8_person_16 (by decide) ?_
    refine lv_dup2_11 X.1 X.2.1 dX8_person_19 rfl rfl ?_
    refine m_ia (j := 468) X hSt hP m_z_173 (by decide +kernel) (by decide +kernel) dX8_person_20 ?_
    refine lv_iconst (v := 1) X.1 X.2.1 dX8_person_21 (by decide) ?_
    refine lv_iadd X.1 X.2.1 dX8_person_22 ?_
    obtain ⟨M3, eM3, hres⟩ := m_bd_e hres
    refine m_is (j := 468) X hSt hP hS m_z_173 (by decide +kernel) (by decide +kernel) dX8_person_23 eM3 (fun H locs hP hS => ?_)
    refine lv_aload_n X.1 X.2.1 dX8_person_24 rfl (lv_at hl 0 rfl) ?_
    obtain ⟨r4, err4, hres⟩ := m_bd_e hres
    refine m_bi (m_cV (n := 0) (As := []) (rest := []) X hSt hP hS hl.1 (c_X8_persons l G  err4) k_c_yX8_persons k_m_X8_107 k_i_yX8_persons k_s_yX8_persons k_n_X8 (by decide +kernel) (m_rc8 hSt hP m_z_172) rfl rfl ⟨Nat.le_of_ble_eq_true rfl, Nat.le_of_ble_eq_true rfl⟩ (Nat.le_of_ble_eq_true rfl) ⟨Nat.zero_le _, Nat.zero_le _⟩ dX8_person_25) hS (fun H locs hP hS => ?_)
    refine lv_iconst (v := 1) X.1 X.2.1 dX8_person_28 (by decide) ?_
    refine lv_isub X.1 X.2.1 dX8_person_29 ?_
    exact m_ri X hr hlk hP hS (Prod.mk.inj hres).1 (Prod.mk.inj hres).2 dX8_person_30
  · have hres := m_it hres hc2
    refine lv_bipush (v := (-4)) X.1 X.2.1 dX8_person_9 (by decide) ?_
    exact m_ri X hr hlk hP hS (Prod.mk.inj hres).1 (Prod.mk.inj hres).2 dX8_person_11
theorem dX8_wordCode_0 : decode cX8_wordCode 0 = .ok (.iconst 0, 1) := by decide +kernel
theorem dX8_wordCode_1 : decode cX8_wordCode 1 = .ok (.istore_n 1, 1) := by decide +kernel
theorem dX8_wordCode_2 : decode cX8_wordCode 2 = .ok (.iconst 0, 1) := by decide +kernel
theorem dX8_wordCode_3 : decode cX8_wordCode 3 = .ok (.istore_n 2, 1) := by decide +kernel
theorem dX8_wordCode_4 : decode cX8_wordCode 4 = .ok (.iload_n 2, 1) := by decide +kernel
theorem dX8_wordCode_5 : decode cX8_wordCode 5 = .ok (.aload_n 0, 1) := by decide +kernel
theorem dX8_wordCode_6 : decode cX8_wordCode 6 = .ok (.getfield 212, 3) := by decide +kernel
theorem dX8_wordCode_9 : decode cX8_wordCode 9 = .ok (.if_icmp .ge 37, 3) := by decide +kernel
theorem dX8_wordCode_12 : decode cX8_wordCode 12 = .ok (.iload_n 2, 1) := by decide +kernel
theorem dX8_wordCode_13 : decode cX8_wordCode 13 = .ok (.bipush 6, 2) := by decide +kernel
theorem dX8_wordCode_15 : decode cX8_wordCode 15 = .ok (.if_icmp .ge 31, 3) := by decide +kernel
theorem dX8_wordCode_18 : decode cX8_wordCode 18 = .ok (.bipush 27, 2) := by decide +kernel
theorem dX8_wordCode_20 : decode cX8_wordCode 20 = .ok (.iload_n 1, 1) := by decide +kernel
theorem dX8_wordCode_21 : decode cX8_wordCode 21 = .ok (.imul, 1) := by decide +kernel
theorem dX8_wordCode_22 : decode cX8_wordCode 22 = .ok (.aload_n 0, 1) := by decide +kernel
theorem dX8_wordCode_23 : decode cX8_wordCode 23 = .ok (.getfield 20, 3) := by decide +kernel
theorem dX8_wordCode_26 : decode cX8_wordCode 26 = .ok (.aload_n 0, 1) := by decide +kernel
theorem dX8_wordCode_27 : decode cX8_wordCode 27 = .ok (.getfield 209, 3) := by decide +kernel
theorem dX8_wordCode_30 : decode cX8_wordCode 30 = .ok (.iload_n 2, 1) := by decide +kernel
theorem dX8_wordCode_31 : decode cX8_wordCode 31 = .ok (.iadd, 1) := by decide +kernel
theorem dX8_wordCode_32 : decode cX8_wordCode 32 = .ok (.iaload, 1) := by decide +kernel
theorem dX8_wordCode_33 : decode cX8_wordCode 33 = .ok (.iadd, 1) := by decide +kernel
theorem dX8_wordCode_34 : decode cX8_wordCode 34 = .ok (.bipush 97, 2) := by decide +kernel
theorem dX8_wordCode_36 : decode cX8_wordCode 36 = .ok (.isub, 1) := by decide +kernel
theorem dX8_wordCode_37 : decode cX8_wordCode 37 = .ok (.iconst 1, 1) := by decide +kernel
theorem dX8_wordCode_38 : decode cX8_wordCode 38 = .ok (.iadd, 1) := by decide +kernel
theorem dX8_wordCode_39 : decode cX8_wordCode 39 = .ok (.istore_n 1, 1) := by decide +kernel
theorem dX8_wordCode_40 : decode cX8_wordCode 40 = .ok (.iinc 2 1, 3) := by decide +kernel
theorem dX8_wordCode_43 : decode cX8_wordCode 43 = .ok (.goto (-39), 3) := by decide +kernel
theorem dX8_wordCode_46 : decode cX8_wordCode 46 = .ok (.aload_n 0, 1) := by decide +kernel
theorem dX8_wordCode_47 : decode cX8_wordCode 47 = .ok (.getfield 218, 3) := by decide +kernel
theorem dX8_wordCode_50 : decode cX8_wordCode 50 = .ok (.iconst 1, 1) := by decide +kernel
theorem dX8_wordCode_51 : decode cX8_wordCode 51 = .ok (.if_icmp .ne 16, 3) := by decide +kernel
theorem dX8_wordCode_54 : decode cX8_wordCode 54 = .ok (.aload_n 0, 1) := by decide +kernel
theorem dX8_wordCode_55 : decode cX8_wordCode 55 = .ok (.getfield 212, 3) := by decide +kernel
theorem dX8_wordCode_58 : decode cX8_wordCode 58 = .ok (.bipush 6, 2) := by decide +kernel
theorem dX8_wordCode_60 : decode cX8_wordCode 60 = .ok (.if_icmp .gt 7, 3) := by decide +kernel
theorem dX8_wordCode_63 : decode cX8_wordCode 63 = .ok (.iload_n 1, 1) := by decide +kernel
theorem dX8_wordCode_64 : decode cX8_wordCode 64 = .ok (.goto 4, 3) := by decide +kernel
theorem dX8_wordCode_67 : decode cX8_wordCode 67 = .ok (.iconst 0, 1) := by decide +kernel
theorem dX8_wordCode_68 : decode cX8_wordCode 68 = .ok (.ireturn, 1) := by decide +kernel
def f_X8_wordCode_b46 (n : Nat) (M : m_M) (x1 : Int32) : Option Int32 :=
  if (M.1 172 29) = 1 then
  if (6 : Int32) < (M.1 172 28) then
  some 0
  else
  some x1
  else
  some 0
def f_X8_wordCode_b4 (n : Nat) (M : m_M) : Nat → Int32 → Int32 → Option Int32
  | 0, _, _ => none
  | u + 1, x1, x2 =>
    if (M.1 172 28) ≤ x2 then
  f_X8_wordCode_b46 n M x1
  else
  if (6 : Int32) ≤ x2 then
  f_X8_wordCode_b46 n M x1
  else
  m_gd (m_in ((M.1 172 27) + x2) 300) (
  m_bd (((((27 : Int32) * x1) + (M.1 176 (((M.1 172 27) + x2).toNatClampNeg))) - (97 : Int32)) + (1 : Int32)) fun t6 =>
  f_X8_wordCode_b4 n M u t6 (x2 + 1))
def f_X8_wordCode (n : Nat) (M : m_M) : Option Int32 :=
  f_X8_wordCode_b4 n M n 0 0
set_option maxHeartbeats 4000000 in
set_option maxRecDepth 100000 in
theorem c_X8_wordCode (l : Launch) (G : m_G) {n : Nat} {M : m_M} {r0 : Int32}  (hres : f_X8_wordCode n M = some r0) : Met l yX8_wordCode (m_U yX8_wordCode cX8_wordCode 3 (some .int)) (m_R 0 0) (m_Pc G [.ref (m_ad G 172)] M) (m_Qi G r0 M) 0 0 (m_A G) := by
  refine m_i0 (n := 3) RX8 rfl (by decide) (Nat.le_of_ble_eq_true rfl) ?_
  intro p e s m args below meth c X hr hlk hSt hP hS ls hl
  have hl : lv_has ls 3 [(0, .ref (m_ad G 172))] := hl
  have B46 : ∀  (x1 : Int32) (H : Heap) (locs : List Loc) (ls : Array Slot), m_P G M H → va_S (m_A G) s.heap H locs → lv_has ls 3 [(0, .ref (m_ad G 172)), (1, .int x1)] → f_X8_wordCode_b46 n M x1 = some r0 → W p l e (m_R 0 0) s m args below meth c H locs 0 0 (MQ below (m_Qi G r0 M) args s 0 0 (m_A G)) (F0 m 46 ls []) := by
    intro x1 H locs ls hP hS hl hres
    unfold f_X8_wordCode_b46 at hres
    refine lv_aload_n X.1 X.2.1 dX8_wordCode_46 rfl (lv_at hl 0 rfl) ?_
    refine m_g8 (v := .int (M.1 172 29)) X hSt hP m_z_172 29 (by decide) rfl k_f_X8_218 dX8_wordCode_47 ?_
    refine lv_iconst (v := 1) X.1 X.2.1 dX8_wordCode_50 (by decide) ?_
    refine lv_icmp_ne (tgt := 67) X.1 X.2.1 dX8_wordCode_51 (by decide) (fun hc1 => ?_) (fun hc1 => ?_)
    · have hres := m_if hres hc1
      refine lv_iconst (v := 0) X.1 X.2.1 dX8_wordCode_67 (by decide) ?_
      exact m_ri X hr hlk hP hS (Option.some.inj hres) rfl dX8_wordCode_68
    · have hres := m_it hres hc1
      refine lv_aload_n X.1 X.2.1 dX8_wordCode_54 rfl (lv_at hl 0 rfl) ?_
      refine m_g8 (v := .int (M.1 172 28)) X hSt hP m_z_172 28 (by decide) rfl k_f_X8_212 dX8_wordCode_55 ?_
      refine lv_bipush (v := 6) X.1 X.2.1 dX8_wordCode_58 (by decide) ?_
      refine lv_icmp_gt (tgt := 67) X.1 X.2.1 dX8_wordCode_60 (by decide) (fun hc2 => ?_) (fun hc2 => ?_)
      · have hres := m_it hres hc2
        refine lv_iconst (v := 0) X.1 X.2.1 dX8_wordCode_67 (by decide) ?_
        exact m_ri X hr hlk hP hS (Option.some.inj hres) rfl dX8_wordCode_68
      · have hres := m_if hres hc2
        refine lv_iload_n X.1 X.2.1 dX8_wordCode_63 rfl (lv_at hl 1 rfl) ?_
        refine lv_goto (tgt := 68) X.1 X.2.1 dX8_wordCode_64 (by decide) ?_
        exact m_ri X hr hlk hP hS (Option.some.inj hres) rfl dX8_wordCode_68
  have B4 : ∀ (u : Nat) (x1 : Int32) (x2 : Int32) (H : Heap) (locs : List Loc) (ls : Array Slot), m_P G M H → va_S (m_A G) s.heap H locs → lv_has ls 3 [(0, .ref (m_ad G 172)), (1, .int x1), (2, .int x2)] → f_X8_wordCode_b4 n M u x1 x2 = some r0 → W p l e (m_R 0 0) s m args below meth c H locs 0 0 (MQ below (m_Qi G r0 M) args s 0 0 (m_A G)) (F0 m 4 ls []) := by
    intro u
    induction u with
    | zero =>
      intro x1 x2 H locs ls hP hS hl hres
      cases hres
    | succ u ih =>
      intro x1 x2 H locs ls hP hS hl hres
      rw [f_X8_wordCode_b4] at hres
      refine lv_iload_n X.1 X.2.1 dX8_wordCode_4 rfl (lv_at hl 2 rfl) ?_
      refine lv_aload_n X.1 X.2.1 dX8_wordCode_5 rfl (lv_at hl 0 rfl) ?_
      refine m_g8 (v := .int (M.1 172 28)) X hSt hP m_z_172 28 (by decide) rfl k_f_X8_212 dX8_wordCode_6 ?_
      refine lv_icmp_ge (tgt := 46) X.1 X.2.1 dX8_wordCode_9 (by decide) (fun hc3 => ?_) (fun hc3 => ?_)
      · have hres := m_it hres hc3
        exact B46 x1 _ _ _ hP hS (lv_sub hl [0, 1] rfl) hres
      · have hres := m_if hres hc3
        refine lv_iload_n X.1 X.2.1 dX8_wordCode_12 rfl (lv_at hl 2 rfl) ?_
        refine lv_bipush (v := 6) X.1 X.2.1 dX8_wordCode_13 (by decide) ?_
        refine lv_icmp_ge (tgt := 46) X.1 X.2.1 dX8_wordCode_15 (by decide) (fun hc4 => ?_) (fun hc4 => ?_)
        · have hres := m_it hres hc4
          exact B46 x1 _ _ _ hP hS (lv_sub hl [0, 1] rfl) hres
        · have hres := m_if hres hc4
          refine lv_bipush (v := 27) X.1 X.2.1 dX8_wordCode_18 (by decide) ?_
          refine lv_iload_n X.1 X.2.1 dX8_wordCode_20 rfl (lv_at hl 1 rfl) ?_
          refine lv_imul X.1 X.2.1 dX8_wordCode_21 ?_
          refine lv_aload_n X.1 X.2.1 dX8_wordCode_22 rfl (lv_at hl 0 rfl) ?_
          refine m_g8 (v := .ref (m_ad G 176)) X hSt hP m_z_172 3 (by decide) rfl k_f_X8_20 dX8_wordCode_23 ?_
          refine lv_aload_n X.1 X.2.1 dX8_wordCode_26 rfl (lv_at hl 0 rfl) ?_
          refine m_g8 (v := .int (M.1 172 27)) X hSt hP m_z_172 27 (by decide) rfl k_f_X8_209 dX8_wordCode_27 ?_
          refine lv_iload_n X.1 X.2.1 dX8_wordCode_30 rfl (lv_at hl 2 rfl) ?_
          refine lv_iadd X.1 X.2.1 dX8_wordCode_31 ?_
          obtain ⟨hg5, hres⟩ := m_gd_e hres
          refine m_ia (j := (((M.1 172 27) + x2).toNatClampNeg)) X hSt hP m_z_176 hg5 rfl dX8_wordCode_32 ?_
          refine lv_iadd X.1 X.2.1 dX8_wordCode_33 ?_
          refine lv_bipush (v := 97) X.1 X.2.1 dX8_wordCode_34 (by decide) ?_
          refine lv_isub X.1 X.2.1 dX8_wordCode_36 ?_
          refine lv_iconst (v := 1) X.1 X.2.1 dX8_wordCode_37 (by decide) ?_
          refine lv_iadd X.1 X.2.1 dX8_wordCode_38 ?_
          obtain ⟨t6, et6, hres⟩ := m_bd_e hres
          refine m_ti et6 ?_
          refine lv_istore_n (lv' := [(1, .int t6), (0, .ref (m_ad G 172)), (2, .int x2)]) X.1 X.2.1 dX8_wordCode_39 rfl hl (by decide) rfl (fun ls hl => ?_)
          refine lv_iinc (v := (x2 + 1)) (lv' := [(2, .int (x2 + 1)), (1, .int t6), (0, .ref (m_ad G 172))]) X.1 X.2.1 dX8_wordCode_40 hl (k := 2) rfl rfl (by decide) rfl (fun ls hl => ?_)
          refine lv_goto (tgt := 4) X.1 X.2.1 dX8_wordCode_43 (by decide) ?_
          exact ih t6 (x2 + 1) _ _ _ hP hS (lv_sub hl [2, 1, 0] rfl) hres
  unfold f_X8_wordCode at hres
  refine lv_iconst (v := 0) X.1 X.2.1 dX8_wordCode_0 (by decide) ?_
  refine lv_istore_n (lv' := [(1, .int 0), (0, .ref (m_ad G 172))]) X.1 X.2.1 dX8_wordCode_1 rfl hl (by decide) rfl (fun ls hl => ?_)
  refine lv_iconst (v := 0) X.1 X.2.1 dX8_wordCode_2 (by decide) ?_
  refine lv_istore_n (lv' := [(2, .int 0), (1, .int 0), (0, .ref (m_ad G 172))]) X.1 X.2.1 dX8_wordCode_3 rfl hl (by decide) rfl (fun ls hl => ?_)
  exact B4 n 0 0 _ _ _ hP hS (lv_sub hl [2, 1, 0] rfl) hres
theorem dX8_verbCode_0 : decode cX8_verbCode 0 = .ok (.iload_n 0, 1) := by decide +kernel
theorem dX8_verbCode_1 : decode cX8_verbCode 1 = .ok (.tableswitch 269 0 13 #[71, 85, 99, 113, 127, 141, 156, 170, 186, 200, 213, 227, 240, 256], 71) := by decide +kernel
theorem dX8_verbCode_72 : decode cX8_verbCode 72 = .ok (.bipush 104, 2) := by decide +kernel
theorem dX8_verbCode_74 : decode cX8_verbCode 74 = .ok (.bipush 97, 2) := by decide +kernel
theorem dX8_verbCode_76 : decode cX8_verbCode 76 = .ok (.bipush 110, 2) := by decide +kernel
theorem dX8_verbCode_78 : decode cX8_verbCode 78 = .ok (.bipush 100, 2) := by decide +kernel
theorem dX8_verbCode_80 : decode cX8_verbCode 80 = .ok (.iconst 0, 1) := by decide +kernel
theorem dX8_verbCode_81 : decode cX8_verbCode 81 = .ok (.iconst 0, 1) := by decide +kernel
theorem dX8_verbCode_82 : decode cX8_verbCode 82 = .ok (.invokestatic 236, 3) := by decide +kernel
theorem dX8_verbCode_85 : decode cX8_verbCode 85 = .ok (.ireturn, 1) := by decide +kernel
theorem dX8_verbCode_86 : decode cX8_verbCode 86 = .ok (.bipush 103, 2) := by decide +kernel
theorem dX8_verbCode_88 : decode cX8_verbCode 88 = .ok (.bipush 105, 2) := by decide +kernel
theorem dX8_verbCode_90 : decode cX8_verbCode 90 = .ok (.bipush 118, 2) := by decide +kernel
theorem dX8_verbCode_92 : decode cX8_verbCode 92 = .ok (.bipush 101, 2) := by decide +kernel
theorem dX8_verbCode_94 : decode cX8_verbCode 94 = .ok (.iconst 0, 1) := by decide +kernel
theorem dX8_verbCode_95 : decode cX8_verbCode 95 = .ok (.iconst 0, 1) := by decide +kernel
theorem dX8_verbCode_96 : decode cX8_verbCode 96 = .ok (.invokestatic 236, 3) := by decide +kernel
theorem dX8_verbCode_99 : decode cX8_verbCode 99 = .ok (.ireturn, 1) := by decide +kernel
theorem dX8_verbCode_100 : decode cX8_verbCode 100 = .ok (.bipush 116, 2) := by decide +kernel
theorem dX8_verbCode_102 : decode cX8_verbCode 102 = .ok (.bipush 97, 2) := by decide +kernel
theorem dX8_verbCode_104 : decode cX8_verbCode 104 = .ok (.bipush 107, 2) := by decide +kernel
theorem dX8_verbCode_106 : decode cX8_verbCode 106 = .ok (.bipush 101, 2) := by decide +kernel
theorem dX8_verbCode_108 : decode cX8_verbCode 108 = .ok (.iconst 0, 1) := by decide +kernel
theorem dX8_verbCode_109 : decode cX8_verbCode 109 = .ok (.iconst 0, 1) := by decide +kernel
theorem dX8_verbCode_110 : decode cX8_verbCode 110 = .ok (.invokestatic 236, 3) := by decide +kernel
theorem dX8_verbCode_113 : decode cX8_verbCode 113 = .ok (.ireturn, 1) := by decide +kernel
theorem dX8_verbCode_114 : decode cX8_verbCode 114 = .ok (.bipush 104, 2) := by decide +kernel
theorem dX8_verbCode_116 : decode cX8_verbCode 116 = .ok (.bipush 105, 2) := by decide +kernel
theorem dX8_verbCode_118 : decode cX8_verbCode 118 = .ok (.bipush 100, 2) := by decide +kernel
theorem dX8_verbCode_120 : decode cX8_verbCode 120 = .ok (.bipush 101, 2) := by decide +kernel
theorem dX8_verbCode_122 : decode cX8_verbCode 122 = .ok (.iconst 0, 1) := by decide +kernel
theorem dX8_verbCode_123 : decode cX8_verbCode 123 = .ok (.iconst 0, 1) := by decide +kernel
theorem dX8_verbCode_124 : decode cX8_verbCode 124 = .ok (.invokestatic 236, 3) := by decide +kernel
theorem dX8_verbCode_127 : decode cX8_verbCode 127 = .ok (.ireturn, 1) := by decide +kernel
theorem dX8_verbCode_128 : decode cX8_verbCode 128 = .ok (.bipush 100, 2) := by decide +kernel
theorem dX8_verbCode_130 : decode cX8_verbCode 130 = .ok (.bipush 101, 2) := by decide +kernel
theorem dX8_verbCode_132 : decode cX8_verbCode 132 = .ok (.bipush 97, 2) := by decide +kernel
theorem dX8_verbCode_134 : decode cX8_verbCode 134 = .ok (.bipush 108, 2) := by decide +kernel
theorem dX8_verbCode_136 : decode cX8_verbCode 136 = .ok (.iconst 0, 1) := by decide +kernel
theorem dX8_verbCode_137 : decode cX8_verbCode 137 = .ok (.iconst 0, 1) := by decide +kernel
theorem dX8_verbCode_138 : decode cX8_verbCode 138 = .ok (.invokestatic 236, 3) := by decide +kernel
theorem dX8_verbCode_141 : decode cX8_verbCode 141 = .ok (.ireturn, 1) := by decide +kernel
theorem dX8_verbCode_142 : decode cX8_verbCode 142 = .ok (.bipush 111, 2) := by decide +kernel
theorem dX8_verbCode_144 : decode cX8_verbCode 144 = .ok (.bipush 114, 2) := by decide +kernel
theorem dX8_verbCode_146 : decode cX8_verbCode 146 = .ok (.bipush 100, 2) := by decide +kernel
theorem dX8_verbCode_148 : decode cX8_verbCode 148 = .ok (.bipush 101, 2) := by decide +kernel
theorem dX8_verbCode_150 : decode cX8_verbCode 150 = .ok (.bipush 114, 2) := by decide +kernel
theorem dX8_verbCode_152 : decode cX8_verbCode 152 = .ok (.iconst 0, 1) := by decide +kernel
theorem dX8_verbCode_153 : decode cX8_verbCode 153 = .ok (.invokestatic 236, 3) := by decide +kernel
theorem dX8_verbCode_156 : decode cX8_verbCode 156 = .ok (.ireturn, 1) := by decide +kernel
theorem dX8_verbCode_157 : decode cX8_verbCode 157 = .ok (.bipush 112, 2) := by decide +kernel
theorem dX8_verbCode_159 : decode cX8_verbCode 159 = .ok (.bipush 111, 2) := by decide +kernel
theorem dX8_verbCode_161 : decode cX8_verbCode 161 = .ok (.bipush 115, 2) := by decide +kernel
theorem dX8_verbCode_163 : decode cX8_verbCode 163 = .ok (.bipush 116, 2) := by decide +kernel
theorem dX8_verbCode_165 : decode cX8_verbCode 165 = .ok (.iconst 0, 1) := by decide +kernel
theorem dX8_verbCode_166 : decode cX8_verbCode 166 = .ok (.iconst 0, 1) := by decide +kernel
theorem dX8_verbCode_167 : decode cX8_verbCode 167 = .ok (.invokestatic 236, 3) := by decide +kernel
theorem dX8_verbCode_170 : decode cX8_verbCode 170 = .ok (.ireturn, 1) := by decide +kernel
theorem dX8_verbCode_171 : decode cX8_verbCode 171 = .ok (.bipush 117, 2) := by decide +kernel
theorem dX8_verbCode_173 : decode cX8_verbCode 173 = .ok (.bipush 110, 2) := by decide +kernel
theorem dX8_verbCode_175 : decode cX8_verbCode 175 = .ok (.bipush 112, 2) := by decide +kernel
theorem dX8_verbCode_177 : decode cX8_verbCode 177 = .ok (.bipush 111, 2) := by decide +kernel
theorem dX8_verbCode_179 : decode cX8_verbCode 179 = .ok (.bipush 115, 2) := by decide +kernel
theorem dX8_verbCode_181 : decode cX8_verbCode 181 = .ok (.bipush 116, 2) := by decide +kernel
theorem dX8_verbCode_183 : decode cX8_verbCode 183 = .ok (.invokestatic 236, 3) := by decide +kernel
theorem dX8_verbCode_186 : decode cX8_verbCode 186 = .ok (.ireturn, 1) := by decide +kernel
theorem dX8_verbCode_187 : decode cX8_verbCode 187 = .ok (.bipush 107, 2) := by decide +kernel
theorem dX8_verbCode_189 : decode cX8_verbCode 189 = .ok (.bipush 110, 2) := by decide +kernel
theorem dX8_verbCode_191 : decode cX8_verbCode 191 = .ok (.bipush 111, 2) := by decide +kernel
theorem dX8_verbCode_193 : decode cX8_verbCode 193 = .ok (.bipush 119, 2) := by decide +kernel
theorem dX8_verbCode_195 : decode cX8_verbCode 195 = .ok (.iconst 0, 1) := by decide +kernel
theorem dX8_verbCode_196 : decode cX8_verbCode 196 = .ok (.iconst 0, 1) := by decide +kernel
theorem dX8_verbCode_197 : decode cX8_verbCode 197 = .ok (.invokestatic 236, 3) := by decide +kernel
theorem dX8_verbCode_200 : decode cX8_verbCode 200 = .ok (.ireturn, 1) := by decide +kernel
theorem dX8_verbCode_201 : decode cX8_verbCode 201 = .ok (.bipush 117, 2) := by decide +kernel
theorem dX8_verbCode_203 : decode cX8_verbCode 203 = .ok (.bipush 115, 2) := by decide +kernel
theorem dX8_verbCode_205 : decode cX8_verbCode 205 = .ok (.bipush 101, 2) := by decide +kernel
theorem dX8_verbCode_207 : decode cX8_verbCode 207 = .ok (.iconst 0, 1) := by decide +kernel
theorem dX8_verbCode_208 : decode cX8_verbCode 208 = .ok (.iconst 0, 1) := by decide +kernel
theorem dX8_verbCode_209 : decode cX8_verbCode 209 = .ok (.iconst 0, 1) := by decide +kernel
theorem dX8_verbCode_210 : decode cX8_verbCode 210 = .ok (.invokestatic 236, 3) := by decide +kernel
theorem dX8_verbCode_213 : decode cX8_verbCode 213 = .ok (.ireturn, 1) := by decide +kernel
theorem dX8_verbCode_214 : decode cX8_verbCode 214 = .ok (.bipush 108, 2) := by decide +kernel
theorem dX8_verbCode_216 : decode cX8_verbCode 216 = .ok (.bipush 111, 2) := by decide +kernel
theorem dX8_verbCode_218 : decode cX8_verbCode 218 = .ok (.bipush 115, 2) := by decide +kernel
theorem dX8_verbCode_220 : decode cX8_verbCode 220 = .ok (.bipush 101, 2) := by decide +kernel
theorem dX8_verbCode_222 : decode cX8_verbCode 222 = .ok (.iconst 0, 1) := by decide +kernel
theorem dX8_verbCode_223 : decode cX8_verbCode 223 = .ok (.iconst 0, 1) := by decide +kernel
theorem dX8_verbCode_224 : decode cX8_verbCode 224 = .ok (.invokestatic 236, 3) := by decide +kernel
theorem dX8_verbCode_227 : decode cX8_verbCode 227 = .ok (.ireturn, 1) := by decide +kernel
theorem dX8_verbCode_228 : decode cX8_verbCode 228 = .ok (.bipush 111, 2) := by decide +kernel
theorem dX8_verbCode_230 : decode cX8_verbCode 230 = .ok (.bipush 119, 2) := by decide +kernel
theorem dX8_verbCode_232 : decode cX8_verbCode 232 = .ok (.bipush 101, 2) := by decide +kernel
theorem dX8_verbCode_234 : decode cX8_verbCode 234 = .ok (.iconst 0, 1) := by decide +kernel
theorem dX8_verbCode_235 : decode cX8_verbCode 235 = .ok (.iconst 0, 1) := by decide +kernel
theorem dX8_verbCode_236 : decode cX8_verbCode 236 = .ok (.iconst 0, 1) := by decide +kernel
theorem dX8_verbCode_237 : decode cX8_verbCode 237 = .ok (.invokestatic 236, 3) := by decide +kernel
theorem dX8_verbCode_240 : decode cX8_verbCode 240 = .ok (.ireturn, 1) := by decide +kernel
theorem dX8_verbCode_241 : decode cX8_verbCode 241 = .ok (.bipush 115, 2) := by decide +kernel
theorem dX8_verbCode_243 : decode cX8_verbCode 243 = .ok (.bipush 101, 2) := by decide +kernel
theorem dX8_verbCode_245 : decode cX8_verbCode 245 = .ok (.bipush 116, 2) := by decide +kernel
theorem dX8_verbCode_247 : decode cX8_verbCode 247 = .ok (.bipush 116, 2) := by decide +kernel
theorem dX8_verbCode_249 : decode cX8_verbCode 249 = .ok (.bipush 108, 2) := by decide +kernel
theorem dX8_verbCode_251 : decode cX8_verbCode 251 = .ok (.bipush 101, 2) := by decide +kernel
theorem dX8_verbCode_253 : decode cX8_verbCode 253 = .ok (.invokestatic 236, 3) := by decide +kernel
theorem dX8_verbCode_256 : decode cX8_verbCode 256 = .ok (.ireturn, 1) := by decide +kernel
theorem dX8_verbCode_257 : decode cX8_verbCode 257 = .ok (.bipush 112, 2) := by decide +kernel
theorem dX8_verbCode_259 : decode cX8_verbCode 259 = .ok (.bipush 97, 2) := by decide +kernel
theorem dX8_verbCode_261 : decode cX8_verbCode 261 = .ok (.bipush 121, 2) := by decide +kernel
theorem dX8_verbCode_263 : decode cX8_verbCode 263 = .ok (.iconst 0, 1) := by decide +kernel
theorem dX8_verbCode_264 : decode cX8_verbCode 264 = .ok (.iconst 0, 1) := by decide +kernel
theorem dX8_verbCode_265 : decode cX8_verbCode 265 = .ok (.iconst 0, 1) := by decide +kernel
theorem dX8_verbCode_266 : decode cX8_verbCode 266 = .ok (.invokestatic 236, 3) := by decide +kernel
theorem dX8_verbCode_269 : decode cX8_verbCode 269 = .ok (.ireturn, 1) := by decide +kernel
theorem dX8_verbCode_270 : decode cX8_verbCode 270 = .ok (.bipush 101, 2) := by decide +kernel
theorem dX8_verbCode_272 : decode cX8_verbCode 272 = .ok (.bipush 110, 2) := by decide +kernel
theorem dX8_verbCode_274 : decode cX8_verbCode 274 = .ok (.bipush 100, 2) := by decide +kernel
theorem dX8_verbCode_276 : decode cX8_verbCode 276 = .ok (.iconst 0, 1) := by decide +kernel
theorem dX8_verbCode_277 : decode cX8_verbCode 277 = .ok (.iconst 0, 1) := by decide +kernel
theorem dX8_verbCode_278 : decode cX8_verbCode 278 = .ok (.iconst 0, 1) := by decide +kernel
theorem dX8_verbCode_279 : decode cX8_verbCode 279 = .ok (.invokestatic 236, 3) := by decide +kernel
theorem dX8_verbCode_282 : decode cX8_verbCode 282 = .ok (.ireturn, 1) := by decide +kernel
def f_X8_verbCode (n : Nat) (x0 : Int32) : Option Int32 :=
  if x0 = 0 then
  m_ob (f_X8_code n 104 97 110 100 0 0) fun r2 =>
  some r2
  else
  if x0 = 1 then
  m_ob (f_X8_code n 103 105 118 101 0 0) fun r4 =>
  some r4
  else
  if x0 = 2 then
  m_ob (f_X8_code n 116 97 107 101 0 0) fun r6 =>
  some r6
  else
  if x0 = 3 then
  m_ob (f_X8_code n 104 105 100 101 0 0) fun r8 =>
  some r8
  else
  if x0 = 4 then
  m_ob (f_X8_code n 100 101 97 108 0 0) fun r10 =>
  some r10
  else
  if x0 = 5 then
  m_ob (f_X8_code n 111 114 100 101 114 0) fun r12 =>
  some r12
  else
  if x0 = 6 then
  m_ob (f_X8_code n 112 111 115 116 0 0) fun r14 =>
  some r14
  else
  if x0 = 7 then
  m_ob (f_X8_code n 117 110 112 111 115 116) fun r16 =>
  some r16
  else
  if x0 = 8 then
  m_ob (f_X8_code n 107 110 111 119 0 0) fun r18 =>
  some r18
  else
  if x0 = 9 then
  m_ob (f_X8_code n 117 115 101 0 0 0) fun r20 =>
  some r20
  else
  if x0 = 10 then
  m_ob (f_X8_code n 108 111 115 101 0 0) fun r22 =>
  some r22
  else
  if x0 = 11 then
  m_ob (f_X8_code n 111 119 101 0 0 0) fun r24 =>
  some r24
  else
  if x0 = 12 then
  m_ob (f_X8_code n 115 101 116 116 108 101) fun r26 =>
  some r26
  else
  if x0 = 13 then
  m_ob (f_X8_code n 112 97 121 0 0 0) fun r28 =>
  some r28
  else
  m_ob (f_X8_code n 101 110 100 0 0 0) fun r29 =>
  some r29
set_option maxHeartbeats 4000000 in
set_option maxRecDepth 100000 in
theorem c_X8_verbCode (l : Launch) (G : m_G) {n : Nat} {x0 : Int32} {M : m_M} {r0 : Int32}  (hres : f_X8_verbCode n x0 = some r0) : Met l yX8_verbCode (m_U yX8_verbCode cX8_verbCode 1 (some .int)) (m_R 1 28) (m_Pc G [.int x0] M) (m_Qi G r0 M) 0 0 (m_A G) := by
  refine m_i0 (n := 1) RX8 rfl (by decide) (Nat.le_of_ble_eq_true rfl) ?_
  intro p e s m args below meth c X hr hlk hSt hP hS ls hl
  have hl : lv_has ls 1 [(0, .int x0)] := hl
  unfold f_X8_verbCode at hres
  refine lv_iload_n X.1 X.2.1 dX8_verbCode_0 rfl (lv_at hl 0 rfl) ?_
  by_cases hc1 : x0 = 0
  · have hres := m_it hres hc1
    refine m_tin (tgt := 72) X dX8_verbCode_1 ⟨_, hc1, by decide, by decide, rfl⟩ (by decide) ?_
    refine lv_bipush (v := 104) X.1 X.2.1 dX8_verbCode_72 (by decide) ?_
    refine lv_bipush (v := 97) X.1 X.2.1 dX8_verbCode_74 (by decide) ?_
    refine lv_bipush (v := 110) X.1 X.2.1 dX8_verbCode_76 (by decide) ?_
    refine lv_bipush (v := 100) X.1 X.2.1 dX8_verbCode_78 (by decide) ?_
    refine lv_iconst (v := 0) X.1 X.2.1 dX8_verbCode_80 (by decide) ?_
    refine lv_iconst (v := 0) X.1 X.2.1 dX8_verbCode_81 (by decide) ?_
    obtain ⟨r2, err2, hres⟩ := m_ob_e hres
    refine m_bi (m_cS (n := 6) (As := [.int 104, .int 97, .int 110, .int 100, .int 0, .int 0]) (rest := []) X hSt hP hS hl.1 (c_X8_code l G (M := M)  err2) k_c_yX8_code k_m_X8_236 k_t_yX8_code k_n_X8 (by decide +kernel) rfl rfl ⟨Nat.le_of_ble_eq_true rfl, Nat.le_of_ble_eq_true rfl⟩ (Nat.le_of_ble_eq_true rfl) ⟨Nat.zero_le _, Nat.zero_le _⟩ dX8_verbCode_82) hS (fun H locs hP hS => ?_)
    exact m_ri X hr hlk hP hS (Option.some.inj hres) rfl dX8_verbCode_85
  · have hres := m_if hres hc1
    by_cases hc3 : x0 = 1
    · have hres := m_it hres hc3
      refine m_tin (tgt := 86) X dX8_verbCode_1 ⟨_, hc3, by decide, by decide, rfl⟩ (by decide) ?_
      refine lv_bipush (v := 103) X.1 X.2.1 dX8_verbCode_86 (by decide) ?_
      refine lv_bipush (v := 105) X.1 X.2.1 dX8_verbCode_88 (by decide) ?_
      refine lv_bipush (v := 118) X.1 X.2.1 dX8_verbCode_90 (by decide) ?_
      refine lv_bipush (v := 101) X.1 X.2.1 dX8_verbCode_92 (by decide) ?_
      refine lv_iconst (v := 0) X.1 X.2.1 dX8_verbCode_94 (by decide) ?_
      refine lv_iconst (v := 0) X.1 X.2.1 dX8_verbCode_95 (by decide) ?_
      obtain ⟨r4, err4, hres⟩ := m_ob_e hres
      refine m_bi (m_cS (n := 6) (As := [.int 103, .int 105, .int 118, .int 101, .int 0, .int 0]) (rest := []) X hSt hP hS hl.1 (c_X8_code l G (M := M)  err4) k_c_yX8_code k_m_X8_236 k_t_yX8_code k_n_X8 (by decide +kernel) rfl rfl ⟨Nat.le_of_ble_eq_true rfl, Nat.le_of_ble_eq_true rfl⟩ (Nat.le_of_ble_eq_true rfl) ⟨Nat.zero_le _, Nat.zero_le _⟩ dX8_verbCode_96) hS (fun H locs hP hS => ?_)
      exact m_ri X hr hlk hP hS (Option.some.inj hres) rfl dX8_verbCode_99
    · have hres := m_if hres hc3
      by_cases hc5 : x0 = 2
      · have hres := m_it hres hc5
        refine m_tin (tgt := 100) X dX8_verbCode_1 ⟨_, hc5, by decide, by decide, rfl⟩ (by decide) ?_
        refine lv_bipush (v := 116) X.1 X.2.1 dX8_verbCode_100 (by decide) ?_
        refine lv_bipush (v := 97) X.1 X.2.1 dX8_verbCode_102 (by decide) ?_
        refine lv_bipush (v := 107) X.1 X.2.1 dX8_verbCode_104 (by decide) ?_
        refine lv_bipush (v := 101) X.1 X.2.1 dX8_verbCode_106 (by decide) ?_
        refine lv_iconst (v := 0) X.1 X.2.1 dX8_verbCode_108 (by decide) ?_
        refine lv_iconst (v := 0) X.1 X.2.1 dX8_verbCode_109 (by decide) ?_
        obtain ⟨r6, err6, hres⟩ := m_ob_e hres
        refine m_bi (m_cS (n := 6) (As := [.int 116, .int 97, .int 107, .int 101, .int 0, .int 0]) (rest := []) X hSt hP hS hl.1 (c_X8_code l G (M := M)  err6) k_c_yX8_code k_m_X8_236 k_t_yX8_code k_n_X8 (by decide +kernel) rfl rfl ⟨Nat.le_of_ble_eq_true rfl, Nat.le_of_ble_eq_true rfl⟩ (Nat.le_of_ble_eq_true rfl) ⟨Nat.zero_le _, Nat.zero_le _⟩ dX8_verbCode_110) hS (fun H locs hP hS => ?_)
        exact m_ri X hr hlk hP hS (Option.some.inj hres) rfl dX8_verbCode_113
      · have hres := m_if hres hc5
        by_cases hc7 : x0 = 3
        · have hres := m_it hres hc7
          refine m_tin (tgt := 114) X dX8_verbCode_1 ⟨_, hc7, by decide, by decide, rfl⟩ (by decide) ?_
          refine lv_bipush (v := 104) X.1 X.2.1 dX8_verbCode_114 (by decide) ?_
          refine lv_bipush (v := 105) X.1 X.2.1 dX8_verbCode_116 (by decide) ?_
          refine lv_bipush (v := 100) X.1 X.2.1 dX8_verbCode_118 (by decide) ?_
          refine lv_bipush (v := 101) X.1 X.2.1 dX8_verbCode_120 (by decide) ?_
          refine lv_iconst (v := 0) X.1 X.2.1 dX8_verbCode_122 (by decide) ?_
          refine lv_iconst (v := 0) X.1 X.2.1 dX8_verbCode_123 (by decide) ?_
          obtain ⟨r8, err8, hres⟩ := m_ob_e hres
          refine m_bi (m_cS (n := 6) (As := [.int 104, .int 105, .int 100, .int 101, .int 0, .int 0]) (rest := []) X hSt hP hS hl.1 (c_X8_code l G (M := M)  err8) k_c_yX8_code k_m_X8_236 k_t_yX8_code k_n_X8 (by decide +kernel) rfl rfl ⟨Nat.le_of_ble_eq_true rfl, Nat.le_of_ble_eq_true rfl⟩ (Nat.le_of_ble_eq_true rfl) ⟨Nat.zero_le _, Nat.zero_le _⟩ dX8_verbCode_124) hS (fun H locs hP hS => ?_)
          exact m_ri X hr hlk hP hS (Option.some.inj hres) rfl dX8_verbCode_127
        · have hres := m_if hres hc7
          by_cases hc9 : x0 = 4
          · have hres := m_it hres hc9
            refine m_tin (tgt := 128) X dX8_verbCode_1 ⟨_, hc9, by decide, by decide, rfl⟩ (by decide) ?_
            refine lv_bipush (v := 100) X.1 X.2.1 dX8_verbCode_128 (by decide) ?_
            refine lv_bipush (v := 101) X.1 X.2.1 dX8_verbCode_130 (by decide) ?_
            refine lv_bipush (v := 97) X.1 X.2.1 dX8_verbCode_132 (by decide) ?_
            refine lv_bipush (v := 108) X.1 X.2.1 dX8_verbCode_134 (by decide) ?_
            refine lv_iconst (v := 0) X.1 X.2.1 dX8_verbCode_136 (by decide) ?_
            refine lv_iconst (v := 0) X.1 X.2.1 dX8_verbCode_137 (by decide) ?_
            obtain ⟨r10, err10, hres⟩ := m_ob_e hres
            refine m_bi (m_cS (n := 6) (As := [.int 100, .int 101, .int 97, .int 108, .int 0, .int 0]) (rest := []) X hSt hP hS hl.1 (c_X8_code l G (M := M)  err10) k_c_yX8_code k_m_X8_236 k_t_yX8_code k_n_X8 (by decide +kernel) rfl rfl ⟨Nat.le_of_ble_eq_true rfl, Nat.le_of_ble_eq_true rfl⟩ (Nat.le_of_ble_eq_true rfl) ⟨Nat.zero_le _, Nat.zero_le _⟩ dX8_verbCode_138) hS (fun H locs hP hS => ?_)
            exact m_ri X hr hlk hP hS (Option.some.inj hres) rfl dX8_verbCode_141
          · have hres := m_if hres hc9
            by_cases hc11 : x0 = 5
            · have hres := m_it hres hc11
              refine m_tin (tgt := 142) X dX8_verbCode_1 ⟨_, hc11, by decide, by decide, rfl⟩ (by decide) ?_
              refine lv_bipush (v := 111) X.1 X.2.1 dX8_verbCode_142 (by decide) ?_
              refine lv_bipush (v := 114) X.1 X.2.1 dX8_verbCode_144 (by decide) ?_
              refine lv_bipush (v := 100) X.1 X.2.1 dX8_verbCode_146 (by decide) ?_
              refine lv_bipush (v := 101) X.1 X.2.1 dX8_verbCode_148 (by decide) ?_
              refine lv_bipush (v := 114) X.1 X.2.1 dX8_verbCode_150 (by decide) ?_
              refine lv_iconst (v := 0) X.1 X.2.1 dX8_verbCode_152 (by decide) ?_
              obtain ⟨r12, err12, hres⟩ := m_ob_e hres
              refine m_bi (m_cS (n := 6) (As := [.int 111, .int 114, .int 100, .int 101, .int 114, .int 0]) (rest := []) X hSt hP hS hl.1 (c_X8_code l G (M := M)  err12) k_c_yX8_code k_m_X8_236 k_t_yX8_code k_n_X8 (by decide +kernel) rfl rfl ⟨Nat.le_of_ble_eq_true rfl, Nat.le_of_ble_eq_true rfl⟩ (Nat.le_of_ble_eq_true rfl) ⟨Nat.zero_le _, Nat.zero_le _⟩ dX8_verbCode_153) hS (fun H locs hP hS => ?_)
              exact m_ri X hr hlk hP hS (Option.some.inj hres) rfl dX8_verbCode_156
            · have hres := m_if hres hc11
              by_cases hc13 : x0 = 6
              · have hres := m_it hres hc13
                refine m_tin (tgt := 157) X dX8_verbCode_1 ⟨_, hc13, by decide, by decide, rfl⟩ (by decide) ?_
                refine lv_bipush (v := 112) X.1 X.2.1 dX8_verbCode_157 (by decide) ?_
                refine lv_bipush (v := 111) X.1 X.2.1 dX8_verbCode_159 (by decide) ?_
                refine lv_bipush (v := 115) X.1 X.2.1 dX8_verbCode_161 (by decide) ?_
                refine lv_bipush (v := 116) X.1 X.2.1 dX8_verbCode_163 (by decide) ?_
                refine lv_iconst (v := 0) X.1 X.2.1 dX8_verbCode_165 (by decide) ?_
                refine lv_iconst (v := 0) X.1 X.2.1 dX8_verbCode_166 (by decide) ?_
                obtain ⟨r14, err14, hres⟩ := m_ob_e hres
                refine m_bi (m_cS (n := 6) (As := [.int 112, .int 111, .int 115, .int 116, .int 0, .int 0]) (rest := []) X hSt hP hS hl.1 (c_X8_code l G (M := M)  err14) k_c_yX8_code k_m_X8_236 k_t_yX8_code k_n_X8 (by decide +kernel) rfl rfl ⟨Nat.le_of_ble_eq_true rfl, Nat.le_of_ble_eq_true rfl⟩ (Nat.le_of_ble_eq_true rfl) ⟨Nat.zero_le _, Nat.zero_le _⟩ dX8_verbCode_167) hS (fun H locs hP hS => ?_)
                exact m_ri X hr hlk hP hS (Option.some.inj hres) rfl dX8_verbCode_170
              · have hres := m_if hres hc13
                by_cases hc15 : x0 = 7
                · have hres := m_it hres hc15
                  refine m_tin (tgt := 171) X dX8_verbCode_1 ⟨_, hc15, by decide, by decide, rfl⟩ (by decide) ?_
                  refine lv_bipush (v := 117) X.1 X.2.1 dX8_verbCode_171 (by decide) ?_
                  refine lv_bipush (v := 110) X.1 X.2.1 dX8_verbCode_173 (by decide) ?_
                  refine lv_bipush (v := 112) X.1 X.2.1 dX8_verbCode_175 (by decide) ?_
                  refine lv_bipush (v := 111) X.1 X.2.1 dX8_verbCode_177 (by decide) ?_
                  refine lv_bipush (v := 115) X.1 X.2.1 dX8_verbCode_179 (by decide) ?_
                  refine lv_bipush (v := 116) X.1 X.2.1 dX8_verbCode_181 (by decide) ?_
                  obtain ⟨r16, err16, hres⟩ := m_ob_e hres
                  refine m_bi (m_cS (n := 6) (As := [.int 117, .int 110, .int 112, .int 111, .int 115, .int 116]) (rest := []) X hSt hP hS hl.1 (c_X8_code l G (M := M)  err16) k_c_yX8_code k_m_X8_236 k_t_yX8_code k_n_X8 (by decide +kernel) rfl rfl ⟨Nat.le_of_ble_eq_true rfl, Nat.le_of_ble_eq_true rfl⟩ (Nat.le_of_ble_eq_true rfl) ⟨Nat.zero_le _, Nat.zero_le _⟩ dX8_verbCode_183) hS (fun H locs hP hS => ?_)
                  exact m_ri X hr hlk hP hS (Option.some.inj hres) rfl dX8_verbCode_186
                · have hres := m_if hres hc15
                  by_cases hc17 : x0 = 8
                  · have hres := m_it hres hc17
                    refine m_tin (tgt := 187) X dX8_verbCode_1 ⟨_, hc17, by decide, by decide, rfl⟩ (by decide) ?_
                    refine lv_bipush (v := 107) X.1 X.2.1 dX8_verbCode_187 (by decide) ?_
                    refine lv_bipush (v := 110) X.1 X.2.1 dX8_verbCode_189 (by decide) ?_
                    refine lv_bipush (v := 111) X.1 X.2.1 dX8_verbCode_191 (by decide) ?_
                    refine lv_bipush (v := 119) X.1 X.2.1 dX8_verbCode_193 (by decide) ?_
                    refine lv_iconst (v := 0) X.1 X.2.1 dX8_verbCode_195 (by decide) ?_
                    refine lv_iconst (v := 0) X.1 X.2.1 dX8_verbCode_196 (by decide) ?_
                    obtain ⟨r18, err18, hres⟩ := m_ob_e hres
                    refine m_bi (m_cS (n := 6) (As := [.int 107, .int 110, .int 111, .int 119, .int 0, .int 0]) (rest := []) X hSt hP hS hl.1 (c_X8_code l G (M := M)  err18) k_c_yX8_code k_m_X8_236 k_t_yX8_code k_n_X8 (by decide +kernel) rfl rfl ⟨Nat.le_of_ble_eq_true rfl, Nat.le_of_ble_eq_true rfl⟩ (Nat.le_of_ble_eq_true rfl) ⟨Nat.zero_le _, Nat.zero_le _⟩ dX8_verbCode_197) hS (fun H locs hP hS => ?_)
                    exact m_ri X hr hlk hP hS (Option.some.inj hres) rfl dX8_verbCode_200
                  · have hres := m_if hres hc17
                    by_cases hc19 : x0 = 9
                    · have hres := m_it hres hc19
                      refine m_tin (tgt := 201) X dX8_verbCode_1 ⟨_, hc19, by decide, by decide, rfl⟩ (by decide) ?_
                      refine lv_bipush (v := 117) X.1 X.2.1 dX8_verbCode_201 (by decide) ?_
                      refine lv_bipush (v := 115) X.1 X.2.1 dX8_verbCode_203 (by decide) ?_
                      refine lv_bipush (v := 101) X.1 X.2.1 dX8_verbCode_205 (by decide) ?_
                      refine lv_iconst (v := 0) X.1 X.2.1 dX8_verbCode_207 (by decide) ?_
                      refine lv_iconst (v := 0) X.1 X.2.1 dX8_verbCode_208 (by decide) ?_
                      refine lv_iconst (v := 0) X.1 X.2.1 dX8_verbCode_209 (by decide) ?_
                      obtain ⟨r20, err20, hres⟩ := m_ob_e hres
                      refine m_bi (m_cS (n := 6) (As := [.int 117, .int 115, .int 101, .int 0, .int 0, .int 0]) (rest := []) X hSt hP hS hl.1 (c_X8_code l G (M := M)  err20) k_c_yX8_code k_m_X8_236 k_t_yX8_code k_n_X8 (by decide +kernel) rfl rfl ⟨Nat.le_of_ble_eq_true rfl, Nat.le_of_ble_eq_true rfl⟩ (Nat.le_of_ble_eq_true rfl) ⟨Nat.zero_le _, Nat.zero_le _⟩ dX8_verbCode_210) hS (fun H locs hP hS => ?_)
                      exact m_ri X hr hlk hP hS (Option.some.inj hres) rfl dX8_verbCode_213
                    · have hres := m_if hres hc19
                      by_cases hc21 : x0 = 10
                      · have hres := m_it hres hc21
                        refine m_tin (tgt := 214) X dX8_verbCode_1 ⟨_, hc21, by decide, by decide, rfl⟩ (by decide) ?_
                        refine lv_bipush (v := 108) X.1 X.2.1 dX8_verbCode_214 (by decide) ?_
                        refine lv_bipush (v := 111) X.1 X.2.1 dX8_verbCode_216 (by decide) ?_
                        refine lv_bipush (v := 115) X.1 X.2.1 dX8_verbCode_218 (by decide) ?_
                        refine lv_bipush (v := 101) X.1 X.2.1 dX8_verbCode_220 (by decide) ?_
                        refine lv_iconst (v := 0) X.1 X.2.1 dX8_verbCode_222 (by decide) ?_
                        refine lv_iconst (v := 0) X.1 X.2.1 dX8_verbCode_223 (by decide) ?_
                        obtain ⟨r22, err22, hres⟩ := m_ob_e hres
                        refine m_bi (m_cS (n := 6) (As := [.int 108, .int 111, .int 115, .int 101, .int 0, .int 0]) (rest := []) X hSt hP hS hl.1 (c_X8_code l G (M := M)  err22) k_c_yX8_code k_m_X8_236 k_t_yX8_code k_n_X8 (by decide +kernel) rfl rfl ⟨Nat.le_of_ble_eq_true rfl, Nat.le_of_ble_eq_true rfl⟩ (Nat.le_of_ble_eq_true rfl) ⟨Nat.zero_le _, Nat.zero_le _⟩ dX8_verbCode_224) hS (fun H locs hP hS => ?_)
                        exact m_ri X hr hlk hP hS (Option.some.inj hres) rfl dX8_verbCode_227
                      · have hres := m_if hres hc21
                        by_cases hc23 : x0 = 11
                        · have hres := m_it hres hc23
                          refine m_tin (tgt := 228) X dX8_verbCode_1 ⟨_, hc23, by decide, by decide, rfl⟩ (by decide) ?_
                          refine lv_bipush (v := 111) X.1 X.2.1 dX8_verbCode_228 (by decide) ?_
                          refine lv_bipush (v := 119) X.1 X.2.1 dX8_verbCode_230 (by decide) ?_
                          refine lv_bipush (v := 101) X.1 X.2.1 dX8_verbCode_232 (by decide) ?_
                          refine lv_iconst (v := 0) X.1 X.2.1 dX8_verbCode_234 (by decide) ?_
                          refine lv_iconst (v := 0) X.1 X.2.1 dX8_verbCode_235 (by decide) ?_
                          refine lv_iconst (v := 0) X.1 X.2.1 dX8_verbCode_236 (by decide) ?_
                          obtain ⟨r24, err24, hres⟩ := m_ob_e hres
                          refine m_bi (m_cS (n := 6) (As := [.int 111, .int 119, .int 101, .int 0, .int 0, .int 0]) (rest := []) X hSt hP hS hl.1 (c_X8_code l G (M := M)  err24) k_c_yX8_code k_m_X8_236 k_t_yX8_code k_n_X8 (by decide +kernel) rfl rfl ⟨Nat.le_of_ble_eq_true rfl, Nat.le_of_ble_eq_true rfl⟩ (Nat.le_of_ble_eq_true rfl) ⟨Nat.zero_le _, Nat.zero_le _⟩ dX8_verbCode_237) hS (fun H locs hP hS => ?_)
                          exact m_ri X hr hlk hP hS (Option.some.inj hres) rfl dX8_verbCode_240
                        · have hres := m_if hres hc23
                          by_cases hc25 : x0 = 12
                          · have hres := m_it hres hc25
                            refine m_tin (tgt := 241) X dX8_verbCode_1 ⟨_, hc25, by decide, by decide, rfl⟩ (by decide) ?_
                            refine lv_bipush (v := 115) X.1 X.2.1 dX8_verbCode_241 (by decide) ?_
                            refine lv_bipush (v := 101) X.1 X.2.1 dX8_verbCode_243 (by decide) ?_
                            refine lv_bipush (v := 116) X.1 X.2.1 dX8_verbCode_245 (by decide) ?_
                            refine lv_bipush (v := 116) X.1 X.2.1 dX8_verbCode_247 (by decide) ?_
                            refine lv_bipush (v := 108) X.1 X.2.1 dX8_verbCode_249 (by decide) ?_
                            refine lv_bipush (v := 101) X.1 X.2.1 dX8_verbCode_251 (by decide) ?_
                            obtain ⟨r26, err26, hres⟩ := m_ob_e hres
                            refine m_bi (m_cS (n := 6) (As := [.int 115, .int 101, .int 116, .int 116, .int 108, .int 101]) (rest := []) X hSt hP hS hl.1 (c_X8_code l G (M := M)  err26) k_c_yX8_code k_m_X8_236 k_t_yX8_code k_n_X8 (by decide +kernel) rfl rfl ⟨Nat.le_of_ble_eq_true rfl, Nat.le_of_ble_eq_true rfl⟩ (Nat.le_of_ble_eq_true rfl) ⟨Nat.zero_le _, Nat.zero_le _⟩ dX8_verbCode_253) hS (fun H locs hP hS => ?_)
                            exact m_ri X hr hlk hP hS (Option.some.inj hres) rfl dX8_verbCode_256
                          · have hres := m_if hres hc25
                            by_cases hc27 : x0 = 13
                            · have hres := m_it hres hc27
                              refine m_tin (tgt := 257) X dX8_verbCode_1 ⟨_, hc27, by decide, by decide, rfl⟩ (by decide) ?_
                              refine lv_bipush (v := 112) X.1 X.2.1 dX8_verbCode_257 (by decide) ?_
                              refine lv_bipush (v := 97) X.1 X.2.1 dX8_verbCode_259 (by decide) ?_
                              refine lv_bipush (v := 121) X.1 X.2.1 dX8_verbCode_261 (by decide) ?_
                              refine lv_iconst (v := 0) X.1 X.2.1 dX8_verbCode_263 (by decide) ?_
                              refine lv_iconst (v := 0) X.1 X.2.1 dX8_verbCode_264 (by decide) ?_
                              refine lv_iconst (v := 0) X.1 X.2.1 dX8_verbCode_265 (by decide) ?_
                              obtain ⟨r28, err28, hres⟩ := m_ob_e hres
                              refine m_bi (m_cS (n := 6) (As := [.int 112, .int 97, .int 121, .int 0, .int 0, .int 0]) (rest := []) X hSt hP hS hl.1 (c_X8_code l G (M := M)  err28) k_c_yX8_code k_m_X8_236 k_t_yX8_code k_n_X8 (by decide +kernel) rfl rfl ⟨Nat.le_of_ble_eq_true rfl, Nat.le_of_ble_eq_true rfl⟩ (Nat.le_of_ble_eq_true rfl) ⟨Nat.zero_le _, Nat.zero_le _⟩ dX8_verbCode_266) hS (fun H locs hP hS => ?_)
                              exact m_ri X hr hlk hP hS (Option.some.inj hres) rfl dX8_verbCode_269
                            · have hres := m_if hres hc27
                              refine m_tdf (x := x0) (tgt := 270) X dX8_verbCode_1 (Or.inl (by have := m_ne (z := 0) hc1 (by decide); have := m_ne (z := 1) hc3 (by decide); have := m_ne (z := 2) hc5 (by decide); have := m_ne (z := 3) hc7 (by decide); have := m_ne (z := 4) hc9 (by decide); have := m_ne (z := 5) hc11 (by decide); have := m_ne (z := 6) hc13 (by decide); have := m_ne (z := 7) hc15 (by decide); have := m_ne (z := 8) hc17 (by decide); have := m_ne (z := 9) hc19 (by decide); have := m_ne (z := 10) hc21 (by decide); have := m_ne (z := 11) hc23 (by decide); have := m_ne (z := 12) hc25 (by decide); have := m_ne (z := 13) hc27 (by decide); omega)) (by decide) ?_
                              refine lv_bipush (v := 101) X.1 X.2.1 dX8_verbCode_270 (by decide) ?_
                              refine lv_bipush (v := 110) X.1 X.2.1 dX8_verbCode_272 (by decide) ?_
                              refine lv_bipush (v := 100) X.1 X.2.1 dX8_verbCode_274 (by decide) ?_
                              refine lv_iconst (v := 0) X.1 X.2.1 dX8_verbCode_276 (by decide) ?_
                              refine lv_iconst (v := 0) X.1 X.2.1 dX8_verbCode_277 (by decide) ?_
                              refine lv_iconst (v := 0) X.1 X.2.1 dX8_verbCode_278 (by decide) ?_
                              obtain ⟨r29, err29, hres⟩ := m_ob_e hres
                              refine m_bi (m_cS (n := 6) (As := [.int 101, .int 110, .int 100, .int 0, .int 0, .int 0]) (rest := []) X hSt hP hS hl.1 (c_X8_code l G (M := M)  err29) k_c_yX8_code k_m_X8_236 k_t_yX8_code k_n_X8 (by decide +kernel) rfl rfl ⟨Nat.le_of_ble_eq_true rfl, Nat.le_of_ble_eq_true rfl⟩ (Nat.le_of_ble_eq_true rfl) ⟨Nat.zero_le _, Nat.zero_le _⟩ dX8_verbCode_279) hS (fun H locs hP hS => ?_)
                              exact m_ri X hr hlk hP hS (Option.some.inj hres) rfl dX8_verbCode_282
theorem dX8_verb_0 : decode cX8_verb 0 = .ok (.aload_n 0, 1) := by decide +kernel
theorem dX8_verb_1 : decode cX8_verb 1 = .ok (.invokevirtual 230, 3) := by decide +kernel
theorem dX8_verb_4 : decode cX8_verb 4 = .ok (.istore_n 1, 1) := by decide +kernel
theorem dX8_verb_5 : decode cX8_verb 5 = .ok (.iconst 0, 1) := by decide +kernel
theorem dX8_verb_6 : decode cX8_verb 6 = .ok (.istore_n 2, 1) := by decide +kernel
theorem dX8_verb_7 : decode cX8_verb 7 = .ok (.iload_n 2, 1) := by decide +kernel
theorem dX8_verb_8 : decode cX8_verb 8 = .ok (.bipush 14, 2) := by decide +kernel
theorem dX8_verb_10 : decode cX8_verb 10 = .ok (.if_icmp .gt 23, 3) := by decide +kernel
theorem dX8_verb_13 : decode cX8_verb 13 = .ok (.iload_n 1, 1) := by decide +kernel
theorem dX8_verb_14 : decode cX8_verb 14 = .ok (.ifCond .eq 13, 3) := by decide +kernel
theorem dX8_verb_17 : decode cX8_verb 17 = .ok (.iload_n 1, 1) := by decide +kernel
theorem dX8_verb_18 : decode cX8_verb 18 = .ok (.iload_n 2, 1) := by decide +kernel
theorem dX8_verb_19 : decode cX8_verb 19 = .ok (.invokestatic 233, 3) := by decide +kernel
theorem dX8_verb_22 : decode cX8_verb 22 = .ok (.if_icmp .ne 5, 3) := by decide +kernel
theorem dX8_verb_25 : decode cX8_verb 25 = .ok (.iload_n 2, 1) := by decide +kernel
theorem dX8_verb_26 : decode cX8_verb 26 = .ok (.ireturn, 1) := by decide +kernel
theorem dX8_verb_27 : decode cX8_verb 27 = .ok (.iinc 2 1, 3) := by decide +kernel
theorem dX8_verb_30 : decode cX8_verb 30 = .ok (.goto (-23), 3) := by decide +kernel
theorem dX8_verb_33 : decode cX8_verb 33 = .ok (.iconst (-1), 1) := by decide +kernel
theorem dX8_verb_34 : decode cX8_verb 34 = .ok (.ireturn, 1) := by decide +kernel
def f_X8_verb_b7 (n : Nat) (M : m_M) : Nat → Int32 → Int32 → Option Int32
  | 0, _, _ => none
  | u + 1, x1, x2 =>
    if (14 : Int32) < x2 then
  some (-1)
  else
  if x1 = 0 then
  f_X8_verb_b7 n M u x1 (x2 + 1)
  else
  m_ob (f_X8_verbCode n x2) fun r3 =>
  if x1 = r3 then
  some x2
  else
  f_X8_verb_b7 n M u x1 (x2 + 1)
def f_X8_verb (n : Nat) (M : m_M) : Option Int32 :=
  m_ob (f_X8_wordCode n M) fun r5 =>
  f_X8_verb_b7 n M n r5 0
set_option maxHeartbeats 4000000 in
set_option maxRecDepth 100000 in
theorem c_X8_verb (l : Launch) (G : m_G) {n : Nat} {M : m_M} {r0 : Int32}  (hres : f_X8_verb n M = some r0) : Met l yX8_verb (m_U yX8_verb cX8_verb 3 (some .int)) (m_R 2 48) (m_Pc G [.ref (m_ad G 172)] M) (m_Qi G r0 M) 0 0 (m_A G) := by
  refine m_i0 (n := 3) RX8 rfl (by decide) (Nat.le_of_ble_eq_true rfl) ?_
  intro p e s m args below meth c X hr hlk hSt hP hS ls hl
  have hl : lv_has ls 3 [(0, .ref (m_ad G 172))] := hl
  have B7 : ∀ (u : Nat) (x1 : Int32) (x2 : Int32) (H : Heap) (locs : List Loc) (ls : Array Slot), m_P G M H → va_S (m_A G) s.heap H locs → lv_has ls 3 [(1, .int x1), (2, .int x2)] → f_X8_verb_b7 n M u x1 x2 = some r0 → W p l e (m_R 2 48) s m args below meth c H locs 0 0 (MQ below (m_Qi G r0 M) args s 0 0 (m_A G)) (F0 m 7 ls []) := by
    intro u
    induction u with
    | zero =>
      intro x1 x2 H locs ls hP hS hl hres
      cases hres
    | succ u ih =>
      intro x1 x2 H locs ls hP hS hl hres
      rw [f_X8_verb_b7] at hres
      refine lv_iload_n X.1 X.2.1 dX8_verb_7 rfl (lv_at hl 1 rfl) ?_
      refine lv_bipush (v := 14) X.1 X.2.1 dX8_verb_8 (by decide) ?_
      refine lv_icmp_gt (tgt := 33) X.1 X.2.1 dX8_verb_10 (by decide) (fun hc1 => ?_) (fun hc1 => ?_)
      · have hres := m_it hres hc1
        refine lv_iconst (v := (-1)) X.1 X.2.1 dX8_verb_33 (by decide) ?_
        exact m_ri X hr hlk hP hS (Option.some.inj hres) rfl dX8_verb_34
      · have hres := m_if hres hc1
        refine lv_iload_n X.1 X.2.1 dX8_verb_13 rfl (lv_at hl 0 rfl) ?_
        refine lv_if_eq (tgt := 27) X.1 X.2.1 dX8_verb_14 (by decide) (fun hc2 => ?_) (fun hc2 => ?_)
        · have hres := m_it hres hc2
          refine lv_iinc (v := (x2 + 1)) (lv' := [(2, .int (x2 + 1)), (1, .int x1)]) X.1 X.2.1 dX8_verb_27 hl (k := 1) rfl rfl (by decide) rfl (fun ls hl => ?_)
          refine lv_goto (tgt := 7) X.1 X.2.1 dX8_verb_30 (by decide) ?_
          exact ih x1 (x2 + 1) _ _ _ hP hS (lv_sub hl [1, 0] rfl) hres
        · have hres := m_if hres hc2
          refine lv_iload_n X.1 X.2.1 dX8_verb_17 rfl (lv_at hl 0 rfl) ?_
          refine lv_iload_n X.1 X.2.1 dX8_verb_18 rfl (lv_at hl 1 rfl) ?_
          obtain ⟨r3, err3, hres⟩ := m_ob_e hres
          refine m_bi (m_cS (n := 1) (As := [.int x2]) (rest := [.int x1]) X hSt hP hS hl.1 (c_X8_verbCode l G (M := M)  err3) k_c_yX8_verbCode k_m_X8_233 k_t_yX8_verbCode k_n_X8 (by decide +kernel) rfl rfl ⟨Nat.le_of_ble_eq_true rfl, Nat.le_of_ble_eq_true rfl⟩ (Nat.le_of_ble_eq_true rfl) ⟨Nat.zero_le _, Nat.zero_le _⟩ dX8_verb_19) hS (fun H locs hP hS => ?_)
          refine lv_icmp_ne (tgt := 27) X.1 X.2.1 dX8_verb_22 (by decide) (fun hc4 => ?_) (fun hc4 => ?_)
          · have hres := m_if hres hc4
            refine lv_iinc (v := (x2 + 1)) (lv' := [(2, .int (x2 + 1)), (1, .int x1)]) X.1 X.2.1 dX8_verb_27 hl (k := 1) rfl rfl (by decide) rfl (fun ls hl => ?_)
            refine lv_goto (tgt := 7) X.1 X.2.1 dX8_verb_30 (by decide) ?_
            exact ih x1 (x2 + 1) _ _ _ hP hS (lv_sub hl [1, 0] rfl) hres
          · have hres := m_it hres hc4
            refine lv_iload_n X.1 X.2.1 dX8_verb_25 rfl (lv_at hl 1 rfl) ?_
            exact m_ri X hr hlk hP hS (Option.some.inj hres) rfl dX8_verb_26
  unfold f_X8_verb at hres
  refine lv_aload_n X.1 X.2.1 dX8_verb_0 rfl (lv_at hl 0 rfl) ?_
  obtain ⟨r5, err5, hres⟩ := m_ob_e hres
  refine m_bi (m_cV (n := 0) (As := []) (rest := []) X hSt hP hS hl.1 (c_X8_wordCode l G  err5) k_c_yX8_wordCode k_m_X8_230 k_i_yX8_wordCode k_s_yX8_wordCode k_n_X8 (by decide +kernel) (m_rc8 hSt hP m_z_172) rfl rfl ⟨Nat.le_of_ble_eq_true rfl, Nat.le_of_ble_eq_true rfl⟩ (Nat.le_of_ble_eq_true rfl) ⟨Nat.zero_le _, Nat.zero_le _⟩ dX8_verb_1) hS (fun H locs hP hS => ?_)
  refine lv_istore_n (lv' := [(1, .int r5), (0, .ref (m_ad G 172))]) X.1 X.2.1 dX8_verb_4 rfl hl (by decide) rfl (fun ls hl => ?_)
  refine lv_iconst (v := 0) X.1 X.2.1 dX8_verb_5 (by decide) ?_
  refine lv_istore_n (lv' := [(2, .int 0), (1, .int r5), (0, .ref (m_ad G 172))]) X.1 X.2.1 dX8_verb_6 rfl hl (by decide) rfl (fun ls hl => ?_)
  exact B7 n r5 0 _ _ _ hP hS (lv_sub hl [1, 0] rfl) hres
