/-! CALLS: holder, in, own, net -/
def z_eq (a : Int32 × m_M) (o : Option (Int32 × m_M)) : Prop := q_T o (fun b => a.1 = b.1 ∧ k_Inv b.2)
theorem z_holder {n : Nat} {x1 x2 : Int32} {M : m_M} (hn : 200 < n) (h : k_Inv M) : q_T (f_X7_holder n x1 x2 M) (fun a => z_eq a (f_X8_holder n x1 x2 a.2)) := by
  obtain ⟨C, C0, C1, hM⟩ := h
  obtain ⟨⟨hV, hA, hE⟩, hI⟩ := id hM
  have hP : k_P C ≤ 10 := hV.1.1
  unfold f_X7_holder
  refine q_bd ?_
  rw [e_per7 hA.1]
  rcases e_in_of (x := x1) (n := k_P C) (by omega) with ⟨e1, _⟩ | ⟨e1, p, hp, rfl⟩
  · refine q_it e1 (q_some ?_)
    unfold z_eq f_X8_holder
    refine q_bd ?_
    rw [e_per8 (by omega) hE.1]
    exact q_it e1 (q_some ⟨rfl, C, C0, C1, hM⟩)
  · refine q_if (by rw [e1]; decide) (q_bd ?_)
    rw [e_day7]
    rcases e_in_of (x := x2) (n := 1000) (by omega) with ⟨e2, _⟩ | ⟨e2, d, hd, rfl⟩
    · refine q_it e2 (q_some ?_)
      unfold z_eq f_X8_holder
      refine q_bd ?_
      rw [e_per8 (by omega) hE.1]
      refine q_if (by rw [e1]; decide) (q_bd ?_)
      rw [e_day8]
      exact q_it e2 (q_some ⟨rfl, C, C0, C1, hM⟩)
    · refine q_if (by rw [e2]; decide) ?_
      obtain ⟨K, hK⟩ := k_isday hV (nI d)
      obtain ⟨fl, val, y1, y2⟩ := k_law hA (l := 0) (by omega)
      refine q_ob (q_mono (k_replay (n := n) (ns := 0) hn hV hA hK) (fun M1 h1 => ?_))
      obtain ⟨⟨a1, _, _⟩, a4⟩ := h1
      have hM1 := k_M_h hM a4
      rw [k_ns0 hV hK.1] at a1
      refine q_gd (q_in (by omega) (by decide)) (q_some ?_)
      rw [q_cl (by omega), e_hand a1 (by omega)]
      unfold z_eq f_X8_holder
      refine q_bd ?_
      rw [e_per8 (P := k_P C) (by omega) hM1.1.2.2.1]
      refine q_if (by rw [e1]; decide) (q_bd ?_)
      rw [e_day8]
      refine q_if (by rw [e2]; decide) ?_
      refine q_ob (q_mono (k_today (n := n) hn hM1 y2 hK) (fun M2 h2 => ?_))
      obtain ⟨⟨b1, b2, b3⟩, b4⟩ := h2
      refine q_gd (q_in (by omega) (by decide)) (q_some ?_)
      rw [q_cl (by omega), e_Q0 b2 (by omega)]
      exact ⟨rfl, C, C0, C1, b4⟩
theorem e_cl4 {t : Nat} (h : t < 2 ^ 31) : (4 : Int32) < nI t ↔ 4 < t := q_lt (a := 4) (by decide) h
theorem z_in {n : Nat} {x1 x2 x3 : Int32} {M : m_M} (hn : 200 < n) (h : k_Inv M) : q_T (f_X7_in n x1 x2 x3 M) (fun a => z_eq a (f_X8_in n x1 x2 x3 a.2)) := by
  obtain ⟨C, C0, C1, hM⟩ := h
  obtain ⟨⟨hV, hA, hE⟩, hI⟩ := id hM
  have hP : k_P C ≤ 10 := hV.1.1
  have e8 : f_X8_isIn x2.toInt64 0 4 = e_in x2 5 := by
    have h := e_in_eq (x := x2) (n := 5) (by decide)
    rw [show (nI 5 - 1).toInt64 = 4 by decide +kernel] at h
    exact h
  have ref : ∀ M' : m_M, M'.1 173 468 = nI (k_P C) → e_in x1 (k_P C) = 0 ∨ e_in x2 5 = 0 ∨ e_in x3 1000 = 0 → k_M C C0 C1 M' → z_eq (-2, M') (f_X8_in n x1 x2 x3 M') := by
    intro M' h' hc hM'
    unfold z_eq f_X8_in
    refine q_bd ?_
    rw [e_per8 (by omega) h']
    refine q_ite (fun _ => q_some ⟨rfl, C, C0, C1, hM'⟩) (fun c1 => q_bd ?_)
    rw [e8]
    refine q_ite (fun _ => q_some ⟨rfl, C, C0, C1, hM'⟩) (fun c2 => q_bd ?_)
    rw [e_day8]
    exact q_it (by rcases hc with q | q | q; exact absurd q c1; exact absurd q c2; exact q) (q_some ⟨rfl, C, C0, C1, hM'⟩)
  unfold f_X7_in
  refine q_bd ?_
  rw [e_per7 hA.1]
  rcases e_in_of (x := x1) (n := k_P C) (by omega) with ⟨e1, _⟩ | ⟨e1, p, hp, rfl⟩
  · exact q_it e1 (q_some (ref M hE.1 (Or.inl e1) hM))
  · refine q_if (by rw [e1]; decide) ?_
    rcases e_in_of (x := x2) (n := 5) (by omega) with ⟨e2, n2⟩ | ⟨e2, t, ht, rfl⟩
    · have hc := ref M hE.1 (Or.inr (Or.inl e2)) hM
      refine q_ite (fun _ => q_some hc) (fun c1 => ?_)
      refine q_ite (fun _ => q_some hc) (fun c2 => ?_)
      obtain ⟨j, hj, rfl⟩ := nI_of c1
      refine absurd ⟨j, ?_, rfl⟩ n2
      have : ¬ 4 < j := fun q => c2 ((e_cl4 hj).mpr q)
      omega
    · refine q_if (nI_pos (by omega)) (q_if (fun q => absurd ((e_cl4 (by omega)).mp q) (by omega)) (q_bd ?_))
      rw [e_day7]
      rcases e_in_of (x := x3) (n := 1000) (by omega) with ⟨e3, _⟩ | ⟨e3, d, hd, rfl⟩
      · exact q_it e3 (q_some (ref M hE.1 (Or.inr (Or.inr e3)) hM))
      · refine q_if (by rw [e3]; decide) ?_
        obtain ⟨K, hK⟩ := k_isday hV (nI d)
        obtain ⟨fl, val, y1, y2⟩ := k_law hA (l := 0) (by omega)
        refine q_ob (q_mono (k_replay (n := n) (ns := 0) hn hV hA hK) (fun M1 h1 => ?_))
        obtain ⟨⟨a1, _, _⟩, a4⟩ := h1
        have hM1 := k_M_h hM a4
        rw [k_ns0 hV hK.1] at a1
        have rest : ∀ r : Int32, (t = 4 → r = e_all (h_S (k_r C) h_all K).1 p) → (t < 4 → r = e_pt (h_S (k_r C) h_all K).1 p t) → z_eq (r, M1) (f_X8_in n (nI p) (nI t) (nI d) M1) := by
          intro r r1 r2
          unfold z_eq f_X8_in
          refine q_bd ?_
          rw [e_per8 (P := k_P C) (by omega) hM1.1.2.2.1]
          refine q_if (by rw [e1]; decide) (q_bd ?_)
          rw [e8]
          refine q_if (by rw [e2]; decide) (q_bd ?_)
          rw [e_day8]
          refine q_if (by rw [e3]; decide) ?_
          refine q_ob (q_mono (k_today (n := n) hn hM1 y2 hK) (fun M2 h2 => ?_))
          obtain ⟨⟨b1, b2, b3⟩, b4⟩ := h2
          by_cases c : t = 4
          · refine q_it (by rw [c]; rfl) (q_ob (q_of (e_inAll b2 (by omega)) (q_some ?_)))
            exact ⟨r1 c, C, C0, C1, b4⟩
          · refine q_if (fun q => c ((nI_eq (by omega) (by decide)).mp q)) ?_
            rw [q_x4, q_add]
            refine q_gd (q_in (by omega) (by decide)) (q_some ?_)
            rw [q_cl (by omega), e_Q5 b2 (by omega)]
            exact ⟨r2 (by omega), C, C0, C1, b4⟩
        refine q_gd (q_in (by omega) (by decide)) ?_
        rw [q_cl (by omega)]
        by_cases c : t = 4
        · refine q_it ((q_le4 (by omega)).mpr (by omega)) (q_ob (q_of (e_allC (by omega) a1 (by omega)) (q_some ?_)))
          exact rest _ (fun _ => rfl) (fun q => absurd q (by omega))
        · refine q_if (fun q => absurd ((q_le4 (by omega)).mp q) (by omega)) (q_ob (q_of (e_partC a1 (by omega) (by omega)) (q_some ?_)))
          exact rest _ (fun q => absurd q c) (fun _ => rfl)
theorem k_M_rk {C C0 C1 : k_C} {M M' : m_M} (h : k_M C C0 C1 M) (e1 : ∀ i j, ¬ h_cell i → M'.1 i j = M.1 i j) (e2 : ∀ i j, i ≠ 9 → i ≠ 14 → i ≠ 48 → M'.2 i j = M.2 i j) : k_M C C0 C1 M' := k_M_fr2 h ⟨fun i j q => e1 i j (by unfold h_cell; omega), fun i j q => e2 i j (by omega) (by omega) (by omega)⟩ (fun i j q => e2 i j (by omega) (by omega) (by omega))
theorem z_net {n : Nat} {x1 x2 x3 : Int32} {M : m_M} (hn : 200 < n) (h : k_Inv M) : q_T (f_X7_net n x1 x2 x3 M) (fun a => z_eq a (f_X8_net n x1 x2 x3 a.2)) := by
  obtain ⟨C, C0, C1, hM⟩ := h
  obtain ⟨⟨hV, hA, hE⟩, hI⟩ := id hM
  have hP : k_P C ≤ 10 := hV.1.1
  have ref : ∀ M' : m_M, M'.1 173 468 = nI (k_P C) → e_in x1 (k_P C) = 0 ∨ e_in x2 2 = 0 ∨ e_in x3 1000 = 0 → k_M C C0 C1 M' → z_eq (-2, M') (f_X8_net n x1 x2 x3 M') := by
    intro M' h' hc hM'
    unfold z_eq f_X8_net
    refine q_bd ?_
    rw [e_per8 (by omega) h']
    refine q_ite (fun _ => q_some ⟨rfl, C, C0, C1, hM'⟩) (fun c1 => q_bd ?_)
    rw [e_law8]
    refine q_ite (fun _ => q_some ⟨rfl, C, C0, C1, hM'⟩) (fun c2 => q_bd ?_)
    rw [e_day8]
    exact q_it (by rcases hc with q | q | q; exact absurd q c1; exact absurd q c2; exact q) (q_some ⟨rfl, C, C0, C1, hM'⟩)
  unfold f_X7_net
  refine q_bd ?_
  rw [e_per7 hA.1]
  rcases e_in_of (x := x1) (n := k_P C) (by omega) with ⟨e1, _⟩ | ⟨e1, p, hp, rfl⟩
  · exact q_it e1 (q_some (ref M hE.1 (Or.inl e1) hM))
  · refine q_if (by rw [e1]; decide) (q_bd ?_)
    rw [e_law7]
    rcases e_in_of (x := x2) (n := 2) (by omega) with ⟨e2, n2⟩ | ⟨e2, l, hl, rfl⟩
    · exact q_it e2 (q_some (ref M hE.1 (Or.inr (Or.inl e2)) hM))
    · refine q_if (by rw [e2]; decide) (q_bd ?_)
      rw [e_day7]
      rcases e_in_of (x := x3) (n := 1000) (by omega) with ⟨e3, _⟩ | ⟨e3, d, hd, rfl⟩
      · exact q_it e3 (q_some (ref M hE.1 (Or.inr (Or.inr e3)) hM))
      · refine q_if (by rw [e3]; decide) ?_
        obtain ⟨K, hK⟩ := k_isday hV (nI d)
        obtain ⟨fl, val, y1, y2⟩ := k_law hA (l := 0) (by omega)
        obtain ⟨fll, vall, yl1, yl2⟩ := k_law hA hl
        refine q_ob (q_mono (k_reckon (n := n) (ns := 0) hn hV hA y1 hK) (fun M1 h1 => ?_))
        obtain ⟨⟨a1, _, a3⟩, a4, a5⟩ := h1
        have hM1 := k_M_rk hM a4 a5
        rw [k_ns0 hV hK.1] at a1 a3
        have hY1 : k_YC (5 + 5 * l) M1 fll vall := e_YC_fr yl1 (fun j => a4 _ _ (h_cell1 (by omega))) (fun j => a4 _ _ (h_cell1 (by omega))) (fun j => a5 _ _ (by omega) (by omega) (by omega))
        have hac := k_ac hV h_all hK.1
        refine q_o2 (q_mono (q_TH (e_netC (n := n) (by omega) a1 ((a4 1 0 (h_cell1 (by omega))).trans hA.1) hP hp hl hac.1 hY1 0 0) (g_X1_netOf n _ _ _ _ M1)) (fun b hb => q_some ?_))
        obtain ⟨b1, g⟩ := hb
        have hM2 : k_M C C0 C1 b.2 := k_M_fr2 hM1 ⟨fun i j q => g.1 i j (by unfold w_1; omega), fun i j q => g.2 i j (by unfold w_15; omega)⟩ (fun i j q => g.2 i j (by unfold w_15; omega))
        unfold z_eq f_X8_net
        refine q_bd ?_
        rw [e_per8 (P := k_P C) (by omega) hM2.1.2.2.1]
        refine q_if (by rw [e1]; decide) (q_bd ?_)
        rw [e_law8]
        refine q_if (by rw [e2]; decide) (q_bd ?_)
        rw [e_day8]
        refine q_if (by rw [e3]; decide) ?_
        refine q_ob (q_mono (k_today (n := n) hn hM2 y2 hK) (fun M3 h3 => ?_))
        obtain ⟨⟨c1, c2, c3⟩, c4⟩ := h3
        refine q_o2 (q_mono (q_TH (e_netQ (n := n) hn (k_EG c2 c4.1.2.2) hP hp hl hac.1 yl2 c3 0 0) (g_X8_netOf n _ _ _ _ M3)) (fun e he => q_some ?_))
        obtain ⟨e4, g'⟩ := he
        refine ⟨?_, C, C0, C1, k_M_fr2 c4 ⟨fun i j q => g'.1 i j (by unfold w_60; omega), fun i j q => g'.2 i j (by unfold w_61; omega)⟩ (fun i j q => g'.2 i j (by unfold w_61; omega))⟩
        show b.1 = e.1
        rw [b1, e4, a3 p hp, Int64.add_zero, Int32.add_zero]
        rfl
