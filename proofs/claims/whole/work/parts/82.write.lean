/-! CALLS: write -/
theorem z_write {n : Nat} {x1 x2 : Int32} {M : m_M} (hn : 1600 < n) (h : k_Inv M) : q_T (f_X7_write n x1 x2 M) (fun a => z_eq a (f_X8_write x1 x2 a.2)) := by
  obtain ⟨C, C0, C1, hM⟩ := h
  obtain ⟨⟨hV, hA, hE⟩, hI⟩ := id hM
  have e128 : f_X8_isIn x2.toInt64 0 127 = e_in x2 128 := by
    have h := e_in_eq (x := x2) (n := 128) (by decide)
    rw [show (nI 128 - 1).toInt64 = 127 by decide +kernel] at h
    exact h
  unfold f_X7_write
  refine q_bd ?_
  rw [e_law7]
  rcases e_in_of (x := x1) (n := 2) (by omega) with ⟨e1, _⟩ | ⟨e1, L, hL, rfl⟩
  · refine q_it e1 (q_some ?_)
    unfold z_eq f_X8_write
    refine q_bd ?_
    rw [e_law8]
    exact q_it e1 (q_some ⟨rfl, C, C0, C1, hM⟩)
  refine q_if (by rw [e1]; decide) ?_
  rcases e_in_of (x := x2) (n := 128) (by omega) with ⟨e2, n2⟩ | ⟨e2, c, hc, rfl⟩
  · have ref : z_eq (-2, M) (f_X8_write (nI L) x2 M) := by
      unfold z_eq f_X8_write
      refine q_bd ?_
      rw [e_law8]
      refine q_if (by rw [e1]; decide) (q_bd ?_)
      rw [e128]
      exact q_it e2 (q_some ⟨rfl, C, C0, C1, hM⟩)
    refine q_ite (fun _ => q_some ref) (fun c1 => q_ite (fun c2 => ?_) (fun _ => q_some ref))
    obtain ⟨j, hj, rfl⟩ := nI_of c1
    exact absurd ⟨j, (q_lt (b := 128) hj (by decide)).mp c2, rfl⟩ n2
  refine q_if (nI_pos (by omega)) (q_it ((q_lt (b := 128) (by omega) (by decide)).mpr hc) (q_gd (q_in hL (by decide)) ?_))
  rw [q_cl (by omega), show (1 + 3) + 1 + 5 * L = 5 + 5 * L by omega]
  obtain ⟨p1, p2⟩ := k_lawp hA hL
  obtain ⟨r1, r2⟩ := k_lawe hE hL
  obtain ⟨ht50, htx⟩ := hV.2.2.2.2.2.2.2.2 L hL
  rw [p1]
  by_cases c50 : k_t C L = 50
  · refine q_if (fun q => absurd ((q_lt (b := 50) (by omega) (by decide)).mp q) (by omega)) (q_some ?_)
    unfold z_eq f_X8_write
    refine q_bd ?_
    rw [e_law8]
    refine q_if (by rw [e1]; decide) (q_bd ?_)
    rw [e128]
    refine q_if (by rw [e2]; decide) ?_
    rw [q_51]
    refine q_gd (q_in (by omega) (by decide)) (q_bd ?_)
    rw [q_cl (by omega)]
    have r1' : M.1 173 (360 + 51 * L) = nI (k_t C L) := r1
    rw [r1', c50]
    exact q_it rfl (q_some ⟨rfl, C, C0, C1, hM⟩)
  refine q_it ((q_lt (b := 50) (by omega) (by decide)).mpr (by omega)) ?_
  have hx' : ∀ j, j < k_t C L + 1 → ∃ d, d < 128 ∧ (fun j => if j = k_t C L then nI c else k_x C L j) j = nI d := fun j hj => by
    by_cases q : j = k_t C L
    · exact ⟨c, hc, if_pos q⟩
    · obtain ⟨d, d1, d2⟩ := htx j (by omega)
      exact ⟨d, d1, (if_neg q).trans d2⟩
  obtain ⟨t, t1, t2⟩ := k_tnat hx'
  have hk : q_T (f_X4_add n (5 + 5 * L) (nI c) M) (fun a => a.1 (5 + 5 * L) 1 = nI (k_t C L + 1) ∧ (∀ j, j < k_t C L + 1 → a.1 (6 + 5 * L) j = if j = k_t C L then nI c else k_x C L j) ∧ k_Z (5 + 5 * L) a (k_t C L + 1) (fun j => if j = k_t C L then nI c else k_x C L j)) := by
    unfold f_X4_add
    rw [p1]
    refine q_it ((q_lt (b := 50) (by omega) (by decide)).mpr (by omega)) (q_gd (q_in (by omega) (by decide)) (q_bd ?_))
    rw [q_cl (by omega)]
    have e1 : (m_sI M (5 + 5 * L + 1) (k_t C L) (nI c)).1 (5 + 5 * L) 1 = nI (k_t C L) := by rw [q_r, if_neg (by omega), p1]
    rw [e1, q_up]
    have ex : ∀ j, j < k_t C L + 1 → (m_sI (m_sI M (5 + 5 * L + 1) (k_t C L) (nI c)) (5 + 5 * L) 1 (nI (k_t C L + 1))).1 (6 + 5 * L) j = if j = k_t C L then nI c else k_x C L j := fun j hj => by
      rw [q_r, if_neg (by omega), q_r]
      by_cases q : j = k_t C L
      · rw [if_pos ⟨by omega, q⟩, if_pos q]
      · rw [if_neg (fun w => q w.2), if_neg q]
        exact p2 j (by omega)
    refine q_bd (q_ob (q_mono (q_TH (v_Z (T := k_t C L + 1) (t := t) (tx := fun j => if j = k_t C L then nI c else k_x C L j) hn (by omega) (by omega) t1 (by rw [q_r, if_pos ⟨rfl, rfl⟩]) (fun j hj => by have q := (ex j hj).trans (t2 j hj); rw [show 6 + 5 * L = 5 + 5 * L + 1 by omega] at q; exact q) t2) (g_X4_parse n (5 + 5 * L) _)) (fun M2 h2 => q_some ⟨?_, fun j hj => ?_, h2.1⟩)))
    · rw [h2.2.1 (5 + 5 * L) 1 (by unfold w_6; omega), q_r, if_pos ⟨rfl, rfl⟩]
    · rw [h2.2.1 (6 + 5 * L) j (by unfold w_6; omega)]
      exact ex j hj
  refine q_ob (q_mono (q_TH hk (g_X4_add n (5 + 5 * L) (nI c) M)) (fun a ha => q_some ?_))
  obtain ⟨⟨a1, a2, a3⟩, g⟩ := ha
  unfold z_eq f_X8_write
  refine q_bd ?_
  rw [e_law8]
  refine q_if (by rw [e1]; decide) (q_bd ?_)
  rw [e128]
  refine q_if (by rw [e2]; decide) ?_
  have e173 : ∀ j, a.1 173 j = M.1 173 j := fun j => g.1 173 j (by unfold w_28; omega)
  rw [q_51]
  refine q_gd (q_in (by omega) (by decide)) (q_bd ?_)
  rw [q_cl (by omega)]
  have r1' : a.1 173 (360 + 51 * L) = nI (k_t C L) := (e173 _).trans r1
  rw [r1']
  refine q_if (fun q => c50 ((nI_eq (b := 50) (by omega) (by decide)).mp q)) ?_
  rw [q_up, q_add]
  refine q_gd (q_in (by omega) (by decide)) (q_bd (q_bd (q_some ?_)))
  rw [q_cl (by omega), show 360 + 51 * L + 1 + k_t C L = 361 + 51 * L + k_t C L by omega, q_up]
  have e4 : (m_sI a 173 (361 + 51 * L + k_t C L) (nI c)).1 173 (360 + 51 * L) = nI (k_t C L) := by rw [q_r, if_neg (by omega), r1']
  rw [e4, q_up]
  refine ⟨a1, k_setl C L (k_t C L + 1) (fun j => if j = k_t C L then nI c else k_x C L j), C0, C1, k_M_mk hM (k_setl_V hV (by omega) hx') (k_setl_A hL hA (fun i j q1 q2 q3 => ?_) (fun i j q1 q2 => ?_) ?_ (fun j hj => ?_) ?_) (k_setl_E hL hV (by omega) hE (fun j q => ?_) ?_ (fun j hj => ?_)) (fun i j q => ?_) (fun i j q => ?_)⟩
  · rw [q_r, if_neg (by omega), q_r, if_neg (by omega), g.1 i j (by unfold w_28; omega)]
  · exact g.2 i j (by unfold w_5; omega)
  · rw [q_r, if_neg (by omega), q_r, if_neg (by omega), a1]
  · rw [q_r, if_neg (by omega), q_r, if_neg (by omega)]
    exact a2 j hj
  · obtain ⟨fl, val, y, y'⟩ := a3
    exact ⟨fl, val, e_YC_fr y (fun j => by rw [q_r, if_neg (by omega), q_r, if_neg (by omega)]) (fun j => by rw [q_r, if_neg (by omega), q_r, if_neg (by omega)]) (fun j => rfl), y'⟩
  · rw [q_r, if_neg (by omega), q_r, if_neg (by omega), e173]
  · rw [q_r, if_pos ⟨rfl, rfl⟩]
  · rw [q_r, if_neg (by omega), q_r]
    by_cases q : j = k_t C L
    · rw [if_pos ⟨rfl, by omega⟩, if_pos q]
    · rw [if_neg (by omega), if_neg q, e173]
      exact r2 j (by omega)
  · rw [q_r, if_neg (by omega), q_r, if_neg (by omega), g.1 i j (by unfold w_28; omega)]
  · exact g.2 i j (by unfold w_5; omega)
