theorem h_cell1 {i : Nat} (h : i < 45) : ¬ h_cell i := by unfold h_cell; omega
theorem h_apply {S : Nat → Nat → Int32} {D k : Nat} {M : m_M} {r : Nat → Int32} (h : h_R S D M) (hB : h_bo S) (hk : k < 60) (hD : D ≤ k) (hv : h_v r D k) (hr : ∀ j, j < 6 → M.1 (1 + 1) (6 * k + j) = r (6 * k + j)) : q_T (f_X1_apply (nI (6 * k)) M) (fun M' => h_R (h_st S D (h_kd r k) (h_a r k) (r (6 * k)) (r (6 * k + 3)) (r (6 * k + 4))) (if h_kd r k = 4 then D + 1 else D) M' ∧ h_fr M M') := by
  obtain ⟨v1, v2, v3, v4, v5, v6, v7⟩ := hv
  have e0 : M.1 (1 + 1) (6 * k) = r (6 * k) := hr 0 (by omega)
  have e1 := (hr 1 (by omega)).trans v1
  have e2 := (hr 2 (by omega)).trans v3
  have e3 := hr 3 (by omega)
  have e4 := hr 4 (by omega)
  unfold f_X1_apply
  rw [q_p0, q_p1, q_p2, q_p3, q_p4]
  refine q_gd (q_in (by omega) (by decide)) (q_bd (q_gd (q_in (by omega) (by decide)) (q_bd (q_gd (q_in (by omega) (by decide)) (q_bd (q_gd (q_in (by omega) (by decide)) (q_bd ?_)))))))
  rw [q_cl (i := 6 * k + 1) (by omega), q_cl (i := 6 * k + 2) (by omega), q_cl (i := 6 * k + 3) (by omega), q_cl (i := 6 * k + 4) (by omega), e1, e2, e3, e4]
  generalize h_kd r k = kd at *
  generalize h_a r k = a at *
  generalize hb : r (6 * k + 3) = b at *
  generalize r (6 * k + 4) = v at *
  refine q_ob (q_of (h_chA kd v2) ?_)
  by_cases hd : kd = 5 ∨ kd = 9 ∨ kd = 10 ∨ kd = 13
  · rw [if_pos hd]
    have ha := v4 hd
    refine q_it rfl (q_gd (q_in (by omega) (by decide)) (q_some ?_))
    rw [q_cl (by omega), if_neg (by omega)]
    exact h_changeDeal h (by omega) ha hd v2
  · rw [if_neg hd]
    have ha := v5 hd
    refine q_if (by decide) ?_
    by_cases h4 : kd = 4
    · subst h4
      obtain ⟨w1, w2⟩ := v6 (by omega)
      refine q_it (by decide) ?_
      rw [h.1]
      refine q_gd (q_in (by omega) (by decide)) (q_gd (q_in (by omega) (by decide)) ?_)
      rw [q_cl (i := D) (by omega), q_cl (i := a) (by omega)]
      have hbq : b = nI (h_b r k) := w1
      rw [hbq]
      refine q_ob (q_mono (h_start (day := r (6 * k)) h (by omega) ha w2 hB) (fun M' hM => ?_))
      obtain ⟨m1, m2, m3⟩ := hM
      refine q_bd (q_some ?_)
      rw [m3, q_up, if_pos rfl]
      exact ⟨m1, h_fr_tr m2 (h_fr_sI (Or.inl rfl))⟩
    · have h4' : ¬ nI kd = 4 := fun q => h4 ((nI_eq (by omega) (by decide)).mp q)
      refine q_if h4' ?_
      rw [if_neg h4]
      by_cases h14 : kd = 14
      · subst h14
        refine q_it (by decide) (q_gd (q_in (by omega) (by decide)) (q_gd (q_in (by omega) (by decide)) (q_some ?_)))
        rw [q_cl (i := a) (by omega), q_cl (by omega), e0]
        have ok1 : ∀ f, f < 5 → h_ok D f a := fun f h1 => by unfold h_ok; omega
        unfold f_X5_end
        simp only [m_bd]
        rw [h_rd h (ok1 0 (by omega)) (h_c1 0 (by omega)).1 (h_c1 0 (by omega)).2]
        exact h_one (h_one (h_one (h_one ⟨h, h_fr_rf⟩ (by omega) (ok1 1 (by omega)) (h_c1 1 (by omega)).1 (h_c1 1 (by omega)).2) (by omega) (ok1 2 (by omega)) (h_c1 2 (by omega)).1 (h_c1 2 (by omega)).2) (by omega) (ok1 3 (by omega)) (h_c1 3 (by omega)).1 (h_c1 3 (by omega)).2) (by omega) (ok1 0 (by omega)) (h_c1 0 (by omega)).1 (h_c1 0 (by omega)).2
      · have h14' : ¬ nI kd = 14 := fun q => h14 ((nI_eq (by omega) (by decide)).mp q)
        refine q_if h14' (q_gd (q_in (by omega) (by decide)) ?_)
        rw [q_cl (i := a) (by omega)]
        refine q_ob (q_mono (h_changePerson (day := r (6 * k)) h (by omega) ha (by omega) hd h4 (fun q => ?_) (fun q => ?_)) (fun M' hM => q_some hM))
        · obtain ⟨w1, w2⟩ := v6 q
          rw [w1, q_cl (by omega)]
          exact ⟨rfl, w2⟩
        · obtain ⟨w1, w2⟩ := v7 q
          rw [w1, q_cl (by omega)]
          exact ⟨rfl, w2⟩
