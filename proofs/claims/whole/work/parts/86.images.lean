/-! CALLS: image, from -/
theorem k_E_cp {C : k_C} {c o c' o' : Nat} {M M' : m_M} (hV : k_V C) (h : k_E C c o M) (e : ∀ j, j < 471 → M'.1 c' (o' + j) = M.1 c (o + j)) : k_E C c' o' M' := by
  have hN := hV.1.2.1
  have hl := hV.1.2.2.1
  have ht := k_ht hV
  obtain ⟨h0, h1, h2, h5, h6, h7⟩ := h
  refine ⟨(e 468 (by omega)).trans h0, (e 469 (by omega)).trans h1, (e 470 (by omega)).trans h2, fun j hj => (e j (by omega)).trans (h5 j hj), fun j hj => ?_, fun l hl => ⟨?_, fun j hj => ?_⟩⟩
  · have q := e (462 + j) (by omega)
    rw [← Nat.add_assoc, ← Nat.add_assoc] at q
    exact q.trans (h6 j hj)
  · have := ht l hl
    have q := e (360 + 51 * l) (by omega)
    rw [← Nat.add_assoc, ← Nat.add_assoc] at q
    exact q.trans (h7 l hl).1
  · have := ht l hl
    have q := e (361 + 51 * l + j) (by omega)
    rw [← Nat.add_assoc, ← Nat.add_assoc, ← Nat.add_assoc, ← Nat.add_assoc] at q
    exact q.trans ((h7 l hl).2 j hj)
theorem k_I_f3 {C : k_C} {i : Nat} {M M' : m_M} (h : k_I C i M) (e0 : M'.1 44 i = M.1 44 i) (e1 : M'.1 175 i = M.1 175 i) (e : ∀ a j, 16 + 14 * i ≤ a → a ≤ 29 + 14 * i → M'.1 a j = M.1 a j) (e2 : ∀ a j, 16 + 14 * i ≤ a → a ≤ 29 + 14 * i → M'.2 a j = M.2 a j) (e3 : ∀ j, j < 471 → M'.1 174 (471 * i + j) = M.1 174 (471 * i + j)) : k_I C i M' := by
  obtain ⟨h0, h1, h2⟩ := h
  refine ⟨by rw [e0, e1, h0], by rw [e0]; exact h1, fun c => ?_⟩
  rw [e0] at c
  obtain ⟨x, y, z⟩ := h2 c
  exact ⟨x, k_A_f2 y (fun a j p q => e a j p (by omega)) (fun a j p => e2 a j (by omega) (by omega)), k_E_cp x z e3⟩
theorem z_image {n : Nat} {x1 : Int32} {M : m_M} (hn : 1600 < n) (h : k_Inv M) : q_T (f_X7_image n x1 M) (fun a => z_eq a (f_X8_image n x1 a.2)) := by
  obtain ⟨C, C0, C1, hM⟩ := h
  obtain ⟨⟨hV, hA, hE⟩, ⟨hI0, hI1⟩, hT, hf1, hf2⟩ := id hM
  unfold f_X7_image
  rcases e_in_of (x := x1) (n := 2) (by omega) with ⟨e1, n1⟩ | ⟨e1, L, hL, rfl⟩
  · have ref : z_eq (-2, M) (f_X8_image n x1 M) := by
      unfold z_eq f_X8_image
      refine q_bd ?_
      rw [e_law8]
      exact q_it e1 (q_some ⟨rfl, C, C0, C1, hM⟩)
    refine q_ite (fun _ => q_some ref) (fun c1 => q_ite (fun c2 => ?_) (fun _ => q_some ref))
    obtain ⟨j, hj, rfl⟩ := nI_of c1
    exact absurd ⟨j, (q_lt (b := 2) hj (by decide)).mp c2, rfl⟩ n1
  refine q_if (nI_pos (by omega)) (q_it ((q_lt (b := 2) (by omega) (by decide)).mpr hL) (q_gd (q_in hL (by decide)) ?_))
  rw [q_cl (by omega)]
  refine q_ob (q_mono (q_TH (k_take (a := 16 + 14 * L) (b := 1) hn (by omega) (by omega) hV hA) (g_X3_takeAll n (16 + 14 * L) 1 M)) (fun M4 h4 => ?_))
  obtain ⟨hA4, g⟩ := h4
  refine q_bx (fun M5 h5 => q_some ?_)
  have c5 : ∀ i j, M5.1 i j = if i = 44 ∧ j = L then 1 else M4.1 i j := fun i j => by rw [h5, q_r]
  have d5 : ∀ i j, M5.2 i j = M4.2 i j := fun i j => by rw [h5]; rfl
  unfold z_eq f_X8_image
  refine q_bd ?_
  rw [e_law8]
  refine q_if (by rw [e1]; decide) (q_mono (a_im12 (x1 := 0) hL 471 0 n M5 (by omega) (by omega)) (fun b hb => ?_))
  obtain ⟨b1, b2, b3⟩ := hb
  have f1 : ∀ i j, i ≠ 44 → i ≠ 174 → i ≠ 175 → b.2.1 i j = M4.1 i j := fun i j q1 q2 q3 => by
    rw [b3, if_neg (by omega), if_neg (by omega), c5, if_neg (by omega)]
  have f2 : ∀ i j, b.2.2 i j = M4.2 i j := fun i j => by rw [b2, d5]
  have f44 : b.2.1 44 L = 1 := by rw [b3, if_neg (by omega), if_neg (by omega), c5, if_pos ⟨rfl, rfl⟩]
  have f175 : b.2.1 175 L = 1 := by rw [b3, if_pos ⟨rfl, rfl⟩]
  have f174 : ∀ j, j < 471 → b.2.1 174 (471 * L + j) = M.1 173 (0 + j) := fun j hj => by
    rw [b3, if_neg (by omega), if_pos (by omega), show 471 * L + j - 471 * L = j by omega, c5, if_neg (by omega), g.1 173 j (by unfold w_29; omega), Nat.zero_add]
  have iL : k_I C L b.2 := ⟨f44.trans f175.symm, Or.inr f44, fun _ => ⟨hV, k_A_f2 hA4 (fun i j p q => f1 i j (by omega) (by omega) (by omega)) (fun i j p => f2 i j), k_E_cp hV hE f174⟩⟩
  have io : ∀ D i, i < 2 → i ≠ L → k_I D i M → k_I D i b.2 := fun D i hi hne hh => by
    refine k_I_f3 hh ?_ ?_ (fun a j p q => ?_) (fun a j p q => ?_) (fun j hj => ?_)
    · rw [b3, if_neg (by omega), if_neg (by omega), c5, if_neg (by omega), g.1 44 i (by unfold w_29; omega)]
    · rw [b3, if_neg (by omega), if_neg (by omega), c5, if_neg (by omega), g.1 175 i (by unfold w_29; omega)]
    · rw [f1 a j (by omega) (by omega) (by omega), g.1 a j (by unfold w_29; omega)]
    · rw [f2, g.2 a j (by unfold w_30; omega)]
    · rw [b3, if_neg (by omega), if_neg (by omega), c5, if_neg (by omega), g.1 174 _ (by unfold w_29; omega)]
  have fr : ∀ i j, i ≤ 14 ∨ 168 ≤ i → i ≠ 174 → i ≠ 175 → b.2.1 i j = M.1 i j := fun i j q1 q2 q3 => by
    rw [f1 i j (by omega) q2 q3, g.1 i j (by unfold w_29; omega)]
  have fr2 : ∀ i j, i ≤ 14 ∨ 168 ≤ i → b.2.2 i j = M.2 i j := fun i j q1 => by
    rw [f2, g.2 i j (by unfold w_30; omega)]
  have hm : (k_V C ∧ k_A C 1 b.2 ∧ k_E C 173 0 b.2) ∧ k_T b.2 ∧ b.2.2 0 8 = b.2.2 172 5 ∧ b.2.2 0 9 = b.2.2 172 6 := by
    refine ⟨⟨hV, k_A_f2 hA (fun i j p q => fr i j (by omega) (by omega) (by omega)) (fun i j p => fr2 i j (by omega)), k_E_f3 hE (fun j => fr _ _ (by omega) (by omega) (by omega))⟩, k_T_f2 hT (fr _ _ (by omega) (by omega) (by omega)) (fr _ _ (by omega) (by omega) (by omega)) (fun j => fr _ _ (by omega) (by omega) (by omega)) (fun j => fr _ _ (by omega) (by omega) (by omega)), ?_, ?_⟩
    · rw [fr2 _ _ (by omega), fr2 _ _ (by omega), hf1]
    · rw [fr2 _ _ (by omega), fr2 _ _ (by omega), hf2]
  refine ⟨b1.symm, ?_⟩
  have hc : L = 0 ∨ L = 1 := by omega
  rcases hc with e | e
  · subst e
    exact ⟨C, C, C1, hm.1, ⟨iL, io C1 1 (by omega) (by omega) hI1⟩, hm.2⟩
  · subst e
    exact ⟨C, C0, C, hm.1, ⟨io C0 0 (by omega) (by omega) hI0, iL⟩, hm.2⟩
theorem z_from {n : Nat} {x1 : Int32} {M : m_M} (hn : 1600 < n) (h : k_Inv M) : q_T (f_X7_from n x1 M) (fun a => z_eq a (f_X8_from n x1 a.2)) := by
  obtain ⟨C, C0, C1, hM⟩ := h
  obtain ⟨⟨hV, hA, hE⟩, ⟨hI0, hI1⟩, hT, hf1, hf2⟩ := id hM
  unfold f_X7_from
  rcases e_in_of (x := x1) (n := 2) (by omega) with ⟨e1, n1⟩ | ⟨e1, L, hL, rfl⟩
  · have ref : z_eq (-2, M) (f_X8_from n x1 M) := by
      unfold z_eq f_X8_from
      refine q_bd ?_
      rw [e_law8]
      exact q_it e1 (q_some ⟨rfl, C, C0, C1, hM⟩)
    refine q_ite (fun _ => q_some ref) (fun c1 => q_ite (fun c2 => ?_) (fun _ => q_some ref))
    obtain ⟨j, hj, rfl⟩ := nI_of c1
    exact absurd ⟨j, (q_lt (b := 2) hj (by decide)).mp c2, rfl⟩ n1
  have hI : ∃ D, k_I D L M := by
    have hc : L = 0 ∨ L = 1 := by omega
    rcases hc with e | e
    · subst e
      exact ⟨C0, hI0⟩
    · subst e
      exact ⟨C1, hI1⟩
  obtain ⟨D, i0, i1, i2⟩ := hI
  refine q_if (nI_pos (by omega)) (q_it ((q_lt (b := 2) (by omega) (by decide)).mpr hL) (q_gd (q_in hL (by decide)) ?_))
  rw [q_cl (by omega)]
  by_cases c : M.1 44 L = 0
  · refine q_it c (q_some ?_)
    unfold z_eq f_X8_from
    refine q_bd ?_
    rw [e_law8]
    refine q_if (by rw [e1]; decide) (q_gd (q_in hL (by decide)) ?_)
    rw [q_cl (by omega)]
    exact q_it (i0.symm.trans c) (q_some ⟨rfl, C, C0, C1, hM⟩)
  have c1 : M.1 44 L = 1 := i1.resolve_left c
  obtain ⟨hVD, hAD, hED⟩ := i2 c1
  refine q_if c (q_ob (q_mono (q_TH (k_take (a := 1) (b := 16 + 14 * L) hn (by omega) (by omega) hVD hAD) (g_X3_takeAll n 1 (16 + 14 * L) M)) (fun M4 h4 => q_some ?_)))
  obtain ⟨hA4, g⟩ := h4
  unfold z_eq f_X8_from
  refine q_bd ?_
  rw [e_law8]
  refine q_if (by rw [e1]; decide) (q_gd (q_in hL (by decide)) ?_)
  rw [q_cl (by omega)]
  have c175 : M4.1 175 L = 1 := by rw [g.1 175 L (by unfold w_29; omega), ← i0, c1]
  refine q_if (by show ¬ M4.1 175 L = 0; rw [c175]; decide) (q_mono (a_fr24 (x1 := 0) hL 471 0 n M4 (by omega) (by omega)) (fun b hb => ?_))
  obtain ⟨b1, b2, b3⟩ := hb
  have f1 : ∀ i j, i ≠ 173 → b.2.1 i j = M4.1 i j := fun i j q1 => by rw [b3, if_neg (by omega)]
  have f2 : ∀ i j, b.2.2 i j = M4.2 i j := fun i j => by rw [b2]
  refine ⟨b1.symm, D, C0, C1, k_M_mk hM hVD (k_A_f2 hA4 (fun i j p q => f1 i j (by omega)) (fun i j p => f2 i j)) (k_E_cp hVD hED (fun j hj => ?_)) (fun i j q => ?_) (fun i j q => ?_)⟩
  · rw [b3, if_pos (by omega), g.1 174 _ (by unfold w_29; omega), Nat.zero_add]
  · rw [f1 i j (by omega), g.1 i j (by unfold w_29; omega)]
  · rw [f2, g.2 i j (by unfold w_30; omega)]
