/-! CALLS that change what is kept: finer frames; person, clear, unline, part, told -/
theorem k_A_f2 {C : k_C} {k : Nat} {M M' : m_M} (h : k_A C k M) (e : ∀ i j, k ≤ i → i ≤ k + 13 → M'.1 i j = M.1 i j) (e2 : ∀ i j, i = k + 7 ∨ i = k + 12 → M'.2 i j = M.2 i j) : k_A C k M' := by
  obtain ⟨h0, h1, h2, h3, h4, h5, h6, h7⟩ := h
  refine ⟨(e _ _ (by omega) (by omega)).trans h0, (e _ _ (by omega) (by omega)).trans h1, (e _ _ (by omega) (by omega)).trans h2, (e _ _ (by omega) (by omega)).trans h3, (e _ _ (by omega) (by omega)).trans h4, fun j hj => (e _ _ (by omega) (by omega)).trans (h5 j hj), fun j hj => (e _ _ (by omega) (by omega)).trans (h6 j hj), fun l hl => ?_⟩
  obtain ⟨a, b, fl, val, c, c'⟩ := h7 l hl
  exact ⟨(e _ _ (by omega) (by omega)).trans a, fun j hj => (e _ _ (by omega) (by omega)).trans (b j hj), fl, val, e_YC_fr c (fun j => e _ _ (by omega) (by omega)) (fun j => e _ _ (by omega) (by omega)) (fun j => e2 _ _ (by omega)), c'⟩
theorem k_E_f2 {C : k_C} {c o : Nat} {M M' : m_M} (h : k_E C c o M) (hN : k_N C ≤ 60) (hn : k_n C ≤ 6) (ht : ∀ l, l < 2 → k_t C l ≤ 50) (e : ∀ j, o ≤ j → j < o + 471 → M'.1 c j = M.1 c j) : k_E C c o M' := by
  obtain ⟨h0, h1, h2, h5, h6, h7⟩ := h
  refine ⟨(e _ (by omega) (by omega)).trans h0, (e _ (by omega) (by omega)).trans h1, (e _ (by omega) (by omega)).trans h2, fun j hj => (e _ (by omega) (by omega)).trans (h5 j hj), fun j hj => (e _ (by omega) (by omega)).trans (h6 j hj), fun l hl => ?_⟩
  obtain ⟨a, b⟩ := h7 l hl
  have := ht l hl
  exact ⟨(e _ (by omega) (by omega)).trans a, fun j hj => (e _ (by omega) (by omega)).trans (b j hj)⟩
theorem k_I_f2 {C : k_C} {i : Nat} {M M' : m_M} (h : k_I C i M) (hi : i < 2) (e : ∀ i j, 16 ≤ i ∧ i ≤ 44 ∨ i = 174 ∨ i = 175 → M'.1 i j = M.1 i j) (e2 : ∀ i j, i = 23 ∨ i = 28 ∨ i = 37 ∨ i = 42 → M'.2 i j = M.2 i j) : k_I C i M' := by
  obtain ⟨h0, h1, h2⟩ := h
  have a := e 44 i (by omega)
  have b := e 175 i (by omega)
  refine ⟨by rw [a, b, h0], by rw [a]; exact h1, fun c => ?_⟩
  rw [a] at c
  obtain ⟨x, y, z⟩ := h2 c
  exact ⟨x, k_A_f2 y (fun i j p q => e i j (by omega)) (fun i j p => e2 i j (by omega)), k_E_f2 z x.1.2.1 x.1.2.2.1 (fun l hl => (x.2.2.2.2.2.2.2.2 l hl).1) (fun j p q => e _ _ (by omega))⟩
theorem k_T_f2 {M M' : m_M} (h : k_T M) (e1 : M'.1 168 1 = M.1 168 1) (e2 : M'.1 172 4 = M.1 172 4) (e3 : ∀ j, M'.1 169 j = M.1 169 j) (e4 : ∀ j, M'.1 176 j = M.1 176 j) : k_T M' := by
  obtain ⟨T, h0, h1, h2, h3⟩ := h
  refine ⟨T, h0, e1.trans h1, e2.trans h2, fun j hj => ?_⟩
  rw [e3, e4]
  exact h3 j hj
/-- nobody is born with a hand over him -/
theorem e_born {r : Nat → Int32} {P N : Nat} (hW : h_W r N) (hr : ∀ k, k < N → k_row r P k) (so : Nat → Bool) {p : Nat} (hp : P ≤ p) : ∀ k, k ≤ N → (h_S r so k).1 0 p = -1
  | 0, _ => rfl
  | k + 1, hk => by
    have ih := e_born hW hr so hp k (by omega)
    have hv := (hW k (by omega)).1
    have ha := (hr k (by omega)).2.1
    rw [h_S]
    split
    · exact ih
    · simp only []
      by_cases c : h_kd r k ≠ 0 ∧ h_kd r k < 14
      · rw [e_st0 c.1 c.2]
        exact ih
      · have hne : p ≠ h_a r k := by
          have := ha (by unfold h_isd; omega)
          omega
        have : h_kd r k = 0 ∨ h_kd r k = 14 := by have := hv.2.1; omega
        rcases this with e | e <;> rw [e] <;> simp [h_st, h_up, hne, ih]
theorem e_ac_up {S : Nat → Nat → Int32} {P : Nat} (hP : P ≤ 10) (h : e_ac S P) (hb : S 0 P = -1) : e_ac S (P + 1) := by
  obtain ⟨h1, ρ, h2, h3⟩ := h
  refine ⟨fun p hp => ?_, fun p => if p < P then ρ p else P, fun p hp => ?_, fun p q hp hq e => ?_⟩
  · by_cases c : p < P
    · rcases h1 p c with z | ⟨q, hq, z⟩
      · exact Or.inl z
      · exact Or.inr ⟨q, by omega, z⟩
    · rw [show p = P by omega]
      exact Or.inl hb
  · by_cases c : p < P
    · have := h2 p c
      simp only [c, if_true]
      omega
    · simp only [c, if_false]
      omega
  · by_cases c : p < P
    · rcases h1 p c with z | ⟨q', hq', z⟩
      · rw [z] at e
        exact absurd e.symm (q_m1 (by omega))
      · rw [z] at e
        have := (nI_eq (by omega) (by omega)).mp e
        subst this
        simp only [c, hq', if_true]
        exact h3 p q' c hq' z
    · rw [show p = P by omega, hb] at e
      exact absurd e.symm (q_m1 (by omega))
theorem k_V_up {C : k_C} (hV : k_V C) (hP : k_P C < 10) : k_V (k_P C + 1, C.2) := by
  obtain ⟨⟨v1, v2, v3, v4⟩, w, r, m, a, rest⟩ := hV
  refine ⟨⟨by show k_P C + 1 ≤ 10; omega, v2, v3, v4⟩, w, fun k hk => ?_, m, fun k hk => ?_, rest⟩
  · obtain ⟨r1, r2, r3, r4, r5, r6⟩ := r k hk
    refine ⟨r1, fun q => ?_, fun q => ?_, fun q => ?_, r5, r6⟩
    · show h_a (k_r C) k < k_P C + 1
      have := r2 q
      omega
    · rcases r3 q with z | ⟨b, hb, z⟩
      · exact Or.inl z
      · exact Or.inr ⟨b, by show b < k_P C + 1; omega, z⟩
    · show h_b (k_r C) k < k_P C + 1
      have := r4 q
      omega
  · exact e_ac_up (by omega) (a k hk) (e_born w r h_all (Nat.le_refl _) k hk)
theorem z_person {M : m_M} (h : k_Inv M) : (f_X7_person M).1 = (f_X8_person (f_X7_person M).2).1 ∧ k_Inv (f_X8_person (f_X7_person M).2).2 := by
  obtain ⟨C, C0, C1, hM⟩ := h
  obtain ⟨⟨hV, hA, hE⟩, hI⟩ := id hM
  have hP : k_P C ≤ 10 := hV.1.1
  have hE0 : M.1 173 468 = nI (k_P C) := hE.1
  unfold f_X7_person
  simp only [m_bd]
  rw [hA.1]
  have l10 : nI (k_P C) < (10 : Int32) ↔ k_P C < 10 := q_lt (b := 10) (by omega) (by decide)
  by_cases c : k_P C < 10
  · rw [if_pos (l10.mpr c)]
    simp only []
    have hne : ¬ (m_sI M 1 0 (nI (k_P C) + 1)).1 173 468 = 10 := by
      rw [q_r, if_neg (by omega), hE0]
      exact fun q => absurd ((nI_eq (by omega) (by decide)).mp q) (show ¬ k_P C = 10 by omega)
    unfold f_X8_person f_X8_persons
    simp only [m_bd]
    rw [if_neg hne]
    simp only []
    refine ⟨?_, (k_P C + 1, C.2), C0, C1, ⟨k_V_up hV c, ?_, ?_⟩, ⟨?_, ?_⟩, ?_, ?_, ?_⟩
    · rw [q_r, q_r, q_r, hE0]
      (repeat (first | rw [if_pos (by omega)] | rw [if_neg (by omega)]))
    · obtain ⟨h0, h1, h2, h3, h4, h5, h6, h7⟩ := hA
      have eI : ∀ i j, ¬ (i = 1 ∧ j = 0) → i < 45 → (m_sI (m_sI M 1 0 (nI (k_P C) + 1)) 173 468 ((m_sI M 1 0 (nI (k_P C) + 1)).1 173 468 + 1)).1 i j = M.1 i j := fun i j p q => by rw [q_r, if_neg (by omega), q_r, if_neg p]
      refine ⟨?_, (eI _ _ (by omega) (by omega)).trans h1, (eI _ _ (by omega) (by omega)).trans h2, (eI _ _ (by omega) (by omega)).trans h3, (eI _ _ (by omega) (by omega)).trans h4, fun j hj => (eI _ _ (by omega) (by omega)).trans (h5 j hj), fun j hj => (eI _ _ (by omega) (by omega)).trans (h6 j hj), fun l hl => ?_⟩
      · rw [q_r, if_neg (by omega), q_r, if_pos ⟨rfl, rfl⟩, q_up]
      · obtain ⟨a, b, fl, val, d, d'⟩ := h7 l hl
        exact ⟨(eI _ _ (by omega) (by omega)).trans a, fun j hj => (eI _ _ (by omega) (by omega)).trans (b j hj), fl, val, e_YC_fr d (fun j => eI _ _ (by omega) (by omega)) (fun j => eI _ _ (by omega) (by omega)) (fun j => rfl), d'⟩
    · obtain ⟨h0, h1, h2, h5, h6, h7⟩ := hE
      have ht := fun l hl => (hV.2.2.2.2.2.2.2.2 l hl).1
      have hN := hV.1.2.1
      have hn := hV.1.2.2.1
      have eI : ∀ j, j ≠ 468 → (m_sI (m_sI M 1 0 (nI (k_P C) + 1)) 173 468 ((m_sI M 1 0 (nI (k_P C) + 1)).1 173 468 + 1)).1 173 j = M.1 173 j := fun j p => by rw [q_r, if_neg (by omega), q_r, if_neg (by omega)]
      refine ⟨?_, (eI _ (by omega)).trans h1, (eI _ (by omega)).trans h2, fun j hj => (eI _ (by show 0 + j ≠ 468; have : j < 6 * k_N C := hj; omega)).trans (h5 j hj), fun j hj => (eI _ (by show 0 + 462 + j ≠ 468; have : j < k_n C := hj; omega)).trans (h6 j hj), fun l hl => ?_⟩
      · show (m_sI (m_sI M 1 0 (nI (k_P C) + 1)) 173 468 ((m_sI M 1 0 (nI (k_P C) + 1)).1 173 468 + 1)).1 173 468 = nI (k_P C + 1)
        rw [q_r, if_pos ⟨rfl, rfl⟩, q_r, if_neg (by omega), hE0, q_up]
      · have := ht l hl
        exact ⟨(eI _ (by omega)).trans (h7 l hl).1, fun j hj => (eI _ (by show 0 + 361 + 51 * l + j ≠ 468; have : j < k_t C l := hj; omega)).trans ((h7 l hl).2 j hj)⟩
    · exact k_I_f2 hI.1.1 (by omega) (fun i j q => by rw [q_r, if_neg (by omega), q_r, if_neg (by omega)]) (fun i j q => rfl)
    · exact k_I_f2 hI.1.2 (by omega) (fun i j q => by rw [q_r, if_neg (by omega), q_r, if_neg (by omega)]) (fun i j q => rfl)
    · exact k_T_f2 hI.2.1 (by rw [q_r, if_neg (by omega), q_r, if_neg (by omega)]) (by rw [q_r, if_neg (by omega), q_r, if_neg (by omega)]) (fun j => by rw [q_r, if_neg (by omega), q_r, if_neg (by omega)]) (fun j => by rw [q_r, if_neg (by omega), q_r, if_neg (by omega)])
    · exact hI.2.2.1
    · exact hI.2.2.2
  · rw [if_neg (fun q => c (l10.mp q))]
    simp only []
    have h10 : M.1 173 468 = 10 := by rw [hE0, show k_P C = 10 by omega]; rfl
    unfold f_X8_person f_X8_persons
    simp only [m_bd]
    rw [if_pos h10]
    exact ⟨rfl, C, C0, C1, hM⟩
