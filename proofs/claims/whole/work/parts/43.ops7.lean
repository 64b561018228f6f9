/-! CALLS: doubt, digest -/
theorem d_kd {r r' : Nat → Int32} (e : ∀ k j, j < 5 → r' (6 * k + j) = r (6 * k + j)) (k : Nat) : h_kd r' k = h_kd r k ∧ h_a r' k = h_a r k ∧ h_b r' k = h_b r k := by
  unfold h_kd h_a h_b
  rw [e k 1 (by omega), e k 2 (by omega), e k 3 (by omega)]
  exact ⟨rfl, rfl, rfl⟩
theorem d_D {r r' : Nat → Int32} (e : ∀ k j, j < 5 → r' (6 * k + j) = r (6 * k + j)) : ∀ k, h_D r' k = h_D r k
  | 0 => rfl
  | k + 1 => by
    rw [h_D, h_D, d_D e k, (d_kd e k).1]
theorem d_v {r r' : Nat → Int32} (e : ∀ k j, j < 5 → r' (6 * k + j) = r (6 * k + j)) {D k : Nat} (h : h_v r D k) : h_v r' D k := by
  unfold h_v at *
  rw [e k 1 (by omega), e k 2 (by omega), e k 3 (by omega), (d_kd e k).1, (d_kd e k).2.1, (d_kd e k).2.2]
  exact h
theorem d_row {r r' : Nat → Int32} (e : ∀ k j, j < 5 → r' (6 * k + j) = r (6 * k + j)) {P k : Nat} (h : k_row r P k) : k_row r' P k := by
  have e0 := e k 0 (by omega)
  rw [Nat.add_zero] at e0
  unfold k_row at *
  rw [e0, e k 3 (by omega), e k 4 (by omega), (d_kd e k).1, (d_kd e k).2.1, (d_kd e k).2.2]
  exact h
theorem d_S {r r' : Nat → Int32} (e : ∀ k j, j < 5 → r' (6 * k + j) = r (6 * k + j)) : ∀ k, (h_S r' h_all k).1 = (h_S r h_all k).1 ∧ (h_S r' h_all k).2.1 = (h_S r h_all k).2.1
  | 0 => ⟨rfl, rfl⟩
  | k + 1 => by
    have ih := d_S e k
    have e0 := e k 0 (by omega)
    rw [Nat.add_zero] at e0
    have n : ∀ r'' : Nat → Int32, ¬ (r'' (6 * k + 5) ≠ 0 ∧ h_all (h_S r'' h_all k).2.2 = false) := fun r'' q => by
      have := q.2
      unfold h_all at this
      cases this
    rw [h_S, h_S, if_neg (n r'), if_neg (n r), ih.1, ih.2, (d_kd e k).1, (d_kd e k).2.1, e0, e k 3 (by omega), e k 4 (by omega)]
    exact ⟨rfl, rfl⟩
theorem d_B {r r' : Nat → Int32} {k0 : Nat} (e : ∀ k, k ≠ k0 → r' (6 * k + 5) = r (6 * k + 5)) (h0 : r (6 * k0 + 5) = 0) (h1 : r' (6 * k0 + 5) ≠ 0) : ∀ k, h_B r' k = h_B r k + if k0 < k then 1 else 0
  | 0 => rfl
  | k + 1 => by
    have ih := d_B e h0 h1 k
    rw [h_B, h_B]
    by_cases c : k = k0
    · subst c
      rw [if_pos h1, if_neg (fun q => q h0), ih, if_neg (by omega), if_pos (by omega)]
    · rw [e k c, ih]
      by_cases c2 : k0 < k
      · rw [if_pos c2, if_pos (show k0 < k + 1 by omega)]
        split <;> omega
      · rw [if_neg c2, if_neg (show ¬ k0 < k + 1 by omega)]
        split <;> omega
/-- the rows, with another doubt -/
def d_r (r : Nat → Int32) (k0 : Nat) (x : Int32) : Nat → Int32 := fun j => if j = 6 * k0 + 5 then x else r j
theorem d_re (r : Nat → Int32) (k0 : Nat) (x : Int32) : ∀ k j, j < 5 → d_r r k0 x (6 * k + j) = r (6 * k + j) := fun k j hj => by
  unfold d_r
  rw [if_neg (by omega)]
theorem d_V {C : k_C} (hV : k_V C) {k0 : Nat} (hk : k0 < k_N C) {x : Int32} (hx : m_B x) (hd : x ≠ 0 → h_kd (k_r C) k0 ≠ 0 ∧ h_kd (k_r C) k0 ≠ 4 ∧ h_kd (k_r C) k0 ≠ 14) (hB : h_B (d_r (k_r C) k0 x) (k_N C) ≤ 5) : k_V (k_P C, k_N C, d_r (k_r C) k0 x, k_n C, k_l C, k_t C, k_x C) := by
  obtain ⟨⟨v1, v2, v3, v4⟩, w, r, m, a, p, l1, l2, y⟩ := hV
  have e := d_re (k_r C) k0 x
  refine ⟨⟨v1, v2, v3, hB⟩, fun k hk' => ⟨?_, ?_⟩, fun k hk' => d_row e (r k hk'), fun i j hij hj => ?_, fun k hk' => ?_, fun d hd' => ?_, fun i hi => ?_, l2, y⟩
  · show h_v (d_r (k_r C) k0 x) (h_D (d_r (k_r C) k0 x) k) k
    rw [d_D e]
    exact d_v e (w k hk').1
  · show h_dub (d_r (k_r C) k0 x) k
    have h := (w k hk').2
    unfold h_dub at *
    rw [(d_kd e k).1]
    by_cases c : k = k0
    · subst c
      have : d_r (k_r C) k x (6 * k + 5) = x := by unfold d_r; rw [if_pos rfl]
      rw [this]
      exact ⟨hx, hd⟩
    · have : d_r (k_r C) k0 x (6 * k + 5) = k_r C (6 * k + 5) := by unfold d_r; rw [if_neg (by omega)]
      rw [this]
      exact h
  · show d_r (k_r C) k0 x (6 * i) ≤ d_r (k_r C) k0 x (6 * j)
    have ei := e i 0 (by omega)
    have ej := e j 0 (by omega)
    rw [Nat.add_zero] at ei ej
    rw [ei, ej]
    exact m i j hij hj
  · show e_ac (h_S (d_r (k_r C) k0 x) h_all k).1 (k_P C)
    rw [(d_S e k).1]
    exact a k hk'
  · show (h_S (d_r (k_r C) k0 x) h_all (k_N C)).1 13 d ≤ (h_S (d_r (k_r C) k0 x) h_all (k_N C)).1 12 d
    rw [(d_S e _).1]
    refine p d ?_
    have hd'' : d < h_D (d_r (k_r C) k0 x) (k_N C) := hd'
    rw [d_D e] at hd''
    exact hd''
  · show ∃ d, d < h_D (d_r (k_r C) k0 x) (k_N C) ∧ k_l C i = nI d
    rw [d_D e]
    exact l1 i hi
/-- the state after another doubt -/
theorem d_M {C C0 C1 : k_C} {M M' : m_M} (hM : k_M C C0 C1 M) {k0 B' : Nat} (hk : k0 < k_N C) {x : Int32} (hx : m_B x) (hd : x ≠ 0 → h_kd (k_r C) k0 ≠ 0 ∧ h_kd (k_r C) k0 ≠ 4 ∧ h_kd (k_r C) k0 ≠ 14) (hB : h_B (d_r (k_r C) k0 x) (k_N C) = B') (hB5 : B' ≤ 5) (e : ∀ i j, M'.1 i j = if i = 1 ∧ j = 3 then nI B' else if (i = 2 ∨ i = 173) ∧ j = 6 * k0 + 5 then x else M.1 i j) (e2 : M'.2 = M.2) : k_M (k_P C, k_N C, d_r (k_r C) k0 x, k_n C, k_l C, k_t C, k_x C) C0 C1 M' := by
  obtain ⟨⟨hV, hA, hE⟩, hI⟩ := id hM
  have hN := hV.1.2.1
  have hV' := d_V hV hk hx hd (by omega)
  obtain ⟨a0, a1, a2, a3, a4, a5, a6, a7⟩ := hA
  obtain ⟨b0, b1, b2, b5, b6, b7⟩ := hE
  have eA : ∀ i j, ¬ (i = 1 ∧ j = 3) → i ≠ 2 → i ≠ 173 → M'.1 i j = M.1 i j := fun i j p q s => by rw [e, if_neg p, if_neg (by omega)]
  have eE : ∀ j, j ≠ 6 * k0 + 5 → M'.1 173 j = M.1 173 j := fun j q => by rw [e, if_neg (by omega), if_neg (by omega)]
  refine k_M_mk hM hV' ⟨(eA _ _ (by omega) (by omega) (by omega)).trans a0, (eA _ _ (by omega) (by omega) (by omega)).trans a1, ?_, ?_, (eA _ _ (by omega) (by omega) (by omega)).trans a4, fun j hj => ?_, fun j hj => (eA _ _ (by omega) (by omega) (by omega)).trans (a6 j hj), fun l hl => ?_⟩ ⟨(eE _ (by omega)).trans b0, (eE _ (by omega)).trans b1, (eE _ (by omega)).trans b2, fun j hj => ?_, fun j hj => (eE _ (by omega)).trans (b6 j hj), fun l hl => ⟨(eE _ (by omega)).trans (b7 l hl).1, fun j hj => (eE _ (by omega)).trans ((b7 l hl).2 j hj)⟩⟩ (fun i j q => eA i j (by omega) (by omega) (by omega)) (fun i j _ => by rw [e2])
  · show M'.1 1 2 = nI (h_D (d_r (k_r C) k0 x) (k_N C))
    rw [d_D (d_re _ _ _)]
    exact (eA _ _ (by omega) (by omega) (by omega)).trans a2
  · show M'.1 1 3 = nI (h_B (d_r (k_r C) k0 x) (k_N C))
    rw [hB, e, if_pos ⟨rfl, rfl⟩]
  · show M'.1 2 j = d_r (k_r C) k0 x j
    unfold d_r
    rw [e, if_neg (by omega)]
    by_cases c : j = 6 * k0 + 5
    · rw [if_pos ⟨by omega, c⟩, if_pos c]
    · rw [if_neg (by omega), if_neg c]
      exact a5 j hj
  · obtain ⟨c0, c1, fl, val, c, c'⟩ := a7 l hl
    exact ⟨(eA _ _ (by omega) (by omega) (by omega)).trans c0, fun j hj => (eA _ _ (by omega) (by omega) (by omega)).trans (c1 j hj), fl, val, e_YC_fr c (fun j => eA _ _ (by omega) (by omega) (by omega)) (fun j => eA _ _ (by omega) (by omega) (by omega)) (fun j => by rw [e2]), c'⟩
  · show M'.1 173 (0 + j) = d_r (k_r C) k0 x j
    unfold d_r
    rw [Nat.zero_add, e, if_neg (by omega)]
    by_cases c : j = 6 * k0 + 5
    · rw [if_pos ⟨by omega, c⟩, if_pos c]
    · rw [if_neg (by omega), if_neg c]
      have := b5 j hj
      rw [Nat.zero_add] at this
      exact this
theorem d_ch : ∀ kd, kd < 15 → f_J0_charAt_5068e 3 (nI kd) = some (if kd = 0 ∨ kd = 4 ∨ kd = 14 then 45 else 63) := by decide +kernel
theorem z_doubt {n : Nat} {x1 x2 : Int32} {M : m_M} (hn : 200 < n) (hx2 : m_B x2) (h : k_Inv M) : q_T (f_X7_doubt x1 x2 M) (fun a => z_eq a (f_X8_doubt n x1 x2 a.2)) := by
  obtain ⟨C, C0, C1, hM⟩ := h
  obtain ⟨⟨hV, hA, hE⟩, hI⟩ := id hM
  have hN := hV.1.2.1
  have hB5 := hV.1.2.2.2
  have hBN := h_B_le (k_r C) (k_N C)
  have hE1 : M.1 173 469 = nI (k_N C) := hE.2.1
  have i : k_Inv M := ⟨C, C0, C1, hM⟩
  -- the reference begins so
  have ref : ∀ (M' : m_M) (Q : Int32 × m_M → Prop), M'.1 173 469 = nI (k_N C) → (e_in x1 (k_N C) = 0 → Q (-2, M')) → (∀ k0, k0 < k_N C → x1 = nI k0 → (∀ j, j < 6 → M'.1 173 (6 * k0 + j) = k_r C (6 * k0 + j)) ∧ ((h_kd (k_r C) k0 = 0 ∨ h_kd (k_r C) k0 = 4 ∨ h_kd (k_r C) k0 = 14) → Q (-2, M')) ∧ (¬ (h_kd (k_r C) k0 = 0 ∨ h_kd (k_r C) k0 = 4 ∨ h_kd (k_r C) k0 = 14) → q_T (f_X8_doubt_b59 n x1 x2 (if k_r C (6 * k0 + 5) = 1 then 1 else 0) M') Q)) → q_T (f_X8_doubt n x1 x2 M') Q := by
    intro M' Q h1 h2 h3
    unfold f_X8_doubt f_X8_notes
    refine q_bd (q_bd ?_)
    rw [h1, e_in_eq (by omega)]
    rcases e_in_of (x := x1) (n := k_N C) (by omega) with ⟨e1, _⟩ | ⟨e1, k0, hk0, rfl⟩
    · exact q_it e1 (q_some (h2 e1))
    obtain ⟨g1, g2, g3⟩ := h3 k0 hk0 rfl
    have hv := (hV.2.1 k0 hk0).1
    refine q_if (by rw [e1]; decide) ?_
    have of : ∀ j, j < 6 → f_X8_of (nI k0) (nI j) M' = some (k_r C (6 * k0 + j)) := fun j hj => by
      unfold f_X8_of m_gd
      rw [q_x6, q_zp, q_add, if_pos (q_in (by omega) (by decide)), q_cl (by omega), g1 j hj]
    have of1 : f_X8_of (nI k0) 1 M' = some (k_r C (6 * k0 + 1)) := of 1 (by omega)
    have of5 : f_X8_of (nI k0) 5 M' = some (k_r C (6 * k0 + 5)) := of 5 (by omega)
    refine q_ob (q_of of1 ?_)
    rw [hv.1]
    have kd15 := hv.2.1
    have k0' : nI (h_kd (k_r C) k0) = 0 ↔ h_kd (k_r C) k0 = 0 := nI_eq (b := 0) (by omega) (by decide)
    have k4' : nI (h_kd (k_r C) k0) = 4 ↔ h_kd (k_r C) k0 = 4 := nI_eq (b := 4) (by omega) (by decide)
    have k14' : nI (h_kd (k_r C) k0) = 14 ↔ h_kd (k_r C) k0 = 14 := nI_eq (b := 14) (by omega) (by decide)
    refine q_ite (fun c => q_some (g2 (Or.inl (k0'.mp c)))) (fun c0 => q_ite (fun c => q_some (g2 (Or.inr (Or.inl (k4'.mp c))))) (fun c4 => q_ite (fun c => q_some (g2 (Or.inr (Or.inr (k14'.mp c))))) (fun c14 => q_ob (q_of of5 ?_))))
    have g3' := g3 (by
      rintro (q | q | q)
      · exact c0 (k0'.mpr q)
      · exact c4 (k4'.mpr q)
      · exact c14 (k14'.mpr q))
    by_cases c : k_r C (6 * k0 + 5) = 1
    · rw [if_pos c] at g3'
      exact q_it c g3'
    · rw [if_neg c] at g3'
      exact q_if c g3'
  have same : ∀ r : Int32, (e_in x1 (k_N C) = 0 → r = -2) → (∀ k0, k0 < k_N C → x1 = nI k0 → ((h_kd (k_r C) k0 = 0 ∨ h_kd (k_r C) k0 = 4 ∨ h_kd (k_r C) k0 = 14) → r = -2) ∧ (¬ (h_kd (k_r C) k0 = 0 ∨ h_kd (k_r C) k0 = 4 ∨ h_kd (k_r C) k0 = 14) → f_X8_doubt_b59 n x1 x2 (if k_r C (6 * k0 + 5) = 1 then 1 else 0) M = some (r, M))) → z_eq (r, M) (f_X8_doubt n x1 x2 M) := by
    intro r h1 h2
    refine ref M _ hE1 (fun c => ⟨h1 c, i⟩) (fun k0 hk0 q => ⟨fun j hj => ?_, fun c => ⟨(h2 k0 hk0 q).1 c, i⟩, fun c => ?_⟩)
    · have := hE.2.2.2.1 (6 * k0 + j) (by omega)
      rw [Nat.zero_add] at this
      exact this
    · rw [(h2 k0 hk0 q).2 c]
      exact q_some ⟨rfl, i⟩
  unfold f_X7_doubt
  refine q_bd ?_
  rw [e_no7 hA.2.1]
  rcases e_in_of (x := x1) (n := k_N C) (by omega) with ⟨e1, n1⟩ | ⟨e1, k0, hk0, rfl⟩
  · exact q_it e1 (q_some (same _ (fun _ => rfl) (fun k0 hk0 q => absurd ⟨k0, hk0, q⟩ n1)))
  have e1' : ¬ e_in (nI k0) (k_N C) = 0 := by rw [e1]; decide
  have hv := (hV.2.1 k0 hk0).1
  have hdub := (hV.2.1 k0 hk0).2
  have kd15 := hv.2.1
  have u0 : ∀ k', k' < k_N C → nI k0 = nI k' → k' = k0 := fun k' h1 h2 => ((nI_eq (by omega) (by omega)).mp h2).symm
  have r1 : M.1 (1 + 1) (6 * k0 + 1) = nI (h_kd (k_r C) k0) := (hA.2.2.2.2.2.1 (6 * k0 + 1) (by omega)).trans hv.1
  have r5 : M.1 (1 + 1) (6 * k0 + 5) = k_r C (6 * k0 + 5) := hA.2.2.2.2.2.1 (6 * k0 + 5) (by omega)
  refine q_if e1' ?_
  unfold f_X3_mayBeDoubted f_X3_isDoubted
  rw [q_x6, q_p1, q_p5]
  refine q_ob (q_gd (q_in (by omega) (by decide)) ?_)
  rw [q_cl (by omega), r1]
  refine q_ob (q_of (d_ch _ kd15) ?_)
  by_cases ck : h_kd (k_r C) k0 = 0 ∨ h_kd (k_r C) k0 = 4 ∨ h_kd (k_r C) k0 = 14
  · rw [if_pos ck]
    refine q_if (by decide) (q_some (q_it rfl (q_some (same _ (fun q => absurd q e1') (fun k' hk' q => ⟨fun _ => rfl, fun c => ?_⟩)))))
    rw [u0 k' hk' q] at c
    exact absurd ck c
  rw [if_neg ck]
  refine q_it rfl (q_some (q_if (by decide) (q_ob (q_gd (q_in (by omega) (by decide)) ?_))))
  rw [q_cl (by omega), r5]
  -- what remains is told by the flag
  have b59 : ∀ r : Int32, f_X8_doubt_b59 n (nI k0) x2 (if k_r C (6 * k0 + 5) = 1 then 1 else 0) M = some (r, M) → z_eq (r, M) (f_X8_doubt n (nI k0) x2 M) := fun r hr => same r (fun q => absurd q e1') (fun k' hk' q => by
    have := u0 k' hk' q
    subst this
    exact ⟨fun c => absurd c ck, fun _ => hr⟩)
  have hBs : ∀ x : Int32, m_B x → x ≠ k_r C (6 * k0 + 5) → (x = 0 → h_B (d_r (k_r C) k0 x) (k_N C) + 1 = h_B (k_r C) (k_N C)) ∧ (x ≠ 0 → h_B (d_r (k_r C) k0 x) (k_N C) = h_B (k_r C) (k_N C) + 1) := by
    intro x hx hne
    have ex : d_r (k_r C) k0 x (6 * k0 + 5) = x := by unfold d_r; rw [if_pos rfl]
    have eo : ∀ k, k ≠ k0 → d_r (k_r C) k0 x (6 * k + 5) = k_r C (6 * k + 5) := fun k q => by unfold d_r; rw [if_neg (by omega)]
    refine ⟨fun c => ?_, fun c => ?_⟩
    · have := d_B (r := d_r (k_r C) k0 x) (r' := k_r C) (k0 := k0) (fun k q => (eo k q).symm) (ex.trans c) (fun q => hne (c.trans q.symm)) (k_N C)
      rw [if_pos hk0] at this
      exact this.symm
    · have hr0 : k_r C (6 * k0 + 5) = 0 := by
        rcases hdub.1 with q | q
        · exact q
        · rcases hx with p | p
          · exact absurd p c
          · exact absurd (p.trans q.symm) hne
      have := d_B (r := k_r C) (r' := d_r (k_r C) k0 x) (k0 := k0) eo hr0 (by rw [ex]; exact c) (k_N C)
      rw [if_pos hk0] at this
      exact this
  have hkd : h_kd (k_r C) k0 ≠ 0 ∧ h_kd (k_r C) k0 ≠ 4 ∧ h_kd (k_r C) k0 ≠ 14 := ⟨fun q => ck (Or.inl q), fun q => ck (Or.inr (Or.inl q)), fun q => ck (Or.inr (Or.inr q))⟩
  have hBM : M.1 1 3 = nI (h_B (k_r C) (k_N C)) := hA.2.2.2.1
  -- a change goes through on both sides
  have go : x2 ≠ k_r C (6 * k0 + 5) → (x2 ≠ 0 → h_B (k_r C) (k_N C) < 5) → q_T (f_X7_doubt_b55 (nI k0) x2 M) (fun a => z_eq a (f_X8_doubt n (nI k0) x2 a.2)) := by
    intro hne hlt
    obtain ⟨z0, z1⟩ := hBs x2 hx2 hne
    have hs0 : (if k_r C (6 * k0 + 5) = 1 then (1 : Int32) else 0) = k_r C (6 * k0 + 5) := by
      rcases hdub.1 with q | q
      · rw [q]
        decide
      · rw [q]
        decide
    have fin : ∀ M1 : m_M, M1.2 = M.2 → (∀ i j, M1.1 i j = if i = 1 ∧ j = 3 then nI (h_B (d_r (k_r C) k0 x2) (k_N C)) else if i = 2 ∧ j = 6 * k0 + 5 then x2 else M.1 i j) → h_B (d_r (k_r C) k0 x2) (k_N C) ≤ 5 → z_eq (1, M1) (f_X8_doubt n (nI k0) x2 M1) := by
      intro M1 m2 m1 m5
      refine ref M1 _ (by rw [m1, if_neg (by omega), if_neg (by omega)]; exact hE1) (fun c => absurd c e1') (fun k' hk' q => ?_)
      have := u0 k' hk' q
      subst this
      have hrow : ∀ j, j < 6 → M1.1 173 (6 * k' + j) = k_r C (6 * k' + j) := fun j hj => by
        rw [m1, if_neg (by omega), if_neg (by omega)]
        have := hE.2.2.2.1 (6 * k' + j) (by omega)
        rw [Nat.zero_add] at this
        exact this
      refine ⟨hrow, fun c => absurd c ck, fun _ => ?_⟩
      rw [hs0]
      unfold f_X8_doubt_b59
      refine q_if (fun q => hne q.symm) ?_
      have b81 : q_T (f_X8_doubt_b81 n (nI k') x2 M1) (fun b => (1 : Int32) = b.1 ∧ k_Inv b.2) := by
        unfold f_X8_doubt_b81
        rw [q_x6, q_zp, q_p5]
        have put : ∀ x : Int32, x = x2 → q_T (m_gd (m_in (nI (6 * k' + 5)) 471) (m_bd (m_sI M1 173 ((nI (6 * k' + 5)).toNatClampNeg) x) fun M3 => some ((1 : Int32), M3))) (fun b => (1 : Int32) = b.1 ∧ k_Inv b.2) := by
          intro x hx
          subst hx
          refine q_gd (q_in (by omega) (by decide)) (q_bd (q_some ⟨rfl, _, C0, C1, d_M hM hk0 hx2 (fun _ => hkd) rfl m5 (fun i j => ?_) m2⟩))
          rw [q_cl (by omega), q_r, m1]
          by_cases c1 : i = 173 ∧ j = 6 * k' + 5
          · rw [if_pos c1, if_neg (by omega), if_pos ⟨Or.inr c1.1, c1.2⟩]
          · rw [if_neg c1]
            by_cases c2 : i = 1 ∧ j = 3
            · rw [if_pos c2, if_pos c2]
            · rw [if_neg c2, if_neg c2]
              by_cases c3 : i = 2 ∧ j = 6 * k' + 5
              · rw [if_pos c3, if_pos ⟨Or.inl c3.1, c3.2⟩]
              · rw [if_neg c3, if_neg (by omega)]
        rcases hx2 with q | q
        · exact q_it q (put 0 q.symm)
        · exact q_if (by rw [q]; decide) (put 1 q.symm)
      by_cases c0 : x2 = 0
      · exact q_it c0 b81
      · refine q_if c0 ?_
        have hdm : f_X8_doubtMany n M1 = some (nI (h_B (k_r C) (k_N C))) := by
          have hE' : k_E C 173 0 M1 := k_E_f2 hE hN hV.1.2.2.1 (k_ht hV) (fun j _ _ => by rw [m1, if_neg (by omega), if_neg (by omega)])
          exact e_dm hn hV hE'
        refine q_ob (q_of hdm (q_if ?_ b81))
        have n5 : ¬ nI (h_B (k_r C) (k_N C)) = (5 : Int32) := fun q => by
          have := (nI_eq (b := 5) (by omega) (by decide)).mp q
          have := hlt c0
          omega
        exact n5
    unfold f_X7_doubt_b55 f_X3_markDoubt f_X3_markDoubt_b19
    rw [q_x6, q_p5]
    by_cases c0 : x2 = 0
    · have hb := z0 c0
      obtain ⟨B1, hB1⟩ : ∃ B1, h_B (k_r C) (k_N C) = B1 + 1 := ⟨_, hb.symm⟩
      refine q_ob (q_it c0 (q_gd (q_in (by omega) (by decide)) (q_bd (q_it c0 (q_bd (q_some ?_))))))
      rw [q_cl (by omega)]
      have e3 : (m_sI M (1 + 1) (6 * k0 + 5) 0).1 1 3 = nI (h_B (k_r C) (k_N C)) := by rw [q_r, if_neg (by omega), hBM]
      rw [e3, hB1, q_dec]
      refine q_some (fin _ rfl (fun i j => ?_) (by omega))
      rw [q_r, q_r, c0]
      by_cases c1 : i = 1 ∧ j = 3
      · rw [if_pos c1, if_pos c1]
        rw [c0] at hb
        congr 1
        omega
      · rw [if_neg c1, if_neg c1]
    · have hb := z1 c0
      have hx1 : x2 = 1 := by
        rcases hx2 with q | q
        · exact absurd q c0
        · exact q
      have := hlt c0
      refine q_ob (q_if c0 (q_gd (q_in (by omega) (by decide)) (q_bd (q_if c0 (q_bd (q_some ?_))))))
      rw [q_cl (by omega)]
      have e3 : (m_sI M (1 + 1) (6 * k0 + 5) 1).1 1 3 = nI (h_B (k_r C) (k_N C)) := by rw [q_r, if_neg (by omega), hBM]
      rw [e3, q_up]
      refine q_some (fin _ rfl (fun i j => ?_) (by omega))
      rw [q_r, q_r]
      by_cases c1 : i = 1 ∧ j = 3
      · rw [if_pos c1, if_pos c1, hb]
      · rw [if_neg c1, if_neg c1, hx1]
  have l5 : nI (h_B (k_r C) (k_N C)) < (5 : Int32) ↔ h_B (k_r C) (k_N C) < 5 := q_lt (b := 5) (by omega) (by decide)
  have rest : k_r C (6 * k0 + 5) ≠ x2 → q_T (if x2 = 0 then f_X7_doubt_b55 (nI k0) x2 M else if (M.1 1 3) < 5 then f_X7_doubt_b55 (nI k0) x2 M else some ((-4), M)) (fun a => z_eq a (f_X8_doubt n (nI k0) x2 a.2)) := by
    intro hne
    refine q_ite (fun c0 => go (fun q => hne q.symm) (fun q => absurd c0 q)) (fun c0 => ?_)
    rw [hBM]
    refine q_ite (fun c5 => go (fun q => hne q.symm) (fun _ => l5.mp c5)) (fun c5 => q_some (b59 _ ?_))
    have hs0 : ¬ (if k_r C (6 * k0 + 5) = 1 then (1 : Int32) else 0) = x2 := by
      rcases hdub.1 with q | q
      · rw [q] at hne ⊢
        rw [if_neg (by decide)]
        exact hne
      · rw [q] at hne ⊢
        rw [if_pos rfl]
        exact hne
    unfold f_X8_doubt_b59
    rw [if_neg hs0, if_neg c0, e_dm hn hV hE]
    show (if nI (h_B (k_r C) (k_N C)) = 5 then _ else _) = _
    have : h_B (k_r C) (k_N C) = 5 := by
      have : ¬ h_B (k_r C) (k_N C) < 5 := fun q => c5 (l5.mpr q)
      omega
    rw [this, if_pos (show nI 5 = (5 : Int32) from rfl)]
  by_cases c : k_r C (6 * k0 + 5) = 0
  · refine q_it c (q_some (q_ite (fun c2 => q_some (b59 _ ?_)) (fun c2 => rest (fun q => c2 (c.symm.trans q)))))
    unfold f_X8_doubt_b59
    rw [c, if_neg (show ¬ (0 : Int32) = 1 by decide), if_pos c2]
  · have c1 : k_r C (6 * k0 + 5) = 1 := by
      rcases hdub.1 with q | q
      · exact absurd q c
      · exact q
    refine q_if c (q_some (q_ite (fun c2 => q_some (b59 _ ?_)) (fun c2 => rest (fun q => c2 (c1.symm.trans q)))))
    unfold f_X8_doubt_b59
    rw [c1, if_pos rfl, if_pos c2]
