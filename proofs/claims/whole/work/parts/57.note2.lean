/-! A NOTE comes: the rows agree below -/
theorem n_cgk {r r' : Nat → Int32} {N : Nat} (e : ∀ j, j < 6 * N → r' j = r j) {k : Nat} (hk : k < N) : h_kd r' k = h_kd r k ∧ h_a r' k = h_a r k ∧ h_b r' k = h_b r k := by
  unfold h_kd h_a h_b
  rw [e _ (by omega), e _ (by omega), e _ (by omega)]
  exact ⟨rfl, rfl, rfl⟩
theorem n_cgD {r r' : Nat → Int32} {N : Nat} (e : ∀ j, j < 6 * N → r' j = r j) : ∀ k, k ≤ N → h_D r' k = h_D r k
  | 0, _ => rfl
  | k + 1, hk => by
    rw [h_D, h_D, n_cgD e k (by omega), (n_cgk e (k := k) (by omega)).1]
theorem n_cgB {r r' : Nat → Int32} {N : Nat} (e : ∀ j, j < 6 * N → r' j = r j) : ∀ k, k ≤ N → h_B r' k = h_B r k
  | 0, _ => rfl
  | k + 1, hk => by
    rw [h_B, h_B, n_cgB e k (by omega), e _ (by omega)]
theorem n_cgS {r r' : Nat → Int32} {N : Nat} (so : Nat → Bool) (e : ∀ j, j < 6 * N → r' j = r j) : ∀ k, k ≤ N → h_S r' so k = h_S r so k
  | 0, _ => rfl
  | k + 1, hk => by
    obtain ⟨a, b, c⟩ := n_cgk e (k := k) (by omega)
    rw [h_S, h_S, n_cgS so e k (by omega), a, b, e (6 * k + 5) (by omega), e (6 * k + 3) (by omega), e (6 * k + 4) (by omega), e (6 * k) (by omega)]
theorem n_rlt {r : Nat → Int32} {N k : Nat} {x1 x2 x3 x4 : Int32} : ∀ j, j < 6 * N → n_r r N k x1 x2 x3 x4 j = r j := fun j hj => if_pos hj
theorem n_rN {r : Nat → Int32} {N k : Nat} {x1 x2 x3 x4 : Int32} (i : Nat) : n_r r N k x1 x2 x3 x4 (6 * N + i) = n_rw k x1 x2 x3 x4 i := by
  unfold n_r
  rw [if_neg (by omega), show 6 * N + i - 6 * N = i by omega]
theorem n_kN {r : Nat → Int32} {N k : Nat} {x1 x2 x3 x4 : Int32} (hk : k < 15) : h_kd (n_r r N k x1 x2 x3 x4) N = k := by
  unfold h_kd
  rw [n_rN]
  exact q_cl (by omega)
theorem n_DN {r : Nat → Int32} {N k : Nat} {x1 x2 x3 x4 : Int32} (hk : k < 15) : h_D (n_r r N k x1 x2 x3 x4) (N + 1) = if k = 4 then h_D r N + 1 else h_D r N := by
  rw [h_D, n_kN hk, n_cgD n_rlt N (Nat.le_refl _)]
theorem n_BN {r : Nat → Int32} {N k : Nat} {x1 x2 x3 x4 : Int32} : h_B (n_r r N k x1 x2 x3 x4) (N + 1) = h_B r N := by
  rw [h_B, n_rN, n_cgB n_rlt N (Nat.le_refl _)]
  exact if_neg (by rw [show n_rw k x1 x2 x3 x4 5 = 0 from rfl]; simp)
def n_C (C : k_C) (k : Nat) (x1 x2 x3 x4 : Int32) : k_C := (k_P C, k_N C + 1, n_r (k_r C) (k_N C) k x1 x2 x3 x4, k_n C, k_l C, k_t C, k_x C)
def n_go (C : k_C) (x1 kd x2 x3 x4 : Int32) : Int32 × k_C := if n_dy C x1 = 0 then (-2, C) else if n_ft (k_P C) (h_D (k_r C) (k_N C)) kd x2 x3 x4 = 0 then (-2, C) else if n_mk (h_S (k_r C) h_all (k_N C)).1 kd.toNatClampNeg x2 x3 x4 = false then (-3, C) else if k_N C = 60 then (-4, C) else (nI (k_N C), n_C C kd.toNatClampNeg x1 x2 x3 x4)
theorem n_ftk {P D : Nat} {x1 x2 x3 x4 : Int32} (h : n_ft P D x1 x2 x3 x4 ≠ 0) : ∃ k, k < 15 ∧ x1 = nI k := Classical.byContradiction fun c => h (n_ft_no c)
/-- the class -/
theorem b_bring {n : Nat} {C : k_C} {M : m_M} {x1 x2 x3 x4 x5 : Int32} (hn : 200 < n) (hV : k_V C) (hA : k_A C 1 M) : q_T (f_X7_bring n x1 x2 x3 x4 x5 M) (fun a => a.1 = (n_go C x1 x2 x3 x4 x5).1 ∧ k_A (n_go C x1 x2 x3 x4 x5).2 1 a.2) := by
  have hN := hV.1.2.1
  have e2 : (n_dy C x1 = 0 ∨ n_ft (k_P C) (h_D (k_r C) (k_N C)) x2 x3 x4 x5 = 0) → n_go C x1 x2 x3 x4 x5 = (-2, C) := fun q => by
    unfold n_go
    by_cases c : n_dy C x1 = 0
    · rw [if_pos c]
    · rw [if_neg c, if_pos (by rcases q with q | q; exact absurd q c; exact q)]
  unfold f_X7_bring
  refine q_ob (q_of (b_wt hV hA) ?_)
  by_cases c1 : n_dy C x1 = 0
  · rw [if_pos c1]
    exact q_it rfl (q_some (by rw [e2 (Or.inl c1)]; exact ⟨rfl, hA⟩))
  rw [if_neg c1]
  by_cases c2 : n_ft (k_P C) (h_D (k_r C) (k_N C)) x2 x3 x4 x5 = 0
  · exact q_it c2 (q_some (by rw [e2 (Or.inr c2)]; exact ⟨rfl, hA⟩))
  refine q_if c2 ?_
  obtain ⟨k, hk, rfl⟩ := n_ftk c2
  have hF := n_fk_of (P := k_P C) (D := h_D (k_r C) (k_N C)) (by have := hV.1.1; omega) (by have := k_D60 hV (Nat.le_refl (k_N C)); omega) hk (by rw [← n_ft_k hk]; exact c2)
  refine q_ob (q_mono (k_replay (n := n) (ns := 0) hn hV hA (k_999 hV)) (fun M1 h1 => ?_))
  obtain ⟨⟨a1, _, _⟩, a4⟩ := h1
  rw [k_ns0 hV (Nat.le_refl _)] at a1
  have hA1 := k_A_fr hA (k_fr_h a4) (by omega)
  refine q_ob (q_of (b_ref hn hV a1 hk hF) ?_)
  by_cases c3 : n_mk (h_S (k_r C) h_all (k_N C)).1 k x3 x4 x5 = false
  · have e : n_go C x1 (nI k) x3 x4 x5 = (-3, C) := by
      unfold n_go
      rw [if_neg c1, if_neg c2, q_cl (by omega), if_pos c3]
    rw [e, c3]
    exact q_if (by decide) (q_some ⟨rfl, hA1⟩)
  have c3' : n_mk (h_S (k_r C) h_all (k_N C)).1 k x3 x4 x5 = true := by
    revert c3
    cases n_mk (h_S (k_r C) h_all (k_N C)).1 k x3 x4 x5 <;> simp
  rw [c3']
  refine q_it (by decide) ?_
  rw [hA1.2.1]
  by_cases c4 : k_N C = 60
  · have e : n_go C x1 (nI k) x3 x4 x5 = (-4, C) := by
      unfold n_go
      rw [if_neg c1, if_neg c2, q_cl (by omega), if_neg c3, if_pos c4]
    rw [e]
    exact q_if (fun q => absurd ((q_lt (b := 60) (by omega) (by decide)).mp q) (by omega)) (q_some ⟨rfl, hA1⟩)
  have e : n_go C x1 (nI k) x3 x4 x5 = (nI (k_N C), n_C C k x1 x3 x4 x5) := by
    unfold n_go
    rw [if_neg c1, if_neg c2, q_cl (by omega), if_neg c3, if_neg c4]
  rw [e]
  refine q_it ((q_lt (b := 60) (by omega) (by decide)).mpr (by omega)) (q_o2 (q_mono (b_add (x1 := x1) (x2 := x3) (x3 := x4) (x4 := x5) (show k_N C < 60 by omega) hk hA1.2.1 hA1.2.2.1) (fun a ha => ?_)))
  obtain ⟨h1, h2, h3⟩ := ha
  refine q_some ⟨h1, ?_⟩
  obtain ⟨b0, b1, b2, b3, b4, b5, b6, b7⟩ := hA1
  have fr : ∀ i j, ¬ (i = 1 ∧ j = 1) → ¬ (i = 1 ∧ j = 2) → i ≠ 2 → a.2.1 i j = M1.1 i j := fun i j q1 q2 q3 => by rw [h3, if_neg q1, if_neg q2, if_neg (by omega)]
  refine ⟨(fr _ _ (by omega) (by omega) (by omega)).trans b0, ?_, ?_, ?_, (fr _ _ (by omega) (by omega) (by omega)).trans b4, fun j hj => ?_, fun j hj => (fr _ _ (by omega) (by omega) (by omega)).trans (b6 j hj), fun l hl => ?_⟩
  · rw [h3, if_pos ⟨rfl, rfl⟩]
    rfl
  · show a.2.1 1 2 = nI (h_D (n_r (k_r C) (k_N C) k x1 x3 x4 x5) (k_N C + 1))
    rw [h3, if_neg (by omega), if_pos ⟨rfl, rfl⟩, n_DN hk]
    by_cases c : k = 4
    · rw [if_pos c, if_pos c]
    · rw [if_neg c, if_neg c]
  · show a.2.1 1 3 = nI (h_B (n_r (k_r C) (k_N C) k x1 x3 x4 x5) (k_N C + 1))
    rw [n_BN]
    exact (fr _ _ (by omega) (by omega) (by omega)).trans b3
  · show a.2.1 2 j = n_r (k_r C) (k_N C) k x1 x3 x4 x5 j
    have hj' : j < 6 * (k_N C + 1) := hj
    rw [h3, if_neg (by omega), if_neg (by omega)]
    unfold n_r
    by_cases c : j < 6 * k_N C
    · rw [if_neg (by omega), if_pos c]
      exact b5 j c
    · rw [if_pos ⟨rfl, by omega, by omega⟩, if_neg c]
  · obtain ⟨d0, d1, fl, val, c, c'⟩ := b7 l hl
    exact ⟨(fr _ _ (by omega) (by omega) (by omega)).trans d0, fun j hj => (fr _ _ (by omega) (by omega) (by omega)).trans (d1 j hj), fl, val, e_YC_fr c (fun j => fr _ _ (by omega) (by omega) (by omega)) (fun j => fr _ _ (by omega) (by omega) (by omega)) (fun j => by rw [h2]), c'⟩
