/-! CALLS: fault; another law -/
def k_setl (C : k_C) (L T : Nat) (tx : Nat → Int32) : k_C := (k_P C, k_N C, k_r C, k_n C, k_l C, fun i => if i = L then T else k_t C i, fun i => if i = L then tx else k_x C i)
theorem k_setl_V {C : k_C} {L T : Nat} {tx : Nat → Int32} (hV : k_V C) (hT : T ≤ 50) (hx : ∀ j, j < T → ∃ c, c < 128 ∧ tx j = nI c) : k_V (k_setl C L T tx) := by
  obtain ⟨v, w, r, m, a, p, l1, l2, x⟩ := hV
  refine ⟨v, w, r, m, a, p, l1, l2, fun l hl => ?_⟩
  show (if l = L then T else k_t C l) ≤ 50 ∧ ∀ j, j < (if l = L then T else k_t C l) → ∃ c, c < 128 ∧ (if l = L then tx else k_x C l) j = nI c
  by_cases c : l = L
  · rw [if_pos c, if_pos c]
    exact ⟨hT, hx⟩
  · rw [if_neg c, if_neg c]
    exact x l hl
theorem k_setl_A {C : k_C} {L T : Nat} {tx : Nat → Int32} {M M' : m_M} (hL : L < 2) (h : k_A C 1 M) (e : ∀ i j, 1 ≤ i → i ≤ 14 → ¬ (5 + 5 * L ≤ i ∧ i ≤ 9 + 5 * L) → M'.1 i j = M.1 i j) (e2 : ∀ i j, i = 8 ∨ i = 13 → i ≠ 8 + 5 * L → M'.2 i j = M.2 i j) (h1 : M'.1 (5 + 5 * L) 1 = nI T) (hx : ∀ j, j < T → M'.1 (6 + 5 * L) j = tx j) (hZ : k_Z (5 + 5 * L) M' T tx) : k_A (k_setl C L T tx) 1 M' := by
  obtain ⟨a0, a1, a2, a3, a4, a5, a6, a7⟩ := h
  refine ⟨(e _ _ (by omega) (by omega) (by omega)).trans a0, (e _ _ (by omega) (by omega) (by omega)).trans a1, (e _ _ (by omega) (by omega) (by omega)).trans a2, (e _ _ (by omega) (by omega) (by omega)).trans a3, (e _ _ (by omega) (by omega) (by omega)).trans a4, fun j hj => (e _ _ (by omega) (by omega) (by omega)).trans (a5 j hj), fun j hj => (e _ _ (by omega) (by omega) (by omega)).trans (a6 j hj), fun l hl => ?_⟩
  show M'.1 (1 + 4 + 5 * l) 1 = nI (if l = L then T else k_t C l) ∧ (∀ j, j < (if l = L then T else k_t C l) → M'.1 (1 + 5 + 5 * l) j = (if l = L then tx else k_x C l) j) ∧ k_Z (1 + 4 + 5 * l) M' (if l = L then T else k_t C l) (if l = L then tx else k_x C l)
  by_cases c : l = L
  · subst c
    rw [if_pos rfl, if_pos rfl, show 1 + 4 + 5 * l = 5 + 5 * l by omega, show 1 + 5 + 5 * l = 6 + 5 * l by omega]
    exact ⟨h1, hx, hZ⟩
  · rw [if_neg c, if_neg c]
    obtain ⟨b0, b1, fl, val, y, y'⟩ := a7 l hl
    exact ⟨(e _ _ (by omega) (by omega) (by omega)).trans b0, fun j hj => (e _ _ (by omega) (by omega) (by omega)).trans (b1 j hj), fl, val, e_YC_fr y (fun j => e _ _ (by omega) (by omega) (by omega)) (fun j => e _ _ (by omega) (by omega) (by omega)) (fun j => e2 _ _ (by omega) (by omega)), y'⟩
theorem k_setl_E {C : k_C} {L T : Nat} {tx : Nat → Int32} {M M' : m_M} (hL : L < 2) (hV : k_V C) (hT : T ≤ 50) (h : k_E C 173 0 M) (e : ∀ j, ¬ (360 + 51 * L ≤ j ∧ j ≤ 410 + 51 * L) → M'.1 173 j = M.1 173 j) (h1 : M'.1 173 (360 + 51 * L) = nI T) (hx : ∀ j, j < T → M'.1 173 (361 + 51 * L + j) = tx j) : k_E (k_setl C L T tx) 173 0 M' := by
  have hN := hV.1.2.1
  have ht := k_ht hV
  obtain ⟨a0, a1, a2, a5, a6, a7⟩ := h
  refine ⟨(e _ (by omega)).trans a0, (e _ (by omega)).trans a1, (e _ (by omega)).trans a2, fun j hj => (e _ (by have : j < 6 * k_N C := hj; omega)).trans (a5 j hj), fun j hj => (e _ (by omega)).trans (a6 j hj), fun l hl => ?_⟩
  show M'.1 173 (0 + 360 + 51 * l) = nI (if l = L then T else k_t C l) ∧ ∀ j, j < (if l = L then T else k_t C l) → M'.1 173 (0 + 361 + 51 * l + j) = (if l = L then tx else k_x C l) j
  by_cases c : l = L
  · subst c
    rw [if_pos rfl, if_pos rfl, show 0 + 360 + 51 * l = 360 + 51 * l by omega]
    exact ⟨h1, fun j hj => by rw [show 0 + 361 + 51 * l + j = 361 + 51 * l + j by omega]; exact hx j hj⟩
  · rw [if_neg c, if_neg c]
    have := ht l hl
    exact ⟨(e _ (by omega)).trans (a7 l hl).1, fun j hj => (e _ (by omega)).trans ((a7 l hl).2 j hj)⟩
