/-! CALLS: image, from: the reference copies -/
theorem a_im12 {n L : Nat} {x1 : Int32} (hL : L < 2) : ∀ (d x u : Nat) (M : m_M), x + d = 471 → d < u → q_T (f_X8_image_b12 n (nI L) u (nI x) M) (fun a => a.1 = 1 ∧ a.2.2 = M.2 ∧ ∀ i j, a.2.1 i j = if i = 175 ∧ j = L then 1 else if i = 174 ∧ 471 * L + x ≤ j ∧ j < 471 * L + 471 then M.1 173 (j - 471 * L) else M.1 i j) := by
  intro d
  induction d with
  | zero =>
    intro x u M hx hu
    obtain ⟨u, rfl⟩ : ∃ v, u = v + 1 := ⟨u - 1, by omega⟩
    have l471 : (471 : Int32) ≤ nI x ↔ 471 ≤ x := q_le (a := 471) (by decide) (by omega)
    rw [f_X8_image_b12]
    refine q_it (l471.mpr (by omega)) (q_gd (q_in hL (by decide)) (q_bd (q_some ⟨rfl, rfl, fun i j => ?_⟩)))
    rw [q_cl (by omega), q_r]
    by_cases c : i = 175 ∧ j = L
    · rw [if_pos c, if_pos c]
    · rw [if_neg c, if_neg c, if_neg (by omega)]
  | succ d ih =>
    intro x u M hx hu
    obtain ⟨u, rfl⟩ : ∃ v, u = v + 1 := ⟨u - 1, by omega⟩
    have l471 : (471 : Int32) ≤ nI x ↔ 471 ≤ x := q_le (a := 471) (by decide) (by omega)
    rw [f_X8_image_b12]
    refine q_if (fun q => absurd (l471.mp q) (by omega)) (q_gd (q_in (by omega) (by decide)) ?_)
    rw [show (471 : Int32) * nI L = nI (471 * L) from q_mul 471 L, q_add]
    refine q_gd (q_in (by omega) (by decide)) (q_bd ?_)
    rw [q_cl (by omega), q_cl (by omega), q_up]
    refine q_mono (ih (x + 1) u _ (by omega) (by omega)) (fun a ha => ?_)
    obtain ⟨a1, a2, a3⟩ := ha
    refine ⟨a1, a2, fun i j => ?_⟩
    rw [a3, q_r, q_r, if_neg (show ¬ (173 = 174 ∧ j - 471 * L = 471 * L + x) by omega)]
    by_cases c : i = 175 ∧ j = L
    · rw [if_pos c, if_pos c]
    · rw [if_neg c, if_neg c]
      by_cases e : i = 174 ∧ j = 471 * L + x
      · rw [if_neg (by omega), if_pos e, if_pos (by omega), e.2, show 471 * L + x - 471 * L = x by omega]
      · rw [if_neg e]
        by_cases f : i = 174 ∧ 471 * L + (x + 1) ≤ j ∧ j < 471 * L + 471
        · rw [if_pos f, if_pos (by omega)]
        · rw [if_neg f, if_neg (by omega)]
theorem a_fr24 {n L : Nat} {x1 : Int32} (hL : L < 2) : ∀ (d x u : Nat) (M : m_M), x + d = 471 → d < u → q_T (f_X8_from_b24 n (nI L) u (nI x) M) (fun a => a.1 = 1 ∧ a.2.2 = M.2 ∧ ∀ i j, a.2.1 i j = if i = 173 ∧ x ≤ j ∧ j < 471 then M.1 174 (471 * L + j) else M.1 i j) := by
  intro d
  induction d with
  | zero =>
    intro x u M hx hu
    obtain ⟨u, rfl⟩ : ∃ v, u = v + 1 := ⟨u - 1, by omega⟩
    have l471 : (471 : Int32) ≤ nI x ↔ 471 ≤ x := q_le (a := 471) (by decide) (by omega)
    rw [f_X8_from_b24]
    exact q_it (l471.mpr (by omega)) (q_some ⟨rfl, rfl, fun i j => by rw [if_neg (by omega)]⟩)
  | succ d ih =>
    intro x u M hx hu
    obtain ⟨u, rfl⟩ : ∃ v, u = v + 1 := ⟨u - 1, by omega⟩
    have l471 : (471 : Int32) ≤ nI x ↔ 471 ≤ x := q_le (a := 471) (by decide) (by omega)
    rw [f_X8_from_b24]
    refine q_if (fun q => absurd (l471.mp q) (by omega)) ?_
    rw [show (471 : Int32) * nI L = nI (471 * L) from q_mul 471 L, q_add]
    refine q_gd (q_in (by omega) (by decide)) (q_gd (q_in (by omega) (by decide)) (q_bd ?_))
    rw [q_cl (by omega), q_cl (by omega), q_up]
    refine q_mono (ih (x + 1) u _ (by omega) (by omega)) (fun a ha => ?_)
    obtain ⟨a1, a2, a3⟩ := ha
    refine ⟨a1, a2, fun i j => ?_⟩
    rw [a3, q_r, q_r, if_neg (show ¬ (174 = 173 ∧ 471 * L + j = x) by omega)]
    by_cases e : i = 173 ∧ j = x
    · rw [if_neg (by omega), if_pos e, if_pos (by omega), e.2]
    · rw [if_neg e]
      by_cases f : i = 173 ∧ x + 1 ≤ j ∧ j < 471
      · rw [if_pos f, if_pos (by omega)]
      · rw [if_neg f, if_neg (by omega)]
