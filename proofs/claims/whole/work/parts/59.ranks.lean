/-! A NOTE that came keeps the order: ranks -/
theorem h_st12 {S : Nat → Nat → Int32} {D kd a i : Nat} {day b v : Int32} (hk : kd < 15) : h_st S D kd a day b v 12 i = if kd = 4 ∧ i = D then v else S 12 i := by
  have hc : kd = 0 ∨ kd = 1 ∨ kd = 2 ∨ kd = 3 ∨ kd = 4 ∨ kd = 5 ∨ kd = 6 ∨ kd = 7 ∨ kd = 8 ∨ kd = 9 ∨ kd = 10 ∨ kd = 11 ∨ kd = 12 ∨ kd = 13 ∨ kd = 14 := by omega
  rcases hc with e | e | e | e | e | e | e | e | e | e | e | e | e | e | e <;> subst e <;> simp [h_st, h_up, h_dl]
def n_cn (f : Nat → Bool) : Nat → Nat
  | 0 => 0
  | k + 1 => if f k then n_cn f k + 1 else n_cn f k
theorem n_cn_le (f : Nat → Bool) : ∀ k, n_cn f k ≤ k
  | 0 => Nat.le_refl 0
  | k + 1 => by
    have := n_cn_le f k
    rw [n_cn]
    split <;> omega
theorem n_cn_lt {f : Nat → Bool} {p : Nat} (hf : f p = false) : ∀ k, p < k → n_cn f k < k
  | 0, h => absurd h (Nat.not_lt_zero _)
  | k + 1, h => by
    rw [n_cn]
    by_cases c : p = k
    · rw [if_neg (by rw [← c, hf]; decide)]
      have := n_cn_le f k
      omega
    · have := n_cn_lt hf k (by omega)
      split <;> omega
theorem n_cn_mono {f g : Nat → Bool} (h : ∀ i, f i = true → g i = true) : ∀ k, n_cn f k ≤ n_cn g k
  | 0 => Nat.le_refl 0
  | k + 1 => by
    have := n_cn_mono h k
    rw [n_cn, n_cn]
    by_cases c : f k = true
    · rw [if_pos c, if_pos (h k c)]
      omega
    · rw [if_neg c]
      split <;> omega
theorem n_cn_mlt {f g : Nat → Bool} {p : Nat} (h : ∀ i, f i = true → g i = true) (h1 : f p = false) (h2 : g p = true) : ∀ k, p < k → n_cn f k < n_cn g k
  | 0, q => absurd q (Nat.not_lt_zero _)
  | k + 1, q => by
    have m := n_cn_mono h k
    rw [n_cn, n_cn]
    by_cases c : p = k
    · subst c
      rw [if_neg (by rw [h1]; decide), if_pos h2]
      omega
    · have := n_cn_mlt h h1 h2 k (by omega)
      by_cases d : f k = true
      · rw [if_pos d, if_pos (h k d)]
        omega
      · rw [if_neg d]
        split <;> omega
/-- ranks of any height will do -/
theorem n_ac_of {S : Nat → Nat → Int32} {P : Nat} (h1 : ∀ p, p < P → S 0 p = -1 ∨ ∃ q, q < P ∧ S 0 p = nI q) (ρ : Nat → Nat) (h2 : ∀ p q, p < P → q < P → S 0 p = nI q → ρ q < ρ p) : e_ac S P := by
  refine ⟨h1, fun p => n_cn (fun i => decide (ρ i < ρ p)) P, fun p hp => n_cn_lt (p := p) (decide_eq_false (Nat.lt_irrefl _)) P hp, fun p q hp hq e => ?_⟩
  have h := h2 p q hp hq e
  exact n_cn_mlt (p := q) (fun i hi => decide_eq_true (Nat.lt_trans (of_decide_eq_true hi) h)) (decide_eq_false (Nat.lt_irrefl _)) (decide_eq_true h) P hq
theorem n_hit_fu {S : Nat → Nat → Int32} {P : Nat} {t : Int32} {ρ : Nat → Nat} (h1 : ∀ p, p < P → S 0 p = -1 ∨ ∃ q, q < P ∧ S 0 p = nI q) (h2 : ∀ p q, p < P → q < P → S 0 p = nI q → ρ q < ρ p) (hP : P ≤ 10) : ∀ (m f f' : Nat) (x : Int32), (x = -1 ∨ ∃ p, p < P ∧ x = nI p ∧ ρ p < m) → m < f → m < f' → n_hit S t f x = n_hit S t f' x := by
  intro m
  induction m with
  | zero =>
    intro f f' x hx hf hf'
    obtain ⟨f, rfl⟩ : ∃ v, f = v + 1 := ⟨f - 1, by omega⟩
    obtain ⟨f', rfl⟩ : ∃ v, f' = v + 1 := ⟨f' - 1, by omega⟩
    have hx' : x = -1 := by
      rcases hx with q | ⟨p, _, _, q⟩
      · exact q
      · omega
    rw [n_hit, n_hit, if_pos hx', if_pos hx']
  | succ m ih =>
    intro f f' x hx hf hf'
    obtain ⟨f, rfl⟩ : ∃ v, f = v + 1 := ⟨f - 1, by omega⟩
    obtain ⟨f', rfl⟩ : ∃ v, f' = v + 1 := ⟨f' - 1, by omega⟩
    rw [n_hit, n_hit]
    by_cases c1 : x = -1
    · rw [if_pos c1, if_pos c1]
    · rw [if_neg c1, if_neg c1]
      by_cases c2 : x = t
      · rw [if_pos c2, if_pos c2]
      · rw [if_neg c2, if_neg c2]
        obtain ⟨p, p1, rfl, p3⟩ : ∃ p, p < P ∧ x = nI p ∧ ρ p < m + 1 := by
          rcases hx with q | q
          · exact absurd q c1
          · exact q
        rw [q_cl (by omega)]
        refine ih f f' _ ?_ (by omega) (by omega)
        rcases h1 p p1 with q | ⟨q, q1, q2⟩
        · exact Or.inl q
        · exact Or.inr ⟨q, q1, q2, by have := h2 p q p1 q1 q2; omega⟩
/-- a is laid in b's hand, b is not in a's -/
theorem n_ac_0 {S S' : Nat → Nat → Int32} {P a b : Nat} (hP : P ≤ 10) (ha : a < P) (hb : b < P) (h : e_ac S P) (hit : n_hit S (nI a) 11 (nI b) = false) (e : ∀ p, S' 0 p = if p = a then nI b else S 0 p) : e_ac S' P := by
  obtain ⟨h1, ρ, h2, h3⟩ := h
  have fu : ∀ q, q < P → n_hit S (nI a) 10 (nI q) = n_hit S (nI a) 11 (nI q) ∨ ρ q = 9 := fun q hq => by
    by_cases c : ρ q = 9
    · exact Or.inr c
    · exact Or.inl (n_hit_fu (m := 9) h1 h3 hP 10 11 _ (Or.inr ⟨q, hq, rfl, by have := h2 q hq; omega⟩) (by omega) (by omega))
  refine n_ac_of (fun p hp => ?_) (fun p => if n_hit S (nI a) 11 (nI p) then ρ p + ρ b + 1 else ρ p) (fun p q hp hq c => ?_)
  · rw [e]
    by_cases c : p = a
    · rw [if_pos c]
      exact Or.inr ⟨b, hb, rfl⟩
    · rw [if_neg c]
      exact h1 p hp
  · rw [e] at c
    by_cases d : p = a
    · rw [if_pos d] at c
      have c' := (nI_eq (by omega) (by omega)).mp c
      subst c' d
      have ht : n_hit S (nI p) 11 (nI p) = true := by
        rw [n_hit, if_neg (q_m1 (by omega)), if_pos rfl]
      show (if n_hit S (nI p) 11 (nI b) then ρ b + ρ b + 1 else ρ b) < (if n_hit S (nI p) 11 (nI p) then ρ p + ρ b + 1 else ρ p)
      rw [hit, ht, if_pos rfl, if_neg (by decide)]
      omega
    · rw [if_neg d] at c
      have hr := h3 p q hp hq c
      have hp2 := h2 p hp
      have s : n_hit S (nI a) 11 (nI p) = n_hit S (nI a) 11 (nI q) := by
        rw [n_hit, if_neg (q_m1 (by omega)), if_neg (fun w => d ((nI_eq (by omega) (by omega)).mp w)), q_cl (by omega), c]
        rcases fu q hq with w | w
        · exact w
        · omega
      show (if n_hit S (nI a) 11 (nI q) then ρ q + ρ b + 1 else ρ q) < (if n_hit S (nI a) 11 (nI p) then ρ p + ρ b + 1 else ρ p)
      rw [s]
      split <;> omega
/-- a goes out of every hand -/
theorem n_ac_1 {S S' : Nat → Nat → Int32} {P a : Nat} (hP : P ≤ 10) (h : e_ac S P) (e : ∀ p, S' 0 p = if p = a then -1 else S 0 p) : e_ac S' P := by
  obtain ⟨h1, ρ, h2, h3⟩ := h
  refine ⟨fun p hp => ?_, ρ, h2, fun p q hp hq c => ?_⟩
  · rw [e]
    by_cases c : p = a
    · rw [if_pos c]
      exact Or.inl rfl
    · rw [if_neg c]
      exact h1 p hp
  · rw [e] at c
    by_cases d : p = a
    · rw [if_pos d] at c
      exact absurd c.symm (q_m1 (by omega))
    · rw [if_neg d] at c
      exact h3 p q hp hq c
