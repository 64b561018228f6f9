/-! THE INVARIANT of class and reference, and the tests of the calls' numbers -/
/-- what is kept: persons, notes, the rows, the line's length, the line, the laws' lengths, the laws -/
abbrev k_C : Type := Nat × Nat × (Nat → Int32) × Nat × (Nat → Int32) × (Nat → Nat) × (Nat → Nat → Int32)
abbrev k_P (C : k_C) : Nat := C.1
abbrev k_N (C : k_C) : Nat := C.2.1
abbrev k_r (C : k_C) : Nat → Int32 := C.2.2.1
abbrev k_n (C : k_C) : Nat := C.2.2.2.1
abbrev k_l (C : k_C) : Nat → Int32 := C.2.2.2.2.1
abbrev k_t (C : k_C) : Nat → Nat := C.2.2.2.2.2.1
abbrev k_x (C : k_C) : Nat → Nat → Int32 := C.2.2.2.2.2.2
def e_five (f : Nat → Int64) : Nat → Int64 := fun i => if i < 5 then f i else 0
/-- the class's law at k: its fault, and what it tells -/
def k_YC (k : Nat) (M : m_M) (fl : Int32) (val : (Nat → Int64) → Int64) : Prop := M.1 k 7 = fl ∧ (fl = -1 → ∀ (n : Nat) (M2 : m_M), 60 < n → (∀ j, M2.1 k j = M.1 k j) → (∀ j, M2.1 (k + 2) j = M.1 (k + 2) j) → (∀ j, M2.2 (k + 3) j = M.2 (k + 3) j) → q_T (f_X4_work n k M2) (fun a => a.1 = val (e_five (M2.2 48))))
/-- the reference reads such a text so -/
def k_YR (tl : Nat) (tx : Nat → Int32) (fl : Int32) (val : (Nat → Int64) → Int64) : Prop := ∀ (n l : Nat) (M2 : m_M), 200 < n → l < 2 → M2.1 172 36 = nI l → M2.1 173 (360 + 51 * l) = nI tl → (∀ j, j < tl → M2.1 173 (361 + 51 * l + j) = tx j) → q_T (f_X8_reads n M2) (fun a => a.1 = (if fl = -1 then 1 else 0) ∧ a.2.1 172 38 = fl ∧ (fl = -1 → a.2.2 172 44 = val (e_five (M2.2 194))))
def k_Z (k : Nat) (M : m_M) (tl : Nat) (tx : Nat → Int32) : Prop := ∃ fl val, k_YC k M fl val ∧ k_YR tl tx fl val
/-- the class's side -/
def k_A (C : k_C) (k : Nat) (M : m_M) : Prop := M.1 k 0 = nI (k_P C) ∧ M.1 k 1 = nI (k_N C) ∧ M.1 k 2 = nI (h_D (k_r C) (k_N C)) ∧ M.1 k 3 = nI (h_B (k_r C) (k_N C)) ∧ M.1 k 4 = nI (k_n C) ∧ (∀ j, j < 6 * k_N C → M.1 (k + 1) j = k_r C j) ∧ (∀ j, j < k_n C → M.1 (k + 2) j = k_l C j) ∧ ∀ l, l < 2 → M.1 (k + 4 + 5 * l) 1 = nI (k_t C l) ∧ (∀ j, j < k_t C l → M.1 (k + 5 + 5 * l) j = k_x C l j) ∧ k_Z (k + 4 + 5 * l) M (k_t C l) (k_x C l)
/-- the reference's side -/
def k_E (C : k_C) (c o : Nat) (M : m_M) : Prop := M.1 c (o + 468) = nI (k_P C) ∧ M.1 c (o + 469) = nI (k_N C) ∧ M.1 c (o + 470) = nI (k_n C) ∧ (∀ j, j < 6 * k_N C → M.1 c (o + j) = k_r C j) ∧ (∀ j, j < k_n C → M.1 c (o + 462 + j) = k_l C j) ∧ ∀ l, l < 2 → M.1 c (o + 360 + 51 * l) = nI (k_t C l) ∧ ∀ j, j < k_t C l → M.1 c (o + 361 + 51 * l + j) = k_x C l j
/-- nobody is in the hand of his own: ranks -/
def e_ac (S : Nat → Nat → Int32) (P : Nat) : Prop := (∀ p, p < P → S 0 p = -1 ∨ ∃ q, q < P ∧ S 0 p = nI q) ∧ ∃ ρ : Nat → Nat, (∀ p, p < P → ρ p < P) ∧ ∀ p q, p < P → q < P → S 0 p = nI q → ρ q < ρ p
def h_all : Nat → Bool := fun _ => true
/-- what one row must be, P persons there -/
def k_row (r : Nat → Int32) (P k : Nat) : Prop := (∃ d, d < 1000 ∧ r (6 * k) = nI d) ∧ (¬ h_isd (h_kd r k) → h_a r k < P) ∧ (h_kd r k = 0 → r (6 * k + 3) = -1 ∨ ∃ b, b < P ∧ r (6 * k + 3) = nI b) ∧ (h_kd r k = 11 ∨ h_kd r k = 12 → h_b r k < P) ∧ (h_kd r k = 14 → ∃ b, b < 3 ∧ r (6 * k + 3) = nI b) ∧ (1 ≤ h_kd r k ∧ h_kd r k ≤ 4 ∨ 9 ≤ h_kd r k ∧ h_kd r k ≤ 13 → ∃ v, 1 ≤ v ∧ v ≤ 1000 ∧ r (6 * k + 4) = nI v)
def k_V (C : k_C) : Prop := (k_P C ≤ 10 ∧ k_N C ≤ 60 ∧ k_n C ≤ 6 ∧ h_B (k_r C) (k_N C) ≤ 5) ∧ h_W (k_r C) (k_N C) ∧ (∀ k, k < k_N C → k_row (k_r C) (k_P C) k) ∧ (∀ a b, a ≤ b → b < k_N C → k_r C (6 * a) ≤ k_r C (6 * b)) ∧ (∀ k, k ≤ k_N C → e_ac (h_S (k_r C) h_all k).1 (k_P C)) ∧ (∀ d, d < h_D (k_r C) (k_N C) → (h_S (k_r C) h_all (k_N C)).1 13 d ≤ (h_S (k_r C) h_all (k_N C)).1 12 d) ∧ (∀ i, i < k_n C → ∃ d, d < h_D (k_r C) (k_N C) ∧ k_l C i = nI d) ∧ (∀ i j, i < j → j < k_n C → k_l C i ≠ k_l C j) ∧ ∀ l, l < 2 → k_t C l ≤ 50 ∧ ∀ j, j < k_t C l → ∃ c, c < 128 ∧ k_x C l j = nI c
/-- an image -/
def k_I (C : k_C) (i : Nat) (M : m_M) : Prop := M.1 44 i = M.1 175 i ∧ m_B (M.1 44 i) ∧ (M.1 44 i = 1 → k_V C ∧ k_A C (16 + 14 * i) M ∧ k_E C 174 (471 * i) M)
/-- the text -/
def k_T (M : m_M) : Prop := ∃ T, T ≤ 300 ∧ M.1 168 1 = nI T ∧ M.1 172 4 = nI T ∧ ∀ j, j < T → M.1 169 j = M.1 176 j ∧ ∃ c, c < 256 ∧ M.1 169 j = nI c
def k_M (C C0 C1 : k_C) (M : m_M) : Prop := (k_V C ∧ k_A C 1 M ∧ k_E C 173 0 M) ∧ (k_I C0 0 M ∧ k_I C1 1 M) ∧ k_T M ∧ M.2 0 8 = M.2 172 5 ∧ M.2 0 9 = M.2 172 6
def k_Inv (M : m_M) : Prop := ∃ C C0 C1, k_M C C0 C1 M
/-! tests -/
def e_in (x : Int32) (n : Nat) : Int32 := if x < 0 then 0 else if nI n ≤ x then 0 else 1
theorem e_in_eq {x : Int32} {n : Nat} (hn : n < 2 ^ 31) : f_X8_isIn x.toInt64 0 ((nI n - 1).toInt64) = e_in x n := by
  unfold f_X8_isIn e_in
  have h1 : (x.toInt64 < 0) ↔ x < 0 := by
    rw [Int64.lt_iff_toInt_lt, Int32.lt_iff_toInt_lt, Int32.toInt_toInt64]
    exact Iff.rfl
  have h2 : ((nI n - 1).toInt64 < x.toInt64) ↔ ¬ x < 0 ∧ nI n ≤ x ∨ n = 0 ∧ x = 0 ∧ False ∨ (nI n - 1).toInt < x.toInt := by
    rw [Int64.lt_iff_toInt_lt, Int32.toInt_toInt64, Int32.toInt_toInt64]
    constructor
    · intro h
      exact Or.inr (Or.inr h)
    · rintro (h | h | h)
      · obtain ⟨ha, hb⟩ := h
        rw [Int32.lt_iff_toInt_lt] at ha
        rw [Int32.le_iff_toInt_le, nI_toInt hn] at hb
        have h0 : (0 : Int32).toInt = 0 := rfl
        rcases Nat.eq_zero_or_pos n with e | e
        · subst e
          have : (nI 0 - 1).toInt = -1 := by decide
          omega
        · obtain ⟨m, rfl⟩ : ∃ m, n = m + 1 := ⟨n - 1, by omega⟩
          rw [nI_pred, nI_toInt (by omega)]
          omega
      · exact absurd h.2.2 id
      · exact h
  by_cases c : x < 0
  · rw [if_pos (h1.mpr c), if_pos c]
  · rw [if_neg (fun q => c (h1.mp q)), if_neg c]
    by_cases c2 : nI n ≤ x
    · rw [if_pos (h2.mpr (Or.inl ⟨c, c2⟩)), if_pos c2]
    · rw [if_neg, if_neg c2]
      intro q
      rcases h2.mp q with h | h | h
      · exact c2 h.2
      · exact h.2.2
      · apply c2
        rw [Int32.le_iff_toInt_le, nI_toInt hn]
        rcases Nat.eq_zero_or_pos n with e | e
        · subst e
          rw [Int32.lt_iff_toInt_lt] at c
          have h0 : (0 : Int32).toInt = 0 := rfl
          omega
        · obtain ⟨m, rfl⟩ : ∃ m, n = m + 1 := ⟨n - 1, by omega⟩
          rw [nI_pred, nI_toInt (by omega)] at h
          omega
theorem e_in_of {x : Int32} {n : Nat} (hn : n < 2 ^ 31) : (e_in x n = 0 ∧ ¬ ∃ d, d < n ∧ x = nI d) ∨ e_in x n = 1 ∧ ∃ d, d < n ∧ x = nI d := by
  unfold e_in
  by_cases c : x < 0
  · rw [if_pos c]
    refine Or.inl ⟨rfl, ?_⟩
    rintro ⟨d, hd, rfl⟩
    exact nI_pos (by omega) c
  · rw [if_neg c]
    obtain ⟨j, hj, rfl⟩ := nI_of c
    by_cases c2 : nI n ≤ nI j
    · rw [if_pos c2]
      refine Or.inl ⟨rfl, ?_⟩
      rintro ⟨d, hd, e⟩
      have := (q_le hn hj).mp c2
      have := (nI_eq hj (by omega)).mp e
      omega
    · rw [if_neg c2]
      refine Or.inr ⟨rfl, j, ?_, rfl⟩
      have h : ¬ n ≤ j := fun q => c2 ((q_le hn hj).mpr q)
      omega
theorem e_day7 (x : Int32) : f_X7_isDay x = e_in x 1000 := by
  unfold f_X7_isDay e_in
  rw [show nI 1000 = 1000 by decide +kernel]
theorem e_day8 (x : Int32) : f_X8_isDay x = e_in x 1000 := by
  have h := e_in_eq (x := x) (n := 1000) (by decide)
  rw [show (nI 1000 - 1).toInt64 = 999 by decide +kernel] at h
  unfold f_X8_isDay
  simp only [m_bd]
  exact h
theorem e_law7 (x : Int32) : f_X7_isLaw x = e_in x 2 := by
  unfold f_X7_isLaw e_in
  rw [show nI 2 = 2 by decide +kernel]
theorem e_law8 (x : Int32) : f_X8_isLaw x = e_in x 2 := by
  have h := e_in_eq (x := x) (n := 2) (by decide)
  rw [show (nI 2 - 1).toInt64 = 1 by decide +kernel] at h
  unfold f_X8_isLaw
  simp only [m_bd]
  exact h
theorem e_ask7 (x : Int32) : f_X7_isAsk x = e_in x 4 := by
  unfold f_X7_isAsk e_in
  rw [show nI 4 = 4 by decide +kernel]
theorem e_ask8 (x : Int32) : f_X8_isAsk x = e_in x 4 := by
  have h := e_in_eq (x := x) (n := 4) (by decide)
  rw [show (nI 4 - 1).toInt64 = 3 by decide +kernel] at h
  unfold f_X8_isAsk
  simp only [m_bd]
  exact h
theorem e_per7 {x : Int32} {M : m_M} {P : Nat} (h : M.1 1 0 = nI P) : f_X7_isPerson x M = e_in x P := by
  unfold f_X7_isPerson
  rw [h]
  rfl
theorem e_per8 {x : Int32} {M : m_M} {P : Nat} (hP : P < 2 ^ 31) (h : M.1 173 468 = nI P) : f_X8_isPerson x M = e_in x P := by
  unfold f_X8_isPerson f_X8_persons
  simp only [m_bd]
  rw [h]
  exact e_in_eq hP
theorem e_dl7 {x : Int32} {M : m_M} {P : Nat} (h : M.1 1 2 = nI P) : f_X7_isDeal x M = e_in x P := by
  unfold f_X7_isDeal
  rw [h]
  rfl
theorem e_dl8 {x : Int32} {M : m_M} {P : Nat} (hP : P < 2 ^ 31) (h : M.1 172 22 = nI P) : f_X8_isDeal x M = e_in x P := by
  unfold f_X8_isDeal
  simp only [m_bd]
  rw [h]
  exact e_in_eq hP
theorem e_no7 {x : Int32} {M : m_M} {P : Nat} (h : M.1 1 1 = nI P) : f_X7_isNote x M = e_in x P := by
  unfold f_X7_isNote
  rw [h]
  rfl
theorem e_li7 {x : Int32} {M : m_M} {P : Nat} (h : M.1 1 4 = nI P) : f_X7_isLined x M = e_in x P := by
  unfold f_X7_isLined
  rw [h]
  rfl
theorem e_li8 {x : Int32} {M : m_M} {P : Nat} (hP : P < 2 ^ 31) (h : M.1 173 470 = nI P) : f_X8_isPlace x M = e_in x P := by
  unfold f_X8_isPlace f_X8_lined
  simp only [m_bd]
  rw [h]
  exact e_in_eq hP
theorem e_isday {r : Nat → Int32} {day : Int32} : ∀ N, (∀ a b, a ≤ b → b < N → r (6 * a) ≤ r (6 * b)) → ∃ K, h_day r N day K
  | 0, _ => ⟨0, Nat.le_refl 0, fun k hk => absurd hk (by omega), fun k _ hk => absurd hk (by omega)⟩
  | N + 1, hm => by
    obtain ⟨K, h1, h2, h3⟩ := e_isday (r := r) (day := day) N (fun a b ha hb => hm a b ha (by omega))
    by_cases c : r (6 * N) ≤ day
    · refine ⟨N + 1, Nat.le_refl _, fun k hk => ?_, fun k h4 h5 => absurd h5 (by omega)⟩
      exact Int32.le_trans (hm k N (by omega) (by omega)) c
    · refine ⟨K, by omega, h2, fun k h4 h5 => ?_⟩
      by_cases e : k = N
      · subst e
        exact Int32.not_le.mp c
      · exact h3 k h4 (by omega)
