/-! PURE: a small calculus over the functions; numbers; memory -/
def q_T {α : Type} (o : Option α) (P : α → Prop) : Prop := ∃ a, o = some a ∧ P a
theorem q_some {α : Type} {a : α} {P : α → Prop} (h : P a) : q_T (some a) P := ⟨a, rfl, h⟩
theorem q_gd {α : Type} {c : Prop} [Decidable c] {x : Option α} {P : α → Prop} (hc : c) (h : q_T x P) : q_T (m_gd c x) P := by
  unfold m_gd
  rw [if_pos hc]
  exact h
theorem q_bd {α β : Type} {x : α} {f : α → Option β} {P : β → Prop} (h : q_T (f x) P) : q_T (m_bd x f) P := h
theorem q_ob {α β : Type} {o : Option α} {f : α → Option β} {P : β → Prop} (h : q_T o (fun a => q_T (f a) P)) : q_T (m_ob o f) P := by
  obtain ⟨a, e, h⟩ := h
  rw [e]
  exact h
theorem q_o2 {α γ β : Type} {o : Option (α × γ)} {f : α → γ → Option β} {P : β → Prop} (h : q_T o (fun a => q_T (f a.1 a.2) P)) : q_T (m_o2 o f) P := by
  obtain ⟨a, e, h⟩ := h
  rw [e]
  exact h
theorem q_b2 {α γ β : Type} {o : α × γ} {f : α → γ → Option β} {P : β → Prop} (h : q_T (f o.1 o.2) P) : q_T (m_b2 o f) P := h
theorem q_ite {α : Type} {c : Prop} [Decidable c] {a b : Option α} {P : α → Prop} (ht : c → q_T a P) (hf : ¬ c → q_T b P) : q_T (if c then a else b) P := by
  by_cases h : c
  · rw [if_pos h]
    exact ht h
  · rw [if_neg h]
    exact hf h
theorem q_it {α : Type} {c : Prop} [Decidable c] {a b : Option α} {P : α → Prop} (hc : c) (h : q_T a P) : q_T (if c then a else b) P := by
  rw [if_pos hc]
  exact h
theorem q_if {α : Type} {c : Prop} [Decidable c] {a b : Option α} {P : α → Prop} (hc : ¬ c) (h : q_T b P) : q_T (if c then a else b) P := by
  rw [if_neg hc]
  exact h
theorem q_mono {α : Type} {o : Option α} {P Q : α → Prop} (h : q_T o P) (hpq : ∀ a, P a → Q a) : q_T o Q := by
  obtain ⟨a, e, h⟩ := h
  exact ⟨a, e, hpq a h⟩
theorem q_and {α : Type} {o : Option α} {P Q : α → Prop} (h : q_T o P) (h2 : q_T o Q) : q_T o (fun a => P a ∧ Q a) := by
  obtain ⟨a, e, h⟩ := h
  obtain ⟨b, e2, h2⟩ := h2
  have : a = b := Option.some.inj (e.symm.trans e2)
  subst this
  exact ⟨a, e, h, h2⟩
theorem q_eq {α : Type} {o : Option α} {a : α} (h : o = some a) : q_T o (fun b => b = a) := ⟨a, h, rfl⟩
theorem q_of {α : Type} {o : Option α} {a : α} {P : α → Prop} (h : o = some a) (p : P a) : q_T o P := ⟨a, h, p⟩
/-! memory -/
theorem q_r {M : m_M} {k j : Nat} {x : Int32} (k' j' : Nat) : (m_sI M k j x).1 k' j' = if k' = k ∧ j' = j then x else M.1 k' j' := by
  unfold m_sI va_up upd
  by_cases h : k' = k
  · by_cases h2 : j' = j
    · simp [h, h2]
    · simp [h, h2]
  · simp [h]
theorem q_r2 {M : m_M} {k j : Nat} {x : Int32} : (m_sI M k j x).2 = M.2 := rfl
theorem q_l {M : m_M} {k j : Nat} {x : Int64} (k' j' : Nat) : (m_sL M k j x).2 k' j' = if k' = k ∧ j' = j then x else M.2 k' j' := by
  unfold m_sL va_up vp_updL
  by_cases h : k' = k
  · by_cases h2 : j' = j
    · simp [h, h2]
    · simp [h, h2]
  · simp [h]
theorem q_l1 {M : m_M} {k j : Nat} {x : Int64} : (m_sL M k j x).1 = M.1 := rfl
/-! numbers -/
theorem q_in {i n : Nat} (h : i < n) (hn : n < 2 ^ 31) : m_in (nI i) n := vp_in_nI h hn
theorem q_cl {i : Nat} (h : i < 2 ^ 31) : (nI i).toNatClampNeg = i := nI_clamp h
theorem q_m1 {i : Nat} (h : i < 2 ^ 31) : nI i ≠ -1 := by
  intro e
  have h1 := congrArg Int32.toInt e
  rw [nI_toInt h] at h1
  have h2 : (-1 : Int32).toInt = -1 := by decide
  omega
theorem q_lt {a b : Nat} (ha : a < 2 ^ 31) (hb : b < 2 ^ 31) : nI a < nI b ↔ a < b := nI_ltI ha hb
theorem q_le {a b : Nat} (ha : a < 2 ^ 31) (hb : b < 2 ^ 31) : nI a ≤ nI b ↔ a ≤ b := nI_leI ha hb
theorem q_neg {a : Nat} (ha : a < 2 ^ 31) : ¬ nI a < 0 := nI_pos ha
theorem q_mul (a b : Nat) : nI a * nI b = nI (a * b) := pk_mul a b
theorem q_add (a b : Nat) : nI a + nI b = nI (a + b) := nI_add a b
theorem q_up (a : Nat) : nI a + 1 = nI (a + 1) := nI_1 a
