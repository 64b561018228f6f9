/-! layDay as a whole -/
theorem h_mx1 {v : Int32} (h : 0 ≤ v) : m_max 0 v = v := by
  unfold m_max
  by_cases c : 0 < v
  · rw [if_pos c]
  · rw [if_neg c]
    exact (Int32.le_antisymm (Int32.not_lt.mp c) h).symm
theorem h_mx0 {v : Int32} (h : ¬ 0 ≤ v) : m_max 0 v = 0 := by
  unfold m_max
  exact if_neg (fun c => h (Int32.le_of_lt c))
theorem h_b305 {n : Nat} {x1 : Int32} : ∀ (d x u : Nat) (M : m_M), x + d = 100 → d < u → q_T (f_X8_layDay_b305 n x1 u (nI x) M) (fun M' => ∀ i j, M'.1 i j = if i = 184 ∧ x ≤ j ∧ j < 100 then m_max 0 (M.1 i j) else M.1 i j) := by
  intro d
  induction d with
  | zero =>
    intro x u M hx hu
    obtain ⟨u, rfl⟩ : ∃ v, u = v + 1 := ⟨u - 1, by omega⟩
    rw [f_X8_layDay_b305]
    refine q_it ((q_le (a := 100) (by decide) (by omega)).mpr (by omega)) (q_some (fun i j => ?_))
    rw [if_neg (by omega)]
  | succ d ih =>
    intro x u M hx hu
    obtain ⟨u, rfl⟩ : ∃ v, u = v + 1 := ⟨u - 1, by omega⟩
    rw [f_X8_layDay_b305]
    refine q_if (fun h => absurd ((q_le (a := 100) (by decide) (by omega)).mp h) (by omega)) (q_gd (q_in (by omega) (by decide)) ?_)
    rw [q_cl (by omega), q_up]
    have key : ∀ v, v = m_max 0 (M.1 184 x) → q_T (f_X8_layDay_b305 n x1 u (nI (x + 1)) (m_sI M 184 x v)) (fun M' => ∀ i j, M'.1 i j = if i = 184 ∧ x ≤ j ∧ j < 100 then m_max 0 (M.1 i j) else M.1 i j) := by
      intro v hv
      refine q_mono (ih (x + 1) u _ (by omega) (by omega)) (fun M' h i j => ?_)
      rw [h, q_r]
      by_cases e : i = 184 ∧ j = x
      · obtain ⟨e1, e2⟩ := e
        subst e1
        subst e2
        (repeat (first | rw [if_pos (by omega)] | rw [if_neg (by omega)]))
        rw [hv]
      · rw [if_neg e]
        ((repeat' split) <;> (first | rfl | (exfalso; omega)))
    refine q_ite (fun c => q_bd (key _ (h_mx1 c).symm)) (fun c => q_bd (key _ (h_mx0 c).symm))
theorem h_b266 {n : Nat} {x1 : Int32} (hn : 100 < n) : ∀ (d x u : Nat) (M : m_M), x + d = 40 → d < u → q_T (f_X8_layDay_b266 n x1 u (nI x) M) (fun M' => ∀ i j, M'.1 i j = if (i = 181 ∧ x ≤ j ∧ j < 40) ∨ (i = 184 ∧ j < 100) then m_max 0 (M.1 i j) else M.1 i j) := by
  intro d
  induction d with
  | zero =>
    intro x u M hx hu
    obtain ⟨u, rfl⟩ : ∃ v, u = v + 1 := ⟨u - 1, by omega⟩
    rw [f_X8_layDay_b266]
    refine q_it ((q_le (a := 40) (by decide) (by omega)).mpr (by omega)) (q_mono (h_b305 100 0 n M (by omega) hn) (fun M' h i j => ?_))
    rw [h]
    ((repeat' split) <;> (first | rfl | (exfalso; omega)))
  | succ d ih =>
    intro x u M hx hu
    obtain ⟨u, rfl⟩ : ∃ v, u = v + 1 := ⟨u - 1, by omega⟩
    rw [f_X8_layDay_b266]
    refine q_if (fun h => absurd ((q_le (a := 40) (by decide) (by omega)).mp h) (by omega)) (q_gd (q_in (by omega) (by decide)) ?_)
    rw [q_cl (by omega), q_up]
    have key : ∀ v, v = m_max 0 (M.1 181 x) → q_T (f_X8_layDay_b266 n x1 u (nI (x + 1)) (m_sI M 181 x v)) (fun M' => ∀ i j, M'.1 i j = if (i = 181 ∧ x ≤ j ∧ j < 40) ∨ (i = 184 ∧ j < 100) then m_max 0 (M.1 i j) else M.1 i j) := by
      intro v hv
      refine q_mono (ih (x + 1) u _ (by omega) (by omega)) (fun M' h i j => ?_)
      rw [h, q_r]
      by_cases e : i = 181 ∧ j = x
      · obtain ⟨e1, e2⟩ := e
        subst e1
        subst e2
        (repeat (first | rw [if_pos (by omega)] | rw [if_neg (by omega)]))
        rw [hv]
      · rw [if_neg e]
        ((repeat' split) <;> (first | rfl | (exfalso; omega)))
    refine q_ite (fun c => q_bd (key _ (h_mx1 c).symm)) (fun c => q_bd (key _ (h_mx0 c).symm))
def h_Q (S : Nat → Nat → Int32) (D : Nat) (M : m_M) : Prop := (∀ f i, h_okq D f i → M.1 (h_rc f) i = if f = 5 ∨ f = 6 then m_max 0 (S f i) else S f i) ∧ ∀ i, i < 10 → S 1 i ≠ -1 → M.1 179 i = S 2 i ∧ M.1 180 i = S 3 i
/-- a day is laid: K of N notes, so as the bits of so tell -/
def h_L (r : Nat → Int32) (N K : Nat) (so day : Int32) (M : m_M) : Prop := h_Q (h_S r (h_sb so) K).1 (h_D r K) M ∧ M.1 172 22 = nI (h_D r N) ∧ M.1 172 23 = nI (h_D r K) ∧ (M.1 172 24 = so ∧ M.1 172 26 = day) ∧ (∀ k', k' < N → h_kd r k' = 4 → M.1 185 (h_D r k') = nI k') ∧ M.1 173 469 = nI N ∧ ∀ j, j < 6 * N → M.1 173 j = r j
theorem h_layDay {n N K : Nat} {day so : Int32} {r : Nat → Int32} {M : m_M} (hn : 100 < n) (hN : N ≤ 60) (hW : h_W r N) (hd : h_day r N day K) (h24 : M.1 172 24 = so) (hM : M.1 173 469 = nI N) (hr : ∀ j, j < 6 * N → M.1 173 j = r j) : q_T (f_X8_layDay n day M) (h_L r N K so day) := by
  unfold f_X8_layDay
  refine q_bd (h_b7 (by omega) 10 0 n _ (by omega) (by omega) (fun M1 _ h1 => ?_))
  have hLS : h_LS r N K so day 0 (m_sI (m_sI (m_sI M1 172 22 0) 172 23 0) 172 25 0) := by
    refine ⟨⟨fun f i hok => ?_, fun i hi hc => absurd rfl hc⟩, ?_, ?_, ?_, ?_, fun k' hk' => absurd hk' (by omega), ?_, ?_⟩
    · rw [Nat.zero_min] at hok ⊢
      have n2 := h_rc_ne (c := 172) hok (by omega)
      simp only [q_r]
      (repeat (first | rw [if_pos (by omega)] | rw [if_neg (by omega)]))
      rw [h1]
      unfold h_b7v
      unfold h_okq at hok
      show _ = h_S0 f i
      unfold h_S0
      rcases hok with q | q | q | q | q | q
      · rw [show h_rc f = 177 + f from if_pos (by omega)]
        (repeat (first | rw [if_pos (by omega)] | rw [if_neg (by omega)]))
        rfl
      · obtain ⟨q1, q2⟩ := q
        subst q1
        rw [show h_rc 5 = 181 from rfl]
        (repeat (first | rw [if_pos (by omega)] | rw [if_neg (by omega)]))
        rfl
      · obtain ⟨q1, q2⟩ := q
        subst q1
        rw [show h_rc 6 = 184 from rfl]
        (repeat (first | rw [if_pos (by omega)] | rw [if_neg (by omega)]))
        rfl
      · obtain ⟨q1, q2⟩ := q
        subst q1
        rw [show h_rc 7 = 182 from rfl]
        (repeat (first | rw [if_pos (by omega)] | rw [if_neg (by omega)]))
        rfl
      · obtain ⟨q1, q2⟩ := q
        subst q1
        rw [show h_rc 8 = 183 from rfl]
        (repeat (first | rw [if_pos (by omega)] | rw [if_neg (by omega)]))
        rfl
      · exact absurd q.2 (Nat.not_lt_zero _)
    · simp only [q_r, true_and, and_true, and_self, ↓reduceIte]
      (repeat (first | rw [if_pos (by omega)] | rw [if_neg (by omega)]))
      rfl
    · rw [Nat.zero_min]
      simp only [q_r, true_and, and_true, and_self, ↓reduceIte]
      (repeat (first | rw [if_pos (by omega)] | rw [if_neg (by omega)]))
      rfl
    · simp only [q_r, true_and, and_true, and_self, ↓reduceIte]
      (repeat (first | rw [if_pos (by omega)] | rw [if_neg (by omega)]))
      rfl
    · constructor <;> (simp only [q_r, true_and, and_true, and_self, ↓reduceIte]; (repeat (first | rw [if_pos (by omega)] | rw [if_neg (by omega)])); rw [h1]; unfold h_b7v; (repeat (first | rw [if_pos (by omega)] | rw [if_neg (by omega)])))
      · show (m_sI M 172 26 day).1 172 24 = so
        rw [q_r]
        (repeat (first | rw [if_pos (by omega)] | rw [if_neg (by omega)]))
        exact h24
      · show (m_sI M 172 26 day).1 172 26 = day
        rw [q_r]
        (repeat (first | rw [if_pos (by omega)] | rw [if_neg (by omega)]))
    · simp only [q_r, true_and, and_true, and_self, ↓reduceIte]
      (repeat (first | rw [if_pos (by omega)] | rw [if_neg (by omega)]))
      rw [h1]
      unfold h_b7v
      (repeat (first | rw [if_pos (by omega)] | rw [if_neg (by omega)]))
      show (m_sI M 172 26 day).1 173 469 = nI N
      rw [q_r]
      (repeat (first | rw [if_pos (by omega)] | rw [if_neg (by omega)]))
      exact hM
    · intro j hj
      simp only [q_r, true_and, and_true, and_self, ↓reduceIte]
      (repeat (first | rw [if_pos (by omega)] | rw [if_neg (by omega)]))
      rw [h1]
      unfold h_b7v
      (repeat (first | rw [if_pos (by omega)] | rw [if_neg (by omega)]))
      show (m_sI M 172 26 day).1 173 j = r j
      rw [q_r]
      (repeat (first | rw [if_pos (by omega)] | rw [if_neg (by omega)]))
      exact hr j hj
  refine h_b122 (day := day) hN hW hd (fun M2 h2 => ?_) N 0 n _ (by omega) (by omega) hLS
  refine q_mono (h_b266 hn 40 0 n M2 (by omega) (by omega)) (fun M3 h3 => ?_)
  obtain ⟨a1, a2, a3, a4, a5, a6, a7, a8⟩ := h2
  have hK : min N K = K := by have := hd.1; omega
  rw [hK] at a1 a3
  refine ⟨⟨fun f i hok => ?_, fun i hi hc => ?_⟩, ?_, ?_, ?_, ?_, ?_, ?_⟩
  · rw [h3, a1.1 f i hok]
    have e5 : h_rc f = 181 → f = 5 := fun e => h_rc_inj hok (f' := 5) (i' := 0) (by unfold h_okq; omega) e
    have e6 : h_rc f = 184 → f = 6 := fun e => h_rc_inj hok (f' := 6) (i' := 0) (by unfold h_okq; omega) e
    by_cases c : f = 5 ∨ f = 6
    · rw [if_pos c, if_pos]
      rcases c with c | c <;> subst c <;> unfold h_okq at hok
      · exact Or.inl ⟨rfl, by omega, by omega⟩
      · exact Or.inr ⟨rfl, by omega⟩
    · rw [if_neg c, if_neg]
      rintro (q | q)
      · exact c (Or.inl (e5 q.1))
      · exact c (Or.inr (e6 q.1))
  · rw [h3, h3]
    (repeat (first | rw [if_pos (by omega)] | rw [if_neg (by omega)]))
    exact a1.2 i hi hc
  · rw [h3]
    (repeat (first | rw [if_pos (by omega)] | rw [if_neg (by omega)]))
    exact a2
  · rw [h3]
    (repeat (first | rw [if_pos (by omega)] | rw [if_neg (by omega)]))
    exact a3
  · rw [h3, h3]
    (repeat (first | rw [if_pos (by omega)] | rw [if_neg (by omega)]))
    exact a5
  · intro k' hk' e4
    rw [h3]
    (repeat (first | rw [if_pos (by omega)] | rw [if_neg (by omega)]))
    exact a6 k' hk' e4
  · rw [h3]
    (repeat (first | rw [if_pos (by omega)] | rw [if_neg (by omega)]))
    exact a7
  · intro j hj
    rw [h3]
    (repeat (first | rw [if_pos (by omega)] | rw [if_neg (by omega)]))
    exact a8 j hj
