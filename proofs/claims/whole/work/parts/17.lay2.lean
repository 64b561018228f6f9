/-! the reference's layDay: its loops -/
theorem h_b75 {n a : Nat} {x1 : Int32} {q7 : Int32 → m_M → Option m_M} {Q : m_M → Prop} (ha : a < 10) : ∀ (d x u : Nat) (M : m_M), x + d = 10 → d < u → (∀ M1 : m_M, M1.2 = M.2 → (∀ i j, M1.1 i j = if i = 184 ∧ 10 * a + x ≤ j ∧ j < 10 * a + 10 then 0 else M.1 i j) → q_T (q7 (nI (a + 1)) M1) Q) → q_T (f_X8_layDay_b75 n x1 q7 u (nI a) (nI x) M) Q := by
  intro d
  induction d with
  | zero =>
    intro x u M hx hu hq
    obtain ⟨u, rfl⟩ : ∃ v, u = v + 1 := ⟨u - 1, by omega⟩
    rw [f_X8_layDay_b75]
    refine q_it ((q_le (a := 10) (by decide) (by omega)).mpr (by omega)) ?_
    rw [q_up]
    refine hq M rfl (fun i j => ?_)
    rw [if_neg (by omega)]
  | succ d ih =>
    intro x u M hx hu hq
    obtain ⟨u, rfl⟩ : ∃ v, u = v + 1 := ⟨u - 1, by omega⟩
    rw [f_X8_layDay_b75]
    refine q_if (fun h => absurd ((q_le (a := 10) (by decide) (by omega)).mp h) (by omega)) ?_
    rw [q_x10, q_add]
    refine q_gd (q_in (by omega) (by decide)) (q_bd ?_)
    rw [q_cl (by omega), q_up]
    refine ih (x + 1) u _ (by omega) (by omega) (fun M1 h2 h1 => hq M1 h2 (fun i j => ?_))
    rw [h1]
    simp only [q_r]
    ((repeat' split) <;> (first | rfl | (exfalso; omega)))
theorem h_b29 {n a : Nat} {x1 : Int32} {q7 : Int32 → m_M → Option m_M} {Q : m_M → Prop} (hn : 10 < n) (ha : a < 10) : ∀ (d x u : Nat) (M : m_M), x + d = 4 → d < u → (∀ M1 : m_M, M1.2 = M.2 → (∀ i j, M1.1 i j = if (i = 181 ∨ i = 182 ∨ i = 183) ∧ 4 * a + x ≤ j ∧ j < 4 * a + 4 then 0 else if i = 184 ∧ 10 * a ≤ j ∧ j < 10 * a + 10 then 0 else M.1 i j) → q_T (q7 (nI (a + 1)) M1) Q) → q_T (f_X8_layDay_b29 n x1 q7 u (nI a) (nI x) M) Q := by
  intro d
  induction d with
  | zero =>
    intro x u M hx hu hq
    obtain ⟨u, rfl⟩ : ∃ v, u = v + 1 := ⟨u - 1, by omega⟩
    rw [f_X8_layDay_b29]
    refine q_it ((q_le (a := 4) (by decide) (by omega)).mpr (by omega)) ?_
    refine h_b75 ha 10 0 n M (by omega) hn (fun M1 h2 h1 => hq M1 h2 (fun i j => ?_))
    rw [h1]
    ((repeat' split) <;> (first | rfl | (exfalso; omega)))
  | succ d ih =>
    intro x u M hx hu hq
    obtain ⟨u, rfl⟩ : ∃ v, u = v + 1 := ⟨u - 1, by omega⟩
    rw [f_X8_layDay_b29]
    refine q_if (fun h => absurd ((q_le (a := 4) (by decide) (by omega)).mp h) (by omega)) ?_
    rw [q_x4, q_add]
    refine q_gd (q_in (by omega) (by decide)) (q_bd (q_bd (q_bd ?_)))
    rw [q_cl (by omega), q_up]
    refine ih (x + 1) u _ (by omega) (by omega) (fun M1 h2 h1 => hq M1 h2 (fun i j => ?_))
    rw [h1]
    simp only [q_r]
    ((repeat' split) <;> (first | rfl | (exfalso; omega)))
def h_b7v (x i j : Nat) : Option Int32 := if (i = 177 ∨ i = 178) ∧ x ≤ j ∧ j < 10 then some (-1) else if (i = 181 ∨ i = 182 ∨ i = 183) ∧ 4 * x ≤ j ∧ j < 40 then some 0 else if i = 184 ∧ 10 * x ≤ j ∧ j < 100 then some 0 else none
theorem h_b7 {n : Nat} {x1 : Int32} {Q : m_M → Prop} (hn : 10 < n) : ∀ (d x u : Nat) (M : m_M), x + d = 10 → d < u → (∀ M1 : m_M, M1.2 = M.2 → (∀ i j, M1.1 i j = (h_b7v x i j).getD (M.1 i j)) → q_T (f_X8_layDay_b122 n x1 n 0 (m_sI (m_sI (m_sI M1 172 22 0) 172 23 0) 172 25 0)) Q) → q_T (f_X8_layDay_b7 n x1 u (nI x) M) Q := by
  intro d
  induction d with
  | zero =>
    intro x u M hx hu hq
    obtain ⟨u, rfl⟩ : ∃ v, u = v + 1 := ⟨u - 1, by omega⟩
    rw [f_X8_layDay_b7]
    refine q_it ((q_le (a := 10) (by decide) (by omega)).mpr (by omega)) (q_bd (q_bd (q_bd ?_)))
    refine hq M rfl (fun i j => ?_)
    unfold h_b7v
    rw [if_neg (by omega), if_neg (by omega), if_neg (by omega)]
    rfl
  | succ d ih =>
    intro x u M hx hu hq
    obtain ⟨u, rfl⟩ : ∃ v, u = v + 1 := ⟨u - 1, by omega⟩
    rw [f_X8_layDay_b7]
    refine q_if (fun h => absurd ((q_le (a := 10) (by decide) (by omega)).mp h) (by omega)) (q_gd (q_in (by omega) (by decide)) (q_bd (q_bd ?_)))
    rw [q_cl (by omega)]
    refine h_b29 hn (by omega) 4 0 n _ (by omega) (by omega) (fun M1 h2 h1 => ?_)
    refine ih (x + 1) u M1 (by omega) (by omega) (fun M2 h22 h21 => hq M2 (h22.trans h2) (fun i j => ?_))
    rw [h21, h1]
    simp only [q_r]
    unfold h_b7v
    ((repeat' split) <;> (first | rfl | (exfalso; omega)))
def h_sb (so : Int32) (j : Nat) : Bool := decide (((so >>> (nI j &&& 31)) &&& (1 : Int32)) = 1)
/-- where layDay stands ahead of the k-th note -/
def h_LS (r : Nat → Int32) (N K : Nat) (so day : Int32) (k : Nat) (M : m_M) : Prop := h_Q0 (h_S r (h_sb so) (min k K)).1 (h_D r (min k K)) M ∧ M.1 172 22 = nI (h_D r k) ∧ M.1 172 23 = nI (h_D r (min k K)) ∧ M.1 172 25 = nI (h_B r k) ∧ (M.1 172 24 = so ∧ M.1 172 26 = day) ∧ (∀ k', k' < k → h_kd r k' = 4 → M.1 185 (h_D r k') = nI k') ∧ M.1 173 469 = nI N ∧ ∀ j, j < 6 * N → M.1 173 j = r j
theorem h_Q_fr {S : Nat → Nat → Int32} {D : Nat} {M M' : m_M} (h : h_Q0 S D M) (e : ∀ i j, 177 ≤ i → i ≤ 191 → i ≠ 185 → M'.1 i j = M.1 i j) : h_Q0 S D M' := by
  refine ⟨fun f i hok => ?_, fun i hi h1 => ?_⟩
  · rw [e _ _ ?_ ?_ ?_, h.1 f i hok]
    · unfold h_okq at hok
      unfold h_rc
      repeat' split
      all_goals omega
    · unfold h_okq at hok
      unfold h_rc
      repeat' split
      all_goals omega
    · exact h_rc_ne hok (by omega)
  · rw [e _ _ (by omega) (by omega) (by omega), e _ _ (by omega) (by omega) (by omega)]
    exact h.2 i hi h1
theorem h_D_lt {r : Nat → Int32} {k k' : Nat} (h : k' < k) (e : h_kd r k' = 4) : h_D r k' < h_D r k := by
  have h1 : h_D r (k' + 1) = h_D r k' + 1 := by rw [h_D, if_pos e]
  have h2 := h_D_mono r (k' + 1) (k - (k' + 1))
  rw [show k' + 1 + (k - (k' + 1)) = k by omega] at h2
  omega
