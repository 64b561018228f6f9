/-! the reference's layDay: one note, and all -/
/-- as h_LS k, but that the doubts are counted up to k + 1 -/
def h_LT (r : Nat → Int32) (N K : Nat) (so day : Int32) (k : Nat) (M : m_M) : Prop := h_Q0 (h_S r (h_sb so) (min k K)).1 (h_D r (min k K)) M ∧ M.1 172 22 = nI (h_D r k) ∧ M.1 172 23 = nI (h_D r (min k K)) ∧ M.1 172 25 = nI (h_B r (k + 1)) ∧ (M.1 172 24 = so ∧ M.1 172 26 = day) ∧ (∀ k', k' < k → h_kd r k' = 4 → M.1 185 (h_D r k') = nI k') ∧ M.1 173 469 = nI N ∧ ∀ j, j < 6 * N → M.1 173 j = r j
/-- as h_LT, with the deals and their notes up to k + 1 -/
def h_LU (r : Nat → Int32) (N K : Nat) (so day : Int32) (k : Nat) (M : m_M) : Prop := h_Q0 (h_S r (h_sb so) (min k K)).1 (h_D r (min k K)) M ∧ M.1 172 22 = nI (h_D r (k + 1)) ∧ M.1 172 23 = nI (h_D r (min k K)) ∧ M.1 172 25 = nI (h_B r (k + 1)) ∧ (M.1 172 24 = so ∧ M.1 172 26 = day) ∧ (∀ k', k' < k + 1 → h_kd r k' = 4 → M.1 185 (h_D r k') = nI k') ∧ M.1 173 469 = nI N ∧ ∀ j, j < 6 * N → M.1 173 j = r j
/-- is the k-th note so? 1 or 0 -/
def h_x3 (r : Nat → Int32) (so : Int32) (k : Nat) : Int32 := if r (6 * k + 5) ≠ 0 ∧ h_sb so (h_B r k) = false then 0 else 1
theorem h_b220 {n N K k : Nat} {x1 so day : Int32} {r : Nat → Int32} {q : Int32 → m_M → Option m_M} {Q : m_M → Prop} {M : m_M} {s0 : Int32} (hN : N ≤ 60) (hW : h_W r N) (hk : k < N) (hs : s0 = if k < K then 1 else 0) (hq : ∀ M1, h_LS r N K so day (k + 1) M1 → q_T (q (nI (k + 1)) M1) Q) (h : h_LU r N K so day k M) : q_T (f_X8_layDay_b220 n x1 q (nI k) (h_x3 r so k) s0 M) Q := by
  obtain ⟨a1, a2, a3, a4, a5, a6, a7, a8⟩ := h
  have hSk := h_SD (so := h_sb so) hW k (by omega)
  have hDk := h_D_le r k
  have hv := (hW k hk).1
  have hd := (hW k hk).2
  have eS : h_S r (h_sb so) (k + 1) = (if r (6 * k + 5) ≠ 0 ∧ h_sb so (h_B r k) = false then ((h_S r (h_sb so) k).1, h_D r k, h_B r k + 1) else (h_st (h_S r (h_sb so) k).1 (h_D r k) (h_kd r k) (h_a r k) (r (6 * k)) (r (6 * k + 3)) (r (6 * k + 4)), if h_kd r k = 4 then h_D r k + 1 else h_D r k, if r (6 * k + 5) ≠ 0 then h_B r k + 1 else h_B r k)) := by
    rw [h_S]
    simp only [hSk.1, hSk.2]
  unfold f_X8_layDay_b220
  by_cases c : r (6 * k + 5) ≠ 0 ∧ h_sb so (h_B r k) = false
  · have e3 : h_x3 r so k = 0 := if_pos c
    rw [q_up]
    refine q_it e3 (hq M ⟨?_, a2, ?_, a4, a5, a6, a7, a8⟩)
    · by_cases hkK : k < K
      · rw [show min (k + 1) K = k + 1 by omega, eS, if_pos c, h_D, if_neg (hd.2 c.1).2.1]
        rw [show min k K = k by omega] at a1
        exact a1
      · rw [show min (k + 1) K = min k K by omega]
        exact a1
    · by_cases hkK : k < K
      · rw [show min (k + 1) K = k + 1 by omega, h_D, if_neg (hd.2 c.1).2.1]
        rw [show min k K = k by omega] at a3
        exact a3
      · rw [show min (k + 1) K = min k K by omega]
        exact a3
  · have e3 : h_x3 r so k = 1 := if_neg c
    rw [e3]
    refine q_if (by decide) ?_
    by_cases hkK : k < K
    · rw [hs, if_pos hkK]
      refine q_if (by decide) ?_
      rw [show min k K = k by omega] at a1 a3
      refine q_ob (q_of (h_of (j := 1) a8 hk hN (by omega)) (q_ob (q_of (h_of (j := 2) a8 hk hN (by omega)) (q_ob (q_of (h_of (j := 3) a8 hk hN (by omega)) (q_ob (q_of (h_of (j := 4) a8 hk hN (by omega)) ?_)))))))
      have hlay := h_lay a1 (h_bo_S r _ k) hN hk (by omega) hv a8 (fun e => by rw [a2, h_D, if_pos e])
      refine q_ob (q_mono (q_TH hlay (g_X8_lay _ _ _ _ _ M)) (fun M1 h1 => ?_))
      obtain ⟨⟨b1, b2⟩, g⟩ := h1
      have gI : ∀ i j, i = 173 ∨ i = 185 ∨ i = 172 ∧ j ≠ 23 → M1.1 i j = M.1 i j := fun i j hij => g.1 i j (by unfold w_52; omega)
      rw [q_up]
      have eD : h_D r (k + 1) = if h_kd r k = 4 then h_D r k + 1 else h_D r k := by rw [h_D]
      refine hq M1 ⟨?_, ?_, ?_, ?_, ?_, ?_, ?_, ?_⟩
      · rw [show min (k + 1) K = k + 1 by omega, eS, if_neg c, eD]
        exact b1
      · rw [gI _ _ (by omega), a2]
      · rw [show min (k + 1) K = k + 1 by omega, b2, eD]
        by_cases e4 : h_kd r k = 4
        · rw [if_pos e4, if_pos e4]
        · rw [if_neg e4, if_neg e4]
          exact a3
      · rw [gI _ _ (by omega), a4]
      · exact ⟨by rw [gI _ _ (by omega), a5.1], by rw [gI _ _ (by omega), a5.2]⟩
      · intro k' hk' e4
        rw [gI _ _ (by omega)]
        exact a6 k' hk' e4
      · rw [gI _ _ (by omega), a7]
      · intro j hj
        rw [gI _ _ (by omega)]
        exact a8 j hj
    · rw [hs, if_neg hkK]
      refine q_it rfl ?_
      rw [q_up]
      refine hq M ⟨?_, a2, ?_, a4, a5, a6, a7, a8⟩
      · rw [show min (k + 1) K = min k K by omega]
        exact a1
      · rw [show min (k + 1) K = min k K by omega]
        exact a3
theorem h_b188 {n N K k : Nat} {x1 so day : Int32} {r : Nat → Int32} {q : Int32 → m_M → Option m_M} {Q : m_M → Prop} {M : m_M} {s0 : Int32} (hN : N ≤ 60) (hW : h_W r N) (hk : k < N) (hs : s0 = if k < K then 1 else 0) (hq : ∀ M1, h_LS r N K so day (k + 1) M1 → q_T (q (nI (k + 1)) M1) Q) (h : h_LT r N K so day k M) : q_T (f_X8_layDay_b188 n x1 q (nI k) (h_x3 r so k) s0 M) Q := by
  obtain ⟨a1, a2, a3, a4, a5, a6, a7, a8⟩ := h
  have hv := (hW k hk).1
  have hDk := h_D_le r k
  unfold f_X8_layDay_b188
  refine q_ob (q_of (h_of (j := 1) a8 hk hN (by omega)) ?_)
  rw [hv.1]
  by_cases e : h_kd r k = 4
  · refine q_it (by rw [e]; rfl) ?_
    rw [a2]
    refine q_gd (q_in (by omega) (by decide)) (q_bd (q_bd (h_b220 hN hW hk hs hq ?_)))
    rw [q_cl (by omega)]
    refine ⟨h_Q_fr a1 (fun i j h1 h2 h3 => by rw [q_r, if_neg (by omega), q_r, if_neg (by omega)]), ?_, ?_, ?_, ?_, ?_, ?_, ?_⟩
    · simp only [q_r, true_and, and_true, and_self, ↓reduceIte]
      (repeat (first | rw [if_pos (by omega)] | rw [if_neg (by omega)]))
      rw [a2, q_up, h_D, if_pos e]
    · simp only [q_r, true_and, and_true, and_self, ↓reduceIte]
      (repeat (first | rw [if_pos (by omega)] | rw [if_neg (by omega)]))
      exact a3
    · simp only [q_r, true_and, and_true, and_self, ↓reduceIte]
      (repeat (first | rw [if_pos (by omega)] | rw [if_neg (by omega)]))
      exact a4
    · simp only [q_r, true_and, and_true, and_self, ↓reduceIte]
      (repeat (first | rw [if_pos (by omega)] | rw [if_neg (by omega)]))
      exact a5
    · intro k' hk' e4
      simp only [q_r, true_and, and_true, and_self, ↓reduceIte]
      by_cases ek : k' = k
      · subst ek
        (repeat (first | rw [if_pos (by omega)] | rw [if_neg (by omega)]))
      · have := h_D_lt (show k' < k by omega) e4
        (repeat (first | rw [if_pos (by omega)] | rw [if_neg (by omega)]))
        exact a6 k' (by omega) e4
    · simp only [q_r, true_and, and_true, and_self, ↓reduceIte]
      (repeat (first | rw [if_pos (by omega)] | rw [if_neg (by omega)]))
      exact a7
    · intro j hj
      simp only [q_r, true_and, and_true, and_self, ↓reduceIte]
      (repeat (first | rw [if_pos (by omega)] | rw [if_neg (by omega)]))
      exact a8 j hj
  · refine q_if (fun q => e ((nI_eq (by have := hv.2.1; omega) (by decide)).mp q)) (h_b220 hN hW hk hs hq ⟨a1, ?_, a3, a4, a5, ?_, a7, a8⟩)
    · rw [a2, h_D, if_neg e]
    · intro k' hk' e4
      by_cases ek : k' = k
      · subst ek
        exact absurd e4 e
      · exact a6 k' (by omega) e4
theorem h_b173 {n N K k : Nat} {x1 so day : Int32} {r : Nat → Int32} {q : Int32 → m_M → Option m_M} {Q : m_M → Prop} {M : m_M} (hN : N ≤ 60) (hW : h_W r N) (hd : h_day r N x1 K) (hk : k < N) (hq : ∀ M1, h_LS r N K so day (k + 1) M1 → q_T (q (nI (k + 1)) M1) Q) (h : h_LT r N K so day k M) : q_T (f_X8_layDay_b173 n x1 q (nI k) (h_x3 r so k) M) Q := by
  unfold f_X8_layDay_b173
  refine q_ob (q_of (h_of (j := 0) h.2.2.2.2.2.2.2 hk hN (by omega)) ?_)
  rw [Nat.add_zero]
  by_cases hkK : k < K
  · exact q_if (fun q => absurd (hd.2.1 k hkK) (Int32.not_le.mpr q)) (h_b188 hN hW hk (by rw [if_pos hkK]) hq h)
  · exact q_it (hd.2.2 k (by omega) hk) (h_b188 hN hW hk (by rw [if_neg hkK]) hq h)
theorem h_b122 {n N K : Nat} {x1 so day : Int32} {r : Nat → Int32} {Q : m_M → Prop} (hN : N ≤ 60) (hW : h_W r N) (hd : h_day r N x1 K) (hQ : ∀ M1, h_LS r N K so day N M1 → q_T (f_X8_layDay_b266 n x1 n 0 M1) Q) : ∀ (d k u : Nat) (M : m_M), k + d = N → d < u → h_LS r N K so day k M → q_T (f_X8_layDay_b122 n x1 u (nI k) M) Q := by
  intro d
  induction d with
  | zero =>
    intro k u M hk hu h
    obtain ⟨u, rfl⟩ : ∃ v, u = v + 1 := ⟨u - 1, by omega⟩
    have : k = N := by omega
    subst this
    rw [f_X8_layDay_b122]
    refine q_bd ?_
    unfold f_X8_notes
    rw [h.2.2.2.2.2.2.1]
    exact q_it ((q_le (by omega) (by omega)).mpr (Nat.le_refl _)) (hQ M h)
  | succ d ih =>
    intro k u M hk hu h
    obtain ⟨u, rfl⟩ : ∃ v, u = v + 1 := ⟨u - 1, by omega⟩
    have hdb := (hW k (by omega)).2
    rw [f_X8_layDay_b122]
    refine q_bd ?_
    unfold f_X8_notes
    rw [h.2.2.2.2.2.2.1]
    refine q_if (fun q => absurd ((q_le (by omega) (by omega)).mp q) (by omega)) ?_
    refine q_ob (q_of (h_of (j := 5) h.2.2.2.2.2.2.2 (show k < N by omega) hN (by omega)) ?_)
    have hq : ∀ M1, h_LS r N K so day (k + 1) M1 → q_T (f_X8_layDay_b122 n x1 u (nI (k + 1)) M1) Q := fun M1 h1 => ih (k + 1) u M1 (by omega) (by omega) h1
    obtain ⟨a1, a2, a3, a4, a5, a6, a7, a8⟩ := h
    rcases hdb.1 with c | c
    · refine q_if (by rw [c]; decide) ?_
      have e3 : h_x3 r so k = 1 := if_neg (fun q => q.1 c)
      have := h_b173 (q := f_X8_layDay_b122 n x1 u) (n := n) hN hW hd (show k < N by omega) hq (show h_LT r N K so day k M from ⟨a1, a2, a3, by rw [a4, h_B, if_neg (fun q => q c)], a5, a6, a7, a8⟩)
      rw [e3] at this
      exact this
    · refine q_it c ?_
      have cn : r (6 * k + 5) ≠ 0 := by rw [c]; decide
      have hLT : h_LT r N K so day k (m_sI M 172 25 ((M.1 172 25) + (1 : Int32))) := by
        refine ⟨h_Q_fr a1 (fun i j h1 h2 h3 => by rw [q_r, if_neg (by omega)]), ?_, ?_, ?_, ?_, ?_, ?_, ?_⟩
        · simp only [q_r, true_and, and_true, and_self, ↓reduceIte]
          (repeat (first | rw [if_pos (by omega)] | rw [if_neg (by omega)]))
          exact a2
        · simp only [q_r, true_and, and_true, and_self, ↓reduceIte]
          (repeat (first | rw [if_pos (by omega)] | rw [if_neg (by omega)]))
          exact a3
        · simp only [q_r, true_and, and_true, and_self, ↓reduceIte]
          (repeat (first | rw [if_pos (by omega)] | rw [if_neg (by omega)]))
          rw [a4, q_up, h_B, if_pos cn]
        · simp only [q_r, true_and, and_true, and_self, ↓reduceIte]
          (repeat (first | rw [if_pos (by omega)] | rw [if_neg (by omega)]))
          exact a5
        · intro k' hk' e4
          simp only [q_r, true_and, and_true, and_self, ↓reduceIte]
          (repeat (first | rw [if_pos (by omega)] | rw [if_neg (by omega)]))
          exact a6 k' hk' e4
        · simp only [q_r, true_and, and_true, and_self, ↓reduceIte]
          (repeat (first | rw [if_pos (by omega)] | rw [if_neg (by omega)]))
          exact a7
        · intro j hj
          simp only [q_r, true_and, and_true, and_self, ↓reduceIte]
          (repeat (first | rw [if_pos (by omega)] | rw [if_neg (by omega)]))
          exact a8 j hj
      have hb := h_b173 (q := f_X8_layDay_b122 n x1 u) (n := n) hN hW hd (show k < N by omega) hq hLT
      by_cases cs : ((so >>> (nI (h_B r k) &&& 31)) &&& (1 : Int32)) = 1
      · refine q_it (by rw [a5.1, a4]; exact cs) (q_bd ?_)
        rw [show h_x3 r so k = 1 from if_neg (fun q => by have := q.2; unfold h_sb at this; rw [decide_eq_false_iff_not] at this; exact this cs)] at hb
        exact hb
      · refine q_if (by rw [a5.1, a4]; exact cs) (q_bd ?_)
        rw [show h_x3 r so k = 0 from if_pos ⟨cn, by unfold h_sb; rw [decide_eq_false_iff_not]; exact cs⟩] at hb
        exact hb
