/-! the class's replay as of a day -/
theorem q_TH {α : Type} {o : Option α} {P Q : α → Prop} (h : q_T o P) (g : q_H o Q) : q_T o (fun a => P a ∧ Q a) := by
  obtain ⟨a, e, h⟩ := h
  exact ⟨a, e, h, g a e⟩
def h_D (r : Nat → Int32) : Nat → Nat
  | 0 => 0
  | k + 1 => if h_kd r k = 4 then h_D r k + 1 else h_D r k
def h_B (r : Nat → Int32) : Nat → Nat
  | 0 => 0
  | k + 1 => if r (6 * k + 5) ≠ 0 then h_B r k + 1 else h_B r k
theorem h_D_le (r : Nat → Int32) : ∀ k, h_D r k ≤ k
  | 0 => Nat.le_refl 0
  | k + 1 => by
    have := h_D_le r k
    unfold h_D
    split <;> omega
theorem h_B_le (r : Nat → Int32) : ∀ k, h_B r k ≤ k
  | 0 => Nat.le_refl 0
  | k + 1 => by
    have := h_B_le r k
    unfold h_B
    split <;> omega
theorem h_D_mono (r : Nat → Int32) (a : Nat) : ∀ d, h_D r a ≤ h_D r (a + d)
  | 0 => Nat.le_refl _
  | d + 1 => by
    have := h_D_mono r a d
    show h_D r a ≤ (if h_kd r (a + d) = 4 then h_D r (a + d) + 1 else h_D r (a + d))
    split <;> omega
theorem h_B_mono (r : Nat → Int32) (a : Nat) : ∀ d, h_B r a ≤ h_B r (a + d)
  | 0 => Nat.le_refl _
  | d + 1 => by
    have := h_B_mono r a d
    show h_B r a ≤ (if r (6 * (a + d) + 5) ≠ 0 then h_B r (a + d) + 1 else h_B r (a + d))
    split <;> omega
/-- the rows of N notes are well told -/
def h_dub (r : Nat → Int32) (k : Nat) : Prop := m_B (r (6 * k + 5)) ∧ (r (6 * k + 5) ≠ 0 → h_kd r k ≠ 0 ∧ h_kd r k ≠ 4 ∧ h_kd r k ≠ 14)
def h_W (r : Nat → Int32) (N : Nat) : Prop := ∀ k, k < N → h_v r (h_D r k) k ∧ h_dub r k
/-- K notes are of that day or earlier -/
def h_day (r : Nat → Int32) (N : Nat) (day : Int32) (K : Nat) : Prop := K ≤ N ∧ (∀ k, k < K → r (6 * k) ≤ day) ∧ ∀ k, K ≤ k → k < N → day < r (6 * k)
theorem h_SD {r : Nat → Int32} {so : Nat → Bool} {N : Nat} (h : h_W r N) : ∀ k, k ≤ N → (h_S r so k).2.1 = h_D r k ∧ (h_S r so k).2.2 = h_B r k
  | 0, _ => ⟨rfl, rfl⟩
  | k + 1, hk => by
    have ih := h_SD (so := so) h k (by omega)
    have hd := (h k (by omega)).2
    unfold h_S h_D h_B
    simp only []
    by_cases c : r (6 * k + 5) ≠ 0
    · by_cases c2 : so (h_S r so k).2.2 = false
      · rw [if_pos ⟨c, c2⟩, if_neg (hd.2 c).2.1, if_pos c]
        exact ⟨ih.1, by rw [ih.2]⟩
      · rw [if_neg (fun q => c2 q.2)]
        simp only [if_pos c, ih.1, ih.2]
        exact ⟨trivial, trivial⟩
    · rw [if_neg (fun q => c q.1)]
      simp only [if_neg c, ih.1, ih.2]
      exact ⟨trivial, trivial⟩
def h_ns (ns : Int32) (j : Nat) : Bool := decide (((ns >>> (nI j &&& 31)) &&& (1 : Int32)) = 0)
def h_zz (M M' : m_M) : Prop := M'.1 45 5 = M.1 45 5 ∧ ∀ p j, p < 10 → 5 ≤ j → M'.1 (49 + 5 * p) j = M.1 (49 + 5 * p) j
theorem h_zz_apply (x : Int32) (M : m_M) : q_H (f_X1_apply x M) (fun M' => h_zz M M') := fun M' h => by
  have g := g_X1_apply x M M' h
  exact ⟨g.1 45 5 (by unfold w_12; omega), fun p j hp hj => g.1 _ _ (by unfold w_12; omega)⟩
theorem h_loop {n N K : Nat} {day ns : Int32} {r : Nat → Int32} (hN : N ≤ 60) (hW : h_W r N) (hd : h_day r N day K) : ∀ (d k u : Nat) (M : m_M), k + d = K → d < u → M.1 1 1 = nI N → (∀ j, j < 6 * N → M.1 2 j = r j) → h_R (h_S r (h_ns ns) k).1 (h_D r k) M → q_T (f_X1_replay_b38 n day ns u (nI (h_B r k)) (nI k) M) (fun M' => h_R (h_S r (h_ns ns) K).1 (h_D r K) M' ∧ h_zz M M') := by
  obtain ⟨hd0, hd1, hd2⟩ := hd
  intro d
  induction d with
  | zero =>
    intro k u M hk hu hM hr hR
    have : k = K := by omega
    subst this
    obtain ⟨u, rfl⟩ : ∃ v, u = v + 1 := ⟨u - 1, by omega⟩
    rw [f_X1_replay_b38, hM]
    by_cases c : N ≤ k
    · exact q_it ((q_le (by omega) (by omega)).mpr c) (q_some ⟨hR, rfl, fun _ _ _ _ => rfl⟩)
    · refine q_if (fun q => c ((q_le (by omega) (by omega)).mp q)) ?_
      rw [q_x6, q_p0]
      refine q_gd (q_in (by omega) (by decide)) ?_
      rw [q_cl (by omega), show (1 : Nat) + 1 = 2 from rfl, hr (6 * k) (by omega)]
      exact q_it (hd2 k (Nat.le_refl _) (by omega)) (q_some ⟨hR, rfl, fun _ _ _ _ => rfl⟩)
  | succ d ih =>
    intro k u M hk hu hM hr hR
    obtain ⟨u, rfl⟩ : ∃ v, u = v + 1 := ⟨u - 1, by omega⟩
    have hW1 := (hW k (by omega)).1
    have hW2 := (hW k (by omega)).2
    have hSk := h_SD (so := h_ns ns) hW k (by omega)
    have hDk := h_D_le r k
    have hBk := h_B_le r k
    have hr6 : ∀ j, j < 6 → M.1 (1 + 1) (6 * k + j) = r (6 * k + j) := fun j hj => hr (6 * k + j) (by omega)
    rw [f_X1_replay_b38, hM]
    refine q_if (fun q => absurd ((q_le (by omega) (by omega)).mp q) (by omega)) ?_
    rw [q_x6, q_p0]
    refine q_gd (q_in (by omega) (by decide)) ?_
    rw [q_cl (by omega), show (1 : Nat) + 1 = 2 from rfl, hr (6 * k) (by omega)]
    refine q_if (fun q => absurd (hd1 k (by omega)) (Int32.not_le.mpr q)) ?_
    have eS : h_S r (h_ns ns) (k + 1) = (if r (6 * k + 5) ≠ 0 ∧ h_ns ns (h_B r k) = false then ((h_S r (h_ns ns) k).1, h_D r k, h_B r k + 1) else (h_st (h_S r (h_ns ns) k).1 (h_D r k) (h_kd r k) (h_a r k) (r (6 * k)) (r (6 * k + 3)) (r (6 * k + 4)), if h_kd r k = 4 then h_D r k + 1 else h_D r k, if r (6 * k + 5) ≠ 0 then h_B r k + 1 else h_B r k)) := by
      rw [h_S]
      simp only [hSk.1, hSk.2]
    have hap : q_T (f_X1_apply (nI (6 * k)) M) (fun M' => (h_R (h_st (h_S r (h_ns ns) k).1 (h_D r k) (h_kd r k) (h_a r k) (r (6 * k)) (r (6 * k + 3)) (r (6 * k + 4))) (if h_kd r k = 4 then h_D r k + 1 else h_D r k) M' ∧ h_fr M M') ∧ h_zz M M') := q_TH (h_apply hR (h_bo_S r _ k) (by omega) (by omega) hW1 hr6) (h_zz_apply _ M)
    unfold f_X3_isDoubted
    rw [q_x6, q_p5]
    refine q_ob (q_gd (q_in (by omega) (by decide)) ?_)
    rw [q_cl (by omega), hr6 5 (by omega)]
    by_cases c : r (6 * k + 5) = 0
    · refine q_it c (q_some (q_it rfl ?_))
      unfold f_X1_replay_b102
      refine q_if (by decide) ?_
      rw [q_x6]
      refine q_ob (q_mono hap (fun M' hM' => ?_))
      obtain ⟨⟨m1, m2⟩, m3⟩ := hM'
      rw [if_neg (fun q => q.1 c)] at eS
      have eB : h_B r (k + 1) = h_B r k := by rw [h_B, if_neg (fun q => q c)]
      rw [q_up, ← eB]
      refine q_mono (ih (k + 1) u M' (by omega) (by omega) ((m2.2 1 1 (h_cell1 (by omega))).trans hM) (fun j hj => (m2.2 2 j (h_cell1 (by omega))).trans (hr j hj)) (by rw [eS, h_D]; exact m1)) (fun M2 h2 => ⟨h2.1, h2.2.1.trans m3.1, fun p j hp hj => (h2.2.2 p j hp hj).trans (m3.2 p j hp hj)⟩)
    · refine q_if c (q_some (q_if (by decide) ?_))
      have eB : h_B r (k + 1) = h_B r k + 1 := by rw [h_B, if_pos c]
      by_cases cs : ((ns >>> (nI (h_B r k) &&& 31)) &&& (1 : Int32)) = 0
      · refine q_it cs ?_
        unfold f_X1_replay_b102
        refine q_if (by decide) ?_
        rw [q_x6]
        refine q_ob (q_mono hap (fun M' hM' => ?_))
        obtain ⟨⟨m1, m2⟩, m3⟩ := hM'
        rw [if_neg (fun q => by have := q.2; unfold h_ns at this; rw [decide_eq_false_iff_not] at this; exact this cs)] at eS
        rw [q_up, q_up, ← eB]
        refine q_mono (ih (k + 1) u M' (by omega) (by omega) ((m2.2 1 1 (h_cell1 (by omega))).trans hM) (fun j hj => (m2.2 2 j (h_cell1 (by omega))).trans (hr j hj)) (by rw [eS, h_D]; exact m1)) (fun M2 h2 => ⟨h2.1, h2.2.1.trans m3.1, fun p j hp hj => (h2.2.2 p j hp hj).trans (m3.2 p j hp hj)⟩)
      · refine q_if cs ?_
        unfold f_X1_replay_b102
        refine q_it rfl ?_
        rw [if_pos ⟨c, by unfold h_ns; rw [decide_eq_false_iff_not]; exact cs⟩] at eS
        rw [q_up, q_up, ← eB]
        refine ih (k + 1) u M (by omega) (by omega) hM hr ?_
        rw [eS, h_D, if_neg (hW2.2 c).2.1]
        exact hR
theorem h_fr_of {M M' : m_M} (g : g_fr w_13 w_1 M M') : h_fr M M' := ⟨by
  funext i j
  exact g.2 i j (by unfold w_1; omega), fun i j q => g.1 i j (by
    unfold h_cell at q
    unfold w_13
    omega)⟩
theorem h_replay {n N K : Nat} {day ns : Int32} {r : Nat → Int32} {M : m_M} (hn : 60 < n) (hN : N ≤ 60) (hW : h_W r N) (hd : h_day r N day K) (hM : M.1 1 1 = nI N) (hr : ∀ j, j < 6 * N → M.1 2 j = r j) : q_T (f_X1_replay n day ns M) (fun M' => (h_R (h_S r (h_ns ns) K).1 (h_D r K) M' ∧ M'.1 45 5 = day ∧ ∀ p j, p < 10 → 5 ≤ j → j < 7 → M'.1 (49 + 5 * p) j = 0) ∧ h_fr M M') := by
  refine q_TH ?_ (fun M' e => h_fr_of (g_X1_replay n day ns M M' e))
  unfold f_X1_replay
  refine q_bd (q_bd ?_)
  have e45 : ∀ i j, i ≠ 45 → (m_sI (m_sI M 45 5 day) 45 4 0).1 i j = M.1 i j := fun i j hi => by
    rw [q_r, q_r, if_neg (by omega), if_neg (by omega)]
  have h12 := fun Q hQ => h_re12 n (by omega) day ns (fun _ _ => True) 10 0 n (m_sI (m_sI M 45 5 day) 45 4 0) Q (by omega) (by omega) (fun p hp => by omega) hQ
  refine h12 _ (fun M1 hp hf h45 => ?_)
  have hl := h_loop (n := n) (ns := ns) hN hW hd K 0 n M1 (by omega) (by have := hd.1; omega) ((hf.2 1 1 (h_cell1 (by omega))).trans ((e45 1 1 (by omega)).trans hM)) (fun j hj => (hf.2 2 j (h_cell1 (by omega))).trans ((e45 2 j (by omega)).trans (hr j hj))) (h_R0 hp (by rw [h45, q_r, if_pos ⟨rfl, rfl⟩]))
  refine q_mono hl (fun M' h => ⟨h.1, h.2.1.trans (by rw [h45, q_r, if_neg (by omega), q_r, if_pos ⟨rfl, rfl⟩]), fun p j hp' h5 h7 => (h.2.2 p j hp' h5).trans ?_⟩)
  have := (hp p hp').1 j h7
  rw [this, if_neg (by omega)]
