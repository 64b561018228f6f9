theorem h_re58 (n k : Nat) : ∀ (d x u : Nat) (M : m_M), x + d = 4 → d < u → q_T (f_X5_restart_b58 n k u (nI x) M) (fun M' => M'.2 = M.2 ∧ ∀ i j, M'.1 i j = if (i = k + 1 ∨ i = k + 3 ∨ i = k + 4) ∧ x ≤ j ∧ j < 4 then 0 else M.1 i j) := by
  intro d
  induction d with
  | zero =>
    intro x u M hx hu
    obtain ⟨u, rfl⟩ : ∃ v, u = v + 1 := ⟨u - 1, by omega⟩
    rw [f_X5_restart_b58]
    refine q_it ((q_le (a := 4) (by decide) (by omega)).mpr (by omega)) (q_some ⟨rfl, fun i j => ?_⟩)
    rw [if_neg (by omega)]
  | succ d ih =>
    intro x u M hx hu
    obtain ⟨u, rfl⟩ : ∃ v, u = v + 1 := ⟨u - 1, by omega⟩
    rw [f_X5_restart_b58]
    refine q_if (fun h => absurd ((q_le (a := 4) (by decide) (by omega)).mp h) (by omega)) (q_gd (q_in (by omega) (by decide)) (q_bd (q_bd (q_bd ?_))))
    rw [q_cl (by omega), q_up]
    refine q_mono (ih (x + 1) u _ (by omega) (by omega)) (fun M' hM => ⟨hM.1, fun i j => ?_⟩)
    rw [hM.2]
    simp only [q_r]
    ((repeat' split) <;> (first | rfl | (exfalso; omega)))
theorem h_re37 (n k : Nat) (hn : 4 < n) : ∀ (d x u : Nat) (M : m_M), x + d = 10 → d < u → q_T (f_X5_restart_b37 n k u (nI x) M) (fun M' => M'.2 = M.2 ∧ ∀ i j, M'.1 i j = if (i = k + 1 ∨ i = k + 3 ∨ i = k + 4) ∧ j < 4 then 0 else if i = k + 2 ∧ x ≤ j ∧ j < 10 then 0 else M.1 i j) := by
  intro d
  induction d with
  | zero =>
    intro x u M hx hu
    obtain ⟨u, rfl⟩ : ∃ v, u = v + 1 := ⟨u - 1, by omega⟩
    rw [f_X5_restart_b37]
    refine q_it ((q_le (a := 10) (by decide) (by omega)).mpr (by omega)) (q_mono (h_re58 n k 4 0 n M (by omega) hn) (fun M' hM => ⟨hM.1, fun i j => ?_⟩))
    rw [hM.2]
    ((repeat' split) <;> (first | rfl | (exfalso; omega)))
  | succ d ih =>
    intro x u M hx hu
    obtain ⟨u, rfl⟩ : ∃ v, u = v + 1 := ⟨u - 1, by omega⟩
    rw [f_X5_restart_b37]
    refine q_if (fun h => absurd ((q_le (a := 10) (by decide) (by omega)).mp h) (by omega)) (q_gd (q_in (by omega) (by decide)) (q_bd ?_))
    rw [q_cl (by omega), q_up]
    refine q_mono (ih (x + 1) u _ (by omega) (by omega)) (fun M' hM => ⟨hM.1, fun i j => ?_⟩)
    rw [hM.2]
    simp only [q_r]
    ((repeat' split) <;> (first | rfl | (exfalso; omega)))
def h_re (k i j : Nat) : Option Int32 := if i = k ∧ j < 2 then some (-1) else if i = k ∧ j < 7 then some 0 else if (i = k + 1 ∨ i = k + 3 ∨ i = k + 4) ∧ j < 4 then some 0 else if i = k + 2 ∧ j < 10 then some 0 else none
theorem h_restart {n k : Nat} (hn : 10 < n) (M : m_M) : q_T (f_X5_restart n k M) (fun M' => M'.2 = M.2 ∧ ∀ i j, M'.1 i j = (h_re k i j).getD (M.1 i j)) := by
  unfold f_X5_restart
  refine q_bd (q_bd (q_bd (q_bd (q_bd (q_bd (q_bd ?_))))))
  refine q_mono (h_re37 n k (by omega) 10 0 n _ (by omega) hn) (fun M' hM => ⟨hM.1, fun i j => ?_⟩)
  rw [hM.2]
  simp only [q_r, h_re]
  ((repeat' split) <;> (first | rfl | (exfalso; omega)))
/-- a whole person, fresh -/
def h_P0 (M : m_M) (p : Nat) : Prop := (∀ j, j < 7 → M.1 (49 + 5 * p) j = if j < 2 then -1 else 0) ∧ (∀ j, j < 4 → M.1 (50 + 5 * p) j = 0 ∧ M.1 (52 + 5 * p) j = 0 ∧ M.1 (53 + 5 * p) j = 0) ∧ ∀ j, j < 10 → M.1 (51 + 5 * p) j = 0
theorem h_re12 (n : Nat) (hn : 10 < n) (day ns : Int32) (K : Int32 → Int32 → Prop) : ∀ (d x u : Nat) (M : m_M) (Q : m_M → Prop), x + d = 10 → d < u → (∀ p, p < x → h_P0 M p) → (∀ M1, (∀ p, p < 10 → h_P0 M1 p) → h_fr M M1 → M1.1 45 = M.1 45 → q_T (f_X1_replay_b38 n day ns n 0 0 M1) Q) → q_T (f_X1_replay_b12 n day ns u (nI x) M) Q := by
  intro d
  induction d with
  | zero =>
    intro x u M Q hx hu h0 hk
    obtain ⟨u, rfl⟩ : ∃ v, u = v + 1 := ⟨u - 1, by omega⟩
    rw [f_X1_replay_b12]
    refine q_it ((q_le (a := 10) (by decide) (by omega)).mpr (by omega)) (hk M (fun p hp => h0 p (by omega)) h_fr_rf rfl)
  | succ d ih =>
    intro x u M Q hx hu h0 hk
    obtain ⟨u, rfl⟩ : ∃ v, u = v + 1 := ⟨u - 1, by omega⟩
    rw [f_X1_replay_b12]
    refine q_if (fun h => absurd ((q_le (a := 10) (by decide) (by omega)).mp h) (by omega)) (q_gd (q_in (by omega) (by decide)) ?_)
    rw [q_cl (by omega), q_up]
    refine q_ob (q_mono (h_restart hn M) (fun M' hM => ?_))
    obtain ⟨m1, m2⟩ := hM
    have hfr : h_fr M M' := ⟨m1, fun i j hi => by
      rw [m2]
      unfold h_cell at hi
      unfold h_re
      (repeat (first | rw [if_pos (by omega)] | rw [if_neg (by omega)]))
      rfl⟩
    refine ih (x + 1) u M' Q (by omega) (by omega) (fun p hp => ?_) (fun M1 hp1 hf1 h45 => hk M1 hp1 (h_fr_tr hfr hf1) (h45.trans ?_))
    · by_cases hpx : p = x
      · subst hpx
        refine ⟨fun j hj => ?_, fun j hj => ⟨?_, ?_, ?_⟩, fun j hj => ?_⟩ <;> (rw [m2]; unfold h_re)
        · by_cases h2 : j < 2
          · rw [if_pos ⟨rfl, h2⟩, if_pos h2]
            rfl
          · rw [if_neg (by omega), if_pos ⟨rfl, hj⟩, if_neg h2]
            rfl
        · (repeat (first | rw [if_pos (by omega)] | rw [if_neg (by omega)]))
          rfl
        · (repeat (first | rw [if_pos (by omega)] | rw [if_neg (by omega)]))
          rfl
        · (repeat (first | rw [if_pos (by omega)] | rw [if_neg (by omega)]))
          rfl
        · (repeat (first | rw [if_pos (by omega)] | rw [if_neg (by omega)]))
          rfl
      · have hq := h0 p (by omega)
        refine ⟨fun j hj => ?_, fun j hj => ⟨?_, ?_, ?_⟩, fun j hj => ?_⟩ <;> (rw [m2]; unfold h_re)
        · rw [if_neg (by omega), if_neg (by omega), if_neg (by omega), if_neg (by omega)]
          exact hq.1 j hj
        · rw [if_neg (by omega), if_neg (by omega), if_neg (by omega), if_neg (by omega)]
          exact (hq.2.1 j hj).1
        · rw [if_neg (by omega), if_neg (by omega), if_neg (by omega), if_neg (by omega)]
          exact (hq.2.1 j hj).2.1
        · rw [if_neg (by omega), if_neg (by omega), if_neg (by omega), if_neg (by omega)]
          exact (hq.2.1 j hj).2.2
        · rw [if_neg (by omega), if_neg (by omega), if_neg (by omega), if_neg (by omega)]
          exact hq.2.2 j hj
    · funext j
      rw [m2]
      unfold h_re
      rw [if_neg (by omega), if_neg (by omega), if_neg (by omega), if_neg (by omega)]
      rfl
theorem h_R0 {M : m_M} (h : ∀ p, p < 10 → h_P0 M p) (hD : M.1 45 4 = 0) : h_R h_S0 0 M := by
  refine ⟨hD, fun f i hok => ?_⟩
  unfold h_ok at hok
  unfold h_S0
  rcases hok with q | q | q | q | q | q
  · rw [(h_c1 f q.1).1, (h_c1 f q.1).2]
    exact (h i q.2).1 f (by omega)
  · obtain ⟨q1, q2⟩ := q
    subst q1
    have e := h_c5 (a := i / 4) (b := i % 4) (by omega)
    rw [show 4 * (i / 4) + i % 4 = i by omega] at e
    rw [e.1, e.2, show 49 + 5 * (i / 4) + 1 = 50 + 5 * (i / 4) by omega]
    exact ((h (i / 4) (by omega)).2.1 (i % 4) (by omega)).1
  · obtain ⟨q1, q2⟩ := q
    subst q1
    have e := h_c6 (a := i / 10) (b := i % 10) (by omega)
    rw [show 10 * (i / 10) + i % 10 = i by omega] at e
    rw [e.1, e.2, show 49 + 5 * (i / 10) + 2 = 51 + 5 * (i / 10) by omega]
    exact (h (i / 10) (by omega)).2.2 (i % 10) (by omega)
  · obtain ⟨q1, q2⟩ := q
    subst q1
    have e := h_c7 (a := i / 4) (b := i % 4) (by omega)
    rw [show 4 * (i / 4) + i % 4 = i by omega] at e
    rw [e.1, e.2, show 49 + 5 * (i / 4) + 3 = 52 + 5 * (i / 4) by omega]
    exact ((h (i / 4) (by omega)).2.1 (i % 4) (by omega)).2.1
  · obtain ⟨q1, q2⟩ := q
    subst q1
    have e := h_c8 (a := i / 4) (b := i % 4) (by omega)
    rw [show 4 * (i / 4) + i % 4 = i by omega] at e
    rw [e.1, e.2, show 49 + 5 * (i / 4) + 4 = 53 + 5 * (i / 4) by omega]
    exact ((h (i / 4) (by omega)).2.1 (i % 4) (by omega)).2.2
  · omega
