/-! the class's replay makes the fold -/
theorem h_hc {D f i : Nat} (h : h_ok D f i) (hD : D ≤ 60) : h_cell (h_cc f i) := Or.inr (h_cc_in h hD)
/-- one update, with its frame -/
theorem h_one {S : Nat → Nat → Int32} {D : Nat} {M0 M : m_M} {f i k j : Nat} {x : Int32} (h : h_R S D M ∧ h_fr M0 M) (hD : D ≤ 60) (hok : h_ok D f i) (hk : h_cc f i = k) (hj : h_cs f i = j) : h_R (h_up S f i x) D (m_sI M k j x) ∧ h_fr M0 (m_sI M k j x) :=
  ⟨h_R_up h.1 hD hok hk hj, h_fr_tr h.2 (h_fr_sI (by rw [← hk]; exact h_hc hok hD))⟩
theorem h_rd {S : Nat → Nat → Int32} {D : Nat} {M : m_M} {f i k j : Nat} (h : h_R S D M) (hok : h_ok D f i) (hk : h_cc f i = k) (hj : h_cs f i = j) : M.1 k j = S f i := by
  rw [← hk, ← hj]
  exact h.2 f i hok
theorem h_changeDeal {S : Nat → Nat → Int32} {D kd a : Nat} {M : m_M} {day b v : Int32} (h : h_R S D M) (hD : D ≤ 60) (ha : a < D) (hk : h_isd kd) (hkd : kd < 15) : h_R (h_st S D kd a day b v) D (f_X1_changeDeal (nI kd) (99 + a) v M) ∧ h_fr M (f_X1_changeDeal (nI kd) (99 + a) v M) := by
  have ok : ∀ f, 10 ≤ f → f < 20 → h_ok D f a := fun f h1 h2 => by unfold h_ok; omega
  unfold f_X1_changeDeal
  simp only [m_bd]
  rcases hk with hk | hk | hk | hk <;> subst hk
  · rw [if_pos (by decide)]
    exact h_one ⟨h, h_fr_rf⟩ hD (ok 17 (by omega) (by omega)) (h_c10 17 (by omega)).1 (h_c10 17 (by omega)).2
  · rw [if_neg (by decide), if_pos (by decide), h_rd h (ok 14 (by omega) (by omega)) (h_c10 14 (by omega)).1 (h_c10 14 (by omega)).2]
    exact h_one ⟨h, h_fr_rf⟩ hD (ok 14 (by omega) (by omega)) (h_c10 14 (by omega)).1 (h_c10 14 (by omega)).2
  · rw [if_neg (by decide), if_neg (by decide), if_pos (by decide), h_rd h (ok 15 (by omega) (by omega)) (h_c10 15 (by omega)).1 (h_c10 15 (by omega)).2]
    exact h_one ⟨h, h_fr_rf⟩ hD (ok 15 (by omega) (by omega)) (h_c10 15 (by omega)).1 (h_c10 15 (by omega)).2
  · rw [if_neg (by decide), if_neg (by decide), if_neg (by decide), h_rd h (ok 13 (by omega) (by omega)) (h_c10 13 (by omega)).1 (h_c10 13 (by omega)).2]
    exact h_one ⟨h, h_fr_rf⟩ hD (ok 13 (by omega) (by omega)) (h_c10 13 (by omega)).1 (h_c10 13 (by omega)).2
theorem h_changePerson {S : Nat → Nat → Int32} {D kd a : Nat} {M : m_M} {day b v : Int32} (h : h_R S D M) (hD : D ≤ 60) (ha : a < 10) (hkd : kd < 14) (hk : ¬ h_isd kd) (hk4 : kd ≠ 4) (hb4 : (1 ≤ kd ∧ kd ≤ 4 ∨ 6 ≤ kd ∧ kd ≤ 8) → b = nI b.toNatClampNeg ∧ b.toNatClampNeg < 4) (hb10 : (kd = 11 ∨ kd = 12) → b = nI b.toNatClampNeg ∧ b.toNatClampNeg < 10) : q_T (f_X1_changePerson (nI kd) (49 + 5 * a) b v M) (fun M' => h_R (h_st S D kd a day b v) D M' ∧ h_fr M M') := by
  unfold h_isd at hk
  have hcs : kd = 0 ∨ kd = 1 ∨ kd = 2 ∨ kd = 3 ∨ kd = 6 ∨ kd = 7 ∨ kd = 8 ∨ kd = 11 ∨ kd = 12 := by omega
  have ok1 : ∀ f, f < 5 → h_ok D f a := fun f h1 => by unfold h_ok; omega
  unfold f_X1_changePerson
  simp only [m_bd]
  rcases hcs with e | e | e | e | e | e | e | e | e <;> subst e
  · rw [if_pos (by decide)]
    refine q_some ?_
    unfold f_X5_goInto
    simp only [m_bd]
    exact h_one (h_one ⟨h, h_fr_rf⟩ hD (ok1 0 (by omega)) (h_c1 0 (by omega)).1 (h_c1 0 (by omega)).2) hD (ok1 1 (by omega)) (h_c1 1 (by omega)).1 (h_c1 1 (by omega)).2
  · obtain ⟨q, hb, hb'⟩ : ∃ q, b = nI q ∧ q < 4 := ⟨_, hb4 (by omega)⟩
    subst hb
    have ok5 : h_ok D 5 (4 * a + q) := by unfold h_ok; omega
    rw [if_neg (by decide), if_pos (by decide)]
    refine q_gd (q_in hb' (by decide)) (q_some ?_)
    rw [q_cl (by omega)]
    rw [h_rd h ok5 (h_c5 hb').1 (h_c5 hb').2]
    simp only [h_st]
    rw [q_cl (by omega)]
    exact h_one ⟨h, h_fr_rf⟩ hD ok5 (h_c5 hb').1 (h_c5 hb').2
  · obtain ⟨q, hb, hb'⟩ : ∃ q, b = nI q ∧ q < 4 := ⟨_, hb4 (by omega)⟩
    subst hb
    have ok5 : h_ok D 5 (4 * a + q) := by unfold h_ok; omega
    rw [if_neg (by decide), if_neg (by decide), if_pos (by decide)]
    refine q_gd (q_in hb' (by decide)) (q_some ?_)
    rw [q_cl (by omega)]
    rw [h_rd h ok5 (h_c5 hb').1 (h_c5 hb').2]
    simp only [h_st]
    rw [q_cl (by omega)]
    exact h_one ⟨h, h_fr_rf⟩ hD ok5 (h_c5 hb').1 (h_c5 hb').2
  · obtain ⟨q, hb, hb'⟩ : ∃ q, b = nI q ∧ q < 4 := ⟨_, hb4 (by omega)⟩
    subst hb
    have ok5 : h_ok D 5 (4 * a + q) := by unfold h_ok; omega
    rw [if_neg (by decide), if_neg (by decide), if_neg (by decide), if_pos (by decide)]
    refine q_gd (q_in hb' (by decide)) (q_some ?_)
    rw [q_cl (by omega)]
    rw [h_rd h ok5 (h_c5 hb').1 (h_c5 hb').2]
    simp only [h_st]
    rw [q_cl (by omega)]
    have h1 := h_one (x := S 5 (4 * a + q) - v) ⟨h, h_fr_rf⟩ hD ok5 (h_c5 hb').1 (h_c5 hb').2
    have e4 := h_rd h1.1 (ok1 4 (by omega)) (h_c1 4 (by omega)).1 (h_c1 4 (by omega)).2
    rw [e4]
    have e5 : h_up S 5 (4 * a + q) (S 5 (4 * a + q) - v) 4 a = S 4 a := by unfold h_up; rw [if_neg (by omega)]
    rw [e5]
    exact h_one h1 hD (ok1 4 (by omega)) (h_c1 4 (by omega)).1 (h_c1 4 (by omega)).2
  · obtain ⟨q, hb, hb'⟩ : ∃ q, b = nI q ∧ q < 4 := ⟨_, hb4 (by omega)⟩
    subst hb
    have ok7 : h_ok D 7 (4 * a + q) := by unfold h_ok; omega
    rw [if_neg (by decide), if_neg (by decide), if_neg (by decide), if_neg (by decide), if_pos (by decide)]
    refine q_gd (q_in hb' (by decide)) (q_some ?_)
    rw [q_cl (by omega)]
    simp only [h_st]
    rw [q_cl (by omega)]
    exact h_one ⟨h, h_fr_rf⟩ hD ok7 (h_c7 hb').1 (h_c7 hb').2
  · obtain ⟨q, hb, hb'⟩ : ∃ q, b = nI q ∧ q < 4 := ⟨_, hb4 (by omega)⟩
    subst hb
    have ok7 : h_ok D 7 (4 * a + q) := by unfold h_ok; omega
    rw [if_neg (by decide), if_neg (by decide), if_neg (by decide), if_neg (by decide), if_neg (by decide), if_pos (by decide)]
    refine q_gd (q_in hb' (by decide)) (q_some ?_)
    rw [q_cl (by omega)]
    simp only [h_st]
    rw [q_cl (by omega)]
    exact h_one ⟨h, h_fr_rf⟩ hD ok7 (h_c7 hb').1 (h_c7 hb').2
  · obtain ⟨q, hb, hb'⟩ : ∃ q, b = nI q ∧ q < 4 := ⟨_, hb4 (by omega)⟩
    subst hb
    have ok8 : h_ok D 8 (4 * a + q) := by unfold h_ok; omega
    rw [if_neg (by decide), if_neg (by decide), if_neg (by decide), if_neg (by decide), if_neg (by decide), if_neg (by decide), if_pos (by decide)]
    refine q_gd (q_in hb' (by decide)) (q_some ?_)
    rw [q_cl (by omega)]
    simp only [h_st]
    rw [q_cl (by omega)]
    exact h_one ⟨h, h_fr_rf⟩ hD ok8 (h_c8 hb').1 (h_c8 hb').2
  · obtain ⟨q, hb, hb'⟩ : ∃ q, b = nI q ∧ q < 10 := ⟨_, hb10 (by omega)⟩
    subst hb
    have ok6 : h_ok D 6 (10 * a + q) := by unfold h_ok; omega
    rw [if_neg (by decide), if_neg (by decide), if_neg (by decide), if_neg (by decide), if_neg (by decide), if_neg (by decide), if_neg (by decide), if_pos (by decide)]
    refine q_gd (q_in hb' (by decide)) (q_some ?_)
    rw [q_cl (by omega)]
    rw [h_rd h ok6 (h_c6 hb').1 (h_c6 hb').2]
    simp only [h_st]
    rw [q_cl (by omega)]
    exact h_one ⟨h, h_fr_rf⟩ hD ok6 (h_c6 hb').1 (h_c6 hb').2
  · obtain ⟨q, hb, hb'⟩ : ∃ q, b = nI q ∧ q < 10 := ⟨_, hb10 (by omega)⟩
    subst hb
    have ok6 : h_ok D 6 (10 * a + q) := by unfold h_ok; omega
    rw [if_neg (by decide), if_neg (by decide), if_neg (by decide), if_neg (by decide), if_neg (by decide), if_neg (by decide), if_neg (by decide), if_neg (by decide)]
    refine q_gd (q_in hb' (by decide)) (q_some ?_)
    rw [q_cl (by omega)]
    rw [h_rd h ok6 (h_c6 hb').1 (h_c6 hb').2]
    simp only [h_st]
    rw [q_cl (by omega)]
    exact h_one ⟨h, h_fr_rf⟩ hD ok6 (h_c6 hb').1 (h_c6 hb').2
/-- a deal begins -/
theorem h_start {S : Nat → Nat → Int32} {D a q : Nat} {M : m_M} {day v : Int32} (h : h_R S D M) (hD : D < 60) (ha : a < 10) (hq : q < 4) (hB : h_bo S) : q_T (f_X0_start (99 + D) (nI a) (nI q) v (49 + 5 * a) M) (fun M' => h_R (h_st S D 4 a day (nI q) v) (D + 1) (m_sI M' 45 4 (nI (D + 1))) ∧ h_fr M M' ∧ M'.1 45 4 = nI D) := by
  have e4 := h_rd h (f := 4) (i := a) (by unfold h_ok; omega) (h_c1 4 (by omega)).1 (h_c1 4 (by omega)).2
  have e7 := h_rd h (f := 7) (i := 4 * a + q) (by unfold h_ok; omega) (h_c7 hq).1 (h_c7 hq).2
  have e8 := h_rd h (f := 8) (i := 4 * a + q) (by unfold h_ok; omega) (h_c8 hq).1 (h_c8 hq).2
  have hb := hB (4 * a + q)
  unfold f_X0_start
  refine q_bd (q_bd (q_bd (q_bd (q_bd (q_bd (q_bd (q_bd (q_gd (q_in hq (by decide)) ?_))))))))
  rw [q_cl (by omega)]
  have r7 : ∀ x1 x2 x3 x4 x5 x6 x7 x8 : Int32, (m_sI (m_sI (m_sI (m_sI (m_sI (m_sI (m_sI (m_sI M (99 + D) 0 x1) (99 + D) 1 x2) (99 + D) 2 x3) (99 + D) 3 x4) (99 + D) 4 x5) (99 + D) 5 x6) (99 + D) 6 x7) (99 + D) 7 x8).1 (49 + 5 * a + 3) q = S 7 (4 * a + q) := by
    intro x1 x2 x3 x4 x5 x6 x7 x8
    simp only [q_r]
    (repeat (first | rw [if_pos (by omega)] | rw [if_neg (by omega)]))
    exact e7
  rw [r7]
  refine q_gd hb.1 (q_bd ?_)
  have r8 : ∀ x1 x2 x3 x4 x5 x6 x7 x8 x9 : Int32, (m_sI (m_sI (m_sI (m_sI (m_sI (m_sI (m_sI (m_sI (m_sI M (99 + D) 0 x1) (99 + D) 1 x2) (99 + D) 2 x3) (99 + D) 3 x4) (99 + D) 4 x5) (99 + D) 5 x6) (99 + D) 6 x7) (99 + D) 7 x8) (99 + D) 8 x9).1 (49 + 5 * a + 4) q = S 8 (4 * a + q) := by
    intro x1 x2 x3 x4 x5 x6 x7 x8 x9
    simp only [q_r]
    (repeat (first | rw [if_pos (by omega)] | rw [if_neg (by omega)]))
    exact e8
  rw [r8]
  refine q_gd hb.2 (q_bd (q_some ?_))
  have r6 : ∀ x1 x2 x3 x4 x5 x6 : Int32, (m_sI (m_sI (m_sI (m_sI (m_sI (m_sI M (99 + D) 0 x1) (99 + D) 1 x2) (99 + D) 2 x3) (99 + D) 3 x4) (99 + D) 4 x5) (99 + D) 5 x6).1 (49 + 5 * a) 4 = S 4 a := by
    intro x1 x2 x3 x4 x5 x6
    simp only [q_r]
    (repeat (first | rw [if_pos (by omega)] | rw [if_neg (by omega)]))
    exact e4
  rw [r6]
  have hc : h_cell (99 + D) := by unfold h_cell; omega
  refine ⟨⟨?_, fun f i hok => ?_⟩, ?_, ?_⟩
  · rw [q_r, if_pos (by omega)]
  · have hin := h_cc_in hok (by omega)
    simp only [q_r]
    rw [if_neg (by omega)]
    by_cases hi : i = D ∧ 10 ≤ f
    · obtain ⟨hi, hf⟩ := hi
      subst hi
      have hf2 : f < 20 := by unfold h_ok at hok; omega
      rw [(h_c10 f hf).1, (h_c10 f hf).2]
      simp only [h_st, true_and]
      rw [if_pos hf]
      have hfs : f = 10 ∨ f = 11 ∨ f = 12 ∨ f = 13 ∨ f = 14 ∨ f = 15 ∨ f = 16 ∨ f = 17 ∨ f = 18 ∨ f = 19 := by omega
      rcases hfs with e | e | e | e | e | e | e | e | e | e <;> subst e <;> ((repeat (first | rw [if_pos (by omega)] | rw [if_neg (by omega)])); try rfl)
      · simp only [h_dl]
        rw [q_cl (by omega)]
      · show S 8 (4 * a + q) = S 8 (4 * a + (nI q).toNatClampNeg)
        rw [q_cl (by omega)]
    · have hok2 : h_ok D f i := by unfold h_ok at hok ⊢; omega
      have hne : ¬ h_cc f i = 99 + D := by
        unfold h_cc
        unfold h_ok at hok2
        rcases hok2 with q | q | q | q | q | q <;> ((repeat (first | rw [if_pos (by omega)] | rw [if_neg (by omega)])); omega)
      simp only [h_st, if_neg hi, hne, false_and, if_false]
      exact h.2 f i hok2
  · exact h_fr_tr (h_fr_sI hc) (h_fr_tr (h_fr_sI hc) (h_fr_tr (h_fr_sI hc) (h_fr_tr (h_fr_sI hc) (h_fr_tr (h_fr_sI hc) (h_fr_tr (h_fr_sI hc) (h_fr_tr (h_fr_sI hc) (h_fr_tr (h_fr_sI hc) (h_fr_tr (h_fr_sI hc) (h_fr_sI hc)))))))))
  · simp only [q_r]
    (repeat (first | rw [if_pos (by omega)] | rw [if_neg (by omega)]))
    exact h.1
