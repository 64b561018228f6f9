/-! A NOTE comes: the reference's 'may', the new row on both sides -/
theorem k_999 {C : k_C} (hV : k_V C) : h_day (k_r C) (k_N C) 999 (k_N C) := by
  refine ⟨Nat.le_refl _, fun k hk => ?_, fun k h1 h2 => by omega⟩
  obtain ⟨d, hd, e⟩ := (hV.2.2.1 k hk).1
  rw [e]
  exact (q_le (b := 999) (by omega) (by decide)).mpr (by omega)
theorem a_Q7 {S : Nat → Nat → Int32} {D f i : Nat} {M : m_M} (h : h_Q S D M) (hf : f = 7 ∨ f = 8) (hi : i < 40) : M.1 (h_rc f) i = S f i := by
  have e := h.1 f i (by unfold h_okq; omega)
  rw [if_neg (by omega)] at e
  exact e
theorem a_mk {n : Nat} {C : k_C} {M : m_M} {k : Nat} {x2 x3 x4 day : Int32} (hn : 200 < n) (hV : k_V C) (hG : k_G C 31 day (k_N C) M) (hk : k < 15) (hF : n_F (k_P C) (h_D (k_r C) (k_N C)) k x2 x3 x4) : f_X8_may n (nI k) x2 x3 x4 M = some (l_b (n_mk (h_S (k_r C) h_all (k_N C)).1 k x2 x3 x4)) := by
  have hP := hV.1.1
  have hN := hV.1.2.1
  have hD := k_D60 hV (Nat.le_refl (k_N C))
  obtain ⟨hh, ρ, ρ1, ρ2⟩ := k_ac hV h_all (Nat.le_refl (k_N C))
  have hB := h_bo_S (k_r C) h_all (k_N C)
  have hQ := hG.1.1
  rw [k_sb31 hV (Nat.le_refl _)] at hQ
  obtain ⟨F1, F2, F3, F4, F5, F6, F7⟩ := hF
  have deal : ∀ a, a < h_D (k_r C) (k_N C) → ∃ k', k' < k_N C ∧ h_kd (k_r C) k' = 4 ∧ a = h_D (k_r C) k' := fun a ha => by
    obtain ⟨k', k1, k2, k3⟩ := h_D_ex _ _ _ ha
    exact ⟨k', k1, k2, k3.symm⟩
  unfold f_X8_may
  have hc : k = 0 ∨ k = 1 ∨ k = 2 ∨ k = 3 ∨ k = 4 ∨ k = 5 ∨ k = 6 ∨ k = 7 ∨ k = 8 ∨ k = 9 ∨ k = 10 ∨ k = 11 ∨ k = 12 ∨ k = 13 ∨ k = 14 := by omega
  unfold m_gd
  rcases hc with e | e | e | e | e | e | e | e | e | e | e | e | e | e | e <;> subst e
  · obtain ⟨a, ha, rfl⟩ := F2 (by unfold h_isd; omega)
    rw [if_pos (show nI 0 = (0 : Int32) from rfl)]
    unfold n_mk
    rw [if_pos rfl]
    by_cases c : x3 = -1
    · rw [if_pos c, if_pos c]
      rfl
    · rw [if_neg c, if_neg c]
      have hit := a_hit (n := n) (a := a) (x1 := x3) (M := M) (by omega) hP hQ hh ⟨ρ1, ρ2⟩ 10 x3 n 11 (by
        rcases F3 rfl with q | ⟨b, b1, b2⟩
        · exact Or.inl q
        · exact Or.inr ⟨b, b1, b2, by have := ρ1 b b1; omega⟩) (by omega) (by omega)
      have hit' : f_X8_isUnder n x3 (nI a) M = some (l_b (n_hit (h_S (k_r C) h_all (k_N C)).1 (nI a) 11 x3)) := hit
      rw [hit']
      show (if l_b (n_hit (h_S (k_r C) h_all (k_N C)).1 (nI a) 11 x3) = 0 then some 1 else some 0) = _
      cases n_hit (h_S (k_r C) h_all (k_N C)).1 (nI a) 11 x3 <;> rfl
  · rw [if_neg (by decide), if_neg (by decide), if_neg (by decide), if_neg (by decide), if_neg (by decide), if_neg (by decide), if_neg (by decide), if_neg (by decide), if_neg (by decide), if_neg (by decide), if_neg (by decide)]
    rfl
  · obtain ⟨a, ha, rfl⟩ := F2 (by unfold h_isd; omega)
    obtain ⟨b, hb, rfl⟩ := F4 (by omega)
    rw [if_neg (by decide), if_pos (by decide), q_x4, q_add, if_pos (q_in (by omega) (by decide)), q_cl (by omega), e_Q5 hQ (by omega), n_lt]
    unfold n_mk
    rw [if_neg (by decide), if_pos (by decide), q_cl (by omega), q_cl (by omega)]
    rfl
  · obtain ⟨a, ha, rfl⟩ := F2 (by unfold h_isd; omega)
    obtain ⟨b, hb, rfl⟩ := F4 (by omega)
    rw [if_neg (by decide), if_pos (by decide), q_x4, q_add, if_pos (q_in (by omega) (by decide)), q_cl (by omega), e_Q5 hQ (by omega), n_lt]
    unfold n_mk
    rw [if_neg (by decide), if_pos (by decide), q_cl (by omega), q_cl (by omega)]
    rfl
  · rw [if_neg (by decide), if_neg (by decide), if_neg (by decide), if_neg (by decide), if_neg (by decide), if_neg (by decide), if_neg (by decide), if_neg (by decide), if_neg (by decide), if_neg (by decide), if_neg (by decide)]
    rfl
  · obtain ⟨a, ha, rfl⟩ := F1 (by unfold h_isd; omega)
    have s17 : M.1 189 a = (h_S (k_r C) h_all (k_N C)).1 17 a := a_Q hQ (f := 17) (by omega) ha
    rw [if_neg (by decide), if_neg (by decide), if_pos (by decide), if_pos (q_in (by omega) (by decide)), q_cl (by omega), s17, n_eq0]
    unfold n_mk
    rw [if_neg (by decide), if_neg (by decide), if_pos (by decide), q_cl (by omega)]
  · obtain ⟨a, ha, rfl⟩ := F2 (by unfold h_isd; omega)
    obtain ⟨b, hb, rfl⟩ := F4 (by omega)
    have s7 : M.1 182 (4 * a + b) = (h_S (k_r C) h_all (k_N C)).1 7 (4 * a + b) := a_Q7 hQ (f := 7) (by omega) (by omega)
    rw [if_neg (by decide), if_neg (by decide), if_neg (by decide), if_pos (by decide), q_x4, q_add, if_pos (q_in (by omega) (by decide)), q_cl (by omega), s7, n_eq0]
    unfold n_mk
    rw [if_neg (by decide), if_neg (by decide), if_neg (by decide), if_pos (by decide), q_cl (by omega), q_cl (by omega)]
  · obtain ⟨a, ha, rfl⟩ := F2 (by unfold h_isd; omega)
    obtain ⟨b, hb, rfl⟩ := F4 (by omega)
    have s7 : M.1 182 (4 * a + b) = (h_S (k_r C) h_all (k_N C)).1 7 (4 * a + b) := a_Q7 hQ (f := 7) (by omega) (by omega)
    rw [if_neg (by decide), if_neg (by decide), if_neg (by decide), if_neg (by decide), if_pos (by decide), q_x4, q_add, if_pos (q_in (by omega) (by decide)), q_cl (by omega), s7, if_pos (hB _).1]
    unfold n_mk
    rw [if_neg (by decide), if_neg (by decide), if_neg (by decide), if_neg (by decide), if_pos (by decide), q_cl (by omega), q_cl (by omega)]
    exact congrArg some (n_lb0 (hB _).1)
  · obtain ⟨a, ha, rfl⟩ := F2 (by unfold h_isd; omega)
    obtain ⟨b, hb, rfl⟩ := F4 (by omega)
    have s8 : M.1 183 (4 * a + b) = (h_S (k_r C) h_all (k_N C)).1 8 (4 * a + b) := a_Q7 hQ (f := 8) (by omega) (by omega)
    rw [if_neg (by decide), if_neg (by decide), if_neg (by decide), if_neg (by decide), if_neg (by decide), if_pos (by decide), q_x4, q_add, if_pos (q_in (by omega) (by decide)), q_cl (by omega), s8, n_eq0]
    unfold n_mk
    rw [if_neg (by decide), if_neg (by decide), if_neg (by decide), if_neg (by decide), if_neg (by decide), if_pos (by decide), q_cl (by omega), q_cl (by omega)]
  · obtain ⟨a, ha, rfl⟩ := F1 (by unfold h_isd; omega)
    have s14 : M.1 187 a = (h_S (k_r C) h_all (k_N C)).1 14 a := a_Q hQ (f := 14) (by omega) ha
    obtain ⟨k', k1, k2, e⟩ := deal a ha
    have h185 : M.1 185 a = nI k' := by rw [e]; exact hG.1.2.2.2.2.1 k' k1 k2
    have hof : f_X8_of (nI k') 4 M = some (k_r C (6 * k' + 4)) := k_row_of (j := 4) hV hG.2 k1 (by omega)
    have s12 : (h_S (k_r C) h_all (k_N C)).1 12 a = k_r C (6 * k' + 4) := by rw [e]; exact (h_made_S hV.2.1 h_all k2 (k_N C) (Nat.le_refl _) k1).2.2
    rw [if_neg (by decide), if_neg (by decide), if_neg (by decide), if_neg (by decide), if_neg (by decide), if_neg (by decide), if_pos (by decide), if_pos (q_in (by omega) (by decide)), q_cl (by omega), h185, hof]
    show (if k_r C (6 * k' + 4) < M.1 187 a + x4 then some 0 else some 1) = _
    rw [n_lt, s14]
    unfold n_mk
    rw [if_neg (by decide), if_neg (by decide), if_neg (by decide), if_neg (by decide), if_neg (by decide), if_neg (by decide), if_pos (by decide), q_cl (by omega), s12]
  · obtain ⟨a, ha, rfl⟩ := F1 (by unfold h_isd; omega)
    obtain ⟨k', k1, k2, e⟩ := deal a ha
    have hth := a_there hV hG (Nat.le_refl _) k1 k2
    rw [← e, k_sb31 hV (Nat.le_refl _)] at hth
    rw [if_neg (by decide), if_neg (by decide), if_neg (by decide), if_neg (by decide), if_neg (by decide), if_neg (by decide), if_neg (by decide), if_pos (by decide), hth]
    show (if m_max 0 _ < x4 then some 0 else some 1) = _
    rw [n_lt]
    unfold n_mk
    rw [if_neg (by decide), if_neg (by decide), if_neg (by decide), if_neg (by decide), if_neg (by decide), if_neg (by decide), if_neg (by decide), if_pos (by decide), q_cl (by omega)]
  · rw [if_neg (by decide), if_neg (by decide), if_neg (by decide), if_neg (by decide), if_neg (by decide), if_neg (by decide), if_neg (by decide), if_neg (by decide), if_neg (by decide), if_neg (by decide), if_neg (by decide)]
    rfl
  · obtain ⟨a, ha, rfl⟩ := F2 (by unfold h_isd; omega)
    obtain ⟨b, hb, rfl⟩ := F5 (by omega)
    rw [if_neg (by decide), if_neg (by decide), if_neg (by decide), if_neg (by decide), if_neg (by decide), if_neg (by decide), if_neg (by decide), if_neg (by decide), if_pos (by decide), q_x10, q_add, if_pos (q_in (by omega) (by decide)), q_cl (by omega), e_Q6 hQ (by omega), n_lt]
    unfold n_mk
    rw [if_neg (by decide), if_neg (by decide), if_neg (by decide), if_neg (by decide), if_neg (by decide), if_neg (by decide), if_neg (by decide), if_neg (by decide), if_pos (by decide), q_cl (by omega), q_cl (by omega)]
    rfl
  · obtain ⟨a, ha, rfl⟩ := F1 (by unfold h_isd; omega)
    obtain ⟨k', k1, k2, e⟩ := deal a ha
    have how := a_owed hV hG (Nat.le_refl _) k1 k2
    have hlf := (k_lf hV h_all (Nat.le_refl _) k1 k2).1
    rw [← e, k_sb31 hV (Nat.le_refl _)] at how
    rw [← e] at hlf
    rw [if_neg (by decide), if_neg (by decide), if_neg (by decide), if_neg (by decide), if_neg (by decide), if_neg (by decide), if_neg (by decide), if_neg (by decide), if_neg (by decide), if_pos (by decide), how]
    show (if nI _ < x4 then some 0 else some 1) = _
    rw [n_lt]
    unfold n_mk
    rw [if_neg (by decide), if_neg (by decide), if_neg (by decide), if_neg (by decide), if_neg (by decide), if_neg (by decide), if_neg (by decide), if_neg (by decide), if_neg (by decide), if_pos (by decide), q_cl (by omega), hlf]
  · obtain ⟨a, ha, rfl⟩ := F2 (by unfold h_isd; omega)
    rw [if_neg (by decide), if_neg (by decide), if_neg (by decide), if_neg (by decide), if_neg (by decide), if_neg (by decide), if_neg (by decide), if_neg (by decide), if_neg (by decide), if_neg (by decide), if_pos (by decide), if_pos (q_in (by omega) (by decide)), q_cl (by omega), e_Q0 hQ (by omega)]
    have hx : (if (h_S (k_r C) h_all (k_N C)).1 0 a = -1 then some (0 : Int32) else some 1) = some (l_b (!decide ((h_S (k_r C) h_all (k_N C)).1 0 a = -1))) := by
      by_cases c : (h_S (k_r C) h_all (k_N C)).1 0 a = -1
      · rw [if_pos c, decide_eq_true c]
        rfl
      · rw [if_neg c, decide_eq_false c]
        rfl
    rw [hx]
    unfold n_mk
    rw [if_neg (by decide), if_neg (by decide), if_neg (by decide), if_neg (by decide), if_neg (by decide), if_neg (by decide), if_neg (by decide), if_neg (by decide), if_neg (by decide), if_neg (by decide), if_pos (by decide), q_cl (by omega)]
/-! the new row -/
def n_b (k : Nat) (x : Int32) : Int32 := if k = 5 ∨ k = 9 ∨ k = 10 ∨ k = 13 then 0 else x
def n_v (k : Nat) (x : Int32) : Int32 := if (1 ≤ k ∧ k ≤ 4) ∨ (9 ≤ k ∧ k ≤ 13) then x else 0
def n_rw (k : Nat) (x1 x2 x3 x4 : Int32) (j : Nat) : Int32 := if j = 0 then x1 else if j = 1 then nI k else if j = 2 then x2 else if j = 3 then n_b k x3 else if j = 4 then n_v k x4 else 0
def n_r (r : Nat → Int32) (N k : Nat) (x1 x2 x3 x4 : Int32) : Nat → Int32 := fun j => if j < 6 * N then r j else n_rw k x1 x2 x3 x4 (j - 6 * N)
theorem b_add {N D k : Nat} {x1 x2 x3 x4 : Int32} {M : m_M} (hN : N < 60) (hk : k < 15) (h1 : M.1 1 1 = nI N) (h2 : M.1 1 2 = nI D) : q_T (f_X3_add 1 x1 (nI k) x2 x3 x4 M) (fun a => a.1 = nI N ∧ a.2.2 = M.2 ∧ ∀ i j, a.2.1 i j = if i = 1 ∧ j = 1 then nI (N + 1) else if i = 1 ∧ j = 2 then (if k = 4 then nI (D + 1) else nI D) else if i = 2 ∧ 6 * N ≤ j ∧ j < 6 * N + 6 then n_rw k x1 x2 x3 x4 (j - 6 * N) else M.1 i j) := by
  unfold f_X3_add
  rw [h1, q_x6, q_p0, q_p1, q_p2, q_p3]
  refine q_gd (q_in (by omega) (by decide)) (q_bd (q_gd (q_in (by omega) (by decide)) (q_bd (q_gd (q_in (by omega) (by decide)) (q_bd (q_ob (q_of (h_chB k hk) ?_)))))))
  rw [q_cl (i := 6 * N) (by omega), q_cl (i := 6 * N + 1) (by omega), q_cl (i := 6 * N + 2) (by omega)]
  have e3 : ∀ i j, (m_sI (m_sI (m_sI M (1 + 1) (6 * N) x1) (1 + 1) (6 * N + 1) (nI k)) (1 + 1) (6 * N + 2) x2).1 i j = if i = 2 ∧ j = 6 * N + 2 then x2 else if i = 2 ∧ j = 6 * N + 1 then nI k else if i = 2 ∧ j = 6 * N then x1 else M.1 i j := fun i j => by rw [q_r, q_r, q_r]
  have l3 : (m_sI (m_sI (m_sI M (1 + 1) (6 * N) x1) (1 + 1) (6 * N + 1) (nI k)) (1 + 1) (6 * N + 2) x2).2 = M.2 := rfl
  generalize m_sI (m_sI (m_sI M (1 + 1) (6 * N) x1) (1 + 1) (6 * N + 1) (nI k)) (1 + 1) (6 * N + 2) x2 = M3 at *
  have b64 : ∀ y, y = n_b k x3 → q_T (f_X3_add_b64 1 x1 (nI k) x2 x3 x4 (nI (6 * N)) (nI (6 * N + 3)) y M3) (fun a => a.1 = nI N ∧ a.2.2 = M.2 ∧ ∀ i j, a.2.1 i j = if i = 1 ∧ j = 1 then nI (N + 1) else if i = 1 ∧ j = 2 then (if k = 4 then nI (D + 1) else nI D) else if i = 2 ∧ 6 * N ≤ j ∧ j < 6 * N + 6 then n_rw k x1 x2 x3 x4 (j - 6 * N) else M.1 i j) := by
    intro y hy
    unfold f_X3_add_b64
    refine q_gd (q_in (by omega) (by decide)) (q_bd (q_ob (q_of (h_chV k hk) ?_)))
    rw [q_cl (by omega), q_p4]
    have b90 : ∀ z, z = n_v k x4 → q_T (f_X3_add_b90 1 x1 (nI k) x2 x3 x4 (nI (6 * N)) (nI (6 * N + 4)) z (m_sI M3 (1 + 1) (6 * N + 3) y)) (fun a => a.1 = nI N ∧ a.2.2 = M.2 ∧ ∀ i j, a.2.1 i j = if i = 1 ∧ j = 1 then nI (N + 1) else if i = 1 ∧ j = 2 then (if k = 4 then nI (D + 1) else nI D) else if i = 2 ∧ 6 * N ≤ j ∧ j < 6 * N + 6 then n_rw k x1 x2 x3 x4 (j - 6 * N) else M.1 i j) := by
      intro z hz
      unfold f_X3_add_b90
      rw [q_p5]
      refine q_gd (q_in (by omega) (by decide)) (q_bd (q_gd (q_in (by omega) (by decide)) (q_bd ?_)))
      rw [q_cl (by omega), q_cl (by omega)]
      have e5 : ∀ i j, (m_sI (m_sI (m_sI M3 (1 + 1) (6 * N + 3) y) (1 + 1) (6 * N + 4) z) (1 + 1) (6 * N + 5) 0).1 i j = if i = 2 ∧ 6 * N ≤ j ∧ j < 6 * N + 6 then n_rw k x1 x2 x3 x4 (j - 6 * N) else M.1 i j := fun i j => by
        rw [q_r, q_r, q_r, e3]
        by_cases hi : i = 2
        · subst hi
          by_cases c : 6 * N ≤ j ∧ j < 6 * N + 6
          · rw [if_pos (show (2 : Nat) = 2 ∧ 6 * N ≤ j ∧ j < 6 * N + 6 from ⟨rfl, c⟩)]
            unfold n_rw
            have hs : j = 6 * N ∨ j = 6 * N + 1 ∨ j = 6 * N + 2 ∨ j = 6 * N + 3 ∨ j = 6 * N + 4 ∨ j = 6 * N + 5 := by omega
            rcases hs with q | q | q | q | q | q <;> subst q
            · (repeat (first | rw [if_pos (by omega)] | rw [if_neg (by omega)]))
            · (repeat (first | rw [if_pos (by omega)] | rw [if_neg (by omega)]))
            · (repeat (first | rw [if_pos (by omega)] | rw [if_neg (by omega)]))
            · (repeat (first | rw [if_pos (by omega)] | rw [if_neg (by omega)]))
              exact hy
            · (repeat (first | rw [if_pos (by omega)] | rw [if_neg (by omega)]))
              exact hz
            · (repeat (first | rw [if_pos (by omega)] | rw [if_neg (by omega)]))
          · (repeat (first | rw [if_pos (by omega)] | rw [if_neg (by omega)]))
        · (repeat (first | rw [if_pos (by omega)] | rw [if_neg (by omega)]))
      have l5 : (m_sI (m_sI (m_sI M3 (1 + 1) (6 * N + 3) y) (1 + 1) (6 * N + 4) z) (1 + 1) (6 * N + 5) 0).2 = M.2 := l3
      generalize m_sI (m_sI (m_sI M3 (1 + 1) (6 * N + 3) y) (1 + 1) (6 * N + 4) z) (1 + 1) (6 * N + 5) 0 = M5 at *
      have e12 : M5.1 1 2 = nI D := by rw [e5, if_neg (by omega), h2]
      have e11 : M5.1 1 1 = nI N := by rw [e5, if_neg (by omega), h1]
      have k4' : nI k = (4 : Int32) ↔ k = 4 := nI_eq (b := 4) (by omega) (by decide)
      by_cases c4 : k = 4
      · refine q_it (k4'.mpr c4) (q_bd ?_)
        unfold f_X3_add_b116
        refine q_bd (q_some ⟨?_, l5, fun i j => ?_⟩)
        · rw [q_r, if_pos ⟨rfl, rfl⟩, q_r, if_neg (by omega), e11, q_up, nI_pred]
        · rw [q_r, q_r, q_r, if_neg (show ¬ ((1 : Nat) = 1 ∧ (1 : Nat) = 2) by omega), e11, e12, q_up, q_up, e5, if_pos c4]
      · refine q_if (fun q => c4 (k4'.mp q)) ?_
        unfold f_X3_add_b116
        refine q_bd (q_some ⟨?_, l5, fun i j => ?_⟩)
        · rw [q_r, if_pos ⟨rfl, rfl⟩, e11, q_up, nI_pred]
        · rw [q_r, e11, q_up, e5, if_neg c4]
          by_cases d1 : i = 1 ∧ j = 1
          · rw [if_pos d1, if_pos d1]
          · rw [if_neg d1, if_neg d1]
            by_cases d2 : i = 1 ∧ j = 2
            · rw [if_pos d2, if_neg (by omega), d2.1, d2.2, h2]
            · rw [if_neg d2]
    by_cases cv : (1 ≤ k ∧ k ≤ 4) ∨ (9 ≤ k ∧ k ≤ 13)
    · rw [if_pos cv]
      refine q_if (by decide) (b90 x4 ?_)
      unfold n_v
      rw [if_pos cv]
    · rw [if_neg cv]
      refine q_it rfl (b90 0 ?_)
      unfold n_v
      rw [if_neg cv]
  by_cases cb : k = 5 ∨ k = 9 ∨ k = 10 ∨ k = 13
  · rw [if_neg (show ¬ k = 0 by omega), if_pos cb]
    refine q_it rfl (b64 0 ?_)
    unfold n_b
    rw [if_pos cb]
  · refine q_if ?_ (b64 x3 ?_)
    · rw [if_neg cb]
      repeat' split
      all_goals decide
    · unfold n_b
      rw [if_neg cb]
theorem n_nb {k : Nat} (hk : k < 15) : f_X8_namesB (nI k) = if k = 5 ∨ k = 9 ∨ k = 10 ∨ k = 13 then 0 else 1 := by
  have h : ∀ k, k < 15 → f_X8_namesB (nI k) = if k = 5 ∨ k = 9 ∨ k = 10 ∨ k = 13 then 0 else 1 := by decide +kernel
  exact h k hk
theorem n_nv {k : Nat} (hk : k < 15) : f_X8_namesV (nI k) = if (1 ≤ k ∧ k ≤ 4) ∨ (9 ≤ k ∧ k ≤ 13) then 1 else 0 := by
  have h : ∀ k, k < 15 → f_X8_namesV (nI k) = if (1 ≤ k ∧ k ≤ 4) ∨ (9 ≤ k ∧ k ≤ 13) then 1 else 0 := by decide +kernel
  exact h k hk
