/-! CALLS: unline, clear, part, told, count -/
theorem k_M_mk {C C' C0 C1 : k_C} {M M' : m_M} (h : k_M C C0 C1 M) (hV : k_V C') (hA : k_A C' 1 M') (hE : k_E C' 173 0 M') (e : ∀ i j, (16 ≤ i ∧ i ≤ 44) ∨ i = 174 ∨ i = 175 ∨ i = 169 ∨ i = 176 ∨ (i = 168 ∧ j = 1) ∨ (i = 172 ∧ j = 4) → M'.1 i j = M.1 i j) (e2 : ∀ i j, i = 23 ∨ i = 28 ∨ i = 37 ∨ i = 42 ∨ (i = 0 ∧ (j = 8 ∨ j = 9)) ∨ (i = 172 ∧ (j = 5 ∨ j = 6)) → M'.2 i j = M.2 i j) : k_M C' C0 C1 M' := by
  obtain ⟨_, ⟨i0, i1⟩, t, f1, f2⟩ := h
  refine ⟨⟨hV, hA, hE⟩, ⟨k_I_f2 i0 (by omega) (fun i j q => e i j (by omega)) (fun i j q => e2 i j (by omega)), k_I_f2 i1 (by omega) (fun i j q => e i j (by omega)) (fun i j q => e2 i j (by omega))⟩, k_T_f2 t (e _ _ (by omega)) (e _ _ (by omega)) (fun j => e _ _ (by omega)) (fun j => e _ _ (by omega)), ?_, ?_⟩
  · rw [e2 0 8 (by omega), e2 172 5 (by omega)]
    exact f1
  · rw [e2 0 9 (by omega), e2 172 6 (by omega)]
    exact f2
theorem k_M_tx {C C0 C1 : k_C} {M M' : m_M} (h : k_M C C0 C1 M) (e : ∀ i j, i < 45 ∨ (173 ≤ i ∧ i ≤ 175) → M'.1 i j = M.1 i j) (e2 : M'.2 = M.2) (t : k_T M') : k_M C C0 C1 M' := by
  obtain ⟨⟨hV, hA, hE⟩, ⟨i0, i1⟩, _, f1, f2⟩ := h
  refine ⟨⟨hV, k_A_f2 hA (fun i j p q => e i j (by omega)) (fun i j q => by rw [e2]), k_E_f2 hE hV.1.2.1 hV.1.2.2.1 (fun l hl => (hV.2.2.2.2.2.2.2.2 l hl).1) (fun j p q => e _ _ (by omega))⟩, ⟨k_I_f2 i0 (by omega) (fun i j q => e i j (by omega)) (fun i j q => by rw [e2]), k_I_f2 i1 (by omega) (fun i j q => e i j (by omega)) (fun i j q => by rw [e2])⟩, t, by rw [e2]; exact f1, by rw [e2]; exact f2⟩
/-- another line -/
theorem k_A_li {C : k_C} {M M' : m_M} {n' : Nat} {l' : Nat → Int32} (h : k_A C 1 M) (e : ∀ i j, 1 ≤ i → i ≤ 14 → i ≠ 3 → ¬ (i = 1 ∧ j = 4) → M'.1 i j = M.1 i j) (e2 : ∀ i j, i = 8 ∨ i = 13 → M'.2 i j = M.2 i j) (h4 : M'.1 1 4 = nI n') (h6 : ∀ j, j < n' → M'.1 3 j = l' j) : k_A (k_P C, k_N C, k_r C, n', l', k_t C, k_x C) 1 M' := by
  obtain ⟨a0, a1, a2, a3, a4, a5, a6, a7⟩ := h
  refine ⟨(e _ _ (by omega) (by omega) (by omega) (by omega)).trans a0, (e _ _ (by omega) (by omega) (by omega) (by omega)).trans a1, (e _ _ (by omega) (by omega) (by omega) (by omega)).trans a2, (e _ _ (by omega) (by omega) (by omega) (by omega)).trans a3, h4, fun j hj => (e _ _ (by omega) (by omega) (by omega) (by omega)).trans (a5 j hj), h6, fun l hl => ?_⟩
  obtain ⟨b0, b1, fl, val, c, c'⟩ := a7 l hl
  exact ⟨(e _ _ (by omega) (by omega) (by omega) (by omega)).trans b0, fun j hj => (e _ _ (by omega) (by omega) (by omega) (by omega)).trans (b1 j hj), fl, val, e_YC_fr c (fun j => e _ _ (by omega) (by omega) (by omega) (by omega)) (fun j => e _ _ (by omega) (by omega) (by omega) (by omega)) (fun j => e2 _ _ (by omega)), c'⟩
theorem k_E_li {C : k_C} {M M' : m_M} {n' : Nat} {l' : Nat → Int32} (h : k_E C 173 0 M) (hN : k_N C ≤ 60) (ht : ∀ l, l < 2 → k_t C l ≤ 50) (e : ∀ j, j < 462 ∨ j = 468 ∨ j = 469 → M'.1 173 j = M.1 173 j) (h4 : M'.1 173 470 = nI n') (h6 : ∀ j, j < n' → M'.1 173 (462 + j) = l' j) : k_E (k_P C, k_N C, k_r C, n', l', k_t C, k_x C) 173 0 M' := by
  obtain ⟨a0, a1, a2, a5, a6, a7⟩ := h
  refine ⟨(e _ (by omega)).trans a0, (e _ (by omega)).trans a1, h4, fun j hj => (e _ (by show 0 + j < 462 ∨ _; have : j < 6 * k_N C := hj; omega)).trans (a5 j hj), fun j hj => by rw [Nat.zero_add]; exact h6 j hj, fun l hl => ?_⟩
  have := ht l hl
  exact ⟨(e _ (by omega)).trans (a7 l hl).1, fun j hj => (e _ (by have : j < k_t C l := hj; omega)).trans ((a7 l hl).2 j hj)⟩
theorem k_ht {C : k_C} (hV : k_V C) : ∀ l, l < 2 → k_t C l ≤ 50 := fun l hl => (hV.2.2.2.2.2.2.2.2 l hl).1
theorem z_unline {M : m_M} (h : k_Inv M) : (f_X7_unline M).1 = (f_X8_unline (f_X7_unline M).2).1 ∧ k_Inv (f_X8_unline (f_X7_unline M).2).2 := by
  obtain ⟨C, C0, C1, hM⟩ := h
  obtain ⟨⟨hV, hA, hE⟩, hI⟩ := id hM
  have hE0 : M.1 173 470 = nI (k_n C) := hE.2.2.1
  unfold f_X7_unline f_X8_unline f_X8_lined
  simp only [m_bd]
  have e1 : ∀ i j, (m_sI (m_sI M 1 4 0) 173 470 0).1 i j = if i = 173 ∧ j = 470 then 0 else if i = 1 ∧ j = 4 then 0 else M.1 i j := fun i j => by rw [q_r, q_r]
  refine ⟨?_, (k_P C, k_N C, k_r C, 0, k_l C, k_t C, k_x C), C0, C1, k_M_mk hM ?_ (k_A_li hA (fun i j p q r s => by rw [e1, if_neg (by omega), if_neg (by omega)]) (fun i j q => rfl) (by rw [e1, if_neg (by omega), if_pos ⟨rfl, rfl⟩]; rfl) (fun j hj => absurd hj (Nat.not_lt_zero _))) (k_E_li hE hV.1.2.1 (k_ht hV) (fun j q => by rw [e1, if_neg (by omega), if_neg (by omega)]) (by rw [e1, if_pos ⟨rfl, rfl⟩]; rfl) (fun j hj => absurd hj (Nat.not_lt_zero _))) (fun i j q => by rw [e1, if_neg (by omega), if_neg (by omega)]) (fun i j q => rfl)⟩
  · rw [q_r, if_neg (by omega), hA.2.2.2.2.1, hE0]
  · obtain ⟨⟨v1, v2, v3, v4⟩, w, r, m, a, p, l1, l2, x⟩ := hV
    exact ⟨⟨v1, v2, Nat.zero_le 6, v4⟩, w, r, m, a, p, fun i hi => absurd hi (Nat.not_lt_zero _), fun i j _ hj => absurd hj (Nat.not_lt_zero _), x⟩
theorem z_clear {M : m_M} (h : k_Inv M) : (f_X7_clear M).1 = (f_X8_clear (f_X7_clear M).2).1 ∧ k_Inv (f_X8_clear (f_X7_clear M).2).2 := by
  obtain ⟨C, C0, C1, hM⟩ := h
  obtain ⟨T, t0, t1, t2, t3⟩ := hM.2.2.1
  unfold f_X7_clear f_X8_clear
  simp only [m_bd]
  have e1 : ∀ i j, (m_sI (m_sI M 168 1 0) 172 4 0).1 i j = if i = 172 ∧ j = 4 then 0 else if i = 168 ∧ j = 1 then 0 else M.1 i j := fun i j => by rw [q_r, q_r]
  refine ⟨?_, C, C0, C1, k_M_tx hM (fun i j q => by rw [e1, if_neg (by omega), if_neg (by omega)]) rfl ⟨0, by omega, by rw [e1, if_neg (by omega), if_pos ⟨rfl, rfl⟩]; rfl, by rw [e1, if_pos ⟨rfl, rfl⟩]; rfl, fun j hj => absurd hj (Nat.not_lt_zero _)⟩⟩
  rw [q_r, if_neg (by omega), t1, t2]
theorem q_i0 {x : Int32} : x = 0 ↔ x.toInt = 0 := by
  rw [← Int32.toInt_inj]
  exact Iff.rfl
theorem q_i1 {x : Int32} : x = 1 ↔ x.toInt = 1 := by
  rw [← Int32.toInt_inj]
  exact Iff.rfl
theorem q_il0 {x : Int32} : x < 0 ↔ x.toInt < 0 := by
  rw [Int32.lt_iff_toInt_lt]
  exact Iff.rfl
theorem q_ile1 {x : Int32} : x ≤ 1 ↔ x.toInt ≤ 1 := by
  rw [Int32.le_iff_toInt_le]
  exact Iff.rfl
theorem z_part {x : Int32} {M : m_M} (h : k_Inv M) : f_X7_part x M = f_X8_part x M := by
  obtain ⟨C, C0, C1, hM⟩ := h
  have f1 := hM.2.2.2.1
  have f2 := hM.2.2.2.2
  unfold f_X7_part f_X8_part
  by_cases c0 : x = 0
  · subst c0
    rw [if_neg (by decide), if_pos (by decide), if_pos rfl, if_pos rfl]
    exact f1
  · by_cases c1 : x = 1
    · subst c1
      rw [if_neg (by decide), if_pos (by decide), if_neg (by decide), if_neg (by decide), if_pos rfl]
      exact f2
    · have e : (if x = 0 then M.2 172 5 else if x = 1 then M.2 172 6 else (-1 : Int64)) = -1 := by rw [if_neg c0, if_neg c1]
      rw [e]
      by_cases c2 : x < 0
      · rw [if_pos c2]
      · rw [if_neg c2, if_neg]
        intro c3
        rw [q_i0] at c0
        rw [q_i1] at c1
        rw [q_il0] at c2
        rw [q_ile1] at c3
        omega
theorem e_n1 : ∀ N, N < 61 → (nI N).toInt64 - 1 = (nI N - 1).toInt64 := by decide +kernel
theorem e_l6 {j : Nat} (hj : j < 2 ^ 31) : nI j < (6 : Int32) ↔ j < 6 := q_lt (b := 6) hj (by decide)
theorem z_told {x1 x2 : Int32} {M : m_M} (h : k_Inv M) : q_T (f_X7_told x1 x2 M) (fun a => q_T (f_X8_told x1 x2 M) (fun b => a = b)) := by
  obtain ⟨C, C0, C1, hM⟩ := h
  obtain ⟨⟨hV, hA, hE⟩, hI⟩ := id hM
  have hN : k_N C ≤ 60 := hV.1.2.1
  have hE1 : M.1 173 469 = nI (k_N C) := hE.2.1
  have e6 : f_X8_isIn x2.toInt64 0 5 = e_in x2 6 := by
    have h := e_in_eq (x := x2) (n := 6) (by decide)
    rw [show (nI 6 - 1).toInt64 = 5 by decide +kernel] at h
    exact h
  have eN : f_X8_isIn x1.toInt64 0 ((nI (k_N C)).toInt64 - 1) = e_in x1 (k_N C) := by
    rw [e_n1 _ (by omega)]
    exact e_in_eq (by omega)
  have ref : ∀ r, (e_in x1 (k_N C) = 0 → r = -10) → (e_in x1 (k_N C) ≠ 0 → e_in x2 6 = 0 → r = -10) → (∀ k j, k < k_N C → j < 6 → x1 = nI k → x2 = nI j → r = k_r C (6 * k + j)) → q_T (f_X8_told x1 x2 M) (fun b => r = b) := by
    intro r r1 r2 r3
    unfold f_X8_told f_X8_notes
    refine q_bd (q_bd ?_)
    rw [hE1, eN]
    refine q_ite (fun c => q_some (r1 c)) (fun c => q_bd ?_)
    rw [e6]
    refine q_ite (fun c2 => q_some (r2 c c2)) (fun c2 => ?_)
    rcases e_in_of (x := x1) (n := k_N C) (by omega) with ⟨q, _⟩ | ⟨_, k, hk, rfl⟩
    · exact absurd q c
    rcases e_in_of (x := x2) (n := 6) (by omega) with ⟨q, _⟩ | ⟨_, j, hj, rfl⟩
    · exact absurd q c2
    exact q_ob (q_of (k_row_of hV hE hk hj) (q_some (r3 k j hk hj rfl rfl)))
  unfold f_X7_told
  refine q_bd ?_
  rw [e_no7 hA.2.1]
  refine q_ite (fun c => q_some (ref _ (fun _ => rfl) (fun q => absurd c q) (fun k j hk hj q1 q2 => ?_))) (fun c => ?_)
  · rcases e_in_of (x := x1) (n := k_N C) (by omega) with ⟨_, q⟩ | ⟨q, _⟩
    · exact absurd ⟨k, hk, q1⟩ q
    · rw [q] at c
      exact absurd c (by decide)
  rcases e_in_of (x := x1) (n := k_N C) (by omega) with ⟨q, _⟩ | ⟨_, k, hk, rfl⟩
  · exact absurd q c
  rcases e_in_of (x := x2) (n := 6) (by omega) with ⟨e2, n2⟩ | ⟨e2, j, hj, rfl⟩
  · have hc := ref (-10) (fun _ => rfl) (fun _ _ => rfl) (fun k j hk hj q1 q2 => absurd ⟨j, hj, q2⟩ n2)
    refine q_ite (fun _ => q_some hc) (fun c1 => q_ite (fun c2 => ?_) (fun _ => q_some hc))
    obtain ⟨j, hj, rfl⟩ := nI_of c1
    exact absurd ⟨j, (e_l6 hj).mp c2, rfl⟩ n2
  · refine q_if (nI_pos (by omega)) (q_it ((e_l6 (by omega)).mpr hj) ?_)
    rw [q_x6, q_add]
    refine q_gd (q_in (by omega) (by decide)) (q_some ?_)
    rw [q_cl (by omega)]
    refine ref _ (fun q => absurd q c) (fun _ q => absurd (q.symm.trans e2) (by decide)) (fun k' j' hk' hj' q1 q2 => ?_)
    have a1 := (nI_eq (by omega) (by omega)).mp q1
    have a2 := (nI_eq (by omega) (by omega)).mp q2
    subst a1
    subst a2
    exact hA.2.2.2.2.2.1 _ (by omega)
/-- how many are doubted -/
theorem e_dm4 {n : Nat} {C : k_C} {M : m_M} (hV : k_V C) (hE : k_E C 173 0 M) : ∀ (d x u : Nat), x + d = k_N C → d < u → f_X8_doubtMany_b4 n M u (nI (h_B (k_r C) x)) (nI x) = some (nI (h_B (k_r C) (k_N C))) := by
  have hN : k_N C ≤ 60 := hV.1.2.1
  have hE1 : M.1 173 469 = nI (k_N C) := hE.2.1
  intro d
  induction d with
  | zero =>
    intro x u hx hu
    obtain ⟨u, rfl⟩ : ∃ v, u = v + 1 := ⟨u - 1, by omega⟩
    rw [f_X8_doubtMany_b4]
    unfold f_X8_notes
    simp only [m_bd]
    rw [hE1, if_pos ((q_le (by omega) (by omega)).mpr (by omega)), show x = k_N C by omega]
  | succ d ih =>
    intro x u hx hu
    obtain ⟨u, rfl⟩ : ∃ v, u = v + 1 := ⟨u - 1, by omega⟩
    rw [f_X8_doubtMany_b4]
    unfold f_X8_notes
    simp only [m_bd]
    have hf : f_X8_of (nI x) 5 M = some (k_r C (6 * x + 5)) := k_row_of (j := 5) hV hE (show x < k_N C by omega) (by omega)
    rw [hE1, if_neg (fun q => absurd ((q_le (by omega) (by omega)).mp q) (by omega)), hf]
    show f_X8_doubtMany_b4 n M u (nI (h_B (k_r C) x) + k_r C (6 * x + 5)) (nI x + 1) = _
    have hb := (hV.2.1 x (by omega)).2.1
    have hs : nI (h_B (k_r C) x) + k_r C (6 * x + 5) = nI (h_B (k_r C) (x + 1)) := by
      rw [h_B]
      rcases hb with b | b
      · rw [b, if_neg (by simp), q_p0]
      · rw [b, if_pos (by decide), q_up]
    rw [hs, q_up]
    exact ih (x + 1) u (by omega) (by omega)
theorem e_dm {n : Nat} {C : k_C} {M : m_M} (hn : 200 < n) (hV : k_V C) (hE : k_E C 173 0 M) : f_X8_doubtMany n M = some (nI (h_B (k_r C) (k_N C))) :=
  e_dm4 hV hE (k_N C) 0 n (by omega) (by have := hV.1.2.1; omega)
theorem z_count {n : Nat} {x : Int32} {M : m_M} (hn : 200 < n) (h : k_Inv M) : q_T (f_X8_count n x M) (fun b => f_X7_count x M = b.1 ∧ k_Inv b.2) := by
  obtain ⟨C, C0, C1, hM⟩ := h
  obtain ⟨⟨hV, hA, hE⟩, hI⟩ := id hM
  obtain ⟨T, t0, t1, t2, t3⟩ := hM.2.2.1
  have hE0 : M.1 173 468 = nI (k_P C) := hE.1
  have hE1 : M.1 173 469 = nI (k_N C) := hE.2.1
  have hE2 : M.1 173 470 = nI (k_n C) := hE.2.2.1
  have i : k_Inv M := ⟨C, C0, C1, hM⟩
  unfold f_X8_count f_X7_count f_X3_howMany
  simp only [m_bd]
  rw [hA.1, hA.2.1, hA.2.2.1, hA.2.2.2.1, hA.2.2.2.2.1, t1, t2]
  unfold f_X8_persons f_X8_notes f_X8_lined
  rw [hE0, hE1, hE2]
  refine q_ite (fun c => ?_) (fun c0 => q_ite (fun c => ?_) (fun c1 => q_ite (fun c => ?_) (fun c2 => q_ite (fun c => ?_) (fun c3 => q_ite (fun c => ?_) (fun c4 => q_ite (fun c => ?_) (fun c5 => ?_))))))
  · subst c
    exact q_some ⟨rfl, i⟩
  · subst c
    exact q_some ⟨rfl, i⟩
  · subst c
    obtain ⟨K, hK⟩ := k_isday hV 999
    have hM1 : k_M C C0 C1 (m_sI M 172 24 31) := k_M_fr2 hM ⟨fun i j q => by rw [q_r, if_neg (by omega)], fun i j q => rfl⟩ (fun _ _ _ => rfl)
    refine q_ob (q_mono (q_TH (k_layDay (n := n) hn hV hM1.1.2.2 (by rw [q_r, if_pos ⟨rfl, rfl⟩]) hK) (g_X8_layDay n 999 _)) (fun M2 h2 => q_some ⟨?_, C, C0, C1, k_M_fr2 hM1 ⟨fun i j q => h2.2.1 i j (by unfold w_53; omega), fun i j q => h2.2.2 i j (by unfold w_1; omega)⟩ (fun i j q => h2.2.2 i j (by unfold w_1; omega))⟩))
    exact h2.1.2.1.symm
  · subst c
    rw [e_dm hn hV hE]
    exact q_some ⟨rfl, i⟩
  · subst c
    exact q_some ⟨rfl, i⟩
  · subst c
    exact q_some ⟨rfl, i⟩
  · refine q_some ⟨?_, i⟩
    by_cases cn : x < 0
    · rw [if_pos cn]
    · rw [if_neg cn, if_neg]
      intro cl
      obtain ⟨j, hj, rfl⟩ := nI_of cn
      have h6 := (e_l6 hj).mp cl
      have : j = 0 ∨ j = 1 ∨ j = 2 ∨ j = 3 ∨ j = 4 ∨ j = 5 := by omega
      rcases this with q | q | q | q | q | q <;> subst q
      · exact c0 rfl
      · exact c1 rfl
      · exact c2 rfl
      · exact c3 rfl
      · exact c4 rfl
      · exact c5 rfl
