/-! CALLS: owed, ask, best -/
theorem e_inN {d D : Nat} (hd : d < 2 ^ 31) (hD : D < 2 ^ 31) : e_in (nI d) D = if d < D then 1 else 0 := by
  unfold e_in
  rw [if_neg (nI_pos hd)]
  by_cases c : d < D
  · rw [if_neg (fun q => absurd ((q_le hD hd).mp q) (by omega)), if_pos c]
  · rw [if_pos ((q_le hD hd).mpr (by omega)), if_neg c]
theorem z_owed {n : Nat} {x1 x2 : Int32} {M : m_M} (hn : 200 < n) (h : k_Inv M) : q_T (f_X7_owed n x1 x2 M) (fun a => z_eq a (f_X8_owed n x1 x2 a.2)) := by
  obtain ⟨C, C0, C1, hM⟩ := h
  obtain ⟨⟨hV, hA, hE⟩, hI⟩ := id hM
  have hDN := k_D60 hV (Nat.le_refl (k_N C))
  have ref : e_in x1 (h_D (k_r C) (k_N C)) = 0 ∨ e_in x2 1000 = 0 → z_eq (-2, M) (f_X8_owed n x1 x2 M) := by
    intro hc
    unfold z_eq f_X8_owed
    refine q_o2 (q_mono (k_asked (n := n) hn hM x1 x2) (fun a ha => ?_))
    refine q_it ?_ (q_some ⟨rfl, C, C0, C1, ha.2.1⟩)
    rw [ha.1]
    rcases hc with q | q
    · rw [if_pos q]
    · rw [if_pos q]
      exact ite_self _
  unfold f_X7_owed
  refine q_bd ?_
  rw [e_dl7 hA.2.2.1]
  rcases e_in_of (x := x1) (n := h_D (k_r C) (k_N C)) (by omega) with ⟨e1, _⟩ | ⟨e1, d, hd, rfl⟩
  · exact q_it e1 (q_some (ref (Or.inl e1)))
  · refine q_if (by rw [e1]; decide) (q_bd ?_)
    rw [e_day7]
    rcases e_in_of (x := x2) (n := 1000) (by omega) with ⟨e2, _⟩ | ⟨e2, dy, hdy, rfl⟩
    · exact q_it e2 (q_some (ref (Or.inr e2)))
    · refine q_if (by rw [e2]; decide) ?_
      obtain ⟨K, hK⟩ := k_isday hV (nI dy)
      obtain ⟨fl, val, y1, y2⟩ := k_law hA (l := 0) (by omega)
      have hDK := k_D60 hV hK.1
      refine q_ob (q_mono (k_replay (n := n) (ns := 0) hn hV hA hK) (fun M1 h1 => q_bd ?_))
      obtain ⟨⟨a1, a2, _⟩, a4⟩ := h1
      have hM1 := k_M_h hM a4
      have hF : k_F C (h_S (k_r C) (h_ns 0) K).1 (nI dy) K M1 := ⟨a1, a2⟩
      rw [k_there (day := 0) a1, e_inN (by omega) (by omega)]
      have early : ∀ M' : m_M, (∀ k, k < k_N C → h_kd (k_r C) k = 4 → M'.1 185 (h_D (k_r C) k) = nI k) → k_M C C0 C1 M' → f_X8_isEarly (nI d) (nI dy) M' = some (if d < h_D (k_r C) K then 0 else 1) := fun M' h185 hM' => k_early hV hM'.1.2.2 h185 hK hd
      have pre : ∀ r, (d < h_D (k_r C) K → ∀ M2, k_G C 31 (nI dy) K M2 → f_X8_owedOf (nI d) M2 = some r) → (¬ d < h_D (k_r C) K → r = -3) → z_eq (r, M1) (f_X8_owed n (nI d) (nI dy) M1) := by
        intro r r1 r2
        unfold z_eq f_X8_owed
        refine q_o2 (q_mono (k_asked (n := n) hn hM1 _ _) (fun a ha' => ?_))
        obtain ⟨b1, b2, b3⟩ := ha'
        rw [e1, if_neg (by decide), e2, if_neg (by decide)] at b1
        refine q_if (by rw [b1]; decide) (q_ob (q_of (early a.2 b3 b2) ?_))
        by_cases c : d < h_D (k_r C) K
        · rw [if_pos c]
          refine q_it rfl (q_ob (q_mono (k_today (n := n) hn b2 y2 hK) (fun M2 h2 => ?_)))
          obtain ⟨⟨c1, c2, c3⟩, c4⟩ := h2
          exact q_ob (q_of (r1 c M2 ⟨c1, c4.1.2.2⟩) (q_some ⟨rfl, C, C0, C1, c4⟩))
        · rw [if_neg c]
          exact q_if (by decide) (q_some ⟨r2 c, C, C0, C1, b2⟩)
      by_cases c : d < h_D (k_r C) K
      · rw [if_pos c]
        refine q_if (by decide) (q_gd (q_in (by omega) (by decide)) (q_bd (q_some ?_)))
        rw [q_cl (by omega)]
        obtain ⟨k, k1, k2, rfl⟩ := h_D_ex _ _ _ c
        refine pre _ (fun _ M2 hG => ?_) (fun q => absurd c q)
        rw [a_owed hV hG hK.1 k1 k2, b_left hV hF hK.1 k1 k2, k_sb31 hV hK.1, k_ns0 hV hK.1]
      · rw [if_neg c]
        exact q_it rfl (q_some (pre _ (fun q => absurd q c) (fun _ => rfl)))
theorem k_fr_L {M : m_M} {k j : Nat} {x : Int64} (hk : k = 0 ∨ k = 172 ∨ 169 < k) : k_fr M (m_sL M k j x) := ⟨fun i j q => rfl, fun i j q => by rw [q_l, if_neg (by omega)]⟩
theorem k_reck {n K : Nat} {C C0 C1 : k_C} {M : m_M} {day ns fl : Int32} {val : (Nat → Int64) → Int64} (hn : 200 < n) (hM : n_M C C0 C1 M) (hY : k_YC 5 M fl val) (hd : h_day (k_r C) (k_N C) day K) : q_T (f_X1_reckon n day ns M) (fun M' => k_H C (h_S (k_r C) (h_ns ns) K).1 day K (k_gn C (h_S (k_r C) (h_ns ns) K).1 fl val) M' ∧ n_M C C0 C1 M' ∧ (∀ l flx valx, l < 2 → k_YC (5 + 5 * l) M flx valx → k_YC (5 + 5 * l) M' flx valx) ∧ (∀ i j, i ≠ 9 → i ≠ 14 → i ≠ 48 → M'.2 i j = M.2 i j)) := by
  obtain ⟨⟨hV, hA, hE⟩, hI⟩ := id hM
  refine q_mono (k_reckon (n := n) (ns := ns) hn hV hA hY hd) (fun M' h => ?_)
  obtain ⟨⟨a1, a2, a3⟩, a4, a5⟩ := h
  exact ⟨⟨⟨a1, a2⟩, (a4 1 0 (h_cell1 (by omega))).trans hA.1, a3⟩, n_fr hM ⟨fun i j q => a4 i j (by unfold h_cell; omega), fun i j q => a5 i j (by omega) (by omega) (by omega)⟩, fun l flx valx hl y => e_YC_fr y (fun j => a4 _ _ (h_cell1 (by omega))) (fun j => a4 _ _ (h_cell1 (by omega))) (fun j => a5 _ _ (by omega) (by omega) (by omega)), a5⟩
theorem z_ask {n : Nat} {x1 x2 x3 : Int32} {M : m_M} (hn : 200 < n) (h : k_Inv M) : q_T (f_X7_ask n x1 x2 x3 M) (fun a => z_eq a (f_X8_ask n x1 x2 x3 a.2)) := by
  obtain ⟨C, C0, C1, hM⟩ := h
  obtain ⟨⟨hV, hA, hE⟩, hI⟩ := id hM
  have hDN := k_D60 hV (Nat.le_refl (k_N C))
  have ref : e_in x1 (h_D (k_r C) (k_N C)) = 0 ∨ e_in x2 4 = 0 ∨ e_in x3 1000 = 0 → z_eq (-2, M) (f_X8_ask n x1 x2 x3 M) := by
    intro hc
    unfold z_eq f_X8_ask
    refine q_o2 (q_mono (k_asked (n := n) hn hM x1 x3) (fun a ha => ?_))
    refine q_ite (fun _ => q_some ⟨rfl, C, C0, C1, ha.2.1⟩) (fun c => q_bd ?_)
    rw [e_ask8]
    refine q_it ?_ (q_some ⟨rfl, C, C0, C1, ha.2.1⟩)
    rw [ha.1] at c
    rcases hc with q | q | q
    · rw [if_pos q] at c
      exact absurd rfl c
    · exact q
    · rw [if_pos q, ite_self] at c
      exact absurd rfl c
  unfold f_X7_ask
  refine q_bd ?_
  rw [e_dl7 hA.2.2.1]
  rcases e_in_of (x := x1) (n := h_D (k_r C) (k_N C)) (by omega) with ⟨e1, _⟩ | ⟨e1, d, hd, rfl⟩
  · exact q_it e1 (q_some (ref (Or.inl e1)))
  refine q_if (by rw [e1]; decide) (q_bd ?_)
  rw [e_ask7]
  rcases e_in_of (x := x2) (n := 4) (by omega) with ⟨e3, _⟩ | ⟨e3, j, hj, rfl⟩
  · exact q_it e3 (q_some (ref (Or.inr (Or.inl e3))))
  refine q_if (by rw [e3]; decide) (q_bd ?_)
  rw [e_day7]
  rcases e_in_of (x := x3) (n := 1000) (by omega) with ⟨e2, _⟩ | ⟨e2, dy, hdy, rfl⟩
  · exact q_it e2 (q_some (ref (Or.inr (Or.inr e2))))
  refine q_if (by rw [e2]; decide) ?_
  obtain ⟨K, hK⟩ := k_isday hV (nI dy)
  obtain ⟨fl, val, y1, y2⟩ := k_law hA (l := 0) (by omega)
  have hDK := k_D60 hV hK.1
  refine q_ob (q_mono (k_reck (n := n) (ns := 0) hn (n_of hM) y1 hK) (fun M1 h1 => q_bd ?_))
  obtain ⟨hH, hM1, hY1, hL1⟩ := h1
  have y1' := hY1 0 fl val (by omega) y1
  rw [k_there (day := 0) hH.1.1, e_inN (by omega) (by omega)]
  by_cases c : d < h_D (k_r C) K
  · rw [if_pos c]
    refine q_if (by decide) ?_
    obtain ⟨k, k1, k2, rfl⟩ := h_D_ex _ _ _ c
    obtain ⟨⟨nA, nB, nO, nU⟩, cr, pB, pU⟩ := y_N hV h_all hK.1 k1 k2 (nI dy) fl val j
    obtain ⟨f1, f2⟩ := f_low cr pB pU
    have hb := fun jj (so so' : Nat → Bool) (h : ∀ i, i < h_B (k_r C) (k_N C) → so i = so' i) => y_cg hV h hK.1 k1 (nI dy) fl val jj
    have e0 := hb j (h_ns 0) h_all (fun i _ => h_ns0 i)
    have e31 := hb j (h_sb 31) h_all (fun i hi => h_sb31 i (by have := hV.1.2.2.2; omega))
    refine q_o2 (q_mono (q_TH (b_ask (j := j) hn hV hK.1 k1 k2 hH y1' hj) (g_X1_askAbove n _ _ M1)) (fun a ha => ?_))
    obtain ⟨a1, ga⟩ := ha
    have eA : a.1 = lN (y_A C h_all (nI dy) K k fl val j) := a1.trans (congrArg lN e0.1)
    have ga1 : ∀ i j, a.2.1 i j = M1.1 i j := fun i j => ga.1 i j (by unfold w_1; omega)
    have hM2 : n_M C C0 C1 a.2 := n_fr hM1 ⟨fun i j q => ga1 i j, fun i j q => ga.2 i j (by unfold w_15; omega)⟩
    have hH2 := k_H_e hH ga1
    refine q_ob (q_of ((b_below (j := j) (n := n) hn hV hK.1 k1 k2 hH2.1 hj).trans (congrArg some (congrArg lN e0.2.1))) ?_)
    rw [eA]
    refine q_ob (q_of (f_set hn (by omega) pB (by show y_B C h_all K k j < 2 ^ 40; omega)) (q_some ?_))
    have hM3 : n_M C C0 C1 (m_sL (m_sL a.2 0 8 (lN (y_A C h_all (nI dy) K k fl val j / Nat.gcd (y_A C h_all (nI dy) K k fl val j) (y_B C h_all K k j)))) 0 9 (lN (y_B C h_all K k j / Nat.gcd (y_A C h_all (nI dy) K k fl val j) (y_B C h_all K k j)))) := n_fr (n_fr hM2 (k_fr_L (Or.inl rfl))) (k_fr_L (Or.inl rfl))
    have h8 : (m_sL (m_sL a.2 0 8 (lN (y_A C h_all (nI dy) K k fl val j / Nat.gcd (y_A C h_all (nI dy) K k fl val j) (y_B C h_all K k j)))) 0 9 (lN (y_B C h_all K k j / Nat.gcd (y_A C h_all (nI dy) K k fl val j) (y_B C h_all K k j)))).2 0 8 = lN (y_O C h_all (nI dy) K k fl val j / Nat.gcd (y_O C h_all (nI dy) K k fl val j) (y_U C h_all K k j)) := by
      rw [q_l, if_neg (by omega), q_l, if_pos ⟨rfl, rfl⟩, f1]
    have h9 : (m_sL (m_sL a.2 0 8 (lN (y_A C h_all (nI dy) K k fl val j / Nat.gcd (y_A C h_all (nI dy) K k fl val j) (y_B C h_all K k j)))) 0 9 (lN (y_B C h_all K k j / Nat.gcd (y_A C h_all (nI dy) K k fl val j) (y_B C h_all K k j)))).2 0 9 = lN (y_U C h_all K k j / Nat.gcd (y_O C h_all (nI dy) K k fl val j) (y_U C h_all K k j)) := by
      rw [q_l, if_pos ⟨rfl, rfl⟩, f2]
    generalize m_sL (m_sL a.2 0 8 (lN (y_A C h_all (nI dy) K k fl val j / Nat.gcd (y_A C h_all (nI dy) K k fl val j) (y_B C h_all K k j)))) 0 9 (lN (y_B C h_all K k j / Nat.gcd (y_A C h_all (nI dy) K k fl val j) (y_B C h_all K k j))) = M3 at *
    unfold z_eq f_X8_ask
    refine q_o2 (q_mono (n_asked (n := n) hn hM3 _ _) (fun b hb' => ?_))
    obtain ⟨b1, b2, b3, b4⟩ := hb'
    rw [e1, if_neg (by decide), e2, if_neg (by decide)] at b1
    refine q_if (by rw [b1]; decide) (q_bd ?_)
    rw [e_ask8]
    refine q_if (by rw [e3]; decide) (q_ob (q_of (k_early hV b2.1.2.2 b3 hK hd) ?_))
    rw [if_pos c]
    refine q_it rfl (q_ob (q_mono (n_today (n := n) hn b2 y2 hK) (fun M4 h4 => ?_)))
    obtain ⟨c1, c2, c3⟩ := h4
    refine q_ob (q_mono (q_TH (a_ask (j := j) hn hV hK k1 k2 c1 y2 hj) (g_X8_askOf n _ _ _ M4)) (fun M5 h5 => ?_))
    obtain ⟨⟨o1, o2⟩, g5⟩ := h5
    have eO : M5.2 172 46 = lN (y_O C h_all (nI dy) K k fl val j) := o1.trans (congrArg lN e31.2.2.1)
    have eU : M5.2 172 47 = lN (y_U C h_all K k j) := o2.trans (congrArg lN e31.2.2.2)
    rw [eO, eU]
    refine q_ob (q_of (f_tell hn (by omega) pU (by show y_U C h_all K k j < 2 ^ 40; omega)) (q_some ⟨rfl, C, C0, C1, ?_⟩))
    have hM5 : n_M C C0 C1 M5 := n_fr c2 ⟨fun i j q => g5.1 i j (by unfold w_60; omega), fun i j q => g5.2 i j (by unfold w_66; omega)⟩
    refine n_to (n_fr (n_fr hM5 (k_fr_L (Or.inr (Or.inl rfl)))) (k_fr_L (Or.inr (Or.inl rfl)))) ⟨?_, ?_⟩
    · rw [q_l, if_neg (by omega), q_l, if_neg (by omega), q_l, if_neg (by omega), q_l, if_pos ⟨rfl, rfl⟩, g5.2 0 8 (by unfold w_66; omega), c3 0 8 (by unfold w_61; omega), b4, h8]
    · rw [q_l, if_neg (by omega), q_l, if_neg (by omega), q_l, if_pos ⟨rfl, rfl⟩, g5.2 0 9 (by unfold w_66; omega), c3 0 9 (by unfold w_61; omega), b4, h9]
  · rw [if_neg c]
    have hM1' : k_M C C0 C1 M1 := n_to hM1 ⟨by rw [hL1 0 8 (by omega) (by omega) (by omega), hL1 172 5 (by omega) (by omega) (by omega)]; exact hM.2.2.2.1, by rw [hL1 0 9 (by omega) (by omega) (by omega), hL1 172 6 (by omega) (by omega) (by omega)]; exact hM.2.2.2.2⟩
    refine q_it rfl (q_some ?_)
    unfold z_eq f_X8_ask
    refine q_o2 (q_mono (k_asked (n := n) hn hM1' _ _) (fun b hb' => ?_))
    obtain ⟨b1, b2, b3⟩ := hb'
    rw [e1, if_neg (by decide), e2, if_neg (by decide)] at b1
    refine q_if (by rw [b1]; decide) (q_bd ?_)
    rw [e_ask8]
    refine q_if (by rw [e3]; decide) (q_ob (q_of (k_early hV b2.1.2.2 b3 hK hd) ?_))
    rw [if_neg c]
    exact q_if (by decide) (q_some ⟨rfl, C, C0, C1, b2⟩)
/-! best -/
theorem q_cmp {a b c d : Nat} (h1 : a * d < 2 ^ 63) (h2 : c * b < 2 ^ 63) : f_X7_compare (lN a) (lN b) (lN c) (lN d) = if a * d < c * b then -1 else if a * d = c * b then 0 else 1 := by
  unfold f_X7_compare f_J13_compare_74951
  simp only [m_bd]
  rw [lN_mul, lN_mul]
  by_cases c1 : a * d < c * b
  · rw [if_neg (fun q => absurd ((pk_lLE h2 h1).mp q) (by omega)), if_pos c1]
  · rw [if_pos ((pk_lLE h2 h1).mpr (by omega)), if_neg c1]
    by_cases c2 : a * d = c * b
    · rw [if_pos ((pk_lEQ h1 h2).mpr c2), if_pos c2]
    · rw [if_neg (fun q => c2 ((pk_lEQ h1 h2).mp q)), if_neg c2]
/-- like fractions compare alike -/
theorem f_lt {A B O U A' B' O' U' : Nat} (h : A * U = O * B) (h' : A' * U' = O' * B') (hB : 0 < B) (hU : 0 < U) (hB' : 0 < B') (hU' : 0 < U') : (A * B' < A' * B ↔ O * U' < O' * U) ∧ (A * B' = A' * B ↔ O * U' = O' * U) := by
  have e1 : A * B' * (U * U') = O * U' * (B * B') := by
    calc A * B' * (U * U') = (A * U) * (B' * U') := by ac_rfl
      _ = (O * B) * (B' * U') := by rw [h]
      _ = O * U' * (B * B') := by ac_rfl
  have e2 : A' * B * (U * U') = O' * U * (B * B') := by
    calc A' * B * (U * U') = (A' * U') * (B * U) := by ac_rfl
      _ = (O' * B') * (B * U) := by rw [h']
      _ = O' * U * (B * B') := by ac_rfl
  have p1 : 0 < U * U' := Nat.mul_pos hU hU'
  have p2 : 0 < B * B' := Nat.mul_pos hB hB'
  constructor
  · rw [← Nat.mul_lt_mul_right p1 (b := A * B') (c := A' * B), e1, e2, Nat.mul_lt_mul_right p2]
  · constructor
    · intro e
      rw [e] at e1
      exact Nat.eq_of_mul_eq_mul_right p2 (e1.symm.trans e2)
    · intro e
      rw [e] at e1
      exact Nat.eq_of_mul_eq_mul_right p1 (e1.trans e2.symm)
