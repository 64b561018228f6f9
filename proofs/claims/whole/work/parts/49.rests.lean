/-! RESTS -/
theorem r_f1 : ∀ B, B < 7 → (1 : Int32) <<< (nI B &&& 31) = nI (2 ^ B) := by decide +kernel
theorem r_f2 : ∀ w, w < 64 → ∀ i, i < 6 → nI w ||| ((1 : Int32) <<< (nI i &&& 31)) = nI (w ||| 2 ^ i) := by decide +kernel
theorem r_f3 : ∀ w, w < 64 → ∀ i, i < 6 → nI w ^^^ ((1 : Int32) <<< (nI i &&& 31)) = nI (w ^^^ 2 ^ i) := by decide +kernel
theorem r_f4 : ∀ w, w < 64 → ∀ i, i < 6 → (w ||| 2 ^ i) < 64 ∧ ((w ||| 2 ^ i) ^^^ 2 ^ i) < 64 ∧ (w ^^^ 2 ^ i) < 64 ∧ (w ||| 2 ^ i).testBit i = true ∧ ((w ||| 2 ^ i) ^^^ 2 ^ i).testBit i = false ∧ (w.testBit i = true → (w ||| 2 ^ i) = w ∧ (w ^^^ 2 ^ i) = ((w ||| 2 ^ i) ^^^ 2 ^ i)) ∧ (w.testBit i = false → ((w ||| 2 ^ i) ^^^ 2 ^ i) = w ∧ (w ^^^ 2 ^ i) = (w ||| 2 ^ i)) := by decide +kernel
def l_so (L : l_L) (v i : Nat) : Nat → Nat
  | 0 => 0
  | j + 1 => if v.testBit j = true ∧ l_la L j = true ∧ l_mn L j = l_mn L i ∧ l_tr L j = l_tr L i then l_so L v i j + l_ow L j else l_so L v i j
def l_T (L : l_L) (w i : Nat) : Nat := l_OD L (l_mn L i) + l_so L (w ||| 2 ^ i) i (l_n L)
def l_pu (L : l_L) (w i : Nat) : Nat := l_tk L i (l_gn L l_id ((w ||| 2 ^ i) ^^^ 2 ^ i) (l_mn L i) i)
def l_pp (L : l_L) (i : Nat) : Nat := l_PT L (l_mn L i) (l_tr L i)
def l_Os (L : l_L) (w i : Nat) : Nat := if l_T L w i = 0 then 0 else if l_pp L i < l_T L w i then l_pp L i * l_ow L i else l_ow L i
def l_Us (L : l_L) (w i : Nat) : Nat := if l_T L w i = 0 then 1 else if l_pp L i < l_T L w i then l_T L w i else 1
def l_be (L : l_L) (w i : Nat) : Bool := if l_an L i then (if w.testBit i then decide (l_Os L w i < l_pu L w i * l_Us L w i) else decide (l_pu L w i * l_Us L w i < l_Os L w i)) else false
theorem l_so_le {L : l_L} (hL : l_ok L) (v i : Nat) : ∀ j, j ≤ l_n L → l_so L v i j ≤ 1000 * j
  | 0, _ => Nat.le_refl _
  | j + 1, hj => by
    have ih := l_so_le hL v i j (by omega)
    have := (hL.2.1 j (by omega)).2.2.1
    rw [l_so]
    split <;> omega
theorem l_T_le {L : l_L} (hL : l_ok L) (w i : Nat) : l_T L w i ≤ 66000 := by
  have h1 := l_so_le hL (w ||| 2 ^ i) i (l_n L) (Nat.le_refl _)
  have h2 := hL.2.2.2 (l_mn L i)
  have h3 := hL.1
  unfold l_T
  omega
theorem b_so11 {n : Nat} {L : l_L} {M : m_M} {v i o : Nat} {x2 : Int32} (hL : l_ok L) (hC : l_C L M) (hv : v < 64) (hi : i < l_n L) (hla : l_la L i = true) : ∀ (e x u : Nat), x + e = l_n L → e < u → f_X6_sharersOwed_b11 n (nI i) (nI v) M u (lN (o + l_so L v i x)) (nI x) = some (lN (o + l_so L v i (l_n L))) := by
  have n6 := hL.1
  obtain ⟨i0, i1, _⟩ := hC.2 i hi
  obtain ⟨im, it, _⟩ := hL.2.1 i hi
  intro e
  induction e with
  | zero =>
    intro x u hx hu
    obtain ⟨u, rfl⟩ : ∃ v, u = v + 1 := ⟨u - 1, by omega⟩
    rw [f_X6_sharersOwed_b11, hC.1, if_pos ((q_le (by omega) (by omega)).mpr (by omega)), show x = l_n L by omega]
  | succ e ih =>
    intro x u hx hu
    obtain ⟨u, rfl⟩ : ∃ v, u = v + 1 := ⟨u - 1, by omega⟩
    obtain ⟨xm, xt, xo, _⟩ := hL.2.1 x (by omega)
    obtain ⟨x0, x1, x2', _⟩ := hC.2 x (by omega)
    have ih' := ih (x + 1) u (by omega) (by omega)
    rw [l_so] at ih'
    rw [f_X6_sharersOwed_b11, hC.1, if_neg (fun q => absurd ((q_le (by omega) (by omega)).mp q) (by omega))]
    unfold m_bd m_gd
    dsimp only
    rw [l_isIn _ _ _ (l_bit v hv x (by omega)), q_up]
    by_cases cb : v.testBit x = true
    · rw [if_neg (by rw [cb]; decide), if_pos (q_in (by omega) (by decide)), if_pos (q_in (by omega) (by decide)), q_cl (by omega), q_cl (by omega), x0, i0, if_pos hla]
      by_cases cl : l_la L x = true
      · rw [if_pos cl]
        by_cases cm : l_mn L x = l_mn L i
        · rw [if_pos (by rw [cm]), x1, i1, if_pos hla, if_pos cl]
          by_cases ct : l_tr L x = l_tr L i
          · rw [if_pos (by rw [ct]), x2', nI_l (by omega), lN_add, Nat.add_assoc]
            rw [if_pos ⟨cb, cl, cm, ct⟩] at ih'
            exact ih'
          · rw [if_neg (fun q => ct ((nI_eq (by omega) (by omega)).mp q))]
            rw [if_neg (fun q => ct q.2.2.2)] at ih'
            exact ih'
        · rw [if_neg (fun q => cm ((nI_eq (by omega) (by omega)).mp q))]
          rw [if_neg (fun q => cm q.2.2.1)] at ih'
          exact ih'
      · rw [if_neg cl, if_neg (fun q => q_m1 (by omega) q.symm)]
        rw [if_neg (fun q => cl q.2.1)] at ih'
        exact ih'
    · rw [if_pos (by rw [Bool.not_eq_true _ |>.mp cb]; decide)]
      rw [if_neg (fun q => cb q.1)] at ih'
      exact ih'
/-- the share, crosswise -/
theorem l_cr (L : l_L) (w i : Nat) : min (l_ow L i * l_pp L i) (l_ow L i * l_T L w i) * l_Us L w i = l_Os L w i * max 1 (l_T L w i) ∧ 0 < l_Us L w i := by
  unfold l_Us l_Os
  by_cases c : l_T L w i = 0
  · rw [if_pos c, if_pos c, c, Nat.mul_zero, Nat.min_zero, Nat.zero_mul, Nat.zero_mul]
    exact ⟨rfl, Nat.one_pos⟩
  · rw [if_neg c, if_neg c]
    by_cases c2 : l_pp L i < l_T L w i
    · rw [if_pos c2, if_pos c2, Nat.min_eq_left (Nat.mul_le_mul_left _ (by omega)), Nat.max_eq_right (by omega)]
      exact ⟨by rw [Nat.mul_comm (l_ow L i)], by omega⟩
    · rw [if_neg c2, if_neg c2, Nat.min_eq_right (Nat.mul_le_mul_left _ (by omega)), Nat.max_eq_right (by omega), Nat.mul_one]
      exact ⟨rfl, Nat.one_pos⟩
theorem b_be {n : Nat} {L : l_L} {M : m_M} {w i : Nat} (hn : 200 < n) (hL : l_ok L) (hC : l_C L M) (hw : w < 64) (hi : i < l_n L) (hla : l_la L i = true) : f_X6_isBetterOtherwise n (nI i) (nI w) M = some (l_b (l_be L w i)) := by
  have n6 := hL.1
  obtain ⟨im, it, io, id, i5, i6⟩ := hL.2.1 i hi
  obtain ⟨e0, e1, e2, e3, e4, e5, e6, e7⟩ := hC.2 i hi
  obtain ⟨f1, f2, f3, f4, f5, f6, f7⟩ := r_f4 w hw i (by omega)
  have hT := l_T_le hL w i
  have hpp : l_pp L i ≤ 60000 := hL.2.2.1 _ _
  have hpu : l_pu L w i ≤ 1000 := l_tk_le hL hi _
  have hso : f_X6_sharersOwed n (nI i) (nI (w ||| 2 ^ i)) M = some (lN (l_T L w i)) := by
    unfold f_X6_sharersOwed m_gd
    rw [if_pos (q_in (by omega) (by decide)), q_cl (by omega), e5, if_pos hla, nI_l (by have := hL.2.2.2 (l_mn L i); omega)]
    exact b_so11 (n := n) (x2 := 0) hL hC f1 hi hla (l_n L) 0 n (by omega) (by omega)
  have m1 : l_ow L i * l_T L w i ≤ 1000 * 66000 := Nat.mul_le_mul io hT
  have m2 : l_ow L i * l_pp L i ≤ 1000 * 60000 := Nat.mul_le_mul io hpp
  have m3 : l_pu L w i * max 1 (l_T L w i) ≤ 1000 * 66000 := Nat.mul_le_mul hpu (by omega)
  have hsa : f_X6_shareAbove (nI i) (lN (l_T L w i)) M = some (lN (if l_an L i then min (l_ow L i * l_pp L i) (l_ow L i * l_T L w i) else 0)) := by
    unfold f_X6_shareAbove m_gd
    rw [if_pos (q_in (by omega) (by decide)), q_cl (by omega), e7, e2, e4, if_pos hla]
    cases l_an L i with
    | true =>
      rw [if_neg (by decide), nI_l (by omega), nI_l (by have := hL.2.2.1 (l_mn L i) (l_tr L i); omega), lN_mul, lN_mul]
      show some (m_minJ (lN (l_ow L i * l_pp L i)) _) = _
      rw [q_mnJ (by omega) (by omega)]
      rfl
    | false =>
      rw [if_pos (by decide)]
      rfl
  unfold f_X6_isBetterOtherwise m_bd
  dsimp only
  rw [r_f2 w hw i (by omega), r_f3 _ f1 i (by omega), b_fp hn hL hC f2 hi]
  show m_ob (f_X6_sharersOwed n (nI i) (nI (w ||| 2 ^ i)) M) _ = _
  rw [hso]
  show m_ob (f_X6_shareAbove (nI i) (lN (l_T L w i)) M) _ = _
  rw [hsa]
  have hmx : m_maxJ 1 (lN (l_T L w i)) = lN (max 1 (l_T L w i)) := q_mxJ (a := 1) (by omega) (by omega)
  show (if f_X6_isIn (nI w) (nI i) = 0 then if (0 : Int32) ≤ f_J13_compare_74951 (lN (l_pu L w i) * m_maxJ 1 (lN (l_T L w i))) _ then some 0 else some 1 else if f_J13_compare_74951 (lN (l_pu L w i) * m_maxJ 1 (lN (l_T L w i))) _ ≤ 0 then some 0 else some 1) = _
  rw [hmx, lN_mul, l_isIn _ _ _ (l_bit w hw i (by omega))]
  have cmp : ∀ A B : Nat, A < 2 ^ 63 → B < 2 ^ 63 → f_J13_compare_74951 (lN A) (lN B) = if A < B then -1 else if A = B then 0 else 1 := by
    intro A B hA hB
    unfold f_J13_compare_74951
    by_cases c1 : A < B
    · rw [if_neg (fun q => absurd ((pk_lLE hB hA).mp q) (by omega)), if_pos c1]
    · rw [if_pos ((pk_lLE hB hA).mpr (by omega)), if_neg c1]
      by_cases c2 : A = B
      · rw [if_pos ((pk_lEQ hA hB).mpr c2), if_pos c2]
      · rw [if_neg (fun q => c2 ((pk_lEQ hA hB).mp q)), if_neg c2]
  obtain ⟨cr, pU⟩ := l_cr L w i
  have pB : 0 < max 1 (l_T L w i) := by omega
  unfold l_be
  cases han : l_an L i with
  | true =>
    rw [show (if (true : Bool) = true then min (l_ow L i * l_pp L i) (l_ow L i * l_T L w i) else 0) = min (l_ow L i * l_pp L i) (l_ow L i * l_T L w i) from rfl, cmp _ _ (by omega) (by omega)]
    generalize min (l_ow L i * l_pp L i) (l_ow L i * l_T L w i) = sh at *
    generalize max 1 (l_T L w i) = B at *
    generalize l_Us L w i = U at *
    generalize l_Os L w i = O at *
    generalize l_pu L w i = pu at *
    have k1 : sh < pu * B ↔ O < pu * U := by
      rw [← Nat.mul_lt_mul_right pU (b := sh) (c := pu * B), cr, show pu * B * U = pu * U * B by ac_rfl, Nat.mul_lt_mul_right pB]
    have k2 : pu * B < sh ↔ pu * U < O := by
      rw [← Nat.mul_lt_mul_right pU (b := pu * B) (c := sh), cr, show pu * B * U = pu * U * B by ac_rfl, Nat.mul_lt_mul_right pB]
    cases hb : w.testBit i with
    | true =>
      rw [if_neg (by decide), if_pos rfl, if_pos rfl]
      by_cases c1 : pu * B < sh
      · rw [if_pos c1, if_pos (by decide), decide_eq_false (fun q => by have := k1.mpr q; omega)]
        rfl
      · rw [if_neg c1]
        by_cases c2 : pu * B = sh
        · rw [if_pos c2, if_pos (by decide), decide_eq_false (fun q => by have := k1.mpr q; omega)]
          rfl
        · rw [if_neg c2, if_neg (by decide), decide_eq_true (k1.mp (by omega))]
          rfl
    | false =>
      rw [if_pos (show l_b false = 0 by decide), if_pos (show (true : Bool) = true from rfl), if_neg (show ¬ (false : Bool) = true by decide)]
      by_cases c1 : pu * B < sh
      · rw [if_pos c1, if_neg (by decide), decide_eq_true (k2.mp c1)]
        rfl
      · rw [if_neg c1]
        have nk : ¬ pu * U < O := fun q => c1 (k2.mpr q)
        by_cases c2 : pu * B = sh
        · rw [if_pos c2, if_pos (by decide), decide_eq_false nk]
          rfl
        · rw [if_neg c2, if_pos (by decide), decide_eq_false nk]
          rfl
  | false =>
    have hz := i6 han
    have hp0 : l_pu L w i = 0 := by
      unfold l_pu l_tk
      rw [hz, Nat.zero_sub, Nat.min_zero]
    rw [show (if (false : Bool) = true then min (l_ow L i * l_pp L i) (l_ow L i * l_T L w i) else 0) = 0 from rfl, hp0, Nat.zero_mul, cmp _ _ (by omega) (by omega), show (if (0 : Nat) < 0 then (-1 : Int32) else if (0 : Nat) = 0 then 0 else 1) = 0 from rfl]
    cases w.testBit i with
    | true => rfl
    | false => rfl
def l_ra (L : l_L) (w : Nat) : Nat → Nat → Bool
  | 0, _ => true
  | e + 1, x => if w.testBit x then (if l_ms L x then l_ra L w e (x + 1) else false) else l_ra L w e (x + 1)
def l_rb (L : l_L) (w : Nat) : Nat → Nat → Bool
  | 0, _ => true
  | e + 1, x => if l_ms L x then (if l_be L w x then false else l_rb L w e (x + 1)) else l_rb L w e (x + 1)
def l_rs (L : l_L) (w : Nat) : Bool := if l_ra L w (l_n L) 0 then l_rb L w (l_n L) 0 else false
theorem l_msla {L : l_L} (hL : l_ok L) {i : Nat} (hi : i < l_n L) (h : l_ms L i = true) : l_la L i = true := by
  cases hl : l_la L i with
  | true => rfl
  | false =>
    have := ((hL.2.1 i hi).2.2.2.2.1 hl).2.2.1
    rw [this] at h
    cases h
theorem b_r37 {n : Nat} {L : l_L} {M : m_M} {w : Nat} (hn : 200 < n) (hL : l_ok L) (hC : l_C L M) (hw : w < 64) : ∀ (e x u : Nat), x + e = l_n L → e < u → f_X6_isRest_b37 n (nI w) M u (nI x) = some (l_b (l_rb L w e x)) := by
  have n6 := hL.1
  intro e
  induction e with
  | zero =>
    intro x u hx hu
    obtain ⟨u, rfl⟩ : ∃ v, u = v + 1 := ⟨u - 1, by omega⟩
    rw [f_X6_isRest_b37, hC.1, if_pos ((q_le (by omega) (by omega)).mpr (by omega))]
    rfl
  | succ e ih =>
    intro x u hx hu
    obtain ⟨u, rfl⟩ : ∃ v, u = v + 1 := ⟨u - 1, by omega⟩
    obtain ⟨e0, e1, e2, e3, e4, e5, e6, e7⟩ := hC.2 x (by omega)
    rw [f_X6_isRest_b37, hC.1, if_neg (fun q => absurd ((q_le (by omega) (by omega)).mp q) (by omega)), l_rb]
    unfold m_gd
    rw [if_pos (q_in (by omega) (by decide)), q_cl (by omega), e6, q_up]
    cases hm : l_ms L x with
    | true =>
      rw [if_neg (by decide), if_pos rfl, b_be hn hL hC hw (by omega) (l_msla hL (by omega) hm)]
      show (if l_b (l_be L w x) = 0 then _ else _) = _
      cases l_be L w x with
      | true => rfl
      | false =>
        rw [if_pos (by decide), if_neg (by decide)]
        exact ih (x + 1) u (by omega) (by omega)
    | false =>
      rw [if_pos (by decide), if_neg (by decide)]
      exact ih (x + 1) u (by omega) (by omega)
theorem b_r2 {n : Nat} {L : l_L} {M : m_M} {w : Nat} (hn : 200 < n) (hL : l_ok L) (hC : l_C L M) (hw : w < 64) : ∀ (e x u : Nat), x + e = l_n L → e < u → f_X6_isRest_b2 n (nI w) M u (nI x) = some (l_b (if l_ra L w e x then l_rb L w (l_n L) 0 else false)) := by
  have n6 := hL.1
  intro e
  induction e with
  | zero =>
    intro x u hx hu
    obtain ⟨u, rfl⟩ : ∃ v, u = v + 1 := ⟨u - 1, by omega⟩
    rw [f_X6_isRest_b2, hC.1, if_pos ((q_le (by omega) (by omega)).mpr (by omega))]
    exact b_r37 (n := n) hn hL hC hw (l_n L) 0 n (by omega) (by omega)
  | succ e ih =>
    intro x u hx hu
    obtain ⟨u, rfl⟩ : ∃ v, u = v + 1 := ⟨u - 1, by omega⟩
    obtain ⟨e0, e1, e2, e3, e4, e5, e6, e7⟩ := hC.2 x (by omega)
    rw [f_X6_isRest_b2, hC.1, if_neg (fun q => absurd ((q_le (by omega) (by omega)).mp q) (by omega)), l_ra]
    unfold m_bd m_gd
    dsimp only
    rw [l_isIn _ _ _ (l_bit w hw x (by omega)), q_up]
    cases hb : w.testBit x with
    | true =>
      rw [if_neg (by decide), if_pos (q_in (by omega) (by decide)), q_cl (by omega), e6]
      cases hm : l_ms L x with
      | true =>
        rw [if_neg (by decide)]
        exact ih (x + 1) u (by omega) (by omega)
      | false => rfl
    | false =>
      rw [if_pos (by decide)]
      exact ih (x + 1) u (by omega) (by omega)
theorem b_rest {n : Nat} {L : l_L} {M : m_M} {w : Nat} (hn : 200 < n) (hL : l_ok L) (hC : l_C L M) (hw : w < 64) : f_X6_isRest n (nI w) M = some (l_b (l_rs L w)) :=
  b_r2 (n := n) hn hL hC hw (l_n L) 0 n (by omega) (by have := hL.1; omega)
/-! the reference -/
theorem a_may {C : k_C} {day : Int32} {K i : Nat} {kr : Nat → Nat} {fl : Int32} {val : (Nat → Int64) → Int64} {M : m_M} (hV : k_V C) (hd : h_day (k_r C) (k_N C) day K) (hkr : l_kr C kr) (hG : k_G C 31 day K M) (hi : i < k_n C) : f_X8_mayShare (nI i) M = some (l_b (l_ms (l_mk C day K kr fl val) i)) := by
  have hK := hd.1
  have n6 : k_n C ≤ 6 := hV.1.2.2.1
  obtain ⟨k1, k2, k3⟩ := hkr i hi
  obtain ⟨d1, d2, d3, d4, d5, d6⟩ := a_dl hV k1 k2
  unfold f_X8_mayShare m_gd
  rw [q_462, if_pos (q_in (by omega) (by decide)), q_cl (by omega), l_cell hG.2 hkr hi, a_laid hV hG hd k1 k2]
  show (if l_b (decide (kr i < K)) = 0 then some 0 else _) = _
  have hms : l_ms (l_mk C day K kr fl val) i = decide (kr i < K ∧ (h_S (k_r C) h_all K).1 19 (h_D (k_r C) (kr i)) ≠ 0) := rfl
  rw [hms]
  by_cases c : kr i < K
  · have s19 : M.1 191 (h_D (k_r C) (kr i)) = (h_S (k_r C) h_all K).1 19 (h_D (k_r C) (kr i)) := by
      have := a_Q hG.1.1 (f := 19) (by omega) (h_D_lt c k2)
      rw [k_sb31 hV hK] at this
      exact this
    rw [if_neg (by rw [decide_eq_true c]; decide), if_pos (q_in d6 (by decide)), q_cl (by omega), s19]
    by_cases c2 : (h_S (k_r C) h_all K).1 19 (h_D (k_r C) (kr i)) = 0
    · rw [if_pos c2, decide_eq_false (fun q => q.2 c2)]
      rfl
    · rw [if_neg c2, decide_eq_true ⟨c, c2⟩]
      rfl
  · rw [if_pos (by rw [decide_eq_false c]; decide), decide_eq_false (fun q => c q.1)]
    rfl
theorem a_g80 {n : Nat} {C : k_C} {day x1 : Int32} {K v i o : Nat} {kr : Nat → Nat} {fl : Int32} {val : (Nat → Int64) → Int64} {M : m_M} {Q : m_M → Prop} (hV : k_V C) (hd : h_day (k_r C) (k_N C) day K) (hkr : l_kr C kr) (hG : k_G C 31 day K M) (hi : i < k_n C) (hv : v < 64) (hQ : q_T (f_X8_shareOf (nI (h_D (k_r C) (kr i))) (lN (o + l_so (l_mk C day K kr fl val) v i (k_n C))) M) Q) : ∀ (e x u : Nat), x + e = k_n C → e < u → q_T (f_X8_getsBy_b80 n x1 (nI v) u (nI (h_D (k_r C) (kr i))) (lN (o + l_so (l_mk C day K kr fl val) v i x)) (nI x) M) Q := by
  have hK := hd.1
  have n6 : k_n C ≤ 6 := hV.1.2.2.1
  have h4 : M.1 173 470 = nI (k_n C) := hG.2.2.2.1
  obtain ⟨i1, i2, i3⟩ := hkr i hi
  have di := a_dl hV i1 i2
  intro e
  induction e with
  | zero =>
    intro x u hx hu
    obtain ⟨u, rfl⟩ : ∃ v, u = v + 1 := ⟨u - 1, by omega⟩
    rw [f_X8_getsBy_b80]
    unfold f_X8_lined
    refine q_bd ?_
    rw [h4]
    refine q_it ((q_le (by omega) (by omega)).mpr (by omega)) ?_
    rw [show x = k_n C by omega]
    exact q_ob (q_mono hQ (fun a ha => q_some ha))
  | succ e ih =>
    intro x u hx hu
    obtain ⟨u, rfl⟩ : ∃ v, u = v + 1 := ⟨u - 1, by omega⟩
    obtain ⟨x1', x2, x3⟩ := hkr x (by omega)
    have dx := a_dl hV x1' x2
    have ih' := ih (x + 1) u (by omega) (by omega)
    rw [l_so] at ih'
    have hla : l_la (l_mk C day K kr fl val) x = decide (kr x < K) := rfl
    have hmx : l_mn (l_mk C day K kr fl val) x = h_a (k_r C) (kr x) := rfl
    have hmi : l_mn (l_mk C day K kr fl val) i = h_a (k_r C) (kr i) := rfl
    have htx : l_tr (l_mk C day K kr fl val) x = h_b (k_r C) (kr x) := rfl
    have hti : l_tr (l_mk C day K kr fl val) i = h_b (k_r C) (kr i) := rfl
    rw [hla, hmx, hmi, htx, hti] at ih'
    rw [f_X8_getsBy_b80]
    unfold f_X8_lined
    refine q_bd ?_
    rw [h4, q_462]
    refine q_if (fun q => absurd ((q_le (by omega) (by omega)).mp q) (by omega)) (q_gd (q_in (by omega) (by decide)) (q_bd ?_))
    rw [q_cl (by omega), l_cell hG.2 hkr (show x < k_n C by omega), l_bit v hv x (by omega)]
    have skip : (∀ P, ¬ (v.testBit x = true ∧ decide (kr x < K) = true ∧ h_a (k_r C) (kr x) = h_a (k_r C) (kr i) ∧ h_b (k_r C) (kr x) = h_b (k_r C) (kr i)) ∨ P) → True := fun _ => trivial
    have no : ¬ (v.testBit x = true ∧ decide (kr x < K) = true ∧ h_a (k_r C) (kr x) = h_a (k_r C) (kr i) ∧ h_b (k_r C) (kr x) = h_b (k_r C) (kr i)) → q_T (f_X8_getsBy_b154 n x1 (nI v) (f_X8_getsBy_b80 n x1 (nI v) u) (nI (h_D (k_r C) (kr i))) (lN (o + l_so (l_mk C day K kr fl val) v i x)) (nI x) (nI (h_D (k_r C) (kr x))) 0 M) Q := by
      intro c
      rw [if_neg c] at ih'
      unfold f_X8_getsBy_b154
      rw [q_up, Int64.add_zero]
      exact q_it rfl ih'
    by_cases cb : v.testBit x = true
    · refine q_it ((l_b1 _).mpr cb) (q_ob (q_of (a_laid hV hG hd x1' x2) ?_))
      by_cases cl : kr x < K
      · refine q_if (by rw [decide_eq_true cl]; decide) (q_ob (q_of (a_man hV hG x1' x2) (q_ob (q_of (a_man hV hG i1 i2) ?_))))
        by_cases cm : h_a (k_r C) (kr x) = h_a (k_r C) (kr i)
        · refine q_it (by rw [cm]) (q_ob (q_of (a_trade hV hG x1' x2) (q_ob (q_of (a_trade hV hG i1 i2) ?_))))
          by_cases ct : h_b (k_r C) (kr x) = h_b (k_r C) (kr i)
          · refine q_it (by rw [ct]) ?_
            unfold f_X8_getsBy_b154
            refine q_if (by decide) (q_ob (q_of (a_owed hV hG hK cl x2) ?_))
            have hlf := (k_lf hV (h_sb 31) hK cl x2).2
            rw [nI_l (by omega), lN_add, q_up, Nat.add_assoc, k_sb31 hV hK]
            have how : l_ow (l_mk C day K kr fl val) x = e_lf (h_S (k_r C) h_all K).1 (h_D (k_r C) (kr x)) := if_pos cl
            rw [if_pos ⟨cb, decide_eq_true cl, cm, ct⟩, how] at ih'
            exact ih'
          · exact q_if (fun q => ct ((nI_eq (by omega) (by omega)).mp q)) (no (fun q => ct q.2.2.2))
        · exact q_if (fun q => cm ((nI_eq (by omega) (by omega)).mp q)) (no (fun q => cm q.2.2.1))
      · exact q_it (by rw [decide_eq_false cl]; decide) (no (fun q => cl (of_decide_eq_true q.2.1)))
    · exact q_if (fun q => cb ((l_b1 _).mp q)) (no (fun q => cb q.1))
/-- what one gets by a row -/
theorem a_gets {n : Nat} {C : k_C} {day : Int32} {K v i : Nat} {kr : Nat → Nat} {fl : Int32} {val : (Nat → Int64) → Int64} {M : m_M} (hn : 200 < n) (hV : k_V C) (hd : h_day (k_r C) (k_N C) day K) (hkr : l_kr C kr) (hv : v < 64) (hR : l_R C day K kr (l_mk C day K kr fl val) M) (ho : ∀ j, j < k_n C → M.1 199 j = nI j) (hi : i < k_n C) (hms : l_ms (l_mk C day K kr fl val) i = true) : q_T (f_X8_getsBy n (nI i) (nI v) M) (fun M' => (l_an (l_mk C day K kr fl val) i = false → M'.2 172 46 = lN 0 ∧ M'.2 172 47 = lN 1) ∧ (l_an (l_mk C day K kr fl val) i = true → v.testBit i = false → M'.2 172 46 = lN (l_tk (l_mk C day K kr fl val) i (l_gn (l_mk C day K kr fl val) l_id v (l_mn (l_mk C day K kr fl val) i) i)) ∧ M'.2 172 47 = lN 1) ∧ (l_an (l_mk C day K kr fl val) i = true → v.testBit i = true → ∀ w, (w ||| 2 ^ i) = v → M'.2 172 46 = lN (l_Os (l_mk C day K kr fl val) w i) ∧ M'.2 172 47 = lN (l_Us (l_mk C day K kr fl val) w i))) := by
  have hK := hd.1
  have n6 : k_n C ≤ 6 := hV.1.2.2.1
  have hL := l_mk_ok hV hK hkr day fl val
  obtain ⟨i1, i2, i3⟩ := hkr i hi
  have di := a_dl hV i1 i2
  have hms' : kr i < K ∧ (h_S (k_r C) h_all K).1 19 (h_D (k_r C) (kr i)) ≠ 0 := of_decide_eq_true hms
  have cl := hms'.1
  have tkl := l_tk_le hL hi (l_gn (l_mk C day K kr fl val) l_id v (l_mn (l_mk C day K kr fl val) i) i)
  unfold f_X8_getsBy
  rw [q_462]
  refine q_gd (q_in (by omega) (by decide)) (q_bd (q_bd (q_bd ?_)))
  rw [q_cl (by omega), l_cell hR.1.2 hkr hi]
  have hR' : l_R C day K kr (l_mk C day K kr fl val) (m_sL (m_sL M 172 46 0) 172 47 1) := hR
  have ho' : ∀ j, j < k_n C → (m_sL (m_sL M 172 46 0) 172 47 1).1 199 j = nI j := ho
  have h47 : (m_sL (m_sL M 172 46 0) 172 47 1).2 172 47 = lN 1 := by rw [q_l, if_pos ⟨rfl, rfl⟩]; rfl
  have h46 : (m_sL (m_sL M 172 46 0) 172 47 1).2 172 46 = lN 0 := by rw [q_l, if_neg (by omega), q_l, if_pos ⟨rfl, rfl⟩]; rfl
  generalize m_sL (m_sL M 172 46 0) 172 47 1 = M1 at *
  have han : l_an (l_mk C day K kr fl val) i = decide (kr i < K ∧ e_who (h_S (k_r C) h_all K).1 (h_a (k_r C) (kr i)) ≠ -1) := rfl
  refine q_ob (q_of (a_laid hV hR'.1 hd i1 i2) (q_if (by rw [decide_eq_true cl]; decide) (q_ob (q_of (a_who hV hR'.1 i1 i2) ?_))))
  rw [k_sb31 hV hK]
  by_cases cw : e_who (h_S (k_r C) h_all K).1 (h_a (k_r C) (kr i)) = -1
  · have hf : l_an (l_mk C day K kr fl val) i = false := decide_eq_false (fun q => q.2 cw)
    refine q_it cw (q_some ⟨fun _ => ⟨h46, h47⟩, fun q => ?_, fun q => ?_⟩)
    · rw [hf] at q
      cases q
    · rw [hf] at q
      cases q
  have ht : l_an (l_mk C day K kr fl val) i = true := decide_eq_true ⟨cl, cw⟩
  refine q_if cw ?_
  rw [l_bit v hv i (by omega)]
  by_cases cb : v.testBit i = false
  · refine q_it ((l_b0 _).mpr cb) (q_ob (q_mono (a_serve (n := n) (w := v) (s := l_id) (fl := fl) (val := val) hn hV hd hkr hv (fun j q => q) (fun i j _ _ z => z) hR' ho') (fun M2 h2 => ?_)))
    obtain ⟨s1, s2⟩ := h2
    refine q_gd (q_in (by omega) (by decide)) (q_bd (q_some ⟨fun q => ?_, fun _ _ => ⟨?_, ?_⟩, fun _ q => ?_⟩))
    · rw [ht] at q
      cases q
    · rw [q_l, if_pos ⟨rfl, rfl⟩, q_cl (by omega)]
      have e : M2.1 198 i = nI (l_G (l_mk C day K kr fl val) l_id v i) := s1 i hi
      have eG : l_G (l_mk C day K kr fl val) l_id v i = l_tk (l_mk C day K kr fl val) i (l_gn (l_mk C day K kr fl val) l_id v (l_mn (l_mk C day K kr fl val) i) i) := by
        unfold l_G
        rw [show l_id i = i from rfl, cb, if_neg (by decide)]
      rw [e, eG, nI_l (by omega)]
    · rw [q_l, if_neg (by omega), s2.2 172 47 (by unfold w_1; omega), h47]
    · rw [cb] at q
      cases q
  · have cb' : v.testBit i = true := by
      cases h : v.testBit i with
      | true => rfl
      | false => exact absurd h cb
    have hEG := k_EG hR'.1.1.1 hR'.1.2
    have hod := x_onN hV h_all hK (h_a (k_r C) (kr i))
    refine q_if (fun q => cb ((l_b0 _).mp q)) (q_ob (q_of (a_man hV hR'.1 i1 i2) (q_ob (q_of (e_own0 (n := n) (by omega) hR'.1.1.1 hV.1.1 hEG.2.1 di.2.1 (k_ac hV (h_sb 31) hK).1) ?_))))
    rw [k_sb31 hV hK, hod.1, nI_l (by omega)]
    have hso := l_so_le hL v i (k_n C) (Nat.le_refl _)
    have sh := a_share (k := kr i) (T := x_on (h_S (k_r C) h_all K).1 (h_a (k_r C) (kr i)) + l_so (l_mk C day K kr fl val) v i (k_n C)) hV hR'.1 hK cl i2 (by omega)
    rw [k_sb31 hV hK] at sh
    refine a_g80 (n := n) (x1 := nI i) (o := x_on (h_S (k_r C) h_all K).1 (h_a (k_r C) (kr i))) (fl := fl) (val := val) hV hd hkr hR'.1 hi hv (q_mono sh (fun M2 h2 => ⟨fun q => ?_, fun _ q => ?_, fun _ _ w hw' => ?_⟩)) (k_n C) 0 n (by omega) (by omega)
    · rw [ht] at q
      cases q
    · rw [cb'] at q
      cases q
    · have how : l_ow (l_mk C day K kr fl val) i = e_lf (h_S (k_r C) h_all K).1 (h_D (k_r C) (kr i)) := if_pos cl
      have hT : l_T (l_mk C day K kr fl val) w i = x_on (h_S (k_r C) h_all K).1 (h_a (k_r C) (kr i)) + l_so (l_mk C day K kr fl val) v i (k_n C) := by
        unfold l_T
        rw [hw']
        rfl
      have hpp : l_pp (l_mk C day K kr fl val) i = x_pt (h_S (k_r C) h_all K).1 (h_a (k_r C) (kr i)) (h_b (k_r C) (kr i)) := rfl
      unfold l_Os l_Us
      rw [hT, hpp, how]
      exact h2
