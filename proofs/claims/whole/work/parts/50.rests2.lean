/-! RESTS: the reference's rows, the call -/
theorem a_r37 {n : Nat} {C C0 C1 : k_C} {day : Int32} {K w : Nat} {kr : Nat → Nat} {fl : Int32} {val : (Nat → Int64) → Int64} (hn : 200 < n) (hV : k_V C) (hd : h_day (k_r C) (k_N C) day K) (hkr : l_kr C kr) (hw : w < 64) : ∀ (e x u : Nat) (M : m_M), x + e = k_n C → e < u → l_R C day K kr (l_mk C day K kr fl val) M → (∀ j, j < k_n C → M.1 199 j = nI j) → k_M C C0 C1 M → q_T (f_X8_isRest_b37 n (nI w) u (nI x) M) (fun a => a.1 = l_b (l_rb (l_mk C day K kr fl val) w e x) ∧ l_R C day K kr (l_mk C day K kr fl val) a.2 ∧ (∀ j, j < k_n C → a.2.1 199 j = nI j) ∧ k_M C C0 C1 a.2) := by
  have hK := hd.1
  have n6 : k_n C ≤ 6 := hV.1.2.2.1
  have hL := l_mk_ok hV hK hkr day fl val
  intro e
  induction e with
  | zero =>
    intro x u M hx hu hR ho hM
    obtain ⟨u, rfl⟩ : ∃ v, u = v + 1 := ⟨u - 1, by omega⟩
    have h4 : M.1 173 470 = nI (k_n C) := hR.1.2.2.2.1
    rw [f_X8_isRest_b37]
    unfold f_X8_lined
    refine q_bd ?_
    rw [h4]
    exact q_it ((q_le (by omega) (by omega)).mpr (by omega)) (q_some ⟨rfl, hR, ho, hM⟩)
  | succ e ih =>
    intro x u M hx hu hR ho hM
    obtain ⟨u, rfl⟩ : ∃ v, u = v + 1 := ⟨u - 1, by omega⟩
    have h4 : M.1 173 470 = nI (k_n C) := hR.1.2.2.2.1
    have hi : x < k_n C := by omega
    rw [f_X8_isRest_b37]
    unfold f_X8_lined
    refine q_bd ?_
    rw [h4]
    refine q_if (fun q => absurd ((q_le (by omega) (by omega)).mp q) (by omega)) (q_ob (q_of (a_may (fl := fl) (val := val) hV hd hkr hR.1 hi) ?_))
    rw [q_up, l_rb]
    cases hms : l_ms (l_mk C day K kr fl val) x with
    | false =>
      rw [if_neg (show ¬ (false : Bool) = true by decide)]
      exact q_it (by decide) (ih (x + 1) u M (by omega) (by omega) hR ho hM)
    | true =>
      rw [if_pos (show (true : Bool) = true from rfl)]
      obtain ⟨f1, f2, f3, f4, f5, f6, f7⟩ := r_f4 w hw x (by omega)
      refine q_if (by decide) (q_ob (q_mono (q_TH (a_gets (n := n) hn hV hd hkr hw hR ho hi hms) (g_X8_getsBy n _ _ M)) (fun M6 h6 => ?_)))
      obtain ⟨⟨p1, p2, p3⟩, g6⟩ := h6
      have hR6 : l_R C day K kr (l_mk C day K kr fl val) M6 := l_R_fr hR (fun i j q => g6.1 i j (by unfold w_71; omega))
      have ho6 : ∀ j, j < k_n C → M6.1 199 j = nI j := fun j q => (g6.1 199 j (by unfold w_71; omega)).trans (ho j q)
      have hM6 : k_M C C0 C1 M6 := k_M_fr2 hM ⟨fun i j q => g6.1 i j (by unfold w_71; omega), fun i j q => g6.2 i j (by unfold w_65; omega)⟩ (fun i j q => g6.2 i j (by unfold w_65; omega))
      rw [r_f3 w hw x (by omega)]
      refine q_ob (q_mono (q_TH (a_gets (n := n) (v := w ^^^ 2 ^ x) hn hV hd hkr f3 hR6 ho6 hi hms) (g_X8_getsBy n _ _ M6)) (fun M7 h7 => ?_))
      obtain ⟨⟨s1, s2, s3⟩, g7⟩ := h7
      have hR7 : l_R C day K kr (l_mk C day K kr fl val) M7 := l_R_fr hR6 (fun i j q => g7.1 i j (by unfold w_71; omega))
      have ho7 : ∀ j, j < k_n C → M7.1 199 j = nI j := fun j q => (g7.1 199 j (by unfold w_71; omega)).trans (ho6 j q)
      have hM7 : k_M C C0 C1 M7 := k_M_fr2 hM6 ⟨fun i j q => g7.1 i j (by unfold w_71; omega), fun i j q => g7.2 i j (by unfold w_65; omega)⟩ (fun i j q => g7.2 i j (by unfold w_65; omega))
      have ihn := ih (x + 1) u M7 (by omega) (by omega) hR7 ho7 hM7
      have hpu : l_pu (l_mk C day K kr fl val) w x ≤ 1000 := l_tk_le hL hi _
      have hT := l_T_le hL w x
      have how := (hL.2.1 x hi).2.2.1
      have hpp : l_pp (l_mk C day K kr fl val) x ≤ 60000 := hL.2.2.1 _ _
      have hOs : l_Os (l_mk C day K kr fl val) w x ≤ 60000000 := by
        have m2 : l_pp (l_mk C day K kr fl val) x * l_ow (l_mk C day K kr fl val) x ≤ 60000 * 1000 := Nat.mul_le_mul hpp how
        unfold l_Os
        repeat' split
        all_goals omega
      have hUs : l_Us (l_mk C day K kr fl val) w x ≤ 66000 := by
        unfold l_Us
        repeat' split
        all_goals omega
      have m3 : l_pu (l_mk C day K kr fl val) w x * l_Us (l_mk C day K kr fl val) w x ≤ 1000 * 66000 := Nat.mul_le_mul hpu hUs
      cases han : l_an (l_mk C day K kr fl val) x with
      | false =>
        obtain ⟨a1, a2⟩ := p1 han
        obtain ⟨b1, b2⟩ := s1 han
        have hbe : l_be (l_mk C day K kr fl val) w x = false := by
          unfold l_be
          rw [han]
          rfl
        rw [hbe, if_neg (show ¬ (false : Bool) = true by decide), a1, a2, b1, b2, lN_mul]
        exact q_it (Int64.le_refl _) ihn
      | true =>
        cases hb : w.testBit x with
        | true =>
          obtain ⟨e1, e2⟩ := f6 hb
          obtain ⟨a1, a2⟩ := p3 han hb w e1
          obtain ⟨b1, b2⟩ := s2 han (by rw [e2]; exact f5)
          rw [e2] at b1
          have b1' : M7.2 172 46 = lN (l_pu (l_mk C day K kr fl val) w x) := b1
          have hbe : l_be (l_mk C day K kr fl val) w x = decide (l_Os (l_mk C day K kr fl val) w x < l_pu (l_mk C day K kr fl val) w x * l_Us (l_mk C day K kr fl val) w x) := by
            unfold l_be
            rw [han, hb]
            rfl
          rw [hbe, a1, a2, b1', b2, lN_mul, lN_mul, Nat.mul_one]
          by_cases c : l_Os (l_mk C day K kr fl val) w x < l_pu (l_mk C day K kr fl val) w x * l_Us (l_mk C day K kr fl val) w x
          · rw [decide_eq_true c, if_pos rfl]
            exact q_if (fun q => absurd ((pk_lLE (by omega) (by omega)).mp q) (by omega)) (q_some ⟨rfl, hR7, ho7, hM7⟩)
          · rw [decide_eq_false c, if_neg (show ¬ (false : Bool) = true by decide)]
            exact q_it ((pk_lLE (by omega) (by omega)).mpr (by omega)) ihn
        | false =>
          obtain ⟨e1, e2⟩ := f7 hb
          obtain ⟨a1, a2⟩ := p2 han hb
          obtain ⟨b1, b2⟩ := s3 han (by rw [e2]; exact f4) w e2.symm
          have a1' : M6.2 172 46 = lN (l_pu (l_mk C day K kr fl val) w x) := by
            rw [a1]
            unfold l_pu
            rw [e1]
          have hbe : l_be (l_mk C day K kr fl val) w x = decide (l_pu (l_mk C day K kr fl val) w x * l_Us (l_mk C day K kr fl val) w x < l_Os (l_mk C day K kr fl val) w x) := by
            unfold l_be
            rw [han, hb]
            rfl
          rw [hbe, a1', a2, b1, b2, lN_mul, lN_mul, Nat.mul_one]
          by_cases c : l_pu (l_mk C day K kr fl val) w x * l_Us (l_mk C day K kr fl val) w x < l_Os (l_mk C day K kr fl val) w x
          · rw [decide_eq_true c, if_pos rfl]
            exact q_if (fun q => absurd ((pk_lLE (by omega) (by omega)).mp q) (by omega)) (q_some ⟨rfl, hR7, ho7, hM7⟩)
          · rw [decide_eq_false c, if_neg (show ¬ (false : Bool) = true by decide)]
            exact q_it ((pk_lLE (by omega) (by omega)).mpr (by omega)) ihn
theorem a_r2 {n : Nat} {C C0 C1 : k_C} {day : Int32} {K w : Nat} {kr : Nat → Nat} {fl : Int32} {val : (Nat → Int64) → Int64} {M : m_M} (hn : 200 < n) (hV : k_V C) (hd : h_day (k_r C) (k_N C) day K) (hkr : l_kr C kr) (hw : w < 64) (hR : l_R C day K kr (l_mk C day K kr fl val) M) (ho : ∀ j, j < k_n C → M.1 199 j = nI j) (hM : k_M C C0 C1 M) : ∀ (e x u : Nat), x + e = k_n C → e < u → q_T (f_X8_isRest_b2 n (nI w) u (nI x) M) (fun a => a.1 = l_b (if l_ra (l_mk C day K kr fl val) w e x then l_rb (l_mk C day K kr fl val) w (k_n C) 0 else false) ∧ l_R C day K kr (l_mk C day K kr fl val) a.2 ∧ (∀ j, j < k_n C → a.2.1 199 j = nI j) ∧ k_M C C0 C1 a.2) := by
  have n6 : k_n C ≤ 6 := hV.1.2.2.1
  have h4 : M.1 173 470 = nI (k_n C) := hR.1.2.2.2.1
  intro e
  induction e with
  | zero =>
    intro x u hx hu
    obtain ⟨u, rfl⟩ : ∃ v, u = v + 1 := ⟨u - 1, by omega⟩
    rw [f_X8_isRest_b2]
    unfold f_X8_lined
    refine q_bd ?_
    rw [h4]
    exact q_it ((q_le (by omega) (by omega)).mpr (by omega)) (a_r37 (n := n) hn hV hd hkr hw (k_n C) 0 n M (by omega) (by omega) hR ho hM)
  | succ e ih =>
    intro x u hx hu
    obtain ⟨u, rfl⟩ : ∃ v, u = v + 1 := ⟨u - 1, by omega⟩
    have hi : x < k_n C := by omega
    rw [f_X8_isRest_b2]
    unfold f_X8_lined
    refine q_bd ?_
    rw [h4]
    refine q_if (fun q => absurd ((q_le (by omega) (by omega)).mp q) (by omega)) ?_
    rw [l_bit w hw x (by omega), q_up, l_ra]
    cases hb : w.testBit x with
    | true =>
      rw [if_pos (show (true : Bool) = true from rfl)]
      refine q_it rfl (q_ob (q_of (a_may (fl := fl) (val := val) hV hd hkr hR.1 hi) ?_))
      cases hms : l_ms (l_mk C day K kr fl val) x with
      | true =>
        rw [if_pos (show (true : Bool) = true from rfl)]
        exact q_if (by decide) (ih (x + 1) u (by omega) (by omega))
      | false => exact q_it rfl (q_some ⟨rfl, hR, ho, hM⟩)
    | false =>
      rw [if_neg (show ¬ (false : Bool) = true by decide)]
      exact q_if (by decide) (ih (x + 1) u (by omega) (by omega))
def l_rr (L : l_L) (what : Int32) : Nat → Nat → Int32 → Int32
  | 0, _, f => if what = -1 then f else -5
  | e + 1, w, f => if l_rs L w then (if f = what then nI w else l_rr L what e (w + 1) (f + 1)) else l_rr L what e (w + 1) f
theorem r_f5 : ∀ B, B < 7 → 2 ^ B ≤ 64 := by decide
theorem b_r25 {n : Nat} {L : l_L} {M : m_M} {x1 x2 : Int32} (hn : 200 < n) (hL : l_ok L) (hC : l_C L M) (h4 : M.1 1 4 = nI (l_n L)) : ∀ (e w u : Nat) (f : Int32), w + e = 2 ^ l_n L → e < u → f_X7_rests_b25 n x1 x2 u f (nI w) M = some (l_rr L x1 e w f, M) := by
  have n6 := hL.1
  have h64 := r_f5 (l_n L) (by omega)
  intro e
  induction e with
  | zero =>
    intro w u f hx hu
    obtain ⟨u, rfl⟩ : ∃ v, u = v + 1 := ⟨u - 1, by omega⟩
    rw [f_X7_rests_b25, h4, r_f1 _ (by omega), if_pos ((q_le (by omega) (by omega)).mpr (by omega)), l_rr]
    by_cases c : x1 = -1
    · rw [if_pos c, if_pos c]
    · rw [if_neg c, if_neg c]
  | succ e ih =>
    intro w u f hx hu
    obtain ⟨u, rfl⟩ : ∃ v, u = v + 1 := ⟨u - 1, by omega⟩
    rw [f_X7_rests_b25, h4, r_f1 _ (by omega), if_neg (fun q => absurd ((q_le (by omega) (by omega)).mp q) (by omega)), b_rest hn hL hC (by omega), l_rr, q_up]
    show (if l_b (l_rs L w) = 0 then _ else _) = _
    cases l_rs L w with
    | false =>
      rw [if_pos (show l_b false = 0 by decide), if_neg (show ¬ (false : Bool) = true by decide)]
      exact ih (w + 1) u f (by omega) (by omega)
    | true =>
      rw [if_neg (show ¬ l_b true = 0 by decide), if_pos (show (true : Bool) = true from rfl)]
      by_cases c : f = x1
      · rw [if_pos c, if_pos c]
      · rw [if_neg c, if_neg c]
        exact ih (w + 1) u (f + 1) (by omega) (by omega)
theorem a_r25 {n : Nat} {C C0 C1 : k_C} {day x1 x2 : Int32} {K : Nat} {kr : Nat → Nat} {fl : Int32} {val : (Nat → Int64) → Int64} (hn : 200 < n) (hV : k_V C) (hd : h_day (k_r C) (k_N C) day K) (hkr : l_kr C kr) : ∀ (e w u : Nat) (f : Int32) (M : m_M), w + e = 2 ^ k_n C → e < u → l_R C day K kr (l_mk C day K kr fl val) M → (∀ j, j < k_n C → M.1 199 j = nI j) → k_M C C0 C1 M → q_T (f_X8_rests_b25 n x1 x2 u f (nI w) M) (fun a => a.1 = l_rr (l_mk C day K kr fl val) x1 e w f ∧ k_M C C0 C1 a.2) := by
  have n6 : k_n C ≤ 6 := hV.1.2.2.1
  have h64 := r_f5 (k_n C) (by omega)
  intro e
  induction e with
  | zero =>
    intro w u f M hx hu hR ho hM
    obtain ⟨u, rfl⟩ : ∃ v, u = v + 1 := ⟨u - 1, by omega⟩
    have h4 : M.1 173 470 = nI (k_n C) := hR.1.2.2.2.1
    rw [f_X8_rests_b25]
    unfold f_X8_lined
    refine q_bd ?_
    rw [h4, r_f1 _ (by omega), l_rr]
    refine q_it ((q_le (by omega) (by omega)).mpr (by omega)) (q_ite (fun c => q_some ⟨?_, hM⟩) (fun c => q_some ⟨?_, hM⟩))
    · rw [if_pos c]
    · rw [if_neg c]
  | succ e ih =>
    intro w u f M hx hu hR ho hM
    obtain ⟨u, rfl⟩ : ∃ v, u = v + 1 := ⟨u - 1, by omega⟩
    have h4 : M.1 173 470 = nI (k_n C) := hR.1.2.2.2.1
    rw [f_X8_rests_b25]
    unfold f_X8_lined
    refine q_bd ?_
    rw [h4, r_f1 _ (by omega), l_rr]
    refine q_if (fun q => absurd ((q_le (by omega) (by omega)).mp q) (by omega)) (q_o2 (q_mono (a_r2 (n := n) (w := w) (fl := fl) (val := val) hn hV hd hkr (by omega) hR ho hM (k_n C) 0 n (by omega) (by omega)) (fun a ha => ?_)))
    obtain ⟨a1, a2, a3, a4⟩ := ha
    have a1' : a.1 = l_b (l_rs (l_mk C day K kr fl val) w) := a1
    rw [a1', q_up]
    cases l_rs (l_mk C day K kr fl val) w with
    | false =>
      rw [if_neg (show ¬ (false : Bool) = true by decide)]
      exact q_it rfl (ih (w + 1) u f a.2 (by omega) (by omega) a2 a3 a4)
    | true =>
      rw [if_pos (show (true : Bool) = true from rfl)]
      refine q_if (by decide) (q_ite (fun c => q_some ⟨?_, a4⟩) (fun c => ?_))
      · rw [if_pos c]
      · rw [if_neg c]
        exact ih (w + 1) u (f + 1) a.2 (by omega) (by omega) a2 a3 a4
theorem z_rests {n : Nat} {x1 x2 : Int32} {M : m_M} (hn : 200 < n) (h : k_Inv M) : q_T (f_X7_rests n x1 x2 M) (fun a => z_eq a (f_X8_rests n x1 x2 a.2)) := by
  obtain ⟨C, C0, C1, hM⟩ := h
  obtain ⟨⟨hV, hA, hE⟩, hI⟩ := id hM
  have n6 : k_n C ≤ 6 := hV.1.2.2.1
  have h64 := r_f5 (k_n C) (by omega)
  have ref : x1 < -1 ∨ e_in x2 1000 = 0 → z_eq (-10, M) (f_X8_rests n x1 x2 M) := by
    intro hc
    unfold z_eq f_X8_rests
    refine q_ite (fun _ => q_some ⟨rfl, C, C0, C1, hM⟩) (fun c => q_bd ?_)
    rw [e_day8]
    refine q_it ?_ (q_some ⟨rfl, C, C0, C1, hM⟩)
    rcases hc with q | q
    · exact absurd q c
    · exact q
  unfold f_X7_rests
  refine q_ite (fun c => q_some (ref (Or.inl c))) (fun c1 => q_bd ?_)
  rw [e_day7]
  rcases e_in_of (x := x2) (n := 1000) (by omega) with ⟨e2, _⟩ | ⟨e2, dy, hdy, rfl⟩
  · exact q_it e2 (q_some (ref (Or.inr e2)))
  refine q_if (by rw [e2]; decide) ?_
  obtain ⟨K, hK⟩ := k_isday hV (nI dy)
  obtain ⟨fl, val, y1, y2⟩ := k_law hA (l := 0) (by omega)
  obtain ⟨kr, hkr⟩ := l_ex hV
  have hL := l_mk_ok hV hK.1 hkr (nI dy) fl val
  refine q_ob (q_mono (b_lineUp (n := n) (fl := fl) (val := val) hn hM y1 hkr hK) (fun M1 h1 => ?_))
  obtain ⟨hC1, hM1⟩ := h1
  have h14 : M1.1 1 4 = nI (l_n (l_mk C (nI dy) K kr fl val)) := hM1.1.2.1.2.2.2.2.1
  refine q_of (b_r25 (n := n) (x1 := x1) (x2 := nI dy) hn hL hC1 h14 (2 ^ k_n C) 0 n 0 (Nat.zero_add _) (by omega)) ?_
  unfold z_eq f_X8_rests
  refine q_if c1 (q_bd ?_)
  rw [e_day8]
  refine q_if (by rw [e2]; decide) (q_ob (q_mono (a_layLine (n := n) (fl := fl) (val := val) hn hM1 y2 hkr hK) (fun M2 h2 => ?_)))
  obtain ⟨⟨g2, q2⟩, hM2⟩ := h2
  exact q_mono (a_r25 (n := n) (x1 := x1) (x2 := nI dy) (fl := fl) (val := val) hn hV hK hkr (2 ^ k_n C) 0 n 0 M2 (Nat.zero_add _) (by omega) ⟨g2.1, fun j q => (q2 j q).1⟩ (fun j q => (q2 j q).2) hM2) (fun b hb => ⟨hb.1.symm, C, C0, C1, hb.2⟩)
