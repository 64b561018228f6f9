/-! CALLS: best, parted, wise -/
/-- the best so far: its ask, and its fraction on both sides -/
def y_bs (C : k_C) (day : Int32) (K k : Nat) (fl : Int32) (val : (Nat → Int64) → Int64) : Nat → Int32 × Nat × Nat × Nat × Nat
  | 0 => (-1, 0, 1, 0, 1)
  | j + 1 =>
    let s := y_bs C day K k fl val j
    if s.2.2.2.1 * y_U C h_all K k j < y_O C h_all day K k fl val j * s.2.2.2.2 then (nI j, y_A C h_all day K k fl val j, y_B C h_all K k j, y_O C h_all day K k fl val j, y_U C h_all K k j) else s
def y_ok (s : Int32 × Nat × Nat × Nat × Nat) : Prop := (s.2.1 ≤ 120000000 ∧ s.2.2.1 ≤ 120000 ∧ s.2.2.2.1 ≤ 120000000 ∧ s.2.2.2.2 ≤ 120000) ∧ s.2.1 * s.2.2.2.2 = s.2.2.2.1 * s.2.2.1 ∧ 0 < s.2.2.1 ∧ 0 < s.2.2.2.2
theorem y_bs_ok {C : k_C} (hV : k_V C) {K k : Nat} (hK : K ≤ k_N C) (hk : k < K) (h4 : h_kd (k_r C) k = 4) (day fl : Int32) (val : (Nat → Int64) → Int64) : ∀ j, y_ok (y_bs C day K k fl val j)
  | 0 => ⟨⟨Nat.zero_le _, by show 1 ≤ 120000; omega, Nat.zero_le _, by show 1 ≤ 120000; omega⟩, rfl, Nat.one_pos, Nat.one_pos⟩
  | j + 1 => by
    have eS : y_bs C day K k fl val (j + 1) = if (y_bs C day K k fl val j).2.2.2.1 * y_U C h_all K k j < y_O C h_all day K k fl val j * (y_bs C day K k fl val j).2.2.2.2 then (nI j, y_A C h_all day K k fl val j, y_B C h_all K k j, y_O C h_all day K k fl val j, y_U C h_all K k j) else y_bs C day K k fl val j := rfl
    rw [eS]
    split
    · exact y_N hV h_all hK hk h4 day fl val j
    · exact y_bs_ok hV hK hk h4 day fl val j
theorem q_m63 {a b : Nat} (ha : a ≤ 120000000) (hb : b ≤ 120000) : a * b < 2 ^ 63 := by
  have : a * b ≤ 120000000 * 120000 := Nat.mul_le_mul ha hb
  omega
theorem b_b52 {n : Nat} {C : k_C} {day : Int32} {K k : Nat} {x2 fl : Int32} {val : (Nat → Int64) → Int64} {T : Nat} (hT : T = 4) (hn : 200 < n) (hV : k_V C) (hK : K ≤ k_N C) (hk : k < K) (h4 : h_kd (k_r C) k = 4) : ∀ (e j u : Nat) (M : m_M), j + e = T → e < u → k_H C (h_S (k_r C) (h_ns 0) K).1 day K (k_gn C (h_S (k_r C) (h_ns 0) K).1 fl val) M → k_YC 5 M fl val → q_T (f_X7_best_b52 n (nI (h_D (k_r C) k)) x2 u (y_bs C day K k fl val j).1 (lN (y_bs C day K k fl val j).2.1) (lN (y_bs C day K k fl val j).2.2.1) (nI j) M) (fun a => a.1 = (y_bs C day K k fl val T).1 ∧ (∀ i j, a.2.1 i j = M.1 i j) ∧ ∀ i j, ¬ w_15 i j → a.2.2 i j = M.2 i j) := by
  intro e
  induction e with
  | zero =>
    intro j u M hj hu hH hY
    obtain ⟨u, rfl⟩ : ∃ v, u = v + 1 := ⟨u - 1, by omega⟩
    have g : (4 : Int32) ≤ nI j := (q_le (a := 4) (by decide) (by omega)).mpr (by omega)
    obtain rfl : j = T := by omega
    rw [f_X7_best_b52]
    exact q_it g (q_some ⟨rfl, fun _ _ => rfl, fun _ _ _ => rfl⟩)
  | succ e ih =>
    intro j u M hj hu hH hY
    obtain ⟨u, rfl⟩ : ∃ v, u = v + 1 := ⟨u - 1, by omega⟩
    have l4 : ¬ (4 : Int32) ≤ nI j := fun q => absurd ((q_le (a := 4) (by decide) (by omega)).mp q) (by omega)
    have e0 := y_cg hV (so := h_ns 0) (so' := h_all) (fun i _ => h_ns0 i) hK hk day fl val j
    rw [f_X7_best_b52]
    refine q_if l4 (q_o2 (q_mono (q_TH (b_ask (j := j) hn hV hK hk h4 hH hY (by omega)) (g_X1_askAbove n _ _ M)) (fun a ha => ?_)))
    obtain ⟨a1, g⟩ := ha
    have eA : a.1 = lN (y_A C h_all day K k fl val j) := a1.trans (congrArg lN e0.1)
    have ga : ∀ i j, a.2.1 i j = M.1 i j := fun i j => g.1 i j (by unfold w_1; omega)
    have hH2 := k_H_e hH ga
    have hY2 : k_YC 5 a.2 fl val := e_YC_fr hY (fun j => ga _ _) (fun j => ga _ _) (fun j => g.2 _ _ (by unfold w_15; omega))
    refine q_ob (q_of ((b_below (j := j) (n := n) hn hV hK hk h4 hH2.1 (by omega)).trans (congrArg some (congrArg lN e0.2.1))) (q_bd ?_))
    rw [eA]
    have hs := y_bs_ok hV hK hk h4 day fl val j
    have ht := y_N hV h_all hK hk h4 day fl val j
    obtain ⟨⟨s1, s2, s3, s4⟩, s5, s6, s7⟩ := hs
    obtain ⟨⟨t1, t2, t3, t4⟩, t5, t6, t7⟩ := ht
    have key := (f_lt s5 t5 s6 s7 t6 t7).1
    rw [q_cmp (q_m63 t1 s2) (q_m63 s1 t2), q_up]
    have eS : y_bs C day K k fl val (j + 1) = if (y_bs C day K k fl val j).2.2.2.1 * y_U C h_all K k j < y_O C h_all day K k fl val j * (y_bs C day K k fl val j).2.2.2.2 then (nI j, y_A C h_all day K k fl val j, y_B C h_all K k j, y_O C h_all day K k fl val j, y_U C h_all K k j) else y_bs C day K k fl val j := rfl
    have ih' := ih (j + 1) u a.2 (by omega) (by omega) hH2 hY2
    rw [eS] at ih'
    by_cases c : (y_bs C day K k fl val j).2.1 * y_B C h_all K k j < y_A C h_all day K k fl val j * (y_bs C day K k fl val j).2.2.1
    · rw [if_pos (key.mp c)] at ih'
      refine q_if ?_ (q_mono ih' (fun b hb => ⟨hb.1, fun i j => (hb.2.1 i j).trans (ga i j), fun i j q => (hb.2.2 i j q).trans (g.2 i j q)⟩))
      rw [if_neg (show ¬ y_A C h_all day K k fl val j * (y_bs C day K k fl val j).2.2.1 < (y_bs C day K k fl val j).2.1 * y_B C h_all K k j by omega), if_neg (show ¬ y_A C h_all day K k fl val j * (y_bs C day K k fl val j).2.2.1 = (y_bs C day K k fl val j).2.1 * y_B C h_all K k j by omega)]
      decide
    · rw [if_neg (fun q => c (key.mpr q))] at ih'
      refine q_it ?_ (q_mono ih' (fun b hb => ⟨hb.1, fun i j => (hb.2.1 i j).trans (ga i j), fun i j q => (hb.2.2 i j q).trans (g.2 i j q)⟩))
      by_cases c2 : y_A C h_all day K k fl val j * (y_bs C day K k fl val j).2.2.1 < (y_bs C day K k fl val j).2.1 * y_B C h_all K k j
      · rw [if_pos c2]
        decide
      · rw [if_neg c2, if_pos (by omega)]
        decide
theorem a_b40 {n : Nat} {C C0 C1 : k_C} {day : Int32} {K k : Nat} {x2 fl : Int32} {val : (Nat → Int64) → Int64} {T : Nat} (hT : T = 4) (hn : 200 < n) (hV : k_V C) (hd : h_day (k_r C) (k_N C) day K) (hk : k < K) (h4 : h_kd (k_r C) k = 4) (hY : k_YR (k_t C 0) (k_x C 0) fl val) : ∀ (e j u : Nat) (M : m_M), j + e = T → e < u → k_g C 31 day K (k_gn C (h_S (k_r C) (h_sb 31) K).1 fl val) M → k_M C C0 C1 M → q_T (f_X8_best_b40 n (nI (h_D (k_r C) k)) x2 u (y_bs C day K k fl val j).1 (lN (y_bs C day K k fl val j).2.2.2.1) (lN (y_bs C day K k fl val j).2.2.2.2) (nI j) M) (fun a => a.1 = (y_bs C day K k fl val T).1 ∧ k_M C C0 C1 a.2) := by
  have hK := hd.1
  intro e
  induction e with
  | zero =>
    intro j u M hj hu hg hM
    obtain ⟨u, rfl⟩ : ∃ v, u = v + 1 := ⟨u - 1, by omega⟩
    have g : (3 : Int32) < nI j := (q_lt (a := 3) (by decide) (by omega)).mpr (by omega)
    obtain rfl : j = T := by omega
    rw [f_X8_best_b40]
    exact q_it g (q_some ⟨rfl, hM⟩)
  | succ e ih =>
    intro j u M hj hu hg hM
    obtain ⟨u, rfl⟩ : ∃ v, u = v + 1 := ⟨u - 1, by omega⟩
    have l4 : ¬ (3 : Int32) < nI j := fun q => absurd ((q_lt (a := 3) (by decide) (by omega)).mp q) (by omega)
    have e0 := y_cg hV (so := h_sb 31) (so' := h_all) (fun i hi => h_sb31 i (by have := hV.1.2.2.2; omega)) hK hk day fl val j
    rw [f_X8_best_b40]
    refine q_if l4 (q_ob (q_mono (q_TH (a_ask (j := j) hn hV hd hk h4 hg hY (by omega)) (g_X8_askOf n _ _ _ M)) (fun M2 h2 => ?_)))
    obtain ⟨⟨o1, o2⟩, g⟩ := h2
    have eO : M2.2 172 46 = lN (y_O C h_all day K k fl val j) := o1.trans (congrArg lN e0.2.2.1)
    have eU : M2.2 172 47 = lN (y_U C h_all K k j) := o2.trans (congrArg lN e0.2.2.2)
    have hg2 := k_g_fr hg (M' := M2) (fun i j q => g.1 i j (by unfold w_60; omega))
    have hM2 : k_M C C0 C1 M2 := k_M_fr2 hM ⟨fun i j q => g.1 i j (by unfold w_60; omega), fun i j q => g.2 i j (by unfold w_66; omega)⟩ (fun i j q => g.2 i j (by unfold w_66; omega))
    obtain ⟨⟨s1, s2, s3, s4⟩, s5, s6, s7⟩ := y_bs_ok hV hK hk h4 day fl val j
    obtain ⟨⟨t1, t2, t3, t4⟩, t5, t6, t7⟩ := y_N hV h_all hK hk h4 day fl val j
    rw [eO, eU, lN_mul, lN_mul, q_up]
    have eS : y_bs C day K k fl val (j + 1) = if (y_bs C day K k fl val j).2.2.2.1 * y_U C h_all K k j < y_O C h_all day K k fl val j * (y_bs C day K k fl val j).2.2.2.2 then (nI j, y_A C h_all day K k fl val j, y_B C h_all K k j, y_O C h_all day K k fl val j, y_U C h_all K k j) else y_bs C day K k fl val j := rfl
    have ih' := ih (j + 1) u M2 (by omega) (by omega) hg2 hM2
    rw [eS] at ih'
    by_cases c : (y_bs C day K k fl val j).2.2.2.1 * y_U C h_all K k j < y_O C h_all day K k fl val j * (y_bs C day K k fl val j).2.2.2.2
    · rw [if_pos c] at ih'
      exact q_if (fun q => absurd ((pk_lLE (q_m63 t3 s4) (q_m63 s3 t4)).mp q) (by omega)) ih'
    · rw [if_neg c] at ih'
      exact q_it ((pk_lLE (q_m63 t3 s4) (q_m63 s3 t4)).mpr (by omega)) ih'
theorem z_best {n : Nat} {x1 x2 : Int32} {M : m_M} (hn : 200 < n) (h : k_Inv M) : q_T (f_X7_best n x1 x2 M) (fun a => z_eq a (f_X8_best n x1 x2 a.2)) := by
  obtain ⟨C, C0, C1, hM⟩ := h
  obtain ⟨⟨hV, hA, hE⟩, hI⟩ := id hM
  have hDN := k_D60 hV (Nat.le_refl (k_N C))
  have ref : e_in x1 (h_D (k_r C) (k_N C)) = 0 ∨ e_in x2 1000 = 0 → z_eq (-10, M) (f_X8_best n x1 x2 M) := by
    intro hc
    unfold z_eq f_X8_best
    refine q_o2 (q_mono (k_asked (n := n) hn hM x1 x2) (fun a ha => ?_))
    refine q_it ?_ (q_some ⟨rfl, C, C0, C1, ha.2.1⟩)
    rw [ha.1]
    rcases hc with q | q
    · rw [if_pos q]
    · rw [if_pos q]
      exact ite_self _
  unfold f_X7_best
  refine q_bd ?_
  rw [e_dl7 hA.2.2.1]
  rcases e_in_of (x := x1) (n := h_D (k_r C) (k_N C)) (by omega) with ⟨e1, _⟩ | ⟨e1, d, hd, rfl⟩
  · exact q_it e1 (q_some (ref (Or.inl e1)))
  refine q_if (by rw [e1]; decide) (q_bd ?_)
  rw [e_day7]
  rcases e_in_of (x := x2) (n := 1000) (by omega) with ⟨e2, _⟩ | ⟨e2, dy, hdy, rfl⟩
  · exact q_it e2 (q_some (ref (Or.inr e2)))
  refine q_if (by rw [e2]; decide) ?_
  obtain ⟨K, hK⟩ := k_isday hV (nI dy)
  obtain ⟨fl, val, y1, y2⟩ := k_law hA (l := 0) (by omega)
  have hDK := k_D60 hV hK.1
  refine q_ob (q_mono (k_reck (n := n) (ns := 0) hn (n_of hM) y1 hK) (fun M1 h1 => q_bd ?_))
  obtain ⟨hH, hM1n, hY1, hL1⟩ := h1
  have y1' := hY1 0 fl val (by omega) y1
  have hM1 : k_M C C0 C1 M1 := n_to hM1n ⟨by rw [hL1 0 8 (by omega) (by omega) (by omega), hL1 172 5 (by omega) (by omega) (by omega)]; exact hM.2.2.2.1, by rw [hL1 0 9 (by omega) (by omega) (by omega), hL1 172 6 (by omega) (by omega) (by omega)]; exact hM.2.2.2.2⟩
  rw [k_there (day := 0) hH.1.1, e_inN (by omega) (by omega)]
  by_cases c : d < h_D (k_r C) K
  · rw [if_pos c]
    refine q_if (by decide) ?_
    obtain ⟨k, k1, k2, rfl⟩ := h_D_ex _ _ _ c
    obtain ⟨T, hT⟩ : ∃ T, T = 4 := ⟨4, rfl⟩
    have hl := b_b52 (n := n) (x2 := nI dy) (fl := fl) (val := val) hT hn hV hK.1 k1 k2 4 0 n M1 (by omega) (by omega) hH y1'
    refine q_mono hl (fun a ha => ?_)
    obtain ⟨a1, a2, a3⟩ := ha
    have hM2 : k_M C C0 C1 a.2 := k_M_fr2 hM1 ⟨fun i j _ => a2 i j, fun i j q => a3 i j (by unfold w_15; omega)⟩ (fun i j q => a3 i j (by unfold w_15; omega))
    unfold z_eq f_X8_best
    refine q_o2 (q_mono (k_asked (n := n) hn hM2 _ _) (fun b hb => ?_))
    obtain ⟨b1, b2, b3⟩ := hb
    rw [e1, if_neg (by decide), e2, if_neg (by decide)] at b1
    refine q_if (by rw [b1]; decide) (q_ob (q_of (k_early hV b2.1.2.2 b3 hK hd) ?_))
    rw [if_pos c]
    refine q_it rfl (q_ob (q_mono (n_today (n := n) hn (n_of b2) y2 hK) (fun M4 h4 => ?_)))
    obtain ⟨c1, c2, c3⟩ := h4
    have c2' : k_M C C0 C1 M4 := n_to c2 ⟨by rw [c3 0 8 (by unfold w_61; omega), c3 172 5 (by unfold w_61; omega)]; exact b2.2.2.2.1, by rw [c3 0 9 (by unfold w_61; omega), c3 172 6 (by unfold w_61; omega)]; exact b2.2.2.2.2⟩
    exact q_mono (a_b40 (n := n) (x2 := nI dy) (fl := fl) (val := val) hT hn hV hK k1 k2 y2 4 0 n M4 (by omega) (by omega) c1 c2') (fun b hb => ⟨a1.trans hb.1.symm, C, C0, C1, hb.2⟩)
  · rw [if_neg c]
    refine q_it rfl (q_some ?_)
    unfold z_eq f_X8_best
    refine q_o2 (q_mono (k_asked (n := n) hn hM1 _ _) (fun b hb' => ?_))
    obtain ⟨b1, b2, b3⟩ := hb'
    rw [e1, if_neg (by decide), e2, if_neg (by decide)] at b1
    refine q_if (by rw [b1]; decide) (q_ob (q_of (k_early hV b2.1.2.2 b3 hK hd) ?_))
    rw [if_neg c]
    exact q_if (by decide) (q_some ⟨rfl, C, C0, C1, b2⟩)
/-! the first of which something holds -/
def y_fst (P : Nat → Bool) : Nat → Nat → Int32
  | 0, _ => -1
  | e + 1, x => if P x = true then nI x else y_fst P e (x + 1)
/-! parted -/
def v_pu (S : Nat → Nat → Int32) (day : Int32) (P : Nat) (gn : Nat → Int32) (fl : Int32) (val : (Nat → Int64) → Int64) (d : Nat) : Nat := x_pu S day d (S 10 d).toNatClampNeg (x_nn S P gn fl val (S 10 d).toNatClampNeg (S 4 (S 10 d).toNatClampNeg - S 16 d))
theorem v_pu_e {C : k_C} (hV : k_V C) (so : Nat → Bool) {K k : Nat} (hK : K ≤ k_N C) (hk : k < K) (h4 : h_kd (k_r C) k = 4) (day : Int32) (gn : Nat → Int32) (fl : Int32) (val : (Nat → Int64) → Int64) : x_pu (h_S (k_r C) so K).1 day (h_D (k_r C) k) (h_a (k_r C) k) (x_nn (h_S (k_r C) so K).1 (k_P C) gn fl val (h_a (k_r C) k) ((h_S (k_r C) so K).1 4 (h_a (k_r C) k) - (h_S (k_r C) so k).1 4 (h_a (k_r C) k))) = v_pu (h_S (k_r C) so K).1 day (k_P C) gn fl val (h_D (k_r C) k) := by
  unfold v_pu
  rw [(h_made_S hV.2.1 so h4 K hK hk).1, q_cl (by have := (a_dl hV (show k < k_N C by omega) h4).2.2.1; omega), h_hid hV.2.1 so h4 K hK hk]
theorem b_par {n : Nat} {C : k_C} {so : Nat → Bool} {day x1 : Int32} {K : Nat} {gn : Nat → Int32} {fl fl1 : Int32} {val val1 : (Nat → Int64) → Int64} (hn : 200 < n) (hV : k_V C) (hK : K ≤ k_N C) : ∀ (e x u : Nat) (M : m_M), x + e = h_D (k_r C) K → e < u → k_H C (h_S (k_r C) so K).1 day K gn M → k_YC 5 M fl val → k_YC 10 M fl1 val1 → q_T (f_X7_parted_b21 n x1 u (nI x) M) (fun a => a.1 = y_fst (fun d => decide (v_pu (h_S (k_r C) so K).1 day (k_P C) gn fl val d ≠ v_pu (h_S (k_r C) so K).1 day (k_P C) gn fl1 val1 d)) e x ∧ (∀ i j, a.2.1 i j = M.1 i j) ∧ ∀ i j, ¬ w_15 i j → a.2.2 i j = M.2 i j) := by
  have hD := k_D60 hV hK
  intro e
  induction e with
  | zero =>
    intro x u M hx hu hH hY hY1
    obtain ⟨u, rfl⟩ : ∃ v, u = v + 1 := ⟨u - 1, by omega⟩
    rw [f_X7_parted_b21, hH.1.1.1]
    exact q_it ((q_le (by omega) (by omega)).mpr (by omega)) (q_some ⟨rfl, fun _ _ => rfl, fun _ _ _ => rfl⟩)
  | succ e ih =>
    intro x u M hx hu hH hY hY1
    obtain ⟨u, rfl⟩ : ∃ v, u = v + 1 := ⟨u - 1, by omega⟩
    obtain ⟨k, k1, k2, rfl⟩ := h_D_ex _ _ _ (show x < h_D (k_r C) K by omega)
    rw [f_X7_parted_b21, hH.1.1.1]
    refine q_if (fun q => absurd ((q_le (by omega) (by omega)).mp q) (by omega)) (q_o2 (q_mono (q_TH (b_purse (l := 0) hn hV hK k1 k2 hH (by omega) hY) (g_X1_purseAsk n _ _ M)) (fun a ha => ?_)))
    obtain ⟨a1, g⟩ := ha
    have ga : ∀ i j, a.2.1 i j = M.1 i j := fun i j => g.1 i j (by unfold w_1; omega)
    have hH2 := k_H_e hH ga
    have hY2 : k_YC 10 a.2 fl1 val1 := e_YC_fr hY1 (fun j => ga _ _) (fun j => ga _ _) (fun j => g.2 _ _ (by unfold w_15; omega))
    refine q_o2 (q_mono (q_TH (b_purse (l := 1) hn hV hK k1 k2 hH2 (by omega) hY2) (g_X1_purseAsk n _ _ a.2)) (fun b hb => ?_))
    obtain ⟨b1, g'⟩ := hb
    have gb : ∀ i j, b.2.1 i j = M.1 i j := fun i j => (g'.1 i j (by unfold w_1; omega)).trans (ga i j)
    have gl : ∀ i j, ¬ w_15 i j → b.2.2 i j = M.2 i j := fun i j q => (g'.2 i j q).trans (g.2 i j q)
    have p0 := x_puN hV so hK k1 k2 day (h_a (k_r C) k) (x_nn (h_S (k_r C) so K).1 (k_P C) gn fl val (h_a (k_r C) k) ((h_S (k_r C) so K).1 4 (h_a (k_r C) k) - (h_S (k_r C) so k).1 4 (h_a (k_r C) k)))
    have p1 := x_puN hV so hK k1 k2 day (h_a (k_r C) k) (x_nn (h_S (k_r C) so K).1 (k_P C) gn fl1 val1 (h_a (k_r C) k) ((h_S (k_r C) so K).1 4 (h_a (k_r C) k) - (h_S (k_r C) so k).1 4 (h_a (k_r C) k)))
    rw [a1, b1, y_fst]
    rw [v_pu_e hV so hK k1 k2] at p0 p1 ⊢
    rw [v_pu_e hV so hK k1 k2]
    by_cases c : v_pu (h_S (k_r C) so K).1 day (k_P C) gn fl val (h_D (k_r C) k) = v_pu (h_S (k_r C) so K).1 day (k_P C) gn fl1 val1 (h_D (k_r C) k)
    · refine q_it (by rw [c]) ?_
      rw [if_neg (by rw [decide_eq_true_iff]; exact fun q => q c), q_up]
      refine q_mono (ih (h_D (k_r C) k + 1) u b.2 (by omega) (by omega) (k_H_e hH gb) (e_YC_fr hY (fun j => gb _ _) (fun j => gb _ _) (fun j => gl _ _ (by unfold w_15; omega))) (e_YC_fr hY1 (fun j => gb _ _) (fun j => gb _ _) (fun j => gl _ _ (by unfold w_15; omega)))) (fun r hr => ⟨hr.1, fun i j => (hr.2.1 i j).trans (gb i j), fun i j q => (hr.2.2 i j q).trans (gl i j q)⟩)
    · refine q_if (fun q => c ((nI_eq (by omega) (by omega)).mp q)) (q_some ⟨?_, gb, gl⟩)
      rw [if_pos (by rw [decide_eq_true_iff]; exact c)]
theorem a_par {n : Nat} {C C0 C1 : k_C} {so day x1 : Int32} {K : Nat} {gn : Nat → Int32} {fl fl1 : Int32} {val val1 : (Nat → Int64) → Int64} (hn : 200 < n) (hV : k_V C) (hd : h_day (k_r C) (k_N C) day K) (hY : k_YR (k_t C 0) (k_x C 0) fl val) (hY1 : k_YR (k_t C 1) (k_x C 1) fl1 val1) : ∀ (e x u : Nat) (M : m_M), x + e = h_D (k_r C) K → e < u → k_g C so day K gn M → k_M C C0 C1 M → q_T (f_X8_parted_b17 n x1 u (nI x) M) (fun a => a.1 = y_fst (fun d => decide (v_pu (h_S (k_r C) (h_sb so) K).1 day (k_P C) gn fl val d ≠ v_pu (h_S (k_r C) (h_sb so) K).1 day (k_P C) gn fl1 val1 d)) e x ∧ k_M C C0 C1 a.2) := by
  have hK := hd.1
  have hD := k_D60 hV hK
  intro e
  induction e with
  | zero =>
    intro x u M hx hu hg hM
    obtain ⟨u, rfl⟩ : ∃ v, u = v + 1 := ⟨u - 1, by omega⟩
    have h23 : M.1 172 23 = nI (h_D (k_r C) K) := hg.1.1.2.2.1
    rw [f_X8_parted_b17, h23]
    exact q_it ((q_le (by omega) (by omega)).mpr (by omega)) (q_some ⟨rfl, hM⟩)
  | succ e ih =>
    intro x u M hx hu hg hM
    obtain ⟨u, rfl⟩ : ∃ v, u = v + 1 := ⟨u - 1, by omega⟩
    obtain ⟨k, k1, k2, rfl⟩ := h_D_ex _ _ _ (show x < h_D (k_r C) K by omega)
    have h23 : M.1 172 23 = nI (h_D (k_r C) K) := hg.1.1.2.2.1
    rw [f_X8_parted_b17, h23]
    refine q_if (fun q => absurd ((q_le (by omega) (by omega)).mp q) (by omega)) (q_ob (q_mono (q_TH (a_purse (l := 0) hn hV hd k1 k2 hg (by omega) hY) (g_X8_askOf n _ _ _ M)) (fun M2 h2 => ?_)))
    obtain ⟨⟨a1, _⟩, g⟩ := h2
    have hg2 := k_g_fr hg (M' := M2) (fun i j q => g.1 i j (by unfold w_60; omega))
    have hM2 : k_M C C0 C1 M2 := k_M_fr2 hM ⟨fun i j q => g.1 i j (by unfold w_60; omega), fun i j q => g.2 i j (by unfold w_66; omega)⟩ (fun i j q => g.2 i j (by unfold w_66; omega))
    refine q_ob (q_mono (q_TH (a_purse (l := 1) hn hV hd k1 k2 hg2 (by omega) hY1) (g_X8_askOf n _ _ _ M2)) (fun M3 h3 => ?_))
    obtain ⟨⟨b1, _⟩, g'⟩ := h3
    have hg3 := k_g_fr hg2 (M' := M3) (fun i j q => g'.1 i j (by unfold w_60; omega))
    have hM3 : k_M C C0 C1 M3 := k_M_fr2 hM2 ⟨fun i j q => g'.1 i j (by unfold w_60; omega), fun i j q => g'.2 i j (by unfold w_66; omega)⟩ (fun i j q => g'.2 i j (by unfold w_66; omega))
    have p0 := x_puN hV (h_sb so) hK k1 k2 day (h_a (k_r C) k) (x_nn (h_S (k_r C) (h_sb so) K).1 (k_P C) gn fl val (h_a (k_r C) k) ((h_S (k_r C) (h_sb so) K).1 4 (h_a (k_r C) k) - (h_S (k_r C) (h_sb so) k).1 4 (h_a (k_r C) k)))
    have p1 := x_puN hV (h_sb so) hK k1 k2 day (h_a (k_r C) k) (x_nn (h_S (k_r C) (h_sb so) K).1 (k_P C) gn fl1 val1 (h_a (k_r C) k) ((h_S (k_r C) (h_sb so) K).1 4 (h_a (k_r C) k) - (h_S (k_r C) (h_sb so) k).1 4 (h_a (k_r C) k)))
    rw [a1, b1, y_fst]
    rw [v_pu_e hV (h_sb so) hK k1 k2] at p0 p1 ⊢
    rw [v_pu_e hV (h_sb so) hK k1 k2]
    by_cases c : v_pu (h_S (k_r C) (h_sb so) K).1 day (k_P C) gn fl val (h_D (k_r C) k) = v_pu (h_S (k_r C) (h_sb so) K).1 day (k_P C) gn fl1 val1 (h_D (k_r C) k)
    · refine q_it (by rw [c]) ?_
      rw [if_neg (by rw [decide_eq_true_iff]; exact fun q => q c), q_up]
      exact ih (h_D (k_r C) k + 1) u M3 (by omega) (by omega) hg3 hM3
    · refine q_if (fun q => c ((pk_lEQ (by omega) (by omega)).mp q).symm) (q_some ⟨?_, hM3⟩)
      rw [if_pos (by rw [decide_eq_true_iff]; exact c)]
theorem z_parted {n : Nat} {x1 : Int32} {M : m_M} (hn : 200 < n) (h : k_Inv M) : q_T (f_X7_parted n x1 M) (fun a => z_eq a (f_X8_parted n x1 a.2)) := by
  obtain ⟨C, C0, C1, hM⟩ := h
  obtain ⟨⟨hV, hA, hE⟩, hI⟩ := id hM
  unfold f_X7_parted
  refine q_bd ?_
  rw [e_day7]
  rcases e_in_of (x := x1) (n := 1000) (by omega) with ⟨e2, _⟩ | ⟨e2, dy, hdy, rfl⟩
  · refine q_it e2 (q_some ?_)
    unfold z_eq f_X8_parted
    refine q_bd ?_
    rw [e_day8]
    exact q_it e2 (q_some ⟨rfl, C, C0, C1, hM⟩)
  refine q_if (by rw [e2]; decide) ?_
  obtain ⟨K, hK⟩ := k_isday hV (nI dy)
  obtain ⟨fl, val, y1, y2⟩ := k_law hA (l := 0) (by omega)
  obtain ⟨fl1, val1, v1, v2⟩ := k_law hA (l := 1) (by omega)
  have hDK := k_D60 hV hK.1
  refine q_ob (q_mono (k_reck (n := n) (ns := 0) hn (n_of hM) y1 hK) (fun M1 h1 => ?_))
  obtain ⟨hH, hM1n, hY1, hL1⟩ := h1
  have hM1 : k_M C C0 C1 M1 := n_to hM1n ⟨by rw [hL1 0 8 (by omega) (by omega) (by omega), hL1 172 5 (by omega) (by omega) (by omega)]; exact hM.2.2.2.1, by rw [hL1 0 9 (by omega) (by omega) (by omega), hL1 172 6 (by omega) (by omega) (by omega)]; exact hM.2.2.2.2⟩
  refine q_mono (b_par (n := n) (x1 := nI dy) (fl := fl) (val := val) (fl1 := fl1) (val1 := val1) hn hV hK.1 (h_D (k_r C) K) 0 n M1 (by omega) (by omega) hH (hY1 0 fl val (by omega) y1) (hY1 1 fl1 val1 (by omega) v1)) (fun a ha => ?_)
  obtain ⟨a1, a2, a3⟩ := ha
  have hM2 : k_M C C0 C1 a.2 := k_M_fr2 hM1 ⟨fun i j _ => a2 i j, fun i j q => a3 i j (by unfold w_15; omega)⟩ (fun i j q => a3 i j (by unfold w_15; omega))
  unfold z_eq f_X8_parted
  refine q_bd ?_
  rw [e_day8]
  refine q_if (by rw [e2]; decide) (q_ob (q_mono (n_today (n := n) hn (n_of hM2) y2 hK) (fun M4 h4 => ?_)))
  obtain ⟨c1, c2, c3⟩ := h4
  have c2' : k_M C C0 C1 M4 := n_to c2 ⟨by rw [c3 0 8 (by unfold w_61; omega), c3 172 5 (by unfold w_61; omega)]; exact hM2.2.2.2.1, by rw [c3 0 9 (by unfold w_61; omega), c3 172 6 (by unfold w_61; omega)]; exact hM2.2.2.2.2⟩
  refine q_mono (a_par (n := n) (x1 := nI dy) (fl := fl) (val := val) (fl1 := fl1) (val1 := val1) hn hV hK y2 v2 (h_D (k_r C) K) 0 n M4 (by omega) (by omega) c1 c2') (fun b hb => ⟨?_, C, C0, C1, hb.2⟩)
  rw [a1, hb.1, k_sb31 hV hK.1, k_ns0 hV hK.1]
/-! wise -/
theorem x_all4 {C : k_C} (hV : k_V C) (so : Nat → Bool) {K : Nat} (hK : K ≤ k_N C) (p : Nat) : ∃ w, w ≤ 240000 ∧ e_all (h_S (k_r C) so K).1 p = nI w := by
  obtain ⟨w0, a0, b0⟩ := k_pt hV so hK p 0
  obtain ⟨w1, a1, b1⟩ := k_pt hV so hK p 1
  obtain ⟨w2, a2, b2⟩ := k_pt hV so hK p 2
  obtain ⟨w3, a3, b3⟩ := k_pt hV so hK p 3
  refine ⟨w0 + w1 + w2 + w3, by omega, ?_⟩
  unfold e_all
  rw [b0, b1, b2, b3, q_add, q_add, q_add]
def x_ws (S : Nat → Nat → Int32) (P : Nat) (gn : Nat → Int32) (fl : Int32) (val : (Nat → Int64) → Int64) (a m : Nat) : Int32 := e_net fl val (e_all S a + nI m).toInt64 (e_sec S gn a P).toInt64 (e_o S a).toInt64 (e_wf S a P).toInt64 0
theorem b_wise {n : Nat} {C : k_C} {so : Nat → Bool} {day x2 x3 : Int32} {K p : Nat} {gn : Nat → Int32} {fl : Int32} {val : (Nat → Int64) → Int64} (hn : 200 < n) (hV : k_V C) (hK : K ≤ k_N C) (hp : p < k_P C) : ∀ (e x u : Nat) (M : m_M), x + e = 2001 → e < u → k_H C (h_S (k_r C) so K).1 day K gn M → k_YC 5 M fl val → q_T (f_X7_wise_b41 n (nI p) x2 x3 u (nI x) M) (fun a => a.1 = y_fst (fun m => decide (¬ x_ws (h_S (k_r C) so K).1 (k_P C) gn fl val p m < x2)) e x ∧ (∀ i j, a.2.1 i j = M.1 i j) ∧ ∀ i j, ¬ w_15 i j → a.2.2 i j = M.2 i j) := by
  obtain ⟨w, w1, w2⟩ := x_all4 hV so hK p
  intro e
  induction e with
  | zero =>
    intro x u M hx hu hH hY
    obtain ⟨u, rfl⟩ : ∃ v, u = v + 1 := ⟨u - 1, by omega⟩
    have l : (2000 : Int32) < nI x := (q_lt (a := 2000) (by decide) (by omega)).mpr (by omega)
    rw [f_X7_wise_b41]
    exact q_it l (q_some ⟨rfl, fun _ _ => rfl, fun _ _ _ => rfl⟩)
  | succ e ih =>
    intro x u M hx hu hH hY
    obtain ⟨u, rfl⟩ : ∃ v, u = v + 1 := ⟨u - 1, by omega⟩
    have l : ¬ (2000 : Int32) < nI x := fun q => absurd ((q_lt (a := 2000) (by decide) (by omega)).mp q) (by omega)
    rw [f_X7_wise_b41]
    refine q_if l (q_o2 (q_mono (q_TH (e_netC (n := n) (l := 0) (by omega) hH.1.1 hH.2.1 hV.1.1 hp (by omega) (k_ac hV so hK).1 hY 0 (nI x).toInt64) (g_X1_netOf n _ _ _ _ M)) (fun a ha => ?_)))
    obtain ⟨a1, g⟩ := ha
    have ga : ∀ i j, a.2.1 i j = M.1 i j := fun i j => g.1 i j (by unfold w_1; omega)
    have ea : a.1 = x_ws (h_S (k_r C) so K).1 (k_P C) gn fl val p x := by
      rw [a1, hH.2.2 p hp]
      unfold x_ws
      rw [w2, q_add, nI_l (by omega), nI_l (by omega), nI_l (by omega), lN_add]
    rw [ea, y_fst]
    by_cases c : x_ws (h_S (k_r C) so K).1 (k_P C) gn fl val p x < x2
    · refine q_it c ?_
      rw [if_neg (by rw [decide_eq_true_iff]; exact fun q => q c), q_up]
      exact q_mono (ih (x + 1) u a.2 (by omega) (by omega) (k_H_e hH ga) (e_YC_fr hY (fun j => ga _ _) (fun j => ga _ _) (fun j => g.2 _ _ (by unfold w_15; omega)))) (fun r hr => ⟨hr.1, fun i j => (hr.2.1 i j).trans (ga i j), fun i j q => (hr.2.2 i j q).trans (g.2 i j q)⟩)
    · refine q_if c (q_some ⟨?_, ga, g.2⟩)
      rw [if_pos (by rw [decide_eq_true_iff]; exact c)]
theorem a_wise {n : Nat} {C C0 C1 : k_C} {so day x2 x3 : Int32} {K p : Nat} {gn : Nat → Int32} {fl : Int32} {val : (Nat → Int64) → Int64} (hn : 200 < n) (hV : k_V C) (hK : K ≤ k_N C) (hp : p < k_P C) (hY : k_YR (k_t C 0) (k_x C 0) fl val) : ∀ (e x u : Nat) (M : m_M), x + e = 2001 → e < u → k_g C so day K gn M → k_M C C0 C1 M → q_T (f_X8_wise_b38 n (nI p) x2 x3 u (nI x) M) (fun a => a.1 = y_fst (fun m => decide (¬ x_ws (h_S (k_r C) (h_sb so) K).1 (k_P C) gn fl val p m < x2)) e x ∧ k_M C C0 C1 a.2) := by
  intro e
  induction e with
  | zero =>
    intro x u M hx hu hg hM
    obtain ⟨u, rfl⟩ : ∃ v, u = v + 1 := ⟨u - 1, by omega⟩
    have l : (2000 : Int32) < nI x := (q_lt (a := 2000) (by decide) (by omega)).mpr (by omega)
    rw [f_X8_wise_b38]
    exact q_it l (q_some ⟨rfl, hM⟩)
  | succ e ih =>
    intro x u M hx hu hg hM
    obtain ⟨u, rfl⟩ : ∃ v, u = v + 1 := ⟨u - 1, by omega⟩
    have l : ¬ (2000 : Int32) < nI x := fun q => absurd ((q_lt (a := 2000) (by decide) (by omega)).mp q) (by omega)
    rw [f_X8_wise_b38]
    refine q_if l (q_o2 (q_mono (q_TH (e_netQ (n := n) (l := 0) hn (k_EG hg.1.1.1 hg.1.2) hV.1.1 hp (by omega) (k_ac hV (h_sb so) hK).1 hY hg.2 (nI x) 0) (g_X8_netOf n _ _ _ _ M)) (fun a ha => ?_)))
    obtain ⟨a1, g⟩ := ha
    have hg2 := k_g_fr hg (M' := a.2) (fun i j q => g.1 i j (by unfold w_60; omega))
    have hM2 : k_M C C0 C1 a.2 := k_M_fr2 hM ⟨fun i j q => g.1 i j (by unfold w_60; omega), fun i j q => g.2 i j (by unfold w_61; omega)⟩ (fun i j q => g.2 i j (by unfold w_61; omega))
    have ea : a.1 = x_ws (h_S (k_r C) (h_sb so) K).1 (k_P C) gn fl val p x := a1
    rw [ea, y_fst]
    by_cases c : x_ws (h_S (k_r C) (h_sb so) K).1 (k_P C) gn fl val p x < x2
    · refine q_it c ?_
      rw [if_neg (by rw [decide_eq_true_iff]; exact fun q => q c), q_up]
      exact ih (x + 1) u a.2 (by omega) (by omega) hg2 hM2
    · refine q_if c (q_some ⟨?_, hM2⟩)
      rw [if_pos (by rw [decide_eq_true_iff]; exact c)]
theorem e_rg {x lo hi : Int32} {a b : Int64} (ha : lo.toInt64 = a) (hb : hi.toInt64 = b) : f_X8_isIn x.toInt64 a b = if x < lo then 0 else if hi < x then 0 else 1 := by
  subst ha hb
  unfold f_X8_isIn
  have h1 : x.toInt64 < lo.toInt64 ↔ x < lo := by rw [Int64.lt_iff_toInt_lt, Int32.lt_iff_toInt_lt, Int32.toInt_toInt64, Int32.toInt_toInt64]
  have h2 : hi.toInt64 < x.toInt64 ↔ hi < x := by rw [Int64.lt_iff_toInt_lt, Int32.lt_iff_toInt_lt, Int32.toInt_toInt64, Int32.toInt_toInt64]
  by_cases c1 : x < lo
  · rw [if_pos (h1.mpr c1), if_pos c1]
  · rw [if_neg (fun q => c1 (h1.mp q)), if_neg c1]
    by_cases c2 : hi < x
    · rw [if_pos (h2.mpr c2), if_pos c2]
    · rw [if_neg (fun q => c2 (h2.mp q)), if_neg c2]
theorem z_wise {n : Nat} {x1 x2 x3 : Int32} {M : m_M} (hn : 3000 < n) (h : k_Inv M) : q_T (f_X7_wise n x1 x2 x3 M) (fun a => z_eq a (f_X8_wise n x1 x2 x3 a.2)) := by
  obtain ⟨C, C0, C1, hM⟩ := h
  obtain ⟨⟨hV, hA, hE⟩, hI⟩ := id hM
  have hP : k_P C ≤ 10 := hV.1.1
  have e8 : f_X8_isIn x2.toInt64 1 1000000 = if x2 < 1 then 0 else if (1000000 : Int32) < x2 then 0 else 1 := e_rg (by decide +kernel) (by decide +kernel)
  have ref : e_in x1 (k_P C) = 0 ∨ x2 < 1 ∨ (1000000 : Int32) < x2 ∨ e_in x3 1000 = 0 → z_eq (-10, M) (f_X8_wise n x1 x2 x3 M) := by
    intro hc
    unfold z_eq f_X8_wise
    refine q_bd ?_
    rw [e_per8 (by omega) hE.1]
    refine q_ite (fun _ => q_some ⟨rfl, C, C0, C1, hM⟩) (fun c1 => q_bd ?_)
    rw [e8]
    refine q_ite (fun _ => q_some ⟨rfl, C, C0, C1, hM⟩) (fun c2 => q_bd ?_)
    rw [e_day8]
    refine q_it ?_ (q_some ⟨rfl, C, C0, C1, hM⟩)
    rcases hc with q | q | q | q
    · exact absurd q c1
    · rw [if_pos q] at c2
      exact absurd rfl c2
    · rw [if_pos q, ite_self] at c2
      exact absurd rfl c2
    · exact q
  unfold f_X7_wise
  refine q_bd ?_
  rw [e_per7 hA.1]
  rcases e_in_of (x := x1) (n := k_P C) (by omega) with ⟨e1, _⟩ | ⟨e1, p, hp, rfl⟩
  · exact q_it e1 (q_some (ref (Or.inl e1)))
  refine q_if (by rw [e1]; decide) (q_ite (fun c => q_some (ref (Or.inr (Or.inl c)))) (fun c1 => q_ite (fun c => q_some (ref (Or.inr (Or.inr (Or.inl c))))) (fun c2 => q_bd ?_)))
  rw [e_day7]
  rcases e_in_of (x := x3) (n := 1000) (by omega) with ⟨e2, _⟩ | ⟨e2, dy, hdy, rfl⟩
  · exact q_it e2 (q_some (ref (Or.inr (Or.inr (Or.inr e2)))))
  refine q_if (by rw [e2]; decide) ?_
  obtain ⟨K, hK⟩ := k_isday hV (nI dy)
  obtain ⟨fl, val, y1, y2⟩ := k_law hA (l := 0) (by omega)
  refine q_ob (q_mono (k_reck (n := n) (ns := 0) (by omega) (n_of hM) y1 hK) (fun M1 h1 => ?_))
  obtain ⟨hH, hM1n, hY1, hL1⟩ := h1
  have hM1 : k_M C C0 C1 M1 := n_to hM1n ⟨by rw [hL1 0 8 (by omega) (by omega) (by omega), hL1 172 5 (by omega) (by omega) (by omega)]; exact hM.2.2.2.1, by rw [hL1 0 9 (by omega) (by omega) (by omega), hL1 172 6 (by omega) (by omega) (by omega)]; exact hM.2.2.2.2⟩
  refine q_mono (b_wise (n := n) (x2 := x2) (x3 := nI dy) (fl := fl) (val := val) (by omega) hV hK.1 hp 2001 0 n M1 (by omega) (by omega) hH (hY1 0 fl val (by omega) y1)) (fun a ha => ?_)
  obtain ⟨a1, a2, a3⟩ := ha
  have hM2 : k_M C C0 C1 a.2 := k_M_fr2 hM1 ⟨fun i j _ => a2 i j, fun i j q => a3 i j (by unfold w_15; omega)⟩ (fun i j q => a3 i j (by unfold w_15; omega))
  unfold z_eq f_X8_wise
  refine q_bd ?_
  rw [e_per8 (P := k_P C) (by omega) hM2.1.2.2.1]
  refine q_if (by rw [e1]; decide) (q_bd ?_)
  rw [e8, if_neg c1, if_neg c2]
  refine q_if (by decide) (q_bd ?_)
  rw [e_day8]
  refine q_if (by rw [e2]; decide) (q_ob (q_mono (n_today (n := n) (by omega) (n_of hM2) y2 hK) (fun M4 h4 => ?_)))
  obtain ⟨c1', c2', c3⟩ := h4
  have c4 : k_M C C0 C1 M4 := n_to c2' ⟨by rw [c3 0 8 (by unfold w_61; omega), c3 172 5 (by unfold w_61; omega)]; exact hM2.2.2.2.1, by rw [c3 0 9 (by unfold w_61; omega), c3 172 6 (by unfold w_61; omega)]; exact hM2.2.2.2.2⟩
  refine q_mono (a_wise (n := n) (x2 := x2) (x3 := nI dy) (fl := fl) (val := val) (by omega) hV hK.1 hp y2 2001 0 n M4 (by omega) (by omega) c1' c4) (fun b hb => ⟨?_, C, C0, C1, hb.2⟩)
  rw [a1, hb.1, k_sb31 hV hK.1, k_ns0 hV hK.1]
