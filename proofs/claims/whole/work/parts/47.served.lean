/-! SERVED: the reference -/
theorem a_laid {C : k_C} {so day : Int32} {K k : Nat} {M : m_M} (hV : k_V C) (hG : k_G C so day K M) (hd : h_day (k_r C) (k_N C) day K) (hk : k < k_N C) (h4 : h_kd (k_r C) k = 4) : f_X8_isLaid (nI (h_D (k_r C) k)) M = some (l_b (decide (k < K))) := by
  obtain ⟨d1, d2, d3, d4, d5, d6⟩ := a_dl hV hk h4
  have h26 : M.1 172 26 = day := hG.1.2.2.2.1.2
  unfold f_X8_isLaid m_gd
  rw [if_pos (q_in d6 (by decide)), q_cl (by omega), hG.1.2.2.2.2.1 k hk h4]
  have h := k_row_of (j := 0) hV hG.2 hk (by omega)
  rw [Nat.add_zero] at h
  have h' : f_X8_of (nI k) 0 M = some (k_r C (6 * k)) := h
  rw [h']
  show (if M.1 172 26 < k_r C (6 * k) then some 0 else some 1) = _
  rw [h26]
  by_cases c : k < K
  · rw [if_neg (Int32.not_lt.mpr (hd.2.1 k c)), decide_eq_true c]
    rfl
  · rw [if_pos (hd.2.2 k (by omega) hk), decide_eq_false c]
    rfl
theorem l_cell {C : k_C} {kr : Nat → Nat} {M : m_M} (hE : k_E C 173 0 M) (hkr : l_kr C kr) {i : Nat} (hi : i < k_n C) : M.1 173 (462 + i) = nI (h_D (k_r C) (kr i)) := by
  have := hE.2.2.2.2.1 i hi
  rw [Nat.zero_add] at this
  rw [this, (hkr i hi).2.2]
theorem q_462 (x : Nat) : (462 : Int32) + nI x = nI (462 + x) := q_add 462 x
def l_Q1 (L : l_L) (i : Nat) (M : m_M) : Prop := M.1 196 i = nI (l_dp L i) ∧ ∃ v, v ≤ 1000 ∧ M.1 197 i = nI v ∧ ∀ g, min v (l_dp L i - g) = l_tk L i g
theorem a_b99 {n x : Nat} {x1 s2 : Int32} {q : Int32 → m_M → Option m_M} {M : m_M} {Q : m_M → Prop} (hx : x < 6) (h : q_T (q (nI (x + 1)) (m_sI (m_sI M 197 x s2) 199 x (nI x))) Q) : q_T (f_X8_layLine_b99 n x1 q (nI x) (nI x) s2 M) Q := by
  unfold f_X8_layLine_b99
  refine q_gd (q_in hx (by decide)) (q_bd (q_gd (q_in hx (by decide)) (q_bd ?_)))
  rw [q_cl (by omega), q_up]
  exact h
theorem a_ll7 {n : Nat} {C : k_C} {day x1 : Int32} {K : Nat} {kr : Nat → Nat} {fl : Int32} {val : (Nat → Int64) → Int64} (hn : 200 < n) (hV : k_V C) (hd : h_day (k_r C) (k_N C) day K) (hkr : l_kr C kr) (hY : k_YR (k_t C 0) (k_x C 0) fl val) : ∀ (e x u : Nat) (M : m_M), x + e = k_n C → e < u → k_g C 31 day K (k_gn C (h_S (k_r C) h_all K).1 fl val) M → (∀ j, j < x → l_Q1 (l_mk C day K kr fl val) j M ∧ M.1 199 j = nI j) → q_T (f_X8_layLine_b7 n x1 u (nI x) M) (fun M' => k_g C 31 day K (k_gn C (h_S (k_r C) h_all K).1 fl val) M' ∧ ∀ j, j < k_n C → l_Q1 (l_mk C day K kr fl val) j M' ∧ M'.1 199 j = nI j) := by
  have hK := hd.1
  have hn6 : k_n C ≤ 6 := hV.1.2.2.1
  intro e
  induction e with
  | zero =>
    intro x u M hx hu hg hj
    obtain ⟨u, rfl⟩ : ∃ v, u = v + 1 := ⟨u - 1, by omega⟩
    have h4 : M.1 173 470 = nI (k_n C) := hg.1.2.2.2.1
    rw [f_X8_layLine_b7]
    unfold f_X8_lined
    refine q_bd ?_
    rw [h4]
    exact q_it ((q_le (by omega) (by omega)).mpr (by omega)) (q_some ⟨hg, fun j q => hj j (by omega)⟩)
  | succ e ih =>
    intro x u M hx hu hg hj
    obtain ⟨u, rfl⟩ : ∃ v, u = v + 1 := ⟨u - 1, by omega⟩
    have h4 : M.1 173 470 = nI (k_n C) := hg.1.2.2.2.1
    obtain ⟨k1, k2, k3⟩ := hkr x (by omega)
    obtain ⟨d1, d2, d3, d4, d5, d6⟩ := a_dl hV k1 k2
    rw [f_X8_layLine_b7]
    unfold f_X8_lined
    refine q_bd ?_
    rw [h4, q_462]
    refine q_if (fun q => absurd ((q_le (by omega) (by omega)).mp q) (by omega)) (q_gd (q_in (by omega) (by decide)) (q_bd ?_))
    rw [q_cl (by omega), l_cell hg.1.2 hkr (show x < k_n C by omega)]
    -- what goes on behind
    have go : ∀ (M3 : m_M) (v : Nat), v ≤ 1000 → (∀ a b, a = 173 ∨ (177 ≤ a ∧ a ≤ 191) ∨ a = 195 ∨ (a = 172 ∧ 22 ≤ b ∧ b ≤ 26) → M3.1 a b = M.1 a b) → (∀ a b, b < x → (a = 196 ∨ a = 197 ∨ a = 199) → M3.1 a b = M.1 a b) → M3.1 196 x = nI (l_dp (l_mk C day K kr fl val) x) → (∀ g, min v (l_dp (l_mk C day K kr fl val) x - g) = l_tk (l_mk C day K kr fl val) x g) → q_T (f_X8_layLine_b99 n x1 (f_X8_layLine_b7 n x1 u) (nI x) (nI x) (nI v) M3) (fun M' => k_g C 31 day K (k_gn C (h_S (k_r C) h_all K).1 fl val) M' ∧ ∀ j, j < k_n C → l_Q1 (l_mk C day K kr fl val) j M' ∧ M'.1 199 j = nI j) := by
      intro M3 v hv e1 e2 e3 e4
      refine a_b99 (by omega) (ih (x + 1) u _ (by omega) (by omega) (k_g_fr hg (fun a b q => by rw [q_r, if_neg (by omega), q_r, if_neg (by omega), e1 a b q])) (fun j q => ?_))
      by_cases z : j = x
      · subst z
        refine ⟨⟨?_, v, hv, ?_, e4⟩, ?_⟩
        · rw [q_r, if_neg (by omega), q_r, if_neg (by omega), e3]
        · rw [q_r, if_neg (by omega), q_r, if_pos ⟨rfl, rfl⟩]
        · rw [q_r, if_pos ⟨rfl, rfl⟩]
      · obtain ⟨⟨p1, v', p2, p3, p4⟩, p5⟩ := hj j (by omega)
        refine ⟨⟨?_, v', p2, ?_, p4⟩, ?_⟩
        · rw [q_r, if_neg (by omega), q_r, if_neg (by omega), e2 _ _ (by omega) (by omega), p1]
        · rw [q_r, if_neg (by omega), q_r, if_neg (by omega), e2 _ _ (by omega) (by omega), p3]
        · rw [q_r, if_neg (by omega), q_r, if_neg (by omega), e2 _ _ (by omega) (by omega), p5]
    have zero : l_dp (l_mk C day K kr fl val) x = 0 → q_T (f_X8_layLine_b47 n x1 (f_X8_layLine_b7 n x1 u) (nI x) (nI (h_D (k_r C) (kr x))) 0 M) (fun M' => k_g C 31 day K (k_gn C (h_S (k_r C) h_all K).1 fl val) M' ∧ ∀ j, j < k_n C → l_Q1 (l_mk C day K kr fl val) j M' ∧ M'.1 199 j = nI j) := by
      intro hz
      unfold f_X8_layLine_b47
      refine q_it rfl ?_
      unfold f_X8_layLine_b79
      refine q_gd (q_in (by omega) (by decide)) (q_bd (q_it rfl ?_))
      rw [q_cl (by omega)]
      refine go _ 0 (by omega) (fun a b q => by rw [q_r, if_neg (by omega)]) (fun a b q _ => by rw [q_r, if_neg (by omega)]) (by rw [q_r, if_pos ⟨rfl, rfl⟩, hz]; rfl) (fun g => ?_)
      unfold l_tk
      rw [hz, Nat.zero_sub, Nat.zero_min, Nat.min_zero]
    refine q_ob (q_of (a_laid hV hg.1 hd k1 k2) ?_)
    by_cases c : kr x < K
    · rw [decide_eq_true c]
      refine q_if (by decide) (q_ob (q_of (a_open hV hg.1 k1 k2) ?_))
      rw [k_sb31 hV hK]
      by_cases co : e_op (h_S (k_r C) h_all K).1 day (h_a (k_r C) (kr x)) = 0
      · exact q_it co (zero (if_neg (fun w => w.2 co)))
      · refine q_if co ?_
        have hdp : l_dp (l_mk C day K kr fl val) x = y_net C h_all K (kr x) fl val fl val := if_pos ⟨c, co⟩
        have how : l_ow (l_mk C day K kr fl val) x = e_lf (h_S (k_r C) h_all K).1 (h_D (k_r C) (kr x)) := if_pos c
        have hlf := (k_lf hV h_all hK c k2).2
        unfold f_X8_layLine_b47
        refine q_if (by decide) (q_ob (q_of (a_man hV hg.1 k1 k2) (q_ob (q_of (a_hid hn hV hg.1 hd c k2) ?_))))
        rw [k_sb31 hV hK, k_sb31 hV (show kr x ≤ k_N C by omega)]
        have hn1 := a_net (l := 0) hn hV hK hg (by omega) hY d2 ((h_S (k_r C) h_all K).1 4 (h_a (k_r C) (kr x)) - (h_S (k_r C) h_all (kr x)).1 4 (h_a (k_r C) (kr x)))
        rw [k_sb31 hV hK] at hn1
        refine q_o2 (q_mono (q_TH hn1 (g_X8_netOf n _ _ _ _ M)) (fun a ha => ?_))
        obtain ⟨a1, g⟩ := ha
        have hg2 := k_g_fr hg (M' := a.2) (fun i j q => g.1 i j (by unfold w_60; omega))
        rw [a1]
        unfold f_X8_layLine_b79
        refine q_gd (q_in (by omega) (by decide)) (q_bd (q_if (by decide) ?_))
        rw [q_cl (by omega)]
        have hg3 := k_g_fr hg2 (M' := m_sI a.2 196 x (nI (x_nn (h_S (k_r C) h_all K).1 (k_P C) (k_gn C (h_S (k_r C) h_all K).1 fl val) fl val (h_a (k_r C) (kr x)) ((h_S (k_r C) h_all K).1 4 (h_a (k_r C) (kr x)) - (h_S (k_r C) h_all (kr x)).1 4 (h_a (k_r C) (kr x)))))) (fun i j q => by rw [q_r, if_neg (by omega)])
        refine q_ob (q_of (a_owed hV hg3.1 hK c k2) ?_)
        rw [k_sb31 hV hK]
        refine go _ _ hlf (fun a' b q => by rw [q_r, if_neg (by omega)]; exact g.1 a' b (by unfold w_60; omega)) (fun a' b q w => by rw [q_r, if_neg (by omega)]; exact g.1 a' b (by unfold w_60; omega)) (by rw [q_r, if_pos ⟨rfl, rfl⟩, hdp]; rfl) (fun g => ?_)
        unfold l_tk
        rw [how]
    · rw [decide_eq_false c]
      exact q_it rfl (zero (if_neg (fun w => c w.1)))
theorem a_layLine {n K : Nat} {C C0 C1 : k_C} {M : m_M} {day fl : Int32} {val : (Nat → Int64) → Int64} {kr : Nat → Nat} (hn : 200 < n) (hM : k_M C C0 C1 M) (hY : k_YR (k_t C 0) (k_x C 0) fl val) (hkr : l_kr C kr) (hd : h_day (k_r C) (k_N C) day K) : q_T (f_X8_layLine n day M) (fun M' => (k_g C 31 day K (k_gn C (h_S (k_r C) h_all K).1 fl val) M' ∧ ∀ j, j < k_n C → l_Q1 (l_mk C day K kr fl val) j M' ∧ M'.1 199 j = nI j) ∧ k_M C C0 C1 M') := by
  have hV := hM.1.1
  have hn6 : k_n C ≤ 6 := hV.1.2.2.1
  refine q_mono (q_TH (P := fun M' => k_g C 31 day K (k_gn C (h_S (k_r C) h_all K).1 fl val) M' ∧ ∀ j, j < k_n C → l_Q1 (l_mk C day K kr fl val) j M' ∧ M'.1 199 j = nI j) ?_ (g_X8_layLine n day M)) (fun M' h => ⟨h.1, k_M_fr2 hM ⟨fun i j q => h.2.1 i j (by unfold w_74; omega), fun i j q => h.2.2 i j (by unfold w_61; omega)⟩ (fun i j q => h.2.2 i j (by unfold w_61; omega))⟩)
  unfold f_X8_layLine
  refine q_ob (q_mono (n_today (n := n) hn (n_of hM) hY hd) (fun M1 h1 => ?_))
  obtain ⟨hg, _, _⟩ := h1
  rw [k_sb31 hV hd.1] at hg
  exact a_ll7 (n := n) (fl := fl) (val := val) hn hV hd hkr hY (k_n C) 0 n M1 (by omega) (by omega) hg (fun j q => absurd q (Nat.not_lt_zero _))
/-- the reference's line, laid -/
def l_R (C : k_C) (day : Int32) (K : Nat) (kr : Nat → Nat) (L : l_L) (M : m_M) : Prop := k_G C 31 day K M ∧ ∀ i, i < l_n L → l_Q1 L i M
theorem l_R_fr {C : k_C} {day : Int32} {K : Nat} {kr : Nat → Nat} {L : l_L} {M M' : m_M} (h : l_R C day K kr L M) (e : ∀ i j, i = 173 ∨ (177 ≤ i ∧ i ≤ 191) ∨ i = 196 ∨ i = 197 ∨ (i = 172 ∧ 22 ≤ j ∧ j ≤ 26) → M'.1 i j = M.1 i j) : l_R C day K kr L M' := by
  obtain ⟨⟨a, b⟩, c⟩ := h
  refine ⟨⟨h_L_fr a (fun i j q => e i j (by omega)), ?_⟩, fun i hi => ?_⟩
  · obtain ⟨h0, h1, h2, h5, h6, h7⟩ := b
    exact ⟨(e _ _ (by omega)).trans h0, (e _ _ (by omega)).trans h1, (e _ _ (by omega)).trans h2, fun j hj => (e _ _ (by omega)).trans (h5 j hj), fun j hj => (e _ _ (by omega)).trans (h6 j hj), fun l hl => ⟨(e _ _ (by omega)).trans (h7 l hl).1, fun j hj => (e _ _ (by omega)).trans ((h7 l hl).2 j hj)⟩⟩
  · obtain ⟨p1, v, p2, p3, p4⟩ := c i hi
    exact ⟨(e _ _ (by omega)).trans p1, v, p2, (e _ _ (by omega)).trans p3, p4⟩
theorem a_so83 {n : Nat} {C : k_C} {day x2 : Int32} {K p : Nat} {f : Nat → Bool} {M : m_M} (hV : k_V C) (hK : K ≤ k_N C) (hG : k_G C 31 day K M) (hp : p < 10) : f_X8_sharedOf_b83 n (nI p) x2 M (n + 5) (y_nf f) 0 0 = some (nI (l_s4 f (x_pt (h_S (k_r C) h_all K).1 p))) := by
  have st : ∀ (u t a : Nat), t < 4 → f_X8_sharedOf_b83 n (nI p) x2 M (u + 1) (y_nf f) (nI a) (nI t) = f_X8_sharedOf_b83 n (nI p) x2 M u (y_nf f) (nI (a + if f t then x_pt (h_S (k_r C) h_all K).1 p t else 0)) (nI (t + 1)) := by
    intro u t a ht
    have l4 : ¬ (4 : Int32) ≤ nI t := fun q => absurd ((q_le (a := 4) (by decide) (by omega)).mp q) (by omega)
    have hpt := x_ptN hV h_all hK p t
    have hq : M.1 181 (4 * p + t) = nI (x_pt (h_S (k_r C) h_all K).1 p t) := by
      have := e_Q5 hG.1.1 (x := 4 * p + t) (by omega)
      rw [k_sb31 hV hK] at this
      exact this.trans hpt.1
    rw [f_X8_sharedOf_b83, if_neg l4, q_x4, q_add]
    unfold m_gd m_bd
    rw [if_pos (q_in (by omega) (by decide)), q_cl (by omega), hq, l_nfb f ht, q_up]
    have e : nI a + l_b (f t) * nI (x_pt (h_S (k_r C) h_all K).1 p t) = nI (a + if f t then x_pt (h_S (k_r C) h_all K).1 p t else 0) := by
      cases f t with
      | true =>
        show nI a + (nI 1) * _ = nI (a + _)
        rw [q_mul, Nat.one_mul, q_add]
        rfl
      | false =>
        show nI a + (nI 0) * _ = nI (a + 0)
        rw [q_mul, Nat.zero_mul, q_add]
    rw [e]
  have s0 : f_X8_sharedOf_b83 n (nI p) x2 M (n + 5) (y_nf f) 0 0 = _ := st (n + 4) 0 0 (by omega)
  rw [s0, st (n + 3) 1 _ (by omega), st (n + 2) 2 _ (by omega), st (n + 1) 3 _ (by omega), f_X8_sharedOf_b83, if_pos (by decide)]
  unfold l_s4
  rw [Nat.zero_add]
theorem a_so5 {n : Nat} {C : k_C} {day : Int32} {K p w : Nat} {kr : Nat → Nat} {fl : Int32} {val : (Nat → Int64) → Int64} {M : m_M} (hn : 200 < n) (hV : k_V C) (hd : h_day (k_r C) (k_N C) day K) (hkr : l_kr C kr) (hG : k_G C 31 day K M) (hp : p < 10) (hw : w < 64) : ∀ (e x u : Nat), x + e = k_n C → e < u → f_X8_sharedOf_b5 n (nI p) (nI w) M u (y_nf (l_st (l_mk C day K kr fl val) w p x)) (nI x) = some (nI (l_SP (l_mk C day K kr fl val) w p)) := by
  have hK := hd.1
  have hn6 : k_n C ≤ 6 := hV.1.2.2.1
  have h4 : M.1 173 470 = nI (k_n C) := hG.2.2.2.1
  intro e
  induction e with
  | zero =>
    intro x u hx hu
    obtain ⟨u, rfl⟩ : ∃ v, u = v + 1 := ⟨u - 1, by omega⟩
    rw [f_X8_sharedOf_b5]
    unfold f_X8_lined m_bd
    dsimp only
    rw [h4, if_pos ((q_le (by omega) (by omega)).mpr (by omega))]
    obtain ⟨m, hm⟩ : ∃ m, n = m + 5 := ⟨n - 5, by omega⟩
    have st : ∀ (u t a : Nat) (f : Nat → Bool), t < 4 → f_X8_sharedOf_b83 n (nI p) (nI w) M (u + 1) (y_nf f) (nI a) (nI t) = f_X8_sharedOf_b83 n (nI p) (nI w) M u (y_nf f) (nI (a + if f t then x_pt (h_S (k_r C) h_all K).1 p t else 0)) (nI (t + 1)) := by
      intro u t a f ht
      have l4 : ¬ (4 : Int32) ≤ nI t := fun q => absurd ((q_le (a := 4) (by decide) (by omega)).mp q) (by omega)
      have hpt := x_ptN hV h_all hK p t
      have hq : M.1 181 (4 * p + t) = nI (x_pt (h_S (k_r C) h_all K).1 p t) := by
        have := e_Q5 hG.1.1 (x := 4 * p + t) (by omega)
        rw [k_sb31 hV hK] at this
        exact this.trans hpt.1
      rw [f_X8_sharedOf_b83, if_neg l4, q_x4, q_add]
      unfold m_gd m_bd
      rw [if_pos (q_in (by omega) (by decide)), q_cl (by omega), hq, l_nfb f ht, q_up]
      have e : nI a + l_b (f t) * nI (x_pt (h_S (k_r C) h_all K).1 p t) = nI (a + if f t then x_pt (h_S (k_r C) h_all K).1 p t else 0) := by
        cases f t with
        | true =>
          show nI a + (nI 1) * _ = nI (a + _)
          rw [q_mul, Nat.one_mul, q_add]
          rfl
        | false =>
          show nI a + (nI 0) * _ = nI (a + 0)
          rw [q_mul, Nat.zero_mul, q_add]
      rw [e]
    have hx' : x = k_n C := by omega
    subst hx'
    have r1 := st (m + 4) 0 0 (l_st (l_mk C day K kr fl val) w p (k_n C)) (by omega)
    have r2 := st (m + 3) 1 (0 + if l_st (l_mk C day K kr fl val) w p (k_n C) 0 then x_pt (h_S (k_r C) h_all K).1 p 0 else 0) (l_st (l_mk C day K kr fl val) w p (k_n C)) (by omega)
    have e0 : f_X8_sharedOf_b83 n (nI p) (nI w) M n (y_nf (l_st (l_mk C day K kr fl val) w p (k_n C))) 0 0 = f_X8_sharedOf_b83 n (nI p) (nI w) M (m + 4 + 1) (y_nf (l_st (l_mk C day K kr fl val) w p (k_n C))) (nI 0) (nI 0) := by
      rw [← hm]
      rfl
    rw [e0, r1, r2, st (m + 2) 2 _ _ (by omega), st (m + 1) 3 _ _ (by omega), f_X8_sharedOf_b83, if_pos (by decide)]
    unfold l_SP l_s4
    rw [Nat.zero_add]
    rfl
  | succ e ih =>
    intro x u hx hu
    obtain ⟨u, rfl⟩ : ∃ v, u = v + 1 := ⟨u - 1, by omega⟩
    obtain ⟨k1, k2, k3⟩ := hkr x (by omega)
    obtain ⟨d1, d2, d3, d4, d5, d6⟩ := a_dl hV k1 k2
    have ih' := ih (x + 1) u (by omega) (by omega)
    rw [f_X8_sharedOf_b5]
    unfold f_X8_lined m_bd m_gd
    dsimp only
    rw [h4, if_neg (fun q => absurd ((q_le (by omega) (by omega)).mp q) (by omega)), q_462, if_pos (q_in (by omega) (by decide)), q_cl (by omega), l_cell hG.2 hkr (show x < k_n C by omega), l_bit w hw x (by omega), q_up, Int32.or_zero]
    have hla : l_la (l_mk C day K kr fl val) x = decide (kr x < K) := rfl
    have hmn : l_mn (l_mk C day K kr fl val) x = h_a (k_r C) (kr x) := rfl
    have htr : l_tr (l_mk C day K kr fl val) x = h_b (k_r C) (kr x) := rfl
    by_cases cb : w.testBit x = true
    · rw [if_pos ((l_b1 _).mpr cb), a_laid hV hG hd k1 k2]
      show (if l_b (decide (kr x < K)) = 0 then _ else _) = _
      by_cases cl : kr x < K
      · rw [if_neg (by rw [decide_eq_true cl]; decide), a_man hV hG k1 k2]
        show (if nI (h_a (k_r C) (kr x)) = nI p then _ else _) = _
        by_cases cm : h_a (k_r C) (kr x) = p
        · rw [if_pos (by rw [cm]), a_trade hV hG k1 k2]
          show f_X8_sharedOf_b5 n (nI p) (nI w) M u (y_nf (l_st (l_mk C day K kr fl val) w p x) ||| ((1 : Int32) <<< (nI (h_b (k_r C) (kr x)) &&& 31))) (nI (x + 1)) = _
          rw [y_nf_or _ (by omega)]
          rw [l_st_yes cb (by rw [hla]; exact decide_eq_true cl) (by rw [hmn]; exact cm)] at ih'
          exact ih'
        · rw [if_neg (fun q => cm ((nI_eq (by omega) (by have : p < 10 := hp; omega)).mp q))]
          rw [l_st_no (by rw [hmn, decide_eq_false cm, Bool.and_false])] at ih'
          exact ih'
      · rw [if_pos (by rw [decide_eq_false cl]; decide)]
        rw [l_st_no (by rw [hla, decide_eq_false cl, Bool.and_false, Bool.false_and])] at ih'
        exact ih'
    · rw [if_neg (fun q => cb ((l_b1 _).mp q))]
      rw [l_st_no (by rw [Bool.not_eq_true _ |>.mp cb, Bool.false_and, Bool.false_and])] at ih'
      exact ih'
theorem a_so {n : Nat} {C : k_C} {day : Int32} {K p w : Nat} {kr : Nat → Nat} {fl : Int32} {val : (Nat → Int64) → Int64} {M : m_M} (hn : 200 < n) (hV : k_V C) (hd : h_day (k_r C) (k_N C) day K) (hkr : l_kr C kr) (hG : k_G C 31 day K M) (hp : p < 10) (hw : w < 64) : f_X8_sharedOf n (nI p) (nI w) M = some (nI (l_SP (l_mk C day K kr fl val) w p)) := by
  have h := a_so5 (n := n) (fl := fl) (val := val) hn hV hd hkr hG hp hw (k_n C) 0 n (by omega) (by have := hV.1.2.2.1; omega)
  rw [(l_st0 _ _ _).1] at h
  exact h
