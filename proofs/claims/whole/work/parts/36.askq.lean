/-! ASKS: the reference -/
theorem a_share {C : k_C} {so day : Int32} {K k T : Nat} {M : m_M} (hV : k_V C) (hG : k_G C so day K M) (hK : K ≤ k_N C) (hk : k < K) (h4 : h_kd (k_r C) k = 4) (hT : T ≤ 120000) : q_T (f_X8_shareOf (nI (h_D (k_r C) k)) (lN T) M) (fun M' => M'.2 172 46 = lN (if T = 0 then 0 else if x_pt (h_S (k_r C) (h_sb so) K).1 (h_a (k_r C) k) (h_b (k_r C) k) < T then x_pt (h_S (k_r C) (h_sb so) K).1 (h_a (k_r C) k) (h_b (k_r C) k) * e_lf (h_S (k_r C) (h_sb so) K).1 (h_D (k_r C) k) else e_lf (h_S (k_r C) (h_sb so) K).1 (h_D (k_r C) k)) ∧ M'.2 172 47 = lN (if T = 0 then 1 else if x_pt (h_S (k_r C) (h_sb so) K).1 (h_a (k_r C) k) (h_b (k_r C) k) < T then T else 1)) := by
  obtain ⟨d1, d2, d3, d4, d5, d6⟩ := a_dl hV (show k < k_N C by omega) h4
  have hl := (k_lf hV (h_sb so) hK hk h4).2
  have hp := x_ptN hV (h_sb so) hK (h_a (k_r C) k) (h_b (k_r C) k)
  have hq : M.1 181 (4 * h_a (k_r C) k + h_b (k_r C) k) = e_pt (h_S (k_r C) (h_sb so) K).1 (h_a (k_r C) k) (h_b (k_r C) k) := e_Q5 hG.1.1 (by omega)
  unfold f_X8_shareOf
  refine q_ob (q_of (a_owed hV hG hK hk h4) (q_ob (q_of (a_man hV hG (by omega) h4) (q_ob (q_of (a_trade hV hG (by omega) h4) ?_)))))
  rw [q_x4, q_add]
  refine q_gd (q_in (by omega) (by decide)) (q_bd (q_bd (q_bd ?_)))
  rw [q_cl (by omega), hq, hp.1, nI_l (by omega), nI_l (by omega)]
  by_cases c : T = 0
  · rw [if_pos c, if_pos c]
    refine q_it ((pk_lLE (a := T) (b := 0) (by omega) (by omega)).mpr (by omega)) (q_some ⟨?_, ?_⟩)
    · rw [q_l, if_neg (by omega), q_l, if_pos ⟨rfl, rfl⟩]
      rfl
    · rw [q_l, if_pos ⟨rfl, rfl⟩]
      rfl
  · rw [if_neg c, if_neg c]
    refine q_if (fun q => c (by have := (pk_lLE (a := T) (b := 0) (by omega) (by omega)).mp q; omega)) ?_
    by_cases c2 : x_pt (h_S (k_r C) (h_sb so) K).1 (h_a (k_r C) k) (h_b (k_r C) k) < T
    · rw [if_pos c2, if_pos c2]
      refine q_it ((pk_lLT (by omega) (by omega)).mpr c2) ?_
      unfold f_X8_shareOf_b57
      refine q_it rfl ?_
      unfold f_X8_shareOf_b75
      refine q_bd (q_it rfl (q_bd (q_some ⟨?_, ?_⟩)))
      · rw [q_l, if_neg (by omega), q_l, if_pos ⟨rfl, rfl⟩, lN_mul]
      · rw [q_l, if_pos ⟨rfl, rfl⟩]
    · rw [if_neg c2, if_neg c2]
      refine q_if (fun q => c2 ((pk_lLT (by omega) (by omega)).mp q)) ?_
      unfold f_X8_shareOf_b57
      refine q_if (by decide) ?_
      unfold f_X8_shareOf_b75
      refine q_bd (q_if (by decide) (q_bd (q_some ⟨?_, ?_⟩)))
      · rw [q_l, if_neg (by omega), q_l, if_pos ⟨rfl, rfl⟩]
      · rw [q_l, if_pos ⟨rfl, rfl⟩]
        rfl
theorem a_b180 {n : Nat} {C : k_C} {so day : Int32} {K k : Nat} {M : m_M} {x2 x3 : Int32} {Q : m_M → Prop} (hV : k_V C) (hG : k_G C so day K M) (hK : K ≤ k_N C) (hk : k < K) (h4 : h_kd (k_r C) k = 4) (o : Nat) (hQ : q_T (f_X8_shareOf (nI (h_D (k_r C) k)) (lN (o + x_al (h_S (k_r C) (h_sb so) K).1 (nI (h_a (k_r C) k)) (nI (h_b (k_r C) k)) (h_D (k_r C) K))) M) Q) : ∀ (e x u : Nat), x + e = h_D (k_r C) K → e < u → q_T (f_X8_askOf_b180 n (nI (h_D (k_r C) k)) x2 x3 u (lN (o + x_al (h_S (k_r C) (h_sb so) K).1 (nI (h_a (k_r C) k)) (nI (h_b (k_r C) k)) x)) (nI x) M) Q := by
  have hD := k_D60 hV hK
  have h23 : M.1 172 23 = nI (h_D (k_r C) K) := hG.1.2.2.1
  intro e
  induction e with
  | zero =>
    intro x u hx hu
    obtain ⟨u, rfl⟩ : ∃ v, u = v + 1 := ⟨u - 1, by omega⟩
    rw [f_X8_askOf_b180, h23]
    refine q_it ((q_le (by omega) (by omega)).mpr (by omega)) ?_
    rw [show x = h_D (k_r C) K by omega]
    exact q_ob (q_mono hQ (fun a ha => q_some ha))
  | succ e ih =>
    intro x u hx hu
    obtain ⟨u, rfl⟩ : ∃ v, u = v + 1 := ⟨u - 1, by omega⟩
    obtain ⟨k', k1, k2, rfl⟩ := h_D_ex _ _ _ (show x < h_D (k_r C) K by omega)
    have hm := h_made_S hV.2.1 (h_sb so) k2 K hK k1
    have hd' := a_dl hV (show k' < k_N C by omega) k2
    have hd := a_dl hV (show k < k_N C by omega) h4
    have hl := k_lf hV (h_sb so) hK k1 k2
    have ih' := ih (h_D (k_r C) k' + 1) u (by omega) (by omega)
    rw [x_al, hm.1, hm.2.1, hd'.2.2.2.1] at ih'
    rw [f_X8_askOf_b180, h23]
    refine q_if (fun q => absurd ((q_le (by omega) (by omega)).mp q) (by omega)) (q_ob (q_of (a_man hV hG (by omega) k2) (q_ob (q_of (a_man hV hG (by omega) h4) ?_))))
    rw [q_up]
    by_cases e0 : h_a (k_r C) k' = h_a (k_r C) k
    · refine q_it (by rw [e0]) (q_ob (q_of (a_trade hV hG (by omega) k2) (q_ob (q_of (a_trade hV hG (by omega) h4) ?_))))
      by_cases e1 : h_b (k_r C) k' = h_b (k_r C) k
      · refine q_it (by rw [e1]) (q_ob (q_of (a_owed hV hG hK k1 k2) ?_))
        rw [if_pos ⟨by rw [e0], by rw [e1]⟩] at ih'
        rw [nI_l (by omega), lN_add, Nat.add_assoc]
        exact ih'
      · have n1 : ¬ nI (h_b (k_r C) k') = nI (h_b (k_r C) k) := fun q => e1 ((nI_eq (by omega) (by omega)).mp q)
        refine q_if n1 ?_
        rw [if_neg (fun q => n1 q.2)] at ih'
        rw [Int64.add_zero]
        exact ih'
    · have n0 : ¬ nI (h_a (k_r C) k') = nI (h_a (k_r C) k) := fun q => e0 ((nI_eq (by omega) (by omega)).mp q)
      refine q_if n0 ?_
      rw [if_neg (fun q => n0 q.1)] at ih'
      rw [Int64.add_zero]
      exact ih'
/-- nets that the reference finds -/
def k_g (C : k_C) (so day : Int32) (K : Nat) (gn : Nat → Int32) (M : m_M) : Prop := k_G C so day K M ∧ ∀ p, p < k_P C → M.1 195 p = gn p
theorem k_g_fr {C : k_C} {so day : Int32} {K : Nat} {gn : Nat → Int32} {M M' : m_M} (h : k_g C so day K gn M) (e : ∀ i j, i = 173 ∨ (177 ≤ i ∧ i ≤ 191) ∨ i = 195 ∨ (i = 172 ∧ 22 ≤ j ∧ j ≤ 26) → M'.1 i j = M.1 i j) : k_g C so day K gn M' := by
  obtain ⟨⟨a, b⟩, c⟩ := h
  refine ⟨⟨h_L_fr a (fun i j q => e i j (by omega)), ?_⟩, fun p hp => (e _ _ (by omega)).trans (c p hp)⟩
  obtain ⟨h0, h1, h2, h5, h6, h7⟩ := b
  exact ⟨(e _ _ (by omega)).trans h0, (e _ _ (by omega)).trans h1, (e _ _ (by omega)).trans h2, fun j hj => (e _ _ (by omega)).trans (h5 j hj), fun j hj => (e _ _ (by omega)).trans (h6 j hj), fun l hl => ⟨(e _ _ (by omega)).trans (h7 l hl).1, fun j hj => (e _ _ (by omega)).trans ((h7 l hl).2 j hj)⟩⟩
theorem a_net {n : Nat} {C : k_C} {so day : Int32} {K : Nat} {gn : Nat → Int32} {M : m_M} {l p : Nat} {fl : Int32} {val : (Nat → Int64) → Int64} (hn : 200 < n) (hV : k_V C) (hK : K ≤ k_N C) (hg : k_g C so day K gn M) (hl : l < 2) (hY : k_YR (k_t C l) (k_x C l) fl val) (hp : p < k_P C) (hid : Int32) : q_T (f_X8_netOf n (nI p) (nI l) 0 hid M) (fun a => a.1 = nI (x_nn (h_S (k_r C) (h_sb so) K).1 (k_P C) gn fl val p hid)) := by
  refine q_mono (e_netQ (n := n) hn (k_EG hg.1.1.1 hg.1.2) hV.1.1 hp hl (k_ac hV (h_sb so) hK).1 hY hg.2 0 hid) (fun a ha => ?_)
  rw [ha, Int32.add_zero]
  exact (x_ntN _ _ _ _ _ _ _).1
theorem a_b130 {n : Nat} {x1 x2 x3 : Int32} {a b : Nat} {M : m_M} (ha : a < 2 ^ 31) (hb : b < 2 ^ 31) : q_T (f_X8_askOf_b130 n x1 x2 x3 (nI a) (nI b) M) (fun M' => M'.2 172 46 = lN (min a b) ∧ M'.2 172 47 = M.2 172 47) := by
  unfold f_X8_askOf_b130
  by_cases c : b ≤ a
  · refine q_it ((q_le hb ha).mpr c) (q_bd (q_some ⟨?_, ?_⟩))
    · rw [q_l, if_pos ⟨rfl, rfl⟩, nI_l hb, Nat.min_eq_right c]
    · rw [q_l, if_neg (by omega)]
  · refine q_if (fun q => c ((q_le hb ha).mp q)) (q_bd (q_some ⟨?_, ?_⟩))
    · rw [q_l, if_pos ⟨rfl, rfl⟩, nI_l ha, Nat.min_eq_left (by omega)]
    · rw [q_l, if_neg (by omega)]
theorem e_op_who {S : Nat → Nat → Int32} {day : Int32} {a : Nat} (h : e_who S a = -1) (hh : S 0 a = -1 ∨ S 0 a ≠ -1) : e_op S day a = 0 := by
  unfold e_who at h
  unfold e_op
  by_cases z : S 0 a = -1
  · rw [if_pos z] at h ⊢
    rw [if_pos h]
  · rw [if_neg z] at h
    exact absurd h z
theorem x_Ow {S : Nat → Nat → Int32} {day : Int32} {D d a b net j : Nat} (w : e_who S a = -1) : x_O S day D d a b net j = 0 ∧ x_U S D d a b j = 1 := by
  unfold x_O x_U
  rw [if_pos w, if_pos w]
  exact ⟨rfl, rfl⟩
theorem x_O0 {S : Nat → Nat → Int32} {day : Int32} {D d a b net : Nat} (w : ¬ e_who S a = -1) : x_O S day D d a b net 0 = if S 17 d = 0 then if S 18 d = 0 then 0 else e_lf S d else e_lf S d := by
  unfold x_O
  rw [if_neg w, if_pos rfl]
theorem x_O1 {S : Nat → Nat → Int32} {day : Int32} {D d a b net : Nat} (w : ¬ e_who S a = -1) : x_O S day D d a b net 1 = min (e_lf S d) (x_th S d) := by
  unfold x_O
  rw [if_neg w, if_neg (by decide), if_pos rfl]
theorem x_O2 {S : Nat → Nat → Int32} {day : Int32} {D d a b net : Nat} : x_O S day D d a b net 2 = x_pu S day d a net := by
  unfold x_O
  by_cases w : e_who S a = -1
  · rw [if_pos w, x_pu0 (e_op_who w (Classical.em _))]
  · rw [if_neg w, if_neg (by decide), if_neg (by decide), if_pos rfl]
theorem x_O3 {S : Nat → Nat → Int32} {day : Int32} {D d a b net : Nat} (w : ¬ e_who S a = -1) : x_O S day D d a b net 3 = if S 19 d = 0 then 0 else if x_T S D a b = 0 then 0 else if x_pt S a b < x_T S D a b then x_pt S a b * e_lf S d else e_lf S d := by
  unfold x_O
  rw [if_neg w, if_neg (by decide), if_neg (by decide), if_neg (by decide)]
theorem x_U2 {S : Nat → Nat → Int32} {D d a b j : Nat} (h : j ≤ 2) : x_U S D d a b j = 1 := by
  unfold x_U
  rw [if_pos h, ite_self]
theorem x_U3 {S : Nat → Nat → Int32} {D d a b : Nat} (w : ¬ e_who S a = -1) : x_U S D d a b 3 = if S 19 d = 0 then 1 else if x_T S D a b = 0 then 1 else if x_pt S a b < x_T S D a b then x_T S D a b else 1 := by
  unfold x_U
  rw [if_neg w, if_neg (by decide)]
/-- the purse, by either law -/
theorem a_purse {n : Nat} {C : k_C} {so day : Int32} {K k : Nat} {gn : Nat → Int32} {M : m_M} {l : Nat} {fl : Int32} {val : (Nat → Int64) → Int64} (hn : 200 < n) (hV : k_V C) (hd : h_day (k_r C) (k_N C) day K) (hk : k < K) (h4 : h_kd (k_r C) k = 4) (hg : k_g C so day K gn M) (hl : l < 2) (hY : k_YR (k_t C l) (k_x C l) fl val) : q_T (f_X8_askOf n (nI (h_D (k_r C) k)) 2 (nI l) M) (fun M' => M'.2 172 46 = lN (x_pu (h_S (k_r C) (h_sb so) K).1 day (h_D (k_r C) k) (h_a (k_r C) k) (x_nn (h_S (k_r C) (h_sb so) K).1 (k_P C) gn fl val (h_a (k_r C) k) ((h_S (k_r C) (h_sb so) K).1 4 (h_a (k_r C) k) - (h_S (k_r C) (h_sb so) k).1 4 (h_a (k_r C) k)))) ∧ M'.2 172 47 = lN 1) := by
  have hK := hd.1
  obtain ⟨d1, d2, d3, d4, d5, d6⟩ := a_dl hV (show k < k_N C by omega) h4
  have hl1 := (k_lf hV (h_sb so) hK hk h4).2
  unfold f_X8_askOf
  refine q_bd (q_bd ?_)
  have hg' : k_g C so day K gn (m_sL (m_sL M 172 46 0) 172 47 1) := hg
  have h47 : (m_sL (m_sL M 172 46 0) 172 47 1).2 172 47 = 1 := by rw [q_l, if_pos ⟨rfl, rfl⟩]
  have h46 : (m_sL (m_sL M 172 46 0) 172 47 1).2 172 46 = 0 := by rw [q_l, if_neg (by omega), q_l, if_pos ⟨rfl, rfl⟩]
  generalize m_sL (m_sL M 172 46 0) 172 47 1 = M1 at *
  refine q_ob (q_of (a_who hV hg'.1 (by omega) h4) ?_)
  by_cases w : e_who (h_S (k_r C) (h_sb so) K).1 (h_a (k_r C) k) = -1
  · refine q_it w (q_some ⟨?_, h47⟩)
    rw [x_pu0 (e_op_who w (Classical.em _))]
    exact h46
  refine q_if w (q_ob (q_of (a_owed hV hg'.1 hK hk h4) (q_if (by decide) (q_if (by decide) (q_it rfl (q_ob (q_of (a_open hV hg'.1 (by omega) h4) ?_)))))))
  by_cases c : e_op (h_S (k_r C) (h_sb so) K).1 day (h_a (k_r C) k) = 0
  · rw [x_pu0 c]
    refine q_it c (q_mono (a_b130 (b := 0) (by omega) (by omega)) (fun M' h => ⟨?_, h.2.trans h47⟩))
    rw [h.1, Nat.min_zero]
  · rw [x_pu1 c]
    refine q_if c (q_ob (q_of (a_man hV hg'.1 (by omega) h4) (q_ob (q_of (a_hid hn hV hg'.1 hd hk h4) ?_))))
    refine q_o2 (q_mono (q_TH (a_net hn hV hK hg' hl hY d2 _) (g_X8_netOf n _ _ _ _ M1)) (fun a ha => ?_))
    rw [ha.1]
    refine q_mono (a_b130 (by omega) (by have := (x_ntN (h_S (k_r C) (h_sb so) K).1 (k_P C) gn fl val (h_a (k_r C) k) ((h_S (k_r C) (h_sb so) K).1 4 (h_a (k_r C) k) - (h_S (k_r C) (h_sb so) k).1 4 (h_a (k_r C) k))).2; omega)) (fun M' h => ⟨h.1, h.2.trans ((ha.2.2 172 47 (by unfold w_61; omega)).trans h47)⟩)
theorem a_ask {n : Nat} {C : k_C} {so day : Int32} {K k j : Nat} {gn : Nat → Int32} {M : m_M} {fl : Int32} {val : (Nat → Int64) → Int64} (hn : 200 < n) (hV : k_V C) (hd : h_day (k_r C) (k_N C) day K) (hk : k < K) (h4 : h_kd (k_r C) k = 4) (hg : k_g C so day K gn M) (hY : k_YR (k_t C 0) (k_x C 0) fl val) (hj : j < 4) : q_T (f_X8_askOf n (nI (h_D (k_r C) k)) (nI j) 0 M) (fun M' => M'.2 172 46 = lN (x_O (h_S (k_r C) (h_sb so) K).1 day (h_D (k_r C) K) (h_D (k_r C) k) (h_a (k_r C) k) (h_b (k_r C) k) (x_nn (h_S (k_r C) (h_sb so) K).1 (k_P C) gn fl val (h_a (k_r C) k) ((h_S (k_r C) (h_sb so) K).1 4 (h_a (k_r C) k) - (h_S (k_r C) (h_sb so) k).1 4 (h_a (k_r C) k))) j) ∧ M'.2 172 47 = lN (x_U (h_S (k_r C) (h_sb so) K).1 (h_D (k_r C) K) (h_D (k_r C) k) (h_a (k_r C) k) (h_b (k_r C) k) j)) := by
  have hK := hd.1
  obtain ⟨d1, d2, d3, d4, d5, d6⟩ := a_dl hV (show k < k_N C by omega) h4
  have hl1 := (k_lf hV (h_sb so) hK hk h4).2
  have hth := x_thN hV (h_sb so) hK (h_D (k_r C) k)
  have hT := x_TN hV (h_sb so) hK (h_a (k_r C) k) (h_b (k_r C) k)
  have ho := x_onN hV (h_sb so) hK (h_a (k_r C) k)
  by_cases j2 : j = 2
  · subst j2
    refine q_mono (a_purse (l := 0) hn hV hd hk h4 hg (by omega) hY) (fun M' h => ⟨?_, ?_⟩)
    · rw [h.1, x_O2]
    · rw [h.2, x_U2 (by omega)]
  unfold f_X8_askOf
  refine q_bd (q_bd ?_)
  have hg' : k_g C so day K gn (m_sL (m_sL M 172 46 0) 172 47 1) := hg
  have h47 : (m_sL (m_sL M 172 46 0) 172 47 1).2 172 47 = 1 := by rw [q_l, if_pos ⟨rfl, rfl⟩]
  have h46 : (m_sL (m_sL M 172 46 0) 172 47 1).2 172 46 = 0 := by rw [q_l, if_neg (by omega), q_l, if_pos ⟨rfl, rfl⟩]
  generalize m_sL (m_sL M 172 46 0) 172 47 1 = M1 at *
  refine q_ob (q_of (a_who hV hg'.1 (by omega) h4) ?_)
  by_cases w : e_who (h_S (k_r C) (h_sb so) K).1 (h_a (k_r C) k) = -1
  · rw [(x_Ow w).1, (x_Ow (day := day) (net := 0) w).2]
    exact q_it w (q_some ⟨h46, h47⟩)
  refine q_if w (q_ob (q_of (a_owed hV hg'.1 hK hk h4) ?_))
  have hjc : j = 0 ∨ j = 1 ∨ j = 3 := by omega
  have s17 : M1.1 189 (h_D (k_r C) k) = (h_S (k_r C) (h_sb so) K).1 17 (h_D (k_r C) k) := a_Q hg'.1.1.1 (f := 17) (by omega) (h_D_lt hk h4)
  have s18 : M1.1 190 (h_D (k_r C) k) = (h_S (k_r C) (h_sb so) K).1 18 (h_D (k_r C) k) := a_Q hg'.1.1.1 (f := 18) (by omega) (h_D_lt hk h4)
  have s19 : M1.1 191 (h_D (k_r C) k) = (h_S (k_r C) (h_sb so) K).1 19 (h_D (k_r C) k) := a_Q hg'.1.1.1 (f := 19) (by omega) (h_D_lt hk h4)
  have put : ∀ w : Nat, w < 2 ^ 31 → (m_sL M1 172 46 (nI w).toInt64).2 172 46 = lN w ∧ (m_sL M1 172 46 (nI w).toInt64).2 172 47 = lN 1 := fun w hw => by
    refine ⟨?_, ?_⟩
    · rw [q_l, if_pos ⟨rfl, rfl⟩, nI_l hw]
    · rw [q_l, if_neg (by omega), h47]
      rfl
  rcases hjc with q | q | q <;> subst q
  · rw [x_O0 w, x_U2 (by omega)]
    refine q_it rfl (q_gd (q_in d6 (by decide)) ?_)
    rw [q_cl (by omega), s17, s18]
    refine q_ite (fun c => ?_) (fun c => ?_)
    · rw [if_pos c]
      refine q_ite (fun c => ?_) (fun c => q_bd (q_some ?_))
      · rw [if_pos c]
        exact q_bd (q_some (put 0 (by omega)))
      · rw [if_neg c]
        exact put _ (by omega)
    · rw [if_neg c]
      exact q_bd (q_some (put _ (by omega)))
  · rw [x_O1 w, x_U2 (by omega)]
    refine q_if (by decide) (q_it rfl (q_ob (q_of (a_there hV hg'.1 hK hk h4) ?_)))
    rw [hth.1]
    by_cases c : x_th (h_S (k_r C) (h_sb so) K).1 (h_D (k_r C) k) ≤ e_lf (h_S (k_r C) (h_sb so) K).1 (h_D (k_r C) k)
    · refine q_it ((q_le (by omega) (by omega)).mpr c) (q_ob (q_of (a_there hV hg'.1 hK hk h4) ?_))
      rw [hth.1, Nat.min_eq_right c]
      exact q_bd (q_some (put _ (by omega)))
    · refine q_if (fun q => c ((q_le (by omega) (by omega)).mp q)) ?_
      rw [Nat.min_eq_left (by omega)]
      exact q_bd (q_some (put _ (by omega)))
  · rw [x_O3 w, x_U3 w]
    refine q_if (by decide) (q_if (by decide) (q_if (by decide) (q_gd (q_in d6 (by decide)) ?_)))
    rw [q_cl (by omega), s19]
    refine q_ite (fun c => ?_) (fun c => ?_)
    · rw [if_pos c, if_pos c]
      exact q_some ⟨h46, h47⟩
    · rw [if_neg c, if_neg c]
      have hEG := k_EG hg'.1.1.1 hg'.1.2
      refine q_ob (q_of (a_man hV hg'.1 (by omega) h4) (q_ob (q_of (e_own0 (n := n) (by omega) hg'.1.1.1 hV.1.1 hEG.2.1 d2 (k_ac hV (h_sb so) hK).1) ?_)))
      rw [ho.1, nI_l (by omega)]
      refine a_b180 (n := n) hV hg'.1 hK hk h4 (x_on (h_S (k_r C) (h_sb so) K).1 (h_a (k_r C) k)) ?_ (h_D (k_r C) K) 0 n (by omega) (by have := k_D60 hV hK; omega)
      exact a_share hV hg'.1 hK hk h4 hT
