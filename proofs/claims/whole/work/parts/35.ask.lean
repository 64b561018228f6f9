/-! ASKS on both sides -/
theorem h_R_e {S : Nat → Nat → Int32} {D : Nat} {M M' : m_M} (h : h_R S D M) (e : ∀ i j, M'.1 i j = M.1 i j) : h_R S D M' := ⟨(e _ _).trans h.1, fun f i q => (e _ _).trans (h.2 f i q)⟩
theorem x_clN (z : Int64) : ∃ m, m ≤ 1000000 ∧ e_cl z = nI m := by
  have h1 : (1000000 : Int64).toInt = 1000000 := by decide +kernel
  have h0 : (0 : Int64).toInt = 0 := rfl
  unfold e_cl m_maxJ m_minJ
  by_cases c : z < 1000000
  · rw [if_pos c]
    by_cases c0 : z < 0
    · rw [if_pos c0]
      exact ⟨0, by omega, rfl⟩
    · rw [if_neg c0]
      obtain ⟨k, hk, rfl⟩ := pk_lOf c0
      rw [Int64.lt_iff_toInt_lt, pk_lT hk] at c
      exact ⟨k, by omega, lN_i k⟩
  · rw [if_neg c]
    exact ⟨1000000, by omega, by decide +kernel⟩
/-- a net of a person, by a law, with what is hidden -/
def x_nt (S : Nat → Nat → Int32) (P : Nat) (gn : Nat → Int32) (fl : Int32) (val : (Nat → Int64) → Int64) (a : Nat) (hid : Int32) : Int32 := e_net fl val (e_all S a).toInt64 (e_sec S gn a P).toInt64 (e_o S a).toInt64 (e_wf S a P).toInt64 hid.toInt64
def x_nn (S : Nat → Nat → Int32) (P : Nat) (gn : Nat → Int32) (fl : Int32) (val : (Nat → Int64) → Int64) (a : Nat) (hid : Int32) : Nat := (x_nt S P gn fl val a hid).toNatClampNeg
theorem x_ntN (S : Nat → Nat → Int32) (P : Nat) (gn : Nat → Int32) (fl : Int32) (val : (Nat → Int64) → Int64) (a : Nat) (hid : Int32) : x_nt S P gn fl val a hid = nI (x_nn S P gn fl val a hid) ∧ x_nn S P gn fl val a hid ≤ 1000000 := by
  unfold x_nn
  have h : ∃ m, m ≤ 1000000 ∧ x_nt S P gn fl val a hid = nI m := by
    unfold x_nt e_net
    exact x_clN _
  obtain ⟨m, h1, h2⟩ := h
  rw [h2, q_cl (by omega)]
  exact ⟨rfl, h1⟩
/-- all that is owed in that trade -/
def x_al (S : Nat → Nat → Int32) (a b : Int32) : Nat → Nat
  | 0 => 0
  | d + 1 => if S 10 d = a ∧ S 11 d = b then x_al S a b d + e_lf S d else x_al S a b d
def x_on (S : Nat → Nat → Int32) (a : Nat) : Nat := (e_o S a).toNatClampNeg
def x_T (S : Nat → Nat → Int32) (D a b : Nat) : Nat := x_on S a + x_al S (nI a) (nI b) D
def x_pt (S : Nat → Nat → Int32) (a b : Nat) : Nat := (e_pt S a b).toNatClampNeg
def x_th (S : Nat → Nat → Int32) (d : Nat) : Nat := (m_max 0 (S 14 d - S 15 d)).toNatClampNeg
def x_pu (S : Nat → Nat → Int32) (day : Int32) (d a net : Nat) : Nat := if e_op S day a = 0 then 0 else min (e_lf S d) net
def x_A (S : Nat → Nat → Int32) (day : Int32) (D d a b net j : Nat) : Nat := if e_who S a = -1 then 0 else if j = 0 then (if S 17 d = 0 then if S 18 d = 0 then 0 else e_lf S d else e_lf S d) else if j = 1 then min (e_lf S d) (x_th S d) else if j = 2 then x_pu S day d a net else if S 19 d = 0 then 0 else min (e_lf S d * x_pt S a b) (e_lf S d * x_T S D a b)
def x_B (S : Nat → Nat → Int32) (D a b j : Nat) : Nat := if j ≤ 2 then 1 else max 1 (x_T S D a b)
def x_sh (S : Nat → Nat → Int32) (D d a b j : Nat) : Prop := j = 3 ∧ e_who S a ≠ -1 ∧ S 19 d ≠ 0 ∧ 0 < x_T S D a b
def x_O (S : Nat → Nat → Int32) (day : Int32) (D d a b net j : Nat) : Nat := if e_who S a = -1 then 0 else if j = 0 then (if S 17 d = 0 then if S 18 d = 0 then 0 else e_lf S d else e_lf S d) else if j = 1 then min (e_lf S d) (x_th S d) else if j = 2 then x_pu S day d a net else if S 19 d = 0 then 0 else if x_T S D a b = 0 then 0 else if x_pt S a b < x_T S D a b then x_pt S a b * e_lf S d else e_lf S d
def x_U (S : Nat → Nat → Int32) (D d a b j : Nat) : Nat := if e_who S a = -1 then 1 else if j ≤ 2 then 1 else if S 19 d = 0 then 1 else if x_T S D a b = 0 then 1 else if x_pt S a b < x_T S D a b then x_T S D a b else 1
theorem x_cross (S : Nat → Nat → Int32) (day : Int32) (D d a b net j : Nat) : x_A S day D d a b net j * x_U S D d a b j = x_O S day D d a b net j * x_B S D a b j ∧ 0 < x_B S D a b j ∧ 0 < x_U S D d a b j := by
  unfold x_A x_U x_O x_B
  by_cases w : e_who S a = -1
  · rw [if_pos w, if_pos w, if_pos w, Nat.zero_mul, Nat.zero_mul]
    refine ⟨rfl, ?_, Nat.one_pos⟩
    split <;> omega
  · rw [if_neg w, if_neg w, if_neg w]
    by_cases h2 : j ≤ 2
    · rw [if_pos h2, if_pos h2]
      refine ⟨?_, Nat.one_pos, Nat.one_pos⟩
      by_cases j0 : j = 0
      · rw [if_pos j0, if_pos j0]
      · rw [if_neg j0, if_neg j0]
        by_cases j1 : j = 1
        · rw [if_pos j1, if_pos j1]
        · rw [if_neg j1, if_neg j1, if_pos (show j = 2 by omega), if_pos (show j = 2 by omega)]
    · rw [if_neg h2, if_neg h2, if_neg (show ¬ j = 0 by omega), if_neg (show ¬ j = 1 by omega), if_neg (show ¬ j = 2 by omega), if_neg (show ¬ j = 0 by omega), if_neg (show ¬ j = 1 by omega), if_neg (show ¬ j = 2 by omega)]
      by_cases h19 : S 19 d = 0
      · rw [if_pos h19, if_pos h19, if_pos h19, Nat.zero_mul, Nat.zero_mul]
        exact ⟨rfl, by omega, Nat.one_pos⟩
      · rw [if_neg h19, if_neg h19, if_neg h19]
        by_cases hT : x_T S D a b = 0
        · rw [if_pos hT, if_pos hT, hT, Nat.mul_zero, Nat.min_zero]
          exact ⟨rfl, by omega, Nat.one_pos⟩
        · rw [if_neg hT, if_neg hT]
          by_cases hp : x_pt S a b < x_T S D a b
          · rw [if_pos hp, if_pos hp, Nat.min_eq_left (Nat.mul_le_mul_left _ (by omega)), Nat.max_eq_right (by omega)]
            exact ⟨by rw [Nat.mul_comm (e_lf S d)], by omega, by omega⟩
          · rw [if_neg hp, if_neg hp, Nat.min_eq_right (Nat.mul_le_mul_left _ (by omega)), Nat.max_eq_right (by omega)]
            exact ⟨by rw [Nat.mul_one], by omega, Nat.one_pos⟩
/-! bounds of these -/
theorem x_alN {C : k_C} (hV : k_V C) (so : Nat → Bool) {K : Nat} (hK : K ≤ k_N C) (a b : Int32) : ∀ D, D ≤ h_D (k_r C) K → x_al (h_S (k_r C) so K).1 a b D ≤ 1000 * D
  | 0, _ => Nat.le_refl _
  | D + 1, h => by
    have ih := x_alN hV so hK a b D (by omega)
    obtain ⟨k, k1, k2, k3⟩ := h_D_ex _ _ _ (show D < h_D (k_r C) K by omega)
    have hl := (k_lf hV so hK k1 k2).2
    rw [k3] at hl
    rw [x_al]
    split <;> omega
theorem x_onN {C : k_C} (hV : k_V C) (so : Nat → Bool) {K : Nat} (hK : K ≤ k_N C) (p : Nat) : e_o (h_S (k_r C) so K).1 p = nI (x_on (h_S (k_r C) so K).1 p) ∧ x_on (h_S (k_r C) so K).1 p ≤ 60000 := by
  obtain ⟨w, w1, w2⟩ := k_o hV so hK p
  unfold x_on
  rw [w2, q_cl (by omega)]
  exact ⟨rfl, w1⟩
theorem x_ptN {C : k_C} (hV : k_V C) (so : Nat → Bool) {K : Nat} (hK : K ≤ k_N C) (p t : Nat) : e_pt (h_S (k_r C) so K).1 p t = nI (x_pt (h_S (k_r C) so K).1 p t) ∧ x_pt (h_S (k_r C) so K).1 p t ≤ 60000 := by
  obtain ⟨w, w1, w2⟩ := k_pt hV so hK p t
  unfold x_pt
  rw [w2, q_cl (by omega)]
  exact ⟨rfl, w1⟩
theorem x_thN {C : k_C} (hV : k_V C) (so : Nat → Bool) {K : Nat} (hK : K ≤ k_N C) (d : Nat) : m_max 0 ((h_S (k_r C) so K).1 14 d - (h_S (k_r C) so K).1 15 d) = nI (x_th (h_S (k_r C) so K).1 d) ∧ x_th (h_S (k_r C) so K).1 d ≤ 60000 := by
  obtain ⟨w, w1, w2⟩ := k_th hV so hK d
  unfold x_th
  rw [w2, q_cl (by omega)]
  exact ⟨rfl, w1⟩
theorem x_TN {C : k_C} (hV : k_V C) (so : Nat → Bool) {K : Nat} (hK : K ≤ k_N C) (a b : Nat) : x_T (h_S (k_r C) so K).1 (h_D (k_r C) K) a b ≤ 120000 := by
  have h1 := x_alN hV so hK (nI a) (nI b) _ (Nat.le_refl _)
  have h2 := (x_onN hV so hK a).2
  have h3 := k_D60 hV hK
  unfold x_T
  omega
theorem x_puN {C : k_C} (hV : k_V C) (so : Nat → Bool) {K k : Nat} (hK : K ≤ k_N C) (hk : k < K) (h4 : h_kd (k_r C) k = 4) (day : Int32) (a net : Nat) : x_pu (h_S (k_r C) so K).1 day (h_D (k_r C) k) a net ≤ 1000 := by
  have hl := (k_lf hV so hK hk h4).2
  unfold x_pu
  split <;> omega
theorem x_AN {C : k_C} (hV : k_V C) (so : Nat → Bool) {K k : Nat} (hK : K ≤ k_N C) (hk : k < K) (h4 : h_kd (k_r C) k = 4) (day : Int32) (a b net j : Nat) : x_A (h_S (k_r C) so K).1 day (h_D (k_r C) K) (h_D (k_r C) k) a b net j ≤ 120000000 ∧ x_B (h_S (k_r C) so K).1 (h_D (k_r C) K) a b j ≤ 120000 ∧ x_O (h_S (k_r C) so K).1 day (h_D (k_r C) K) (h_D (k_r C) k) a b net j ≤ 120000000 ∧ x_U (h_S (k_r C) so K).1 (h_D (k_r C) K) (h_D (k_r C) k) a b j ≤ 120000 := by
  have hl := (k_lf hV so hK hk h4).2
  have hT := x_TN hV so hK a b
  have hp := (x_ptN hV so hK a b).2
  have hpu := x_puN hV so hK hk h4 day a net
  have m1 : e_lf (h_S (k_r C) so K).1 (h_D (k_r C) k) * x_T (h_S (k_r C) so K).1 (h_D (k_r C) K) a b ≤ 1000 * 120000 := Nat.mul_le_mul hl hT
  have m2 : x_pt (h_S (k_r C) so K).1 a b * e_lf (h_S (k_r C) so K).1 (h_D (k_r C) k) ≤ 60000 * 1000 := Nat.mul_le_mul hp hl
  have m3 : min (e_lf (h_S (k_r C) so K).1 (h_D (k_r C) k) * x_pt (h_S (k_r C) so K).1 a b) (e_lf (h_S (k_r C) so K).1 (h_D (k_r C) k) * x_T (h_S (k_r C) so K).1 (h_D (k_r C) K) a b) ≤ 120000000 := by omega
  unfold x_A x_B x_O x_U
  refine ⟨?_, ?_, ?_, ?_⟩
  · repeat' split
    all_goals omega
  · split <;> omega
  · repeat' split
    all_goals omega
  · repeat' split
    all_goals omega
/-! the class -/
def k_H (C : k_C) (S : Nat → Nat → Int32) (day : Int32) (K : Nat) (gn : Nat → Int32) (M : m_M) : Prop := k_F C S day K M ∧ M.1 1 0 = nI (k_P C) ∧ ∀ p, p < k_P C → M.1 (49 + 5 * p) 5 = e_sec S gn p (k_P C)
theorem k_H_e {C : k_C} {S : Nat → Nat → Int32} {day : Int32} {K : Nat} {gn : Nat → Int32} {M M' : m_M} (h : k_H C S day K gn M) (e : ∀ i j, M'.1 i j = M.1 i j) : k_H C S day K gn M' := ⟨⟨h_R_e h.1.1 e, (e _ _).trans h.1.2⟩, (e _ _).trans h.2.1, fun p hp => (e _ _).trans (h.2.2 p hp)⟩
theorem b_net {n : Nat} {C : k_C} {so : Nat → Bool} {day : Int32} {K : Nat} {gn : Nat → Int32} {M : m_M} {l p : Nat} {fl : Int32} {val : (Nat → Int64) → Int64} (hn : 200 < n) (hV : k_V C) (hK : K ≤ k_N C) (hH : k_H C (h_S (k_r C) so K).1 day K gn M) (hl : l < 2) (hY : k_YC (5 + 5 * l) M fl val) (hp : p < k_P C) (hid : Int32) : q_T (f_X1_netOf n (nI p) (nI l) hid.toInt64 0 M) (fun a => a.1 = nI (x_nn (h_S (k_r C) so K).1 (k_P C) gn fl val p hid)) := by
  refine q_mono (e_netC (n := n) (by omega) hH.1.1 hH.2.1 hV.1.1 hp hl (k_ac hV so hK).1 hY hid.toInt64 0) (fun a ha => ?_)
  rw [ha, hH.2.2 p hp, Int64.add_zero]
  exact (x_ntN _ _ _ _ _ _ _).1
theorem q_mnN {a b : Nat} (ha : a < 2 ^ 31) (hb : b < 2 ^ 31) : m_min (nI a) (nI b) = nI (min a b) := by
  unfold m_min
  by_cases c : b < a
  · rw [if_pos ((q_lt hb ha).mpr c), Nat.min_eq_right (by omega)]
  · rw [if_neg (fun q => c ((q_lt hb ha).mp q)), Nat.min_eq_left (by omega)]
theorem x_pu0 {S : Nat → Nat → Int32} {day : Int32} {d a net : Nat} (c : e_op S day a = 0) : x_pu S day d a net = 0 := by
  unfold x_pu
  rw [if_pos c]
theorem x_pu1 {S : Nat → Nat → Int32} {day : Int32} {d a net : Nat} (c : ¬ e_op S day a = 0) : x_pu S day d a net = min (e_lf S d) net := by
  unfold x_pu
  rw [if_neg c]
theorem x_Aw {S : Nat → Nat → Int32} {day : Int32} {D d a b net j : Nat} (w : e_who S a = -1) : x_A S day D d a b net j = 0 := by
  unfold x_A
  rw [if_pos w]
theorem x_A0 {S : Nat → Nat → Int32} {day : Int32} {D d a b net : Nat} (w : ¬ e_who S a = -1) : x_A S day D d a b net 0 = if S 17 d = 0 then if S 18 d = 0 then 0 else e_lf S d else e_lf S d := by
  unfold x_A
  rw [if_neg w, if_pos rfl]
theorem x_A1 {S : Nat → Nat → Int32} {day : Int32} {D d a b net : Nat} (w : ¬ e_who S a = -1) : x_A S day D d a b net 1 = min (e_lf S d) (x_th S d) := by
  unfold x_A
  rw [if_neg w, if_neg (by decide), if_pos rfl]
theorem x_A2 {S : Nat → Nat → Int32} {day : Int32} {D d a b net : Nat} (w : ¬ e_who S a = -1) : x_A S day D d a b net 2 = x_pu S day d a net := by
  unfold x_A
  rw [if_neg w, if_neg (by decide), if_neg (by decide), if_pos rfl]
theorem x_A3 {S : Nat → Nat → Int32} {day : Int32} {D d a b net : Nat} (w : ¬ e_who S a = -1) : x_A S day D d a b net 3 = if S 19 d = 0 then 0 else min (e_lf S d * x_pt S a b) (e_lf S d * x_T S D a b) := by
  unfold x_A
  rw [if_neg w, if_neg (by decide), if_neg (by decide), if_neg (by decide)]
theorem b_purse {n : Nat} {C : k_C} {so : Nat → Bool} {day : Int32} {K k : Nat} {gn : Nat → Int32} {M : m_M} {l : Nat} {fl : Int32} {val : (Nat → Int64) → Int64} (hn : 200 < n) (hV : k_V C) (hK : K ≤ k_N C) (hk : k < K) (h4 : h_kd (k_r C) k = 4) (hH : k_H C (h_S (k_r C) so K).1 day K gn M) (hl : l < 2) (hY : k_YC (5 + 5 * l) M fl val) : q_T (f_X1_purseAsk n (nI (h_D (k_r C) k)) (nI l) M) (fun a => a.1 = nI (x_pu (h_S (k_r C) so K).1 day (h_D (k_r C) k) (h_a (k_r C) k) (x_nn (h_S (k_r C) so K).1 (k_P C) gn fl val (h_a (k_r C) k) ((h_S (k_r C) so K).1 4 (h_a (k_r C) k) - (h_S (k_r C) so k).1 4 (h_a (k_r C) k))))) := by
  obtain ⟨d1, d2, d3, d4, d5, d6⟩ := a_dl hV (show k < k_N C by omega) h4
  have hl1 := (k_lf hV so hK hk h4).2
  unfold f_X1_purseAsk
  refine q_ob (q_of (b_open hV hH.1 hK hk h4) ?_)
  by_cases c : e_op (h_S (k_r C) so K).1 day (h_a (k_r C) k) = 0
  · rw [x_pu0 c]
    exact q_it c (q_some rfl)
  · rw [x_pu1 c]
    refine q_if c (q_gd (q_in d6 (by decide)) (q_bd ?_))
    rw [q_cl (by omega), b_left hV hH.1 hK hk h4]
    refine q_ob (q_of (b_hid hV hH.1 hK hk h4) ?_)
    rw [(b_dl hV hH.1 hK hk h4).1]
    refine q_o2 (q_mono (b_net hn hV hK hH hl hY d2 _) (fun a ha => q_bd (q_some ?_)))
    show m_min (nI _) a.1 = _
    rw [ha, q_mnN (by omega) (by have := (x_ntN (h_S (k_r C) so K).1 (k_P C) gn fl val (h_a (k_r C) k) ((h_S (k_r C) so K).1 4 (h_a (k_r C) k) - (h_S (k_r C) so k).1 4 (h_a (k_r C) k))).2; omega)]
theorem b_al13 {n : Nat} {C : k_C} {so : Nat → Bool} {day : Int32} {K k : Nat} {M : m_M} (hV : k_V C) (hK : K ≤ k_N C) (hk : k < K) (h4 : h_kd (k_r C) k = 4) (hF : k_F C (h_S (k_r C) so K).1 day K M) (o : Nat) : ∀ (e x u : Nat), x + e = h_D (k_r C) K → e < u → f_X1_allOwed_b13 n (99 + h_D (k_r C) k) M u (lN (o + x_al (h_S (k_r C) so K).1 (nI (h_a (k_r C) k)) (nI (h_b (k_r C) k)) x)) (nI x) = some (lN (o + x_al (h_S (k_r C) so K).1 (nI (h_a (k_r C) k)) (nI (h_b (k_r C) k)) (h_D (k_r C) K))) := by
  have hD := k_D60 hV hK
  obtain ⟨c0, c1, c2⟩ := b_dl hV hF hK hk h4
  intro e
  induction e with
  | zero =>
    intro x u hx hu
    obtain ⟨u, rfl⟩ : ∃ v, u = v + 1 := ⟨u - 1, by omega⟩
    rw [f_X1_allOwed_b13, hF.1.1, if_pos ((q_le (by omega) (by omega)).mpr (by omega)), show x = h_D (k_r C) K by omega]
  | succ e ih =>
    intro x u hx hu
    obtain ⟨u, rfl⟩ : ∃ v, u = v + 1 := ⟨u - 1, by omega⟩
    obtain ⟨k', k1, k2, rfl⟩ := h_D_ex _ _ _ (show x < h_D (k_r C) K by omega)
    obtain ⟨z0, z1, z2⟩ := b_dl hV hF hK k1 k2
    have hl := k_lf hV so hK k1 k2
    rw [f_X1_allOwed_b13, hF.1.1, if_neg (fun q => absurd ((q_le (by omega) (by omega)).mp q) (by omega))]
    unfold m_gd
    rw [if_pos (q_in (by omega) (by decide)), q_cl (by omega), c0, c1, b_left hV hF hK k1 k2]
    have y0 := z2 10 (by omega) (by omega)
    have y1 := z2 11 (by omega) (by omega)
    have y0' : M.1 (99 + h_D (k_r C) k') 0 = (h_S (k_r C) so K).1 10 (h_D (k_r C) k') := y0
    have y1' : M.1 (99 + h_D (k_r C) k') 1 = (h_S (k_r C) so K).1 11 (h_D (k_r C) k') := y1
    rw [y0', y1', q_up]
    have ih' := ih (h_D (k_r C) k' + 1) u (by omega) (by omega)
    rw [x_al] at ih'
    by_cases e0 : (h_S (k_r C) so K).1 10 (h_D (k_r C) k') = nI (h_a (k_r C) k)
    · rw [if_pos e0]
      by_cases e1 : (h_S (k_r C) so K).1 11 (h_D (k_r C) k') = nI (h_b (k_r C) k)
      · rw [if_pos e1]
        rw [if_pos ⟨e0, e1⟩] at ih'
        simp only [m_bd]
        rw [nI_l (by omega), lN_add, Nat.add_assoc]
        exact ih'
      · rw [if_neg e1]
        rw [if_neg (fun q => e1 q.2)] at ih'
        exact ih'
    · rw [if_neg e0]
      rw [if_neg (fun q => e0 q.1)] at ih'
      exact ih'
theorem b_all {n : Nat} {C : k_C} {so : Nat → Bool} {day : Int32} {K k : Nat} {M : m_M} (hn : 200 < n) (hV : k_V C) (hK : K ≤ k_N C) (hk : k < K) (h4 : h_kd (k_r C) k = 4) (hF : k_F C (h_S (k_r C) so K).1 day K M) : f_X1_allOwed n (99 + h_D (k_r C) k) M = some (lN (x_T (h_S (k_r C) so K).1 (h_D (k_r C) K) (h_a (k_r C) k) (h_b (k_r C) k))) := by
  obtain ⟨d1, d2, d3, d4, d5, d6⟩ := a_dl hV (show k < k_N C by omega) h4
  have ho := x_onN hV so hK (h_a (k_r C) k)
  unfold f_X1_allOwed
  rw [(b_dl hV hF hK hk h4).1, e_oC hF.1 hV.1.1 d2 (k_ac hV so hK).1]
  show f_X1_allOwed_b13 n (99 + h_D (k_r C) k) M n (e_o (h_S (k_r C) so K).1 (h_a (k_r C) k)).toInt64 0 = _
  rw [ho.1, nI_l (by omega)]
  exact b_al13 (n := n) hV hK hk h4 hF (x_on (h_S (k_r C) so K).1 (h_a (k_r C) k)) (h_D (k_r C) K) 0 n (by omega) (by have := k_D60 hV hK; omega)
theorem q_mnJ {a b : Nat} (ha : a < 2 ^ 63) (hb : b < 2 ^ 63) : m_minJ (lN a) (lN b) = lN (min a b) := by
  unfold m_minJ
  by_cases c : b < a
  · rw [if_pos ((pk_lLT hb ha).mpr c), Nat.min_eq_right (by omega)]
  · rw [if_neg (fun q => c ((pk_lLT hb ha).mp q)), Nat.min_eq_left (by omega)]
theorem q_mxJ {a b : Nat} (ha : a < 2 ^ 63) (hb : b < 2 ^ 63) : m_maxJ (lN a) (lN b) = lN (max a b) := by
  unfold m_maxJ
  by_cases c : b < a
  · rw [if_pos ((pk_lLT hb ha).mpr c), Nat.max_eq_left (by omega)]
  · rw [if_neg (fun q => c ((pk_lLT hb ha).mp q)), Nat.max_eq_right (by omega)]
theorem b_share {n : Nat} {C : k_C} {so : Nat → Bool} {day : Int32} {K k : Nat} {M : m_M} (hn : 200 < n) (hV : k_V C) (hK : K ≤ k_N C) (hk : k < K) (h4 : h_kd (k_r C) k = 4) (hF : k_F C (h_S (k_r C) so K).1 day K M) : f_X1_shareAbove n (99 + h_D (k_r C) k) M = some (lN (min (e_lf (h_S (k_r C) so K).1 (h_D (k_r C) k) * x_pt (h_S (k_r C) so K).1 (h_a (k_r C) k) (h_b (k_r C) k)) (e_lf (h_S (k_r C) so K).1 (h_D (k_r C) k) * x_T (h_S (k_r C) so K).1 (h_D (k_r C) K) (h_a (k_r C) k) (h_b (k_r C) k)))) := by
  obtain ⟨d1, d2, d3, d4, d5, d6⟩ := a_dl hV (show k < k_N C by omega) h4
  obtain ⟨c0, c1, c2⟩ := b_dl hV hF hK hk h4
  have hl := (k_lf hV so hK hk h4).2
  have hp := x_ptN hV so hK (h_a (k_r C) k) (h_b (k_r C) k)
  have hT := x_TN hV so hK (h_a (k_r C) k) (h_b (k_r C) k)
  have m1 : e_lf (h_S (k_r C) so K).1 (h_D (k_r C) k) * x_T (h_S (k_r C) so K).1 (h_D (k_r C) K) (h_a (k_r C) k) (h_b (k_r C) k) ≤ 1000 * 120000 := Nat.mul_le_mul hl hT
  have m2 : e_lf (h_S (k_r C) so K).1 (h_D (k_r C) k) * x_pt (h_S (k_r C) so K).1 (h_a (k_r C) k) (h_b (k_r C) k) ≤ 1000 * 60000 := Nat.mul_le_mul hl hp.2
  unfold f_X1_shareAbove
  simp only [m_bd]
  rw [b_left hV hF hK hk h4, c0, c1]
  unfold m_gd
  rw [if_pos (q_in d3 (by decide)), q_cl (by omega), e_partC hF.1 d3 d5]
  show m_ob (f_X1_allOwed n (99 + h_D (k_r C) k) M) _ = _
  rw [b_all hn hV hK hk h4 hF]
  show some (m_minJ ((nI _).toInt64 * (e_pt _ _ _).toInt64) ((nI _).toInt64 * lN _)) = _
  rw [hp.1, nI_l (by omega), nI_l (by omega), lN_mul, lN_mul, q_mnJ (by omega) (by omega)]
theorem b_ask {n : Nat} {C : k_C} {so : Nat → Bool} {day : Int32} {K k j : Nat} {gn : Nat → Int32} {M : m_M} {fl : Int32} {val : (Nat → Int64) → Int64} (hn : 200 < n) (hV : k_V C) (hK : K ≤ k_N C) (hk : k < K) (h4 : h_kd (k_r C) k = 4) (hH : k_H C (h_S (k_r C) so K).1 day K gn M) (hY : k_YC 5 M fl val) (hj : j < 4) : q_T (f_X1_askAbove n (nI (h_D (k_r C) k)) (nI j) M) (fun a => a.1 = lN (x_A (h_S (k_r C) so K).1 day (h_D (k_r C) K) (h_D (k_r C) k) (h_a (k_r C) k) (h_b (k_r C) k) (x_nn (h_S (k_r C) so K).1 (k_P C) gn fl val (h_a (k_r C) k) ((h_S (k_r C) so K).1 4 (h_a (k_r C) k) - (h_S (k_r C) so k).1 4 (h_a (k_r C) k))) j)) := by
  obtain ⟨d1, d2, d3, d4, d5, d6⟩ := a_dl hV (show k < k_N C by omega) h4
  obtain ⟨c0, c1, c2⟩ := b_dl hV hH.1 hK hk h4
  have hl := (k_lf hV so hK hk h4).2
  have s7 : M.1 (99 + h_D (k_r C) k) 7 = (h_S (k_r C) so K).1 17 (h_D (k_r C) k) := c2 17 (by omega) (by omega)
  have s8 : M.1 (99 + h_D (k_r C) k) 8 = (h_S (k_r C) so K).1 18 (h_D (k_r C) k) := c2 18 (by omega) (by omega)
  have s9 : M.1 (99 + h_D (k_r C) k) 9 = (h_S (k_r C) so K).1 19 (h_D (k_r C) k) := c2 19 (by omega) (by omega)
  have s4 : M.1 (99 + h_D (k_r C) k) 4 = (h_S (k_r C) so K).1 14 (h_D (k_r C) k) := c2 14 (by omega) (by omega)
  have s5 : M.1 (99 + h_D (k_r C) k) 5 = (h_S (k_r C) so K).1 15 (h_D (k_r C) k) := c2 15 (by omega) (by omega)
  have hth := x_thN hV so hK (h_D (k_r C) k)
  unfold f_X1_askAbove
  refine q_ob (q_of (b_who hV hH.1 hK hk h4) ?_)
  by_cases w : e_who (h_S (k_r C) so K).1 (h_a (k_r C) k) = -1
  · rw [x_Aw w]
    exact q_it w (q_some rfl)
  refine q_if w (q_gd (q_in d6 (by decide)) ?_)
  rw [q_cl (by omega), s7, s8, s9, b_left hV hH.1 hK hk h4]
  have hjc : j = 0 ∨ j = 1 ∨ j = 2 ∨ j = 3 := by omega
  rcases hjc with q | q | q | q <;> subst q
  · rw [x_A0 w]
    refine q_it rfl (q_ite (fun c => ?_) (fun c => ?_))
    · rw [if_pos c]
      refine q_ite (fun c => ?_) (fun c => q_bd (q_some ?_))
      · rw [if_pos c]
        exact q_some rfl
      · rw [if_neg c]
        exact nI_l (by omega)
    · rw [if_neg c]
      exact q_bd (q_some (nI_l (by omega)))
  · rw [x_A1 w]
    refine q_if (by decide) (q_it rfl (q_bd (q_bd (q_bd (q_some ?_)))))
    unfold f_X0_there
    simp only [m_bd]
    rw [s4, s5, hth.1, q_mnN (by omega) (by omega)]
    exact nI_l (by omega)
  · rw [x_A2 w]
    refine q_if (by decide) (q_if (by decide) (q_it rfl (q_o2 (q_mono (b_purse (l := 0) hn hV hK hk h4 hH (by omega) hY) (fun a ha => q_some ?_)))))
    show a.1.toInt64 = _
    rw [ha]
    exact nI_l (by have := x_puN hV so hK hk h4 day (h_a (k_r C) k) (x_nn (h_S (k_r C) so K).1 (k_P C) gn fl val (h_a (k_r C) k) ((h_S (k_r C) so K).1 4 (h_a (k_r C) k) - (h_S (k_r C) so k).1 4 (h_a (k_r C) k))); omega)
  · rw [x_A3 w]
    refine q_if (by decide) (q_if (by decide) (q_if (by decide) (q_ite (fun c => ?_) (fun c => ?_))))
    · rw [if_pos c]
      exact q_some rfl
    · rw [if_neg c]
      exact q_ob (q_of (b_share hn hV hK hk h4 hH.1) (q_some rfl))
theorem b_below {n : Nat} {C : k_C} {so : Nat → Bool} {day : Int32} {K k j : Nat} {M : m_M} (hn : 200 < n) (hV : k_V C) (hK : K ≤ k_N C) (hk : k < K) (h4 : h_kd (k_r C) k = 4) (hF : k_F C (h_S (k_r C) so K).1 day K M) (hj : j < 4) : f_X1_askBelow n (nI (h_D (k_r C) k)) (nI j) M = some (lN (x_B (h_S (k_r C) so K).1 (h_D (k_r C) K) (h_a (k_r C) k) (h_b (k_r C) k) j)) := by
  obtain ⟨d1, d2, d3, d4, d5, d6⟩ := a_dl hV (show k < k_N C by omega) h4
  have hT := x_TN hV so hK (h_a (k_r C) k) (h_b (k_r C) k)
  have l2 : (2 : Int32) < nI j ↔ 2 < j := q_lt (a := 2) (by decide) (by omega)
  unfold f_X1_askBelow x_B
  by_cases c : j ≤ 2
  · rw [if_neg (fun q => absurd (l2.mp q) (by omega)), if_pos c]
    rfl
  · rw [if_pos (l2.mpr (by omega)), if_neg c]
    unfold m_gd
    rw [if_pos (q_in d6 (by decide)), q_cl (by omega), b_all hn hV hK hk h4 hF]
    show some (m_maxJ (lN 1) (lN _)) = _
    rw [q_mxJ (by omega) (by omega)]
