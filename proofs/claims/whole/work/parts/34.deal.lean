/-! DEALS on both sides: maker, trade, owed, there, who answers, is the purse open, what is hidden -/
def e_who (S : Nat → Nat → Int32) (a : Nat) : Int32 := if S 0 a = -1 then S 1 a else S 0 a
def e_op (S : Nat → Nat → Int32) (day : Int32) (a : Nat) : Int32 := if S 0 a = -1 then if S 1 a = -1 then 0 else if S 3 a = 2 then 0 else if (360 : Int32) < day - S 2 a then 0 else 1 else 1
/-- the reference, laid -/
def k_G (C : k_C) (so day : Int32) (K : Nat) (M : m_M) : Prop := h_L (k_r C) (k_N C) K so day M ∧ k_E C 173 0 M
theorem a_dl {C : k_C} (hV : k_V C) {k : Nat} (hk : k < k_N C) (h4 : h_kd (k_r C) k = 4) : k_r C (6 * k + 2) = nI (h_a (k_r C) k) ∧ h_a (k_r C) k < k_P C ∧ h_a (k_r C) k < 10 ∧ k_r C (6 * k + 3) = nI (h_b (k_r C) k) ∧ h_b (k_r C) k < 4 ∧ h_D (k_r C) k < 60 := by
  have hv := (hV.2.1 k hk).1
  have ha := (hV.2.2.1 k hk).2.1 (by unfold h_isd; omega)
  have hb := hv.2.2.2.2.2.1 (by omega)
  have := h_D_le (k_r C) k
  have := hV.1.2.1
  exact ⟨hv.2.2.1, ha, by have := hV.1.1; omega, hb.1, hb.2, by omega⟩
theorem a_man {C : k_C} {so day : Int32} {K k : Nat} {M : m_M} (hV : k_V C) (hG : k_G C so day K M) (hk : k < k_N C) (h4 : h_kd (k_r C) k = 4) : f_X8_manOf (nI (h_D (k_r C) k)) M = some (nI (h_a (k_r C) k)) := by
  obtain ⟨d1, d2, d3, d4, d5, d6⟩ := a_dl hV hk h4
  unfold f_X8_manOf m_gd
  rw [if_pos (q_in d6 (by decide)), q_cl (by omega), hG.1.2.2.2.2.1 k hk h4]
  have h := k_row_of (j := 2) hV hG.2 hk (by omega)
  have h' : f_X8_of (nI k) 2 M = some (k_r C (6 * k + 2)) := h
  rw [h']
  show some (k_r C (6 * k + 2)) = _
  rw [d1]
theorem a_trade {C : k_C} {so day : Int32} {K k : Nat} {M : m_M} (hV : k_V C) (hG : k_G C so day K M) (hk : k < k_N C) (h4 : h_kd (k_r C) k = 4) : f_X8_tradeOf (nI (h_D (k_r C) k)) M = some (nI (h_b (k_r C) k)) := by
  obtain ⟨d1, d2, d3, d4, d5, d6⟩ := a_dl hV hk h4
  unfold f_X8_tradeOf m_gd
  rw [if_pos (q_in d6 (by decide)), q_cl (by omega), hG.1.2.2.2.2.1 k hk h4]
  have h := k_row_of (j := 3) hV hG.2 hk (by omega)
  have h' : f_X8_of (nI k) 3 M = some (k_r C (6 * k + 3)) := h
  rw [h']
  show some (k_r C (6 * k + 3)) = _
  rw [d4]
theorem q_nn {w : Nat} (h : w < 2 ^ 31) : (0 : Int32) ≤ nI w := nI_pos' h
theorem a_Q {S : Nat → Nat → Int32} {D f i : Nat} {M : m_M} (h : h_Q S D M) (hf : 13 ≤ f ∧ f ≤ 15 ∨ 17 ≤ f ∧ f ≤ 19) (hi : i < D) : M.1 (h_rc f) i = S f i := by
  have e := h.1 f i (by unfold h_okq; omega)
  rw [if_neg (by omega)] at e
  exact e
theorem a_owed {C : k_C} {so day : Int32} {K k : Nat} {M : m_M} (hV : k_V C) (hG : k_G C so day K M) (hK : K ≤ k_N C) (hk : k < K) (h4 : h_kd (k_r C) k = 4) : f_X8_owedOf (nI (h_D (k_r C) k)) M = some (nI (e_lf (h_S (k_r C) (h_sb so) K).1 (h_D (k_r C) k))) := by
  obtain ⟨d1, d2, d3, d4, d5, d6⟩ := a_dl hV (show k < k_N C by omega) h4
  obtain ⟨l1, l2⟩ := k_lf hV (h_sb so) hK hk h4
  have m := (h_made_S hV.2.1 (h_sb so) h4 K hK hk).2.2
  have e := a_Q hG.1.1 (f := 13) (by omega) (h_D_lt hk h4)
  have e' : M.1 186 (h_D (k_r C) k) = (h_S (k_r C) (h_sb so) K).1 13 (h_D (k_r C) k) := e
  unfold f_X8_owedOf m_gd
  rw [if_pos (q_in d6 (by decide)), q_cl (by omega), hG.1.2.2.2.2.1 k (by omega) h4]
  have h := k_row_of (j := 4) hV hG.2 (show k < k_N C by omega) (by omega)
  have h' : f_X8_of (nI k) 4 M = some (k_r C (6 * k + 4)) := h
  rw [h']
  show (if (0 : Int32) ≤ k_r C (6 * k + 4) - M.1 186 (h_D (k_r C) k) then some (k_r C (6 * k + 4) - M.1 186 (h_D (k_r C) k)) else some 0) = _
  rw [e', ← m, l1, if_pos (q_nn (by omega))]
theorem a_there {C : k_C} {so day : Int32} {K k : Nat} {M : m_M} (hV : k_V C) (hG : k_G C so day K M) (hK : K ≤ k_N C) (hk : k < K) (h4 : h_kd (k_r C) k = 4) : f_X8_thereOf (nI (h_D (k_r C) k)) M = some (m_max 0 ((h_S (k_r C) (h_sb so) K).1 14 (h_D (k_r C) k) - (h_S (k_r C) (h_sb so) K).1 15 (h_D (k_r C) k))) := by
  obtain ⟨d1, d2, d3, d4, d5, d6⟩ := a_dl hV (show k < k_N C by omega) h4
  have e := a_Q hG.1.1 (f := 14) (by omega) (h_D_lt hk h4)
  have e' : M.1 187 (h_D (k_r C) k) = (h_S (k_r C) (h_sb so) K).1 14 (h_D (k_r C) k) := e
  have g := a_Q hG.1.1 (f := 15) (by omega) (h_D_lt hk h4)
  have g' : M.1 188 (h_D (k_r C) k) = (h_S (k_r C) (h_sb so) K).1 15 (h_D (k_r C) k) := g
  unfold f_X8_thereOf m_gd
  rw [if_pos (q_in d6 (by decide)), q_cl (by omega), e', g']
  show (if (0 : Int32) ≤ _ then some _ else some 0) = _
  by_cases c : (0 : Int32) ≤ (h_S (k_r C) (h_sb so) K).1 14 (h_D (k_r C) k) - (h_S (k_r C) (h_sb so) K).1 15 (h_D (k_r C) k)
  · rw [if_pos c, h_mx1 c]
  · rw [if_neg c, h_mx0 c]
theorem a_who {C : k_C} {so day : Int32} {K k : Nat} {M : m_M} (hV : k_V C) (hG : k_G C so day K M) (hk : k < k_N C) (h4 : h_kd (k_r C) k = 4) : f_X8_whoOf (nI (h_D (k_r C) k)) M = some (e_who (h_S (k_r C) (h_sb so) K).1 (h_a (k_r C) k)) := by
  obtain ⟨d1, d2, d3, d4, d5, d6⟩ := a_dl hV hk h4
  unfold f_X8_whoOf
  rw [a_man hV hG hk h4]
  show m_gd (m_in (nI (h_a (k_r C) k)) 10) _ = _
  unfold m_gd
  rw [if_pos (q_in d3 (by decide)), q_cl (by omega), e_Q0 hG.1.1 d3, e_Q1 hG.1.1 d3]
  unfold e_who
  by_cases z : (h_S (k_r C) (h_sb so) K).1 0 (h_a (k_r C) k) = -1
  · rw [if_pos z, if_pos z]
  · rw [if_neg z, if_neg z]
theorem a_open {C : k_C} {so day : Int32} {K k : Nat} {M : m_M} (hV : k_V C) (hG : k_G C so day K M) (hk : k < k_N C) (h4 : h_kd (k_r C) k = 4) : f_X8_isOpen (nI (h_D (k_r C) k)) M = some (e_op (h_S (k_r C) (h_sb so) K).1 day (h_a (k_r C) k)) := by
  obtain ⟨d1, d2, d3, d4, d5, d6⟩ := a_dl hV hk h4
  have hq := hG.1.1.2 (h_a (k_r C) k) d3
  have h26 : M.1 172 26 = day := hG.1.2.2.2.1.2
  have q0 := e_Q0 hG.1.1 d3
  unfold f_X8_isOpen
  rw [a_man hV hG hk h4]
  show m_ob (f_X8_whoOf (nI (h_D (k_r C) k)) M) _ = _
  rw [a_who hV hG hk h4]
  unfold e_who e_op
  generalize (h_S (k_r C) (h_sb so) K).1 = S at *
  show (if (if S 0 (h_a (k_r C) k) = -1 then S 1 (h_a (k_r C) k) else S 0 (h_a (k_r C) k)) = -1 then some 0 else m_gd (m_in (nI (h_a (k_r C) k)) 10) _) = _
  unfold m_gd
  rw [if_pos (q_in d3 (by decide)), q_cl (by omega), q0, h26]
  by_cases z : S 0 (h_a (k_r C) k) = -1
  · rw [if_pos z]
    by_cases y : S 1 (h_a (k_r C) k) = -1
    · simp only [z, y, if_true]
    · rw [if_neg y, if_pos z, if_pos z, if_neg y, (hq y).1, (hq y).2]
      by_cases x1 : S 3 (h_a (k_r C) k) = 2
      · simp only [x1, if_true]
        split <;> rfl
      · simp only [x1, if_false]
        split <;> rfl
  · rw [if_neg z, if_neg z, if_neg z, if_neg z]
/-- the class, laid -/
def k_F (C : k_C) (S : Nat → Nat → Int32) (day : Int32) (K : Nat) (M : m_M) : Prop := h_R S (h_D (k_r C) K) M ∧ M.1 45 5 = day
theorem b_dl {C : k_C} {so : Nat → Bool} {day : Int32} {K k : Nat} {M : m_M} (hV : k_V C) (hF : k_F C (h_S (k_r C) so K).1 day K M) (hK : K ≤ k_N C) (hk : k < K) (h4 : h_kd (k_r C) k = 4) : M.1 (99 + h_D (k_r C) k) 0 = nI (h_a (k_r C) k) ∧ M.1 (99 + h_D (k_r C) k) 1 = nI (h_b (k_r C) k) ∧ ∀ f, 10 ≤ f → f < 20 → M.1 (99 + h_D (k_r C) k) (f - 10) = (h_S (k_r C) so K).1 f (h_D (k_r C) k) := by
  obtain ⟨d1, d2, d3, d4, d5, d6⟩ := a_dl hV (show k < k_N C by omega) h4
  have hd := h_D_lt hk h4
  have hm := h_made_S hV.2.1 so h4 K hK hk
  have e : ∀ f, 10 ≤ f → f < 20 → M.1 (99 + h_D (k_r C) k) (f - 10) = (h_S (k_r C) so K).1 f (h_D (k_r C) k) := fun f h1 h2 => h_rd hF.1 (f := f) (by unfold h_ok; omega) (h_c10 f h1).1 (h_c10 f h1).2
  exact ⟨(e 10 (by omega) (by omega)).trans hm.1, (e 11 (by omega) (by omega)).trans (hm.2.1.trans d4), e⟩
theorem b_per {S : Nat → Nat → Int32} {D a f : Nat} {M : m_M} (h : h_R S D M) (ha : a < 10) (hf : f < 5) : M.1 (49 + 5 * a) f = S f a := h_rd h (f := f) (by unfold h_ok; omega) (h_c1 f hf).1 (h_c1 f hf).2
theorem b_left {C : k_C} {so : Nat → Bool} {day : Int32} {K k : Nat} {M : m_M} (hV : k_V C) (hF : k_F C (h_S (k_r C) so K).1 day K M) (hK : K ≤ k_N C) (hk : k < K) (h4 : h_kd (k_r C) k = 4) : f_X0_left (99 + h_D (k_r C) k) M = nI (e_lf (h_S (k_r C) so K).1 (h_D (k_r C) k)) := by
  obtain ⟨_, _, e⟩ := b_dl hV hF hK hk h4
  have e12 := e 12 (by omega) (by omega)
  have e13 := e 13 (by omega) (by omega)
  unfold f_X0_left
  rw [show M.1 (99 + h_D (k_r C) k) 2 = _ from e12, show M.1 (99 + h_D (k_r C) k) 3 = _ from e13]
  exact (k_lf hV so hK hk h4).1
theorem b_who {C : k_C} {so : Nat → Bool} {day : Int32} {K k : Nat} {M : m_M} (hV : k_V C) (hF : k_F C (h_S (k_r C) so K).1 day K M) (hK : K ≤ k_N C) (hk : k < K) (h4 : h_kd (k_r C) k = 4) : f_X1_answerer (nI (h_D (k_r C) k)) M = some (e_who (h_S (k_r C) so K).1 (h_a (k_r C) k)) := by
  obtain ⟨d1, d2, d3, d4, d5, d6⟩ := a_dl hV (show k < k_N C by omega) h4
  obtain ⟨b0, b1, e⟩ := b_dl hV hF hK hk h4
  unfold f_X1_answerer m_gd
  rw [if_pos (q_in d6 (by decide)), q_cl (by omega), b0, if_pos (q_in d3 (by decide)), q_cl (by omega), b_per hF.1 d3 (by omega), b_per hF.1 d3 (by omega)]
  unfold e_who
  by_cases z : (h_S (k_r C) so K).1 0 (h_a (k_r C) k) = -1
  · rw [if_pos z, if_pos z]
  · rw [if_neg z, if_neg z]
theorem b_open {C : k_C} {so : Nat → Bool} {day : Int32} {K k : Nat} {M : m_M} (hV : k_V C) (hF : k_F C (h_S (k_r C) so K).1 day K M) (hK : K ≤ k_N C) (hk : k < K) (h4 : h_kd (k_r C) k = 4) : f_X1_isPurseOpen (nI (h_D (k_r C) k)) M = some (e_op (h_S (k_r C) so K).1 day (h_a (k_r C) k)) := by
  obtain ⟨d1, d2, d3, d4, d5, d6⟩ := a_dl hV (show k < k_N C by omega) h4
  obtain ⟨b0, b1, e⟩ := b_dl hV hF hK hk h4
  unfold f_X1_isPurseOpen m_gd
  rw [if_pos (q_in d6 (by decide)), q_cl (by omega), b0, if_pos (q_in d3 (by decide)), q_cl (by omega), b_per hF.1 d3 (by omega), b_per hF.1 d3 (by omega), b_per hF.1 d3 (by omega), b_per hF.1 d3 (by omega), hF.2]
  unfold e_op
  split
  · split
    · rfl
    · split
      · rfl
      · split <;> rfl
  · rfl
theorem b_hid {C : k_C} {so : Nat → Bool} {day : Int32} {K k : Nat} {M : m_M} (hV : k_V C) (hF : k_F C (h_S (k_r C) so K).1 day K M) (hK : K ≤ k_N C) (hk : k < K) (h4 : h_kd (k_r C) k = 4) : f_X1_hiddenBehind (nI (h_D (k_r C) k)) M = some ((h_S (k_r C) so K).1 4 (h_a (k_r C) k) - (h_S (k_r C) so k).1 4 (h_a (k_r C) k)) := by
  obtain ⟨d1, d2, d3, d4, d5, d6⟩ := a_dl hV (show k < k_N C by omega) h4
  obtain ⟨b0, b1, e⟩ := b_dl hV hF hK hk h4
  have e16 := e 16 (by omega) (by omega)
  unfold f_X1_hiddenBehind m_gd
  rw [if_pos (q_in d6 (by decide)), q_cl (by omega), b0, if_pos (q_in d3 (by decide)), q_cl (by omega), b_per hF.1 d3 (by omega), show M.1 (99 + h_D (k_r C) k) 6 = _ from e16, h_hid hV.2.1 so h4 K hK hk]
/-! what was hidden behind a deal: the reference counts it anew -/
theorem a_h7 {n : Nat} {C : k_C} {so day : Int32} {K k : Nat} {M : m_M} (hV : k_V C) (hG : k_G C so day K M) (hd : h_day (k_r C) (k_N C) day K) (hk : k < K) (h4 : h_kd (k_r C) k = 4) : ∀ (e x u : Nat) (z : Int32), x + e = k_N C → e < u → (x ≤ k + 1 → z = 0) → (k + 1 ≤ x → z = (h_S (k_r C) (h_sb so) (min x K)).1 4 (h_a (k_r C) k) - (h_S (k_r C) (h_sb so) k).1 4 (h_a (k_r C) k)) → f_X8_hiddenOf_b7 n (nI (h_D (k_r C) k)) M u z (nI (h_B (k_r C) x)) (nI x) = some ((h_S (k_r C) (h_sb so) K).1 4 (h_a (k_r C) k) - (h_S (k_r C) (h_sb so) k).1 4 (h_a (k_r C) k)) := by
  have hN : k_N C ≤ 60 := hV.1.2.1
  have hK := hd.1
  have hE1 : M.1 173 469 = nI (k_N C) := hG.2.2.1
  obtain ⟨d1, d2, d3, d4, d5, d6⟩ := a_dl hV (show k < k_N C by omega) h4
  intro e
  induction e with
  | zero =>
    intro x u z hx hu h1 h2
    obtain ⟨u, rfl⟩ : ∃ v, u = v + 1 := ⟨u - 1, by omega⟩
    rw [f_X8_hiddenOf_b7]
    unfold f_X8_notes
    simp only [m_bd]
    rw [hE1, if_pos ((q_le (by omega) (by omega)).mpr (by omega)), h2 (by omega), show min x K = K by omega]
  | succ e ih =>
    intro x u z hx hu h1 h2
    obtain ⟨u, rfl⟩ : ∃ v, u = v + 1 := ⟨u - 1, by omega⟩
    have hxN : x < k_N C := by omega
    have hv := (hV.2.1 x hxN).1
    have hdub := (hV.2.1 x hxN).2
    have hrow := hV.2.2.1 x hxN
    have of : ∀ j, j < 6 → f_X8_of (nI x) (nI j) M = some (k_r C (6 * x + j)) := fun j hj => k_row_of hV hG.2 hxN hj
    have of5 : f_X8_of (nI x) 5 M = some (k_r C (6 * x + 5)) := of 5 (by omega)
    have of0 : f_X8_of (nI x) 0 M = some (k_r C (6 * x)) := of 0 (by omega)
    have of1 : f_X8_of (nI x) 1 M = some (k_r C (6 * x + 1)) := of 1 (by omega)
    have of2 : f_X8_of (nI x) 2 M = some (k_r C (6 * x + 2)) := of 2 (by omega)
    have of4 : f_X8_of (nI x) 4 M = some (k_r C (6 * x + 4)) := of 4 (by omega)
    have h185 := hG.1.2.2.2.2.1 k (by omega) h4
    have h26 : M.1 172 26 = day := hG.1.2.2.2.1.2
    have h24 : M.1 172 24 = so := hG.1.2.2.2.1.1
    have hB := h_B_le (k_r C) x
    -- the step of the count of doubts
    have eB : nI (h_B (k_r C) x) + k_r C (6 * x + 5) = nI (h_B (k_r C) (x + 1)) := by
      rw [h_B]
      rcases hdub.1 with b | b
      · rw [b, if_neg (by simp), q_p0]
      · rw [b, if_pos (by decide), q_up]
    -- where nothing is added
    have skip : z = 0 ∧ x ≤ k ∨ (k + 1 ≤ x ∧ (h_S (k_r C) (h_sb so) (min (x + 1) K)).1 4 (h_a (k_r C) k) = (h_S (k_r C) (h_sb so) (min x K)).1 4 (h_a (k_r C) k)) → f_X8_hiddenOf_b7 n (nI (h_D (k_r C) k)) M u z (nI (h_B (k_r C) (x + 1))) (nI (x + 1)) = some ((h_S (k_r C) (h_sb so) K).1 4 (h_a (k_r C) k) - (h_S (k_r C) (h_sb so) k).1 4 (h_a (k_r C) k)) := by
      intro q
      refine ih (x + 1) u z (by omega) (by omega) (fun c => ?_) (fun c => ?_)
      · exact h1 (by omega)
      · rcases q with ⟨q1, q2⟩ | ⟨q1, q2⟩
        · have hkx : x = k := by omega
          subst hkx
          have : (h_S (k_r C) (h_sb so) (min (x + 1) K)).1 4 (h_a (k_r C) x) = (h_S (k_r C) (h_sb so) x).1 4 (h_a (k_r C) x) := by
            rw [show min (x + 1) K = x + 1 by omega]
            rcases h_ind (so := h_sb so) hV.2.1 hxN with ⟨e1, _⟩ | e1
            · rw [e1]
            · rw [e1, h_st4 hv.2.1, if_neg (by omega)]
          rw [this, q1, Int32.sub_self]
        · rw [q2]
          exact h2 q1
    have b43 : ∀ s0, (s0 = 0 → k_r C (6 * x + 5) ≠ 0 ∧ h_sb so (h_B (k_r C) x) = false) → (s0 ≠ 0 → k_r C (6 * x + 5) = 0 ∨ h_sb so (h_B (k_r C) x) = true) → f_X8_hiddenOf_b43 n (nI (h_D (k_r C) k)) M (f_X8_hiddenOf_b7 n (nI (h_D (k_r C) k)) M u) z (nI (h_B (k_r C) x)) (nI x) s0 = some ((h_S (k_r C) (h_sb so) K).1 4 (h_a (k_r C) k) - (h_S (k_r C) (h_sb so) k).1 4 (h_a (k_r C) k)) := by
      intro s0 s1 s2
      unfold f_X8_hiddenOf_b43
      rw [of5]
      show (if s0 = 0 then f_X8_hiddenOf_b7 n (nI (h_D (k_r C) k)) M u z (nI (h_B (k_r C) x) + k_r C (6 * x + 5)) (nI x + 1) else _) = _
      rw [eB, q_up]
      by_cases c0 : s0 = 0
      · rw [if_pos c0]
        obtain ⟨t1, t2⟩ := s1 c0
        refine skip ?_
        by_cases c : x ≤ k
        · exact Or.inl ⟨h1 (by omega), c⟩
        · refine Or.inr ⟨by omega, ?_⟩
          by_cases cK : x < K
          · rw [show min (x + 1) K = x + 1 by omega, show min x K = x by omega, h_S_no hV.2.1 hxN t1 t2]
          · rw [show min (x + 1) K = K by omega, show min x K = K by omega]
      · rw [if_neg c0]
        unfold m_gd
        rw [if_pos (q_in d6 (by decide)), q_cl (by omega), h185]
        by_cases c : x ≤ k
        · rw [if_pos ((q_le (by omega) (by omega)).mpr c)]
          exact skip (Or.inl ⟨h1 (by omega), c⟩)
        · rw [if_neg (fun q => c ((q_le (by omega) (by omega)).mp q)), of0]
          show (if M.1 172 26 < k_r C (6 * x) then _ else _) = _
          rw [h26]
          by_cases cK : x < K
          · rw [if_neg (Int32.not_lt.mpr (hd.2.1 x cK)), of1]
            have hst := h_S_so hV.2.1 hxN (s2 c0)
            have key : (h_S (k_r C) (h_sb so) (min (x + 1) K)).1 4 (h_a (k_r C) k) = if h_kd (k_r C) x = 3 ∧ h_a (k_r C) k = h_a (k_r C) x then (h_S (k_r C) (h_sb so) (min x K)).1 4 (h_a (k_r C) x) + k_r C (6 * x + 4) else (h_S (k_r C) (h_sb so) (min x K)).1 4 (h_a (k_r C) k) := by
              rw [show min (x + 1) K = x + 1 by omega, show min x K = x by omega, hst, h_st4 hv.2.1]
            show (if k_r C (6 * x + 1) = 3 then _ else _) = _
            rw [hv.1]
            by_cases c3 : h_kd (k_r C) x = 3
            · rw [if_pos (by rw [c3]; rfl), of2]
              show m_ob (f_X8_manOf (nI (h_D (k_r C) k)) M) _ = _
              rw [a_man hV hG (by omega) h4]
              show (if k_r C (6 * x + 2) = nI (h_a (k_r C) k) then _ else _) = _
              have hax := hv.2.2.2.2.1 (by unfold h_isd; omega)
              rw [hv.2.2.1]
              by_cases ca : h_a (k_r C) x = h_a (k_r C) k
              · rw [if_pos (by rw [ca]), of4]
                show f_X8_hiddenOf_b7 n (nI (h_D (k_r C) k)) M u (z + k_r C (6 * x + 4)) (nI (h_B (k_r C) (x + 1))) (nI (x + 1)) = _
                rw [if_pos ⟨c3, ca.symm⟩] at key
                refine ih (x + 1) u _ (by omega) (by omega) (fun c => by omega) (fun c => ?_)
                rw [key, h2 (by omega), ca, Int32.sub_eq_add_neg, Int32.sub_eq_add_neg, Int32.add_assoc, Int32.add_assoc, Int32.add_comm (-_)]
              · rw [if_neg (fun q => ca ((nI_eq (by omega) (by omega)).mp q))]
                rw [if_neg (fun q => ca q.2.symm)] at key
                exact skip (Or.inr ⟨by omega, key⟩)
            · have n3 : ¬ nI (h_kd (k_r C) x) = 3 := fun q => c3 ((nI_eq (by have := hv.2.1; omega) (by decide)).mp q)
              rw [if_neg n3]
              rw [if_neg (fun q => c3 q.1)] at key
              exact skip (Or.inr ⟨by omega, key⟩)
          · rw [if_pos (hd.2.2 x (by omega) hxN)]
            exact skip (Or.inr ⟨by omega, by rw [show min (x + 1) K = K by omega, show min x K = K by omega]⟩)
    rw [f_X8_hiddenOf_b7]
    unfold f_X8_notes
    simp only [m_bd]
    rw [hE1, if_neg (fun q => absurd ((q_le (by omega) (by omega)).mp q) (by omega)), of5]
    show (if k_r C (6 * x + 5) = 0 then _ else _) = _
    by_cases c5 : k_r C (6 * x + 5) = 0
    · rw [if_pos c5]
      exact b43 1 (fun q => absurd q (by decide)) (fun _ => Or.inl c5)
    · rw [if_neg c5, h24]
      by_cases cs : ((so >>> (nI (h_B (k_r C) x) &&& 31)) &&& (1 : Int32)) = 1
      · rw [if_pos cs]
        exact b43 1 (fun q => absurd q (by decide)) (fun _ => Or.inr (by unfold h_sb; rw [decide_eq_true_iff]; exact cs))
      · rw [if_neg cs]
        exact b43 0 (fun _ => ⟨c5, by unfold h_sb; rw [decide_eq_false_iff_not]; exact cs⟩) (fun q => absurd rfl q)
theorem a_hid {n : Nat} {C : k_C} {so day : Int32} {K k : Nat} {M : m_M} (hn : 200 < n) (hV : k_V C) (hG : k_G C so day K M) (hd : h_day (k_r C) (k_N C) day K) (hk : k < K) (h4 : h_kd (k_r C) k = 4) : f_X8_hiddenOf n (nI (h_D (k_r C) k)) M = some ((h_S (k_r C) (h_sb so) K).1 4 (h_a (k_r C) k) - (h_S (k_r C) (h_sb so) k).1 4 (h_a (k_r C) k)) :=
  a_h7 hV hG hd hk h4 (k_N C) 0 n 0 (by omega) (by have := hV.1.2.1; omega) (fun _ => rfl) (fun q => by omega)
