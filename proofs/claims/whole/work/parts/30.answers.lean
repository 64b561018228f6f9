/-! CALLS: answers -/
/-- the fields of a deal, out of its note -/
def h_made (S : Nat → Nat → Int32) (r : Nat → Int32) (k : Nat) : Prop := S 10 (h_D r k) = nI (h_a r k) ∧ S 11 (h_D r k) = r (6 * k + 3) ∧ S 12 (h_D r k) = r (6 * k + 4)
theorem h_made_st {S : Nat → Nat → Int32} {D kd a d f : Nat} {day b v : Int32} (hd : d ≠ D) (hf : f = 10 ∨ f = 11 ∨ f = 12) : h_st S D kd a day b v f d = S f d := by
  match kd with
  | 0 => unfold h_st h_up; simp only []; repeat (rw [if_neg (by omega)])
  | 1 => unfold h_st h_up; simp only []; rw [if_neg (by omega)]
  | 2 => unfold h_st h_up; simp only []; rw [if_neg (by omega)]
  | 3 => unfold h_st h_up; simp only []; repeat (rw [if_neg (by omega)])
  | 4 => unfold h_st; simp only []; rw [if_neg (by omega)]
  | 5 => unfold h_st h_up; simp only []; rw [if_neg (by omega)]
  | 6 => unfold h_st h_up; simp only []; rw [if_neg (by omega)]
  | 7 => unfold h_st h_up; simp only []; rw [if_neg (by omega)]
  | 8 => unfold h_st h_up; simp only []; rw [if_neg (by omega)]
  | 9 => unfold h_st h_up; simp only []; rw [if_neg (by omega)]
  | 10 => unfold h_st h_up; simp only []; rw [if_neg (by omega)]
  | 11 => unfold h_st h_up; simp only []; rw [if_neg (by omega)]
  | 12 => unfold h_st h_up; simp only []; rw [if_neg (by omega)]
  | 13 => unfold h_st h_up; simp only []; rw [if_neg (by omega)]
  | k + 14 => unfold h_st h_up; simp only []; repeat (rw [if_neg (by omega)])
theorem h_made_S {r : Nat → Int32} {N : Nat} (hW : h_W r N) (so : Nat → Bool) {k : Nat} (e4 : h_kd r k = 4) : ∀ K, K ≤ N → k < K → h_made (h_S r so K).1 r k
  | 0, _, h => absurd h (Nat.not_lt_zero _)
  | K + 1, hK, h => by
    have hs := h_SD (so := so) hW K (by omega)
    rw [h_S]
    by_cases c : k = K
    · subst c
      have hd := (hW k (by omega)).2
      rw [if_neg (fun q => (hd.2 q.1).2.1 e4)]
      unfold h_made
      rw [hs.1, e4]
      simp [h_st, h_dl]
    · have ih := h_made_S hW so e4 K (by omega) (by omega)
      have hlt := h_D_lt (show k < K by omega) e4
      unfold h_made at ih ⊢
      split
      · exact ih
      · simp only []
        rw [h_made_st (by omega) (by omega), h_made_st (by omega) (by omega), h_made_st (by omega) (by omega)]
        exact ih
theorem k_D60 {C : k_C} (hV : k_V C) {K : Nat} (hK : K ≤ k_N C) : h_D (k_r C) K ≤ 60 := by
  have := h_D_le (k_r C) K
  have := hV.1.2.1
  omega
theorem k_there {x day : Int32} {S : Nat → Nat → Int32} {D : Nat} {M : m_M} (h : h_R S D M) : f_X1_isThere x M = e_in x D := by
  unfold f_X1_isThere e_in
  rw [h.1]
/-- a refusal on a deal, the reference's side -/
theorem k_row_of {C : k_C} {M : m_M} (hV : k_V C) (hE : k_E C 173 0 M) {k j : Nat} (hk : k < k_N C) (hj : j < 6) : f_X8_of (nI k) (nI j) M = some (k_r C (6 * k + j)) :=
  h_of (N := k_N C) (fun j hj => by have := hE.2.2.2.1 j hj; rw [Nat.zero_add] at this; exact this) hk hV.1.2.1 hj
theorem z_answers {n : Nat} {x1 x2 : Int32} {M : m_M} (hn : 200 < n) (h : k_Inv M) : q_T (f_X7_answers n x1 x2 M) (fun a => z_eq a (f_X8_answers n x1 x2 a.2)) := by
  obtain ⟨C, C0, C1, hM⟩ := h
  obtain ⟨⟨hV, hA, hE⟩, hI⟩ := id hM
  have hP : k_P C ≤ 10 := hV.1.1
  have hDN := k_D60 hV (Nat.le_refl (k_N C))
  have ref : e_in x1 (h_D (k_r C) (k_N C)) = 0 ∨ e_in x2 1000 = 0 → z_eq (-10, M) (f_X8_answers n x1 x2 M) := by
    intro hc
    unfold z_eq f_X8_answers
    refine q_o2 (q_mono (k_asked (n := n) hn hM x1 x2) (fun a ha => ?_))
    refine q_it ?_ (q_some ⟨rfl, C, C0, C1, ha.2.1⟩)
    rw [ha.1]
    rcases hc with q | q
    · rw [if_pos q]
    · rw [if_pos q]
      exact ite_self _
  unfold f_X7_answers
  refine q_bd ?_
  rw [e_dl7 hA.2.2.1]
  rcases e_in_of (x := x1) (n := h_D (k_r C) (k_N C)) (by omega) with ⟨e1, _⟩ | ⟨e1, d, hd, rfl⟩
  · exact q_it e1 (q_some (ref (Or.inl e1)))
  · refine q_if (by rw [e1]; decide) (q_bd ?_)
    rw [e_day7]
    rcases e_in_of (x := x2) (n := 1000) (by omega) with ⟨e2, _⟩ | ⟨e2, dy, hdy, rfl⟩
    · exact q_it e2 (q_some (ref (Or.inr e2)))
    · refine q_if (by rw [e2]; decide) ?_
      obtain ⟨K, hK⟩ := k_isday hV (nI dy)
      obtain ⟨fl, val, y1, y2⟩ := k_law hA (l := 0) (by omega)
      have hac := k_ac hV h_all hK.1
      have hDK := k_D60 hV hK.1
      refine q_ob (q_mono (k_replay (n := n) (ns := 0) hn hV hA hK) (fun M1 h1 => q_bd ?_))
      obtain ⟨⟨a1, _, _⟩, a4⟩ := h1
      have hM1 := k_M_h hM a4
      rw [k_ns0 hV hK.1] at a1
      rw [k_there (day := 0) a1]
      have early : ∀ M' : m_M, (∀ k, k < k_N C → h_kd (k_r C) k = 4 → M'.1 185 (h_D (k_r C) k) = nI k) → k_M C C0 C1 M' → f_X8_isEarly (nI d) (nI dy) M' = some (if d < h_D (k_r C) K then 0 else 1) := fun M' h185 hM' => k_early hV hM'.1.2.2 h185 hK hd
      by_cases c : d < h_D (k_r C) K
      · have e3 : e_in (nI d) (h_D (k_r C) K) ≠ 0 := by
          rcases e_in_of (x := nI d) (n := h_D (k_r C) K) (by omega) with ⟨_, q⟩ | ⟨q, _⟩
          · exact absurd ⟨d, c, rfl⟩ q
          · rw [q]; decide
        refine q_if e3 ?_
        obtain ⟨k, k1, k2, rfl⟩ := h_D_ex _ _ _ c
        have hkN : k < k_N C := by have := hK.1; omega
        have hmade := h_made_S hV.2.1 h_all k2 K hK.1 k1
        have hv := (hV.2.1 k hkN).1
        have hrow := hV.2.2.1 k hkN
        have ha : h_a (k_r C) k < k_P C := hrow.2.1 (by unfold h_isd; omega)
        have s10 : M1.1 (99 + h_D (k_r C) k) 0 = nI (h_a (k_r C) k) := (h_rd a1 (f := 10) (by unfold h_ok; omega) (h_c10 10 (by omega)).1 (h_c10 10 (by omega)).2).trans hmade.1
        have s0 := e_hand a1 (show h_a (k_r C) k < 10 by omega)
        have s1 : M1.1 (49 + 5 * h_a (k_r C) k) 1 = (h_S (k_r C) h_all K).1 1 (h_a (k_r C) k) := h_rd a1 (f := 1) (by unfold h_ok; omega) (h_c1 1 (by omega)).1 (h_c1 1 (by omega)).2
        unfold f_X1_answerer
        have ref2 : ∀ r, (r = if (h_S (k_r C) h_all K).1 0 (h_a (k_r C) k) = -1 then (h_S (k_r C) h_all K).1 1 (h_a (k_r C) k) else (h_S (k_r C) h_all K).1 0 (h_a (k_r C) k)) → z_eq (r, M1) (f_X8_answers n (nI (h_D (k_r C) k)) (nI dy) M1) := by
          intro r hr
          unfold z_eq f_X8_answers
          refine q_o2 (q_mono (k_asked (n := n) hn hM1 _ _) (fun a ha' => ?_))
          obtain ⟨b1, b2, b3⟩ := ha'
          rw [e1, if_neg (by decide), e2, if_neg (by decide)] at b1
          refine q_if (by rw [b1]; decide) (q_ob (q_of (early a.2 b3 b2) ?_))
          rw [if_pos c]
          refine q_it rfl (q_ob (q_mono (k_today (n := n) hn b2 y2 hK) (fun M2 h2 => ?_)))
          obtain ⟨⟨c1, c2, c3⟩, c4⟩ := h2
          refine q_ob ?_
          unfold f_X8_whoOf f_X8_manOf
          refine q_ob (q_gd (q_in (by omega) (by decide)) ?_)
          rw [q_cl (by omega), c1.2.2.2.2.1 k hkN k2]
          refine q_ob (q_of (k_row_of (j := 2) hV c4.1.2.2 hkN (by omega)) (q_some ?_))
          rw [hv.2.2.1]
          refine q_gd (q_in (by omega) (by decide)) ?_
          rw [q_cl (by omega), e_Q0 c2 (by omega), e_Q1 c2 (by omega)]
          by_cases z : (h_S (k_r C) h_all K).1 0 (h_a (k_r C) k) = -1
          · rw [if_pos z] at hr ⊢
            exact q_some (q_some ⟨hr, C, C0, C1, c4⟩)
          · rw [if_neg z] at hr ⊢
            exact q_some (q_some ⟨hr, C, C0, C1, c4⟩)
        refine q_ob (q_gd (q_in (by omega) (by decide)) ?_)
        rw [q_cl (i := h_D (k_r C) k) (by omega), s10]
        refine q_gd (q_in (by omega) (by decide)) ?_
        rw [q_cl (by omega), s0, s1]
        by_cases z : (h_S (k_r C) h_all K).1 0 (h_a (k_r C) k) = -1
        · rw [if_pos z]
          exact q_some (q_some (ref2 _ (by rw [if_pos z])))
        · rw [if_neg z]
          exact q_some (q_some (ref2 _ (by rw [if_neg z])))
      · have e3 : e_in (nI d) (h_D (k_r C) K) = 0 := by
          rcases e_in_of (x := nI d) (n := h_D (k_r C) K) (by omega) with ⟨q, _⟩ | ⟨_, d', q1, q2⟩
          · exact q
          · have := (nI_eq (by omega) (by omega)).mp q2
            omega
        refine q_it e3 (q_some ?_)
        unfold z_eq f_X8_answers
        refine q_o2 (q_mono (k_asked (n := n) hn hM1 _ _) (fun a ha' => ?_))
        obtain ⟨b1, b2, b3⟩ := ha'
        rw [e1, if_neg (by decide), e2, if_neg (by decide)] at b1
        refine q_if (by rw [b1]; decide) (q_ob (q_of (early a.2 b3 b2) ?_))
        rw [if_neg c]
        exact q_if (by decide) (q_some ⟨rfl, C, C0, C1, b2⟩)
