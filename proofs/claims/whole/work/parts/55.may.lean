/-! A NOTE: may it come, on both sides -/
theorem n_sm_of {x : Int32} (h : n_sm x ≠ 0) : ∃ v, 1 ≤ v ∧ v ≤ 1000 ∧ x = nI v := by
  unfold n_sm at h
  by_cases c : x < 1
  · rw [if_pos c] at h
    exact absurd rfl h
  · rw [if_neg c] at h
    by_cases c2 : (1000 : Int32) < x
    · rw [if_pos c2] at h
      exact absurd rfl h
    · have h1 : ¬ x.toInt < 1 := fun q => c (Int32.lt_iff_toInt_lt.mpr q)
      have h2 : ¬ (1000 : Int32).toInt < x.toInt := fun q => c2 (Int32.lt_iff_toInt_lt.mpr q)
      have h3 : (1000 : Int32).toInt = 1000 := by decide
      obtain ⟨j, hj, rfl⟩ := nI_of (x := x) (by rw [q_il0]; omega)
      rw [nI_toInt hj] at h1 h2
      exact ⟨j, by omega, by omega, rfl⟩
theorem e_in_ne {x : Int32} {n : Nat} (hn : n < 2 ^ 31) (h : ¬ e_in x n = 0) : ∃ d, d < n ∧ x = nI d := by
  rcases e_in_of (x := x) hn with ⟨q, _⟩ | ⟨_, q⟩
  · exact absurd q h
  · exact q
def n_F (P D k : Nat) (x2 x3 x4 : Int32) : Prop := (h_isd k → ∃ a, a < D ∧ x2 = nI a) ∧ (¬ h_isd k → ∃ a, a < P ∧ x2 = nI a) ∧ (k = 0 → x3 = -1 ∨ ∃ b, b < P ∧ x3 = nI b) ∧ ((1 ≤ k ∧ k ≤ 4 ∨ 6 ≤ k ∧ k ≤ 8) → ∃ b, b < 4 ∧ x3 = nI b) ∧ ((k = 11 ∨ k = 12) → ∃ b, b < P ∧ x3 = nI b) ∧ (k = 14 → ∃ b, b < 3 ∧ x3 = nI b) ∧ ((1 ≤ k ∧ k ≤ 4) ∨ (9 ≤ k ∧ k ≤ 13) → ∃ v, 1 ≤ v ∧ v ≤ 1000 ∧ x4 = nI v)
theorem n_fk_of {P D k : Nat} {x2 x3 x4 : Int32} (hP : P < 2 ^ 31) (hD : D < 2 ^ 31) (hk : k < 15) (h : ¬ n_fk P D k x2 x3 x4 = 0) : n_F P D k x2 x3 x4 := by
  unfold n_fk at h
  by_cases c1 : e_in x2 (if k = 5 ∨ k = 9 ∨ k = 10 ∨ k = 13 then D else P) = 0
  · rw [if_pos c1] at h
    exact absurd rfl h
  rw [if_neg c1] at h
  by_cases c2 : n_bb P (n_cb k) x2 x3 = 0
  · rw [if_pos c2] at h
    exact absurd rfl h
  rw [if_neg c2] at h
  refine ⟨fun q => ?_, fun q => ?_, fun q => ?_, fun q => ?_, fun q => ?_, fun q => ?_, fun q => ?_⟩
  · unfold h_isd at q
    rw [if_pos q] at c1
    exact e_in_ne hD c1
  · unfold h_isd at q
    rw [if_neg q] at c1
    exact e_in_ne hP c1
  · subst q
    unfold n_bb n_cb at c2
    rw [if_pos rfl, if_pos rfl] at c2
    by_cases c : x3 = -1
    · exact Or.inl c
    · rw [if_neg c] at c2
      exact Or.inr (e_in_ne hP c2)
  · have hc : n_cb k = 116 := by
      unfold n_cb
      rw [if_neg (by omega), if_neg (by omega), if_neg (by omega), if_neg (by omega)]
    rw [hc] at c2
    unfold n_bb at c2
    rw [if_neg (by decide), if_neg (by decide), if_pos rfl] at c2
    exact e_in_ne (by omega) c2
  · have hc : n_cb k = 111 := by
      unfold n_cb
      rw [if_neg (by omega), if_neg (by omega), if_pos q]
    rw [hc] at c2
    unfold n_bb at c2
    rw [if_neg (by decide), if_pos rfl] at c2
    by_cases c : e_in x3 P = 0
    · rw [if_pos c] at c2
      exact absurd rfl c2
    · exact e_in_ne hP c
  · subst q
    have hc : n_cb 14 = 119 := by decide
    rw [hc] at c2
    unfold n_bb at c2
    rw [if_neg (by decide), if_neg (by decide), if_neg (by decide), if_pos rfl] at c2
    exact e_in_ne (by omega) c2
  · unfold n_vv at h
    rw [if_pos q] at h
    exact n_sm_of h
def n_hit (S : Nat → Nat → Int32) (t : Int32) : Nat → Int32 → Bool
  | 0, _ => false
  | f + 1, x => if x = -1 then false else if x = t then true else n_hit S t f (S 0 x.toNatClampNeg)
theorem b_hit {n D P a : Nat} {S : Nat → Nat → Int32} {M : m_M} {x1 : Int32} {ρ : Nat → Nat} (hP : P ≤ 10) (hR : h_R S D M) (hh : e_hd S P) (hρ : e_rk S P ρ) : ∀ (m : Nat) (x : Int32) (c u f : Nat), (x = -1 ∨ ∃ p, p < P ∧ x = nI p ∧ ρ p < m) → c + m ≤ 10 → m < u → m < f → f_X1_isInHand_b5 n x1 (nI a) M u x (nI c) = some (l_b (n_hit S (nI a) f x)) := by
  intro m
  induction m with
  | zero =>
    intro x c u f hx hc hu hf
    obtain ⟨u, rfl⟩ : ∃ v, u = v + 1 := ⟨u - 1, by omega⟩
    obtain ⟨f, rfl⟩ : ∃ v, f = v + 1 := ⟨f - 1, by omega⟩
    have g : ¬ (10 : Int32) < nI c := fun q => by have := (q_lt (a := 10) (by decide) (by omega)).mp q; omega
    have hx' : x = -1 := by
      rcases hx with q | ⟨p, _, _, q⟩
      · exact q
      · omega
    rw [f_X1_isInHand_b5, if_neg g, if_pos hx', n_hit, if_pos hx']
    rfl
  | succ m ih =>
    intro x c u f hx hc hu hf
    obtain ⟨u, rfl⟩ : ∃ v, u = v + 1 := ⟨u - 1, by omega⟩
    obtain ⟨f, rfl⟩ : ∃ v, f = v + 1 := ⟨f - 1, by omega⟩
    have g : ¬ (10 : Int32) < nI c := fun q => by have := (q_lt (a := 10) (by decide) (by omega)).mp q; omega
    rw [f_X1_isInHand_b5, if_neg g, n_hit]
    by_cases c1 : x = -1
    · rw [if_pos c1, if_pos c1]
      rfl
    · rw [if_neg c1, if_neg c1]
      by_cases c2 : x = nI a
      · rw [if_pos c2, if_pos c2]
        rfl
      · rw [if_neg c2, if_neg c2]
        obtain ⟨p, p1, rfl, p3⟩ : ∃ p, p < P ∧ x = nI p ∧ ρ p < m + 1 := by
          rcases hx with q | q
          · exact absurd q c1
          · exact q
        unfold m_gd m_bd
        rw [if_pos (q_in (by omega) (by decide)), q_cl (by omega)]
        show f_X1_isInHand_b5 n x1 (nI a) M u (M.1 (49 + 5 * p) 0) (nI c + 1) = _
        rw [e_hand hR (by omega), q_up]
        refine ih _ (c + 1) u f ?_ (by omega) (by omega) (by omega)
        rcases hh p p1 with q | ⟨q, q1, q2⟩
        · exact Or.inl q
        · exact Or.inr ⟨q, q1, q2, by have := hρ.2 p q p1 q1 q2; omega⟩
theorem a_hit {n D P a : Nat} {S : Nat → Nat → Int32} {M : m_M} {x1 : Int32} {ρ : Nat → Nat} (ha : a < 10) (hP : P ≤ 10) (hR : h_Q S D M) (hh : e_hd S P) (hρ : e_rk S P ρ) : ∀ (m : Nat) (x : Int32) (u f : Nat), (x = -1 ∨ ∃ p, p < P ∧ x = nI p ∧ ρ p < m) → m < u → m < f → f_X8_isUnder_b2 n x1 (nI a) M u x = some (l_b (n_hit S (nI a) f x)) := by
  have na : ¬ (-1 : Int32) = nI a := fun q => q_m1 (by omega) q.symm
  have z : ∀ (x : Int32) (u f : Nat), x = -1 → f_X8_isUnder_b2 n x1 (nI a) M (u + 1) x = some (l_b (n_hit S (nI a) (f + 1) x)) := by
    intro x u f hx
    rw [f_X8_isUnder_b2, if_pos hx, n_hit, if_pos hx]
    unfold f_X8_isUnder_b22
    rw [hx, if_neg na]
    rfl
  intro m
  induction m with
  | zero =>
    intro x u f hx hu hf
    obtain ⟨u, rfl⟩ : ∃ v, u = v + 1 := ⟨u - 1, by omega⟩
    obtain ⟨f, rfl⟩ : ∃ v, f = v + 1 := ⟨f - 1, by omega⟩
    refine z x u f ?_
    rcases hx with q | ⟨p, _, _, q⟩
    · exact q
    · omega
  | succ m ih =>
    intro x u f hx hu hf
    obtain ⟨u, rfl⟩ : ∃ v, u = v + 1 := ⟨u - 1, by omega⟩
    obtain ⟨f, rfl⟩ : ∃ v, f = v + 1 := ⟨f - 1, by omega⟩
    by_cases c1 : x = -1
    · exact z x u f c1
    · rw [f_X8_isUnder_b2, if_neg c1, n_hit, if_neg c1]
      by_cases c2 : x = nI a
      · rw [if_pos c2, if_pos c2]
        unfold f_X8_isUnder_b22
        rw [if_pos c2]
        rfl
      · rw [if_neg c2, if_neg c2]
        obtain ⟨p, p1, rfl, p3⟩ : ∃ p, p < P ∧ x = nI p ∧ ρ p < m + 1 := by
          rcases hx with q | q
          · exact absurd q c1
          · exact q
        unfold m_gd
        rw [if_pos (q_in (by omega) (by decide)), q_cl (by omega), e_Q0 hR (by omega)]
        refine ih _ u f ?_ (by omega) (by omega)
        rcases hh p p1 with q | ⟨q, q1, q2⟩
        · exact Or.inl q
        · exact Or.inr ⟨q, q1, q2, by have := hρ.2 p q p1 q1 q2; omega⟩
def n_mk (S : Nat → Nat → Int32) (k : Nat) (x2 x3 x4 : Int32) : Bool :=
  if k = 0 then (if x3 = -1 then true else !(n_hit S x2 11 x3))
  else if k = 2 ∨ k = 3 then !decide (e_pt S x2.toNatClampNeg x3.toNatClampNeg < x4)
  else if k = 5 then decide (S 17 x2.toNatClampNeg = 0)
  else if k = 6 then decide (S 7 (4 * x2.toNatClampNeg + x3.toNatClampNeg) = 0)
  else if k = 7 then !decide (S 7 (4 * x2.toNatClampNeg + x3.toNatClampNeg) = 0)
  else if k = 8 then decide (S 8 (4 * x2.toNatClampNeg + x3.toNatClampNeg) = 0)
  else if k = 9 then !decide (S 12 x2.toNatClampNeg < S 14 x2.toNatClampNeg + x4)
  else if k = 10 then !decide (m_max 0 (S 14 x2.toNatClampNeg - S 15 x2.toNatClampNeg) < x4)
  else if k = 12 then !decide (e_db S x2.toNatClampNeg x3.toNatClampNeg < x4)
  else if k = 13 then !decide (S 12 x2.toNatClampNeg - S 13 x2.toNatClampNeg < x4)
  else if k = 14 then !decide (S 0 x2.toNatClampNeg = -1)
  else true
theorem h_st17 {S : Nat → Nat → Int32} {D kd a i : Nat} {day b v : Int32} (hk : kd < 15) : h_st S D kd a day b v 17 i = if kd = 5 ∧ i = a then 1 else if kd = 4 ∧ i = D then 0 else S 17 i := by
  have hc : kd = 0 ∨ kd = 1 ∨ kd = 2 ∨ kd = 3 ∨ kd = 4 ∨ kd = 5 ∨ kd = 6 ∨ kd = 7 ∨ kd = 8 ∨ kd = 9 ∨ kd = 10 ∨ kd = 11 ∨ kd = 12 ∨ kd = 13 ∨ kd = 14 := by omega
  rcases hc with e | e | e | e | e | e | e | e | e | e | e | e | e | e | e <;> subst e <;> simp [h_st, h_up, h_dl]
theorem h_b17 {r : Nat → Int32} {N : Nat} (hW : h_W r N) (so : Nat → Bool) (i : Nat) : ∀ k, k ≤ N → m_B ((h_S r so k).1 17 i)
  | 0, _ => Or.inl rfl
  | k + 1, hk => by
    have ih := h_b17 hW so i k (by omega)
    have hkd := (hW k (by omega)).1.2.1
    rcases h_ind (so := so) hW (show k < N by omega) with ⟨e1, _⟩ | e1
    · rw [e1]
      exact ih
    · rw [e1, h_st17 hkd]
      split
      · exact Or.inr rfl
      · split
        · exact Or.inl rfl
        · exact ih
theorem n_lb0 {x : Int32} (h : m_B x) : x = l_b (!decide (x = 0)) := by
  rcases h with q | q
  · rw [q]
    decide
  · rw [q]
    decide
theorem n_le (x y : Int32) : (if x ≤ y then some (0 : Int32) else some 1) = some (l_b (!(!decide (y < x)))) := by
  by_cases c : x ≤ y
  · rw [if_pos c, decide_eq_false (Int32.not_lt.mpr c)]
    rfl
  · rw [if_neg c, decide_eq_true (Int32.not_le.mp c)]
    rfl
theorem n_lt (x y : Int32) : (if y < x then some (0 : Int32) else some 1) = some (l_b (!decide (y < x))) := by
  by_cases c : y < x
  · rw [if_pos c, decide_eq_true c]
    rfl
  · rw [if_neg c, decide_eq_false c]
    rfl
theorem n_eq0 (x : Int32) : (if x = 0 then some (1 : Int32) else some 0) = some (l_b (decide (x = 0))) := by
  by_cases c : x = 0
  · rw [if_pos c, decide_eq_true c]
    rfl
  · rw [if_neg c, decide_eq_false c]
    rfl
theorem n_eqm (x : Int32) : (if x = -1 then some (1 : Int32) else some 0) = some (l_b (decide (x = -1))) := by
  by_cases c : x = -1
  · rw [if_pos c, decide_eq_true c]
    rfl
  · rw [if_neg c, decide_eq_false c]
    rfl
theorem b_ref {n : Nat} {C : k_C} {M : m_M} {k : Nat} {x2 x3 x4 : Int32} (hn : 200 < n) (hV : k_V C) (hR : h_R (h_S (k_r C) h_all (k_N C)).1 (h_D (k_r C) (k_N C)) M) (hk : k < 15) (hF : n_F (k_P C) (h_D (k_r C) (k_N C)) k x2 x3 x4) : f_X1_refuses n (nI k) x2 x3 x4 M = some (l_b (!n_mk (h_S (k_r C) h_all (k_N C)).1 k x2 x3 x4)) := by
  have hP := hV.1.1
  have hD := k_D60 hV (Nat.le_refl (k_N C))
  have hac := k_ac hV h_all (Nat.le_refl (k_N C))
  obtain ⟨hh, ρ, ρ1, ρ2⟩ := hac
  have hB := h_bo_S (k_r C) h_all (k_N C)
  have h17 := fun i => h_b17 hV.2.1 h_all i (k_N C) (Nat.le_refl _)
  obtain ⟨F1, F2, F3, F4, F5, F6, F7⟩ := hF
  generalize hS : (h_S (k_r C) h_all (k_N C)).1 = S at *
  generalize hDD : h_D (k_r C) (k_N C) = D at *
  have fld : ∀ d f, d < D → 10 ≤ f → f < 20 → M.1 (99 + d) (f - 10) = S f d := fun d f hd h1 h2 => h_rd hR (f := f) (by unfold h_ok; omega) (h_c10 f h1).1 (h_c10 f h1).2
  unfold f_X1_refuses
  rw [h_chA k hk]
  show (if (if k = 5 ∨ k = 9 ∨ k = 10 ∨ k = 13 then (100 : Int32) else 112) = 100 then _ else _) = _
  have hc : k = 0 ∨ k = 1 ∨ k = 2 ∨ k = 3 ∨ k = 4 ∨ k = 5 ∨ k = 6 ∨ k = 7 ∨ k = 8 ∨ k = 9 ∨ k = 10 ∨ k = 11 ∨ k = 12 ∨ k = 13 ∨ k = 14 := by omega
  unfold m_gd
  rcases hc with e | e | e | e | e | e | e | e | e | e | e | e | e | e | e <;> subst e
  · obtain ⟨a, ha, rfl⟩ := F2 (by unfold h_isd; omega)
    rw [if_neg (by decide), if_pos (by decide)]
    have hit := b_hit (n := n) (a := a) (x1 := x3) (M := M) hP hR hh ⟨ρ1, ρ2⟩ 10 x3 0 n 11 (by
      rcases F3 rfl with q | ⟨b, b1, b2⟩
      · exact Or.inl q
      · exact Or.inr ⟨b, b1, b2, by have := ρ1 b b1; omega⟩) (by omega) (by omega) (by omega)
    have hit' : f_X1_isInHand n x3 (nI a) M = some (l_b (n_hit S (nI a) 11 x3)) := hit
    rw [hit']
    show some (l_b (n_hit S (nI a) 11 x3)) = _
    unfold n_mk
    rw [if_pos rfl]
    by_cases c : x3 = -1
    · rw [if_pos c, c, n_hit, if_pos rfl]
      rfl
    · rw [if_neg c, Bool.not_not]
  · rw [if_neg (by decide), if_neg (by decide), if_neg (by decide), if_neg (by decide), if_neg (by decide), if_neg (by decide), if_neg (by decide), if_neg (by decide), if_neg (by decide)]
    rfl
  · obtain ⟨a, ha, rfl⟩ := F2 (by unfold h_isd; omega)
    obtain ⟨b, hb, rfl⟩ := F4 (by omega)
    rw [if_neg (by decide), if_neg (by decide), if_pos (by decide), if_pos (q_in (by omega) (by decide)), q_cl (by omega), e_partC hR (by omega) hb]
    show (if x4 ≤ e_pt S a b then some 0 else some 1) = _
    rw [n_le]
    unfold n_mk
    rw [if_neg (by decide), if_pos (by decide), q_cl (by omega), q_cl (by omega)]
  · obtain ⟨a, ha, rfl⟩ := F2 (by unfold h_isd; omega)
    obtain ⟨b, hb, rfl⟩ := F4 (by omega)
    rw [if_neg (by decide), if_neg (by decide), if_neg (by decide), if_pos (by decide), if_pos (q_in (by omega) (by decide)), q_cl (by omega), e_partC hR (by omega) hb]
    show (if x4 ≤ e_pt S a b then some 0 else some 1) = _
    rw [n_le]
    unfold n_mk
    rw [if_neg (by decide), if_pos (by decide), q_cl (by omega), q_cl (by omega)]
  · rw [if_neg (by decide), if_neg (by decide), if_neg (by decide), if_neg (by decide), if_neg (by decide), if_neg (by decide), if_neg (by decide), if_neg (by decide), if_neg (by decide)]
    rfl
  · obtain ⟨a, ha, rfl⟩ := F1 (by unfold h_isd; omega)
    have f7 : M.1 (99 + a) 7 = S 17 a := fld a 17 ha (by omega) (by omega)
    rw [if_pos (by decide), if_pos (q_in (by omega) (by decide)), q_cl (by omega)]
    unfold f_X1_refusesOfDeal m_gd
    rw [if_pos (by decide), f7, if_pos (h17 a)]
    show some (S 17 a) = _
    unfold n_mk
    rw [if_neg (by decide), if_neg (by decide), if_pos (by decide), q_cl (by omega)]
    exact congrArg some (n_lb0 (h17 a))
  · obtain ⟨a, ha, rfl⟩ := F2 (by unfold h_isd; omega)
    obtain ⟨b, hb, rfl⟩ := F4 (by omega)
    have f7 : M.1 (49 + 5 * a + 3) b = S 7 (4 * a + b) := h_rd hR (f := 7) (by unfold h_ok; omega) (h_c7 hb).1 (h_c7 hb).2
    rw [if_neg (by decide), if_neg (by decide), if_neg (by decide), if_neg (by decide), if_pos (by decide), if_pos (q_in (by omega) (by decide)), if_pos (q_in (by omega) (by decide)), q_cl (by omega), q_cl (by omega), f7, if_pos (hB _).1]
    unfold n_mk
    rw [if_neg (by decide), if_neg (by decide), if_neg (by decide), if_pos (by decide), q_cl (by omega), q_cl (by omega)]
    exact congrArg some (n_lb0 (hB _).1)
  · obtain ⟨a, ha, rfl⟩ := F2 (by unfold h_isd; omega)
    obtain ⟨b, hb, rfl⟩ := F4 (by omega)
    have f7 : M.1 (49 + 5 * a + 3) b = S 7 (4 * a + b) := h_rd hR (f := 7) (by unfold h_ok; omega) (h_c7 hb).1 (h_c7 hb).2
    rw [if_neg (by decide), if_neg (by decide), if_neg (by decide), if_neg (by decide), if_neg (by decide), if_pos (by decide), if_pos (q_in (by omega) (by decide)), if_pos (q_in (by omega) (by decide)), q_cl (by omega), q_cl (by omega), f7, n_eq0]
    unfold n_mk
    rw [if_neg (by decide), if_neg (by decide), if_neg (by decide), if_neg (by decide), if_pos (by decide), q_cl (by omega), q_cl (by omega), Bool.not_not]
  · obtain ⟨a, ha, rfl⟩ := F2 (by unfold h_isd; omega)
    obtain ⟨b, hb, rfl⟩ := F4 (by omega)
    have f8 : M.1 (49 + 5 * a + 4) b = S 8 (4 * a + b) := h_rd hR (f := 8) (by unfold h_ok; omega) (h_c8 hb).1 (h_c8 hb).2
    rw [if_neg (by decide), if_neg (by decide), if_neg (by decide), if_neg (by decide), if_neg (by decide), if_neg (by decide), if_pos (by decide), if_pos (q_in (by omega) (by decide)), if_pos (q_in (by omega) (by decide)), q_cl (by omega), q_cl (by omega), f8, if_pos (hB _).2]
    unfold n_mk
    rw [if_neg (by decide), if_neg (by decide), if_neg (by decide), if_neg (by decide), if_neg (by decide), if_pos (by decide), q_cl (by omega), q_cl (by omega)]
    exact congrArg some (n_lb0 (hB _).2)
  · obtain ⟨a, ha, rfl⟩ := F1 (by unfold h_isd; omega)
    have f4 : M.1 (99 + a) 4 = S 14 a := fld a 14 ha (by omega) (by omega)
    have f2 : M.1 (99 + a) 2 = S 12 a := fld a 12 ha (by omega) (by omega)
    rw [if_pos (by decide), if_pos (q_in (by omega) (by decide)), q_cl (by omega)]
    unfold f_X1_refusesOfDeal
    rw [if_neg (by decide), if_pos (by decide), f4, f2, n_le]
    unfold n_mk
    rw [if_neg (by decide), if_neg (by decide), if_neg (by decide), if_neg (by decide), if_neg (by decide), if_neg (by decide), if_pos (by decide), q_cl (by omega)]
    rfl
  · obtain ⟨a, ha, rfl⟩ := F1 (by unfold h_isd; omega)
    have f4 : M.1 (99 + a) 4 = S 14 a := fld a 14 ha (by omega) (by omega)
    have f5 : M.1 (99 + a) 5 = S 15 a := fld a 15 ha (by omega) (by omega)
    rw [if_pos (by decide), if_pos (q_in (by omega) (by decide)), q_cl (by omega)]
    unfold f_X1_refusesOfDeal f_X0_there
    rw [if_neg (by decide), if_neg (by decide), if_pos (by decide), f4, f5]
    show m_ob (if x4 ≤ m_max 0 (S 14 a - S 15 a) then some 0 else some 1) _ = _
    rw [n_le]
    unfold n_mk
    rw [if_neg (by decide), if_neg (by decide), if_neg (by decide), if_neg (by decide), if_neg (by decide), if_neg (by decide), if_neg (by decide), if_pos (by decide), q_cl (by omega)]
    rfl
  · rw [if_neg (by decide), if_neg (by decide), if_neg (by decide), if_neg (by decide), if_neg (by decide), if_neg (by decide), if_neg (by decide), if_neg (by decide), if_neg (by decide)]
    rfl
  · obtain ⟨a, ha, rfl⟩ := F2 (by unfold h_isd; omega)
    obtain ⟨b, hb, rfl⟩ := F5 (by omega)
    rw [if_neg (by decide), if_neg (by decide), if_neg (by decide), if_neg (by decide), if_neg (by decide), if_neg (by decide), if_neg (by decide), if_pos (by decide), if_pos (q_in (by omega) (by decide)), q_cl (by omega), e_debtC hR (by omega) (by omega)]
    show (if x4 ≤ e_db S a b then some 0 else some 1) = _
    rw [n_le]
    unfold n_mk
    rw [if_neg (by decide), if_neg (by decide), if_neg (by decide), if_neg (by decide), if_neg (by decide), if_neg (by decide), if_neg (by decide), if_neg (by decide), if_pos (by decide), q_cl (by omega), q_cl (by omega)]
  · obtain ⟨a, ha, rfl⟩ := F1 (by unfold h_isd; omega)
    have f3 : M.1 (99 + a) 3 = S 13 a := fld a 13 ha (by omega) (by omega)
    have f2 : M.1 (99 + a) 2 = S 12 a := fld a 12 ha (by omega) (by omega)
    rw [if_pos (by decide), if_pos (q_in (by omega) (by decide)), q_cl (by omega)]
    unfold f_X1_refusesOfDeal f_X0_left
    rw [if_neg (by decide), if_neg (by decide), if_neg (by decide), f2, f3]
    show m_ob (if x4 ≤ S 12 a - S 13 a then some 0 else some 1) _ = _
    rw [n_le]
    unfold n_mk
    rw [if_neg (by decide), if_neg (by decide), if_neg (by decide), if_neg (by decide), if_neg (by decide), if_neg (by decide), if_neg (by decide), if_neg (by decide), if_neg (by decide), if_pos (by decide), q_cl (by omega)]
    rfl
  · obtain ⟨a, ha, rfl⟩ := F2 (by unfold h_isd; omega)
    rw [if_neg (by decide), if_neg (by decide), if_neg (by decide), if_neg (by decide), if_neg (by decide), if_neg (by decide), if_neg (by decide), if_neg (by decide), if_pos (by decide), if_pos (q_in (by omega) (by decide)), q_cl (by omega), e_hand hR (by omega), n_eqm]
    unfold n_mk
    rw [if_neg (by decide), if_neg (by decide), if_neg (by decide), if_neg (by decide), if_neg (by decide), if_neg (by decide), if_neg (by decide), if_neg (by decide), if_neg (by decide), if_neg (by decide), if_pos (by decide), q_cl (by omega), Bool.not_not]
