/-! the reference's layDay makes the same fold -/
def h_rc (f : Nat) : Nat := if f < 4 then 177 + f else if f = 5 then 181 else if f = 6 then 184 else if f = 7 then 182 else if f = 8 then 183 else if f < 16 then 173 + f else 172 + f
def h_okq (D f i : Nat) : Prop := (f < 2 ∧ i < 10) ∨ (f = 5 ∧ i < 40) ∨ (f = 6 ∧ i < 100) ∨ (f = 7 ∧ i < 40) ∨ (f = 8 ∧ i < 40) ∨ ((13 ≤ f ∧ f ≤ 15 ∨ 17 ≤ f ∧ f ≤ 19) ∧ i < D)
theorem h_rc_inj {D f i f' i' : Nat} (h : h_okq D f i) (h' : h_okq D f' i') (e : h_rc f = h_rc f') : f = f' := by
  have c : f < 2 ∨ f = 5 ∨ f = 6 ∨ f = 7 ∨ f = 8 ∨ f = 13 ∨ f = 14 ∨ f = 15 ∨ f = 17 ∨ f = 18 ∨ f = 19 := by unfold h_okq at h; omega
  have c' : f' < 2 ∨ f' = 5 ∨ f' = 6 ∨ f' = 7 ∨ f' = 8 ∨ f' = 13 ∨ f' = 14 ∨ f' = 15 ∨ f' = 17 ∨ f' = 18 ∨ f' = 19 := by unfold h_okq at h'; omega
  clear h h'
  unfold h_rc at e
  repeat' split at e
  all_goals omega
def h_Q0 (S : Nat → Nat → Int32) (D : Nat) (M : m_M) : Prop := (∀ f i, h_okq D f i → M.1 (h_rc f) i = S f i) ∧ ∀ i, i < 10 → S 1 i ≠ -1 → M.1 179 i = S 2 i ∧ M.1 180 i = S 3 i
theorem h_rc_ne {D f i c : Nat} (h : h_okq D f i) (hc : c < 177 ∨ c = 179 ∨ c = 180 ∨ c = 185 ∨ 191 < c) : h_rc f ≠ c := by
  unfold h_okq at h
  unfold h_rc
  repeat' split
  all_goals omega
theorem h_Q_up {S : Nat → Nat → Int32} {D : Nat} {M : m_M} {f i : Nat} {x : Int32} {k : Nat} (h : h_Q0 S D M) (hok : h_okq D f i) (hf : f ≠ 1) (hk : h_rc f = k) : h_Q0 (h_up S f i x) D (m_sI M k i x) := by
  subst hk
  have hf2 : f ≠ 2 ∧ f ≠ 3 := by unfold h_okq at hok; omega
  refine ⟨fun f' i' hok' => ?_, fun i' hi' h1 => ?_⟩
  · rw [q_r]
    unfold h_up
    by_cases e : f' = f ∧ i' = i
    · rw [if_pos e, if_pos ⟨by rw [e.1], e.2⟩]
    · rw [if_neg e, if_neg (fun q => e ⟨h_rc_inj hok' hok q.1, q.2⟩), h.1 f' i' hok']
  · rw [q_r, q_r, if_neg (fun q => h_rc_ne hok (by omega) q.1.symm), if_neg (fun q => h_rc_ne hok (by omega) q.1.symm)]
    unfold h_up at h1 ⊢
    rw [if_neg (fun q => hf q.1.symm)] at h1
    rw [if_neg (fun q => hf2.1 q.1.symm), if_neg (fun q => hf2.2 q.1.symm)]
    exact h.2 i' hi' h1
theorem h_of {N k j : Nat} {M : m_M} {r : Nat → Int32} (hr : ∀ j, j < 6 * N → M.1 173 j = r j) (hk : k < N) (hN : N ≤ 60) (hj : j < 6) : f_X8_of (nI k) (nI j) M = some (r (6 * k + j)) := by
  unfold f_X8_of
  rw [q_x6, q_zp, q_add]
  unfold m_gd
  rw [if_pos (q_in (by omega) (by decide)), q_cl (by omega), hr _ (by omega)]
theorem h_Q_sk {S : Nat → Nat → Int32} {D i : Nat} {M : m_M} {x : Int32} (h : h_Q0 S D M) : h_Q0 (h_up S 4 i x) D M := by
  refine ⟨fun f' i' hok' => ?_, fun i' hi' h1 => ?_⟩
  · unfold h_up
    rw [if_neg (by unfold h_okq at hok'; omega)]
    exact h.1 f' i' hok'
  · unfold h_up at h1 ⊢
    rw [if_neg (by omega)] at h1
    rw [if_neg (by omega), if_neg (by omega)]
    exact h.2 i' hi' h1
theorem h_lay {S : Nat → Nat → Int32} {D k N : Nat} {M : m_M} {r : Nat → Int32} (h : h_Q0 S D M) (hB : h_bo S) (hN : N ≤ 60) (hk : k < N) (hD : D ≤ k) (hv : h_v r D k) (hr : ∀ j, j < 6 * N → M.1 173 j = r j) (h22 : h_kd r k = 4 → M.1 172 22 = nI (D + 1)) : q_T (f_X8_lay (nI k) (r (6 * k + 1)) (r (6 * k + 2)) (r (6 * k + 3)) (r (6 * k + 4)) M) (fun M' => h_Q0 (h_st S D (h_kd r k) (h_a r k) (r (6 * k)) (r (6 * k + 3)) (r (6 * k + 4))) (if h_kd r k = 4 then D + 1 else D) M' ∧ M'.1 172 23 = if h_kd r k = 4 then nI (D + 1) else M.1 172 23) := by
  obtain ⟨v1, v2, v3, v4, v5, v6, v7⟩ := hv
  have e0 := h_of (j := 0) hr hk hN (by omega)
  rw [v1, v3]
  rw [Nat.add_zero] at e0
  generalize hday : r (6 * k) = day at *
  generalize h_kd r k = kd at *
  generalize h_a r k = a at *
  generalize hb : r (6 * k + 3) = b at *
  generalize r (6 * k + 4) = v at *
  unfold h_isd at v4 v5
  have e23 : ∀ c j x, c ≠ 172 → (m_sI M c j x).1 172 23 = M.1 172 23 := fun c j x hc => by rw [q_r, if_neg (by omega)]
  unfold f_X8_lay
  have hcs : kd = 0 ∨ kd = 1 ∨ kd = 2 ∨ kd = 3 ∨ kd = 4 ∨ kd = 5 ∨ kd = 6 ∨ kd = 7 ∨ kd = 8 ∨ kd = 9 ∨ kd = 10 ∨ kd = 11 ∨ kd = 12 ∨ kd = 13 ∨ kd = 14 := by omega
  rcases hcs with e | e | e | e | e | e | e | e | e | e | e | e | e | e | e <;> subst e
  · have ha := v5 (by omega)
    refine q_it (by decide) (q_gd (q_in ha (by decide)) (q_bd (q_bd (q_some ⟨?_, ?_⟩))))
    · rw [q_cl (by omega), if_neg (by omega)]
      refine ⟨fun f i hok => ?_, fun i hi h1 => ?_⟩
      · simp only [q_r, h_st, h_up]
        by_cases e1 : f = 1 ∧ i = a
        · obtain ⟨e1, e2⟩ := e1
          subst e1
          subst e2
          simp [h_rc]
        · by_cases e2 : f = 0 ∧ i = a
          · obtain ⟨e2, e3⟩ := e2
            subst e2
            subst e3
            simp [h_rc]
          · rw [if_neg (fun q => e1 ⟨h_rc_inj hok (f' := 1) (i' := 0) (by unfold h_okq; omega) (by rw [q.1]; rfl), q.2⟩), if_neg (fun q => e2 ⟨h_rc_inj hok (f' := 0) (i' := 0) (by unfold h_okq; omega) (by rw [q.1]; rfl), q.2⟩), if_neg e1, if_neg e2]
            exact h.1 f i hok
      · simp only [h_st, h_up] at h1 ⊢
        rw [q_r, q_r, q_r, q_r]
        (repeat (first | rw [if_pos (by omega)] | rw [if_neg (by omega)]))
        by_cases e1 : i = a
        · rw [if_pos ⟨trivial, e1⟩] at h1
          exact absurd rfl h1
        · rw [if_neg (by omega), if_neg (by omega)] at h1
          exact h.2 i hi h1
    · rw [if_neg (by omega), q_r, if_neg (by omega), q_r, if_neg (by omega)]
  · have ha := v5 (by omega)
    obtain ⟨q, hb2, hb'⟩ : ∃ q, b = nI q ∧ q < 4 := ⟨_, v6 (by omega)⟩
    have ok : h_okq D 5 (4 * a + q) := by unfold h_okq; omega
    have e5 := h.1 5 (4 * a + q) ok
    rw [show h_rc 5 = 181 from rfl] at e5
    (repeat (first | refine q_it (by decide) ?_ | refine q_if (by decide) ?_))
    rw [hb2, q_x4, q_add]
    refine q_gd (q_in (by omega) (by decide)) (q_bd (q_some ⟨?_, ?_⟩))
    · rw [q_cl (by omega), if_neg (by omega), e5]
      simp only [h_st]
      rw [q_cl (by omega)]
      exact h_Q_up h ok (by omega) rfl
    · rw [if_neg (by omega), e23 _ _ _ (by omega)]
  · have ha := v5 (by omega)
    obtain ⟨q, hb2, hb'⟩ : ∃ q, b = nI q ∧ q < 4 := ⟨_, v6 (by omega)⟩
    have ok : h_okq D 5 (4 * a + q) := by unfold h_okq; omega
    have e5 := h.1 5 (4 * a + q) ok
    rw [show h_rc 5 = 181 from rfl] at e5
    (repeat (first | refine q_it (by decide) ?_ | refine q_if (by decide) ?_))
    rw [hb2, q_x4, q_add]
    refine q_gd (q_in (by omega) (by decide)) (q_bd (q_some ⟨?_, ?_⟩))
    · rw [q_cl (by omega), if_neg (by omega), e5]
      simp only [h_st]
      rw [q_cl (by omega)]
      exact h_Q_up h ok (by omega) rfl
    · rw [if_neg (by omega), e23 _ _ _ (by omega)]
  · have ha := v5 (by omega)
    obtain ⟨q, hb2, hb'⟩ : ∃ q, b = nI q ∧ q < 4 := ⟨_, v6 (by omega)⟩
    have ok : h_okq D 5 (4 * a + q) := by unfold h_okq; omega
    have e5 := h.1 5 (4 * a + q) ok
    rw [show h_rc 5 = 181 from rfl] at e5
    (repeat (first | refine q_it (by decide) ?_ | refine q_if (by decide) ?_))
    rw [hb2, q_x4, q_add]
    refine q_gd (q_in (by omega) (by decide)) (q_bd (q_some ⟨?_, ?_⟩))
    · rw [q_cl (by omega), if_neg (by omega), e5]
      simp only [h_st]
      rw [q_cl (by omega)]
      exact h_Q_sk (h_Q_up h ok (by omega) rfl)
    · rw [if_neg (by omega), e23 _ _ _ (by omega)]
  · have ha := v5 (by omega)
    obtain ⟨q, hb2, hb'⟩ : ∃ q, b = nI q ∧ q < 4 := ⟨_, v6 (by omega)⟩
    (repeat (first | refine q_it (by decide) ?_ | refine q_if (by decide) ?_))
    rw [hb2]
    have e7 := h.1 7 (4 * a + q) (by unfold h_okq; omega)
    have e8 := h.1 8 (4 * a + q) (by unfold h_okq; omega)
    rw [show h_rc 7 = 182 from rfl] at e7
    rw [show h_rc 8 = 183 from rfl] at e8
    have hbo := hB (4 * a + q)
    unfold f_X8_layDeal
    rw [h22 rfl, nI_pred]
    refine q_ob (q_gd (q_in (by omega) (by decide)) ?_)
    rw [q_cl (by omega)]
    refine q_bd (q_bd (q_bd (q_bd ?_)))
    rw [q_x4, q_add]
    refine q_gd (q_in (by omega) (by decide)) ?_
    rw [q_cl (by omega)]
    have r7 : ∀ x1 x2 x3 x4 : Int32, (m_sI (m_sI (m_sI (m_sI M 186 D x1) 187 D x2) 188 D x3) 189 D x4).1 182 (4 * a + q) = S 7 (4 * a + q) := by
      intro x1 x2 x3 x4
      simp only [q_r]
      (repeat (first | rw [if_pos (by omega)] | rw [if_neg (by omega)]))
      exact e7
    have r8 : ∀ x1 x2 x3 x4 x5 : Int32, (m_sI (m_sI (m_sI (m_sI (m_sI M 186 D x1) 187 D x2) 188 D x3) 189 D x4) 190 D x5).1 183 (4 * a + q) = S 8 (4 * a + q) := by
      intro x1 x2 x3 x4 x5
      simp only [q_r]
      (repeat (first | rw [if_pos (by omega)] | rw [if_neg (by omega)]))
      exact e8
    rw [r7]
    refine q_gd hbo.1 (q_bd ?_)
    rw [r8]
    refine q_gd hbo.2 (q_bd (q_bd (q_some (q_some ⟨⟨fun f i hok => ?_, fun i hi h1 => ?_⟩, ?_⟩))))
    · simp only [q_r]
      by_cases hi : i = D ∧ 10 ≤ f
      · obtain ⟨hi, hf⟩ := hi
        subst hi
        have hfs : f = 13 ∨ f = 14 ∨ f = 15 ∨ f = 17 ∨ f = 18 ∨ f = 19 := by unfold h_okq at hok; omega
        simp only [h_st]
        rcases hfs with e | e | e | e | e | e <;> subst e <;> simp [h_rc, h_dl, q_cl (show q < 2 ^ 31 by omega)]
      · have hok2 : h_okq D f i := by
          rw [if_pos rfl] at hok
          unfold h_okq at hok ⊢
          omega
        simp only [h_st]
        rw [if_neg hi]
        rw [← h.1 f i hok2]
        have n1 : h_rc f ≠ 172 := h_rc_ne hok2 (by omega)
        have n2 : i = D → f < 10 := by omega
        rw [if_neg (fun q => n1 q.1)]
        have n3 : f < 10 → h_rc f < 186 := by
          intro hf
          unfold h_rc
          repeat' split
          all_goals omega
        (repeat (first | rw [if_pos (by omega)] | rw [if_neg (by omega)]))
    · simp only [h_st] at h1 ⊢
      rw [if_neg (by omega)] at h1
      rw [if_neg (by omega), if_neg (by omega)]
      have e := h.2 i hi h1
      simp only [q_r]
      (repeat (first | rw [if_pos (by omega)] | rw [if_neg (by omega)]))
      exact e
    · rw [if_pos rfl]
      simp only [q_r]
      (repeat (first | rw [if_pos (by omega)] | rw [if_neg (by omega)]))
      exact h22 rfl
  · have ha := v4 (by omega)
    (repeat (first | refine q_it (by decide) ?_ | refine q_if (by decide) ?_))
    refine q_gd (q_in (by omega) (by decide)) (q_bd (q_some ⟨?_, ?_⟩))
    · rw [q_cl (by omega), if_neg (by omega)]
      exact h_Q_up h (by unfold h_okq; omega) (by omega) rfl
    · rw [if_neg (by omega), e23 _ _ _ (by omega)]
  · have ha := v5 (by omega)
    obtain ⟨q, hb2, hb'⟩ : ∃ q, b = nI q ∧ q < 4 := ⟨_, v6 (by omega)⟩
    (repeat (first | refine q_it (by decide) ?_ | refine q_if (by decide) ?_))
    rw [hb2, q_x4, q_add]
    refine q_gd (q_in (by omega) (by decide)) (q_bd (q_some ⟨?_, ?_⟩))
    · rw [q_cl (by omega), if_neg (by omega)]
      simp only [h_st]
      rw [q_cl (by omega)]
      exact h_Q_up (f := 7) h (by unfold h_okq; omega) (by omega) rfl
    · rw [if_neg (by omega), e23 _ _ _ (by omega)]
  · have ha := v5 (by omega)
    obtain ⟨q, hb2, hb'⟩ : ∃ q, b = nI q ∧ q < 4 := ⟨_, v6 (by omega)⟩
    (repeat (first | refine q_it (by decide) ?_ | refine q_if (by decide) ?_))
    rw [hb2, q_x4, q_add]
    refine q_gd (q_in (by omega) (by decide)) (q_bd (q_some ⟨?_, ?_⟩))
    · rw [q_cl (by omega), if_neg (by omega)]
      simp only [h_st]
      rw [q_cl (by omega)]
      exact h_Q_up (f := 7) h (by unfold h_okq; omega) (by omega) rfl
    · rw [if_neg (by omega), e23 _ _ _ (by omega)]
  · have ha := v5 (by omega)
    obtain ⟨q, hb2, hb'⟩ : ∃ q, b = nI q ∧ q < 4 := ⟨_, v6 (by omega)⟩
    (repeat (first | refine q_it (by decide) ?_ | refine q_if (by decide) ?_))
    rw [hb2, q_x4, q_add]
    refine q_gd (q_in (by omega) (by decide)) (q_bd (q_some ⟨?_, ?_⟩))
    · rw [q_cl (by omega), if_neg (by omega)]
      simp only [h_st]
      rw [q_cl (by omega)]
      exact h_Q_up (f := 8) h (by unfold h_okq; omega) (by omega) rfl
    · rw [if_neg (by omega), e23 _ _ _ (by omega)]
  · have ha := v4 (by omega)
    have e5 := h.1 14 a (by unfold h_okq; omega)
    rw [show h_rc 14 = 187 from rfl] at e5
    (repeat (first | refine q_it (by decide) ?_ | refine q_if (by decide) ?_))
    refine q_gd (q_in (by omega) (by decide)) (q_bd (q_some ⟨?_, ?_⟩))
    · rw [q_cl (by omega), if_neg (by omega), e5]
      exact h_Q_up (f := 14) h (by unfold h_okq; omega) (by omega) rfl
    · rw [if_neg (by omega), e23 _ _ _ (by omega)]
  · have ha := v4 (by omega)
    have e5 := h.1 15 a (by unfold h_okq; omega)
    rw [show h_rc 15 = 188 from rfl] at e5
    (repeat (first | refine q_it (by decide) ?_ | refine q_if (by decide) ?_))
    refine q_gd (q_in (by omega) (by decide)) (q_bd (q_some ⟨?_, ?_⟩))
    · rw [q_cl (by omega), if_neg (by omega), e5]
      exact h_Q_up (f := 15) h (by unfold h_okq; omega) (by omega) rfl
    · rw [if_neg (by omega), e23 _ _ _ (by omega)]
  · have ha := v5 (by omega)
    obtain ⟨q, hb2, hb'⟩ : ∃ q, b = nI q ∧ q < 10 := ⟨_, v7 (by omega)⟩
    have ok : h_okq D 6 (10 * a + q) := by unfold h_okq; omega
    have e5 := h.1 6 (10 * a + q) ok
    rw [show h_rc 6 = 184 from rfl] at e5
    (repeat (first | refine q_it (by decide) ?_ | refine q_if (by decide) ?_))
    rw [hb2, q_x10, q_add]
    refine q_gd (q_in (by omega) (by decide)) (q_bd (q_some ⟨?_, ?_⟩))
    · rw [q_cl (by omega), if_neg (by omega), e5]
      simp only [h_st]
      rw [q_cl (by omega)]
      exact h_Q_up h ok (by omega) rfl
    · rw [if_neg (by omega), e23 _ _ _ (by omega)]
  · have ha := v5 (by omega)
    obtain ⟨q, hb2, hb'⟩ : ∃ q, b = nI q ∧ q < 10 := ⟨_, v7 (by omega)⟩
    have ok : h_okq D 6 (10 * a + q) := by unfold h_okq; omega
    have e5 := h.1 6 (10 * a + q) ok
    rw [show h_rc 6 = 184 from rfl] at e5
    (repeat (first | refine q_it (by decide) ?_ | refine q_if (by decide) ?_))
    rw [hb2, q_x10, q_add]
    refine q_gd (q_in (by omega) (by decide)) (q_bd (q_some ⟨?_, ?_⟩))
    · rw [q_cl (by omega), if_neg (by omega), e5]
      simp only [h_st]
      rw [q_cl (by omega)]
      exact h_Q_up h ok (by omega) rfl
    · rw [if_neg (by omega), e23 _ _ _ (by omega)]
  · have ha := v4 (by omega)
    have e5 := h.1 13 a (by unfold h_okq; omega)
    rw [show h_rc 13 = 186 from rfl] at e5
    (repeat (first | refine q_it (by decide) ?_ | refine q_if (by decide) ?_))
    refine q_gd (q_in (by omega) (by decide)) (q_bd (q_some ⟨?_, ?_⟩))
    · rw [q_cl (by omega), if_neg (by omega), e5]
      exact h_Q_up (f := 13) h (by unfold h_okq; omega) (by omega) rfl
    · rw [if_neg (by omega), e23 _ _ _ (by omega)]
  · have ha := v5 (by omega)
    have e0' := h.1 0 a (by unfold h_okq; omega)
    rw [show h_rc 0 = 177 from rfl] at e0'
    (repeat (first | refine q_it (by decide) ?_ | refine q_if (by decide) ?_))
    refine q_gd (q_in (by omega) (by decide)) ?_
    rw [q_cl (by omega)]
    have e42 : ∀ x, f_X8_of (nI k) 0 (m_sI M 178 a x) = some day := by
      intro x
      rw [← hday, ← Nat.add_zero (6 * k)]
      exact h_of (j := 0) (N := N) (fun j hj => by rw [q_r, if_neg (by omega)]; exact hr j hj) hk hN (by omega)
    refine q_bd (q_ob (q_of (e42 _) (q_bd (q_bd (q_bd (q_some ⟨⟨fun f i hok => ?_, fun i hi h1 => ?_⟩, ?_⟩))))))
    · rw [if_neg (by omega)] at hok
      simp only [q_r, h_st, h_up]
      rw [e0']
      have m1 : h_rc f ≠ 179 := h_rc_ne hok (by omega)
      have m2 : h_rc f ≠ 180 := h_rc_ne hok (by omega)
      have m3 : f ≠ 2 ∧ f ≠ 3 := by unfold h_okq at hok; omega
      have m4 : h_rc f = 177 → f = 0 := fun e => h_rc_inj hok (f' := 0) (i' := 0) (by unfold h_okq; omega) e
      have m5 : h_rc f = 178 → f = 1 := fun e => h_rc_inj hok (f' := 1) (i' := 0) (by unfold h_okq; omega) e
      by_cases z0 : f = 0
      · subst z0
        by_cases z : i = a
        · subst z
          simp [h_rc]
        · simp [h_rc, z]
          exact h.1 0 i hok
      · by_cases z1 : f = 1
        · subst z1
          by_cases z : i = a
          · subst z
            simp [h_rc]
          · simp [h_rc, z]
            exact h.1 1 i hok
        · have := h.1 f i hok
          (repeat (first | rw [if_pos (by omega)] | rw [if_neg (by omega)]))
          exact this
    · simp only [q_r, h_st, h_up] at h1 ⊢
      by_cases z : i = a
      · subst z
        exact ⟨by simp, by simp⟩
      · rw [if_neg (by omega), if_neg (by omega), if_neg (by omega), if_neg (by omega)] at h1
        have := h.2 i hi h1
        (repeat (first | rw [if_pos (by omega)] | rw [if_neg (by omega)]))
        exact this
    · rw [if_neg (by omega)]
      simp only [q_r]
      (repeat (first | rw [if_pos (by omega)] | rw [if_neg (by omega)]))
