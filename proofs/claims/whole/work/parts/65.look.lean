/-! THE TEXT: the reference looks at a token -/
def j_T (T : Nat) (t : Nat → Nat) (M : m_M) : Prop := M.1 172 4 = nI T ∧ T ≤ 300 ∧ (∀ j, t j < 256) ∧ ∀ j, j < T → M.1 176 j = nI (t j)
theorem j_T_fr {T : Nat} {t : Nat → Nat} {M M' : m_M} (h : j_T T t M) (e : ∀ i j, (i = 172 ∧ j = 4) ∨ i = 176 → M'.1 i j = M.1 i j) : j_T T t M' := by
  obtain ⟨a, b, c, d⟩ := h
  exact ⟨(e _ _ (by omega)).trans a, b, c, fun j hj => (e _ _ (by omega)).trans (d j hj)⟩
theorem j_T_sI {T : Nat} {t : Nat → Nat} {M : m_M} {j : Nat} {x : Int32} (h : j_T T t M) (hj : j ≠ 4) : j_T T t (m_sI M 172 j x) := j_T_fr h (fun i j' q => by rw [q_r, if_neg (by omega)])
def j_R (T : Nat) (t : Nat → Nat) (p : Nat) (M : m_M) : Prop := j_T T t M ∧ p ≤ T ∧ M.1 172 27 = nI (j_S T t p) ∧ M.1 172 28 = nI (j_L T t p) ∧ M.1 172 29 = nI (j_K T t p) ∧ (j_K T t p = 2 → M.1 172 30 = nI (j_V T t p))
theorem j_fig {c : Nat} (hc : c < 256) : f_X8_isFigure (nI c) = l_b (j_fi c) := by
  unfold f_X8_isFigure
  have h : f_X8_isIn (nI c).toInt64 48 57 = if nI c < (48 : Int32) then 0 else if (57 : Int32) < nI c then 0 else 1 := e_rg (by decide +kernel) (by decide +kernel)
  have l48 : nI c < (48 : Int32) ↔ c < 48 := q_lt (b := 48) (by omega) (by decide)
  have l57 : (57 : Int32) < nI c ↔ 57 < c := q_lt (a := 57) (by decide) (by omega)
  show f_X8_isIn (nI c).toInt64 48 57 = _
  rw [h]
  unfold j_fi
  by_cases c1 : c < 48
  · rw [if_pos (l48.mpr c1), decide_eq_false (by omega)]
    rfl
  · rw [if_neg (fun q => c1 (l48.mp q))]
    by_cases c2 : 57 < c
    · rw [if_pos (l57.mpr c2), decide_eq_false (by omega)]
      rfl
    · rw [if_neg (fun q => c2 (l57.mp q)), decide_eq_true (by omega)]
      rfl
theorem j_sma {c : Nat} (hc : c < 256) : f_X8_isSmall (nI c) = l_b (j_sm c) := by
  unfold f_X8_isSmall
  have h : f_X8_isIn (nI c).toInt64 97 122 = if nI c < (97 : Int32) then 0 else if (122 : Int32) < nI c then 0 else 1 := e_rg (by decide +kernel) (by decide +kernel)
  have l48 : nI c < (97 : Int32) ↔ c < 97 := q_lt (b := 97) (by omega) (by decide)
  have l57 : (122 : Int32) < nI c ↔ 122 < c := q_lt (a := 122) (by decide) (by omega)
  show f_X8_isIn (nI c).toInt64 97 122 = _
  rw [h]
  unfold j_sm
  by_cases c1 : c < 97
  · rw [if_pos (l48.mpr c1), decide_eq_false (by omega)]
    rfl
  · rw [if_neg (fun q => c1 (l48.mp q))]
    by_cases c2 : 122 < c
    · rw [if_pos (l57.mpr c2), decide_eq_false (by omega)]
      rfl
    · rw [if_neg (fun q => c2 (l57.mp q)), decide_eq_true (by omega)]
      rfl
/-- the value of a number -/
theorem j_l222 {n T s m : Nat} {x1 : Int32} {t : Nat → Nat} (hm : s + m ≤ T) (hf : ∀ k, k < m → j_fi (t (s + k)) = true) : ∀ (d i u : Nat) (M : m_M), i + d = m → d < u → j_T T t M → M.1 172 27 = nI s → M.1 172 28 = nI m → M.1 172 29 = 2 → M.1 172 30 = nI (j_vl t s i) → q_T (f_X8_look_b222 n x1 u (nI i) M) (fun a => j_T T t a ∧ a.1 172 27 = nI s ∧ a.1 172 28 = nI m ∧ a.1 172 29 = (if m ≤ 4 then nI 2 else nI 5) ∧ a.1 172 30 = nI (j_vl t s m)) := by
  intro d
  induction d with
  | zero =>
    intro i u M hi hu h h27 h28 h29 h30
    have h5 := h.2.1
    obtain ⟨u, rfl⟩ : ∃ v, u = v + 1 := ⟨u - 1, by omega⟩
    have hi' : i = m := by omega
    subst hi'
    rw [f_X8_look_b222, h28]
    refine q_it ((q_le (by omega) (by omega)).mpr (Nat.le_refl _)) ?_
    unfold f_X8_look_b282
    rw [h28, h29]
    refine q_it rfl ?_
    by_cases c : i ≤ 4
    · rw [if_pos c]
      refine q_it ((q_le (b := 4) (by omega) (by decide)).mpr c) (q_bd (q_some ⟨j_T_sI h (by omega), ?_, ?_, ?_, ?_⟩))
      · rw [q_r, if_neg (by omega), h27]
      · rw [q_r, if_neg (by omega), h28]
      · rw [q_r, if_pos ⟨rfl, rfl⟩]
        rfl
      · rw [q_r, if_neg (by omega), h30]
    · rw [if_neg c]
      refine q_if (fun q => c ((q_le (b := 4) (by omega) (by decide)).mp q)) (q_bd (q_some ⟨j_T_sI h (by omega), ?_, ?_, ?_, ?_⟩))
      · rw [q_r, if_neg (by omega), h27]
      · rw [q_r, if_neg (by omega), h28]
      · rw [q_r, if_pos ⟨rfl, rfl⟩]
        rfl
      · rw [q_r, if_neg (by omega), h30]
  | succ d ih =>
    intro i u M hi hu h h27 h28 h29 h30
    have h5 := h.2.1
    obtain ⟨u, rfl⟩ : ∃ v, u = v + 1 := ⟨u - 1, by omega⟩
    rw [f_X8_look_b222, h28, h29, h30, h27]
    refine q_if (fun q => absurd ((q_le (by omega) (by omega)).mp q) (by omega)) (q_it rfl ?_)
    have l4 : (4 : Int32) ≤ nI i ↔ 4 ≤ i := q_le (a := 4) (by decide) (by omega)
    have fi := of_decide_eq_true (hf i (by omega))
    by_cases c : i < 4
    · refine q_if (fun q => absurd (l4.mp q) (by omega)) ?_
      rw [q_add]
      refine q_gd (q_in (by omega) (by decide)) (q_bd ?_)
      rw [q_cl (by omega), h.2.2.2 _ (by omega), q_x10, q_add, q_up, show nI (10 * j_vl t s i + t (s + i)) - (48 : Int32) = nI (10 * j_vl t s i + t (s + i) - 48) from j_sub (b := 48) (by omega), show 10 * j_vl t s i + t (s + i) - 48 = 10 * j_vl t s i + (t (s + i) - 48) by omega]
      refine ih (i + 1) u _ (by omega) (by omega) (j_T_sI h (by omega)) ?_ ?_ ?_ ?_
      · rw [q_r, if_neg (by omega), h27]
      · rw [q_r, if_neg (by omega), h28]
      · rw [q_r, if_neg (by omega), h29]
      · rw [q_r, if_pos ⟨rfl, rfl⟩, j_vl, if_pos c]
    · refine q_it (l4.mpr (by omega)) (q_bd ?_)
      rw [q_up]
      refine ih (i + 1) u _ (by omega) (by omega) (j_T_sI h (by omega)) ?_ ?_ ?_ ?_
      · rw [q_r, if_neg (by omega), h27]
      · rw [q_r, if_neg (by omega), h28]
      · rw [q_r, if_neg (by omega), h29]
      · rw [q_r, if_pos ⟨rfl, rfl⟩, j_vl, if_neg c]
theorem j_l222o {n T s m κ : Nat} {x1 : Int32} {t : Nat → Nat} {M : m_M} (hn : 2 < n) (hκ : κ ≠ 2) (hκ2 : κ < 6) (h : j_T T t M) (h27 : M.1 172 27 = nI s) (h28 : M.1 172 28 = nI m) (h29 : M.1 172 29 = nI κ) : q_T (f_X8_look_b222 n x1 n 0 M) (fun a => j_T T t a ∧ a.1 172 27 = nI s ∧ a.1 172 28 = nI m ∧ a.1 172 29 = nI κ) := by
  have c2 : ¬ nI κ = (2 : Int32) := fun q => hκ ((nI_eq (b := 2) (by omega) (by decide)).mp q)
  have key : q_T (f_X8_look_b282 n x1 M) (fun a => j_T T t a ∧ a.1 172 27 = nI s ∧ a.1 172 28 = nI m ∧ a.1 172 29 = nI κ) := by
    unfold f_X8_look_b282
    rw [h29]
    refine q_if c2 (q_bd (q_some ⟨j_T_sI h (by omega), ?_, ?_, ?_⟩))
    · rw [q_r, if_neg (by omega), h27]
    · rw [q_r, if_neg (by omega), h28]
    · rw [q_r, if_pos ⟨rfl, rfl⟩]
  obtain ⟨n', rfl⟩ : ∃ v, n = v + 1 := ⟨n - 1, by omega⟩
  rw [f_X8_look_b222, h29]
  exact q_ite (fun _ => key) (fun _ => q_if c2 key)
/-- the run of a token -/
theorem j_l132 {n T s κ : Nat} {x1 : Int32} {t : Nat → Nat} {Q : m_M → Prop} {f : Nat → Bool} (hκ : κ = 1 ∧ f = j_sm ∨ κ = 2 ∧ f = j_fi) : ∀ (d i u : Nat) (M : m_M), s + i + d = T → d < u → j_T T t M → M.1 172 27 = nI s → M.1 172 28 = nI i → M.1 172 29 = nI κ → M.1 172 30 = 0 → (∀ M1, j_T T t M1 → M1.1 172 27 = nI s → M1.1 172 28 = nI (i + j_rn f t d (s + i)) → M1.1 172 29 = nI κ → M1.1 172 30 = 0 → q_T (f_X8_look_b222 n x1 n 0 M1) Q) → q_T (f_X8_look_b132 n x1 u M) Q := by
  have k3 : ¬ (3 : Int32) ≤ nI κ := fun q => absurd ((q_le (a := 3) (by decide) (by omega)).mp q) (by omega)
  intro d
  induction d with
  | zero =>
    intro i u M hi hu h h27 h28 h29 h30 hQ
    have h5 := h.2.1
    obtain ⟨u, rfl⟩ : ∃ v, u = v + 1 := ⟨u - 1, by omega⟩
    rw [f_X8_look_b132, h29, h.1, h27, h28, q_add]
    refine q_if k3 (q_it ((q_le (by omega) (by omega)).mpr (by omega)) (hQ M h h27 ?_ h29 h30))
    rw [j_rn, Nat.add_zero]
    exact h28
  | succ d ih =>
    intro i u M hi hu h h27 h28 h29 h30 hQ
    have h5 := h.2.1
    have hb := h.2.2.1 (s + i)
    obtain ⟨u, rfl⟩ : ∃ v, u = v + 1 := ⟨u - 1, by omega⟩
    rw [f_X8_look_b132, h29, h.1, h27, h28, q_add]
    refine q_if k3 (q_if (fun q => absurd ((q_le (by omega) (by omega)).mp q) (by omega)) ?_)
    have go : f (t (s + i)) = true → q_T (f_X8_look_b207 n x1 (f_X8_look_b132 n x1 u) M) Q := by
      intro hf
      unfold f_X8_look_b207
      refine q_bd ?_
      rw [h28, q_up]
      refine ih (i + 1) u _ (by omega) (by omega) (j_T_sI h (by omega)) ?_ ?_ ?_ ?_ (fun M1 m1 m2 m3 m4 m5 => hQ M1 m1 m2 ?_ m4 m5)
      · rw [q_r, if_neg (by omega), h27]
      · rw [q_r, if_pos ⟨rfl, rfl⟩]
      · rw [q_r, if_neg (by omega), h29]
      · rw [q_r, if_neg (by omega), h30]
      · rw [j_rn, if_pos hf, m3]
        congr 1
        rw [show s + (i + 1) = s + i + 1 by omega]
        omega
    have stop : f (t (s + i)) = false → q_T (f_X8_look_b222 n x1 n 0 M) Q := fun hf => hQ M h h27 (by rw [j_rn, if_neg (by rw [hf]; decide), Nat.add_zero]; exact h28) h29 h30
    rcases hκ with ⟨q1, q2⟩ | ⟨q1, q2⟩
    · subst q1 q2
      refine q_it rfl (q_gd (q_in (by omega) (by decide)) (q_bd ?_))
      rw [q_cl (by omega), h.2.2.2 _ (by omega), j_sma hb]
      cases hf : j_sm (t (s + i))
      · exact q_it rfl (stop hf)
      · exact q_if (by decide) (go hf)
    · subst q1 q2
      refine q_if (by decide) (q_gd (q_in (by omega) (by decide)) (q_bd ?_))
      rw [q_cl (by omega), h.2.2.2 _ (by omega), j_fig hb]
      cases hf : j_fi (t (s + i))
      · exact q_it rfl (stop hf)
      · exact q_if (by decide) (go hf)
theorem j_rn1 {f : Nat → Bool} {t : Nat → Nat} {d s : Nat} (h : f (t s) = true) (hd : 0 < d) : 1 + j_rn f t (d - 1) (s + 1) = j_rn f t d s := by
  obtain ⟨d, rfl⟩ : ∃ e, d = e + 1 := ⟨d - 1, by omega⟩
  rw [j_rn, if_pos h, Nat.add_sub_cancel]
  omega
theorem j_l43 {n T p : Nat} {x1 : Int32} {t : Nat → Nat} {M : m_M} (hn : 400 < n) (hp : p ≤ T) (h : j_T T t M) (h27 : M.1 172 27 = nI (j_S T t p)) : q_T (f_X8_look_b43 n x1 M) (j_R T t p) := by
  have h5 := h.2.1
  obtain ⟨s1, s2, s3⟩ := j_S_b t hp
  have hb := h.2.2.1 (j_S T t p)
  unfold f_X8_look_b43
  refine q_bd (q_bd ?_)
  have h1 := j_T_sI (j := 30) (x := 0) (j_T_sI (j := 28) (x := 0) h (by omega)) (by omega)
  have e27 : (m_sI (m_sI M 172 28 0) 172 30 0).1 172 27 = nI (j_S T t p) := by rw [q_r, if_neg (by omega), q_r, if_neg (by omega), h27]
  have e28 : (m_sI (m_sI M 172 28 0) 172 30 0).1 172 28 = 0 := by rw [q_r, if_neg (by omega), q_r, if_pos ⟨rfl, rfl⟩]
  have e30 : (m_sI (m_sI M 172 28 0) 172 30 0).1 172 30 = 0 := by rw [q_r, if_pos ⟨rfl, rfl⟩]
  generalize m_sI (m_sI M 172 28 0) 172 30 0 = M1 at *
  rw [e27, h1.1]
  by_cases c0 : j_S T t p = T
  · refine q_it (congrArg nI c0) (q_bd (q_some ⟨j_T_sI h1 (by omega), hp, ?_, ?_, ?_, fun q => ?_⟩))
    · rw [q_r, if_neg (by omega), e27]
    · unfold j_L
      rw [q_r, if_neg (by omega), e28, if_pos c0]
      rfl
    · unfold j_K
      rw [q_r, if_pos ⟨rfl, rfl⟩, if_pos c0]
      rfl
    · unfold j_K at q
      rw [if_pos c0] at q
      omega
  refine q_if (fun q => c0 ((nI_eq (by omega) (by omega)).mp q)) (q_gd (q_in (by omega) (by decide)) (q_bd (q_bd (q_bd ?_))))
  rw [q_cl (by omega), h1.2.2.2 _ (by omega), j_sma hb, j_fig hb]
  have h2 := j_T_sI (j := 28) (x := 1) h1 (by omega)
  have d27 : (m_sI M1 172 28 1).1 172 27 = nI (j_S T t p) := by rw [q_r, if_neg (by omega), e27]
  have d28 : (m_sI M1 172 28 1).1 172 28 = nI 1 := by
    rw [q_r, if_pos ⟨rfl, rfl⟩]
    rfl
  have d30 : (m_sI M1 172 28 1).1 172 30 = 0 := by rw [q_r, if_neg (by omega), e30]
  generalize m_sI M1 172 28 1 = M2 at *
  have h3 := fun x => j_T_sI (j := 29) (x := x) h2 (by omega)
  have c27 : ∀ x, (m_sI M2 172 29 x).1 172 27 = nI (j_S T t p) := fun x => by rw [q_r, if_neg (by omega), d27]
  have c28 : ∀ x, (m_sI M2 172 29 x).1 172 28 = nI 1 := fun x => by rw [q_r, if_neg (by omega), d28]
  have c29 : ∀ x, (m_sI M2 172 29 x).1 172 29 = x := fun x => by rw [q_r, if_pos ⟨rfl, rfl⟩]
  have c30 : ∀ x, (m_sI M2 172 29 x).1 172 30 = 0 := fun x => by rw [q_r, if_neg (by omega), d30]
  cases hs : j_sm (t (j_S T t p))
  · refine q_it rfl (q_bd ?_)
    cases hf : j_fi (t (j_S T t p))
    · have big : ∀ κ, 3 ≤ κ → κ < 6 → j_K T t p = κ → q_T (f_X8_look_b132 n x1 n (m_sI M2 172 29 (nI κ))) (j_R T t p) := by
        intro κ k1 k2 hk
        obtain ⟨n', rfl⟩ : ∃ v, n = v + 1 := ⟨n - 1, by omega⟩
        rw [f_X8_look_b132, c29]
        refine q_it ((q_le (a := 3) (by decide) (by omega)).mpr k1) (q_mono (j_l222o (m := 1) (κ := κ) (by omega) (by omega) k2 (h3 _) (c27 _) (c28 _) (c29 _)) (fun a ha => ?_))
        obtain ⟨a1, a2, a3, a4⟩ := ha
        refine ⟨a1, hp, a2, ?_, by rw [hk]; exact a4, fun q => by omega⟩
        unfold j_L
        rw [if_neg c0, if_neg (by rw [hs]; decide), if_neg (by rw [hf]; decide)]
        exact a3
      have hK : j_K T t p = if t (j_S T t p) = 45 then 3 else if t (j_S T t p) = 59 then 4 else 5 := by
        unfold j_K
        rw [if_neg c0, if_neg (by rw [hs]; decide), if_neg (by rw [hf]; decide)]
      have l45 : nI (t (j_S T t p)) = (45 : Int32) ↔ t (j_S T t p) = 45 := nI_eq (b := 45) (by omega) (by decide)
      have l59 : nI (t (j_S T t p)) = (59 : Int32) ↔ t (j_S T t p) = 59 := nI_eq (b := 59) (by omega) (by decide)
      refine q_it rfl ?_
      by_cases c1 : t (j_S T t p) = 45
      · rw [if_pos c1] at hK
        exact q_it (l45.mpr c1) (q_bd (big 3 (by omega) (by omega) hK))
      · rw [if_neg c1] at hK
        refine q_if (fun q => c1 (l45.mp q)) ?_
        by_cases c2 : t (j_S T t p) = 59
        · rw [if_pos c2] at hK
          exact q_it (l59.mpr c2) (q_bd (big 4 (by omega) (by omega) hK))
        · rw [if_neg c2] at hK
          exact q_if (fun q => c2 (l59.mp q)) (q_bd (big 5 (by omega) (by omega) hK))
    · refine q_if (by decide) (q_bd ?_)
      refine j_l132 (κ := 2) (f := j_fi) (s := j_S T t p) (Or.inr ⟨rfl, rfl⟩) (T - j_S T t p - 1) 1 n _ (by omega) (by omega) (h3 _) (c27 _) (c28 _) (c29 _) (c30 _) (fun M3 m1 m2 m3 m4 m5 => ?_)
      rw [j_rn1 hf (by omega)] at m3
      have hr := j_rn_b j_fi t (T - j_S T t p) (j_S T t p)
      refine q_mono (j_l222 (s := j_S T t p) (m := j_rn j_fi t (T - j_S T t p) (j_S T t p)) (by omega) hr.2.1 (j_rn j_fi t (T - j_S T t p) (j_S T t p)) 0 n M3 (by omega) (by omega) m1 m2 m3 m4 m5) (fun a ha => ?_)
      obtain ⟨a1, a2, a3, a4, a5⟩ := ha
      refine ⟨a1, hp, a2, ?_, ?_, fun _ => a5⟩
      · unfold j_L
        rw [if_neg c0, if_neg (by rw [hs]; decide), if_pos hf]
        exact a3
      · unfold j_K
        rw [if_neg c0, if_neg (by rw [hs]; decide), if_pos hf, a4]
        unfold j_D
        split <;> rfl
  · refine q_if (by decide) (q_bd ?_)
    refine j_l132 (κ := 1) (f := j_sm) (s := j_S T t p) (Or.inl ⟨rfl, rfl⟩) (T - j_S T t p - 1) 1 n _ (by omega) (by omega) (h3 _) (c27 _) (c28 _) (c29 _) (c30 _) (fun M3 m1 m2 m3 m4 m5 => ?_)
    rw [j_rn1 hs (by omega)] at m3
    have hK : j_K T t p = 1 := by
      unfold j_K
      rw [if_neg c0, if_pos hs]
    refine q_mono (j_l222o (κ := 1) (by omega) (by omega) (by omega) m1 m2 m3 m4) (fun a ha => ?_)
    obtain ⟨a1, a2, a3, a4⟩ := ha
    refine ⟨a1, hp, a2, ?_, by rw [hK]; exact a4, fun q => by omega⟩
    unfold j_L
    rw [if_neg c0, if_pos hs]
    exact a3
theorem j_l5 {n T p : Nat} {x1 : Int32} {t : Nat → Nat} (hn : 400 < n) (hp : p ≤ T) : ∀ (d x u : Nat) (M : m_M), x + d = T → d < u → j_sk t d x = j_S T t p → j_T T t M → M.1 172 27 = nI x → q_T (f_X8_look_b5 n x1 u M) (j_R T t p) := by
  intro d
  induction d with
  | zero =>
    intro x u M hx hu he h h27
    have h5 := h.2.1
    obtain ⟨u, rfl⟩ : ∃ v, u = v + 1 := ⟨u - 1, by omega⟩
    rw [f_X8_look_b5, h.1, h27]
    exact q_it ((q_le (by omega) (by omega)).mpr (by omega)) (j_l43 hn hp h (by rw [h27, ← he, j_sk]))
  | succ d ih =>
    intro x u M hx hu he h h27
    have h5 := h.2.1
    have hb := h.2.2.1 x
    obtain ⟨u, rfl⟩ : ∃ v, u = v + 1 := ⟨u - 1, by omega⟩
    rw [f_X8_look_b5, h.1, h27]
    refine q_if (fun q => absurd ((q_le (by omega) (by omega)).mp q) (by omega)) (q_gd (q_in (by omega) (by decide)) ?_)
    rw [q_cl (by omega), h.2.2.2 _ (by omega), q_up]
    rw [j_sk] at he
    by_cases c : t x = 32
    · rw [if_pos c] at he
      refine q_it (by rw [c]; rfl) (q_bd (ih (x + 1) u _ (by omega) (by omega) he (j_T_sI h (by omega)) ?_))
      rw [q_r, if_pos ⟨rfl, rfl⟩]
    · rw [if_neg c] at he
      exact q_if (fun q => c ((nI_eq (b := 32) (by omega) (by decide)).mp q)) (j_l43 hn hp h (by rw [h27, he]))
theorem j_look {n T p : Nat} {t : Nat → Nat} {M : m_M} (hn : 400 < n) (hp : p ≤ T) (h : j_T T t M) : q_T (f_X8_look n (nI p) M) (j_R T t p) := by
  have h5 := h.2.1
  unfold f_X8_look
  exact q_bd (j_l5 hn hp (T - p) p n _ (by omega) (by omega) rfl (j_T_sI h (by omega)) (by rw [q_r, if_pos ⟨rfl, rfl⟩]))
theorem j_nx {n T p : Nat} {t : Nat → Nat} {M : m_M} (hn : 400 < n) (h : j_R T t p M) : q_T (f_X8_next n M) (j_R T t (j_E T t p)) := by
  obtain ⟨a, b, c, d, _⟩ := h
  unfold f_X8_next
  rw [c, d, q_add]
  exact q_ob (q_mono (j_look hn (j_E_b t b).2.1 a) (fun a ha => q_some ha))
