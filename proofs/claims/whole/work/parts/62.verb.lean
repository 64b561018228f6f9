/-! THE TEXT: verbs -/
def j_txt : List Nat := [104, 97, 110, 100, 32, 103, 105, 118, 101, 32, 116, 97, 107, 101, 32, 104, 105, 100, 101, 32, 100, 101, 97, 108, 32, 111, 114, 100, 101, 114, 32, 112, 111, 115, 116, 32, 117, 110, 112, 111, 115, 116, 32, 107, 110, 111, 119, 32, 117, 115, 101, 32, 108, 111, 115, 101, 32, 111, 119, 101, 32, 115, 101, 116, 116, 108, 101, 32, 112, 97, 121, 32, 101, 110, 100, 32]
def j_c5 (j : Nat) : Nat := j_txt.getD j 0
def j_ws (k : Nat) : Nat := [0, 5, 10, 15, 20, 25, 31, 36, 43, 48, 52, 57, 61, 68, 72, 76].getD k 76
def j_we (k : Nat) : Nat := [4, 9, 14, 19, 24, 30, 35, 42, 47, 51, 56, 60, 67, 71, 75].getD k 75
theorem j_ch5 : ∀ j, j < 76 → f_J0_charAt_5068e 5 (nI j) = some (nI (j_c5 j)) := by decide +kernel
theorem j_len5 : f_J0_length_8abf5 5 = nI 76 := by decide +kernel
theorem j_wf : ∀ k, k < 15 → j_ws k < j_we k ∧ j_we k < 76 ∧ j_c5 (j_we k) = 32 ∧ j_ws (k + 1) = j_we k + 1 ∧ j_we k - j_ws k ≤ 6 := by decide +kernel
theorem j_wl : ∀ k, k < 15 → ∀ i, i < j_we k - j_ws k → 97 ≤ j_c5 (j_ws k + i) ∧ j_c5 (j_ws k + i) ≤ 122 := by decide +kernel
theorem j_inj {t t' : Nat → Nat} {s s' : Nat} : ∀ (m l : Nat), (∀ i, i < m → 97 ≤ t (s + i) ∧ t (s + i) ≤ 122) → (∀ i, i < l → 97 ≤ t' (s' + i) ∧ t' (s' + i) ≤ 122) → j_cd t s m = j_cd t' s' l → m = l ∧ ∀ i, i < m → t (s + i) = t' (s' + i)
  | 0, 0, _, _, _ => ⟨rfl, fun i hi => absurd hi (Nat.not_lt_zero _)⟩
  | 0, l + 1, _, h2, e => by
    have := h2 l (by omega)
    rw [j_cd, j_cd] at e
    omega
  | m + 1, 0, h1, _, e => by
    have := h1 m (by omega)
    rw [j_cd, j_cd] at e
    omega
  | m + 1, l + 1, h1, h2, e => by
    have a := h1 m (by omega)
    have b := h2 l (by omega)
    rw [j_cd, j_cd] at e
    have e1 : j_cd t s m = j_cd t' s' l := by omega
    have e2 : t (s + m) = t' (s' + l) := by omega
    obtain ⟨q1, q2⟩ := j_inj m l (fun i hi => h1 i (by omega)) (fun i hi => h2 i (by omega)) e1
    subst q1
    refine ⟨rfl, fun i hi => ?_⟩
    by_cases c : i < m
    · exact q2 i c
    · rw [show i = m by omega]
      exact e2
theorem j_cd_cg {t t' : Nat → Nat} {s s' : Nat} : ∀ m, (∀ i, i < m → t (s + i) = t' (s' + i)) → j_cd t s m = j_cd t' s' m
  | 0, _ => rfl
  | m + 1, h => by rw [j_cd, j_cd, h m (by omega), j_cd_cg m (fun i hi => h i (by omega))]
def j_mt (t : Nat → Nat) : Nat → Nat → Nat → Bool
  | 0, _, _ => true
  | d + 1, w, q => if t q = j_c5 w then j_mt t d (w + 1) (q + 1) else false
theorem j_mt_e (t : Nat → Nat) : ∀ d w q, j_mt t d w q = true ↔ ∀ i, i < d → t (q + i) = j_c5 (w + i)
  | 0, w, q => ⟨fun _ i hi => absurd hi (Nat.not_lt_zero _), fun _ => rfl⟩
  | d + 1, w, q => by
    rw [j_mt]
    by_cases c : t q = j_c5 w
    · rw [if_pos c, j_mt_e t d]
      refine ⟨fun h i hi => ?_, fun h i hi => ?_⟩
      · rcases Nat.eq_zero_or_pos i with e | e
        · subst e
          exact c
        · obtain ⟨m, rfl⟩ : ∃ m, i = m + 1 := ⟨i - 1, by omega⟩
          rw [show q + (m + 1) = q + 1 + m by omega, show w + (m + 1) = w + 1 + m by omega]
          exact h m (by omega)
      · rw [show q + 1 + i = q + (i + 1) by omega, show w + 1 + i = w + (i + 1) by omega]
        exact h (i + 1) (by omega)
    · rw [if_neg c]
      exact ⟨fun h => absurd h (by decide), fun h => absurd (h 0 (by omega)) c⟩
def j_wc (k : Nat) : Nat := j_cd j_c5 (j_ws k) (j_we k - j_ws k)
/-- the verb of a code -/
def j_kd (v : Nat) : Nat → Nat → Int32
  | 0, _ => -1
  | e + 1, k => if v = j_wc k then nI k else j_kd v e (k + 1)
theorem j_kd_of {v : Nat} : ∀ e k, k + e = 15 → j_kd v e k = -1 ∨ ∃ i, i < 15 ∧ j_kd v e k = nI i ∧ v = j_wc i
  | 0, _, _ => Or.inl rfl
  | e + 1, k, h => by
    rw [j_kd]
    by_cases c : v = j_wc k
    · rw [if_pos c]
      exact Or.inr ⟨k, by omega, rfl, c⟩
    · rw [if_neg c]
      exact j_kd_of e (k + 1) (by omega)
theorem j_is17 {n T s ws we : Nat} {t : Nat → Nat} {M : m_M} (hw : we < 76) (hT : T ≤ 300) (ht : ∀ j, t j < 256) (hM : ∀ j, j < T → M.1 169 j = nI (t j)) : ∀ (d i u : Nat), ws + i + d = we → s + i + d ≤ T → d < u → f_X2_isVerb_b17 n (nI s) (nI ws) (nI we) M u (nI (ws + i)) = some (l_b (j_mt t d (ws + i) (s + i))) := by
  intro d
  induction d with
  | zero =>
    intro i u h1 h2 hu
    obtain ⟨u, rfl⟩ : ∃ v, u = v + 1 := ⟨u - 1, by omega⟩
    rw [f_X2_isVerb_b17, if_pos ((q_le (by omega) (by omega)).mpr (by omega)), j_mt]
    rfl
  | succ d ih =>
    intro i u h1 h2 hu
    obtain ⟨u, rfl⟩ : ∃ v, u = v + 1 := ⟨u - 1, by omega⟩
    rw [f_X2_isVerb_b17, if_neg (fun q => absurd ((q_le (by omega) (by omega)).mp q) (by omega)), q_add, j_sub (by omega), show s + (ws + i) - ws = s + i by omega]
    unfold m_gd
    rw [if_pos (q_in (by omega) (by decide)), j_ch5 _ (by omega), q_cl (by omega), hM _ (by omega)]
    show (if nI (t (s + i)) = nI (j_c5 (ws + i)) then _ else _) = _
    have hc : j_c5 (ws + i) < 256 := by
      have h : ∀ j, j < 76 → j_c5 j < 256 := by decide +kernel
      exact h _ (by omega)
    rw [j_mt]
    by_cases c : t (s + i) = j_c5 (ws + i)
    · rw [if_pos (congrArg nI c), if_pos c, q_up]
      exact ih (i + 1) u (by omega) (by omega) (by omega)
    · rw [if_neg (fun q => c ((nI_eq (by have := ht (s + i); omega) (by omega)).mp q)), if_neg c]
      rfl
theorem j_kof {n T s m : Nat} {t : Nat → Nat} {M : m_M} (hn : 400 < n) (hT : T ≤ 300) (ht : ∀ j, t j < 256) (hM : ∀ j, j < T → M.1 169 j = nI (t j)) (h2 : M.1 168 2 = nI (s + m)) (hs : s + m ≤ T) (hl : ∀ i, i < m → 97 ≤ t (s + i) ∧ t (s + i) ≤ 122) : ∀ (e k : Nat), k + e = 15 → ∀ (d x u : Nat), j_ws k ≤ x → (k < 15 → x + d = j_we k) → (15 ≤ k → x = 76) → d + 77 * e < u → f_X2_kindOf_b7 n (nI s) M u (nI k) (nI (j_ws k)) (nI x) = some (j_kd (j_cd t s m) e k) := by
  intro e
  induction e with
  | zero =>
    intro k hk d x u hx h1 h3 hu
    obtain ⟨u, rfl⟩ : ∃ v, u = v + 1 := ⟨u - 1, by omega⟩
    have := h3 (by omega)
    subst this
    rw [f_X2_kindOf_b7, j_len5]
    rfl
  | succ e ih =>
    intro k hk d
    obtain ⟨w1, w2, w3, w4, w5⟩ := j_wf k (by omega)
    induction d with
    | zero =>
      intro x u hx h1 h3 hu
      obtain ⟨u, rfl⟩ : ∃ v, u = v + 1 := ⟨u - 1, by omega⟩
      have hx' : x = j_we k := h1 (by omega)
      subst hx'
      rw [f_X2_kindOf_b7, j_len5]
      show (if nI 76 ≤ nI (j_we k) then _ else m_ob (f_J0_charAt_5068e 5 (nI (j_we k))) _) = _
      rw [if_neg (fun q => absurd ((q_le (by omega) (by omega)).mp q) (by omega)), j_ch5 _ w2, w3]
      show (if nI 32 = 32 then m_ob (f_X2_isVerb n (nI s) (nI (j_ws k)) (nI (j_we k)) M) (fun r6 => if r6 = 0 then f_X2_kindOf_b7 n (nI s) M u (nI k + 1) (nI (j_we k) + (1 : Int32)) (nI (j_we k) + 1) else some (nI k)) else f_X2_kindOf_b7 n (nI s) M u (nI k) (nI (j_ws k)) (nI (j_we k) + 1)) = _
      rw [if_pos (by decide)]
      have hv : f_X2_isVerb n (nI s) (nI (j_ws k)) (nI (j_we k)) M = some (l_b (decide (j_cd t s m = j_wc k))) := by
        unfold f_X2_isVerb
        rw [h2, j_sub (by omega), j_sub (by omega), show s + m - s = m by omega]
        by_cases c : m = j_we k - j_ws k
        · rw [if_pos (congrArg nI c)]
          have k17 := j_is17 (n := n) (s := s) (ws := j_ws k) w2 hT ht hM (j_we k - j_ws k) 0 n (by omega) (by omega) (by omega)
          rw [Nat.add_zero, Nat.add_zero] at k17
          rw [k17]
          congr 2
          by_cases c2 : j_mt t (j_we k - j_ws k) (j_ws k) s = true
          · rw [c2]
            refine (decide_eq_true ?_).symm
            unfold j_wc
            rw [← c]
            exact j_cd_cg m (fun i hi => (j_mt_e t _ _ _).mp c2 i (by omega))
          · rw [Bool.eq_false_iff.mpr c2]
            refine (decide_eq_false (fun q => c2 ((j_mt_e t _ _ _).mpr (fun i hi => ?_)))).symm
            exact (j_inj m _ hl (j_wl k (by omega)) q).2 i (by omega)
        · rw [if_neg (fun q => c ((nI_eq (by omega) (by omega)).mp q)), decide_eq_false (show ¬ j_cd t s m = j_wc k from fun q => c (j_inj m _ hl (j_wl k (by omega)) q).1)]
          rfl
      rw [hv, j_kd]
      by_cases c : j_cd t s m = j_wc k
      · rw [if_pos c, decide_eq_true c]
        rfl
      · rw [if_neg c, decide_eq_false c]
        show f_X2_kindOf_b7 n (nI s) M u (nI k + 1) (nI (j_we k) + 1) (nI (j_we k) + 1) = _
        rw [q_up, q_up, ← w4]
        refine ih (k + 1) (by omega) (j_we (k + 1) - j_ws (k + 1)) (j_ws (k + 1)) u (Nat.le_refl _) (fun q => ?_) (fun q => ?_) ?_
        · have := j_wf (k + 1) q
          omega
        · rw [show k = 14 by omega]
          rfl
        · have h : ∀ k, k < 16 → j_we k - j_ws k ≤ 76 := by decide +kernel
          have := h (k + 1) (by omega)
          omega
    | succ d ihd =>
      intro x u hx h1 h3 hu
      obtain ⟨u, rfl⟩ : ∃ v, u = v + 1 := ⟨u - 1, by omega⟩
      have hx' := h1 (by omega)
      rw [f_X2_kindOf_b7, j_len5]
      show (if nI 76 ≤ nI x then _ else m_ob (f_J0_charAt_5068e 5 (nI x)) _) = _
      rw [if_neg (fun q => absurd ((q_le (by omega) (by omega)).mp q) (by omega)), j_ch5 _ (by omega)]
      have hw := j_wl k (by omega) (x - j_ws k) (by omega)
      rw [show j_ws k + (x - j_ws k) = x by omega] at hw
      show (if nI (j_c5 x) = 32 then m_ob (f_X2_isVerb n (nI s) (nI (j_ws k)) (nI x) M) (fun r6 => if r6 = 0 then f_X2_kindOf_b7 n (nI s) M u (nI k + 1) (nI x + (1 : Int32)) (nI x + 1) else some (nI k)) else f_X2_kindOf_b7 n (nI s) M u (nI k) (nI (j_ws k)) (nI x + 1)) = _
      rw [if_neg (fun q => by have := (nI_eq (b := 32) (by omega) (by decide)).mp q; omega), q_up]
      exact ihd (x + 1) u (by omega) (fun _ => by omega) (fun q => by omega) (by omega)
/-! the class reads a verb -/
def j_vb (T : Nat) (t : Nat → Nat) (p : Nat) : Int32 := j_kd (j_cd t (j_S T t p) (j_W T t p)) 15 0
theorem j_vb9 {n T s : Nat} {t : Nat → Nat} {b : Int32} (hn : 1600 < n) : ∀ (d i u : Nat) (M : m_M), s + i + d = T → d < u → (∀ k, k < i → 97 ≤ t (s + k) ∧ t (s + k) ≤ 122) → j_C T t (s + i) b M → q_T (f_X2_verb_b9 n u (nI s) M) (fun a => a.1 = j_kd (j_cd t s (i + j_rn j_sm t d (s + i))) 15 0 ∧ j_C T t (s + i + j_rn j_sm t d (s + i)) (if j_kd (j_cd t s (i + j_rn j_sm t d (s + i))) 15 0 = -1 then j_bl b s else b) a.2) := by
  have stop : ∀ (i : Nat) (M : m_M), (∀ k, k < i → 97 ≤ t (s + k) ∧ t (s + k) ≤ 122) → j_C T t (s + i) b M → q_T (f_X2_verb_b61 n (nI s) M) (fun a => a.1 = j_kd (j_cd t s i) 15 0 ∧ j_C T t (s + i) (if j_kd (j_cd t s i) 15 0 = -1 then j_bl b s else b) a.2) := by
    intro i M hl h
    have h5 := h.2.2.2.2.1
    unfold f_X2_verb_b61 f_X2_kindOf
    have k : f_X2_kindOf_b7 n (nI s) M n 0 0 0 = some (j_kd (j_cd t s i) 15 0) := j_kof (n := n) (s := s) (m := i) (by omega) h5 h.2.2.2.2.2.1 h.2.2.2.2.2.2 h.2.1 h.2.2.2.1 hl 15 0 rfl 4 0 n (by decide) (fun _ => by decide) (fun q => by omega) (by omega)
    refine q_ob (q_of k ?_)
    by_cases c : j_kd (j_cd t s i) 15 0 = -1
    · rw [if_pos c, if_pos c]
      exact q_bd (q_some ⟨rfl, j_C_bl h⟩)
    · rw [if_neg c, if_neg c]
      exact q_some ⟨rfl, h⟩
  intro d
  induction d with
  | zero =>
    intro i u M hp hu hl h
    have h5 := h.2.2.2.2.1
    obtain ⟨u, rfl⟩ : ∃ v, u = v + 1 := ⟨u - 1, by omega⟩
    rw [f_X2_verb_b9, h.1, h.2.1, j_rn, Nat.add_zero, Nat.add_zero]
    exact q_it ((q_le (by omega) (by omega)).mpr (by omega)) (stop i M hl h)
  | succ d ih =>
    intro i u M hp hu hl h
    have h5 := h.2.2.2.2.1
    have hb := h.2.2.2.2.2.1 (s + i)
    obtain ⟨u, rfl⟩ : ∃ v, u = v + 1 := ⟨u - 1, by omega⟩
    rw [f_X2_verb_b9, h.1, h.2.1, j_rn]
    refine q_if (fun q => absurd ((q_le (by omega) (by omega)).mp q) (by omega)) (q_gd (q_in (by omega) (by decide)) ?_)
    rw [q_cl (by omega), h.2.2.2.2.2.2 (s + i) (by omega)]
    have l97 : nI (t (s + i)) < (97 : Int32) ↔ t (s + i) < 97 := q_lt (b := 97) (by omega) (by decide)
    have l122 : (122 : Int32) < nI (t (s + i)) ↔ 122 < t (s + i) := q_lt (a := 122) (by decide) (by omega)
    by_cases c : j_sm (t (s + i)) = true
    · have c' := of_decide_eq_true c
      rw [if_pos c]
      refine q_if (fun q => absurd (l97.mp q) (by omega)) (q_if (fun q => absurd (l122.mp q) (by omega)) (q_bd ?_))
      rw [q_up]
      have k := ih (i + 1) u _ (by omega) (by omega) (fun k hk => by
        by_cases c2 : k < i
        · exact hl k c2
        · rw [show k = i by omega]
          exact c') (j_C_mv h (p' := s + (i + 1)) (by omega))
      rw [show s + (i + 1) = s + i + 1 by omega] at k
      rw [show i + (j_rn j_sm t d (s + i + 1) + 1) = i + 1 + j_rn j_sm t d (s + i + 1) by omega, show s + i + (j_rn j_sm t d (s + i + 1) + 1) = s + i + 1 + j_rn j_sm t d (s + i + 1) by omega]
      exact k
    · rw [if_neg c, Nat.add_zero, Nat.add_zero]
      have c' : ¬ (97 ≤ t (s + i) ∧ t (s + i) ≤ 122) := fun q => c (decide_eq_true q)
      refine q_ite (fun _ => stop i M hl h) (fun q => ?_)
      exact q_it (l122.mpr (by have : ¬ t (s + i) < 97 := fun w => q (l97.mpr w); omega)) (stop i M hl h)
theorem j_wc0 : ∀ k, k < 15 → j_wc k ≠ 0 := by decide +kernel
theorem j_vb_of {T p : Nat} {t : Nat → Nat} (h : j_vb T t p ≠ -1) : j_W T t p ≠ 0 ∧ ∃ k, k < 15 ∧ j_vb T t p = nI k := by
  unfold j_vb at h ⊢
  rcases j_kd_of (v := j_cd t (j_S T t p) (j_W T t p)) 15 0 rfl with q | ⟨i, q1, q2, q3⟩
  · exact absurd q h
  · refine ⟨fun e => ?_, i, q1, q2⟩
    rw [e] at q3
    exact j_wc0 i q1 q3.symm
theorem j_vb_E {T p : Nat} {t : Nat → Nat} (hp : p ≤ T) (h : j_vb T t p ≠ -1) : j_K T t p = 1 ∧ j_E T t p = j_S T t p + j_W T t p := by
  have hw := (j_vb_of h).1
  have hs := (j_S_b t hp).2.1
  have c0 : j_S T t p ≠ T := fun e => hw (by unfold j_W; rw [e, Nat.sub_self]; rfl)
  have c1 : j_sm (t (j_S T t p)) = true := (j_rn0 (d := T - j_S T t p) (by omega)).mpr (Nat.pos_of_ne_zero hw)
  unfold j_K j_E j_L
  rw [if_neg c0, if_pos c1, if_neg c0, if_pos c1]
  exact ⟨rfl, rfl⟩
theorem j_verb {n T p : Nat} {t : Nat → Nat} {b : Int32} {M : m_M} (hn : 1600 < n) (h : j_C T t p b M) : q_T (f_X2_verb n M) (fun a => a.1 = j_vb T t p ∧ (j_vb T t p ≠ -1 → j_C T t (j_E T t p) b a.2) ∧ (j_vb T t p = -1 → ∃ p', j_C T t p' (j_bl b (j_S T t p)) a.2)) := by
  have h5 := h.2.2.2.2.1
  have h4 := h.2.2.2.1
  obtain ⟨s1, s2, s3⟩ := j_S_b t h4
  unfold f_X2_verb
  refine q_ob (q_mono (j_skip (by omega) h) (fun M1 h1 => ?_))
  rw [h1.2.1]
  have k := j_vb9 (n := n) (s := j_S T t p) hn (T - j_S T t p) 0 n M1 (by omega) (by omega) (fun k hk => absurd hk (Nat.not_lt_zero _)) h1
  rw [Nat.zero_add, Nat.add_zero] at k
  refine q_mono k (fun a ha => ?_)
  obtain ⟨a1, a2⟩ := ha
  have hv : j_kd (j_cd t (j_S T t p) (j_rn j_sm t (T - j_S T t p) (j_S T t p))) 15 0 = j_vb T t p := rfl
  rw [hv] at a1 a2
  refine ⟨a1, fun q => ?_, fun q => ⟨j_S T t p + j_rn j_sm t (T - j_S T t p) (j_S T t p), ?_⟩⟩
  · rw [if_neg q] at a2
    rw [(j_vb_E h4 q).2]
    exact a2
  · rw [if_pos q] at a2
    exact a2
