/-! THE TEXT: the reference reads an item -/
theorem q_x27 (a : Nat) : (27 : Int32) * nI a = nI (27 * a) := q_mul 27 a
def j_co (v : Int32) (c : Nat) : Int32 := if nI c = 0 then v else (27 : Int32) * v + nI c - (97 : Int32) + 1
theorem j_code {n a b c d e f : Nat} (hn : 10 < n) : f_X8_code n (nI a) (nI b) (nI c) (nI d) (nI e) (nI f) = some (j_co (j_co (j_co (j_co (j_co (j_co 0 a) b) c) d) e) f) := by
  have st : ∀ (q : Int32 → Int32 → Option Int32) (x y : Int32) (s : Nat), f_X8_code_b65 n (nI a) (nI b) (nI c) (nI d) (nI e) (nI f) q x y (nI s) = q (j_co x s) (y + 1) := by
    intro q x y s
    unfold f_X8_code_b65 j_co
    by_cases h : nI s = 0
    · rw [if_pos h, if_pos h]
    · rw [if_neg h, if_neg h]
      rfl
  obtain ⟨n', rfl⟩ : ∃ m, n = m + 7 := ⟨n - 7, by omega⟩
  unfold f_X8_code
  rw [f_X8_code_b6, if_neg (by decide), if_pos rfl, st]
  rw [f_X8_code_b6, if_neg (by decide), if_neg (by decide), if_pos (by decide), st]
  rw [f_X8_code_b6, if_neg (by decide), if_neg (by decide), if_neg (by decide), if_pos (by decide), st]
  rw [f_X8_code_b6, if_neg (by decide), if_neg (by decide), if_neg (by decide), if_neg (by decide), if_pos (by decide), st]
  rw [f_X8_code_b6, if_neg (by decide), if_neg (by decide), if_neg (by decide), if_neg (by decide), if_neg (by decide), if_pos (by decide), st]
  rw [f_X8_code_b6, if_neg (by decide), if_neg (by decide), if_neg (by decide), if_neg (by decide), if_neg (by decide), if_neg (by decide), st]
  rw [f_X8_code_b6, if_pos (by decide)]
theorem j_vcode {n k : Nat} (hn : 10 < n) (hk : k < 15) : f_X8_verbCode n (nI k) = some (nI (j_wc k)) := by
  have e := fun a b c d e f => @j_code n a b c d e f hn
  have h0 := (e 104 97 110 100 0 0)
  have h1 := (e 103 105 118 101 0 0)
  have h2 := (e 116 97 107 101 0 0)
  have h3 := (e 104 105 100 101 0 0)
  have h4 := (e 100 101 97 108 0 0)
  have h5 := (e 111 114 100 101 114 0)
  have h6 := (e 112 111 115 116 0 0)
  have h7 := (e 117 110 112 111 115 116)
  have h8 := (e 107 110 111 119 0 0)
  have h9 := (e 117 115 101 0 0 0)
  have h10 := (e 108 111 115 101 0 0)
  have h11 := (e 111 119 101 0 0 0)
  have h12 := (e 115 101 116 116 108 101)
  have h13 := (e 112 97 121 0 0 0)
  have h14 := (e 101 110 100 0 0 0)
  unfold f_X8_verbCode
  have hc : k = 0 ∨ k = 1 ∨ k = 2 ∨ k = 3 ∨ k = 4 ∨ k = 5 ∨ k = 6 ∨ k = 7 ∨ k = 8 ∨ k = 9 ∨ k = 10 ∨ k = 11 ∨ k = 12 ∨ k = 13 ∨ k = 14 := by omega
  have fin : ∀ {a b c d e f : Int32} {x : Int32} {w : Nat}, f_X8_code n a b c d e f = some x → x = nI w → (m_ob (f_X8_code n a b c d e f) fun r => some r) = some (nI w) := by
    intro a b c d e f x w h hx
    rw [h, hx]
    rfl
  rcases hc with q | q | q | q | q | q | q | q | q | q | q | q | q | q | q <;> subst q
  · rw [if_pos (by decide)]
    exact fin h0 (by decide +kernel)
  · rw [if_neg (by decide), if_pos (by decide)]
    exact fin h1 (by decide +kernel)
  · rw [if_neg (by decide), if_neg (by decide), if_pos (by decide)]
    exact fin h2 (by decide +kernel)
  · rw [if_neg (by decide), if_neg (by decide), if_neg (by decide), if_pos (by decide)]
    exact fin h3 (by decide +kernel)
  · rw [if_neg (by decide), if_neg (by decide), if_neg (by decide), if_neg (by decide), if_pos (by decide)]
    exact fin h4 (by decide +kernel)
  · rw [if_neg (by decide), if_neg (by decide), if_neg (by decide), if_neg (by decide), if_neg (by decide), if_pos (by decide)]
    exact fin h5 (by decide +kernel)
  · rw [if_neg (by decide), if_neg (by decide), if_neg (by decide), if_neg (by decide), if_neg (by decide), if_neg (by decide), if_pos (by decide)]
    exact fin h6 (by decide +kernel)
  · rw [if_neg (by decide), if_neg (by decide), if_neg (by decide), if_neg (by decide), if_neg (by decide), if_neg (by decide), if_neg (by decide), if_pos (by decide)]
    exact fin h7 (by decide +kernel)
  · rw [if_neg (by decide), if_neg (by decide), if_neg (by decide), if_neg (by decide), if_neg (by decide), if_neg (by decide), if_neg (by decide), if_neg (by decide), if_pos (by decide)]
    exact fin h8 (by decide +kernel)
  · rw [if_neg (by decide), if_neg (by decide), if_neg (by decide), if_neg (by decide), if_neg (by decide), if_neg (by decide), if_neg (by decide), if_neg (by decide), if_neg (by decide), if_pos (by decide)]
    exact fin h9 (by decide +kernel)
  · rw [if_neg (by decide), if_neg (by decide), if_neg (by decide), if_neg (by decide), if_neg (by decide), if_neg (by decide), if_neg (by decide), if_neg (by decide), if_neg (by decide), if_neg (by decide), if_pos (by decide)]
    exact fin h10 (by decide +kernel)
  · rw [if_neg (by decide), if_neg (by decide), if_neg (by decide), if_neg (by decide), if_neg (by decide), if_neg (by decide), if_neg (by decide), if_neg (by decide), if_neg (by decide), if_neg (by decide), if_neg (by decide), if_pos (by decide)]
    exact fin h11 (by decide +kernel)
  · rw [if_neg (by decide), if_neg (by decide), if_neg (by decide), if_neg (by decide), if_neg (by decide), if_neg (by decide), if_neg (by decide), if_neg (by decide), if_neg (by decide), if_neg (by decide), if_neg (by decide), if_neg (by decide), if_pos (by decide)]
    exact fin h12 (by decide +kernel)
  · rw [if_neg (by decide), if_neg (by decide), if_neg (by decide), if_neg (by decide), if_neg (by decide), if_neg (by decide), if_neg (by decide), if_neg (by decide), if_neg (by decide), if_neg (by decide), if_neg (by decide), if_neg (by decide), if_neg (by decide), if_pos (by decide)]
    exact fin h13 (by decide +kernel)
  · rw [if_neg (by decide), if_neg (by decide), if_neg (by decide), if_neg (by decide), if_neg (by decide), if_neg (by decide), if_neg (by decide), if_neg (by decide), if_neg (by decide), if_neg (by decide), if_neg (by decide), if_neg (by decide), if_neg (by decide), if_neg (by decide)]
    exact fin h14 (by decide +kernel)
theorem j_wcb : ∀ k, k < 15 → j_wc k < 387420489 := by decide +kernel
theorem j_cd_b {t : Nat → Nat} {s : Nat} : ∀ m, (∀ i, i < m → 97 ≤ t (s + i) ∧ t (s + i) ≤ 122) → j_cd t s m < 27 ^ m
  | 0, _ => Nat.lt_succ_self 0
  | m + 1, h => by
    have := j_cd_b m (fun i hi => h i (by omega))
    have := h m (by omega)
    rw [j_cd, Nat.pow_succ]
    omega
theorem j_vb7 {n v : Nat} {M : m_M} (hn : 40 < n) (hv : v < 387420489) : ∀ (e k u : Nat), k + e = 15 → e < u → f_X8_verb_b7 n M u (nI v) (nI k) = some (if v = 0 then -1 else j_kd v e k) := by
  intro e
  induction e with
  | zero =>
    intro k u hk hu
    obtain ⟨u, rfl⟩ : ∃ w, u = w + 1 := ⟨u - 1, by omega⟩
    have l14 : (14 : Int32) < nI k ↔ 14 < k := q_lt (a := 14) (by decide) (by omega)
    rw [f_X8_verb_b7, if_pos (l14.mpr (by omega)), j_kd]
    split <;> rfl
  | succ e ih =>
    intro k u hk hu
    obtain ⟨u, rfl⟩ : ∃ w, u = w + 1 := ⟨u - 1, by omega⟩
    have l14 : (14 : Int32) < nI k ↔ 14 < k := q_lt (a := 14) (by decide) (by omega)
    rw [f_X8_verb_b7, if_neg (fun q => absurd (l14.mp q) (by omega)), q_up, ih (k + 1) u (by omega) (by omega), j_vcode (by omega) (by omega)]
    by_cases c : v = 0
    · rw [if_pos (by rw [c]; rfl), if_pos c, if_pos c]
    · rw [if_neg (show ¬ nI v = (0 : Int32) from fun q => c ((nI_eq (b := 0) (by omega) (by decide)).mp q)), if_neg c, if_neg c, j_kd]
      show (if nI v = nI (j_wc k) then some (nI k) else _) = _
      have := j_wcb k (by omega)
      by_cases c2 : v = j_wc k
      · rw [if_pos (congrArg nI c2), if_pos c2]
      · rw [if_neg (fun q => c2 ((nI_eq (by omega) (by omega)).mp q)), if_neg c2]
theorem j_wcd {n T p : Nat} {t : Nat → Nat} {M : m_M} (h : j_R T t p M) : ∀ (d i u : Nat) (v : Nat), i + d = 6 → d < u → i ≤ j_L T t p → (j_K T t p = 1 → v = j_cd t (j_S T t p) i) → f_X8_wordCode_b4 n M u (nI v) (nI i) = some (if j_K T t p = 1 then (if 6 < j_W T t p then 0 else nI (j_cd t (j_S T t p) (j_W T t p))) else 0) := by
  obtain ⟨hT, hp, h27, h28, h29, h30⟩ := h
  have h5 := hT.2.1
  obtain ⟨e1, e2, _⟩ := j_E_b t hp
  have e2' : j_S T t p + j_L T t p ≤ T := e2
  have LW : j_K T t p = 1 → j_L T t p = j_W T t p ∧ ∀ i, i < j_W T t p → 97 ≤ t (j_S T t p + i) ∧ t (j_S T t p + i) ≤ 122 := fun q => by
    have hr := j_rn_b j_sm t (T - j_S T t p) (j_S T t p)
    unfold j_K at q
    unfold j_L
    by_cases c0 : j_S T t p = T
    · rw [if_pos c0] at q
      omega
    rw [if_neg c0] at q ⊢
    by_cases c1 : j_sm (t (j_S T t p)) = true
    · rw [if_pos c1]
      exact ⟨rfl, fun i hi => of_decide_eq_true (hr.2.1 i hi)⟩
    · rw [if_neg c1] at q
      repeat' split at q
      all_goals omega
  have fin : ∀ (v : Nat), (j_K T t p = 1 → j_W T t p ≤ 6 → v = j_cd t (j_S T t p) (j_W T t p)) → f_X8_wordCode_b46 n M (nI v) = some (if j_K T t p = 1 then (if 6 < j_W T t p then 0 else nI (j_cd t (j_S T t p) (j_W T t p))) else 0) := by
    intro v hv
    unfold f_X8_wordCode_b46
    rw [h29, h28]
    by_cases c : j_K T t p = 1
    · rw [if_pos (by rw [c]; rfl), if_pos c, (LW c).1]
      have := (LW c).1
      have l6 : (6 : Int32) < nI (j_W T t p) ↔ 6 < j_W T t p := q_lt (a := 6) (by decide) (by omega)
      by_cases c2 : 6 < j_W T t p
      · rw [if_pos c2, if_pos (l6.mpr c2)]
      · rw [if_neg c2, if_neg (fun q => c2 (l6.mp q)), hv c (by omega)]
    · have kb : j_K T t p < 6 := by
        unfold j_K
        repeat' split
        all_goals omega
      rw [if_neg (show ¬ nI (j_K T t p) = (1 : Int32) from fun q => c ((nI_eq (b := 1) (by omega) (by decide)).mp q)), if_neg c]
  intro d
  induction d with
  | zero =>
    intro i u v hi hu hl hv
    obtain ⟨u, rfl⟩ : ∃ w, u = w + 1 := ⟨u - 1, by omega⟩
    have k := fin v (fun q q2 => by
      have := (LW q).1
      rw [hv q, show i = j_W T t p by omega])
    rw [f_X8_wordCode_b4, h28, k, if_pos (show (6 : Int32) ≤ nI i from (q_le (a := 6) (by decide) (by omega)).mpr (by omega))]
    split <;> rfl
  | succ d ih =>
    intro i u v hi hu hl hv
    obtain ⟨u, rfl⟩ : ∃ w, u = w + 1 := ⟨u - 1, by omega⟩
    rw [f_X8_wordCode_b4, h28]
    by_cases c : j_L T t p ≤ i
    · rw [if_pos ((q_le (by omega) (by omega)).mpr c)]
      exact fin v (fun q q2 => by
        have := (LW q).1
        rw [hv q, show i = j_W T t p by omega])
    · have l6 : (6 : Int32) ≤ nI i ↔ 6 ≤ i := q_le (a := 6) (by decide) (by omega)
      rw [if_neg (fun q => c ((q_le (by omega) (by omega)).mp q)), if_neg (fun q => absurd (l6.mp q) (by omega)), h27, q_add]
      unfold m_gd m_bd
      rw [if_pos (q_in (by omega) (by decide)), q_cl (by omega), hT.2.2.2 _ (by omega), q_x27, q_add]
      by_cases c2 : j_K T t p = 1
      · have hw := (LW c2).2 i (by rw [← (LW c2).1]; omega)
        rw [show nI (27 * v + t (j_S T t p + i)) - (97 : Int32) = nI (27 * v + t (j_S T t p + i) - 97) from j_sub (b := 97) (by omega), q_up, q_up]
        refine ih (i + 1) u _ (by omega) (by omega) (by omega) (fun q => ?_)
        rw [j_cd, ← hv q]
        omega
      · rw [show nI (27 * v + t (j_S T t p + i)) - (97 : Int32) + 1 = nI ((nI (27 * v + t (j_S T t p + i)) - (97 : Int32) + 1).toBitVec.toNat) from by
          apply Int32.toBitVec_inj.mp
          apply BitVec.eq_of_toNat_eq
          rw [pk_tn (BitVec.isLt _)], q_up]
        exact ih (i + 1) u _ (by omega) (by omega) (by omega) (fun q => absurd q c2)
theorem j_rverb {n T p : Nat} {t : Nat → Nat} {M : m_M} (hn : 40 < n) (h : j_R T t p M) : f_X8_verb n M = some (j_vb T t p) := by
  have hp := h.2.1
  have w : f_X8_wordCode n M = _ := j_wcd (n := n) h 6 0 n 0 (by omega) (by omega) (Nat.zero_le _) (fun _ => rfl)
  unfold f_X8_verb
  rw [w]
  have z : f_X8_verb_b7 n M n 0 0 = some (-1) := j_vb7 (v := 0) hn (by decide) 15 0 n rfl (by omega)
  by_cases c : j_K T t p = 1
  · rw [if_pos c]
    by_cases c2 : 6 < j_W T t p
    · rw [if_pos c2]
      show f_X8_verb_b7 n M n 0 0 = _
      rw [z]
      congr 1
      have hr := j_rn_b j_sm t (T - j_S T t p) (j_S T t p)
      rcases j_kd_of (v := j_cd t (j_S T t p) (j_W T t p)) 15 0 rfl with q | ⟨i, q1, q2, q3⟩
      · exact q.symm
      · have e := (j_inj (t := t) (t' := j_c5) (s := j_S T t p) (s' := j_ws i) (j_W T t p) (j_we i - j_ws i) (fun k hk => of_decide_eq_true (hr.2.1 k hk)) (j_wl i q1) q3).1
        have := (j_wf i q1).2.2.2.2
        omega
    · rw [if_neg c2]
      have hr := j_rn_b j_sm t (T - j_S T t p) (j_S T t p)
      have hb := j_cd_b (t := t) (s := j_S T t p) (j_W T t p) (fun k hk => of_decide_eq_true (hr.2.1 k hk))
      have hb2 : 27 ^ j_W T t p ≤ 27 ^ 6 := Nat.pow_le_pow_right (by decide) (by omega)
      show f_X8_verb_b7 n M n (nI (j_cd t (j_S T t p) (j_W T t p))) 0 = _
      have k : f_X8_verb_b7 n M n (nI (j_cd t (j_S T t p) (j_W T t p))) 0 = _ := j_vb7 (v := j_cd t (j_S T t p) (j_W T t p)) hn (by omega) 15 0 n rfl (by omega)
      rw [k]
      congr 1
      by_cases c3 : j_cd t (j_S T t p) (j_W T t p) = 0
      · rw [if_pos c3]
        unfold j_vb
        rw [c3]
        decide +kernel
      · rw [if_neg c3]
        rfl
  · rw [if_neg c]
    show f_X8_verb_b7 n M n 0 0 = _
    rw [z]
    congr 1
    by_cases q : j_vb T t p = -1
    · exact q.symm
    · exact absurd (j_vb_E hp q).1 c
theorem j_a167 {n T p : Nat} {t : Nat → Nat} {M : m_M} (hn : 400 < n) (h : j_R T t p M) : q_T (f_X8_readItem_b167 n M) (fun a => (j_K T t p = 4 → a.1 = 1 ∧ j_R T t (j_E T t p) a.2 ∧ ∀ j, 31 ≤ j → a.2.1 172 j = M.1 172 j) ∧ (j_K T t p ≠ 4 → a.1 = 0 ∧ a.2.1 172 27 = nI (j_S T t p))) := by
  have kb : j_K T t p < 6 := by
    unfold j_K
    repeat' split
    all_goals omega
  have l4 : nI (j_K T t p) = (4 : Int32) ↔ j_K T t p = 4 := nI_eq (b := 4) (by omega) (by decide)
  unfold f_X8_readItem_b167
  rw [h.2.2.2.2.1]
  by_cases c : j_K T t p = 4
  · refine q_it (l4.mpr c) (q_ob (q_mono (q_TH (j_nx hn h) (g_X8_next n M)) (fun a ha => q_some ⟨fun _ => ⟨rfl, ha.1, fun j hj => ha.2.1 172 j (by unfold w_76; omega)⟩, fun q => absurd c q⟩)))
  · exact q_if (fun q => c (l4.mp q)) (q_some ⟨fun q => absurd q c, fun _ => ⟨rfl, h.2.2.1⟩⟩)
theorem j_Kb (T : Nat) (t : Nat → Nat) (p : Nat) : j_K T t p < 6 := by
  unfold j_K
  repeat' split
  all_goals omega
theorem j_R_sI {T p : Nat} {t : Nat → Nat} {M : m_M} {j : Nat} {x : Int32} (h : j_R T t p M) (hj : 31 ≤ j) : j_R T t p (m_sI M 172 j x) := by
  obtain ⟨a, b, c, d, e, f⟩ := h
  exact ⟨j_T_sI a (by omega), b, by rw [q_r, if_neg (by omega), c], by rw [q_r, if_neg (by omega), d], by rw [q_r, if_neg (by omega), e], fun q => by rw [q_r, if_neg (by omega), f q]⟩
theorem j_a135 {n T p p4 : Nat} {t : Nat → Nat} {M : m_M} (hn : 400 < n) (hk : j_k T t p < 15) (hp : p4 = j_p4 T t p) (h : j_R T t p4 M) (h32 : M.1 172 32 = nI (j_k T t p)) (h35 : M.1 172 35 = 0) : q_T (f_X8_readItem_b135 n M) (fun a => (j_f4 T t p = -1 → a.1 = 1 ∧ j_R T t (j_p6 T t p) a.2 ∧ a.2.1 172 35 = j_v T t p ∧ ∀ j, 31 ≤ j → j < 35 → a.2.1 172 j = M.1 172 j) ∧ (j_f4 T t p ≠ -1 → a.1 = 0 ∧ a.2.1 172 27 = j_f4 T t p)) := by
  have hT := h.1.2.1
  have hs4 := (j_S_b t h.2.1).2.1
  have hK := j_Kb T t p4
  unfold f_X8_readItem_b135
  rw [h32, n_nv hk]
  refine q_bd ?_
  have tail : ∀ M2 : m_M, j_R T t (j_p5 T t p) M2 → M2.1 172 35 = j_v T t p → (∀ j, 31 ≤ j → j < 35 → M2.1 172 j = M.1 172 j) → j_f4 T t p = j_f5 T t p → q_T (f_X8_readItem_b167 n M2) (fun a => (j_f4 T t p = -1 → a.1 = 1 ∧ j_R T t (j_p6 T t p) a.2 ∧ a.2.1 172 35 = j_v T t p ∧ ∀ j, 31 ≤ j → j < 35 → a.2.1 172 j = M.1 172 j) ∧ (j_f4 T t p ≠ -1 → a.1 = 0 ∧ a.2.1 172 27 = j_f4 T t p)) := by
    intro M2 h2 h35' e2 ef
    have hs5 := (j_S_b t h2.2.1).2.1
    refine q_mono (j_a167 hn h2) (fun a ha => ?_)
    rw [ef]
    unfold j_f5
    by_cases c : j_K T t (j_p5 T t p) = 4
    · obtain ⟨b1, b2, b3⟩ := ha.1 c
      rw [if_pos c]
      exact ⟨fun _ => ⟨b1, b2, (b3 35 (by omega)).trans h35', fun j j1 j2 => (b3 j j1).trans (e2 j j1 j2)⟩, fun w => absurd rfl w⟩
    · rw [if_neg c]
      exact ⟨fun w => absurd w (q_m1 (by omega)), fun _ => ha.2 c⟩
  by_cases c : j_nv (j_k T t p)
  · rw [if_pos c]
    refine q_if (by decide) ?_
    rw [h.2.2.2.2.1]
    have l2 : nI (j_K T t p4) = (2 : Int32) ↔ j_K T t p4 = 2 := nI_eq (b := 2) (by omega) (by decide)
    by_cases c2 : j_K T t p4 = 2
    · have e : j_p5 T t p = j_E T t p4 := by
        rw [hp]
        exact if_pos c
      have ef : j_f4 T t p = j_f5 T t p := if_neg (fun q => q.2 (by rw [← hp]; exact c2))
      refine q_it (l2.mpr c2) (q_bd (q_ob (q_mono (q_TH (j_nx hn (j_R_sI (j := 35) h (by omega))) (g_X8_next n _)) (fun a ha => ?_))))
      obtain ⟨a1, g⟩ := ha
      refine tail a (by rw [e]; exact a1) ?_ (fun j j1 j2 => ?_) ef
      · rw [g.1 172 35 (by unfold w_76; omega), q_r, if_pos ⟨rfl, rfl⟩, h.2.2.2.2.2 c2, hp]
        exact (if_pos c).symm
      · rw [g.1 172 j (by unfold w_76; omega), q_r, if_neg (by omega)]
    · have ef : j_f4 T t p = nI (j_S T t p4) := by
        rw [hp]
        exact if_pos ⟨c, by rw [← hp]; exact c2⟩
      rw [ef]
      exact q_if (fun q => c2 (l2.mp q)) (q_some ⟨fun w => absurd w (q_m1 (by omega)), fun _ => ⟨rfl, h.2.2.1⟩⟩)
  · rw [if_neg c]
    have e : j_p5 T t p = p4 := by
      rw [hp]
      exact if_neg c
    have ef : j_f4 T t p = j_f5 T t p := if_neg (fun q => c q.1)
    exact q_it rfl (tail M (by rw [e]; exact h) (h35.trans (if_neg c).symm) (fun _ _ _ => rfl) ef)
theorem j_item {n T p : Nat} {t : Nat → Nat} {M : m_M} (hn : 400 < n) (h : j_R T t p M) : q_T (f_X8_readItem n M) (fun a => (j_fl T t p = -1 → a.1 = 1 ∧ j_R T t (j_p6 T t p) a.2 ∧ a.2.1 172 31 = nI (j_V T t p) ∧ a.2.1 172 32 = nI (j_k T t p) ∧ a.2.1 172 33 = nI (j_V T t (j_p2 T t p)) ∧ a.2.1 172 34 = j_b T t p ∧ a.2.1 172 35 = j_v T t p) ∧ (j_fl T t p ≠ -1 → a.1 = 0 ∧ a.2.1 172 27 = j_fl T t p)) := by
  have hT := h.1.2.1
  have hp := h.2.1
  obtain ⟨o1, o2, o3, o4, o5, o6, o7⟩ := j_pb t hp
  have sb : ∀ q, q ≤ T → j_S T t q < 2 ^ 31 := fun q hq => by
    have := (j_S_b t hq).2.1
    omega
  have l2 : ∀ q, nI (j_K T t q) = (2 : Int32) ↔ j_K T t q = 2 := fun q => nI_eq (b := 2) (by have := j_Kb T t q; omega) (by decide)
  have l3 : ∀ q, nI (j_K T t q) = (3 : Int32) ↔ j_K T t q = 3 := fun q => nI_eq (b := 3) (by have := j_Kb T t q; omega) (by decide)
  unfold f_X8_readItem
  rw [h.2.2.2.2.1]
  by_cases c1 : ¬ j_K T t p = 2
  · have ef : j_fl T t p = nI (j_S T t p) := if_neg c1
    rw [ef]
    exact q_if (fun q => c1 ((l2 p).mp q)) (q_some ⟨fun q => absurd q (q_m1 (sb p hp)), fun _ => ⟨rfl, h.2.2.1⟩⟩)
  replace c1 := Classical.not_not.mp c1
  have ef1 : j_fl T t p = j_f1 T t p := if_pos c1
  refine q_it ((l2 p).mpr c1) (q_bd (q_ob (q_mono (q_TH (j_nx hn (j_R_sI (j := 31) (x := M.1 172 30) h (by omega))) (g_X8_next n _)) (fun M2 h2 => ?_))))
  obtain ⟨h2, g2⟩ := h2
  have e31 : M2.1 172 31 = nI (j_V T t p) := by rw [g2.1 172 31 (by unfold w_76; omega), q_r, if_pos ⟨rfl, rfl⟩, h.2.2.2.2.2 c1]
  refine q_ob (q_of (j_rverb (by omega) h2) (q_bd ?_))
  have h3 := j_R_sI (j := 32) (x := j_vb T t (j_E T t p)) h2 (by omega)
  have e32 : (m_sI M2 172 32 (j_vb T t (j_E T t p))).1 172 32 = j_vb T t (j_E T t p) := by rw [q_r, if_pos ⟨rfl, rfl⟩]
  have d31 : (m_sI M2 172 32 (j_vb T t (j_E T t p))).1 172 31 = nI (j_V T t p) := by rw [q_r, if_neg (by omega), e31]
  generalize m_sI M2 172 32 (j_vb T t (j_E T t p)) = M3 at *
  rw [e32]
  by_cases c2 : j_vb T t (j_p1 T t p) = -1
  · have ef2 : j_f1 T t p = nI (j_S T t (j_p1 T t p)) := if_pos c2
    rw [ef1, ef2]
    exact q_it c2 (q_some ⟨fun q => absurd q (q_m1 (sb _ (by omega))), fun _ => ⟨rfl, h3.2.2.1⟩⟩)
  have ef2 : j_f1 T t p = j_f2 T t p := if_neg c2
  obtain ⟨k, hk, ek⟩ := (j_vb_of c2).2
  have ekk : j_vb T t (j_p1 T t p) = nI (j_k T t p) ∧ j_k T t p < 15 := by
    unfold j_k
    rw [ek, q_cl (by omega)]
    exact ⟨rfl, hk⟩
  refine q_if c2 (q_ob (q_mono (q_TH (j_nx hn h3) (g_X8_next n _)) (fun M4 h4 => ?_)))
  obtain ⟨h4, g4⟩ := h4
  have f31 : M4.1 172 31 = nI (j_V T t p) := (g4.1 172 31 (by unfold w_76; omega)).trans d31
  have f32 : M4.1 172 32 = nI (j_k T t p) := (g4.1 172 32 (by unfold w_76; omega)).trans (e32.trans ekk.1)
  have h4' : j_R T t (j_p2 T t p) M4 := h4
  rw [h4'.2.2.2.2.1]
  by_cases c3 : ¬ j_K T t (j_p2 T t p) = 2
  · have ef3 : j_f2 T t p = nI (j_S T t (j_p2 T t p)) := if_neg c3
    rw [ef1, ef2, ef3]
    exact q_if (fun q => c3 ((l2 _).mp q)) (q_some ⟨fun q => absurd q (q_m1 (sb _ (by omega))), fun _ => ⟨rfl, h4'.2.2.1⟩⟩)
  replace c3 := Classical.not_not.mp c3
  have ef3 : j_f2 T t p = j_f3 T t p := if_pos c3
  refine q_it ((l2 _).mpr c3) (q_bd (q_ob (q_mono (q_TH (j_nx hn (j_R_sI (j := 33) (x := M4.1 172 30) h4' (by omega))) (g_X8_next n _)) (fun M5 h5 => ?_))))
  obtain ⟨h5, g5⟩ := h5
  have i31 : M5.1 172 31 = nI (j_V T t p) := by rw [g5.1 172 31 (by unfold w_76; omega), q_r, if_neg (by omega), f31]
  have i32 : M5.1 172 32 = nI (j_k T t p) := by rw [g5.1 172 32 (by unfold w_76; omega), q_r, if_neg (by omega), f32]
  have i33 : M5.1 172 33 = nI (j_V T t (j_p2 T t p)) := by rw [g5.1 172 33 (by unfold w_76; omega), q_r, if_pos ⟨rfl, rfl⟩, h4'.2.2.2.2.2 c3]
  refine q_bd (q_bd (q_bd ?_))
  have h6 : j_R T t (j_p3 T t p) (m_sI (m_sI M5 172 34 0) 172 35 0) := j_R_sI (j := 35) (x := 0) (j_R_sI (j := 34) (x := 0) h5 (by omega)) (by omega)
  have m31 : (m_sI (m_sI M5 172 34 0) 172 35 0).1 172 31 = nI (j_V T t p) := by rw [q_r, q_r, if_neg (by omega), if_neg (by omega), i31]
  have m32 : (m_sI (m_sI M5 172 34 0) 172 35 0).1 172 32 = nI (j_k T t p) := by rw [q_r, q_r, if_neg (by omega), if_neg (by omega), i32]
  have m33 : (m_sI (m_sI M5 172 34 0) 172 35 0).1 172 33 = nI (j_V T t (j_p2 T t p)) := by rw [q_r, q_r, if_neg (by omega), if_neg (by omega), i33]
  have m34 : (m_sI (m_sI M5 172 34 0) 172 35 0).1 172 34 = 0 := by rw [q_r, q_r, if_neg (by omega), if_pos ⟨rfl, rfl⟩]
  have m35 : (m_sI (m_sI M5 172 34 0) 172 35 0).1 172 35 = 0 := by rw [q_r, if_pos ⟨rfl, rfl⟩]
  generalize m_sI (m_sI M5 172 34 0) 172 35 0 = M6 at *
  rw [m32, n_nb ekk.2]
  have fin : ∀ M7 : m_M, j_R T t (j_p4 T t p) M7 → M7.1 172 31 = nI (j_V T t p) → M7.1 172 32 = nI (j_k T t p) → M7.1 172 33 = nI (j_V T t (j_p2 T t p)) → M7.1 172 34 = j_b T t p → M7.1 172 35 = 0 → j_f3 T t p = j_f4 T t p → q_T (f_X8_readItem_b135 n M7) (fun a => (j_fl T t p = -1 → a.1 = 1 ∧ j_R T t (j_p6 T t p) a.2 ∧ a.2.1 172 31 = nI (j_V T t p) ∧ a.2.1 172 32 = nI (j_k T t p) ∧ a.2.1 172 33 = nI (j_V T t (j_p2 T t p)) ∧ a.2.1 172 34 = j_b T t p ∧ a.2.1 172 35 = j_v T t p) ∧ (j_fl T t p ≠ -1 → a.1 = 0 ∧ a.2.1 172 27 = j_fl T t p)) := by
    intro M7 h7 p31 p32 p33 p34 p35 ef4
    refine q_mono (j_a135 hn ekk.2 rfl h7 p32 p35) (fun a ha => ?_)
    rw [ef1, ef2, ef3, ef4]
    refine ⟨fun q => ?_, ha.2⟩
    obtain ⟨b1, b2, b3, b4⟩ := ha.1 q
    exact ⟨b1, b2, (b4 31 (by omega) (by omega)).trans p31, (b4 32 (by omega) (by omega)).trans p32, (b4 33 (by omega) (by omega)).trans p33, (b4 34 (by omega) (by omega)).trans p34, b3⟩
  by_cases cb : j_nb (j_k T t p)
  · rw [if_neg cb, h6.2.2.2.2.1]
    have e4 : j_p4 T t p = j_E T t (j_p3 T t p) := if_pos cb
    refine q_if (by decide) ?_
    by_cases q2 : j_K T t (j_p3 T t p) = 2
    · have ef4 : j_f3 T t p = j_f4 T t p := if_neg (fun q => q.2 (Or.inl q2))
      refine q_it ((l2 _).mpr q2) ?_
      unfold f_X8_readItem_b111
      rw [h6.2.2.2.2.1]
      refine q_if (fun q => absurd ((l3 _).mp q) (by omega)) (q_bd (q_ob (q_mono (q_TH (j_nx hn (j_R_sI (j := 34) (x := M6.1 172 30) h6 (by omega))) (g_X8_next n _)) (fun M7 h7 => ?_))))
      obtain ⟨h7, g7⟩ := h7
      refine fin M7 (by rw [e4]; exact h7) ?_ ?_ ?_ ?_ ?_ ef4
      · rw [g7.1 172 31 (by unfold w_76; omega), q_r, if_neg (by omega), m31]
      · rw [g7.1 172 32 (by unfold w_76; omega), q_r, if_neg (by omega), m32]
      · rw [g7.1 172 33 (by unfold w_76; omega), q_r, if_neg (by omega), m33]
      · rw [g7.1 172 34 (by unfold w_76; omega), q_r, if_pos ⟨rfl, rfl⟩, h6.2.2.2.2.2 q2]
        unfold j_b
        rw [if_pos cb, if_neg (by omega)]
      · rw [g7.1 172 35 (by unfold w_76; omega), q_r, if_neg (by omega), m35]
    · refine q_if (fun q => q2 ((l2 _).mp q)) ?_
      by_cases q3 : j_K T t (j_p3 T t p) = 3
      · refine q_it ((l3 _).mpr q3) ?_
        by_cases q0 : j_k T t p = 0
        · have ef4 : j_f3 T t p = j_f4 T t p := if_neg (fun q => q.2 (Or.inr ⟨q3, q0⟩))
          refine q_it (by rw [q0]; rfl) ?_
          unfold f_X8_readItem_b111
          rw [h6.2.2.2.2.1]
          refine q_it ((l3 _).mpr q3) (q_bd (q_ob (q_mono (q_TH (j_nx hn (j_R_sI (j := 34) (x := -1) h6 (by omega))) (g_X8_next n _)) (fun M7 h7 => ?_))))
          obtain ⟨h7, g7⟩ := h7
          refine fin M7 (by rw [e4]; exact h7) ?_ ?_ ?_ ?_ ?_ ef4
          · rw [g7.1 172 31 (by unfold w_76; omega), q_r, if_neg (by omega), m31]
          · rw [g7.1 172 32 (by unfold w_76; omega), q_r, if_neg (by omega), m32]
          · rw [g7.1 172 33 (by unfold w_76; omega), q_r, if_neg (by omega), m33]
          · rw [g7.1 172 34 (by unfold w_76; omega), q_r, if_pos ⟨rfl, rfl⟩]
            unfold j_b
            rw [if_pos cb, if_pos q3]
          · rw [g7.1 172 35 (by unfold w_76; omega), q_r, if_neg (by omega), m35]
        · have ef4 : j_f3 T t p = nI (j_S T t (j_p3 T t p)) := if_pos ⟨cb, fun q => by rcases q with q | q; exact q2 q; exact q0 q.2⟩
          rw [ef1, ef2, ef3, ef4]
          exact q_if (fun q => q0 ((nI_eq (b := 0) (by omega) (by decide)).mp q)) (q_some ⟨fun q => absurd q (q_m1 (sb _ (by omega))), fun _ => ⟨rfl, h6.2.2.1⟩⟩)
      · have ef4 : j_f3 T t p = nI (j_S T t (j_p3 T t p)) := if_pos ⟨cb, fun q => by rcases q with q | q; exact q2 q; exact q3 q.1⟩
        rw [ef1, ef2, ef3, ef4]
        exact q_if (fun q => q3 ((l3 _).mp q)) (q_some ⟨fun q => absurd q (q_m1 (sb _ (by omega))), fun _ => ⟨rfl, h6.2.2.1⟩⟩)
  · have ef4 : j_f3 T t p = j_f4 T t p := if_neg (fun q => cb q.1)
    have e4 : j_p4 T t p = j_p3 T t p := if_neg cb
    rw [if_pos (Classical.not_not.mp cb)]
    refine q_it rfl (fin M6 (by rw [e4]; exact h6) m31 m32 m33 ?_ m35 ef4)
    rw [m34]
    exact (if_neg cb).symm
