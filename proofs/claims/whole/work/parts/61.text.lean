/-! THE TEXT: its tokens -/
theorem j_sub {a b : Nat} (h : b ≤ a) : nI a - nI b = nI (a - b) := by
  obtain ⟨c, rfl⟩ : ∃ c, a = b + c := ⟨a - b, by omega⟩
  rw [← q_add, Int32.add_comm, Int32.add_sub_cancel, show b + c - b = c by omega]
def j_sk (t : Nat → Nat) : Nat → Nat → Nat
  | 0, p => p
  | d + 1, p => if t p = 32 then j_sk t d (p + 1) else p
def j_rn (f : Nat → Bool) (t : Nat → Nat) : Nat → Nat → Nat
  | 0, _ => 0
  | d + 1, p => if f (t p) = true then j_rn f t d (p + 1) + 1 else 0
def j_fi (c : Nat) : Bool := decide (48 ≤ c ∧ c ≤ 57)
def j_sm (c : Nat) : Bool := decide (97 ≤ c ∧ c ≤ 122)
def j_vl (t : Nat → Nat) (s : Nat) : Nat → Nat
  | 0 => 0
  | i + 1 => if i < 4 then 10 * j_vl t s i + (t (s + i) - 48) else j_vl t s i
def j_cd (t : Nat → Nat) (s : Nat) : Nat → Nat
  | 0 => 0
  | i + 1 => 27 * j_cd t s i + (t (s + i) - 96)
def j_S (T : Nat) (t : Nat → Nat) (p : Nat) : Nat := j_sk t (T - p) p
def j_D (T : Nat) (t : Nat → Nat) (p : Nat) : Nat := j_rn j_fi t (T - j_S T t p) (j_S T t p)
def j_W (T : Nat) (t : Nat → Nat) (p : Nat) : Nat := j_rn j_sm t (T - j_S T t p) (j_S T t p)
def j_K (T : Nat) (t : Nat → Nat) (p : Nat) : Nat := if j_S T t p = T then 0 else if j_sm (t (j_S T t p)) = true then 1 else if j_fi (t (j_S T t p)) = true then (if j_D T t p ≤ 4 then 2 else 5) else if t (j_S T t p) = 45 then 3 else if t (j_S T t p) = 59 then 4 else 5
def j_L (T : Nat) (t : Nat → Nat) (p : Nat) : Nat := if j_S T t p = T then 0 else if j_sm (t (j_S T t p)) = true then j_W T t p else if j_fi (t (j_S T t p)) = true then j_D T t p else 1
def j_V (T : Nat) (t : Nat → Nat) (p : Nat) : Nat := j_vl t (j_S T t p) (j_D T t p)
def j_E (T : Nat) (t : Nat → Nat) (p : Nat) : Nat := j_S T t p + j_L T t p
theorem j_sk_b (t : Nat → Nat) : ∀ d p, p ≤ j_sk t d p ∧ j_sk t d p ≤ p + d ∧ (j_sk t d p < p + d → t (j_sk t d p) ≠ 32)
  | 0, p => ⟨Nat.le_refl _, Nat.le_refl _, fun h => absurd h (Nat.lt_irrefl _)⟩
  | d + 1, p => by
    obtain ⟨a, b, c⟩ := j_sk_b t d (p + 1)
    rw [j_sk]
    by_cases h : t p = 32
    · rw [if_pos h]
      exact ⟨by omega, by omega, fun q => c (by omega)⟩
    · rw [if_neg h]
      exact ⟨Nat.le_refl _, by omega, fun _ => h⟩
theorem j_rn_b (f : Nat → Bool) (t : Nat → Nat) : ∀ d p, j_rn f t d p ≤ d ∧ (∀ i, i < j_rn f t d p → f (t (p + i)) = true) ∧ (j_rn f t d p < d → f (t (p + j_rn f t d p)) = false)
  | 0, p => ⟨Nat.le_refl _, fun i h => absurd h (Nat.not_lt_zero _), fun h => absurd h (Nat.lt_irrefl _)⟩
  | d + 1, p => by
    obtain ⟨a, b, c⟩ := j_rn_b f t d (p + 1)
    rw [j_rn]
    by_cases h : f (t p) = true
    · rw [if_pos h]
      refine ⟨by omega, fun i hi => ?_, fun q => ?_⟩
      · rcases Nat.eq_zero_or_pos i with e | e
        · subst e
          exact h
        · obtain ⟨m, rfl⟩ : ∃ m, i = m + 1 := ⟨i - 1, by omega⟩
          rw [show p + (m + 1) = p + 1 + m by omega]
          exact b m (by omega)
      · rw [show p + (j_rn f t d (p + 1) + 1) = p + 1 + j_rn f t d (p + 1) by omega]
        exact c (by omega)
    · rw [if_neg h]
      refine ⟨by omega, fun i hi => absurd hi (Nat.not_lt_zero _), fun _ => ?_⟩
      rw [Nat.add_zero]
      exact Bool.eq_false_iff.mpr h
theorem j_S_b {T p : Nat} (t : Nat → Nat) (hp : p ≤ T) : p ≤ j_S T t p ∧ j_S T t p ≤ T ∧ (j_S T t p < T → t (j_S T t p) ≠ 32) := by
  obtain ⟨a, b, c⟩ := j_sk_b t (T - p) p
  unfold j_S
  exact ⟨a, by omega, fun q => c (by omega)⟩
theorem j_rn0 {f : Nat → Bool} {t : Nat → Nat} {d p : Nat} (hd : 0 < d) : f (t p) = true ↔ 0 < j_rn f t d p := by
  obtain ⟨d, rfl⟩ : ∃ e, d = e + 1 := ⟨d - 1, by omega⟩
  rw [j_rn]
  by_cases h : f (t p) = true
  · rw [if_pos h]
    exact ⟨fun _ => by omega, fun _ => h⟩
  · rw [if_neg h]
    exact ⟨fun q => absurd q h, fun q => absurd q (by omega)⟩
theorem j_E_b {T p : Nat} (t : Nat → Nat) (hp : p ≤ T) : p ≤ j_E T t p ∧ j_E T t p ≤ T ∧ (j_S T t p < T → p < j_E T t p) := by
  obtain ⟨a, b, c⟩ := j_S_b t hp
  have d := (j_rn_b j_fi t (T - j_S T t p) (j_S T t p)).1
  have w := (j_rn_b j_sm t (T - j_S T t p) (j_S T t p)).1
  unfold j_E j_L j_D j_W
  by_cases c0 : j_S T t p = T
  · rw [if_pos c0]
    omega
  · rw [if_neg c0]
    by_cases c1 : j_sm (t (j_S T t p)) = true
    · rw [if_pos c1]
      have := (j_rn0 (f := j_sm) (t := t) (d := T - j_S T t p) (p := j_S T t p) (by omega)).mp c1
      omega
    · rw [if_neg c1]
      by_cases c2 : j_fi (t (j_S T t p)) = true
      · rw [if_pos c2]
        have := (j_rn0 (f := j_fi) (t := t) (d := T - j_S T t p) (p := j_S T t p) (by omega)).mp c2
        omega
      · rw [if_neg c2]
        omega
/-- the class at place p of its text, b its blame -/
def j_C (T : Nat) (t : Nat → Nat) (p : Nat) (b : Int32) (M : m_M) : Prop := M.1 168 1 = nI T ∧ M.1 168 2 = nI p ∧ M.1 168 3 = b ∧ p ≤ T ∧ T ≤ 300 ∧ (∀ j, t j < 256) ∧ ∀ j, j < T → M.1 169 j = nI (t j)
theorem j_C_mv {T p p' : Nat} {t : Nat → Nat} {b : Int32} {M : m_M} (h : j_C T t p b M) (hp : p' ≤ T) : j_C T t p' b (m_sI M 168 2 (nI p')) := by
  obtain ⟨a1, a2, a3, a4, a5, a6, a7⟩ := h
  exact ⟨by rw [q_r, if_neg (by omega), a1], by rw [q_r, if_pos ⟨rfl, rfl⟩], by rw [q_r, if_neg (by omega), a3], hp, a5, a6, fun j hj => by rw [q_r, if_neg (by omega)]; exact a7 j hj⟩
def j_bl (b : Int32) (s : Nat) : Int32 := if b = -1 then nI s else b
theorem j_C_bl {T p s : Nat} {t : Nat → Nat} {b : Int32} {M : m_M} (h : j_C T t p b M) : j_C T t p (j_bl b s) (f_X2_blame (nI s) M) := by
  obtain ⟨a1, a2, a3, a4, a5, a6, a7⟩ := h
  unfold f_X2_blame j_bl
  rw [a3]
  by_cases c : b = -1
  · rw [if_pos c, if_pos c]
    exact ⟨(by rw [m_bd, q_r, if_neg (by omega), a1]), (by rw [m_bd, q_r, if_neg (by omega), a2]), (by rw [m_bd, q_r, if_pos ⟨rfl, rfl⟩]), a4, a5, a6, fun j hj => by rw [m_bd, q_r, if_neg (by omega)]; exact a7 j hj⟩
  · rw [if_neg c, if_neg c]
    exact ⟨a1, a2, a3, a4, a5, a6, a7⟩
theorem j_C_fr {T p : Nat} {t : Nat → Nat} {b : Int32} {M M' : m_M} (h : j_C T t p b M) (e : ∀ i j, (i = 168 ∧ (j = 1 ∨ j = 2 ∨ j = 3)) ∨ i = 169 → M'.1 i j = M.1 i j) : j_C T t p b M' := by
  obtain ⟨a1, a2, a3, a4, a5, a6, a7⟩ := h
  exact ⟨(e _ _ (by omega)).trans a1, (e _ _ (by omega)).trans a2, (e _ _ (by omega)).trans a3, a4, a5, a6, fun j hj => (e _ _ (by omega)).trans (a7 j hj)⟩
theorem j_32 {c : Nat} (hc : c < 256) (k : Nat) (hk : k < 256) : nI c = nI k ↔ c = k := nI_eq (by omega) (by omega)
theorem j_sk0 {n T : Nat} {t : Nat → Nat} {b : Int32} : ∀ (d p u : Nat) (M : m_M), p + d = T → d < u → j_C T t p b M → q_T (f_X2_skipBlanks_b0 n u M) (j_C T t (j_sk t d p) b) := by
  intro d
  induction d with
  | zero =>
    intro p u M hp hu h
    obtain ⟨u, rfl⟩ : ∃ v, u = v + 1 := ⟨u - 1, by omega⟩
    rw [f_X2_skipBlanks_b0, h.1, h.2.1]
    exact q_it ((q_le (by have := h.2.2.2.2.1; omega) (by have := h.2.2.2.2.1; omega)).mpr (by omega)) (q_some h)
  | succ d ih =>
    intro p u M hp hu h
    have h5 := h.2.2.2.2.1
    obtain ⟨u, rfl⟩ : ∃ v, u = v + 1 := ⟨u - 1, by omega⟩
    rw [f_X2_skipBlanks_b0, h.1, h.2.1]
    refine q_if (fun q => absurd ((q_le (by omega) (by omega)).mp q) (by omega)) (q_gd (q_in (by omega) (by decide)) ?_)
    rw [q_cl (by omega), h.2.2.2.2.2.2 p (by omega), j_sk]
    by_cases c : t p = 32
    · rw [if_pos c]
      refine q_it (by rw [c]; rfl) (q_bd ?_)
      rw [q_up]
      exact ih (p + 1) u _ (by omega) (by omega) (j_C_mv h (by omega))
    · rw [if_neg c]
      exact q_if (fun q => c ((j_32 (h.2.2.2.2.2.1 p) 32 (by omega)).mp q)) (q_some h)
theorem j_skip {n T p : Nat} {t : Nat → Nat} {b : Int32} {M : m_M} (hn : 400 < n) (h : j_C T t p b M) : q_T (f_X2_skipBlanks n M) (j_C T t (j_S T t p) b) := by
  have h5 := h.2.2.2.2.1
  have h4 := h.2.2.2.1
  have e := j_sk0 (n := n) (T - p) p (n + 1) M (by omega) (by omega) h
  rw [f_X2_skipBlanks_b0] at e
  exact e
theorem j_sk_id {t : Nat → Nat} : ∀ d p, (0 < d → t p ≠ 32) → j_sk t d p = p
  | 0, _, _ => rfl
  | d + 1, p, h => by rw [j_sk, if_neg (h (by omega))]
theorem j_S_id {T p : Nat} (t : Nat → Nat) (hp : p ≤ T) : j_S T t (j_S T t p) = j_S T t p := by
  obtain ⟨a, b, c⟩ := j_S_b t hp
  exact j_sk_id _ _ (fun q => c (by omega))
/-- from a blank or after it: the same token -/
theorem j_tok_S {T p : Nat} (t : Nat → Nat) (hp : p ≤ T) : j_D T t (j_S T t p) = j_D T t p ∧ j_W T t (j_S T t p) = j_W T t p ∧ j_K T t (j_S T t p) = j_K T t p ∧ j_E T t (j_S T t p) = j_E T t p ∧ j_V T t (j_S T t p) = j_V T t p := by
  unfold j_K j_E j_L j_V j_D j_W
  rw [j_S_id t hp]
  exact ⟨rfl, rfl, rfl, rfl, rfl⟩
/-! the class reads a number -/
theorem j_nm91 {n T p s v m : Nat} {t : Nat → Nat} {b : Int32} {M : m_M} (h : j_C T t p b M) (hp : p = s + m) : q_T (f_X2_number_b91 n (nI s) (nI v) M) (fun a => a.1 = nI v ∧ j_C T t p (if m ≠ 0 ∧ m ≤ 4 then b else j_bl b s) a.2) := by
  have h5 := h.2.2.2.2.1
  have h4 := h.2.2.2.1
  unfold f_X2_number_b91
  rw [h.2.1]
  by_cases c : m = 0
  · rw [if_neg (show ¬ (m ≠ 0 ∧ m ≤ 4) from fun q => q.1 c)]
    exact q_it (by rw [hp, c]; rfl) (q_bd (q_some ⟨rfl, j_C_bl h⟩))
  · refine q_if (fun q => c ?_) ?_
    · have := (nI_eq (by omega) (by omega)).mp q
      omega
    rw [j_sub (by omega), show p - s = m by omega]
    by_cases c2 : m ≤ 4
    · have e : (if m ≠ 0 ∧ m ≤ 4 then b else j_bl b s) = b := if_pos ⟨c, c2⟩
      rw [e]
      exact q_it ((q_le (b := 4) (by omega) (by decide)).mpr c2) (q_some ⟨rfl, h⟩)
    · have e : (if m ≠ 0 ∧ m ≤ 4 then b else j_bl b s) = j_bl b s := if_neg (fun q => c2 q.2)
      rw [e]
      exact q_if (fun q => c2 ((q_le (b := 4) (by omega) (by decide)).mp q)) (q_bd (q_some ⟨rfl, j_C_bl h⟩))
theorem j_nm11 {n T s : Nat} {t : Nat → Nat} {b : Int32} : ∀ (d i u : Nat) (M : m_M), s + i + d = T → d < u → j_C T t (s + i) b M → q_T (f_X2_number_b11 n u (nI s) (nI (j_vl t s i)) M) (fun a => a.1 = nI (j_vl t s (i + j_rn j_fi t d (s + i))) ∧ j_C T t (s + i + j_rn j_fi t d (s + i)) (if i + j_rn j_fi t d (s + i) ≠ 0 ∧ i + j_rn j_fi t d (s + i) ≤ 4 then b else j_bl b s) a.2) := by
  intro d
  induction d with
  | zero =>
    intro i u M hp hu h
    have h5 := h.2.2.2.2.1
    obtain ⟨u, rfl⟩ : ∃ v, u = v + 1 := ⟨u - 1, by omega⟩
    rw [f_X2_number_b11, h.1, h.2.1, j_rn, Nat.add_zero, Nat.add_zero]
    exact q_it ((q_le (by omega) (by omega)).mpr (by omega)) (j_nm91 h rfl)
  | succ d ih =>
    intro i u M hp hu h
    have h5 := h.2.2.2.2.1
    have hb := h.2.2.2.2.2.1 (s + i)
    obtain ⟨u, rfl⟩ : ∃ v, u = v + 1 := ⟨u - 1, by omega⟩
    rw [f_X2_number_b11, h.1, h.2.1, j_rn]
    refine q_if (fun q => absurd ((q_le (by omega) (by omega)).mp q) (by omega)) (q_gd (q_in (by omega) (by decide)) ?_)
    rw [q_cl (by omega), h.2.2.2.2.2.2 (s + i) (by omega)]
    have l48 : nI (t (s + i)) < (48 : Int32) ↔ t (s + i) < 48 := q_lt (b := 48) (by omega) (by decide)
    have l57 : (57 : Int32) < nI (t (s + i)) ↔ 57 < t (s + i) := q_lt (a := 57) (by decide) (by omega)
    by_cases c : j_fi (t (s + i)) = true
    · have c' := of_decide_eq_true c
      rw [if_pos c]
      refine q_if (fun q => absurd (l48.mp q) (by omega)) (q_if (fun q => absurd (l57.mp q) (by omega)) ?_)
      rw [j_sub (by omega), show s + i - s = i by omega]
      have key : ∀ v, v = j_vl t s (i + 1) → q_T (f_X2_number_b78 n (f_X2_number_b11 n u) (nI s) (nI v) M) (fun a => a.1 = nI (j_vl t s (i + (j_rn j_fi t d (s + i + 1) + 1))) ∧ j_C T t (s + i + (j_rn j_fi t d (s + i + 1) + 1)) (if i + (j_rn j_fi t d (s + i + 1) + 1) ≠ 0 ∧ i + (j_rn j_fi t d (s + i + 1) + 1) ≤ 4 then b else j_bl b s) a.2) := by
        intro v hv
        subst hv
        unfold f_X2_number_b78
        refine q_bd ?_
        rw [h.2.1, q_up]
        have k := ih (i + 1) u _ (by omega) (by omega) (j_C_mv h (p' := s + (i + 1)) (by omega))
        rw [show s + (i + 1) = s + i + 1 by omega] at k
        rw [show i + (j_rn j_fi t d (s + i + 1) + 1) = i + 1 + j_rn j_fi t d (s + i + 1) by omega, show s + i + (j_rn j_fi t d (s + i + 1) + 1) = s + i + 1 + j_rn j_fi t d (s + i + 1) by omega]
        exact k
      have l4 : (4 : Int32) ≤ nI i ↔ 4 ≤ i := q_le (a := 4) (by decide) (by omega)
      by_cases c4 : i < 4
      · refine q_if (fun q => absurd (l4.mp q) (by omega)) (q_bd ?_)
        rw [q_x10, show nI (t (s + i)) - (48 : Int32) = nI (t (s + i) - 48) from j_sub (b := 48) (by omega), q_add]
        exact key _ (by rw [j_vl, if_pos c4])
      · exact q_it (l4.mpr (by omega)) (key _ (by rw [j_vl, if_neg c4]))
    · rw [if_neg c, Nat.add_zero, Nat.add_zero]
      have c' : ¬ (48 ≤ t (s + i) ∧ t (s + i) ≤ 57) := fun q => c (decide_eq_true q)
      refine q_ite (fun _ => j_nm91 h rfl) (fun q => ?_)
      exact q_it (l57.mpr (by have : ¬ t (s + i) < 48 := fun w => q (l48.mpr w); omega)) (j_nm91 h rfl)
theorem j_K2 {T p : Nat} {t : Nat → Nat} : j_K T t p = 2 ↔ j_S T t p < T ∧ j_fi (t (j_S T t p)) = true ∧ j_D T t p ≤ 4 ∨ (j_S T t p ≠ T ∧ T < j_S T t p ∧ j_sm (t (j_S T t p)) = false ∧ j_fi (t (j_S T t p)) = true ∧ j_D T t p ≤ 4) := by
  have ex : ∀ c, j_fi c = true → j_sm c = false := fun c h => by
    have := of_decide_eq_true h
    exact decide_eq_false (by omega)
  unfold j_K
  by_cases c0 : j_S T t p = T
  · rw [if_pos c0]
    omega
  · rw [if_neg c0]
    by_cases c2 : j_fi (t (j_S T t p)) = true
    · rw [if_neg (by rw [ex _ c2]; decide), if_pos c2]
      by_cases c3 : j_D T t p ≤ 4
      · rw [if_pos c3]
        refine ⟨fun _ => ?_, fun _ => rfl⟩
        by_cases c4 : j_S T t p < T
        · exact Or.inl ⟨c4, c2, c3⟩
        · exact Or.inr ⟨c0, by omega, ex _ c2, c2, c3⟩
      · rw [if_neg c3]
        refine ⟨fun q => absurd q (by omega), fun q => ?_⟩
        rcases q with q | q
        · exact absurd q.2.2 c3
        · exact absurd q.2.2.2.2 c3
    · refine ⟨fun q => ?_, fun q => ?_⟩
      · by_cases c1 : j_sm (t (j_S T t p)) = true
        · rw [if_pos c1] at q
          exact absurd q (by omega)
        · rw [if_neg c1, if_neg c2] at q
          repeat' split at q
          all_goals exact absurd q (by omega)
      · rcases q with q | q
        · exact absurd q.2.1 c2
        · exact absurd q.2.2.2.1 c2
theorem j_num {n T p : Nat} {t : Nat → Nat} {b : Int32} {M : m_M} (hn : 400 < n) (h : j_C T t p b M) : q_T (f_X2_number n M) (fun a => a.1 = nI (j_V T t p) ∧ (j_K T t p = 2 → j_C T t (j_E T t p) b a.2) ∧ (j_K T t p ≠ 2 → ∃ p', j_C T t p' (j_bl b (j_S T t p)) a.2)) := by
  have h5 := h.2.2.2.2.1
  have h4 := h.2.2.2.1
  obtain ⟨s1, s2, s3⟩ := j_S_b t h4
  unfold f_X2_number
  refine q_ob (q_mono (j_skip hn h) (fun M1 h1 => ?_))
  rw [h1.2.1]
  have k := j_nm11 (n := n) (s := j_S T t p) (T - j_S T t p) 0 n M1 (by omega) (by omega) h1
  rw [Nat.zero_add, Nat.add_zero] at k
  refine q_mono k (fun a ha => ?_)
  obtain ⟨a1, a2⟩ := ha
  have hD : j_rn j_fi t (T - j_S T t p) (j_S T t p) = j_D T t p := rfl
  rw [hD] at a1 a2
  refine ⟨a1, fun q => ?_, fun q => ?_⟩
  · rcases j_K2.mp q with ⟨q1, q2, q3⟩ | ⟨_, q, _⟩
    · have h0 : 0 < j_D T t p := (j_rn0 (by omega)).mp q2
      rw [if_pos ⟨by omega, q3⟩] at a2
      have ex : j_sm (t (j_S T t p)) = false := by
        have := of_decide_eq_true q2
        exact decide_eq_false (by omega)
      have eE : j_E T t p = j_S T t p + j_D T t p := by
        unfold j_E j_L
        rw [if_neg (by omega), if_neg (by rw [ex]; decide), if_pos q2]
      rw [eE]
      exact a2
    · omega
  · refine ⟨j_S T t p + j_D T t p, ?_⟩
    · rw [if_neg] at a2
      · exact a2
      · rintro ⟨q1, q2⟩
        by_cases c : j_S T t p = T
        · refine q1 ?_
          show j_rn j_fi t (T - j_S T t p) (j_S T t p) = 0
          rw [c, Nat.sub_self]
          rfl
        · exact q (j_K2.mpr (Or.inl ⟨by omega, (j_rn0 (d := T - j_S T t p) (by omega)).mpr (Nat.pos_of_ne_zero q1), q2⟩))
