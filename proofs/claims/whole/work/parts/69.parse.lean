/-! LAWS: how a text is read, purely; the class at a place of it -/
abbrev v_R : Type := Sum Int32 (Nat × v_L × v_F)
def v_c (T : Nat) (t : Nat → Nat) (p : Nat) : Int32 := if j_S T t p = T then -1 else nI (t (j_S T t p))
def v_nm (c : Nat) : Nat := if c = 103 then 0 else if c = 115 then 1 else if c = 111 then 2 else if c = 119 then 3 else if c = 104 then 4 else 5
def v_dv (t : Nat → Nat) (s : Nat) : Nat → Nat
  | 0 => 0
  | i + 1 => 10 * v_dv t s i + (t (s + i) - 48)
def v_opd (T : Nat) (t : Nat → Nat) (rv : Nat → Nat → v_R) (d p : Nat) : v_R :=
  if j_S T t p = T then .inl (nI (10 * j_S T t p + 1))
  else if j_fi (t (j_S T t p)) = true then (if j_D T t p ≤ 6 then .inr (j_S T t p + j_D T t p, [(110, lN (v_dv t (j_S T t p) (j_D T t p)))], fun _ => lN (v_dv t (j_S T t p) (j_D T t p))) else .inl (nI (10 * j_S T t p + 2)))
  else if t (j_S T t p) = 40 then (if d < 8 then (match rv (d + 1) (j_S T t p + 1) with
    | .inl φ => .inl φ
    | .inr (p', S, v) => if v_c T t p' = 41 then .inr (j_S T t p' + 1, S, v) else .inl (nI (10 * j_S T t p' + 1))) else .inl (nI (10 * j_S T t p + 3)))
  else if v_nm (t (j_S T t p)) < 5 then .inr (j_S T t p + 1, [(118, lN (v_nm (t (j_S T t p))))], fun f => f (v_nm (t (j_S T t p))))
  else .inl (nI (10 * j_S T t p + 1))
def v_unit (T : Nat) (t : Nat → Nat) (rv : Nat → Nat → v_R) (d : Nat) : Nat → Nat → v_R
  | 0, _ => .inl 0
  | f + 1, p => if v_c T t p = 33 ∨ v_c T t p = 45 then (match v_unit T t rv d f (j_S T t p + 1) with
    | .inl φ => .inl φ
    | .inr (p', S, v) => .inr (p', S ++ [(if decide (v_c T t p = 33) = true then 33 else 126, 0)], fun g => if decide (v_c T t p = 33) = true then v_nt (v g) else - v g)) else v_opd T t rv d p
def v_loop (T : Nat) (t : Nat → Nat) (sub : Nat → v_R) (iso : Int32 → Bool) : Nat → Nat → v_L → v_F → v_R
  | 0, _, _, _ => .inl 0
  | f + 1, p, S, v => if iso (v_c T t p) = true then (match sub (j_S T t p + 1) with
    | .inl φ => .inl φ
    | .inr (p', S', v') => v_loop T t sub iso f p' (S ++ (S' ++ [(v_c T t p, 0)])) (fun g => v_jn (v_c T t p) (v g) (v' g))) else .inr (j_S T t p, S, v)
def v_lv (T : Nat) (t : Nat → Nat) (sub : Nat → v_R) (iso : Int32 → Bool) (p : Nat) : v_R := match sub p with
  | .inl φ => .inl φ
  | .inr (p', S, v) => v_loop T t sub iso (T + 1) p' S v
def v_i5 (c : Int32) : Bool := decide (c = 42 ∨ c = 47)
def v_i4 (c : Int32) : Bool := decide (c = 43 ∨ c = 45)
def v_i3 (c : Int32) : Bool := decide (c = 60 ∨ c = 62 ∨ c = 61)
def v_i2 (c : Int32) : Bool := decide (c = 38)
def v_i1 (c : Int32) : Bool := decide (c = 124)
def v_p6 (T : Nat) (t : Nat → Nat) (rv : Nat → Nat → v_R) (d p : Nat) : v_R := v_unit T t rv d (T + 1) p
def v_p5 (T : Nat) (t : Nat → Nat) (rv : Nat → Nat → v_R) (d p : Nat) : v_R := v_lv T t (v_p6 T t rv d) v_i5 p
def v_p4 (T : Nat) (t : Nat → Nat) (rv : Nat → Nat → v_R) (d p : Nat) : v_R := v_lv T t (v_p5 T t rv d) v_i4 p
def v_p3 (T : Nat) (t : Nat → Nat) (rv : Nat → Nat → v_R) (d p : Nat) : v_R := match v_p4 T t rv d p with
  | .inl φ => .inl φ
  | .inr (p', S, v) => if v_i3 (v_c T t p') = true then (match v_p4 T t rv d (j_S T t p' + 1) with
    | .inl φ => .inl φ
    | .inr (p2, S', v') => .inr (p2, S ++ (S' ++ [(v_c T t p', 0)]), fun g => v_jn (v_c T t p') (v g) (v' g))) else .inr (j_S T t p', S, v)
def v_p2 (T : Nat) (t : Nat → Nat) (rv : Nat → Nat → v_R) (d p : Nat) : v_R := v_lv T t (v_p3 T t rv d) v_i2 p
def v_p1 (T : Nat) (t : Nat → Nat) (rv : Nat → Nat → v_R) (d p : Nat) : v_R := v_lv T t (v_p2 T t rv d) v_i1 p
def v_pv (T : Nat) (t : Nat → Nat) : Nat → Nat → Nat → v_R
  | 0, _, _ => .inl 0
  | f + 1, d, p => v_p1 T t (v_pv T t f) d p
/-- a whole law: its fault, or what it comes to -/
def v_law (T : Nat) (t : Nat → Nat) : Sum Int32 (v_L × v_F) := match v_pv T t 12 0 0 with
  | .inl φ => .inl φ
  | .inr (p, S, v) => if v_c T t p = -1 then .inr (S, v) else .inl (nI (10 * j_S T t p + 1))
/-! the class's state -/
def v_C (k T : Nat) (t : Nat → Nat) (p : Nat) (S : v_L) (M : m_M) : Prop := M.1 k 1 = nI T ∧ M.1 k 6 = nI p ∧ M.1 k 7 = -1 ∧ M.1 k 5 = nI S.length ∧ v_has (M.1 (k + 2)) (M.2 (k + 3)) 0 S ∧ S.length ≤ p ∧ p ≤ T ∧ T ≤ 50 ∧ (∀ j, t j < 128) ∧ ∀ j, j < T → M.1 (k + 1) j = nI (t j)
def v_X (k T : Nat) (t : Nat → Nat) (φ : Int32) (M : m_M) : Prop := φ ≠ -1 ∧ M.1 k 1 = nI T ∧ (∃ p, p ≤ T ∧ M.1 k 6 = nI p) ∧ M.1 k 7 = φ ∧ (∃ s, s ≤ 50 ∧ M.1 k 5 = nI s) ∧ T ≤ 50 ∧ (∀ j, t j < 128) ∧ ∀ j, j < T → M.1 (k + 1) j = nI (t j)
def v_A (k T : Nat) (t : Nat → Nat) (S0 : v_L) (r : v_R) (M : m_M) : Prop := match r with
  | .inl φ => v_X k T t φ M
  | .inr (p, S, _) => v_C k T t p (S0 ++ S) M
theorem v_C_mv {k T p p' : Nat} {t : Nat → Nat} {S : v_L} {M : m_M} (h : v_C k T t p S M) (h1 : p ≤ p') (h2 : p' ≤ T) : v_C k T t p' S (m_sI M k 6 (nI p')) := by
  obtain ⟨a1, a2, a3, a4, a5, a6, a7, a8, a9, a10⟩ := h
  have e2 : (m_sI M k 6 (nI p')).1 (k + 2) = M.1 (k + 2) := by
    funext j
    rw [q_r, if_neg (by omega)]
  exact ⟨by rw [q_r, if_neg (by omega), a1], by rw [q_r, if_pos ⟨rfl, rfl⟩], by rw [q_r, if_neg (by omega), a3], by rw [q_r, if_neg (by omega), a4], by rw [e2]; exact a5, by omega, h2, a8, a9, fun j hj => by rw [q_r, if_neg (by omega)]; exact a10 j hj⟩
theorem v_X_mv {k T p : Nat} {t : Nat → Nat} {φ : Int32} {M : m_M} (h : v_X k T t φ M) (h2 : p ≤ T) : v_X k T t φ (m_sI M k 6 (nI p)) := by
  obtain ⟨a1, a2, a3, a4, a5, a6, a7, a8⟩ := h
  obtain ⟨s, s1, s2⟩ := a5
  exact ⟨a1, by rw [q_r, if_neg (by omega), a2], ⟨p, h2, by rw [q_r, if_pos ⟨rfl, rfl⟩]⟩, by rw [q_r, if_neg (by omega), a4], ⟨s, s1, by rw [q_r, if_neg (by omega), s2]⟩, a6, a7, fun j hj => by rw [q_r, if_neg (by omega)]; exact a8 j hj⟩
theorem v_C_X {k T p φ : Nat} {t : Nat → Nat} {S : v_L} {M : m_M} (h : v_C k T t p S M) (hφ : φ < 2 ^ 31) : v_X k T t (nI φ) (m_sI M k 7 (nI φ)) := by
  obtain ⟨a1, a2, a3, a4, a5, a6, a7, a8, a9, a10⟩ := h
  exact ⟨q_m1 hφ, by rw [q_r, if_neg (by omega), a1], ⟨p, a7, by rw [q_r, if_neg (by omega), a2]⟩, by rw [q_r, if_pos ⟨rfl, rfl⟩], ⟨S.length, by omega, by rw [q_r, if_neg (by omega), a4]⟩, a8, a9, fun j hj => by rw [q_r, if_neg (by omega)]; exact a10 j hj⟩
theorem v_bl {k T p : Nat} {c : Nat} {t : Nat → Nat} {S : v_L} {M : m_M} {x : Nat} (h : v_C k T t p S M) (hx : x ≤ 50) (hc : c < 10) : v_X k T t (nI (10 * x + c)) (f_X4_blame k (nI x) (nI c) M) := by
  unfold f_X4_blame
  rw [h.2.2.1, if_pos rfl, q_x10, q_add]
  exact v_C_X h (by omega)
theorem v_blX {k T : Nat} {t : Nat → Nat} {φ x c : Int32} {M : m_M} (h : v_X k T t φ M) : v_X k T t φ (f_X4_blame k x c M) := by
  unfold f_X4_blame
  rw [h.2.2.2.1, if_neg h.1]
  exact h
/-- peek -/
theorem v_pk38 {n k T p : Nat} {t : Nat → Nat} {S : v_L} {M : m_M} (h : v_C k T t p S M) : f_X4_peek_b38 n k M = some (if p = T then -1 else nI (t p), M) := by
  obtain ⟨a1, a2, a3, a4, a5, a6, a7, a8, a9, a10⟩ := h
  unfold f_X4_peek_b38
  rw [a1, a2, a3]
  by_cases c : p = T
  · rw [if_pos c, if_pos ((q_le (by omega) (by omega)).mpr (by omega))]
  · rw [if_neg c, if_neg (fun q => absurd ((q_le (by omega) (by omega)).mp q) (by omega)), if_pos rfl]
    unfold m_gd
    rw [if_pos (q_in (by omega) (by decide)), q_cl (by omega), a10 p (by omega)]
theorem v_pk0 {n k T : Nat} {t : Nat → Nat} {S : v_L} : ∀ (d p u : Nat) (M : m_M), p + d = T → d < u → v_C k T t p S M → q_T (f_X4_peek_b0 n k u M) (fun a => a.1 = v_c T t p ∧ v_C k T t (j_S T t p) S a.2) := by
  intro d
  induction d with
  | zero =>
    intro p u M hp hu h
    obtain ⟨u, rfl⟩ : ∃ v, u = v + 1 := ⟨u - 1, by omega⟩
    have h' := h
    obtain ⟨a1, a2, a3, a4, a5, a6, a7, a8, a9, a10⟩ := h
    have e : j_S T t p = p := by
      unfold j_S
      rw [show T - p = 0 by omega]
      rfl
    rw [f_X4_peek_b0, a1, a2, v_pk38 h']
    unfold v_c
    rw [e]
    exact q_it ((q_le (by omega) (by omega)).mpr (by omega)) (q_some ⟨rfl, h'⟩)
  | succ d ih =>
    intro p u M hp hu h
    obtain ⟨u, rfl⟩ : ∃ v, u = v + 1 := ⟨u - 1, by omega⟩
    have h' := h
    obtain ⟨a1, a2, a3, a4, a5, a6, a7, a8, a9, a10⟩ := h
    rw [f_X4_peek_b0, a1, a2, v_pk38 h']
    refine q_if (fun q => absurd ((q_le (by omega) (by omega)).mp q) (by omega)) (q_gd (q_in (by omega) (by decide)) ?_)
    rw [q_cl (by omega), a10 p (by omega), q_up]
    have eS : j_S T t p = if t p = 32 then j_S T t (p + 1) else p := by
      unfold j_S
      rw [show T - p = d + 1 by omega, show T - (p + 1) = d by omega, j_sk]
    by_cases c : t p = 32
    · rw [if_pos c] at eS
      have k2 := ih (p + 1) u _ (by omega) (by omega) (v_C_mv h' (p' := p + 1) (by omega) (by omega))
      unfold v_c at k2 ⊢
      rw [eS]
      exact q_it (by rw [c]; rfl) (q_bd k2)
    · rw [if_neg c] at eS
      unfold v_c
      rw [eS]
      exact q_if (fun q => c ((nI_eq (b := 32) (by have := a9 p; omega) (by decide)).mp q)) (q_some ⟨rfl, h'⟩)
theorem v_peek {n k T p : Nat} {t : Nat → Nat} {S : v_L} {M : m_M} (hn : 100 < n) (h : v_C k T t p S M) : q_T (f_X4_peek n k M) (fun a => a.1 = v_c T t p ∧ v_C k T t (j_S T t p) S a.2) := by
  have hT := h.2.2.2.2.2.2.2.1
  have hp := h.2.2.2.2.2.2.1
  have e := v_pk0 (n := n) (T - p) p (n + 1) M (by omega) (by omega) h
  rw [f_X4_peek_b0] at e
  exact e
theorem v_pkX38 {n k T : Nat} {t : Nat → Nat} {φ : Int32} {M : m_M} (h : v_X k T t φ M) : q_T (f_X4_peek_b38 n k M) (fun a => a.1 = -1 ∧ v_X k T t φ a.2) := by
  unfold f_X4_peek_b38
  rw [h.2.2.2.1]
  exact q_ite (fun _ => q_some ⟨rfl, h⟩) (fun _ => q_if h.1 (q_some ⟨rfl, h⟩))
theorem v_pkX0 {n k T : Nat} {t : Nat → Nat} {φ : Int32} : ∀ (d p u : Nat) (M : m_M), p + d = T → d < u → v_X k T t φ M → M.1 k 6 = nI p → q_T (f_X4_peek_b0 n k u M) (fun a => a.1 = -1 ∧ v_X k T t φ a.2) := by
  intro d
  induction d with
  | zero =>
    intro p u M hp hu h h6
    obtain ⟨u, rfl⟩ : ∃ v, u = v + 1 := ⟨u - 1, by omega⟩
    have hT := h.2.2.2.2.2.1
    rw [f_X4_peek_b0, h.2.1, h6]
    exact q_it ((q_le (by omega) (by omega)).mpr (by omega)) (v_pkX38 h)
  | succ d ih =>
    intro p u M hp hu h h6
    obtain ⟨u, rfl⟩ : ∃ v, u = v + 1 := ⟨u - 1, by omega⟩
    have hT := h.2.2.2.2.2.1
    rw [f_X4_peek_b0, h.2.1, h6]
    refine q_if (fun q => absurd ((q_le (by omega) (by omega)).mp q) (by omega)) (q_gd (q_in (by omega) (by decide)) ?_)
    rw [q_up]
    exact q_ite (fun _ => q_bd (ih (p + 1) u _ (by omega) (by omega) (v_X_mv h (by omega)) (by rw [q_r, if_pos ⟨rfl, rfl⟩]))) (fun _ => v_pkX38 h)
theorem v_pkX {n k T : Nat} {t : Nat → Nat} {φ : Int32} {M : m_M} (hn : 100 < n) (h : v_X k T t φ M) : q_T (f_X4_peek n k M) (fun a => a.1 = -1 ∧ v_X k T t φ a.2) := by
  obtain ⟨p, p1, p2⟩ := h.2.2.1
  have hT := h.2.2.2.2.2.1
  have e := v_pkX0 (n := n) (T - p) p (n + 1) M (by omega) (by omega) h p2
  rw [f_X4_peek_b0] at e
  exact e
/-- a step more -/
theorem v_step {k T p : Nat} {t : Nat → Nat} {S : v_L} {M : m_M} {x : Int32} {y : Int64} (h : v_C k T t p S M) (hp : S.length < p) : q_T (f_X4_step k x y M) (v_C k T t p (S ++ [(x, y)])) := by
  obtain ⟨a1, a2, a3, a4, a5, a6, a7, a8, a9, a10⟩ := h
  unfold f_X4_step
  rw [a4]
  refine q_it ((q_lt (b := 50) (by omega) (by decide)).mpr (by omega)) (q_gd (q_in (by omega) (by decide)) (q_bd ?_))
  rw [q_cl (by omega)]
  have e1 : (m_sI M (k + 2) S.length x).1 k 5 = nI S.length := by rw [q_r, if_neg (by omega), a4]
  rw [e1]
  refine q_gd (q_in (by omega) (by decide)) (q_bd (q_bd (q_some ?_)))
  have e5 : (m_sL (m_sI M (k + 2) S.length x) (k + 3) (nI S.length).toNatClampNeg y).1 k 5 = nI S.length := e1
  rw [e5, q_cl (by omega), q_up]
  have ll : (S ++ [(x, y)]).length = S.length + 1 := List.length_append
  have fr : ∀ i j, ¬ (i = k ∧ j = 5) → ¬ (i = k + 2 ∧ j = S.length) → (m_sI (m_sL (m_sI M (k + 2) S.length x) (k + 3) S.length y) k 5 (nI (S.length + 1))).1 i j = M.1 i j := fun i j q1 q2 => by
    rw [q_r, if_neg q1]
    show (m_sI M (k + 2) S.length x).1 i j = _
    rw [q_r, if_neg q2]
  have fr2 : ∀ j, j ≠ S.length → (m_sI (m_sL (m_sI M (k + 2) S.length x) (k + 3) S.length y) k 5 (nI (S.length + 1))).2 (k + 3) j = M.2 (k + 3) j := fun j q => by
    show (m_sL (m_sI M (k + 2) S.length x) (k + 3) S.length y).2 (k + 3) j = _
    rw [q_l, if_neg (by omega)]
    rfl
  refine ⟨(fr _ _ (by omega) (by omega)).trans a1, (fr _ _ (by omega) (by omega)).trans a2, (fr _ _ (by omega) (by omega)).trans a3, ?_, ?_, by omega, a7, a8, a9, fun j hj => (fr _ _ (by omega) (by omega)).trans (a10 j hj)⟩
  · rw [q_r, if_pos ⟨rfl, rfl⟩, ll]
  · rw [v_has_app]
    refine ⟨v_has_cg (N := S.length) (fun j hj => fr _ _ (by omega) (by omega)) (fun j hj => fr2 j (by omega)) S 0 (by omega) a5, ?_, ?_, trivial⟩
    · rw [Nat.zero_add, q_r, if_neg (by omega)]
      show (m_sI M (k + 2) S.length x).1 (k + 2) S.length = _
      rw [q_r, if_pos ⟨rfl, rfl⟩]
    · rw [Nat.zero_add]
      show (m_sL (m_sI M (k + 2) S.length x) (k + 3) S.length y).2 (k + 3) S.length = _
      rw [q_l, if_pos ⟨rfl, rfl⟩]
theorem v_stX {k T : Nat} {t : Nat → Nat} {φ : Int32} {M : m_M} {x : Int32} {y : Int64} (h : v_X k T t φ M) : q_T (f_X4_step k x y M) (v_X k T t φ) := by
  have h' := h
  obtain ⟨a1, a2, ⟨p, p1, p2⟩, a4, ⟨s, s1, s2⟩, a6, a7, a8⟩ := h
  unfold f_X4_step
  rw [s2]
  by_cases c : s < 50
  · refine q_it ((q_lt (b := 50) (by omega) (by decide)).mpr c) (q_gd (q_in (by omega) (by decide)) (q_bd ?_))
    have e1 : (m_sI M (k + 2) (nI s).toNatClampNeg x).1 k 5 = nI s := by rw [q_r, if_neg (by omega), s2]
    rw [e1]
    refine q_gd (q_in (by omega) (by decide)) (q_bd (q_bd (q_some ?_)))
    have e5 : (m_sL (m_sI M (k + 2) (nI s).toNatClampNeg x) (k + 3) (nI s).toNatClampNeg y).1 k 5 = nI s := e1
    rw [e5, q_up]
    have fr : ∀ i j, ¬ (i = k ∧ j = 5) → i ≠ k + 2 → (m_sI (m_sL (m_sI M (k + 2) (nI s).toNatClampNeg x) (k + 3) (nI s).toNatClampNeg y) k 5 (nI (s + 1))).1 i j = M.1 i j := fun i j q1 q2 => by
      rw [q_r, if_neg q1]
      show (m_sI M (k + 2) (nI s).toNatClampNeg x).1 i j = _
      rw [q_r, if_neg (fun q => q2 q.1)]
    exact ⟨a1, (fr _ _ (by omega) (by omega)).trans a2, ⟨p, p1, (fr _ _ (by omega) (by omega)).trans p2⟩, (fr _ _ (by omega) (by omega)).trans a4, ⟨s + 1, by omega, by rw [q_r, if_pos ⟨rfl, rfl⟩]⟩, a6, a7, fun j hj => (fr _ _ (by omega) (by omega)).trans (a8 j hj)⟩
  · exact q_if (fun q => c ((q_lt (b := 50) (by omega) (by decide)).mp q)) (q_some h')
