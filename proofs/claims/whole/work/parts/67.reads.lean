/-! CALLS: read -/
def j_ff (T : Nat) (t : Nat → Nat) : Nat → Nat → Int32
  | 0, _ => -1
  | f + 1, p => if j_S T t p = T then -1 else if j_fl T t p = -1 then j_ff T t f (j_p6 T t p) else j_fl T t p
def j_g (T : Nat) (t : Nat → Nat) (C : k_C) (p : Nat) : Int32 × k_C := n_go C (nI (j_V T t p)) (nI (j_k T t p)) (nI (j_V T t (j_p2 T t p))) (j_b T t p) (j_v T t p)
def j_go (T : Nat) (t : Nat → Nat) (C0 : k_C) : Nat → Nat → k_C → Nat → Int32 × k_C × Bool
  | 0, _, C, k => (nI k, C, true)
  | f + 1, p, C, k => if j_S T t p = T then (nI k, C, true) else if (0 : Int32) ≤ (j_g T t C p).1 then j_go T t C0 f (j_p6 T t p) (j_g T t C p).2 (k + 1) else ((-1000 : Int32) - nI k, C0, false)
theorem j_p6_lt {T p : Nat} {t : Nat → Nat} (hp : p ≤ T) (hS : j_S T t p ≠ T) : p < j_p6 T t p ∧ j_p6 T t p ≤ T := by
  obtain ⟨o1, o2, o3, o4, o5, o6, o7⟩ := j_pb t hp
  have h := (j_E_b t hp).2.2 (by have := (j_S_b t hp).2.1; omega)
  have h' : p < j_p1 T t p := h
  omega
theorem j_go_V {T : Nat} {t : Nat → Nat} {C0 : k_C} (h0 : k_V C0) : ∀ f p C k, k_V C → k_V (j_go T t C0 f p C k).2.1
  | 0, _, _, _, h => h
  | f + 1, p, C, k, h => by
    rw [j_go]
    by_cases c : j_S T t p = T
    · rw [if_pos c]
      exact h
    · rw [if_neg c]
      by_cases c2 : (0 : Int32) ≤ (j_g T t C p).1
      · rw [if_pos c2]
        exact j_go_V h0 f _ _ _ (n_go_V h)
      · rw [if_neg c2]
        exact h0
def n_ext (C0 C : k_C) : Prop := k_P C = k_P C0 ∧ k_N C0 ≤ k_N C ∧ (∀ j, j < 6 * k_N C0 → k_r C j = k_r C0 j) ∧ h_B (k_r C) (k_N C) = h_B (k_r C0) (k_N C0) ∧ C.2.2.2 = C0.2.2.2
theorem n_ext_rf (C : k_C) : n_ext C C := ⟨rfl, Nat.le_refl _, fun _ _ => rfl, rfl, rfl⟩
theorem n_go_ext {C0 C : k_C} {x1 x2 x3 x4 x5 : Int32} (h : n_ext C0 C) : n_ext C0 (n_go C x1 x2 x3 x4 x5).2 := by
  unfold n_go
  split
  · exact h
  · split
    · exact h
    · split
      · exact h
      · split
        · exact h
        · obtain ⟨a, b, c, d, e⟩ := h
          refine ⟨a, by show k_N C0 ≤ k_N C + 1; omega, fun j hj => ?_, ?_, e⟩
          · show n_r (k_r C) (k_N C) x2.toNatClampNeg x1 x3 x4 x5 j = _
            rw [n_rlt j (by omega)]
            exact c j hj
          · show h_B (n_r (k_r C) (k_N C) x2.toNatClampNeg x1 x3 x4 x5) (k_N C + 1) = _
            rw [n_BN]
            exact d
theorem n_back_A {C0 C : k_C} {M M' : m_M} (h : n_ext C0 C) (hA : k_A C 1 M) (e : ∀ i j, 1 ≤ i → i ≤ 14 → ¬ (i = 1 ∧ (j = 1 ∨ j = 2)) → M'.1 i j = M.1 i j) (e2 : ∀ i j, i = 8 ∨ i = 13 → M'.2 i j = M.2 i j) (h1 : M'.1 1 1 = nI (k_N C0)) (h2 : M'.1 1 2 = nI (h_D (k_r C0) (k_N C0))) : k_A C0 1 M' := by
  obtain ⟨p, N, r, q⟩ := C
  obtain ⟨p0, N0, r0, q0⟩ := C0
  obtain ⟨a, b, c, d, f⟩ := h
  have a' : p = p0 := a
  have f' : q = q0 := f
  subst a' f'
  obtain ⟨b0, b1, b2, b3, b4, b5, b6, b7⟩ := hA
  refine ⟨(e _ _ (by omega) (by omega) (by omega)).trans b0, h1, h2, ?_, (e _ _ (by omega) (by omega) (by omega)).trans b4, fun j hj => ?_, fun j hj => (e _ _ (by omega) (by omega) (by omega)).trans (b6 j hj), fun l hl => ?_⟩
  · rw [e _ _ (by omega) (by omega) (by omega), b3]
    exact congrArg nI d
  · have hj' : j < 6 * N0 := hj
    have bN : N0 ≤ N := b
    rw [e _ _ (by omega) (by omega) (by omega)]
    exact (b5 j (by show j < 6 * N; omega)).trans (c j hj)
  · obtain ⟨d0, d1, fl, val, c, c'⟩ := b7 l hl
    exact ⟨(e _ _ (by omega) (by omega) (by omega)).trans d0, fun j hj => (e _ _ (by omega) (by omega) (by omega)).trans (d1 j hj), fl, val, e_YC_fr c (fun j => e _ _ (by omega) (by omega) (by omega)) (fun j => e _ _ (by omega) (by omega) (by omega)) (fun j => e2 _ _ (by omega)), c'⟩
theorem n_back_E {C0 C : k_C} {M M' : m_M} (h : n_ext C0 C) (hE : k_E C 173 0 M) (e : ∀ j, j ≠ 469 → M'.1 173 j = M.1 173 j) (h1 : M'.1 173 469 = nI (k_N C0)) (hV : k_V C) : k_E C0 173 0 M' := by
  have hN := hV.1.2.1
  have hl6 := hV.1.2.2.1
  have hlt := k_ht hV
  obtain ⟨p, N, r, q⟩ := C
  obtain ⟨p0, N0, r0, q0⟩ := C0
  obtain ⟨a, b, c, d, f⟩ := h
  have a' : p = p0 := a
  have f' : q = q0 := f
  have bN : N0 ≤ N := b
  have hN' : N ≤ 60 := hN
  subst a' f'
  obtain ⟨b0, b1, b2, b5, b6, b7⟩ := hE
  refine ⟨(e _ (by omega)).trans b0, h1, (e _ (by omega)).trans b2, fun j hj => ?_, fun j hj => (e _ (by have := hl6; have hj' : j < q.1 := hj; have hl' : q.1 ≤ 6 := hl6; omega)).trans (b6 j hj), fun l hl => ?_⟩
  · have hj' : j < 6 * N0 := hj
    rw [e _ (by omega)]
    exact (b5 j (by show j < 6 * N; omega)).trans (c j hj)
  · obtain ⟨d0, d1⟩ := b7 l hl
    have ht := hlt l hl
    exact ⟨(e _ (by omega)).trans d0, fun j hj => (e _ (by
      have hj' : j < q.2.2.1 l := hj
      have ht' : q.2.2.1 l ≤ 50 := ht
      omega)).trans (d1 j hj)⟩
/-! the class -/
theorem j_b6 {n T : Nat} {t : Nat → Nat} (hn : 1600 < n) : ∀ (f p x u : Nat) (M : m_M), T < f + p → x ≤ p → f < u → j_C T t p (-1) M → q_T (f_X2_flawOfAll_b6 n u (nI x) M) (fun a => a.1 = j_ff T t f p) := by
  intro f
  induction f with
  | zero =>
    intro p x u M hf hx hu h
    have := h.2.2.2.1
    omega
  | succ f ih =>
    intro p x u M hf hx hu h
    have hT := h.2.2.2.2.1
    have hp := h.2.2.2.1
    obtain ⟨u, rfl⟩ : ∃ v, u = v + 1 := ⟨u - 1, by omega⟩
    rw [f_X2_flawOfAll_b6, j_ff]
    have l3 : (300 : Int32) ≤ nI x ↔ 300 ≤ x := q_le (a := 300) (by decide) (by omega)
    by_cases c0 : 300 ≤ x
    · have := j_S_b t hp
      rw [if_pos (show j_S T t p = T by omega)]
      exact q_it (l3.mpr c0) (q_some h.2.2.1)
    · refine q_if (fun q => c0 (l3.mp q)) (q_o2 (q_mono (j_next hn h) (fun a ha => ?_)))
      obtain ⟨a1, a2⟩ := ha
      by_cases c : j_S T t p = T
      · rw [if_pos c]
        exact q_it (a1 c).1 (q_some (a1 c).2)
      · rw [if_neg c]
        obtain ⟨b1, b2⟩ := a2 c
        by_cases c2 : j_fl T t p = -1
        · rw [if_pos c2, q_up]
          have h6 := j_p6_lt hp c
          refine q_if (by rw [(b1 c2).1]; decide) (ih (j_p6 T t p) (x + 1) u a.2 (by omega) (by omega) (by omega) (b1 c2).2.1)
        · rw [if_neg c2]
          exact q_it (b2 c2).1 (q_some (b2 c2).2)
theorem j_b44 {n T : Nat} {t : Nat → Nat} {C0 : k_C} (hn : 1600 < n) (h0 : k_V C0) : ∀ (f p x u : Nat) (C : k_C) (M : m_M), T < f + p → x ≤ p → f < u → j_ff T t f p = -1 → j_C T t p (-1) M → k_V C → k_A C 1 M → n_ext C0 C → q_T (f_X7_read_b44 n u (nI (k_N C0)) (nI (h_D (k_r C0) (k_N C0))) (nI x) M) (fun a => a.1 = (j_go T t C0 f p C x).1 ∧ k_A (j_go T t C0 f p C x).2.1 1 a.2 ∧ a.2.1 168 1 = if (j_go T t C0 f p C x).2.2 then 0 else nI T) := by
  intro f
  induction f with
  | zero =>
    intro p x u C M hf hx hu hff h hV hA hX
    have := h.2.2.2.1
    omega
  | succ f ih =>
    intro p x u C M hf hx hu hff h hV hA hX
    have hT := h.2.2.2.2.1
    have hp := h.2.2.2.1
    obtain ⟨u, rfl⟩ : ∃ v, u = v + 1 := ⟨u - 1, by omega⟩
    rw [f_X7_read_b44, j_go]
    rw [j_ff] at hff
    have l3 : (300 : Int32) ≤ nI x ↔ 300 ≤ x := q_le (a := 300) (by decide) (by omega)
    have stop : ∀ M1 : m_M, k_A C 1 M1 → q_T (m_bd (m_sI M1 168 1 0) fun M2 => some (nI x, M2)) (fun a => a.1 = nI x ∧ k_A C 1 a.2 ∧ a.2.1 168 1 = 0) := fun M1 h1 => q_bd (q_some ⟨rfl, k_A_f2 h1 (fun i j p q => by rw [q_r, if_neg (by omega)]) (fun i j _ => rfl), by rw [q_r, if_pos ⟨rfl, rfl⟩]⟩)
    by_cases c0 : 300 ≤ x
    · have := j_S_b t hp
      rw [if_pos (show j_S T t p = T by omega)]
      exact q_it (l3.mpr c0) (q_mono (stop M hA) (fun a ha => ⟨ha.1, ha.2.1, ha.2.2⟩))
    · refine q_if (fun q => c0 (l3.mp q)) (q_o2 (q_mono (q_TH (j_next hn h) (g_X2_next n M)) (fun a ha => ?_)))
      obtain ⟨⟨a1, a2⟩, g⟩ := ha
      have hA1 : k_A C 1 a.2 := k_A_f2 hA (fun i j p q => g.1 i j (by unfold w_44; omega)) (fun i j _ => g.2 i j (by unfold w_1; omega))
      by_cases c : j_S T t p = T
      · rw [if_pos c]
        exact q_it (a1 c).1 (q_mono (stop a.2 hA1) (fun a ha => ⟨ha.1, ha.2.1, ha.2.2⟩))
      · rw [if_neg c] at hff ⊢
        obtain ⟨b1, b2⟩ := a2 c
        by_cases c2 : j_fl T t p = -1
        · rw [if_pos c2] at hff
          obtain ⟨d1, d2, d4, d5, d9, d6, d7, d8⟩ := b1 c2
          have h6 := j_p6_lt hp c
          rw [d4, d5, d6, d7, d8]
          refine q_if (by rw [d1]; decide) (q_o2 (q_mono (q_TH (b_bring (x1 := nI (j_V T t p)) (x2 := nI (j_k T t p)) (x3 := nI (j_V T t (j_p2 T t p))) (x4 := j_b T t p) (x5 := j_v T t p) (by omega) hV hA1) (g_X7_bring n _ _ _ _ _ a.2)) (fun z hz => ?_)))
          obtain ⟨⟨z1, z2⟩, g'⟩ := hz
          have z1' : z.1 = (j_g T t C p).1 := z1
          have z2' : k_A (j_g T t C p).2 1 z.2 := z2
          have hc : j_C T t (j_p6 T t p) (-1) z.2 := j_C_fr d2 (fun i j q => g'.1 i j (by unfold w_21; omega))
          have hX' : n_ext C0 (j_g T t C p).2 := n_go_ext hX
          rw [z1']
          by_cases c3 : (0 : Int32) ≤ (j_g T t C p).1
          · have e : (if (0 : Int32) ≤ (j_g T t C p).1 then j_go T t C0 f (j_p6 T t p) (j_g T t C p).2 (x + 1) else ((-1000 : Int32) - nI x, C0, false)) = j_go T t C0 f (j_p6 T t p) (j_g T t C p).2 (x + 1) := if_pos c3
            rw [e, q_up]
            exact q_it c3 (ih (j_p6 T t p) (x + 1) u _ _ (by omega) (by omega) (by omega) hff hc (n_go_V hV) z2' hX')
          · have e : (if (0 : Int32) ≤ (j_g T t C p).1 then j_go T t C0 f (j_p6 T t p) (j_g T t C p).2 (x + 1) else ((-1000 : Int32) - nI x, C0, false)) = ((-1000 : Int32) - nI x, C0, false) := if_neg c3
            rw [e]
            refine q_if c3 (q_bd (q_bd (q_some ⟨rfl, n_back_A hX' z2' (fun i j p q r => ?_) (fun i j _ => rfl) ?_ ?_, ?_⟩)))
            · rw [q_r, q_r, if_neg (by omega), if_neg (by omega)]
            · rw [q_r, q_r, if_neg (by omega), if_pos ⟨rfl, rfl⟩]
            · rw [q_r, if_pos ⟨rfl, rfl⟩]
            · rw [q_r, q_r, if_neg (by omega), if_neg (by omega)]
              exact hc.1
        · rw [if_neg c2] at hff
          exact absurd hff c2
/-! the reference -/
theorem j_R_fr {T p : Nat} {t : Nat → Nat} {M M' : m_M} (h : j_R T t p M) (e : ∀ i j, (i = 172 ∧ (j = 4 ∨ (27 ≤ j ∧ j ≤ 30))) ∨ i = 176 → M'.1 i j = M.1 i j) : j_R T t p M' := by
  obtain ⟨a, b, c, d, f, g⟩ := h
  exact ⟨j_T_fr a (fun i j q => e i j (by omega)), b, (e _ _ (by omega)).trans c, (e _ _ (by omega)).trans d, (e _ _ (by omega)).trans f, fun q => (e _ _ (by omega)).trans (g q)⟩
theorem j_K0 {T p : Nat} {t : Nat → Nat} : nI (j_K T t p) = (0 : Int32) ↔ j_S T t p = T := by
  have l0 : nI (j_K T t p) = (0 : Int32) ↔ j_K T t p = 0 := nI_eq (b := 0) (by have := j_Kb T t p; omega) (by decide)
  rw [l0]
  unfold j_K
  by_cases c : j_S T t p = T
  · rw [if_pos c]
    exact ⟨fun _ => c, fun _ => rfl⟩
  · rw [if_neg c]
    refine ⟨fun q => ?_, fun q => absurd q c⟩
    repeat' split at q
    all_goals omega
theorem j_r39 {n T : Nat} {t : Nat → Nat} {C0 : k_C} (hn : 1600 < n) (h0 : k_V C0) : ∀ (f p x u : Nat) (C : k_C) (M : m_M), T < f + p → f < u → j_ff T t f p = -1 → j_R T t p M → k_V C → k_E C 173 0 M → n_ext C0 C → q_T (f_X8_read_b39 n u (nI (k_N C0)) (nI x) M) (fun a => a.1 = (j_go T t C0 f p C x).1 ∧ k_E (j_go T t C0 f p C x).2.1 173 0 a.2 ∧ a.2.1 172 4 = if (j_go T t C0 f p C x).2.2 then 0 else nI T) := by
  intro f
  induction f with
  | zero =>
    intro p x u C M hf hu hff h hV hE hX
    have := h.2.1
    omega
  | succ f ih =>
    intro p x u C M hf hu hff h hV hE hX
    have hp := h.2.1
    obtain ⟨u, rfl⟩ : ∃ v, u = v + 1 := ⟨u - 1, by omega⟩
    rw [f_X8_read_b39, j_go, h.2.2.2.2.1]
    rw [j_ff] at hff
    by_cases c : j_S T t p = T
    · rw [if_pos c]
      exact q_it (j_K0.mpr c) (q_bd (q_some ⟨rfl, k_E_f3 hE (fun j => by rw [q_r, if_neg (by omega)]), by rw [q_r, if_pos ⟨rfl, rfl⟩]; rfl⟩))
    · rw [if_neg c] at hff
      have eo : (if j_S T t p = T then (nI x, C, true) else if (0 : Int32) ≤ (j_g T t C p).1 then j_go T t C0 f (j_p6 T t p) (j_g T t C p).2 (x + 1) else ((-1000 : Int32) - nI x, C0, false)) = (if (0 : Int32) ≤ (j_g T t C p).1 then j_go T t C0 f (j_p6 T t p) (j_g T t C p).2 (x + 1) else ((-1000 : Int32) - nI x, C0, false)) := if_neg c
      rw [eo]
      by_cases c2 : j_fl T t p = -1
      · rw [if_pos c2] at hff
        refine q_if (fun q => c (j_K0.mp q)) (q_o2 (q_mono (q_TH (j_item (by omega) h) (g_X8_readItem n M)) (fun a ha => ?_)))
        obtain ⟨⟨a1, _⟩, g⟩ := ha
        obtain ⟨d1, d2, d4, d5, d6, d7, d8⟩ := a1 c2
        have h6 := j_p6_lt hp c
        have hE1 : k_E C 173 0 a.2 := k_E_f3 hE (fun j => g.1 _ _ (by unfold w_80; omega))
        rw [d4, d5, d6, d7, d8]
        refine q_o2 (q_mono (q_TH (a_note (x1 := nI (j_V T t p)) (x2 := nI (j_k T t p)) (x3 := nI (j_V T t (j_p2 T t p))) (x4 := j_b T t p) (x5 := j_v T t p) (by omega) hV hE1) (g_X8_note n _ _ _ _ _ a.2)) (fun z hz => ?_))
        obtain ⟨⟨z1, z2⟩, g'⟩ := hz
        have z1' : z.1 = (j_g T t C p).1 := z1
        have z2' : k_E (j_g T t C p).2 173 0 z.2 := z2
        have hc : j_R T t (j_p6 T t p) z.2 := j_R_fr d2 (fun i j q => g'.1 i j (by unfold w_75; omega))
        have hX' : n_ext C0 (j_g T t C p).2 := n_go_ext hX
        rw [z1']
        by_cases c3 : (0 : Int32) ≤ (j_g T t C p).1
        · have e : (if (0 : Int32) ≤ (j_g T t C p).1 then j_go T t C0 f (j_p6 T t p) (j_g T t C p).2 (x + 1) else ((-1000 : Int32) - nI x, C0, false)) = j_go T t C0 f (j_p6 T t p) (j_g T t C p).2 (x + 1) := if_pos c3
          rw [e, q_up]
          exact q_it c3 (ih (j_p6 T t p) (x + 1) u _ _ (by omega) (by omega) hff hc (n_go_V hV) z2' hX')
        · have e : (if (0 : Int32) ≤ (j_g T t C p).1 then j_go T t C0 f (j_p6 T t p) (j_g T t C p).2 (x + 1) else ((-1000 : Int32) - nI x, C0, false)) = ((-1000 : Int32) - nI x, C0, false) := if_neg c3
          rw [e]
          refine q_if c3 (q_bd (q_some ⟨rfl, n_back_E hX' z2' (fun j q => ?_) ?_ (n_go_V hV), ?_⟩))
          · rw [q_r, if_neg (by omega)]
          · rw [q_r, if_pos ⟨rfl, rfl⟩]
          · rw [q_r, if_neg (by omega)]
            exact hc.1.1
      · rw [if_neg c2] at hff
        exact absurd hff c2
theorem j_r5 {n T : Nat} {t : Nat → Nat} {Q : Int32 × m_M → Prop} {M0 : m_M} (hn : 1600 < n) : ∀ (f p u : Nat) (M : m_M), T < f + p → f < u → j_R T t p M → g_fr w_80 w_1 M0 M → (j_ff T t f p = -1 → ∀ M1, j_R T t 0 M1 → g_fr w_80 w_1 M0 M1 → q_T (f_X8_read_b39 n n (M0.1 173 469) 0 M1) Q) → (j_ff T t f p ≠ -1 → ∀ M1, g_fr w_80 w_1 M0 M1 → Q ((-10 : Int32) - j_ff T t f p, M1)) → q_T (f_X8_read_b5 n u M) Q := by
  intro f
  induction f with
  | zero =>
    intro p u M hf hu h g hQ hQ2
    have := h.2.1
    omega
  | succ f ih =>
    intro p u M hf hu h g hQ hQ2
    have hp := h.2.1
    obtain ⟨u, rfl⟩ : ∃ v, u = v + 1 := ⟨u - 1, by omega⟩
    rw [f_X8_read_b5, h.2.2.2.2.1]
    rw [j_ff] at hQ hQ2
    by_cases c : j_S T t p = T
    · rw [if_pos c] at hQ hQ2
      refine q_it (j_K0.mpr c) ?_
      unfold f_X8_notes
      refine q_bd (q_ob (q_mono (q_TH (j_look (p := 0) (by omega) (Nat.zero_le _) h.1) (g_X8_look n _ M)) (fun M1 h1 => ?_)))
      rw [g.1 173 469 (by unfold w_80; omega)]
      exact hQ rfl M1 h1.1 ⟨fun i j q => (h1.2.1 i j (by unfold w_80 at q; unfold w_76; omega)).trans (g.1 i j q), fun i j q => (h1.2.2 i j q).trans (g.2 i j q)⟩
    · rw [if_neg c] at hQ hQ2
      refine q_if (fun q => c (j_K0.mp q)) (q_o2 (q_mono (q_TH (j_item (by omega) h) (g_X8_readItem n M)) (fun a ha => ?_)))
      obtain ⟨⟨a1, a2⟩, g'⟩ := ha
      have g2 : g_fr w_80 w_1 M0 a.2 := ⟨fun i j q => (g'.1 i j q).trans (g.1 i j q), fun i j q => (g'.2 i j q).trans (g.2 i j q)⟩
      by_cases c2 : j_fl T t p = -1
      · rw [if_pos c2] at hQ hQ2
        have h6 := j_p6_lt hp c
        exact q_if (by rw [(a1 c2).1]; decide) (ih (j_p6 T t p) u a.2 (by omega) (by omega) (a1 c2).2.1 g2 hQ hQ2)
      · rw [if_neg c2] at hQ hQ2
        refine q_it (a2 c2).1 (q_some ?_)
        rw [(a2 c2).2]
        exact hQ2 c2 a.2 g2
theorem z_read {n : Nat} {M : m_M} (hn : 1600 < n) (h : k_Inv M) : q_T (f_X7_read n M) (fun a => z_eq a (f_X8_read n a.2)) := by
  obtain ⟨C, C0, C1, hM⟩ := h
  obtain ⟨⟨hV, hA, hE⟩, ⟨i0, i1⟩, ⟨T, t0, t1, t2, t3⟩, hF1, hF2⟩ := id hM
  obtain ⟨t, ht⟩ : ∃ t : Nat → Nat, (∀ j, t j < 256) ∧ ∀ j, j < T → M.1 169 j = nI (t j) := by
    refine ⟨fun j => if M.1 169 j = nI ((M.1 169 j).toNatClampNeg % 256) then (M.1 169 j).toNatClampNeg % 256 else 0, fun j => ?_, fun j hj => ?_⟩
    · show (if _ then _ else _) < 256
      split
      · exact Nat.mod_lt _ (by decide)
      · decide
    · obtain ⟨c, c1, c2⟩ := (t3 j hj).2
      have e : (M.1 169 j).toNatClampNeg % 256 = c := by rw [c2, q_cl (by omega)]; omega
      show M.1 169 j = nI (if _ then _ else _)
      rw [e, if_pos c2]
      exact c2
  obtain ⟨ht1, ht2⟩ := ht
  have hC : j_C T t 0 (-1) (f_X2_goToStart M) := by
    unfold f_X2_goToStart
    refine ⟨?_, ?_, ?_, Nat.zero_le _, t0, ht1, fun j hj => ?_⟩
    · rw [m_bd, m_bd, q_r, q_r, if_neg (by omega), if_neg (by omega), t1]
    · rw [m_bd, m_bd, q_r, q_r, if_neg (by omega), if_pos ⟨rfl, rfl⟩]
      rfl
    · rw [m_bd, m_bd, q_r, if_pos ⟨rfl, rfl⟩]
    · rw [m_bd, m_bd, q_r, q_r, if_neg (by omega), if_neg (by omega), ht2 j hj]
  have ref : ∀ M1 : m_M, (∀ i j, i = 176 ∨ i = 172 → M1.1 i j = M.1 i j) → q_T (f_X8_look n 0 M1) (fun a => j_R T t 0 a ∧ g_fr w_76 w_1 M1 a) := fun M1 e => by
    refine q_TH (j_look (p := 0) (T := T) (t := t) (by omega) (Nat.zero_le _) ⟨(e _ _ (by omega)).trans t2, t0, ht1, fun j hj => ?_⟩) (g_X8_look n 0 M1)
    rw [e _ _ (by omega), ← (t3 j hj).1, ht2 j hj]
  unfold f_X7_read
  have fa : q_T (f_X2_flawOfAll n M) (fun a => a.1 = j_ff T t 302 0) := by
    unfold f_X2_flawOfAll
    exact q_bd (j_b6 hn 302 0 0 n _ (by omega) (Nat.le_refl _) (by omega) hC)
  refine q_o2 (q_mono (q_TH fa (g_X2_flawOfAll n M)) (fun a ha => ?_))
  obtain ⟨a1, g⟩ := ha
  by_cases c : j_ff T t 302 0 = -1
  · refine q_it (a1.trans c) (q_bd ?_)
    have hA1 : k_A C 1 (f_X2_goToStart a.2) := k_A_f2 hA (fun i j p q => by
      unfold f_X2_goToStart
      rw [m_bd, m_bd, q_r, q_r, if_neg (by omega), if_neg (by omega)]
      exact g.1 i j (by unfold w_44; omega)) (fun i j _ => g.2 i j (by unfold w_1; omega))
    have hC1 : j_C T t 0 (-1) (f_X2_goToStart a.2) := by
      unfold f_X2_goToStart
      refine ⟨?_, ?_, ?_, Nat.zero_le _, t0, ht1, fun j hj => ?_⟩
      · rw [m_bd, m_bd, q_r, q_r, if_neg (by omega), if_neg (by omega), g.1 _ _ (by unfold w_44; omega), t1]
      · rw [m_bd, m_bd, q_r, q_r, if_neg (by omega), if_pos ⟨rfl, rfl⟩]
        rfl
      · rw [m_bd, m_bd, q_r, if_pos ⟨rfl, rfl⟩]
      · rw [m_bd, m_bd, q_r, q_r, if_neg (by omega), if_neg (by omega), g.1 _ _ (by unfold w_44; omega), ht2 j hj]
    have e1 : a.2.1 1 1 = nI (k_N C) := (g.1 1 1 (by unfold w_44; omega)).trans hA.2.1
    have e2 : a.2.1 1 2 = nI (h_D (k_r C) (k_N C)) := (g.1 1 2 (by unfold w_44; omega)).trans hA.2.2.1
    rw [e1, e2]
    have k44 := j_b44 (n := n) (t := t) (C0 := C) hn hV 302 0 0 n C _ (by omega) (Nat.le_refl _) (by omega) c hC1 hV hA1 (n_ext_rf C)
    refine q_mono (q_TH k44 (g_X7_read_b44 n n _ _ _ _)) (fun z hz => ?_)
    obtain ⟨⟨z1, z2, z3⟩, gz⟩ := hz
    have fz : ∀ i j, ¬ w_45 i j → z.2.1 i j = M.1 i j := fun i j q => by
      rw [gz.1 i j q]
      unfold f_X2_goToStart
      rw [m_bd, m_bd, q_r, q_r, if_neg (by unfold w_45 at q; omega), if_neg (by unfold w_45 at q; omega)]
      exact g.1 i j (by unfold w_45 at q; unfold w_44; omega)
    have fz2 : ∀ i j, z.2.2 i j = M.2 i j := fun i j => (gz.2 i j (by unfold w_1; omega)).trans (g.2 i j (by unfold w_1; omega))
    unfold z_eq f_X8_read
    refine q_ob (q_mono (ref z.2 (fun i j q => fz i j (by unfold w_45; omega))) (fun M1 h1 => ?_))
    obtain ⟨h1, g1⟩ := h1
    refine j_r5 (M0 := M1) hn 302 0 n M1 (by omega) (by omega) h1 ⟨fun _ _ _ => rfl, fun _ _ _ => rfl⟩ (fun _ M2 h2 g2 => ?_) (fun q => absurd c q)
    have f2 : ∀ i j, ¬ w_45 i j → ¬ w_80 i j → M2.1 i j = M.1 i j := fun i j q1 q2 => (g2.1 i j q2).trans ((g1.1 i j (by unfold w_80 at q2; unfold w_76; omega)).trans (fz i j q1))
    have f22 : ∀ i j, M2.2 i j = M.2 i j := fun i j => (g2.2 i j (by unfold w_1; omega)).trans ((g1.2 i j (by unfold w_1; omega)).trans (fz2 i j))
    have hE2 : k_E C 173 0 M2 := k_E_f3 hE (fun j => f2 _ _ (by unfold w_45; omega) (by unfold w_80; omega))
    have e469 : M1.1 173 469 = nI (k_N C) := (g1.1 173 469 (by unfold w_76; omega)).trans ((fz 173 469 (by unfold w_45; omega)).trans hE.2.1)
    rw [e469]
    refine q_mono (q_TH (j_r39 (n := n) (t := t) (C0 := C) hn hV 302 0 0 n C M2 (by omega) (by omega) c h2 hV hE2 (n_ext_rf C)) (g_X8_read_b39 n n _ _ M2)) (fun b hb => ?_)
    obtain ⟨⟨b1, b2, b3⟩, gb⟩ := hb
    have hV' : k_V (j_go T t C 302 0 C 0).2.1 := j_go_V hV 302 0 C 0 hV
    have fb : ∀ i j, ¬ w_45 i j → ¬ w_81 i j → b.2.1 i j = M.1 i j := fun i j q1 q2 => (gb.1 i j q2).trans (f2 i j q1 (by unfold w_81 at q2; unfold w_80; omega))
    have fb2 : ∀ i j, b.2.2 i j = M.2 i j := fun i j => (gb.2 i j (by unfold w_1; omega)).trans (f22 i j)
    have fzb : ∀ i j, ¬ w_81 i j → b.2.1 i j = z.2.1 i j := fun i j q => (gb.1 i j q).trans ((g2.1 i j (by unfold w_81 at q; unfold w_80; omega)).trans (g1.1 i j (by unfold w_81 at q; unfold w_76; omega)))
    refine ⟨z1.trans b1.symm, _, C0, C1, ⟨hV', k_A_f2 z2 (fun i j p q => fzb i j (by unfold w_81; omega)) (fun i j _ => (fb2 i j).trans (fz2 i j).symm), b2⟩, ⟨k_I_f2 i0 (by omega) (fun i j q => fb i j (by unfold w_45; omega) (by unfold w_81; omega)) (fun i j _ => fb2 i j), k_I_f2 i1 (by omega) (fun i j q => fb i j (by unfold w_45; omega) (by unfold w_81; omega)) (fun i j _ => fb2 i j)⟩, ?_, ?_, ?_⟩
    · have zz := fzb 168 1 (by unfold w_81; omega)
      have m169 : ∀ j, b.2.1 169 j = M.1 169 j := fun j => fb 169 j (by unfold w_45; omega) (by unfold w_81; omega)
      have m176 : ∀ j, b.2.1 176 j = M.1 176 j := fun j => fb 176 j (by unfold w_45; omega) (by unfold w_81; omega)
      cases he : (j_go T t C 302 0 C 0).2.2
      · rw [he] at b3 z3
        exact ⟨T, t0, zz.trans z3, b3, fun j hj => by rw [m169, m176]; exact t3 j hj⟩
      · rw [he] at b3 z3
        exact ⟨0, by omega, zz.trans z3, b3, fun j hj => absurd hj (Nat.not_lt_zero _)⟩
    · rw [fb2, fb2]
      exact hF1
    · rw [fb2, fb2]
      exact hF2
  · refine q_if (fun q => c (a1.symm.trans q)) (q_some ?_)
    unfold z_eq f_X8_read
    refine q_ob (q_mono (ref a.2 (fun i j q => g.1 i j (by unfold w_44; omega))) (fun M1 h1 => ?_))
    obtain ⟨h1, g1⟩ := h1
    refine j_r5 (M0 := M1) hn 302 0 n M1 (by omega) (by omega) h1 ⟨fun _ _ _ => rfl, fun _ _ _ => rfl⟩ (fun q => absurd q c) (fun _ M2 g2 => ⟨congrArg (fun v => (-10 : Int32) - v) a1, C, C0, C1, ?_⟩)
    refine k_M_fr2 hM ⟨fun i j q => ?_, fun i j q => ?_⟩ (fun i j q => ?_)
    · exact (g2.1 i j (by unfold w_80; omega)).trans ((g1.1 i j (by unfold w_76; omega)).trans (g.1 i j (by unfold w_44; omega)))
    · exact (g2.2 i j (by unfold w_1; omega)).trans ((g1.2 i j (by unfold w_1; omega)).trans (g.2 i j (by unfold w_1; omega)))
    · exact (g2.2 i j (by unfold w_1; omega)).trans ((g1.2 i j (by unfold w_1; omega)).trans (g.2 i j (by unfold w_1; omega)))
