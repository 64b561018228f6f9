/-! LAWS: the class reads the levels -/
theorem v_termL {n k T d : Nat} {t : Nat → Nat} {rv : Nat → Int32 → m_M → Option m_M} {P : Nat → Nat → v_R} (hn : 1600 < n) (hs : v_H k T t (f_X4_unit n rv k (nI d)) (v_p6 T t P d)) (hG : v_G T (v_p6 T t P d)) : ∀ (f p x u : Nat) (S0 S : v_L) (v : v_F) (M : m_M), T < f + p → x ≤ p → f < u → v_C k T t p (S0 ++ S) M → q_T (f_X4_term_b7 n rv k (nI d) u (nI x) M) (v_A k T t S0 (v_loop T t (v_p6 T t P d) v_i5 f p S v)) := by
  intro f
  induction f with
  | zero =>
    intro p x u S0 S v M hf hx hu h
    have := h.2.2.2.2.2.2.1
    omega
  | succ f ih =>
    intro p x u S0 S v M hf hx hu h
    have hT := h.2.2.2.2.2.2.2.1
    have hp := h.2.2.2.2.2.2.1
    have ht := h.2.2.2.2.2.2.2.2.1
    obtain ⟨s1, s2, s3⟩ := j_S_b t hp
    obtain ⟨u, rfl⟩ : ∃ v, u = v + 1 := ⟨u - 1, by omega⟩
    rw [f_X4_term_b7, v_loop]
    have l50 : (50 : Int32) ≤ nI x ↔ 50 ≤ x := q_le (a := 50) (by decide) (by omega)
    by_cases c0 : 50 ≤ x
    · have e : j_S T t p = p := by omega
      have ec : v_c T t p = -1 := ((v_cm ht hp).1).mpr (by omega)
      rw [if_neg (show ¬ v_i5 (v_c T t p) = true by rw [ec]; decide), e]
      exact q_it (l50.mpr c0) (q_some h)
    · refine q_if (fun q => c0 (l50.mp q)) (q_o2 (q_mono (v_peek (by omega) h) (fun a ha => ?_)))
      obtain ⟨a1, a2⟩ := ha
      rw [a1]
      by_cases c : v_i5 (v_c T t p) = true
      · rw [if_pos c]
        have co := of_decide_eq_true c
        have hlt := v_cne hp (fun q => by rw [q] at co; revert co; decide)
        have go : q_T (f_X4_term_b31 n rv k (nI d) (f_X4_term_b7 n rv k (nI d) u) (nI x) (v_c T t p) a.2) (v_A k T t S0 (match v_p6 T t P d (j_S T t p + 1) with
          | .inl φ => (.inl φ : v_R)
          | .inr (p', S', v') => v_loop T t (v_p6 T t P d) v_i5 f p' (S ++ (S' ++ [(v_c T t p, 0)])) (fun g => v_jn (v_c T t p) (v g) (v' g)))) := by
          unfold f_X4_term_b31
          rw [a2.2.1, q_up]
          refine q_bd (q_ob (q_mono (hs.1 _ _ _ (v_C_mv a2 (p' := j_S T t p + 1) (by omega) (by omega))) (fun M2 h2 => ?_)))
          cases hr : v_p6 T t P d (j_S T t p + 1) with
          | inl φ =>
            rw [hr] at h2
            have h2' : v_X k T t φ M2 := h2
            refine q_ob (q_mono (v_stX h2') (fun M3 h3 => ?_))
            rw [q_up]
            obtain ⟨u, rfl⟩ : ∃ v, u = v + 1 := ⟨u - 1, by omega⟩
            rw [f_X4_term_b7]
            refine q_ite (fun _ => q_some h3) (fun _ => q_o2 (q_mono (v_pkX (by omega) h3) (fun b hb => ?_)))
            rw [hb.1]
            exact q_if (by decide) (q_if (by decide) (q_some hb.2))
          | inr r =>
            obtain ⟨p', S', v'⟩ := r
            obtain ⟨g1, g2, g3, g4⟩ := hG _ _ _ _ (by omega) hr
            rw [hr] at h2
            have h2' : v_C k T t p' ((S0 ++ S) ++ S') M2 := h2
            have hl := a2.2.2.2.2.2.1
            refine q_ob (q_mono (v_step (x := v_c T t p) (y := 0) h2' (by rw [List.length_append]; omega)) (fun M3 h3 => ?_))
            rw [q_up]
            exact ih p' (x + 1) u S0 (S ++ (S' ++ [(v_c T t p, 0)])) _ M3 (by omega) (by omega) (by omega) (by rw [← List.append_assoc, ← List.append_assoc]; exact h3)
        rcases co with q | q
        · exact q_it q go
        · exact q_if (by rw [q]; decide) (q_it q go)
      · rw [if_neg c]
        have co : ¬ (v_c T t p = 42 ∨ v_c T t p = 47) := fun q => c (decide_eq_true q)
        exact q_if (fun q => co (Or.inl q)) (q_if (fun q => co (Or.inr q)) (q_some a2))
theorem v_termH {n k T d : Nat} {t : Nat → Nat} {rv : Nat → Int32 → m_M → Option m_M} {P : Nat → Nat → v_R} (hn : 1600 < n) (hs : v_H k T t (f_X4_unit n rv k (nI d)) (v_p6 T t P d)) (hG : v_G T (v_p6 T t P d)) : v_H k T t (f_X4_term n rv k (nI d)) (v_p5 T t P d) := by
  have X : ∀ φ M, v_X k T t φ M → q_T (f_X4_term_b7 n rv k (nI d) n 0 M) (v_X k T t φ) := by
    intro φ M h
    obtain ⟨n', hn'⟩ : ∃ m, n = m + 1 := ⟨n - 1, by omega⟩
    have e : q_T (f_X4_term_b7 n rv k (nI d) (n' + 1) 0 M) (v_X k T t φ) := by
      rw [f_X4_term_b7]
      refine q_if (by decide) (q_o2 (q_mono (v_pkX (by omega) h) (fun b hb => ?_)))
      rw [hb.1]
      exact q_if (by decide) (q_if (by decide) (q_some hb.2))
    rw [← hn'] at e
    exact e
  refine ⟨fun p S M h => ?_, fun φ M h => ?_⟩
  · have hT := h.2.2.2.2.2.2.2.1
    unfold f_X4_term v_p5 v_lv
    refine q_ob (q_mono (hs.1 p S M h) (fun M2 h2 => ?_))
    cases hr : v_p6 T t P d p with
    | inl φ =>
      rw [hr] at h2
      exact X φ M2 h2
    | inr r =>
      obtain ⟨p', S', v'⟩ := r
      rw [hr] at h2
      exact v_termL hn hs hG (T + 1) p' 0 n S S' v' M2 (by omega) (Nat.zero_le _) (by omega) h2
  · unfold f_X4_term
    exact q_ob (q_mono (hs.2 φ M h) (fun a ha => X φ a ha))
theorem v_sumL {n k T d : Nat} {t : Nat → Nat} {rv : Nat → Int32 → m_M → Option m_M} {P : Nat → Nat → v_R} (hn : 1600 < n) (hs : v_H k T t (f_X4_term n rv k (nI d)) (v_p5 T t P d)) (hG : v_G T (v_p5 T t P d)) : ∀ (f p x u : Nat) (S0 S : v_L) (v : v_F) (M : m_M), T < f + p → x ≤ p → f < u → v_C k T t p (S0 ++ S) M → q_T (f_X4_sum_b7 n rv k (nI d) u (nI x) M) (v_A k T t S0 (v_loop T t (v_p5 T t P d) v_i4 f p S v)) := by
  intro f
  induction f with
  | zero =>
    intro p x u S0 S v M hf hx hu h
    have := h.2.2.2.2.2.2.1
    omega
  | succ f ih =>
    intro p x u S0 S v M hf hx hu h
    have hT := h.2.2.2.2.2.2.2.1
    have hp := h.2.2.2.2.2.2.1
    have ht := h.2.2.2.2.2.2.2.2.1
    obtain ⟨s1, s2, s3⟩ := j_S_b t hp
    obtain ⟨u, rfl⟩ : ∃ v, u = v + 1 := ⟨u - 1, by omega⟩
    rw [f_X4_sum_b7, v_loop]
    have l50 : (50 : Int32) ≤ nI x ↔ 50 ≤ x := q_le (a := 50) (by decide) (by omega)
    by_cases c0 : 50 ≤ x
    · have e : j_S T t p = p := by omega
      have ec : v_c T t p = -1 := ((v_cm ht hp).1).mpr (by omega)
      rw [if_neg (show ¬ v_i4 (v_c T t p) = true by rw [ec]; decide), e]
      exact q_it (l50.mpr c0) (q_some h)
    · refine q_if (fun q => c0 (l50.mp q)) (q_o2 (q_mono (v_peek (by omega) h) (fun a ha => ?_)))
      obtain ⟨a1, a2⟩ := ha
      rw [a1]
      by_cases c : v_i4 (v_c T t p) = true
      · rw [if_pos c]
        have co := of_decide_eq_true c
        have hlt := v_cne hp (fun q => by rw [q] at co; revert co; decide)
        have go : q_T (f_X4_sum_b31 n rv k (nI d) (f_X4_sum_b7 n rv k (nI d) u) (nI x) (v_c T t p) a.2) (v_A k T t S0 (match v_p5 T t P d (j_S T t p + 1) with
          | .inl φ => (.inl φ : v_R)
          | .inr (p', S', v') => v_loop T t (v_p5 T t P d) v_i4 f p' (S ++ (S' ++ [(v_c T t p, 0)])) (fun g => v_jn (v_c T t p) (v g) (v' g)))) := by
          unfold f_X4_sum_b31
          rw [a2.2.1, q_up]
          refine q_bd (q_ob (q_mono (hs.1 _ _ _ (v_C_mv a2 (p' := j_S T t p + 1) (by omega) (by omega))) (fun M2 h2 => ?_)))
          cases hr : v_p5 T t P d (j_S T t p + 1) with
          | inl φ =>
            rw [hr] at h2
            have h2' : v_X k T t φ M2 := h2
            refine q_ob (q_mono (v_stX h2') (fun M3 h3 => ?_))
            rw [q_up]
            obtain ⟨u, rfl⟩ : ∃ v, u = v + 1 := ⟨u - 1, by omega⟩
            rw [f_X4_sum_b7]
            refine q_ite (fun _ => q_some h3) (fun _ => q_o2 (q_mono (v_pkX (by omega) h3) (fun b hb => ?_)))
            rw [hb.1]
            exact q_if (by decide) (q_if (by decide) (q_some hb.2))
          | inr r =>
            obtain ⟨p', S', v'⟩ := r
            obtain ⟨g1, g2, g3, g4⟩ := hG _ _ _ _ (by omega) hr
            rw [hr] at h2
            have h2' : v_C k T t p' ((S0 ++ S) ++ S') M2 := h2
            have hl := a2.2.2.2.2.2.1
            refine q_ob (q_mono (v_step (x := v_c T t p) (y := 0) h2' (by rw [List.length_append]; omega)) (fun M3 h3 => ?_))
            rw [q_up]
            exact ih p' (x + 1) u S0 (S ++ (S' ++ [(v_c T t p, 0)])) _ M3 (by omega) (by omega) (by omega) (by rw [← List.append_assoc, ← List.append_assoc]; exact h3)
        rcases co with q | q
        · exact q_it q go
        · exact q_if (by rw [q]; decide) (q_it q go)
      · rw [if_neg c]
        have co : ¬ (v_c T t p = 43 ∨ v_c T t p = 45) := fun q => c (decide_eq_true q)
        exact q_if (fun q => co (Or.inl q)) (q_if (fun q => co (Or.inr q)) (q_some a2))
theorem v_sumH {n k T d : Nat} {t : Nat → Nat} {rv : Nat → Int32 → m_M → Option m_M} {P : Nat → Nat → v_R} (hn : 1600 < n) (hs : v_H k T t (f_X4_term n rv k (nI d)) (v_p5 T t P d)) (hG : v_G T (v_p5 T t P d)) : v_H k T t (f_X4_sum n rv k (nI d)) (v_p4 T t P d) := by
  have X : ∀ φ M, v_X k T t φ M → q_T (f_X4_sum_b7 n rv k (nI d) n 0 M) (v_X k T t φ) := by
    intro φ M h
    obtain ⟨n', hn'⟩ : ∃ m, n = m + 1 := ⟨n - 1, by omega⟩
    have e : q_T (f_X4_sum_b7 n rv k (nI d) (n' + 1) 0 M) (v_X k T t φ) := by
      rw [f_X4_sum_b7]
      refine q_if (by decide) (q_o2 (q_mono (v_pkX (by omega) h) (fun b hb => ?_)))
      rw [hb.1]
      exact q_if (by decide) (q_if (by decide) (q_some hb.2))
    rw [← hn'] at e
    exact e
  refine ⟨fun p S M h => ?_, fun φ M h => ?_⟩
  · have hT := h.2.2.2.2.2.2.2.1
    unfold f_X4_sum v_p4 v_lv
    refine q_ob (q_mono (hs.1 p S M h) (fun M2 h2 => ?_))
    cases hr : v_p5 T t P d p with
    | inl φ =>
      rw [hr] at h2
      exact X φ M2 h2
    | inr r =>
      obtain ⟨p', S', v'⟩ := r
      rw [hr] at h2
      exact v_sumL hn hs hG (T + 1) p' 0 n S S' v' M2 (by omega) (Nat.zero_le _) (by omega) h2
  · unfold f_X4_sum
    exact q_ob (q_mono (hs.2 φ M h) (fun a ha => X φ a ha))
theorem v_heldH {n k T d : Nat} {t : Nat → Nat} {rv : Nat → Int32 → m_M → Option m_M} {P : Nat → Nat → v_R} (hn : 1600 < n) (hs : v_H k T t (f_X4_sum n rv k (nI d)) (v_p4 T t P d)) (hG : v_G T (v_p4 T t P d)) : v_H k T t (f_X4_held n rv k (nI d)) (v_p3 T t P d) := by
  refine ⟨fun p S M h => ?_, fun φ M h => ?_⟩
  · have hT := h.2.2.2.2.2.2.2.1
    have hp := h.2.2.2.2.2.2.1
    have ht := h.2.2.2.2.2.2.2.2.1
    unfold f_X4_held v_p3
    refine q_ob (q_mono (hs.1 p S M h) (fun M2 h2 => ?_))
    cases hr : v_p4 T t P d p with
    | inl φ =>
      rw [hr] at h2
      have h2' : v_X k T t φ M2 := h2
      refine q_o2 (q_mono (v_pkX (by omega) h2') (fun b hb => ?_))
      rw [hb.1]
      exact q_if (by decide) (q_if (by decide) (q_if (by decide) (q_some hb.2)))
    | inr r =>
      obtain ⟨p1, S1, v1⟩ := r
      obtain ⟨e1, e2, e3, e4⟩ := hG _ _ _ _ hp hr
      rw [hr] at h2
      have h2' : v_C k T t p1 (S ++ S1) M2 := h2
      have hb1 := j_S_b t e2
      refine q_o2 (q_mono (v_peek (by omega) h2') (fun b hb => ?_))
      obtain ⟨b1, b2⟩ := hb
      rw [b1]
      show q_T _ (v_A k T t S (if v_i3 (v_c T t p1) = true then (match v_p4 T t P d (j_S T t p1 + 1) with
        | .inl φ => (.inl φ : v_R)
        | .inr (p2, S', v') => .inr (p2, S1 ++ (S' ++ [(v_c T t p1, 0)]), fun g => v_jn (v_c T t p1) (v1 g) (v' g))) else .inr (j_S T t p1, S1, v1)))
      by_cases c : v_i3 (v_c T t p1) = true
      · rw [if_pos c]
        have co := of_decide_eq_true c
        have hlt := v_cne e2 (fun q => by rw [q] at co; revert co; decide)
        have go : q_T (f_X4_held_b29 n rv k (nI d) (v_c T t p1) b.2) (v_A k T t S (match v_p4 T t P d (j_S T t p1 + 1) with
          | .inl φ => (.inl φ : v_R)
          | .inr (p2, S', v') => .inr (p2, S1 ++ (S' ++ [(v_c T t p1, 0)]), fun g => v_jn (v_c T t p1) (v1 g) (v' g)))) := by
          unfold f_X4_held_b29
          rw [b2.2.1, q_up]
          refine q_bd (q_ob (q_mono (hs.1 _ _ _ (v_C_mv b2 (p' := j_S T t p1 + 1) (by omega) (by omega))) (fun M3 h3 => ?_)))
          cases hr3 : v_p4 T t P d (j_S T t p1 + 1) with
          | inl φ =>
            rw [hr3] at h3
            have h3' : v_X k T t φ M3 := h3
            exact q_ob (q_mono (v_stX h3') (fun M4 h4 => q_some h4))
          | inr r3 =>
            obtain ⟨p2, S', v'⟩ := r3
            obtain ⟨g1, g2, g3, g4⟩ := hG _ _ _ _ (by omega) hr3
            rw [hr3] at h3
            have h3' : v_C k T t p2 ((S ++ S1) ++ S') M3 := h3
            have hl := b2.2.2.2.2.2.1
            refine q_ob (q_mono (v_step (x := v_c T t p1) (y := 0) h3' (by rw [List.length_append]; omega)) (fun M4 h4 => q_some ?_))
            show v_C k T t p2 (S ++ (S1 ++ (S' ++ [(v_c T t p1, 0)]))) M4
            rw [← List.append_assoc, ← List.append_assoc]
            exact h4
        rcases co with q | q | q
        · exact q_it q go
        · exact q_if (by rw [q]; decide) (q_it q go)
        · exact q_if (by rw [q]; decide) (q_if (by rw [q]; decide) (q_it q go))
      · rw [if_neg c]
        have co : ¬ (v_c T t p1 = 60 ∨ v_c T t p1 = 62 ∨ v_c T t p1 = 61) := fun q => c (decide_eq_true q)
        exact q_if (fun q => co (Or.inl q)) (q_if (fun q => co (Or.inr (Or.inl q))) (q_if (fun q => co (Or.inr (Or.inr q))) (q_some b2)))
  · unfold f_X4_held
    have hT := h.2.2.2.2.2.1
    refine q_ob (q_mono (hs.2 φ M h) (fun a ha => q_o2 (q_mono (v_pkX (by omega) ha) (fun b hb => ?_))))
    rw [hb.1]
    exact q_if (by decide) (q_if (by decide) (q_if (by decide) (q_some hb.2)))
theorem v_bothL {n k T d : Nat} {t : Nat → Nat} {rv : Nat → Int32 → m_M → Option m_M} {P : Nat → Nat → v_R} (hn : 1600 < n) (hs : v_H k T t (f_X4_held n rv k (nI d)) (v_p3 T t P d)) (hG : v_G T (v_p3 T t P d)) : ∀ (f p x u : Nat) (S0 S : v_L) (v : v_F) (M : m_M), T < f + p → x ≤ p → f < u → v_C k T t p (S0 ++ S) M → q_T (f_X4_both_b7 n rv k (nI d) u (nI x) M) (v_A k T t S0 (v_loop T t (v_p3 T t P d) v_i2 f p S v)) := by
  intro f
  induction f with
  | zero =>
    intro p x u S0 S v M hf hx hu h
    have := h.2.2.2.2.2.2.1
    omega
  | succ f ih =>
    intro p x u S0 S v M hf hx hu h
    have hT := h.2.2.2.2.2.2.2.1
    have hp := h.2.2.2.2.2.2.1
    have ht := h.2.2.2.2.2.2.2.2.1
    obtain ⟨s1, s2, s3⟩ := j_S_b t hp
    obtain ⟨u, rfl⟩ : ∃ v, u = v + 1 := ⟨u - 1, by omega⟩
    rw [f_X4_both_b7, v_loop]
    have l50 : (50 : Int32) ≤ nI x ↔ 50 ≤ x := q_le (a := 50) (by decide) (by omega)
    by_cases c0 : 50 ≤ x
    · have e : j_S T t p = p := by omega
      have ec : v_c T t p = -1 := ((v_cm ht hp).1).mpr (by omega)
      rw [if_neg (show ¬ v_i2 (v_c T t p) = true by rw [ec]; decide), e]
      exact q_it (l50.mpr c0) (q_some h)
    · refine q_if (fun q => c0 (l50.mp q)) (q_o2 (q_mono (v_peek (by omega) h) (fun a ha => ?_)))
      obtain ⟨a1, a2⟩ := ha
      rw [a1]
      by_cases c : v_i2 (v_c T t p) = true
      · rw [if_pos c]
        have co := of_decide_eq_true c
        have hlt := v_cne hp (fun q => by rw [q] at co; revert co; decide)
        have go : q_T (m_bd (m_sI a.2 k 6 ((a.2.1 k 6) + (1 : Int32))) fun M5 => m_ob (f_X4_held n rv k (nI d) M5) fun M6 => m_ob (f_X4_step k 38 0 M6) fun M7 => f_X4_both_b7 n rv k (nI d) u (nI x + 1) M7) (v_A k T t S0 (match v_p3 T t P d (j_S T t p + 1) with
          | .inl φ => (.inl φ : v_R)
          | .inr (p', S', v') => v_loop T t (v_p3 T t P d) v_i2 f p' (S ++ (S' ++ [(v_c T t p, 0)])) (fun g => v_jn (v_c T t p) (v g) (v' g)))) := by
          rw [a2.2.1, q_up]
          refine q_bd (q_ob (q_mono (hs.1 _ _ _ (v_C_mv a2 (p' := j_S T t p + 1) (by omega) (by omega))) (fun M2 h2 => ?_)))
          cases hr : v_p3 T t P d (j_S T t p + 1) with
          | inl φ =>
            rw [hr] at h2
            have h2' : v_X k T t φ M2 := h2
            refine q_ob (q_mono (v_stX h2') (fun M3 h3 => ?_))
            rw [q_up]
            obtain ⟨u, rfl⟩ : ∃ v, u = v + 1 := ⟨u - 1, by omega⟩
            rw [f_X4_both_b7]
            refine q_ite (fun _ => q_some h3) (fun _ => q_o2 (q_mono (v_pkX (by omega) h3) (fun b hb => ?_)))
            rw [hb.1]
            exact q_if (by decide) (q_some hb.2)
          | inr r =>
            obtain ⟨p', S', v'⟩ := r
            obtain ⟨g1, g2, g3, g4⟩ := hG _ _ _ _ (by omega) hr
            rw [hr] at h2
            have h2' : v_C k T t p' ((S0 ++ S) ++ S') M2 := h2
            have hl := a2.2.2.2.2.2.1
            refine q_ob (q_mono (v_step (x := 38) (y := 0) h2' (by rw [List.length_append]; omega)) (fun M3 h3 => ?_))
            rw [q_up]
            exact ih p' (x + 1) u S0 (S ++ (S' ++ [(v_c T t p, 0)])) _ M3 (by omega) (by omega) (by omega) (by rw [← List.append_assoc, ← List.append_assoc]; rw [co]; exact h3)
        exact q_it co go
      · rw [if_neg c]
        have co : ¬ (v_c T t p = 38) := fun q => c (decide_eq_true q)
        exact q_if co (q_some a2)
theorem v_bothH {n k T d : Nat} {t : Nat → Nat} {rv : Nat → Int32 → m_M → Option m_M} {P : Nat → Nat → v_R} (hn : 1600 < n) (hs : v_H k T t (f_X4_held n rv k (nI d)) (v_p3 T t P d)) (hG : v_G T (v_p3 T t P d)) : v_H k T t (f_X4_both n rv k (nI d)) (v_p2 T t P d) := by
  have X : ∀ φ M, v_X k T t φ M → q_T (f_X4_both_b7 n rv k (nI d) n 0 M) (v_X k T t φ) := by
    intro φ M h
    obtain ⟨n', hn'⟩ : ∃ m, n = m + 1 := ⟨n - 1, by omega⟩
    have e : q_T (f_X4_both_b7 n rv k (nI d) (n' + 1) 0 M) (v_X k T t φ) := by
      rw [f_X4_both_b7]
      refine q_if (by decide) (q_o2 (q_mono (v_pkX (by omega) h) (fun b hb => ?_)))
      rw [hb.1]
      exact q_if (by decide) (q_some hb.2)
    rw [← hn'] at e
    exact e
  refine ⟨fun p S M h => ?_, fun φ M h => ?_⟩
  · have hT := h.2.2.2.2.2.2.2.1
    unfold f_X4_both v_p2 v_lv
    refine q_ob (q_mono (hs.1 p S M h) (fun M2 h2 => ?_))
    cases hr : v_p3 T t P d p with
    | inl φ =>
      rw [hr] at h2
      exact X φ M2 h2
    | inr r =>
      obtain ⟨p', S', v'⟩ := r
      rw [hr] at h2
      exact v_bothL hn hs hG (T + 1) p' 0 n S S' v' M2 (by omega) (Nat.zero_le _) (by omega) h2
  · unfold f_X4_both
    exact q_ob (q_mono (hs.2 φ M h) (fun a ha => X φ a ha))
theorem v_valueL {n k T d : Nat} {t : Nat → Nat} {rv : Nat → Int32 → m_M → Option m_M} {P : Nat → Nat → v_R} (hn : 1600 < n) (hs : v_H k T t (f_X4_both n rv k (nI d)) (v_p2 T t P d)) (hG : v_G T (v_p2 T t P d)) : ∀ (f p x u : Nat) (S0 S : v_L) (v : v_F) (M : m_M), T < f + p → x ≤ p → f < u → v_C k T t p (S0 ++ S) M → q_T (f_X4_value_b7 n rv k (nI d) u (nI x) M) (v_A k T t S0 (v_loop T t (v_p2 T t P d) v_i1 f p S v)) := by
  intro f
  induction f with
  | zero =>
    intro p x u S0 S v M hf hx hu h
    have := h.2.2.2.2.2.2.1
    omega
  | succ f ih =>
    intro p x u S0 S v M hf hx hu h
    have hT := h.2.2.2.2.2.2.2.1
    have hp := h.2.2.2.2.2.2.1
    have ht := h.2.2.2.2.2.2.2.2.1
    obtain ⟨s1, s2, s3⟩ := j_S_b t hp
    obtain ⟨u, rfl⟩ : ∃ v, u = v + 1 := ⟨u - 1, by omega⟩
    rw [f_X4_value_b7, v_loop]
    have l50 : (50 : Int32) ≤ nI x ↔ 50 ≤ x := q_le (a := 50) (by decide) (by omega)
    by_cases c0 : 50 ≤ x
    · have e : j_S T t p = p := by omega
      have ec : v_c T t p = -1 := ((v_cm ht hp).1).mpr (by omega)
      rw [if_neg (show ¬ v_i1 (v_c T t p) = true by rw [ec]; decide), e]
      exact q_it (l50.mpr c0) (q_some h)
    · refine q_if (fun q => c0 (l50.mp q)) (q_o2 (q_mono (v_peek (by omega) h) (fun a ha => ?_)))
      obtain ⟨a1, a2⟩ := ha
      rw [a1]
      by_cases c : v_i1 (v_c T t p) = true
      · rw [if_pos c]
        have co := of_decide_eq_true c
        have hlt := v_cne hp (fun q => by rw [q] at co; revert co; decide)
        have go : q_T (m_bd (m_sI a.2 k 6 ((a.2.1 k 6) + (1 : Int32))) fun M5 => m_ob (f_X4_both n rv k (nI d) M5) fun M6 => m_ob (f_X4_step k 124 0 M6) fun M7 => f_X4_value_b7 n rv k (nI d) u (nI x + 1) M7) (v_A k T t S0 (match v_p2 T t P d (j_S T t p + 1) with
          | .inl φ => (.inl φ : v_R)
          | .inr (p', S', v') => v_loop T t (v_p2 T t P d) v_i1 f p' (S ++ (S' ++ [(v_c T t p, 0)])) (fun g => v_jn (v_c T t p) (v g) (v' g)))) := by
          rw [a2.2.1, q_up]
          refine q_bd (q_ob (q_mono (hs.1 _ _ _ (v_C_mv a2 (p' := j_S T t p + 1) (by omega) (by omega))) (fun M2 h2 => ?_)))
          cases hr : v_p2 T t P d (j_S T t p + 1) with
          | inl φ =>
            rw [hr] at h2
            have h2' : v_X k T t φ M2 := h2
            refine q_ob (q_mono (v_stX h2') (fun M3 h3 => ?_))
            rw [q_up]
            obtain ⟨u, rfl⟩ : ∃ v, u = v + 1 := ⟨u - 1, by omega⟩
            rw [f_X4_value_b7]
            refine q_ite (fun _ => q_some h3) (fun _ => q_o2 (q_mono (v_pkX (by omega) h3) (fun b hb => ?_)))
            rw [hb.1]
            exact q_if (by decide) (q_some hb.2)
          | inr r =>
            obtain ⟨p', S', v'⟩ := r
            obtain ⟨g1, g2, g3, g4⟩ := hG _ _ _ _ (by omega) hr
            rw [hr] at h2
            have h2' : v_C k T t p' ((S0 ++ S) ++ S') M2 := h2
            have hl := a2.2.2.2.2.2.1
            refine q_ob (q_mono (v_step (x := 124) (y := 0) h2' (by rw [List.length_append]; omega)) (fun M3 h3 => ?_))
            rw [q_up]
            exact ih p' (x + 1) u S0 (S ++ (S' ++ [(v_c T t p, 0)])) _ M3 (by omega) (by omega) (by omega) (by rw [← List.append_assoc, ← List.append_assoc]; rw [co]; exact h3)
        exact q_it co go
      · rw [if_neg c]
        have co : ¬ (v_c T t p = 124) := fun q => c (decide_eq_true q)
        exact q_if co (q_some a2)
theorem v_valueH {n k T d : Nat} {t : Nat → Nat} {rv : Nat → Int32 → m_M → Option m_M} {P : Nat → Nat → v_R} (hn : 1600 < n) (hs : v_H k T t (f_X4_both n rv k (nI d)) (v_p2 T t P d)) (hG : v_G T (v_p2 T t P d)) : v_H k T t (fb_X4_value n rv k (nI d)) (v_p1 T t P d) := by
  have X : ∀ φ M, v_X k T t φ M → q_T (f_X4_value_b7 n rv k (nI d) n 0 M) (v_X k T t φ) := by
    intro φ M h
    obtain ⟨n', hn'⟩ : ∃ m, n = m + 1 := ⟨n - 1, by omega⟩
    have e : q_T (f_X4_value_b7 n rv k (nI d) (n' + 1) 0 M) (v_X k T t φ) := by
      rw [f_X4_value_b7]
      refine q_if (by decide) (q_o2 (q_mono (v_pkX (by omega) h) (fun b hb => ?_)))
      rw [hb.1]
      exact q_if (by decide) (q_some hb.2)
    rw [← hn'] at e
    exact e
  refine ⟨fun p S M h => ?_, fun φ M h => ?_⟩
  · have hT := h.2.2.2.2.2.2.2.1
    unfold fb_X4_value v_p1 v_lv
    refine q_ob (q_mono (hs.1 p S M h) (fun M2 h2 => ?_))
    cases hr : v_p2 T t P d p with
    | inl φ =>
      rw [hr] at h2
      exact X φ M2 h2
    | inr r =>
      obtain ⟨p', S', v'⟩ := r
      rw [hr] at h2
      exact v_valueL hn hs hG (T + 1) p' 0 n S S' v' M2 (by omega) (Nat.zero_le _) (by omega) h2
  · unfold fb_X4_value
    exact q_ob (q_mono (hs.2 φ M h) (fun a ha => X φ a ha))
theorem v_valH {n k T : Nat} {t : Nat → Nat} (hn : 1600 < n) : ∀ f d, d + f = 12 → d ≤ 8 → v_H k T t (f_X4_value n f k (nI d)) (v_pv T t f d) := by
  intro f
  induction f with
  | zero =>
    intro d h1 h2
    omega
  | succ f ih =>
    intro d h1 h2
    have hG := v_Gv (T := T) (t := t) f (d + 1)
    have h6 := v_un (n := n) (k := k) (rv := f_X4_value n f) (P := v_pv T t f) hn h2 (fun q => ih (d + 1) (by omega) (by omega)) hG
    have h5 := v_termH hn h6 (v_G6 hG)
    have h4 := v_sumH hn h5 (v_G5 hG)
    have h3 := v_heldH hn h4 (v_G4 hG)
    have hb := v_bothH hn h3 (v_G3 hG)
    exact v_valueH hn hb (v_G2 hG)
/-- the class parses a law -/
theorem v_parse {n k T : Nat} {t : Nat → Nat} {M : m_M} (hn : 1600 < n) (hT : T ≤ 50) (ht : ∀ j, t j < 128) (h1 : M.1 k 1 = nI T) (hx : ∀ j, j < T → M.1 (k + 1) j = nI (t j)) : q_T (f_X4_parse n k M) (fun a => match v_law T t with
    | .inl φ => a.1 k 7 = φ ∧ φ ≠ -1
    | .inr (S, _) => a.1 k 7 = -1 ∧ a.1 k 5 = nI S.length ∧ v_has (a.1 (k + 2)) (a.2 (k + 3)) 0 S ∧ S.length ≤ 50) := by
  unfold f_X4_parse v_law
  refine q_bd (q_bd (q_bd ?_))
  have h0 : v_C k T t 0 [] (m_sI (m_sI (m_sI M k 7 (-1)) k 6 0) k 5 0) := by
    refine ⟨?_, ?_, ?_, ?_, trivial, Nat.le_refl _, Nat.zero_le _, hT, ht, fun j hj => ?_⟩
    · rw [q_r, q_r, q_r, if_neg (by omega), if_neg (by omega), if_neg (by omega), h1]
    · rw [q_r, q_r, if_neg (by omega), if_pos ⟨rfl, rfl⟩]
      rfl
    · rw [q_r, q_r, q_r, if_neg (by omega), if_neg (by omega), if_pos ⟨rfl, rfl⟩]
    · rw [q_r, if_pos ⟨rfl, rfl⟩]
      rfl
    · rw [q_r, q_r, q_r, if_neg (by omega), if_neg (by omega), if_neg (by omega), hx j hj]
  refine q_ob (q_mono ((v_valH (n := n) (k := k) (T := T) (t := t) hn 12 0 rfl (by omega)).1 0 [] _ h0) (fun M2 h2 => ?_))
  cases hr : v_pv T t 12 0 0 with
  | inl φ =>
    rw [hr] at h2
    have h2' : v_X k T t φ M2 := h2
    refine q_o2 (q_mono (v_pkX (by omega) h2') (fun b hb => ?_))
    exact q_it hb.1 (q_some ⟨hb.2.2.2.2.1, hb.2.1⟩)
  | inr r =>
    obtain ⟨p, S, v⟩ := r
    rw [hr] at h2
    have h2' : v_C k T t p ([] ++ S) M2 := h2
    have hp := h2'.2.2.2.2.2.2.1
    have hs := (j_S_b t hp).2.1
    refine q_o2 (q_mono (v_peek (by omega) h2') (fun b hb => ?_))
    obtain ⟨b1, b2⟩ := hb
    rw [b1]
    show q_T _ (fun (a : m_M) => match (if v_c T t p = -1 then (Sum.inr (S, v) : Sum Int32 (v_L × v_F)) else .inl (nI (10 * j_S T t p + 1))) with
      | .inl φ => a.1 k 7 = φ ∧ φ ≠ -1
      | .inr (S, _) => a.1 k 7 = -1 ∧ a.1 k 5 = nI S.length ∧ v_has (a.1 (k + 2)) (a.2 (k + 3)) 0 S ∧ S.length ≤ 50)
    by_cases c : v_c T t p = -1
    · have e : (if v_c T t p = -1 then (Sum.inr (S, v) : Sum Int32 (v_L × v_F)) else .inl (nI (10 * j_S T t p + 1))) = .inr (S, v) := if_pos c
      rw [e]
      refine q_it c (q_some ⟨b2.2.2.1, b2.2.2.2.1, b2.2.2.2.2.1, ?_⟩)
      have : S.length ≤ j_S T t p := b2.2.2.2.2.2.1
      omega
    · have e : (if v_c T t p = -1 then (Sum.inr (S, v) : Sum Int32 (v_L × v_F)) else .inl (nI (10 * j_S T t p + 1))) = .inl (nI (10 * j_S T t p + 1)) := if_neg c
      rw [e]
      refine q_if c (q_bd (q_some ?_))
      rw [b2.2.1]
      have hX := v_bl b2 (x := j_S T t p) (c := 1) (by omega) (by omega)
      exact ⟨hX.2.2.2.1, hX.1⟩
