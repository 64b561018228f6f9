/-! LAWS: what is read is a tree, and not longer than its text -/
def v_G (T : Nat) (P : Nat → v_R) : Prop := ∀ p p' S v, p ≤ T → P p = .inr (p', S, v) → p < p' ∧ p' ≤ T ∧ S.length + p ≤ p' ∧ v_T S v
theorem v_cne {T p : Nat} {t : Nat → Nat} (hp : p ≤ T) (h : v_c T t p ≠ -1) : j_S T t p < T := by
  have := (j_S_b t hp).2.1
  by_cases c : j_S T t p = T
  · exact absurd (if_pos c) h
  · omega
theorem v_Gopd {T d : Nat} {t : Nat → Nat} {P : Nat → Nat → v_R} (hP : v_G T (P (d + 1))) : v_G T (v_opd T t P d) := by
  intro p p' S v hp e
  obtain ⟨s1, s2, s3⟩ := j_S_b t hp
  unfold v_opd at e
  by_cases c0 : j_S T t p = T
  · rw [if_pos c0] at e
    exact absurd e (by simp)
  rw [if_neg c0] at e
  by_cases c1 : j_fi (t (j_S T t p)) = true
  · rw [if_pos c1] at e
    have hD := (j_rn0 (f := j_fi) (t := t) (d := T - j_S T t p) (p := j_S T t p) (by omega)).mp c1
    have hD2 := (j_rn_b j_fi t (T - j_S T t p) (j_S T t p)).1
    have eD : j_rn j_fi t (T - j_S T t p) (j_S T t p) = j_D T t p := rfl
    by_cases c2 : j_D T t p ≤ 6
    · rw [if_pos c2] at e
      have e' := Sum.inr.inj e
      have e1 := congrArg (fun z => z.1) e'
      have e2 := congrArg (fun z => z.2.1) e'
      have e3 := congrArg (fun z => z.2.2) e'
      have e1' : j_S T t p + j_D T t p = p' := e1
      subst e2 e3
      refine ⟨by omega, by omega, ?_, v_T0 _⟩
      show 1 + p ≤ p'
      omega
    · rw [if_neg c2] at e
      exact absurd e (by simp)
  rw [if_neg c1] at e
  by_cases c2 : t (j_S T t p) = 40
  · rw [if_pos c2] at e
    by_cases c3 : d < 8
    · rw [if_pos c3] at e
      cases hr : P (d + 1) (j_S T t p + 1) with
      | inl φ =>
        rw [hr] at e
        exact absurd e (by simp)
      | inr r =>
        obtain ⟨p2, S2, v2⟩ := r
        obtain ⟨g1, g2, g3, g4⟩ := hP _ _ _ _ (by omega) hr
        rw [hr] at e
        have e0 : (if v_c T t p2 = 41 then (Sum.inr (j_S T t p2 + 1, S2, v2) : v_R) else .inl (nI (10 * j_S T t p2 + 1))) = .inr (p', S, v) := e
        by_cases c4 : v_c T t p2 = 41
        · rw [if_pos c4] at e0
          have e' := Sum.inr.inj e0
          have e1 : j_S T t p2 + 1 = p' := congrArg (fun z => z.1) e'
          have e2 := congrArg (fun z => z.2.1) e'
          have e3 := congrArg (fun z => z.2.2) e'
          have hs := j_S_b t g2
          have hl := v_cne g2 (by rw [c4]; decide)
          subst e2 e3
          exact ⟨by omega, by omega, by show S2.length + p ≤ p'; omega, g4⟩
        · rw [if_neg c4] at e0
          exact absurd e0 (by simp)
    · rw [if_neg c3] at e
      exact absurd e (by simp)
  rw [if_neg c2] at e
  by_cases c3 : v_nm (t (j_S T t p)) < 5
  · rw [if_pos c3] at e
    have e' := Sum.inr.inj e
    have e1 : j_S T t p + 1 = p' := congrArg (fun z => z.1) e'
    have e2 := congrArg (fun z => z.2.1) e'
    have e3 := congrArg (fun z => z.2.2) e'
    subst e2 e3
    refine ⟨by omega, by omega, ?_, v_T1 c3⟩
    show 1 + p ≤ p'
    omega
  · rw [if_neg c3] at e
    exact absurd e (by simp)
theorem v_Gunit {T d : Nat} {t : Nat → Nat} {P : Nat → Nat → v_R} (hP : v_G T (P (d + 1))) : ∀ f, v_G T (v_unit T t P d f)
  | 0 => fun p p' S v hp e => by
    rw [v_unit] at e
    exact absurd e (by simp)
  | f + 1 => fun p p' S v hp e => by
    rw [v_unit] at e
    by_cases c : v_c T t p = 33 ∨ v_c T t p = 45
    · rw [if_pos c] at e
      have hl := v_cne hp (by rcases c with q | q <;> rw [q] <;> decide)
      have hs := j_S_b t hp
      cases hr : v_unit T t P d f (j_S T t p + 1) with
      | inl φ =>
        rw [hr] at e
        exact absurd e (by simp)
      | inr r =>
        obtain ⟨p2, S2, v2⟩ := r
        obtain ⟨g1, g2, g3, g4⟩ := v_Gunit hP f _ _ _ _ (by omega) hr
        rw [hr] at e
        have e' := Sum.inr.inj e
        have e1 : p2 = p' := congrArg (fun z => z.1) e'
        have e2 := congrArg (fun z => z.2.1) e'
        have e3 := congrArg (fun z => z.2.2) e'
        subst e1 e2 e3
        refine ⟨by omega, g2, ?_, v_T2 _ g4⟩
        show (S2 ++ [_]).length + p ≤ p2
        rw [List.length_append]
        show S2.length + 1 + p ≤ p2
        omega
    · rw [if_neg c] at e
      exact v_Gopd hP p p' S v hp e
theorem v_Gloop {T : Nat} {t : Nat → Nat} {sub : Nat → v_R} {iso : Int32 → Bool} (hs : v_G T sub) (hi : ∀ c, iso c = true → v_op c) : ∀ (f p : Nat) (S : v_L) (v : v_F) (p' : Nat) (S' : v_L) (v' : v_F) (p0 : Nat), p ≤ T → p0 < p → S.length + p0 ≤ p → v_T S v → v_loop T t sub iso f p S v = .inr (p', S', v') → p0 < p' ∧ p' ≤ T ∧ S'.length + p0 ≤ p' ∧ v_T S' v'
  | 0, p, S, v, p', S', v', p0, hp, h0, hl, hT, e => by
    rw [v_loop] at e
    exact absurd e (by simp)
  | f + 1, p, S, v, p', S', v', p0, hp, h0, hl, hT, e => by
    rw [v_loop] at e
    have hb := j_S_b t hp
    by_cases c : iso (v_c T t p) = true
    · rw [if_pos c] at e
      have hne : v_c T t p ≠ -1 := fun q => by
        have := hi _ c
        rw [q] at this
        rcases this with w | w | w | w | w | w | w | w | w <;> exact absurd w (by decide)
      have hlt := v_cne hp hne
      cases hr : sub (j_S T t p + 1) with
      | inl φ =>
        rw [hr] at e
        exact absurd e (by simp)
      | inr r =>
        obtain ⟨p2, S2, v2⟩ := r
        obtain ⟨g1, g2, g3, g4⟩ := hs _ _ _ _ (by omega) hr
        rw [hr] at e
        refine v_Gloop hs hi f p2 _ _ p' S' v' p0 g2 (by omega) ?_ (v_T3 (hi _ c) hT g4) e
        rw [List.length_append, List.length_append]
        show S.length + (S2.length + 1) + p0 ≤ p2
        omega
    · rw [if_neg c] at e
      have e' := Sum.inr.inj e
      have e1 : j_S T t p = p' := congrArg (fun z => z.1) e'
      have e2 := congrArg (fun z => z.2.1) e'
      have e3 := congrArg (fun z => z.2.2) e'
      subst e1 e2 e3
      exact ⟨by omega, by omega, by show S.length + p0 ≤ j_S T t p; omega, hT⟩
theorem v_Glv {T : Nat} {t : Nat → Nat} {sub : Nat → v_R} {iso : Int32 → Bool} (hs : v_G T sub) (hi : ∀ c, iso c = true → v_op c) : v_G T (v_lv T t sub iso) := by
  intro p p' S v hp e
  unfold v_lv at e
  cases hr : sub p with
  | inl φ =>
    rw [hr] at e
    exact absurd e (by simp)
  | inr r =>
    obtain ⟨p2, S2, v2⟩ := r
    obtain ⟨g1, g2, g3, g4⟩ := hs _ _ _ _ hp hr
    rw [hr] at e
    exact v_Gloop hs hi (T + 1) p2 S2 v2 p' S v p g2 g1 g3 g4 e
theorem v_o5 : ∀ c, v_i5 c = true → v_op c := fun c h => by
  have := of_decide_eq_true h
  unfold v_op
  rcases this with q | q <;> simp [q]
theorem v_o4 : ∀ c, v_i4 c = true → v_op c := fun c h => by
  have := of_decide_eq_true h
  unfold v_op
  rcases this with q | q <;> simp [q]
theorem v_o3 : ∀ c, v_i3 c = true → v_op c := fun c h => by
  have := of_decide_eq_true h
  unfold v_op
  rcases this with q | q | q <;> simp [q]
theorem v_o2 : ∀ c, v_i2 c = true → v_op c := fun c h => by
  have q := of_decide_eq_true h
  unfold v_op
  simp [q]
theorem v_o1 : ∀ c, v_i1 c = true → v_op c := fun c h => by
  have q := of_decide_eq_true h
  unfold v_op
  simp [q]
theorem v_G6 {T d : Nat} {t : Nat → Nat} {P : Nat → Nat → v_R} (hP : v_G T (P (d + 1))) : v_G T (v_p6 T t P d) := v_Gunit hP (T + 1)
theorem v_G5 {T d : Nat} {t : Nat → Nat} {P : Nat → Nat → v_R} (hP : v_G T (P (d + 1))) : v_G T (v_p5 T t P d) := v_Glv (v_G6 hP) v_o5
theorem v_G4 {T d : Nat} {t : Nat → Nat} {P : Nat → Nat → v_R} (hP : v_G T (P (d + 1))) : v_G T (v_p4 T t P d) := v_Glv (v_G5 hP) v_o4
theorem v_G3 {T d : Nat} {t : Nat → Nat} {P : Nat → Nat → v_R} (hP : v_G T (P (d + 1))) : v_G T (v_p3 T t P d) := by
  intro p p' S v hp e
  unfold v_p3 at e
  cases hr : v_p4 T t P d p with
  | inl φ =>
    rw [hr] at e
    exact absurd e (by simp)
  | inr r =>
    obtain ⟨p2, S2, v2⟩ := r
    obtain ⟨g1, g2, g3, g4⟩ := v_G4 hP _ _ _ _ hp hr
    have hb := j_S_b t g2
    rw [hr] at e
    have e0 : (if v_i3 (v_c T t p2) = true then (match v_p4 T t P d (j_S T t p2 + 1) with
      | .inl φ => (.inl φ : v_R)
      | .inr (p3, S', v') => .inr (p3, S2 ++ (S' ++ [(v_c T t p2, 0)]), fun g => v_jn (v_c T t p2) (v2 g) (v' g))) else .inr (j_S T t p2, S2, v2)) = .inr (p', S, v) := e
    by_cases c : v_i3 (v_c T t p2) = true
    · rw [if_pos c] at e0
      have hne : v_c T t p2 ≠ -1 := fun q => by
        have := v_o3 _ c
        rw [q] at this
        rcases this with w | w | w | w | w | w | w | w | w <;> exact absurd w (by decide)
      have hlt := v_cne g2 hne
      cases hr3 : v_p4 T t P d (j_S T t p2 + 1) with
      | inl φ =>
        rw [hr3] at e0
        exact absurd e0 (by simp)
      | inr r3 =>
        obtain ⟨p3, S3, v3⟩ := r3
        obtain ⟨f1, f2, f3, f4⟩ := v_G4 hP _ _ _ _ (by omega) hr3
        rw [hr3] at e0
        have e' := Sum.inr.inj e0
        have e1 : p3 = p' := congrArg (fun z => z.1) e'
        have e2 := congrArg (fun z => z.2.1) e'
        have e3 := congrArg (fun z => z.2.2) e'
        subst e1 e2 e3
        refine ⟨by omega, f2, ?_, v_T3 (v_o3 _ c) g4 f4⟩
        show (S2 ++ (S3 ++ [_])).length + p ≤ p3
        rw [List.length_append, List.length_append]
        show S2.length + (S3.length + 1) + p ≤ p3
        omega
    · rw [if_neg c] at e0
      have e' := Sum.inr.inj e0
      have e1 : j_S T t p2 = p' := congrArg (fun z => z.1) e'
      have e2 := congrArg (fun z => z.2.1) e'
      have e3 := congrArg (fun z => z.2.2) e'
      subst e1 e2 e3
      exact ⟨by omega, by omega, by show S2.length + p ≤ j_S T t p2; omega, g4⟩
theorem v_G2 {T d : Nat} {t : Nat → Nat} {P : Nat → Nat → v_R} (hP : v_G T (P (d + 1))) : v_G T (v_p2 T t P d) := v_Glv (v_G3 hP) v_o2
theorem v_G1 {T d : Nat} {t : Nat → Nat} {P : Nat → Nat → v_R} (hP : v_G T (P (d + 1))) : v_G T (v_p1 T t P d) := v_Glv (v_G2 hP) v_o1
theorem v_Gv {T : Nat} {t : Nat → Nat} : ∀ f d, v_G T (v_pv T t f d)
  | 0, d => fun p p' S v hp e => by
    rw [v_pv] at e
    exact absurd e (by simp)
  | f + 1, d => v_G1 (v_Gv f (d + 1))
