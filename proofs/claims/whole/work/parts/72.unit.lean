/-! LAWS: the class reads a unit -/
theorem v_b62X {n k T s : Nat} {t : Nat → Nat} {rv : Nat → Int32 → m_M → Option m_M} {x1 φ : Int32} (hs : s ≤ 50) : ∀ (m u : Nat) (M : m_M), m ≤ 50 → m < u → v_X k T t φ M → q_T (f_X4_unit_b62 n rv k x1 u (nI s) (nI m + (-1)) M) (v_X k T t φ) := by
  intro m
  induction m with
  | zero =>
    intro u M hm hu h
    obtain ⟨u, rfl⟩ : ∃ v, u = v + 1 := ⟨u - 1, by omega⟩
    rw [f_X4_unit_b62]
    refine q_it ?_ (q_some h)
    have e : (nI 0 + (-1 : Int32)).toInt = -1 := by decide
    rw [Int32.lt_iff_toInt_lt, e, nI_toInt (by omega)]
    omega
  | succ m ih =>
    intro u M hm hu h
    obtain ⟨u, rfl⟩ : ∃ v, u = v + 1 := ⟨u - 1, by omega⟩
    rw [q_dec, f_X4_unit_b62]
    refine q_ite (fun _ => q_some h) (fun _ => q_gd (q_in (by omega) (by decide)) ?_)
    have b87 : ∀ M', v_X k T t φ M' → q_T (f_X4_unit_b87 n rv k x1 (f_X4_unit_b62 n rv k x1 u) (nI s) (nI m) M') (v_X k T t φ) := by
      intro M' h'
      unfold f_X4_unit_b87
      exact q_gd (q_in (by omega) (by decide)) (q_ite (fun _ => q_ob (q_mono (v_stX h') (fun a ha => ih u a (by omega) (by omega) ha))) (fun _ => ih u M' (by omega) (by omega) h'))
    exact q_ite (fun _ => q_ob (q_mono (v_stX h) (fun a ha => b87 a ha))) (fun _ => b87 M h)
theorem v_b62b {n k T s p' p : Nat} {t : Nat → Nat} {rv : Nat → Int32 → m_M → Option m_M} {x1 : Int32} {S : v_L} {Q : m_M → Prop} {M : m_M} (hs : s ≤ p) (hk : v_C k T t p' S M) : ∀ (e u : Nat), p + e ≤ T → (∀ j, p ≤ j → j < p + e → t j = 32) → e ≤ u → (∀ u', u' + e = u → q_T (f_X4_unit_b62 n rv k x1 u' (nI s) (nI p + (-1)) M) Q) → q_T (f_X4_unit_b62 n rv k x1 u (nI s) (nI (p + e) + (-1)) M) Q := by
  intro e
  have hT := hk.2.2.2.2.2.2.2.1
  induction e with
  | zero =>
    intro u _ _ _ hQ
    exact hQ u rfl
  | succ e ih =>
    intro u he hb hu hQ
    obtain ⟨u, rfl⟩ : ∃ v, u = v + 1 := ⟨u - 1, by omega⟩
    have tb := hb (p + e) (by omega) (by omega)
    have m := hk.2.2.2.2.2.2.2.2.2 (p + e) (by omega)
    rw [show p + (e + 1) = p + e + 1 by omega, q_dec, f_X4_unit_b62]
    refine q_if (fun q => absurd ((q_lt (by omega) (by omega)).mp q) (by omega)) (q_gd (q_in (by omega) (by decide)) ?_)
    rw [q_cl (by omega), m, tb]
    refine q_if (by decide) ?_
    unfold f_X4_unit_b87
    refine q_gd (q_in (by omega) (by decide)) ?_
    rw [q_cl (by omega), m, tb]
    exact q_if (by decide) (ih u (by omega) (fun j q1 q2 => hb j q1 (by omega)) (by omega) (fun u' hu' => hQ u' (by omega)))
theorem j_sk_bl (t : Nat → Nat) : ∀ d p j, p ≤ j → j < j_sk t d p → t j = 32
  | 0, p, j, h1, h2 => by
    rw [j_sk] at h2
    omega
  | d + 1, p, j, h1, h2 => by
    rw [j_sk] at h2
    by_cases c : t p = 32
    · rw [if_pos c] at h2
      by_cases e : j = p
      · rw [e]
        exact c
      · exact j_sk_bl t d (p + 1) j (by omega) h2
    · rw [if_neg c] at h2
      omega
theorem v_u47 {n k T d s p : Nat} {t : Nat → Nat} {rv : Nat → Int32 → m_M → Option m_M} {P : Nat → Nat → v_R} {S : v_L} {M : m_M} {Q : m_M → Prop} (hn : 1600 < n) (hd : d ≤ 8) (hrv : d < 8 → v_H k T t (rv k (nI (d + 1))) (P (d + 1))) (hs : s ≤ p) (hp : p ≤ T) (h : v_C k T t (j_S T t p) S M) (hX : ∀ φ M', v_opd T t P d p = .inl φ → v_X k T t φ M' → Q M') (hC : ∀ p' S' v u' M', v_opd T t P d p = .inr (p', S', v) → v_C k T t p' (S ++ S') M' → n + p ≤ u' + T → q_T (f_X4_unit_b62 n rv k (nI d) u' (nI s) (nI p + (-1)) M') Q) : q_T (f_X4_unit_b47 n rv k (nI d) (nI s) M) Q := by
  have hT := h.2.2.2.2.2.2.2.1
  obtain ⟨s1, s2, s3⟩ := j_S_b t hp
  unfold f_X4_unit_b47
  refine q_ob (q_mono ((v_opdC hn hd hrv).1 _ S M h) (fun a ha => ?_))
  rw [v_oS t hp] at ha
  rw [h.2.1, show nI (j_S T t p) - (1 : Int32) = nI (j_S T t p) + (-1) from by rw [Int32.sub_eq_add_neg]]
  cases hr : v_opd T t P d p with
  | inl φ =>
    rw [hr] at ha
    exact q_mono (v_b62X (by omega) (j_S T t p) n a (by omega) (by omega) ha) (fun b hb => hX φ b hr hb)
  | inr r =>
    obtain ⟨p', S', v⟩ := r
    rw [hr] at ha
    have k := v_b62b (n := n) (rv := rv) (x1 := nI d) (Q := Q) hs ha (j_S T t p - p) n (by omega) (fun j q1 q2 => j_sk_bl t (T - p) p j q1 (by
      have : j_S T t p = j_sk t (T - p) p := rfl
      omega)) (by omega) (fun u' hu' => hC p' S' v u' a hr ha (by omega))
    rw [show p + (j_S T t p - p) = j_S T t p by omega] at k
    exact k
theorem v_u7 {n k T d s : Nat} {t : Nat → Nat} {rv : Nat → Int32 → m_M → Option m_M} {P : Nat → Nat → v_R} {S : v_L} (hn : 1600 < n) (hd : d ≤ 8) (hrv : d < 8 → v_H k T t (rv k (nI (d + 1))) (P (d + 1))) (hG : v_G T (P (d + 1))) : ∀ (f p x u : Nat) (M : m_M) (Q : m_M → Prop), T < f + p → s ≤ p → x ≤ p → f < u → v_C k T t p S M → (∀ φ M', v_unit T t P d f p = .inl φ → v_X k T t φ M' → Q M') → (∀ p' S' v u' M', v_unit T t P d f p = .inr (p', S', v) → v_C k T t p' (S ++ S') M' → n + p ≤ u' + T → q_T (f_X4_unit_b62 n rv k (nI d) u' (nI s) (nI p + (-1)) M') Q) → q_T (f_X4_unit_b7 n rv k (nI d) u (nI s) (nI x) M) Q := by
  intro f
  induction f with
  | zero =>
    intro p x u M Q hf hs hx hu h hX hC
    have := h.2.2.2.2.2.2.1
    omega
  | succ f ih =>
    intro p x u M Q hf hs hx hu h hX hC
    have hT := h.2.2.2.2.2.2.2.1
    have hp := h.2.2.2.2.2.2.1
    have ht := h.2.2.2.2.2.2.2.2.1
    obtain ⟨s1, s2, s3⟩ := j_S_b t hp
    obtain ⟨u, rfl⟩ : ∃ v, u = v + 1 := ⟨u - 1, by omega⟩
    rw [f_X4_unit_b7]
    have l50 : (50 : Int32) ≤ nI x ↔ 50 ≤ x := q_le (a := 50) (by decide) (by omega)
    rw [v_unit] at hX hC
    by_cases c0 : 50 ≤ x
    · have e : j_S T t p = p := by omega
      have ec : v_c T t p = -1 := ((v_cm ht hp).1).mpr (by omega)
      rw [if_neg (by rw [ec]; decide)] at hX hC
      exact q_it (l50.mpr c0) (v_u47 hn hd hrv hs hp (by rw [e]; exact h) hX hC)
    · refine q_if (fun q => c0 (l50.mp q)) (q_o2 (q_mono (v_peek (by omega) h) (fun a ha => ?_)))
      obtain ⟨a1, a2⟩ := ha
      rw [a1]
      have go : ∀ M2, v_C k T t (j_S T t p) S M2 → (v_c T t p = 33 ∨ v_c T t p = 45) → q_T (f_X4_unit_b31 n rv k (nI d) (f_X4_unit_b7 n rv k (nI d) u) (nI s) (nI x) M2) Q := by
        intro M2 h2 hc
        rw [if_pos hc] at hX hC
        have hne : j_S T t p ≠ T := by
          rcases hc with q | q
          · exact (((v_cm ht hp).2 33 (by omega)).mp q).1
          · exact (((v_cm ht hp).2 45 (by omega)).mp q).1
        unfold f_X4_unit_b31
        rw [h2.2.1, q_up]
        refine q_bd ?_
        rw [q_up]
        refine ih (j_S T t p + 1) (x + 1) u _ Q (by omega) (by omega) (by omega) (by omega) (v_C_mv h2 (by omega) (by omega)) (fun φ M' e hM' => ?_) (fun p' S' v u' M' e hM' hu' => ?_)
        · rw [e] at hX
          exact hX φ M' rfl hM'
        · rw [e] at hC
          have tl := ht (j_S T t p)
          have m := hM'.2.2.2.2.2.2.2.2.2 (j_S T t p) (by omega)
          rw [q_dec]
          obtain ⟨u', rfl⟩ : ∃ w, u' = w + 1 := ⟨u' - 1, by omega⟩
          rw [f_X4_unit_b62]
          refine q_if (fun q => absurd ((q_lt (by omega) (by omega)).mp q) (by omega)) (q_gd (q_in (by omega) (by decide)) ?_)
          rw [q_cl (by omega), m]
          have gg := (v_Gunit hG f _ _ _ _ (by omega) e).2.2.1
          have hSl := h.2.2.2.2.2.1
          have lp : (S ++ S').length < p' := by
            rw [List.length_append]
            omega
          have fin : ∀ (o : Int32) (M3 : m_M), o = (if decide (v_c T t p = 33) = true then 33 else 126) → v_C k T t p' ((S ++ S') ++ [(o, 0)]) M3 → q_T (f_X4_unit_b62 n rv k (nI d) u' (nI s) (nI (j_S T t p) + (-1)) M3) Q := by
            intro o M3 ho h3
            have k := v_b62b (n := n) (rv := rv) (x1 := nI d) (Q := Q) hs h3 (j_S T t p - p) u' (by omega) (fun j q1 q2 => j_sk_bl t (T - p) p j q1 (by
              have : j_S T t p = j_sk t (T - p) p := rfl
              omega)) (by omega) (fun u2 hu2 => hC p' _ _ u2 M3 rfl (by rw [← ho, ← List.append_assoc]; exact h3) (by omega))
            rw [show p + (j_S T t p - p) = j_S T t p by omega] at k
            exact k
          by_cases c33 : v_c T t p = 33
          · have tc := (((v_cm ht hp).2 33 (by omega)).mp c33).2
            rw [tc]
            refine q_it rfl (q_ob (q_mono (v_step hM' lp) (fun M3 h3 => ?_)))
            have m3 := h3.2.2.2.2.2.2.2.2.2 (j_S T t p) (by omega)
            unfold f_X4_unit_b87
            refine q_gd (q_in (by omega) (by decide)) ?_
            rw [q_cl (by omega), m3, tc]
            exact q_if (by decide) (fin 33 M3 (by rw [if_pos (decide_eq_true c33)]) h3)
          · have c45 : v_c T t p = 45 := by
              rcases hc with q | q
              · exact absurd q c33
              · exact q
            have tc := (((v_cm ht hp).2 45 (by omega)).mp c45).2
            rw [tc]
            refine q_if (by decide) ?_
            unfold f_X4_unit_b87
            refine q_gd (q_in (by omega) (by decide)) ?_
            rw [q_cl (by omega), m, tc]
            exact q_it rfl (q_ob (q_mono (v_step hM' lp) (fun M3 h3 => fin 126 M3 (by rw [if_neg (by rw [decide_eq_false c33]; decide)]) h3)))
      by_cases c33 : v_c T t p = 33
      · exact q_it c33 (go a.2 a2 (Or.inl c33))
      · refine q_if c33 (q_o2 (q_mono (v_peek (by omega) a2) (fun b hb => ?_)))
        obtain ⟨b1, b2⟩ := hb
        rw [j_S_id t hp] at b2
        rw [b1, v_cS t hp]
        by_cases c45 : v_c T t p = 45
        · exact q_it c45 (go b.2 b2 (Or.inr c45))
        · rw [if_neg (by rintro (q | q); exact c33 q; exact c45 q)] at hX hC
          exact q_if c45 (v_u47 hn hd hrv hs hp b2 hX hC)
theorem v_unX {n k T d : Nat} {t : Nat → Nat} {rv : Nat → Int32 → m_M → Option m_M} {P : Nat → Nat → v_R} (hn : 1600 < n) (hd : d ≤ 8) (hrv : d < 8 → v_H k T t (rv k (nI (d + 1))) (P (d + 1))) : ∀ φ M, v_X k T t φ M → q_T (f_X4_unit n rv k (nI d) M) (v_X k T t φ) := by
  intro φ M h
  obtain ⟨p, p1, p2⟩ := h.2.2.1
  have hT := h.2.2.2.2.2.1
  unfold f_X4_unit
  rw [p2]
  obtain ⟨n', hn'⟩ : ∃ m, n = m + 1 := ⟨n - 1, by omega⟩
  have b47 : ∀ M2, v_X k T t φ M2 → q_T (f_X4_unit_b47 n rv k (nI d) (nI p) M2) (v_X k T t φ) := by
    intro M2 h2
    obtain ⟨p', p1', p2'⟩ := h2.2.2.1
    unfold f_X4_unit_b47
    refine q_ob (q_mono ((v_opdC hn hd hrv).2 φ M2 h2) (fun a ha => ?_))
    rw [p2', show nI p' - (1 : Int32) = nI p' + (-1) from by rw [Int32.sub_eq_add_neg]]
    exact v_b62X (by omega) p' n a (by omega) (by omega) ha
  have e : q_T (f_X4_unit_b7 n rv k (nI d) (n' + 1) (nI p) 0 M) (v_X k T t φ) := by
    rw [f_X4_unit_b7]
    refine q_if (by decide) (q_o2 (q_mono (v_pkX (by omega) h) (fun a ha => ?_)))
    rw [ha.1]
    refine q_if (by decide) (q_o2 (q_mono (v_pkX (by omega) ha.2) (fun b hb => ?_)))
    rw [hb.1]
    exact q_if (by decide) (b47 b.2 hb.2)
  rw [← hn'] at e
  exact e
theorem v_un {n k T d : Nat} {t : Nat → Nat} {rv : Nat → Int32 → m_M → Option m_M} {P : Nat → Nat → v_R} (hn : 1600 < n) (hd : d ≤ 8) (hrv : d < 8 → v_H k T t (rv k (nI (d + 1))) (P (d + 1))) (hG : v_G T (P (d + 1))) : v_H k T t (f_X4_unit n rv k (nI d)) (v_p6 T t P d) := by
  refine ⟨fun p S M h => ?_, v_unX hn hd hrv⟩
  have hT := h.2.2.2.2.2.2.2.1
  have hp := h.2.2.2.2.2.2.1
  unfold f_X4_unit v_p6
  rw [h.2.1]
  refine v_u7 (n := n) (s := p) hn hd hrv hG (T + 1) p 0 n M _ (by omega) (Nat.le_refl _) (Nat.zero_le _) (by omega) h (fun φ M' e hM' => by rw [e]; exact hM') (fun p' S' v u' M' e hM' hu' => ?_)
  obtain ⟨u', rfl⟩ : ∃ w, u' = w + 1 := ⟨u' - 1, by omega⟩
  rw [f_X4_unit_b62, e]
  refine q_it ?_ (q_some hM')
  rcases Nat.eq_zero_or_pos p with q | q
  · rw [q]
    decide
  · obtain ⟨m, rfl⟩ : ∃ m, p = m + 1 := ⟨p - 1, by omega⟩
    rw [q_dec]
    exact (q_lt (by omega) (by omega)).mpr (by omega)
