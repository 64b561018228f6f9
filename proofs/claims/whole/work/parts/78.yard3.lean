/-! LAWS: the reference reads the levels -/
theorem w_cS {T p p2 : Nat} {t : Nat → Nat} (h : j_S T t p2 = j_S T t p) : v_c T t p2 = v_c T t p := by
  unfold v_c
  rw [h]
/-- an operator goes on the stack -/
theorem w_put {n l T p d u L : Nat} {t : Nat → Nat} {g : Nat → Int64} {σ σ' : List Int32} {ν ν' : List Int64} {M : m_M} {Q : Int32 × m_M → Prop} (hn : 200 < n) (h : w_S l T t g p σ' ν' M) (hb : w_bn σ' + 1 = ν'.length) (hop : v_op (v_c T t p)) (hL : L < 7) (hL2 : (w_rk (v_c T t p) = 3 ∧ L = 4) ∨ (w_rk (v_c T t p) ≠ 3 ∧ L = w_rk (v_c T t p))) (hwd : w_wd L σ' ν' = (σ, ν)) (htop : w_rk (v_c T t p) = 3 → w_top 3 σ) (hu : 1 < u) (hQ : ∀ (u' : Nat) (M' : m_M), u' + 1 = u → w_S l T t g (j_S T t p + 1) (v_c T t p :: σ) ν M' → q_T (f_X8_reads_b26 n u' (nI d) 1 1 M') Q) : q_T (f_X8_reads_b26 n u (nI d) 0 1 M) Q := by
  obtain ⟨u, rfl⟩ : ∃ v, u = v + 1 := ⟨u - 1, by omega⟩
  have hpT : p ≤ T := h.2.2.2.2.2.2.2.2.1
  have hT : T ≤ 50 := h.2.2.2.2.2.2.2.2.2.1
  have hs := (j_S_b t hpT).2.1
  have hlt := v_cne hpT (t := t) (fun q => by rw [q] at hop; rcases hop with w | w | w | w | w | w | w | w | w <;> exact absurd w (by decide))
  obtain ⟨r1, r2, r3, r4⟩ := w_rk_o hop
  rw [f_X8_reads_b26, h.2.2.1]
  refine q_if (by decide) (q_it rfl (q_o2 (q_mono (w_ahead (by omega) h) (fun a ha => q_it rfl ?_))))
  obtain ⟨a1, a2⟩ := ha
  rw [a1]
  refine q_if (fun q => by rw [q] at hop; rcases hop with w | w | w | w | w | w | w | w | w <;> exact absurd w (by decide)) ?_
  have b409 : ∀ M9, w_S l T t g (j_S T t p) σ ν M9 → q_T (f_X8_reads_b409 n (f_X8_reads_b26 n u) (nI d) 1 (v_c T t p) M9) Q := by
    intro M9 h9
    have hσ : σ.length ≤ j_S T t p := h9.2.2.2.2.2.2.2.2.2.2.2.2.1
    unfold f_X8_reads_b409
    rw [h9.2.1, q_up]
    have h2 := w_mv h9 (p' := j_S T t p + 1) (by omega) (by omega)
    have h42 : (m_sI M9 172 37 (nI (j_S T t p + 1))).1 172 42 = nI σ.length := h2.2.2.2.2.1
    refine q_bd ?_
    rw [h42]
    refine q_gd (q_in (by omega) (by decide)) (q_bd (q_bd ?_))
    rw [q_cl (by omega)]
    have h42' : (m_sI (m_sI M9 172 37 (nI (j_S T t p + 1))) 193 σ.length (v_c T t p)).1 172 42 = nI σ.length := by rw [q_r, if_neg (by omega), h42]
    rw [h42', q_up]
    exact hQ u _ rfl (w_push h2 (Or.inl hop) (by omega))
  unfold f_X8_reads_b312
  refine q_bd ?_
  rw [r1]
  refine q_if (fun q => absurd ((q_le (b := 0) (by omega) (by decide)).mp q) (by omega)) (q_bd ?_)
  have l3 : nI (w_rk (v_c T t p)) = (3 : Int32) ↔ w_rk (v_c T t p) = 3 := nI_eq (b := 3) (by omega) (by decide)
  have b339 : q_T (f_X8_reads_b339 n (f_X8_reads_b26 n u) (nI d) 0 1 (v_c T t p) (nI L) a.2) Q := by
    unfold f_X8_reads_b339
    refine q_ob (q_mono (w_down (L := L) hn hL hb a2) (fun M9 h9 => q_bd ?_))
    rw [hwd] at h9
    rw [r1]
    refine q_ite (fun q => ?_) (fun _ => b409 M9 h9)
    have q3 := l3.mp q
    have ht3 := htop q3
    match σ, h9, ht3, b409 with
    | [], h9, _, b409 =>
      have h4 : M9.1 172 42 = 0 := h9.2.2.2.2.1
      rw [h4]
      exact q_it (by decide) (b409 M9 h9)
    | o :: σ, h9, ht3, b409 =>
      have h4 : M9.1 172 42 = nI (σ.length + 1) := h9.2.2.2.2.1
      have hl : σ.length + 1 ≤ j_S T t p := h9.2.2.2.2.2.2.2.2.2.2.2.2.1
      have hc : M9.1 193 σ.length = o := h9.2.2.2.2.2.1.1
      rw [h4, nI_pred]
      refine q_if (fun q => absurd ((q_le (b := 0) (by omega) (by decide)).mp q) (by omega)) (q_gd (q_in (by omega) (by decide)) ?_)
      rw [q_cl (by omega), hc]
      refine q_ite (fun _ => b409 M9 h9) (fun qn => q_bd ?_)
      have hr := w_rkg o
      rw [hr.1]
      refine q_if (fun q => ?_) (b409 M9 h9)
      have := (nI_eq (b := 3) (by omega) (by decide)).mp q
      rcases ht3 with w | w
      · rw [w] at qn
        exact qn (by decide)
      · omega
  rcases hL2 with ⟨w1, w2⟩ | ⟨w1, w2⟩
  · refine q_it (l3.mpr w1) ?_
    rw [w2] at b339
    exact b339
  · refine q_if (fun q => w1 (l3.mp q)) (q_bd ?_)
    rw [w2] at b339
    exact b339
theorem w_loop {n l T d L : Nat} {t : Nat → Nat} {g : Nat → Int64} {sub : Nat → v_R} {iso : Int32 → Bool} (hn : 200 < n) (hL0 : L = 1 ∨ L = 2 ∨ L = 4 ∨ L = 5) (hi : ∀ c, iso c = true ↔ w_rk c = L) (hio : ∀ c, iso c = true → v_op c) (hs : w_K n l T t g sub (L + 1) d) (hG : v_G T sub) : ∀ (f p p0 : Nat) (S : v_L) (v : v_F) (σ : List Int32) (ν : List Int64) (σ' : List Int32) (ν' : List Int64) (u : Nat) (M : m_M) (Q : Int32 × m_M → Prop), T < f + p0 → p ≤ T → j_S T t p0 = j_S T t p → w_S l T t g p0 σ' ν' M → w_bn σ = ν.length → w_top L σ → w_bn σ' + 1 = ν'.length → w_wd L σ' ν' = (σ, v g :: ν) → w_F (L + 1) (v_c T t p0) σ' ν' → T + 2 < u + p0 → (∀ φ, v_loop T t sub iso f p S v = .inl φ → ∀ a : Int32 × m_M, a.1 = 0 → a.2.1 172 38 = φ → Q a) → (∀ p' S' v' p2 σ2 ν2 u' M', v_loop T t sub iso f p S v = .inr (p', S', v') → w_S l T t g p2 σ2 ν2 M' → j_S T t p2 = j_S T t p' → p0 ≤ p2 → w_bn σ2 + 1 = ν2.length → w_wd L σ2 ν2 = (σ, v' g :: ν) → w_F L (v_c T t p2) σ2 ν2 → u + p0 ≤ u' + p2 → q_T (f_X8_reads_b26 n u' (nI d) 0 1 M') Q) → q_T (f_X8_reads_b26 n u (nI d) 0 1 M) Q := by
  intro f
  induction f with
  | zero =>
    intro p p0 S v σ ν σ' ν' u M Q hf hpp hp0 h
    have hpT : p0 ≤ T := h.2.2.2.2.2.2.2.2.1
    omega
  | succ f ih =>
    intro p p0 S v σ ν σ' ν' u M Q hf hpp hp0 h hbn htop hb' hwd hF hu hX hC
    have hpT : p0 ≤ T := h.2.2.2.2.2.2.2.2.1
    have hsb := j_S_b t hpT
    have ec := w_cS hp0
    rw [v_loop] at hX hC
    by_cases c : iso (v_c T t p) = true
    · rw [if_pos c] at hX hC
      have hop := hio _ c
      have hrk := (hi _).mp c
      rw [← ec] at hop hrk
      have hlt := v_cne hpT (t := t) (fun q => by rw [q] at hop; rcases hop with w | w | w | w | w | w | w | w | w <;> exact absurd w (by decide))
      refine w_put (L := L) (d := d) (σ := σ) (ν := v g :: ν) hn h hb' hop (by omega) (Or.inr ⟨by omega, hrk.symm⟩) hwd (fun q => by omega) (by omega) (fun u1 M1 hu1 h1 => ?_)
      obtain ⟨r1, r2, r3, r4⟩ := w_rk_o hop
      refine hs (j_S T t p0 + 1) (v_c T t p0 :: σ) (v g :: ν) u1 M1 Q h1 (by rw [w_bn, if_neg r4]; show w_bn σ + 1 = ν.length + 1; omega) (Or.inr ⟨r4, by omega⟩) (by omega) (fun φ e => ?_) (fun p' S' v' p2 σ2 ν2 u2 M2 e hM2 hS2 hlt2 hb2 hwd2 hF2 hu2 => ?_)
      · rw [hp0] at e
        rw [e] at hX
        exact hX φ rfl
      · have g2 := (hG _ _ _ _ (by omega) e).2.1
        rw [hp0] at e
        rw [e] at hX hC
        have hp2T : p2 ≤ T := hM2.2.2.2.2.2.2.2.2.1
        have hww := w_wd_wd (show L ≤ L + 1 by omega) σ2 ν2 hb2
        have hnew : w_wd L σ2 ν2 = (σ, v_jn (v_c T t p) (v g) (v' g) :: ν) := by
          rw [← hww, hwd2]
          show w_wd L (v_c T t p0 :: σ) (v' g :: v g :: ν) = _
          rw [w_wd, if_neg r4, if_neg (by omega)]
          show w_wd L σ (v_jn (v_c T t p0) (v g) (v' g) :: ν) = _
          rw [w_wd_top htop, ec]
        refine ih p' p2 _ _ σ ν σ2 ν2 u2 M2 Q (by omega) g2 hS2 hM2 hbn htop hb2 hnew hF2 (by omega) hX (fun q1 q2 q3 q4 q5 q6 q7 q8 r1 r2 r3 r4 r5 r6 r7 r8 => hC q1 q2 q3 q4 q5 q6 q7 q8 r1 r2 r3 (by omega) r5 r6 r7 (by omega))
    · rw [if_neg c] at hX hC
      have hnr : w_rk (v_c T t p0) ≠ L := fun q => c ((hi _).mpr (by rw [← ec]; exact q))
      refine hC (j_S T t p) S v p0 σ' ν' u M rfl h ?_ (Nat.le_refl _) hb' hwd ?_ (Nat.le_refl _)
      · rw [hp0]
        exact (j_S_id t hpp).symm
      · rcases hF with q | ⟨q1, q2, q3⟩
        · exact Or.inl (by omega)
        · exact Or.inr ⟨by omega, q2, q3⟩
theorem w_lv {n l T d L : Nat} {t : Nat → Nat} {g : Nat → Int64} {sub : Nat → v_R} {iso : Int32 → Bool} (hn : 200 < n) (hL0 : L = 1 ∨ L = 2 ∨ L = 4 ∨ L = 5) (hi : ∀ c, iso c = true ↔ w_rk c = L) (hio : ∀ c, iso c = true → v_op c) (hs : w_K n l T t g sub (L + 1) d) (hG : v_G T sub) : w_K n l T t g (v_lv T t sub iso) L d := by
  intro p σ ν u M Q h hbn htop hu hX hC
  have hpT : p ≤ T := h.2.2.2.2.2.2.2.2.1
  unfold v_lv at hX hC
  refine hs p σ ν u M Q h hbn (w_top_mono htop (by omega)) hu (fun φ e => ?_) (fun p' S v p2 σ2 ν2 u2 M2 e hM2 hS2 hlt2 hb2 hwd2 hF2 hu2 => ?_)
  · rw [e] at hX
    exact hX φ rfl
  · have g2 := (hG _ _ _ _ hpT e).2.1
    rw [e] at hX hC
    have hww := w_wd_wd (show L ≤ L + 1 by omega) σ2 ν2 hb2
    have hnew : w_wd L σ2 ν2 = (σ, v g :: ν) := by
      rw [← hww, hwd2]
      exact w_wd_top htop
    exact w_loop hn hL0 hi hio hs hG (T + 1) p' p2 S v σ ν σ2 ν2 u2 M2 Q (by omega) g2 hS2 hM2 hbn htop hb2 hnew hF2 (by omega) hX (fun q1 q2 q3 q4 q5 q6 q7 q8 r1 r2 r3 r4 r5 r6 r7 r8 => hC q1 q2 q3 q4 q5 q6 q7 q8 r1 r2 r3 (by omega) r5 r6 r7 (by omega))
theorem w_i5 (c : Int32) : v_i5 c = true ↔ w_rk c = 5 := by
  unfold v_i5 w_rk f_X8_rank
  repeat' split
  all_goals simp_all
theorem w_i4 (c : Int32) : v_i4 c = true ↔ w_rk c = 4 := by
  unfold v_i4 w_rk f_X8_rank
  repeat' split
  all_goals try simp_all
  all_goals (rename_i hx; first | (rcases hx with q | q | q <;> subst q <;> decide) | (rcases hx with q | q <;> subst q <;> decide))
theorem w_i3 (c : Int32) : v_i3 c = true ↔ w_rk c = 3 := by
  unfold v_i3 w_rk f_X8_rank
  repeat' split
  all_goals try simp_all
  all_goals (rename_i hx; first | (rcases hx with q | q | q <;> subst q <;> decide) | (rcases hx with q | q <;> subst q <;> decide))
theorem w_i2 (c : Int32) : v_i2 c = true ↔ w_rk c = 2 := by
  unfold v_i2 w_rk f_X8_rank
  repeat' split
  all_goals simp_all
theorem w_i1 (c : Int32) : v_i1 c = true ↔ w_rk c = 1 := by
  unfold v_i1 w_rk f_X8_rank
  repeat' split
  all_goals try simp_all
  all_goals (rename_i hx; first | (rcases hx with q | q | q <;> subst q <;> decide) | (rcases hx with q | q <;> subst q <;> decide))
/-- no more than once -/
theorem w_K3 {n l T d : Nat} {t : Nat → Nat} {g : Nat → Int64} {P : Nat → Nat → v_R} (hn : 200 < n) (hs : w_K n l T t g (v_p4 T t P d) 4 d) (hG : v_G T (v_p4 T t P d)) : w_K n l T t g (v_p3 T t P d) 3 d := by
  intro p σ ν u M Q h hbn htop hu hX hC
  have hpT : p ≤ T := h.2.2.2.2.2.2.2.2.1
  unfold v_p3 at hX hC
  refine hs p σ ν u M Q h hbn (w_top_mono htop (by omega)) hu (fun φ e => ?_) (fun p' S v p2 σ2 ν2 u2 M2 e hM2 hS2 hlt2 hb2 hwd2 hF2 hu2 => ?_)
  · rw [e] at hX
    exact hX φ rfl
  have g2 := (hG _ _ _ _ hpT e).2.1
  have ec := w_cS hS2
  have hp2T : p2 ≤ T := hM2.2.2.2.2.2.2.2.2.1
  have hsb := j_S_b t hp2T
  rw [e] at hX hC
  replace hX : ∀ φ, (if v_i3 (v_c T t p') = true then (match v_p4 T t P d (j_S T t p' + 1) with
      | .inl φ => (.inl φ : v_R)
      | .inr (p2, S', v') => .inr (p2, S ++ (S' ++ [(v_c T t p', 0)]), fun g => v_jn (v_c T t p') (v g) (v' g))) else .inr (j_S T t p', S, v)) = .inl φ → ∀ a : Int32 × m_M, a.1 = 0 → a.2.1 172 38 = φ → Q a := hX
  replace hC : ∀ p1 S1 v1 p2 σ' ν' u' M', (if v_i3 (v_c T t p') = true then (match v_p4 T t P d (j_S T t p' + 1) with
      | .inl φ => (.inl φ : v_R)
      | .inr (p2, S', v') => .inr (p2, S ++ (S' ++ [(v_c T t p', 0)]), fun g => v_jn (v_c T t p') (v g) (v' g))) else .inr (j_S T t p', S, v)) = .inr (p1, S1, v1) → w_S l T t g p2 σ' ν' M' → j_S T t p2 = j_S T t p1 → p < p2 → w_bn σ' + 1 = ν'.length → w_wd 3 σ' ν' = (σ, v1 g :: ν) → w_F 3 (v_c T t p2) σ' ν' → u + p ≤ u' + p2 → q_T (f_X8_reads_b26 n u' (nI d) 0 1 M') Q := hC
  by_cases c : v_i3 (v_c T t p') = true
  · rw [if_pos c] at hX hC
    have hop := v_o3 _ c
    have hrk := (w_i3 _).mp c
    rw [← ec] at hop hrk
    have hlt := v_cne hp2T (t := t) (fun q => by rw [q] at hop; rcases hop with w | w | w | w | w | w | w | w | w <;> exact absurd w (by decide))
    obtain ⟨r1, r2, r3, r4⟩ := w_rk_o hop
    refine w_put (L := 4) (d := d) (σ := σ) (ν := v g :: ν) hn hM2 hb2 hop (by omega) (Or.inl ⟨hrk, rfl⟩) hwd2 (fun _ => htop) (by omega) (fun u1 M1 hu1 h1 => ?_)
    refine hs (j_S T t p2 + 1) (v_c T t p2 :: σ) (v g :: ν) u1 M1 Q h1 (by rw [w_bn, if_neg r4]; show w_bn σ + 1 = ν.length + 1; omega) (Or.inr ⟨r4, by omega⟩) (by omega) (fun φ e3 => ?_) (fun p3 S3 v3 p4 σ3 ν3 u3 M3 e3 hM3 hS3 hlt3 hb3 hwd3 hF3 hu3 => ?_)
    · rw [hS2] at e3
      rw [e3] at hX
      exact hX φ rfl
    · rw [hS2] at e3
      rw [e3] at hC
      have hww := w_wd_wd (show 3 ≤ 4 by omega) σ3 ν3 hb3
      have hnew : w_wd 3 σ3 ν3 = (σ, v_jn (v_c T t p') (v g) (v3 g) :: ν) := by
        rw [← hww, hwd3]
        show w_wd 3 (v_c T t p2 :: σ) (v3 g :: v g :: ν) = _
        rw [w_wd, if_neg r4, if_neg (by omega)]
        show w_wd 3 σ (v_jn (v_c T t p2) (v g) (v3 g) :: ν) = _
        rw [w_wd_top htop, ec]
      refine hC p3 _ _ p4 σ3 ν3 u3 M3 rfl hM3 hS3 (by omega) hb3 hnew ?_ (by omega)
      rcases hF3 with q | ⟨q, _⟩
      · by_cases w : w_rk (v_c T t p4) = 3
        · exact Or.inr ⟨by omega, w, _, _, congrArg Prod.fst hwd3, hop, hrk⟩
        · exact Or.inl (by omega)
      · omega
  · rw [if_neg c] at hX hC
    have hnr : w_rk (v_c T t p2) ≠ 3 := fun q => c ((w_i3 _).mpr (by rw [← ec]; exact q))
    have hww := w_wd_wd (show 3 ≤ 4 by omega) σ2 ν2 hb2
    have hnew : w_wd 3 σ2 ν2 = (σ, v g :: ν) := by
      rw [← hww, hwd2]
      exact w_wd_top htop
    refine hC (j_S T t p') S v p2 σ2 ν2 u2 M2 rfl hM2 ?_ hlt2 hb2 hnew ?_ hu2
    · rw [hS2]
      exact (j_S_id t g2).symm
    · rcases hF2 with q | ⟨q, _⟩
      · exact Or.inl (by omega)
      · omega
theorem w_val1 {n l T : Nat} {t : Nat → Nat} {g : Nat → Int64} (hn : 200 < n) : ∀ f d, d + f = 12 → d ≤ 8 → w_K n l T t g (v_pv T t f d) 1 d := by
  intro f
  induction f with
  | zero =>
    intro d h1 h2
    omega
  | succ f ih =>
    intro d h1 h2
    have hG := v_Gv (T := T) (t := t) f (d + 1)
    have h6 := w_K6 (n := n) (l := l) (g := g) (P := v_pv T t f) hn h2 (fun q => ih (d + 1) (by omega) (by omega)) hG
    have h5 : w_K n l T t g (v_p5 T t (v_pv T t f) d) 5 d := w_lv hn (by omega) w_i5 v_o5 h6 (v_G6 hG)
    have h4 : w_K n l T t g (v_p4 T t (v_pv T t f) d) 4 d := w_lv hn (by omega) w_i4 v_o4 h5 (v_G5 hG)
    have h3 := w_K3 hn h4 (v_G4 hG)
    have h2' : w_K n l T t g (v_p2 T t (v_pv T t f) d) 2 d := w_lv hn (by omega) w_i2 v_o2 h3 (v_G3 hG)
    exact w_lv (L := 1) hn (by omega) w_i1 v_o1 h2' (v_G2 hG)
