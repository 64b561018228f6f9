/-! LAWS: the reference reads an operand, a unit -/
theorem w_b2F {n : Nat} {x0 : Int64} {φ : Int32} : ∀ (s hh u : Nat) (x : Int64) (M : m_M), s < u → s ≤ 60 → hh ≤ 60 → M.1 172 42 = nI s → M.1 172 40 = nI hh → M.1 172 38 = φ → q_T (f_X8_stands_b2 n x0 u x M) (fun a => a.1 172 38 = φ) := by
  intro s
  have b73 : ∀ (hh : Nat) (x : Int64) (M : m_M), hh ≤ 60 → M.1 172 40 = nI hh → M.1 172 38 = φ → q_T (f_X8_stands_b73 n x0 x M) (fun a => a.1 172 38 = φ) := by
    intro hh x M h1 h2 h3
    unfold f_X8_stands_b73
    rw [h2]
    refine q_gd (q_in (by omega) (by decide)) (q_bd (q_bd (q_some ?_)))
    rw [q_r, if_neg (by omega)]
    exact h3
  induction s with
  | zero =>
    intro hh u x M hu hs hb h1 h2 h3
    obtain ⟨u, rfl⟩ : ∃ v, u = v + 1 := ⟨u - 1, by omega⟩
    rw [f_X8_stands_b2, h1]
    exact q_it (by decide) (b73 hh x M hb h2 h3)
  | succ s ih =>
    intro hh u x M hu hs hb h1 h2 h3
    obtain ⟨u, rfl⟩ : ∃ v, u = v + 1 := ⟨u - 1, by omega⟩
    rw [f_X8_stands_b2, h1, nI_pred]
    have b59 : ∀ y, q_T (f_X8_stands_b59 n x0 (f_X8_stands_b2 n x0 u) y M) (fun a => a.1 172 38 = φ) := by
      intro y
      unfold f_X8_stands_b59
      rw [h1, nI_pred]
      refine q_bd (ih hh u y _ (by omega) (by omega) hb ?_ ?_ ?_)
      · rw [q_r, if_pos ⟨rfl, rfl⟩]
      · rw [q_r, if_neg (by omega), h2]
      · rw [q_r, if_neg (by omega), h3]
    exact q_if (fun q => absurd ((q_le (b := 0) (by omega) (by decide)).mp q) (by omega)) (q_gd (q_in (by omega) (by decide)) (q_ite (fun _ => b73 hh x M hb h2 h3) (fun _ => q_ite (fun _ => q_ite (fun _ => b59 1) (fun _ => b59 0)) (fun _ => b59 (-x)))))
theorem w_popv {l T p : Nat} {t : Nat → Nat} {g : Nat → Int64} {x : Int64} {σ : List Int32} {ν : List Int64} {M : m_M} (h : w_S l T t g p σ (x :: ν) M) : w_S l T t g p σ ν (m_sI M 172 40 (nI ν.length)) := by
  obtain ⟨⟨a0, a1, a2, a3⟩, b1, b2, b3, b4, b5, b6, b7, b8, b9, b10, b11, b12, b13⟩ := h
  have b11' : ν.length + 1 ≤ p := b11
  exact ⟨⟨a0, by rw [q_r, if_neg (by omega), a1], by rw [q_r, if_neg (by omega), a2], fun j hj => by rw [q_r, if_neg (by omega), a3 j hj]⟩, by rw [q_r, if_neg (by omega), b1], by rw [q_r, if_neg (by omega), b2], by rw [q_r, if_pos ⟨rfl, rfl⟩], by rw [q_r, if_neg (by omega), b4], w_st_cg σ (fun j _ => by rw [q_r, if_neg (by omega)]) b5, b6.2, b7, b8, b9, b10, by omega, b12, b13⟩
/-- an operand's CPS: what waits on top is done -/
def w_Q1 (n l T : Nat) (t : Nat → Nat) (g : Nat → Int64) (P : Nat → v_R) (d : Nat) : Prop := ∀ (p : Nat) (σ : List Int32) (ν : List Int64) (u : Nat) (M : m_M) (Q : Int32 × m_M → Prop), w_S l T t g p σ ν M → w_bn σ = ν.length → T + 2 < u + p → v_c T t p ≠ 33 → v_c T t p ≠ 45 → (∀ φ, P p = .inl φ → ∀ a : Int32 × m_M, a.1 = 0 → a.2.1 172 38 = φ → Q a) → (∀ p' S v u' M', P p = .inr (p', S, v) → w_S l T t g p' (w_un σ (v g)).1 ((w_un σ (v g)).2 :: ν) M' → u + p ≤ u' + p' → p < p' → q_T (f_X8_reads_b26 n u' (nI d) 0 1 M') Q) → q_T (f_X8_reads_b26 n u (nI d) 1 1 M) Q
theorem w_opd {n l T d : Nat} {t : Nat → Nat} {g : Nat → Int64} {P : Nat → Nat → v_R} (hn : 200 < n) (hd : d ≤ 8) (hrv : d < 8 → w_K n l T t g (P (d + 1)) 1 (d + 1)) (hG : v_G T (P (d + 1))) : w_Q1 n l T t g (v_opd T t P d) d := by
  intro p σ ν u M Q h hbn hu n33 n45 hX hC
  have hpT : p ≤ T := h.2.2.2.2.2.2.2.2.1
  have hT : T ≤ 50 := h.2.2.2.2.2.2.2.2.2.1
  have ht : ∀ j, t j < 128 := h.2.2.2.2.2.2.2.2.2.2.1
  have hν : ν.length ≤ p := h.2.2.2.2.2.2.2.2.2.2.2.1
  have hσ : σ.length ≤ p := h.2.2.2.2.2.2.2.2.2.2.2.2.1
  obtain ⟨s1, s2, s3⟩ := j_S_b t hpT
  obtain ⟨u, rfl⟩ : ∃ v, u = v + 1 := ⟨u - 1, by omega⟩
  rw [f_X8_reads_b26, h.2.2.1]
  refine q_if (by decide) (q_it rfl (q_o2 (q_mono (w_ahead (by omega) h) (fun a ha => q_if (by decide) ?_))))
  obtain ⟨a1, a2⟩ := ha
  rw [a1]
  have e37 : ∀ c : Nat, (10 : Int32) * a.2.1 172 37 + nI c = nI (10 * j_S T t p + c) := fun c => by rw [a2.2.1, q_x10, q_add]
  unfold v_opd at hX hC
  by_cases c0 : j_S T t p = T
  · rw [if_pos c0] at hX hC
    have e : v_c T t p = -1 := if_pos c0
    rw [e]
    refine q_bd (q_it (by decide) (q_bd (q_it rfl (q_if (by decide) (q_if (by decide) (q_if (by decide) ?_))))))
    unfold f_X8_reads_b220
    exact q_if (by decide) (q_bd (w_f38 (by omega) (by omega) (by omega) (e37 1) (hX _ rfl)))
  have hb := ht (j_S T t p)
  have e : v_c T t p = nI (t (j_S T t p)) := if_neg c0
  rw [if_neg c0] at hX hC
  rw [e, j_fig (by omega)]
  refine q_bd ?_
  by_cases c1 : j_fi (t (j_S T t p)) = true
  · rw [if_pos c1] at hX hC
    rw [c1]
    refine q_if (by decide) ?_
    unfold f_X8_digits
    rw [a2.2.1]
    have k7 := w_d7 (n := n) (s := j_S T t p) (T - j_S T t p) 0 n a.2 (by omega) (by omega) (by omega) a2
    rw [Nat.zero_add, Nat.add_zero] at k7
    have eD : j_rn j_fi t (T - j_S T t p) (j_S T t p) = j_D T t p := rfl
    have hD : 0 < j_D T t p := (j_rn0 (f := j_fi) (t := t) (d := T - j_S T t p) (p := j_S T t p) (by omega)).mp c1
    rw [eD] at k7
    refine q_o2 (q_mono k7 (fun z hz => ?_))
    by_cases c2 : j_D T t p ≤ 6
    · rw [if_pos c2] at hX hC
      obtain ⟨z1, z2⟩ := hz.1 c2
      rw [z1]
      have hpp : j_S T t p + j_D T t p ≤ T := z2.2.2.2.2.2.2.2.2.1
      unfold f_X8_stands
      refine q_ob (q_mono (w_b2 σ _ n z.2 (by omega) z2 (by omega)) (fun M2 h2 => ?_))
      exact hC _ _ _ u M2 rfl h2 (by omega) (by omega)
    · rw [if_neg c2] at hX hC
      obtain ⟨M1, p1, m1, m2⟩ := hz.2 c2
      unfold f_X8_stands
      rw [m2]
      have hl1 : σ.length ≤ p1 := m1.2.2.2.2.2.2.2.2.2.2.2.2.1
      have hl2 : ν.length ≤ p1 := m1.2.2.2.2.2.2.2.2.2.2.2.1
      have hl3 : p1 ≤ T := m1.2.2.2.2.2.2.2.2.1
      refine q_ob (q_mono (w_b2F (φ := nI (10 * j_S T t p + 2)) σ.length ν.length n z.1 _ (by omega) (by omega) (by omega) ?_ ?_ ?_) (fun M2 h2 => w_flt (by omega) h2 (q_m1 (by omega)) (hX _ rfl)))
      · rw [q_r, if_neg (by omega)]
        exact m1.2.2.2.2.1
      · rw [q_r, if_neg (by omega)]
        exact m1.2.2.2.1
      · rw [q_r, if_pos ⟨rfl, rfl⟩]
  rw [if_neg c1] at hX hC
  rw [Bool.eq_false_iff.mpr c1]
  refine q_it rfl (q_bd ?_)
  rw [v_nmx hb]
  by_cases c2 : t (j_S T t p) = 40
  · rw [if_pos c2] at hX hC
    have en : ¬ v_nm (t (j_S T t p)) < 5 := by rw [c2]; decide
    rw [if_neg en, c2]
    refine q_it rfl (q_if (by decide) (q_if (by decide) (q_it rfl ?_)))
    by_cases c3 : d < 8
    · rw [if_pos c3] at hX hC
      refine q_if (fun q => absurd ((q_le (a := 8) (by decide) (by omega)).mp q) (by omega)) (q_bd ?_)
      rw [a2.2.1, q_up]
      have h2 := w_mv a2 (p' := j_S T t p + 1) (by omega) (by omega)
      have h42 : (m_sI a.2 172 37 (nI (j_S T t p + 1))).1 172 42 = nI σ.length := h2.2.2.2.2.1
      rw [h42]
      refine q_gd (q_in (by omega) (by decide)) (q_bd (q_bd ?_))
      rw [q_cl (by omega)]
      have h42' : (m_sI (m_sI a.2 172 37 (nI (j_S T t p + 1))) 193 σ.length 1000).1 172 42 = nI σ.length := by rw [q_r, if_neg (by omega), h42]
      rw [h42', q_up, q_up]
      refine hrv c3 (j_S T t p + 1) (1000 :: σ) ν u _ Q (w_push h2 (Or.inr (Or.inl rfl)) (by omega)) (by rw [w_bn, if_pos (by decide)]; exact hbn) (Or.inl rfl) (by omega) (fun φ er => ?_) (fun p' S v p2 σ' ν' u' M' er hS' eS hpp hb' hwd hF hu' => ?_)
      · rw [er] at hX
        exact hX φ rfl
      · rw [er] at hX hC
        obtain ⟨g1, g2, g3, g4⟩ := hG _ _ _ _ (by omega) er
        have hp2T : p2 ≤ T := hS'.2.2.2.2.2.2.2.2.1
        obtain ⟨r1, r2, r3⟩ := j_S_b t hp2T
        have r1' := (j_S_b t g2).1
        have ec : v_c T t p2 = v_c T t p' := by
          unfold v_c
          rw [eS]
        by_cases c4 : v_c T t p' = 41
        · have e4 : (if v_c T t p' = 41 then (Sum.inr (j_S T t p' + 1, S, v) : v_R) else .inl (nI (10 * j_S T t p' + 1))) = .inr (j_S T t p' + 1, S, v) := if_pos c4
          have hne := (((v_cm ht g2).2 41 (by omega)).mp c4).1
          obtain ⟨u', rfl⟩ : ∃ w, u' = w + 1 := ⟨u' - 1, by omega⟩
          rw [f_X8_reads_b26, hS'.2.2.1]
          refine q_if (by decide) (q_it rfl (q_o2 (q_mono (w_ahead (by omega) hS') (fun b hb2 => q_it rfl ?_))))
          obtain ⟨b1, b2⟩ := hb2
          rw [b1, ec]
          refine q_it c4 (q_if (fun q => absurd ((q_le (b := 0) (by omega) (by decide)).mp q) (by omega)) (q_bd ?_))
          rw [b2.2.1, q_up]
          have hm := w_mv b2 (p' := j_S T t p2 + 1) (by omega) (by omega)
          refine q_ob (q_mono (w_down (L := 1) (by omega) (by omega) hb' hm) (fun M3 h3 => q_bd (q_bd ?_)))
          rw [hwd] at h3
          have k42 : M3.1 172 42 - (1 : Int32) = nI σ.length := by
            have : M3.1 172 42 = nI (σ.length + 1) := h3.2.2.2.2.1
            rw [this, nI_pred]
          rw [k42]
          have h4 := w_pop h3
          have k40 : (m_sI M3 172 42 (nI σ.length)).1 172 40 - (1 : Int32) = nI ν.length := by
            have : (m_sI M3 172 42 (nI σ.length)).1 172 40 = nI (ν.length + 1) := h4.2.2.2.1
            rw [this, nI_pred]
          rw [k40]
          have hv : (m_sI M3 172 42 (nI σ.length)).2 192 ν.length = v g := h4.2.2.2.2.2.2.1.1
          have h5 := w_popv h4
          generalize m_sI M3 172 42 (nI σ.length) = M4 at *
          have k5 : (m_sI M4 172 40 (nI ν.length)).1 172 40 = nI ν.length := h5.2.2.2.1
          rw [k5]
          refine q_gd (q_in (by omega) (by decide)) ?_
          rw [q_cl (by omega)]
          have hv' : (m_sI M4 172 40 (nI ν.length)).2 192 ν.length = v g := hv
          rw [hv', q_dec]
          unfold f_X8_stands
          refine q_ob (q_mono (w_b2 σ _ n _ (by omega) h5 (by omega)) (fun M5 h6 => ?_))
          rw [eS] at h6 hm
          have hmT : j_S T t p' + 1 ≤ T := hm.2.2.2.2.2.2.2.2.1
          exact hC _ _ _ u' M5 e4 h6 (by omega) (by omega)
        · have e4 : (if v_c T t p' = 41 then (Sum.inr (j_S T t p' + 1, S, v) : v_R) else .inl (nI (10 * j_S T t p' + 1))) = .inl (nI (10 * j_S T t p' + 1)) := if_neg c4
          refine w_bad (by omega) hS' hb' hF (Or.inr (by rw [ec]; exact c4)) (by omega) (Or.inl (by omega)) (by omega) ?_
          rw [eS]
          exact hX _ e4
    · rw [if_neg c3] at hX hC
      refine q_it ((q_le (a := 8) (by decide) (by omega)).mpr (by omega)) ?_
      unfold f_X8_reads_b220
      exact q_it rfl (q_bd (w_f38 (by omega) (by omega) (by omega) (e37 3) (hX _ rfl)))
  rw [if_neg c2] at hX hC
  have hop : v_c T t p = nI (t (j_S T t p)) := e
  by_cases c3 : v_nm (t (j_S T t p)) < 5
  · rw [if_pos c3] at hX hC
    rw [if_pos c3]
    refine q_if (q_m1 (by omega)) (q_bd (q_bd ?_))
    rw [a2.2.1, q_up]
    have h2 := w_mv a2 (p' := j_S T t p + 1) (by omega) (by omega)
    refine q_gd (q_in c3 (by decide)) ?_
    rw [q_cl (by omega)]
    have eg : (m_sI a.2 172 37 (nI (j_S T t p + 1))).2 194 (v_nm (t (j_S T t p))) = g (v_nm (t (j_S T t p))) := h2.2.2.2.2.2.2.2.1 _ c3
    rw [eg]
    unfold f_X8_stands
    refine q_ob (q_mono (w_b2 σ _ n _ (by omega) h2 (by omega)) (fun M2 h3 => ?_))
    exact hC _ _ _ u M2 rfl h3 (by omega) (by omega)
  · rw [if_neg c3] at hX hC
    rw [if_neg c3]
    have l33 : nI (t (j_S T t p)) ≠ (33 : Int32) := by rw [← hop]; exact n33
    have l45 : nI (t (j_S T t p)) ≠ (45 : Int32) := by rw [← hop]; exact n45
    have l40 : ¬ nI (t (j_S T t p)) = (40 : Int32) := fun q => c2 ((nI_eq (b := 40) (by omega) (by decide)).mp q)
    refine q_it rfl (q_if l33 (q_if l45 (q_if l40 ?_)))
    unfold f_X8_reads_b220
    exact q_if l40 (q_bd (w_f38 (by omega) (by omega) (by omega) (e37 1) (hX _ rfl)))
/-- a unit -/
theorem w_unit {n l T d : Nat} {t : Nat → Nat} {g : Nat → Int64} {P : Nat → Nat → v_R} (hn : 200 < n) (hd : d ≤ 8) (hrv : d < 8 → w_K n l T t g (P (d + 1)) 1 (d + 1)) (hG : v_G T (P (d + 1))) : ∀ (f p : Nat) (σ : List Int32) (ν : List Int64) (u : Nat) (M : m_M) (Q : Int32 × m_M → Prop), T < f + p → w_S l T t g p σ ν M → w_bn σ = ν.length → T + 2 < u + p → (∀ φ, v_unit T t P d f p = .inl φ → ∀ a : Int32 × m_M, a.1 = 0 → a.2.1 172 38 = φ → Q a) → (∀ p' S v u' M', v_unit T t P d f p = .inr (p', S, v) → w_S l T t g p' (w_un σ (v g)).1 ((w_un σ (v g)).2 :: ν) M' → u + p ≤ u' + p' → p < p' → q_T (f_X8_reads_b26 n u' (nI d) 0 1 M') Q) → q_T (f_X8_reads_b26 n u (nI d) 1 1 M) Q := by
  intro f
  induction f with
  | zero =>
    intro p σ ν u M Q hf h hbn hu hX hC
    have hpT : p ≤ T := h.2.2.2.2.2.2.2.2.1
    omega
  | succ f ih =>
    intro p σ ν u M Q hf h hbn hu hX hC
    have hpT : p ≤ T := h.2.2.2.2.2.2.2.2.1
    have hT : T ≤ 50 := h.2.2.2.2.2.2.2.2.2.1
    have ht : ∀ j, t j < 128 := h.2.2.2.2.2.2.2.2.2.2.1
    have hσ : σ.length ≤ p := h.2.2.2.2.2.2.2.2.2.2.2.2.1
    obtain ⟨s1, s2, s3⟩ := j_S_b t hpT
    rw [v_unit] at hX hC
    by_cases c : v_c T t p = 33 ∨ v_c T t p = 45
    · rw [if_pos c] at hX hC
      have hlt := v_cne hpT (by rcases c with q | q <;> rw [q] <;> decide)
      obtain ⟨u, rfl⟩ : ∃ v, u = v + 1 := ⟨u - 1, by omega⟩
      rw [f_X8_reads_b26, h.2.2.1]
      refine q_if (by decide) (q_it rfl (q_o2 (q_mono (w_ahead (by omega) h) (fun a ha => q_if (by decide) (q_bd ?_)))))
      obtain ⟨a1, a2⟩ := ha
      rw [a1]
      have go : ∀ o : Int32, o = (if v_c T t p = 33 then 1001 else 1002) → q_T (f_X8_reads_b155 n (f_X8_reads_b26 n u) (nI d) 1 1 ((m_sI a.2 172 37 (nI (j_S T t p + 1))).1 172 42) o (m_sI a.2 172 37 (nI (j_S T t p + 1)))) Q := by
        intro o ho
        have h2 := w_mv a2 (p' := j_S T t p + 1) (by omega) (by omega)
        have h42 : (m_sI a.2 172 37 (nI (j_S T t p + 1))).1 172 42 = nI σ.length := h2.2.2.2.2.1
        unfold f_X8_reads_b155
        rw [h42]
        refine q_gd (q_in (by omega) (by decide)) (q_bd (q_bd ?_))
        rw [q_cl (by omega)]
        have h42' : (m_sI (m_sI a.2 172 37 (nI (j_S T t p + 1))) 193 σ.length o).1 172 42 = nI σ.length := by rw [q_r, if_neg (by omega), h42]
        rw [h42', q_up]
        have ho2 : v_op o ∨ o = 1000 ∨ o = 1001 ∨ o = 1002 := by
          rw [ho]
          by_cases q : v_c T t p = 33
          · rw [if_pos q]
            exact Or.inr (Or.inr (Or.inl rfl))
          · rw [if_neg q]
            exact Or.inr (Or.inr (Or.inr rfl))
        have hge : (1000 : Int32) ≤ o := by
          rw [ho]
          by_cases q : v_c T t p = 33
          · rw [if_pos q]
            decide
          · rw [if_neg q]
            decide
        refine ih (j_S T t p + 1) (o :: σ) ν u _ Q (by omega) (w_push h2 ho2 (by omega)) (by rw [w_bn, if_pos hge]; exact hbn) (by omega) (fun φ e => ?_) (fun p' S v u' M' e hM' hu' hlt' => ?_)
        · rw [e] at hX
          exact hX φ rfl
        · rw [e] at hC
          refine hC p' _ _ u' M' rfl ?_ (by omega) (by omega)
          have eu : w_un (o :: σ) (v g) = w_un σ (if decide (v_c T t p = 33) = true then v_nt (v g) else - v g) := by
            rw [w_un, ho]
            by_cases q : v_c T t p = 33
            · rw [if_pos q, if_pos rfl, if_pos (decide_eq_true q)]
            · rw [if_neg q, if_neg (by decide), if_pos rfl, if_neg (by rw [decide_eq_false q]; decide)]
          rw [eu] at hM'
          exact hM'
      have c33 : v_c T t p = 33 → q_T (f_X8_reads_b121 n (f_X8_reads_b26 n u) (nI d) 1 1 (v_c T t p) a.2) Q := fun q => by
        unfold f_X8_reads_b121
        rw [a2.2.1, q_up]
        exact q_bd (q_it q (go 1001 (if_pos q).symm))
      have c45 : v_c T t p = 45 → q_T (f_X8_reads_b121 n (f_X8_reads_b26 n u) (nI d) 1 1 (v_c T t p) a.2) Q := fun q => by
        unfold f_X8_reads_b121
        rw [a2.2.1, q_up]
        exact q_bd (q_if (by rw [q]; decide) (go 1002 (if_neg (by rw [q]; decide)).symm))
      rcases c with q | q
      · refine q_it (by rw [q]; decide +kernel) (q_bd (q_it (by rw [q]; decide) (q_it q (c33 q))))
      · refine q_it (by rw [q]; decide +kernel) (q_bd (q_it (by rw [q]; decide) (q_if (by rw [q]; decide) (q_it q (c45 q)))))
    · rw [if_neg c] at hX hC
      exact w_opd hn hd hrv hG p σ ν u M Q h hbn hu (fun q => c (Or.inl q)) (fun q => c (Or.inr q)) hX hC
theorem w_K6 {n l T d : Nat} {t : Nat → Nat} {g : Nat → Int64} {P : Nat → Nat → v_R} (hn : 200 < n) (hd : d ≤ 8) (hrv : d < 8 → w_K n l T t g (P (d + 1)) 1 (d + 1)) (hG : v_G T (P (d + 1))) : w_K n l T t g (v_p6 T t P d) 6 d := by
  intro p σ ν u M Q h hbn htop hu hX hC
  have hpT : p ≤ T := h.2.2.2.2.2.2.2.2.1
  refine w_unit hn hd hrv hG (T + 1) p σ ν u M Q (by omega) h hbn hu hX (fun p' S v u' M' e hM' hu' hlt => ?_)
  have eu : w_un σ (v g) = (σ, v g) := by
    match σ, htop with
    | [], _ => rfl
    | o :: σ, htop =>
      rcases htop with q | q
      · rw [w_un, q, if_neg (by decide), if_neg (by decide)]
      · rw [w_un, if_neg (fun w => q.1 (by rw [w]; decide)), if_neg (fun w => q.1 (by rw [w]; decide))]
  rw [eu] at hM'
  exact hC p' S v p' σ (v g :: ν) u' M' e hM' rfl hlt (by show w_bn σ + 1 = ν.length + 1; omega) (w_wd_top htop) (Or.inl (by have := (w_rkg (v_c T t p')).2; omega)) hu'
