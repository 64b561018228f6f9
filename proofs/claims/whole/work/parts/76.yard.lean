/-! LAWS: the reference reads -/
theorem w_rkg (c : Int32) : f_X8_rank c = nI (w_rk c) ∧ w_rk c ≤ 5 := by
  unfold w_rk f_X8_rank
  repeat' split
  all_goals decide
def w_F (L : Nat) (c : Int32) (σ : List Int32) (ν : List Int64) : Prop := w_rk c < L ∨ (L ≤ 3 ∧ w_rk c = 3 ∧ ∃ o σ4, (w_wd 4 σ ν).1 = o :: σ4 ∧ v_op o ∧ w_rk o = 3)
def w_K (n l T : Nat) (t : Nat → Nat) (g : Nat → Int64) (P : Nat → v_R) (L d : Nat) : Prop := ∀ (p : Nat) (σ : List Int32) (ν : List Int64) (u : Nat) (M : m_M) (Q : Int32 × m_M → Prop), w_S l T t g p σ ν M → w_bn σ = ν.length → w_top L σ → T + 2 < u + p → (∀ φ, P p = .inl φ → ∀ a : Int32 × m_M, a.1 = 0 → a.2.1 172 38 = φ → Q a) → (∀ p' S v p2 σ' ν' u' M', P p = .inr (p', S, v) → w_S l T t g p2 σ' ν' M' → j_S T t p2 = j_S T t p' → p < p2 → w_bn σ' + 1 = ν'.length → w_wd L σ' ν' = (σ, v g :: ν) → w_F L (v_c T t p2) σ' ν' → u + p ≤ u' + p2 → q_T (f_X8_reads_b26 n u' (nI d) 0 1 M') Q) → q_T (f_X8_reads_b26 n u (nI d) 1 1 M) Q
theorem w_flt {n u : Nat} {x1 x2 φ : Int32} {M : m_M} {Q : Int32 × m_M → Prop} (hu : 0 < u) (h : M.1 172 38 = φ) (hφ : φ ≠ -1) (hQ : ∀ a : Int32 × m_M, a.1 = 0 → a.2.1 172 38 = φ → Q a) : q_T (f_X8_reads_b26 n u x1 x2 1 M) Q := by
  obtain ⟨u, rfl⟩ : ∃ v, u = v + 1 := ⟨u - 1, by omega⟩
  rw [f_X8_reads_b26, h]
  refine q_if (by decide) (q_if hφ ?_)
  unfold f_X8_reads_b481 f_X8_reads_b500
  rw [h]
  refine q_if hφ (q_bd ?_)
  have e : (m_sL M 172 44 0).1 172 38 = φ := h
  rw [e]
  exact q_if hφ (q_some (hQ _ rfl e))
theorem w_f38 {n u q c : Nat} {x1 x2 y : Int32} {M : m_M} {Q : Int32 × m_M → Prop} (hu : 0 < u) (hq : q ≤ 50) (hc : c < 10) (hy : y = nI (10 * q + c)) (hQ : ∀ a : Int32 × m_M, a.1 = 0 → a.2.1 172 38 = nI (10 * q + c) → Q a) : q_T (f_X8_reads_b26 n u x1 x2 1 (m_sI M 172 38 y)) Q := by
  subst hy
  exact w_flt hu (by rw [q_r, if_pos ⟨rfl, rfl⟩]) (q_m1 (by omega)) hQ
/-- not to be followed so -/
theorem w_bad {n l T p d u : Nat} {t : Nat → Nat} {g : Nat → Int64} {σ : List Int32} {ν : List Int64} {M : m_M} {Q : Int32 × m_M → Prop} (hn : 200 < n) (h : w_S l T t g p σ ν M) (hb : w_bn σ + 1 = ν.length) (hF : w_F 1 (v_c T t p) σ ν) (h41 : d = 0 ∨ v_c T t p ≠ 41) (hd : d < 20) (hm : d ≠ 0 ∨ v_c T t p ≠ -1) (hu : 1 < u) (hQ : ∀ a : Int32 × m_M, a.1 = 0 → a.2.1 172 38 = nI (10 * j_S T t p + 1) → Q a) : q_T (f_X8_reads_b26 n u (nI d) 0 1 M) Q := by
  obtain ⟨u, rfl⟩ : ∃ v, u = v + 1 := ⟨u - 1, by omega⟩
  have hpT : p ≤ T := h.2.2.2.2.2.2.2.2.1
  have hT : T ≤ 50 := h.2.2.2.2.2.2.2.2.2.1
  have hs := (j_S_b t hpT).2.1
  rw [f_X8_reads_b26, h.2.2.1]
  refine q_if (by decide) (q_it rfl (q_o2 (q_mono (w_ahead (by omega) h) (fun a ha => q_it rfl ?_))))
  obtain ⟨a1, a2⟩ := ha
  rw [a1]
  have e37 : ∀ M2 : m_M, M2.1 172 37 = nI (j_S T t p) → (10 : Int32) * M2.1 172 37 + 1 = nI (10 * j_S T t p + 1) := fun M2 e => by rw [e, q_x10, q_up]
  have b312 : q_T (f_X8_reads_b312 n (f_X8_reads_b26 n u) (nI d) 0 1 (v_c T t p) a.2) Q := by
    obtain ⟨r1, r2⟩ := w_rkg (v_c T t p)
    unfold f_X8_reads_b312
    have b465 : q_T (f_X8_reads_b465 n (f_X8_reads_b26 n u) (nI d) 0 1 a.2) Q := by
      unfold f_X8_reads_b465
      exact q_bd (w_f38 (by omega) (by omega) (by omega) (e37 a.2 a2.2.1) hQ)
    refine q_bd ?_
    rw [r1]
    rcases hF with hF | ⟨_, hF, o, σ4, hF2, hF3, hF4⟩
    · refine q_it ((q_le (b := 0) (by omega) (by decide)).mpr (by omega)) (q_ite (fun c => q_if (fun q => ?_) b465) (fun _ => b465))
      rcases hm with w | w
      · exact w ((nI_eq (b := 0) (by omega) (by decide)).mp q)
      · exact w c
    · rw [hF]
      refine q_if (by decide) (q_bd (q_it rfl ?_))
      unfold f_X8_reads_b339
      refine q_ob (q_mono (w_down (L := 4) (by omega) (by omega) hb a2) (fun M9 h9 => q_bd ?_))
      rw [r1, hF]
      have h9' : w_S l T t g (j_S T t p) (o :: σ4) (w_wd 4 σ ν).2 M9 := by rw [← hF2]; exact h9
      have h4 : M9.1 172 42 = nI (σ4.length + 1) := h9'.2.2.2.2.1
      have hl : σ4.length + 1 ≤ j_S T t p := h9'.2.2.2.2.2.2.2.2.2.2.2.2.1
      have hc : M9.1 193 σ4.length = o := h9'.2.2.2.2.2.1.1
      obtain ⟨k1, k2, k3, k4⟩ := w_rk_o hF3
      rw [h4, nI_pred]
      refine q_it rfl (q_if (fun q => absurd ((q_le (b := 0) (by omega) (by decide)).mp q) (by omega)) (q_gd (q_in (by omega) (by decide)) ?_))
      rw [q_cl (by omega), hc]
      refine q_if k4 (q_bd ?_)
      rw [k1, hF4]
      exact q_it rfl (q_bd (w_f38 (by omega) (by omega) (by omega) (e37 M9 h9'.2.1) hQ))
  refine q_ite (fun c => q_it ?_ b312) (fun _ => b312)
  rcases h41 with q | q
  · rw [q]
    decide
  · exact absurd c q
