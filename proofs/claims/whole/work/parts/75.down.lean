/-! LAWS: the reference works down, looks ahead -/
theorem w_d0 {n l T p L : Nat} {t : Nat → Nat} {g : Nat → Int64} (hL : L < 7) : ∀ (σ : List Int32) (ν : List Int64) (u : Nat) (M : m_M), σ.length < u → w_bn σ + 1 = ν.length → w_S l T t g p σ ν M → q_T (f_X8_workDown_b0 n (nI L) u M) (w_S l T t g p (w_wd L σ ν).1 (w_wd L σ ν).2)
  | [], ν, u, M, hu, hb, h => by
    obtain ⟨u, rfl⟩ : ∃ v, u = v + 1 := ⟨u - 1, by omega⟩
    have h4 : M.1 172 42 = 0 := h.2.2.2.2.1
    rw [f_X8_workDown_b0, h4]
    exact q_it (by decide) (q_some h)
  | o :: σ, ν, u, M, hu, hb, h => by
    obtain ⟨u, rfl⟩ : ∃ v, u = v + 1 := ⟨u - 1, by omega⟩
    have h4 : M.1 172 42 = nI (σ.length + 1) := h.2.2.2.2.1
    have hl : σ.length + 1 ≤ p := h.2.2.2.2.2.2.2.2.2.2.2.2.1
    have hpT : p ≤ T := h.2.2.2.2.2.2.2.2.1
    have hT : T ≤ 50 := h.2.2.2.2.2.2.2.2.2.1
    have ho : v_op o ∨ o = 1000 ∨ o = 1001 ∨ o = 1002 := h.2.2.2.2.2.2.2.2.2.2.2.2.2.1
    have hc : M.1 193 σ.length = o := h.2.2.2.2.2.1.1
    have hu' : σ.length + 1 < u + 1 := hu
    rw [f_X8_workDown_b0, h4, nI_pred]
    refine q_if (fun q => absurd ((q_le (b := 0) (by omega) (by decide)).mp q) (by omega)) (q_gd (q_in (by omega) (by decide)) ?_)
    rw [q_cl (by omega), hc]
    by_cases c : (1000 : Int32) ≤ o
    · have e : w_wd L (o :: σ) ν = (o :: σ, ν) := by rw [w_wd, if_pos c]
      rw [e]
      exact q_it c (q_some h)
    · have hop : v_op o := by
        rcases ho with q | q | q | q
        · exact q
        · rw [q] at c; exact absurd (by decide) c
        · rw [q] at c; exact absurd (by decide) c
        · rw [q] at c; exact absurd (by decide) c
      obtain ⟨r1, r2, r3, r4⟩ := w_rk_o hop
      refine q_if c (q_bd ?_)
      rw [r1]
      by_cases c2 : w_rk o < L
      · have e : w_wd L (o :: σ) ν = (o :: σ, ν) := by rw [w_wd, if_neg c, if_pos c2]
        rw [e]
        exact q_it ((q_lt (by omega) (by omega)).mpr c2) (q_some h)
      · refine q_if (fun q => c2 ((q_lt (by omega) (by omega)).mp q)) ?_
        rw [w_bn, if_neg c] at hb
        match ν, hb, h with
        | [], hb, _ => exact absurd hb (by simp)
        | [_], hb, _ => exact absurd hb (by simp)
        | b :: a :: ν, hb, h =>
          have e : w_wd L (o :: σ) (b :: a :: ν) = w_wd L σ (v_jn o a b :: ν) := by rw [w_wd, if_neg c, if_neg c2]; first | done | rfl
          rw [e]
          refine q_ob (q_mono (w_out hop h) (fun M2 h2 => w_d0 hL σ _ u M2 (by omega) ?_ h2))
          have hb' : w_bn σ + 1 + 1 = ν.length + 1 + 1 := hb
          show w_bn σ + 1 = ν.length + 1
          omega
theorem w_down {n l T p L : Nat} {t : Nat → Nat} {g : Nat → Int64} {σ : List Int32} {ν : List Int64} {M : m_M} (hn : 200 < n) (hL : L < 7) (hb : w_bn σ + 1 = ν.length) (h : w_S l T t g p σ ν M) : q_T (f_X8_workDown n (nI L) M) (w_S l T t g p (w_wd L σ ν).1 (w_wd L σ ν).2) := by
  have hl : σ.length ≤ p := h.2.2.2.2.2.2.2.2.2.2.2.2.1
  have hpT : p ≤ T := h.2.2.2.2.2.2.2.2.1
  have hT : T ≤ 50 := h.2.2.2.2.2.2.2.2.2.1
  have e := w_d0 (n := n) hL σ ν (n + 1) M (by omega) hb h
  rw [f_X8_workDown_b0] at e
  exact e
theorem w_wd_bn (L : Nat) : ∀ σ ν, w_bn σ + 1 = ν.length → w_bn (w_wd L σ ν).1 + 1 = (w_wd L σ ν).2.length
  | [], ν, h => h
  | o :: σ, ν, h => by
    by_cases c : (1000 : Int32) ≤ o
    · rw [w_wd, if_pos c]
      exact h
    · by_cases c2 : w_rk o < L
      · rw [w_wd, if_neg c, if_pos c2]
        exact h
      · rw [w_bn, if_neg c] at h
        match ν, h with
        | [], h => exact absurd h (by simp)
        | [_], h => exact absurd h (by simp)
        | b :: a :: ν, h =>
          rw [w_wd, if_neg c, if_neg c2]
          refine w_wd_bn L σ _ ?_
          have hb' : w_bn σ + 1 + 1 = ν.length + 1 + 1 := h
          show w_bn σ + 1 = ν.length + 1
          omega
/-- less far after farther is as far -/
theorem w_wd_wd {k L : Nat} (hk : k ≤ L) : ∀ σ ν, w_bn σ + 1 = ν.length → w_wd k (w_wd L σ ν).1 (w_wd L σ ν).2 = w_wd k σ ν
  | [], ν, _ => rfl
  | o :: σ, ν, h => by
    by_cases c : (1000 : Int32) ≤ o
    · have e : w_wd L (o :: σ) ν = (o :: σ, ν) := by rw [w_wd, if_pos c]
      rw [e]
    · by_cases c2 : w_rk o < L
      · have e : w_wd L (o :: σ) ν = (o :: σ, ν) := by rw [w_wd, if_neg c, if_pos c2]
        rw [e]
      · rw [w_bn, if_neg c] at h
        match ν, h with
        | [], h => exact absurd h (by simp)
        | [_], h => exact absurd h (by simp)
        | b :: a :: ν, h =>
          have hb' : w_bn σ + 1 + 1 = ν.length + 1 + 1 := h
          have e : w_wd L (o :: σ) (b :: a :: ν) = w_wd L σ (v_jn o a b :: ν) := by rw [w_wd, if_neg c, if_neg c2]; first | done | rfl
          have e2 : w_wd k (o :: σ) (b :: a :: ν) = w_wd k σ (v_jn o a b :: ν) := by rw [w_wd, if_neg c, if_neg (by omega)]; first | done | rfl
          rw [e, e2]
          exact w_wd_wd hk σ _ (by show w_bn σ + 1 = ν.length + 1; omega)
/-- nothing on top to work out at L -/
def w_top (L : Nat) : List Int32 → Prop
  | [] => True
  | o :: _ => o = 1000 ∨ (¬ (1000 : Int32) ≤ o ∧ w_rk o < L)
theorem w_wd_top {L : Nat} {σ : List Int32} {ν : List Int64} (h : w_top L σ) : w_wd L σ ν = (σ, ν) := by
  match σ, h with
  | [], _ => rfl
  | o :: σ, h =>
    by_cases c : (1000 : Int32) ≤ o
    · rw [w_wd, if_pos c]
    · rw [w_wd, if_neg c]
      rcases h with q | q
      · rw [q] at c
        exact absurd (by decide) c
      · rw [if_pos q.2]
theorem w_top_mono {k L : Nat} {σ : List Int32} (h : w_top k σ) (hk : k ≤ L) : w_top L σ := by
  match σ, h with
  | [], _ => trivial
  | o :: σ, h =>
    rcases h with q | q
    · exact Or.inl q
    · exact Or.inr ⟨q.1, by omega⟩
/-- what is ahead -/
theorem w_a37 {n l T p : Nat} {t : Nat → Nat} {g : Nat → Int64} {σ : List Int32} {ν : List Int64} {M : m_M} (h : w_S l T t g p σ ν M) : f_X8_ahead_b37 n M = some (if p = T then -1 else nI (t p), M) := by
  have hpT : p ≤ T := h.2.2.2.2.2.2.2.2.1
  have hT : T ≤ 50 := h.2.2.2.2.2.2.2.2.2.1
  unfold f_X8_ahead_b37
  rw [w_long h]
  show (if nI T ≤ M.1 172 37 then _ else _) = _
  rw [h.2.1]
  by_cases c : p = T
  · rw [if_pos c, if_pos ((q_le (by omega) (by omega)).mpr (by omega))]
  · rw [if_neg c, if_neg (fun q => absurd ((q_le (by omega) (by omega)).mp q) (by omega)), w_char h (by omega)]
    rfl
theorem w_a0 {n l T : Nat} {t : Nat → Nat} {g : Nat → Int64} {σ : List Int32} {ν : List Int64} : ∀ (d p u : Nat) (M : m_M), p + d = T → d < u → w_S l T t g p σ ν M → q_T (f_X8_ahead_b0 n u M) (fun a => a.1 = v_c T t p ∧ w_S l T t g (j_S T t p) σ ν a.2) := by
  intro d
  induction d with
  | zero =>
    intro p u M hp hu h
    obtain ⟨u, rfl⟩ : ∃ v, u = v + 1 := ⟨u - 1, by omega⟩
    have hT : T ≤ 50 := h.2.2.2.2.2.2.2.2.2.1
    have e : j_S T t p = p := by
      unfold j_S
      rw [show T - p = 0 by omega]
      rfl
    rw [f_X8_ahead_b0, w_long h]
    refine q_ob (q_some ?_)
    rw [h.2.1, w_a37 h]
    unfold v_c
    rw [e]
    exact q_it ((q_le (by omega) (by omega)).mpr (by omega)) (q_some ⟨rfl, h⟩)
  | succ d ih =>
    intro p u M hp hu h
    obtain ⟨u, rfl⟩ : ∃ v, u = v + 1 := ⟨u - 1, by omega⟩
    have hT : T ≤ 50 := h.2.2.2.2.2.2.2.2.2.1
    have ht : ∀ j, t j < 128 := h.2.2.2.2.2.2.2.2.2.2.1
    rw [f_X8_ahead_b0, w_long h]
    refine q_ob (q_some ?_)
    rw [h.2.1, w_a37 h]
    refine q_if (fun q => absurd ((q_le (by omega) (by omega)).mp q) (by omega)) (q_ob (q_of (w_char h (by omega)) ?_))
    rw [q_up]
    have eS : j_S T t p = if t p = 32 then j_S T t (p + 1) else p := by
      unfold j_S
      rw [show T - p = d + 1 by omega, show T - (p + 1) = d by omega, j_sk]
    by_cases c : t p = 32
    · rw [if_pos c] at eS
      have k2 := ih (p + 1) u _ (by omega) (by omega) (w_mv h (p' := p + 1) (by omega) (by omega))
      unfold v_c at k2 ⊢
      rw [eS]
      exact q_it (by rw [c]; rfl) (q_bd k2)
    · rw [if_neg c] at eS
      unfold v_c
      rw [eS]
      exact q_if (fun q => c ((nI_eq (b := 32) (by have := ht p; omega) (by decide)).mp q)) (q_some ⟨rfl, h⟩)
theorem w_ahead {n l T p : Nat} {t : Nat → Nat} {g : Nat → Int64} {σ : List Int32} {ν : List Int64} {M : m_M} (hn : 100 < n) (h : w_S l T t g p σ ν M) : q_T (f_X8_ahead n M) (fun a => a.1 = v_c T t p ∧ w_S l T t g (j_S T t p) σ ν a.2) := by
  have hpT : p ≤ T := h.2.2.2.2.2.2.2.2.1
  have hT : T ≤ 50 := h.2.2.2.2.2.2.2.2.2.1
  have e := w_a0 (n := n) (T - p) p (n + 1) M (by omega) (by omega) h
  rw [f_X8_ahead_b0] at e
  exact e
/-- digits -/
theorem w_d7 {n l T s : Nat} {t : Nat → Nat} {g : Nat → Int64} {σ : List Int32} {ν : List Int64} : ∀ (d i u : Nat) (M : m_M), s + i + d = T → d < u → i ≤ 6 → w_S l T t g (s + i) σ ν M → q_T (f_X8_digits_b7 n u (nI s) (lN (v_dv t s i)) M) (fun a => (i + j_rn j_fi t d (s + i) ≤ 6 → a.1 = lN (v_dv t s (i + j_rn j_fi t d (s + i))) ∧ w_S l T t g (s + (i + j_rn j_fi t d (s + i))) σ ν a.2) ∧ (¬ i + j_rn j_fi t d (s + i) ≤ 6 → ∃ M1 p1, w_S l T t g p1 σ ν M1 ∧ a.2 = m_sI M1 172 38 (nI (10 * s + 2)))) := by
  intro d
  induction d with
  | zero =>
    intro i u M hp hu h6 h
    obtain ⟨u, rfl⟩ : ∃ v, u = v + 1 := ⟨u - 1, by omega⟩
    have hT : T ≤ 50 := h.2.2.2.2.2.2.2.2.2.1
    rw [f_X8_digits_b7, w_long h, j_rn]
    refine q_ob (q_some ?_)
    rw [h.2.1]
    exact q_it ((q_le (by omega) (by omega)).mpr (by omega)) (q_some ⟨fun _ => ⟨rfl, h⟩, fun q => absurd h6 q⟩)
  | succ d ih =>
    intro i u M hp hu h6 h
    obtain ⟨u, rfl⟩ : ∃ v, u = v + 1 := ⟨u - 1, by omega⟩
    have hT : T ≤ 50 := h.2.2.2.2.2.2.2.2.2.1
    have ht : ∀ j, t j < 128 := h.2.2.2.2.2.2.2.2.2.2.1
    have hb := ht (s + i)
    rw [f_X8_digits_b7, w_long h, j_rn]
    refine q_ob (q_some ?_)
    rw [h.2.1]
    refine q_if (fun q => absurd ((q_le (by omega) (by omega)).mp q) (by omega)) (q_ob (q_of (w_char h (by omega)) (q_bd ?_)))
    rw [j_fig (by omega)]
    by_cases c : j_fi (t (s + i)) = true
    · have c' := of_decide_eq_true c
      rw [if_pos c, c]
      refine q_if (by decide) ?_
      rw [j_sub (by omega), show s + i - s = i by omega]
      have l6 : nI i = (6 : Int32) ↔ i = 6 := nI_eq (b := 6) (by omega) (by decide)
      by_cases c6 : i = 6
      · refine q_it (l6.mpr c6) (q_bd (q_some ⟨fun q => absurd q (by omega), fun _ => ⟨M, s + i, h, ?_⟩⟩))
        rw [q_x10, show nI (10 * s) + (2 : Int32) = nI (10 * s + 2) from q_p2 _]
      · refine q_if (fun q => c6 (l6.mp q)) (q_ob (q_of (w_char h (by omega)) (q_bd (q_bd ?_))))
        rw [q_up, nI_l (by omega), show (10 : Int64) * lN (v_dv t s i) = lN (10 * v_dv t s i) from v_lmul 10 _, v_ladd, show lN (10 * v_dv t s i + t (s + i)) - (48 : Int64) = lN (10 * v_dv t s i + (t (s + i) - 48)) from by
          rw [show 10 * v_dv t s i + t (s + i) = (10 * v_dv t s i + (t (s + i) - 48)) + 48 by omega, ← v_ladd]
          exact Int64.add_sub_cancel _ _]
        have k2 := ih (i + 1) u _ (by omega) (by omega) (by omega) (w_mv h (p' := s + (i + 1)) (by omega) (by omega))
        rw [show s + (i + 1) = s + i + 1 by omega] at k2
        rw [show i + (j_rn j_fi t d (s + i + 1) + 1) = i + 1 + j_rn j_fi t d (s + i + 1) by omega]
        exact k2
    · rw [if_neg c, Bool.eq_false_iff.mpr c, Nat.add_zero]
      exact q_it rfl (q_some ⟨fun _ => ⟨rfl, h⟩, fun q => absurd h6 q⟩)
