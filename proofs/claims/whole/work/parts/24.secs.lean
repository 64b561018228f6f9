/-! NETS: the class's addSeconds -/
def e_d (S : Nat → Nat → Int32) : Nat → Nat → Nat
  | 0, _ => 0
  | u + 1, p => if S 0 p = -1 then 0 else e_d S u (S 0 p).toNatClampNeg + 1
theorem e_d_st {S : Nat → Nat → Int32} {P : Nat} {ρ : Nat → Nat} (hP : P ≤ 10) (hh : e_hd S P) (h : e_rk S P ρ) : ∀ m p, p < P → ρ p < m → ∀ u, m ≤ u → e_d S u p = e_d S m p ∧ e_d S m p ≤ ρ p := by
  intro m
  induction m with
  | zero =>
    intro p hp hm
    omega
  | succ m ih =>
    intro p hp hm u hu
    obtain ⟨u, rfl⟩ : ∃ v, u = v + 1 := ⟨u - 1, by omega⟩
    rw [e_d, e_d]
    rcases hh p hp with c | ⟨q, hq, c⟩
    · rw [if_pos c, if_pos c]
      exact ⟨rfl, by omega⟩
    · have hne : ¬ S 0 p = -1 := by rw [c]; exact q_m1 (by omega)
      have hr := h.2 p q hp hq c
      rw [if_neg hne, if_neg hne, c, q_cl (by omega)]
      have := ih q hq (by omega) u (by omega)
      exact ⟨by rw [this.1], by omega⟩
def e_dp (S : Nat → Nat → Int32) (P : Nat) (p : Nat) : Nat := e_d S P p
theorem e_dp_lt {S : Nat → Nat → Int32} {P : Nat} {ρ : Nat → Nat} (hP : P ≤ 10) (hh : e_hd S P) (h : e_rk S P ρ) {p : Nat} (hp : p < P) : e_dp S P p < P := by
  have := (e_d_st hP hh h P p hp (h.1 p hp) P (Nat.le_refl _)).2
  have := h.1 p hp
  unfold e_dp
  omega
theorem e_dp_up {S : Nat → Nat → Int32} {P : Nat} {ρ : Nat → Nat} (hP : P ≤ 10) (hh : e_hd S P) (h : e_rk S P ρ) {p q : Nat} (hp : p < P) (hq : q < P) (c : S 0 p = nI q) : e_dp S P p = e_dp S P q + 1 := by
  have h1 := (e_d_st hP hh h P p hp (h.1 p hp) (P + 1) (by omega)).1
  rw [e_d, if_neg (by rw [c]; exact q_m1 (by omega)), c, q_cl (by omega)] at h1
  exact h1.symm
theorem e_dp_0 {S : Nat → Nat → Int32} {P : Nat} {p : Nat} (c : S 0 p = -1) : e_dp S P p = 0 := by
  unfold e_dp
  match P with
  | 0 => rfl
  | P + 1 => rw [e_d, if_pos c]
theorem e_hand {S : Nat → Nat → Int32} {D x : Nat} {M : m_M} (h : h_R S D M) (hx : x < 10) : M.1 (49 + 5 * x) 0 = S 0 x := h_rd h (f := 0) (i := x) (by unfold h_ok; omega) (h_c1 0 (by omega)).1 (h_c1 0 (by omega)).2
theorem e_stepsUp {n P D : Nat} {S : Nat → Nat → Int32} {M : m_M} {ρ : Nat → Nat} (hn : 20 < n) (hR : h_R S D M) (hP : P ≤ 10) (hh : e_hd S P) (hρ : e_rk S P ρ) {p : Nat} (hp : p < P) : f_X1_stepsUp n (nI p) M = some (nI (e_dp S P p)) := by
  have lp : ∀ (m q c u : Nat), q < P → e_dp S P q = m → c + m < 10 → m + 1 < u → f_X1_stepsUp_b12 n (nI p) M u (nI c) (S 0 q) = some (nI (c + m)) := by
    intro m
    induction m with
    | zero =>
      intro q c u hq hm hc hu
      obtain ⟨u, rfl⟩ : ∃ v, u = v + 1 := ⟨u - 1, by omega⟩
      rw [f_X1_stepsUp_b12, if_neg (fun z => absurd ((q_le10 (by omega)).mp z) (by omega))]
      rcases hh q hq with e | ⟨q', hq', e⟩
      · rw [if_pos e]
        rfl
      · have := e_dp_up hP hh hρ hq hq' e
        omega
    | succ m ih =>
      intro q c u hq hm hc hu
      obtain ⟨u, rfl⟩ : ∃ v, u = v + 1 := ⟨u - 1, by omega⟩
      rw [f_X1_stepsUp_b12, if_neg (fun z => absurd ((q_le10 (by omega)).mp z) (by omega))]
      rcases hh q hq with e | ⟨q', hq', e⟩
      · have := e_dp_0 (P := P) e
        omega
      · have hd := e_dp_up hP hh hρ hq hq' e
        rw [e, if_neg (q_m1 (by omega))]
        unfold m_gd
        rw [if_pos (q_in (by omega) (by decide)), q_cl (by omega), e_hand hR (by omega), q_up]
        have := ih q' (c + 1) u hq' (by omega) (by omega) (by omega)
        rw [show c + (m + 1) = c + 1 + m by omega]
        exact this
  have hd := e_dp_lt hP hh hρ hp
  unfold f_X1_stepsUp m_gd
  rw [if_pos (q_in (by omega) (by decide)), q_cl (by omega), e_hand hR (by omega)]
  have := lp (e_dp S P p) p 0 n hp rfl (by omega) (by omega)
  rw [Nat.zero_add] at this
  exact this
theorem e_R_fr {S : Nat → Nat → Int32} {D : Nat} {M M' : m_M} (h : h_R S D M) (hD : D ≤ 60) (e : ∀ i j, ¬ w_16 i j → M'.1 i j = M.1 i j) : h_R S D M' := by
  refine ⟨(e 45 4 (by unfold w_16; omega)).trans h.1, fun f i hok => ?_⟩
  rw [e _ _ ?_]
  · exact h.2 f i hok
  · unfold w_16
    unfold h_ok at hok
    rcases hok with q | q | q | q | q | q
    · rw [(h_c1 f q.1).1, (h_c1 f q.1).2]
      omega
    · unfold h_cc h_cs
      (repeat (first | rw [if_pos (by omega)] | rw [if_neg (by omega)]))
      omega
    · unfold h_cc h_cs
      (repeat (first | rw [if_pos (by omega)] | rw [if_neg (by omega)]))
      omega
    · unfold h_cc h_cs
      (repeat (first | rw [if_pos (by omega)] | rw [if_neg (by omega)]))
      omega
    · unfold h_cc h_cs
      (repeat (first | rw [if_pos (by omega)] | rw [if_neg (by omega)]))
      omega
    · unfold h_cc h_cs
      (repeat (first | rw [if_pos (by omega)] | rw [if_neg (by omega)]))
      omega
/-- the class stands so that seconds can be added: n's at level L, up to person k -/
def e_H (S : Nat → Nat → Int32) (D P : Nat) (fl : Int32) (val : (Nat → Int64) → Int64) (M : m_M) : Prop := h_R S D M ∧ M.1 1 0 = nI P ∧ k_YC 5 M fl val ∧ ∀ p, p < P → M.1 (49 + 5 * p) 6 = nI (e_dp S P p)
theorem e_YC_fr {k : Nat} {M M' : m_M} {fl : Int32} {val : (Nat → Int64) → Int64} (h : k_YC k M fl val) (e0 : ∀ j, M'.1 k j = M.1 k j) (e2 : ∀ j, M'.1 (k + 2) j = M.1 (k + 2) j) (e3 : ∀ j, M'.2 (k + 3) j = M.2 (k + 3) j) : k_YC k M' fl val := ⟨(e0 7).trans h.1, fun c n M2 hn b1 b2 b3 => h.2 c n M2 hn (fun j => (b1 j).trans (e0 j)) (fun j => (b2 j).trans (e2 j)) (fun j => (b3 j).trans (e3 j))⟩
theorem e_H_fr {S : Nat → Nat → Int32} {D P : Nat} {fl : Int32} {val : (Nat → Int64) → Int64} {M M' : m_M} (h : e_H S D P fl val M) (hD : D ≤ 60) (hP : P ≤ 10) (e : ∀ i j, ¬ w_16 i j ∨ j = 6 → M'.1 i j = M.1 i j) (e2 : ∀ j, M'.2 8 j = M.2 8 j) : e_H S D P fl val M' := by
  obtain ⟨h1, h2, h3, h4⟩ := h
  exact ⟨e_R_fr h1 hD (fun i j q => e i j (Or.inl q)), (e 1 0 (Or.inl (by unfold w_16; omega))).trans h2, e_YC_fr h3 (fun j => e 5 j (Or.inl (by unfold w_16; omega))) (fun j => e 7 j (Or.inl (by unfold w_16; omega))) e2, fun p hp => (e _ _ (Or.inr rfl)).trans (h4 p hp)⟩
def e_lv (S : Nat → Nat → Int32) (P : Nat) (F : Nat → Int32) (L k p : Nat) : Int32 := if L ≤ e_dp S P p then e_sec S F p P else if e_dp S P p + 1 = L then e_sec S F p k else 0
theorem q_dec (a : Nat) : nI (a + 1) + (-1) = nI a := by
  have := nI_pred a
  rw [Int32.sub_eq_add_neg] at this
  exact this
theorem e_as42 {n P D L : Nat} {S : Nat → Nat → Int32} {fl : Int32} {val : (Nat → Int64) → Int64} {ρ : Nat → Nat} {q36 : Int32 → m_M → Option m_M} {Q : m_M → Prop} (hn : 200 < n) (hP : P ≤ 10) (hD : D ≤ 60) (hh : e_hd S P) (hρ : e_rk S P ρ) (hL : L < 10) (hq : ∀ M1, e_H S D P fl val M1 → (∀ p, p < P → M1.1 (49 + 5 * p) 5 = e_lv S P (e_N S P (e_gn S P fl val)) L 0 p) → q_T (q36 (nI L) M1) Q) : ∀ (d k u : Nat) (M : m_M), k + d = P → d < u → e_H S D P fl val M → (∀ p, p < P → M.1 (49 + 5 * p) 5 = e_lv S P (e_N S P (e_gn S P fl val)) (L + 1) k p) → q_T (f_X1_addSeconds_b42 n q36 u (nI (L + 1)) (nI k) M) Q := by
  intro d
  induction d with
  | zero =>
    intro k u M hk hu hH hS
    obtain ⟨u, rfl⟩ : ∃ v, u = v + 1 := ⟨u - 1, by omega⟩
    rw [f_X1_addSeconds_b42, hH.2.1]
    refine q_it ((q_le (by omega) (by omega)).mpr (by omega)) ?_
    rw [q_dec]
    refine hq M hH (fun p hp => ?_)
    rw [hS p hp]
    unfold e_lv
    by_cases c1 : L + 1 ≤ e_dp S P p
    · rw [if_pos c1, if_pos (by omega)]
    · rw [if_neg c1]
      by_cases c2 : e_dp S P p + 1 = L + 1
      · rw [if_pos c2, if_pos (by omega), show k = P by omega]
      · rw [if_neg c2, if_neg (by omega)]
        by_cases c3 : e_dp S P p + 1 = L
        · rw [if_pos c3]
          rfl
        · rw [if_neg c3]
  | succ d ih =>
    intro k u M hk hu hH hS
    obtain ⟨u, rfl⟩ : ∃ v, u = v + 1 := ⟨u - 1, by omega⟩
    rw [f_X1_addSeconds_b42, hH.2.1]
    refine q_if (fun q => absurd ((q_le (by omega) (by omega)).mp q) (by omega)) (q_gd (q_in (by omega) (by decide)) ?_)
    rw [q_cl (by omega), hH.2.2.2 k (by omega), q_up]
    have hdk := e_dp_lt hP hh hρ (show k < P by omega)
    by_cases c : e_dp S P k = L + 1
    · refine q_it (by rw [c]) ?_
      rw [e_hand hH.1 (by omega)]
      rcases hh k (by omega) with e | ⟨q, hq', e⟩
      · have := e_dp_0 (P := P) e
        omega
      · have hdq := e_dp_up hP hh hρ (show k < P by omega) hq' e
        rw [e]
        refine q_gd (q_in (by omega) (by decide)) ?_
        rw [q_cl (by omega)]
        have hnet := e_netC (n := n) (l := 0) (by omega) hH.1 hH.2.1 hP (show k < P by omega) (by omega) hh hH.2.2.1 0 0
        refine q_o2 (q_mono (q_TH hnet (g_X1_netOf n _ _ _ _ M)) (fun a ha => ?_))
        obtain ⟨a1, g⟩ := ha
        have gI : ∀ i j, a.2.1 i j = M.1 i j := fun i j => g.1 i j (by unfold w_1; omega)
        have hv : a.1 = e_N S P (e_gn S P fl val) k := by
          rw [a1, Int64.add_zero, hS k (by omega)]
          unfold e_lv
          rw [if_pos (by omega)]
          exact e_N_fix (G := e_gn S P fl val) hρ (by omega)
        refine q_bd ?_
        refine ih (k + 1) u _ (by omega) (by omega) (e_H_fr hH hD hP (fun i j hij => ?_) (fun j => ?_)) (fun p hp => ?_)
        · rw [q_r, if_neg, gI]
          rintro ⟨rfl, rfl⟩
          rcases hij with z | z
          · exact z (by unfold w_16; omega)
          · omega
        · rw [q_r2]
          exact g.2 8 j (by unfold w_15; omega)
        · rw [q_r]
          by_cases ep : p = q
          · subst ep
            rw [if_pos ⟨rfl, rfl⟩, hv, hS p hp]
            unfold e_lv
            rw [if_neg (by omega), if_pos (by omega), if_neg (by omega), if_pos (by omega), e_sec, if_pos e]
          · rw [if_neg (by omega), gI, hS p hp]
            unfold e_lv
            by_cases c1 : L + 1 ≤ e_dp S P p
            · rw [if_pos c1, if_pos c1]
            · rw [if_neg c1, if_neg c1]
              by_cases c2 : e_dp S P p + 1 = L + 1
              · rw [if_pos c2, if_pos c2, e_sec, if_neg]
                rw [e]
                intro z
                exact ep ((nI_eq (by omega) (by omega)).mp z).symm
              · rw [if_neg c2, if_neg c2]
    · refine q_if (fun z => c ((nI_eq (by omega) (by omega)).mp z)) ?_
      refine ih (k + 1) u M (by omega) (by omega) hH (fun p hp => ?_)
      rw [hS p hp]
      unfold e_lv
      by_cases c1 : L + 1 ≤ e_dp S P p
      · rw [if_pos c1, if_pos c1]
      · rw [if_neg c1, if_neg c1]
        by_cases c2 : e_dp S P p + 1 = L + 1
        · rw [if_pos c2, if_pos c2, e_sec, if_neg]
          intro z
          have := e_dp_up hP hh hρ (show k < P by omega) hp z
          omega
        · rw [if_neg c2, if_neg c2]
theorem e_as36 {n P D : Nat} {S : Nat → Nat → Int32} {fl : Int32} {val : (Nat → Int64) → Int64} {ρ : Nat → Nat} (hn : 200 < n) (hP : P ≤ 10) (hD : D ≤ 60) (hh : e_hd S P) (hρ : e_rk S P ρ) : ∀ (L u : Nat) (M : m_M), L ≤ 10 → L < u → e_H S D P fl val M → (∀ p, p < P → M.1 (49 + 5 * p) 5 = e_lv S P (e_N S P (e_gn S P fl val)) L 0 p) → q_T (f_X1_addSeconds_b36 n u (nI L) M) (fun M' => e_H S D P fl val M' ∧ ∀ p, p < P → M'.1 (49 + 5 * p) 5 = e_sec S (e_N S P (e_gn S P fl val)) p P) := by
  intro L
  induction L with
  | zero =>
    intro u M hL hu hH hS
    obtain ⟨u, rfl⟩ : ∃ v, u = v + 1 := ⟨u - 1, by omega⟩
    rw [f_X1_addSeconds_b36]
    refine q_it (by decide) (q_some ⟨hH, fun p hp => ?_⟩)
    rw [hS p hp]
    unfold e_lv
    rw [if_pos (by omega)]
  | succ L ih =>
    intro u M hL hu hH hS
    obtain ⟨u, rfl⟩ : ∃ v, u = v + 1 := ⟨u - 1, by omega⟩
    rw [f_X1_addSeconds_b36]
    refine q_if (nI_nle (by omega) (by omega)) ?_
    exact e_as42 hn hP hD hh hρ (by omega) (fun M1 h1 h2 => ih u M1 (by omega) (by omega) h1 h2) P 0 n M (by omega) (by omega) hH hS
theorem e_addSeconds {n P D : Nat} {S : Nat → Nat → Int32} {fl : Int32} {val : (Nat → Int64) → Int64} {M : m_M} (hn : 200 < n) (hP : P ≤ 10) (hD : D ≤ 60) (hA : e_ac S P) (hR : h_R S D M) (h0 : M.1 1 0 = nI P) (hY : k_YC 5 M fl val) (h5 : ∀ p, p < 10 → M.1 (49 + 5 * p) 5 = 0) : q_T (f_X1_addSeconds n M) (fun M' => h_R S D M' ∧ ∀ p, p < P → M'.1 (49 + 5 * p) 5 = e_sec S (e_N S P (e_gn S P fl val)) p P) := by
  obtain ⟨hh, ρ, hρ⟩ := hA
  unfold f_X1_addSeconds
  have lp : ∀ (d k u : Nat) (M : m_M), k + d = P → d < u → h_R S D M → M.1 1 0 = nI P → k_YC 5 M fl val → (∀ p, p < P → M.1 (49 + 5 * p) 5 = 0) → (∀ p, p < k → M.1 (49 + 5 * p) 6 = nI (e_dp S P p)) → q_T (f_X1_addSeconds_b2 n u (nI k) M) (fun M' => h_R S D M' ∧ ∀ p, p < P → M'.1 (49 + 5 * p) 5 = e_sec S (e_N S P (e_gn S P fl val)) p P) := by
    intro d
    induction d with
    | zero =>
      intro k u M hk hu hR h0 hY h5 h6
      obtain ⟨u, rfl⟩ : ∃ v, u = v + 1 := ⟨u - 1, by omega⟩
      rw [f_X1_addSeconds_b2, h0]
      refine q_it ((q_le (by omega) (by omega)).mpr (by omega)) ?_
      refine q_mono (e_as36 hn hP hD hh hρ 10 n M (by omega) (by omega) ⟨hR, h0, hY, fun p hp => h6 p (by omega)⟩ (fun p hp => ?_)) (fun M' h => ⟨h.1.1, h.2⟩)
      have := e_dp_lt hP hh hρ hp
      rw [h5 p hp]
      unfold e_lv
      rw [if_neg (by omega)]
      by_cases c : e_dp S P p + 1 = 10
      · rw [if_pos c]
        rfl
      · rw [if_neg c]
    | succ d ih =>
      intro k u M hk hu hR h0 hY h5 h6
      obtain ⟨u, rfl⟩ : ∃ v, u = v + 1 := ⟨u - 1, by omega⟩
      rw [f_X1_addSeconds_b2, h0]
      refine q_if (fun q => absurd ((q_le (by omega) (by omega)).mp q) (by omega)) (q_gd (q_in (by omega) (by decide)) ?_)
      rw [q_cl (by omega)]
      refine q_ob (q_of (e_stepsUp (by omega) hR hP hh hρ (show k < P by omega)) (q_bd ?_))
      rw [q_up]
      refine ih (k + 1) u _ (by omega) (by omega) (e_R_fr hR hD (fun i j hij => ?_)) ?_ (e_YC_fr hY (fun j => ?_) (fun j => ?_) (fun j => rfl)) (fun p hp => ?_) (fun p hp => ?_)
      · rw [q_r, if_neg]
        rintro ⟨rfl, rfl⟩
        exact hij (by unfold w_16; omega)
      · rw [q_r, if_neg (by omega)]
        exact h0
      · rw [q_r, if_neg (by omega)]
      · rw [q_r, if_neg (by omega)]
      · rw [q_r, if_neg (by omega)]
        exact h5 p hp
      · rw [q_r]
        by_cases e : p = k
        · rw [if_pos ⟨by rw [e], rfl⟩, e]
        · rw [if_neg (by omega)]
          exact h6 p (by omega)
  exact lp P 0 n M (by omega) (by omega) hR h0 hY (fun p hp => h5 p (by omega)) (fun p hp => absurd hp (by omega))
