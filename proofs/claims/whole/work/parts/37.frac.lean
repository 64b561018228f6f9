/-! FRACTIONS: the common measure, lowest terms -/
theorem f_gr {a b : Nat} (hb : 0 < b) : Nat.gcd a b = Nat.gcd b (a % b) := by
  rw [Nat.gcd_comm a b, Nat.gcd_rec b a, Nat.gcd_comm]
theorem f_half {b c m : Nat} (hc : c < b) (h0 : 0 < c) (hb : b < 2 ^ (m + 1)) : b % c < 2 ^ m := by
  have h1 := Nat.mod_lt b h0
  have h2 := Nat.div_add_mod b c
  have h3 : 1 ≤ b / c := (Nat.le_div_iff_mul_le h0).mpr (by omega)
  have h4 : c * 1 ≤ c * (b / c) := Nat.mul_le_mul_left c h3
  rw [Nat.pow_succ] at hb
  omega
theorem f_cm {n : Nat} {x0 x2 : Int64} : ∀ (m a b k u : Nat), b < 2 ^ m → a < 2 ^ 63 → b < 2 ^ 63 → 2 * m + 1 ≤ u → k + 2 * m ≤ 199 → f_X7_commonMeasure_b9 n x0 x2 u (lN a) (lN b) (nI k) = some (lN (Nat.gcd a b)) := by
  have z : ∀ (a k u : Nat), 1 ≤ u → k ≤ 199 → f_X7_commonMeasure_b9 n x0 x2 u (lN a) (lN 0) (nI k) = some (lN (Nat.gcd a 0)) := by
    intro a k u hu hk
    obtain ⟨u, rfl⟩ : ∃ v, u = v + 1 := ⟨u - 1, by omega⟩
    have g : ¬ (200 : Int32) ≤ nI k := fun q => absurd ((q_le (a := 200) (by decide) (by omega)).mp q) (by omega)
    rw [f_X7_commonMeasure_b9, if_neg g, if_pos (show lN 0 = 0 from rfl), Nat.gcd_zero_right]
  have st : ∀ (a b k u : Nat), 0 < b → a < 2 ^ 63 → b < 2 ^ 63 → k ≤ 199 → f_X7_commonMeasure_b9 n x0 x2 (u + 1) (lN a) (lN b) (nI k) = f_X7_commonMeasure_b9 n x0 x2 u (lN b) (lN (a % b)) (nI (k + 1)) := by
    intro a b k u hb ha hb2 hk
    have nz : ¬ lN b = 0 := fun q => by have := (pk_lEQ (b := 0) hb2 (by omega)).mp q; omega
    have g : ¬ (200 : Int32) ≤ nI k := fun q => absurd ((q_le (a := 200) (by decide) (by omega)).mp q) (by omega)
    rw [f_X7_commonMeasure_b9, if_neg g, if_neg nz]
    unfold m_gd
    rw [if_pos nz, pk_lRem ha hb hb2, q_up]
  intro m
  induction m with
  | zero =>
    intro a b k u hb ha hb2 hu hk
    have : b = 0 := by
      have : b < 1 := hb
      omega
    subst this
    exact z a k u (by omega) (by omega)
  | succ m ih =>
    intro a b k u hb ha hb2 hu hk
    rcases Nat.eq_zero_or_pos b with e | e
    · subst e
      exact z a k u (by omega) (by omega)
    · obtain ⟨u, rfl⟩ : ∃ v, u = v + 1 := ⟨u - 1, by omega⟩
      have hc := Nat.mod_lt a e
      rw [st a b k u e ha hb2 (by omega), f_gr e]
      rcases Nat.eq_zero_or_pos (a % b) with e2 | e2
      · rw [e2]
        exact z b (k + 1) u (by omega) (by omega)
      · obtain ⟨u, rfl⟩ : ∃ v, u = v + 1 := ⟨u - 1, by omega⟩
        have hd := f_half hc e2 hb
        rw [st b (a % b) (k + 1) u e2 hb2 (by omega) (by omega), f_gr e2]
        exact ih _ _ _ _ hd (by omega) (by have := Nat.mod_lt b e2; omega) (by omega) (by omega)
theorem f_set {n a b : Nat} {M : m_M} (hn : 200 < n) (ha : a < 2 ^ 63) (h0 : 0 < b) (hb : b < 2 ^ 40) : f_X7_setFraction n (lN a) (lN b) M = some (m_sL (m_sL M 0 8 (lN (a / Nat.gcd a b))) 0 9 (lN (b / Nat.gcd a b))) := by
  have hg := Nat.gcd_pos_of_pos_right a h0
  have hgb := Nat.le_of_dvd h0 (Nat.gcd_dvd_right a b)
  have nz : ¬ lN (Nat.gcd a b) = 0 := fun q => by have := (pk_lEQ (b := 0) (by omega) (by omega)).mp q; omega
  unfold f_X7_setFraction f_X7_commonMeasure
  have e : f_X7_commonMeasure_b9 n (lN a) (lN b) n (lN a) (lN b) 0 = some (lN (Nat.gcd a b)) := f_cm (n := n) 40 a b 0 n hb ha (by omega) (by omega) (by omega)
  rw [e]
  show (if lN (Nat.gcd a b) = 0 then some M else _) = _
  rw [if_neg nz]
  unfold m_gd m_bd
  rw [if_pos nz]
  show (if ¬lN (Nat.gcd a b) = 0 then _ else none) = _
  rw [if_pos nz, pk_lDiv ha hg (by omega), pk_lDiv (by omega) hg (by omega)]
theorem f_tl {n : Nat} {x1 x3 : Int64} {M : m_M} : ∀ (m a b u : Nat), b < 2 ^ m → 0 < Nat.gcd a b → a < 2 ^ 63 → b < 2 ^ 63 → 2 * m + 1 ≤ u → f_X8_tell_b6 n x1 x3 u (lN a) (lN b) M = some (m_sL (m_sL M 172 5 (x1 / lN (Nat.gcd a b))) 172 6 (x3 / lN (Nat.gcd a b))) := by
  have z : ∀ (a u : Nat), 1 ≤ u → 0 < Nat.gcd a 0 → a < 2 ^ 63 → f_X8_tell_b6 n x1 x3 u (lN a) (lN 0) M = some (m_sL (m_sL M 172 5 (x1 / lN (Nat.gcd a 0))) 172 6 (x3 / lN (Nat.gcd a 0))) := by
    intro a u hu hg ha
    rw [Nat.gcd_zero_right] at hg ⊢
    have nz : ¬ lN a = 0 := fun q => by have := (pk_lEQ (b := 0) ha (by omega)).mp q; omega
    obtain ⟨u, rfl⟩ : ∃ v, u = v + 1 := ⟨u - 1, by omega⟩
    rw [f_X8_tell_b6, if_pos (show lN 0 = 0 from rfl)]
    unfold m_gd m_bd
    rw [if_pos nz]
    show (if ¬lN a = 0 then _ else none) = _
    rw [if_pos nz]
  have st : ∀ (a b u : Nat), 0 < b → a < 2 ^ 63 → b < 2 ^ 63 → f_X8_tell_b6 n x1 x3 (u + 1) (lN a) (lN b) M = f_X8_tell_b6 n x1 x3 u (lN b) (lN (a % b)) M := by
    intro a b u hb ha hb2
    have nz : ¬ lN b = 0 := fun q => by have := (pk_lEQ (b := 0) hb2 (by omega)).mp q; omega
    rw [f_X8_tell_b6, if_neg nz]
    unfold m_gd
    rw [if_pos nz, pk_lRem ha hb hb2]
  intro m
  induction m with
  | zero =>
    intro a b u hb hg ha hb2 hu
    have : b = 0 := by
      have : b < 1 := hb
      omega
    subst this
    exact z a u (by omega) hg ha
  | succ m ih =>
    intro a b u hb hg ha hb2 hu
    rcases Nat.eq_zero_or_pos b with e | e
    · subst e
      exact z a u (by omega) hg ha
    · obtain ⟨u, rfl⟩ : ∃ v, u = v + 1 := ⟨u - 1, by omega⟩
      have hc := Nat.mod_lt a e
      rw [f_gr e] at hg ⊢
      rw [st a b u e ha hb2]
      rcases Nat.eq_zero_or_pos (a % b) with e2 | e2
      · rw [e2] at hg ⊢
        exact z b u (by omega) hg (by omega)
      · obtain ⟨u, rfl⟩ : ∃ v, u = v + 1 := ⟨u - 1, by omega⟩
        have hd := f_half hc e2 hb
        rw [f_gr e2] at hg ⊢
        rw [st b (a % b) u e2 hb2 (by omega)]
        exact ih _ _ _ hd hg (by omega) (by have := Nat.mod_lt b e2; omega) (by omega)
theorem f_tell {n a b : Nat} {M : m_M} (hn : 200 < n) (ha : a < 2 ^ 63) (h0 : 0 < b) (hb : b < 2 ^ 40) : f_X8_tell n (lN a) (lN b) M = some (m_sL (m_sL M 172 5 (lN (a / Nat.gcd a b))) 172 6 (lN (b / Nat.gcd a b))) := by
  have hg := Nat.gcd_pos_of_pos_right a h0
  have hgb := Nat.le_of_dvd h0 (Nat.gcd_dvd_right a b)
  unfold f_X8_tell
  rw [f_tl (n := n) 40 a b n hb hg ha (by omega) (by omega), pk_lDiv ha hg (by omega), pk_lDiv (by omega) hg (by omega)]
theorem f_low {A B O U : Nat} (h : A * U = O * B) (hB : 0 < B) (hU : 0 < U) : A / Nat.gcd A B = O / Nat.gcd O U ∧ B / Nat.gcd A B = U / Nat.gcd O U := by
  have g1 := Nat.gcd_pos_of_pos_right A hB
  have g2 := Nat.gcd_pos_of_pos_right O hU
  have c1 := Nat.coprime_div_gcd_div_gcd g1
  have c2 := Nat.coprime_div_gcd_div_gcd g2
  have eA := Nat.div_mul_cancel (Nat.gcd_dvd_left A B)
  have eB := Nat.div_mul_cancel (Nat.gcd_dvd_right A B)
  have eO := Nat.div_mul_cancel (Nat.gcd_dvd_left O U)
  have eU := Nat.div_mul_cancel (Nat.gcd_dvd_right O U)
  have hb : 0 < B / Nat.gcd A B := Nat.div_pos (Nat.le_of_dvd hB (Nat.gcd_dvd_right A B)) g1
  have hu : 0 < U / Nat.gcd O U := Nat.div_pos (Nat.le_of_dvd hU (Nat.gcd_dvd_right O U)) g2
  generalize A / Nat.gcd A B = a at *
  generalize B / Nat.gcd A B = b at *
  generalize O / Nat.gcd O U = o at *
  generalize U / Nat.gcd O U = u at *
  generalize Nat.gcd A B = g at *
  generalize Nat.gcd O U = e at *
  have key : a * u = o * b := by
    apply Nat.eq_of_mul_eq_mul_right (show 0 < g * e from Nat.mul_pos g1 g2)
    calc a * u * (g * e) = (a * g) * (u * e) := by ac_rfl
      _ = A * U := by rw [eA, eU]
      _ = O * B := h
      _ = (o * e) * (b * g) := by rw [eO, eB]
      _ = o * b * (g * e) := by ac_rfl
  have d1 : b ∣ u := Nat.Coprime.dvd_of_dvd_mul_left c1.symm (show b ∣ a * u by rw [key]; exact Nat.dvd_mul_left b o)
  have d2 : u ∣ b := Nat.Coprime.dvd_of_dvd_mul_left c2.symm (show u ∣ o * b by rw [← key]; exact Nat.dvd_mul_left u a)
  have : b = u := Nat.dvd_antisymm d1 d2
  subst this
  exact ⟨Nat.eq_of_mul_eq_mul_right hb key, rfl⟩
/-! the invariant without the fraction -/
def n_M (C C0 C1 : k_C) (M : m_M) : Prop := (k_V C ∧ k_A C 1 M ∧ k_E C 173 0 M) ∧ (k_I C0 0 M ∧ k_I C1 1 M) ∧ k_T M
theorem n_of {C C0 C1 : k_C} {M : m_M} (h : k_M C C0 C1 M) : n_M C C0 C1 M := ⟨h.1, h.2.1, h.2.2.1⟩
theorem n_to {C C0 C1 : k_C} {M : m_M} (h : n_M C C0 C1 M) (f : M.2 0 8 = M.2 172 5 ∧ M.2 0 9 = M.2 172 6) : k_M C C0 C1 M := ⟨h.1, h.2.1, h.2.2, f⟩
theorem n_fr {C C0 C1 : k_C} {M M' : m_M} (h : n_M C C0 C1 M) (e : k_fr M M') : n_M C C0 C1 M' := by
  obtain ⟨⟨a, b, c⟩, ⟨d, d'⟩, t⟩ := h
  exact ⟨⟨a, k_A_fr b e (by omega), k_E_fr c e (by omega)⟩, ⟨k_I_fr d e (by omega), k_I_fr d' e (by omega)⟩, k_T_fr t e⟩
theorem n_31 {C C0 C1 : k_C} {M : m_M} (x : Int32) (h : n_M C C0 C1 M) : n_M C C0 C1 (m_sI M 172 24 x) := n_fr h ⟨fun i j q => by rw [q_r, if_neg (by omega)], fun i j q => rfl⟩
theorem n_asked {n : Nat} {C C0 C1 : k_C} {M : m_M} (hn : 200 < n) (hM : n_M C C0 C1 M) (x1 x2 : Int32) : q_T (f_X8_isAsked n x1 x2 M) (fun a => (a.1 = if e_in x1 (h_D (k_r C) (k_N C)) = 0 then 0 else if e_in x2 1000 = 0 then 0 else 1) ∧ n_M C C0 C1 a.2 ∧ (∀ k, k < k_N C → h_kd (k_r C) k = 4 → a.2.1 185 (h_D (k_r C) k) = nI k) ∧ ∀ i j, a.2.2 i j = M.2 i j) := by
  have hV := hM.1.1
  obtain ⟨K, hK⟩ := k_isday hV 999
  have hD : h_D (k_r C) (k_N C) < 2 ^ 31 := by
    have := k_D60 hV (Nat.le_refl (k_N C))
    omega
  refine q_mono (q_TH (P := fun a => (a.1 = if e_in x1 (h_D (k_r C) (k_N C)) = 0 then 0 else if e_in x2 1000 = 0 then 0 else 1) ∧ ∀ k, k < k_N C → h_kd (k_r C) k = 4 → a.2.1 185 (h_D (k_r C) k) = nI k) ?_ (g_X8_isAsked n x1 x2 M)) (fun a ha => ⟨ha.1.1, n_fr hM ⟨fun i j q => ha.2.1 i j (by unfold w_54; omega), fun i j q => ha.2.2 i j (by unfold w_1; omega)⟩, ha.1.2, fun i j => ha.2.2 i j (by unfold w_1; omega)⟩)
  unfold f_X8_isAsked
  refine q_bd ?_
  have hM1 := n_31 31 hM
  refine q_ob (q_mono (k_layDay (n := n) hn hV hM1.1.2.2 (by rw [q_r, if_pos ⟨rfl, rfl⟩]) hK) (fun M2 h2 => q_bd ?_))
  rw [e_dl8 hD h2.2.1]
  by_cases c1 : e_in x1 (h_D (k_r C) (k_N C)) = 0
  · refine q_it c1 (q_some ⟨?_, h2.2.2.2.2.1⟩)
    rw [if_pos c1]
  · refine q_if c1 (q_bd ?_)
    rw [e_day8, if_neg c1]
    by_cases c2 : e_in x2 1000 = 0
    · refine q_it c2 (q_some ⟨?_, h2.2.2.2.2.1⟩)
      rw [if_pos c2]
    · refine q_if c2 (q_some ⟨?_, h2.2.2.2.2.1⟩)
      rw [if_neg c2]
/-- all laid and the nets found, as of a day, in a way -/
theorem n_all {n K : Nat} {C C0 C1 : k_C} {M : m_M} {day so fl : Int32} {val : (Nat → Int64) → Int64} (hn : 200 < n) (hM : n_M C C0 C1 M) (hY : k_YR (k_t C 0) (k_x C 0) fl val) (h24 : M.1 172 24 = so) (hd : h_day (k_r C) (k_N C) day K) : q_T (f_X8_layAll n day M) (fun M' => k_g C so day K (k_gn C (h_S (k_r C) (h_sb so) K).1 fl val) M' ∧ n_M C C0 C1 M' ∧ ∀ i j, ¬ w_61 i j → M'.2 i j = M.2 i j) := by
  refine q_mono (q_TH (k_layAll (n := n) hn hM.1.1 hM.1.2.2 hY h24 hd) (g_X8_layAll n day M)) (fun M' h => ?_)
  obtain ⟨⟨a, b⟩, g⟩ := h
  have hM' : n_M C C0 C1 M' := n_fr hM ⟨fun i j q => g.1 i j (by unfold w_63; omega), fun i j q => g.2 i j (by unfold w_61; omega)⟩
  exact ⟨⟨⟨a, hM'.1.2.2⟩, b⟩, hM', g.2⟩
theorem n_today {n K : Nat} {C C0 C1 : k_C} {M : m_M} {day fl : Int32} {val : (Nat → Int64) → Int64} (hn : 200 < n) (hM : n_M C C0 C1 M) (hY : k_YR (k_t C 0) (k_x C 0) fl val) (hd : h_day (k_r C) (k_N C) day K) : q_T (f_X8_layToday n day M) (fun M' => k_g C 31 day K (k_gn C (h_S (k_r C) (h_sb 31) K).1 fl val) M' ∧ n_M C C0 C1 M' ∧ ∀ i j, ¬ w_61 i j → M'.2 i j = M.2 i j) := by
  unfold f_X8_layToday
  refine q_bd (q_ob (q_mono (n_all (n := n) hn (n_31 31 hM) hY (by rw [q_r, if_pos ⟨rfl, rfl⟩]) hd) (fun M' h => q_some h)))
/-! the asks of the deal of row k, in a way -/
def y_net (C : k_C) (so : Nat → Bool) (K k : Nat) (fl0 : Int32) (val0 : (Nat → Int64) → Int64) (fl : Int32) (val : (Nat → Int64) → Int64) : Nat := x_nn (h_S (k_r C) so K).1 (k_P C) (k_gn C (h_S (k_r C) so K).1 fl0 val0) fl val (h_a (k_r C) k) ((h_S (k_r C) so K).1 4 (h_a (k_r C) k) - (h_S (k_r C) so k).1 4 (h_a (k_r C) k))
def y_A (C : k_C) (so : Nat → Bool) (day : Int32) (K k : Nat) (fl : Int32) (val : (Nat → Int64) → Int64) (j : Nat) : Nat := x_A (h_S (k_r C) so K).1 day (h_D (k_r C) K) (h_D (k_r C) k) (h_a (k_r C) k) (h_b (k_r C) k) (y_net C so K k fl val fl val) j
def y_B (C : k_C) (so : Nat → Bool) (K k j : Nat) : Nat := x_B (h_S (k_r C) so K).1 (h_D (k_r C) K) (h_a (k_r C) k) (h_b (k_r C) k) j
def y_O (C : k_C) (so : Nat → Bool) (day : Int32) (K k : Nat) (fl : Int32) (val : (Nat → Int64) → Int64) (j : Nat) : Nat := x_O (h_S (k_r C) so K).1 day (h_D (k_r C) K) (h_D (k_r C) k) (h_a (k_r C) k) (h_b (k_r C) k) (y_net C so K k fl val fl val) j
def y_U (C : k_C) (so : Nat → Bool) (K k j : Nat) : Nat := x_U (h_S (k_r C) so K).1 (h_D (k_r C) K) (h_D (k_r C) k) (h_a (k_r C) k) (h_b (k_r C) k) j
def y_pu (C : k_C) (so : Nat → Bool) (day : Int32) (K k : Nat) (fl0 : Int32) (val0 : (Nat → Int64) → Int64) (fl : Int32) (val : (Nat → Int64) → Int64) : Nat := x_pu (h_S (k_r C) so K).1 day (h_D (k_r C) k) (h_a (k_r C) k) (y_net C so K k fl0 val0 fl val)
theorem y_N {C : k_C} (hV : k_V C) (so : Nat → Bool) {K k : Nat} (hK : K ≤ k_N C) (hk : k < K) (h4 : h_kd (k_r C) k = 4) (day fl : Int32) (val : (Nat → Int64) → Int64) (j : Nat) : (y_A C so day K k fl val j ≤ 120000000 ∧ y_B C so K k j ≤ 120000 ∧ y_O C so day K k fl val j ≤ 120000000 ∧ y_U C so K k j ≤ 120000) ∧ y_A C so day K k fl val j * y_U C so K k j = y_O C so day K k fl val j * y_B C so K k j ∧ 0 < y_B C so K k j ∧ 0 < y_U C so K k j :=
  ⟨x_AN hV so hK hk h4 day _ _ _ j, x_cross _ _ _ _ _ _ _ _⟩
theorem y_cg {C : k_C} (hV : k_V C) {so so' : Nat → Bool} (h : ∀ j, j < h_B (k_r C) (k_N C) → so j = so' j) {K k : Nat} (hK : K ≤ k_N C) (hk : k < K) (day fl : Int32) (val : (Nat → Int64) → Int64) (j : Nat) : y_A C so day K k fl val j = y_A C so' day K k fl val j ∧ y_B C so K k j = y_B C so' K k j ∧ y_O C so day K k fl val j = y_O C so' day K k fl val j ∧ y_U C so K k j = y_U C so' K k j := by
  unfold y_A y_B y_O y_U y_net
  rw [h_S_cg hV.2.1 h K hK, h_S_cg hV.2.1 h k (by omega)]
  exact ⟨rfl, rfl, rfl, rfl⟩
