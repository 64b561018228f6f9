/-! WAYS: what is not sure: sure, hangs -/
theorem y_f1 : ∀ B, B < 6 → (1 : Int32) <<< (nI B &&& 31) = nI (2 ^ B) := by decide +kernel
theorem y_f2 : ∀ w, w < 32 → ∀ i, i < 5 → nI w ||| ((1 : Int32) <<< (nI i &&& 31)) = nI (w ||| 2 ^ i) := by decide +kernel
theorem y_f3 : ∀ w, w < 32 → ∀ i, i < 5 → nI w ^^^ ((1 : Int32) <<< (nI i &&& 31)) = nI (w ^^^ 2 ^ i) := by decide +kernel
theorem y_f4 : ∀ B, B < 6 → ∀ w, w < 2 ^ B → ∀ j, j < B → h_ns (nI w) j = h_sb (nI (2 ^ B - 1 - w)) j := by decide +kernel
theorem y_f5 : ∀ B, B < 6 → ∀ w, w < 2 ^ B → ∀ i, i < B → (w ||| 2 ^ i) < 2 ^ B ∧ (w ^^^ 2 ^ i) < 2 ^ B ∧ ((w ||| 2 ^ i) = w ∨ ((2 ^ B - 1 - w) ^^^ 2 ^ i) = 2 ^ B - 1 - (w ||| 2 ^ i)) := by decide +kernel
theorem y_f6 : ∀ B, B < 6 → ∀ w, w < 2 ^ B → ∀ i, i < B → ((2 ^ B - 1 - (w ^^^ 2 ^ i)) ||| 2 ^ i) = 2 ^ B - 1 - w ∨ ((2 ^ B - 1 - w) ||| 2 ^ i) = 2 ^ B - 1 - (w ^^^ 2 ^ i) := by decide +kernel
theorem y_f7 : ∀ B, B < 6 → 2 ^ B ≤ 32 := by decide
def w_A (C : k_C) (day : Int32) (K k : Nat) (fl : Int32) (val : (Nat → Int64) → Int64) (j w : Nat) : Nat := y_A C (h_ns (nI w)) day K k fl val j
def w_B (C : k_C) (K k j w : Nat) : Nat := y_B C (h_ns (nI w)) K k j
def w_O (C : k_C) (day : Int32) (K k : Nat) (fl : Int32) (val : (Nat → Int64) → Int64) (j w : Nat) : Nat := y_O C (h_sb (nI w)) day K k fl val j
def w_U (C : k_C) (K k j w : Nat) : Nat := y_U C (h_sb (nI w)) K k j
/-- fractions of the ways, on both sides -/
def w_ok (W : Nat) (a b o u : Nat → Nat) : Prop := ∀ w, w < W → (a w ≤ 120000000 ∧ b w ≤ 120000 ∧ o w ≤ 120000000 ∧ u w ≤ 120000) ∧ a w * u (W - 1 - w) = o (W - 1 - w) * b w ∧ 0 < b w ∧ 0 < u w
theorem w_is {C : k_C} (hV : k_V C) {K k : Nat} (hK : K ≤ k_N C) (hk : k < K) (h4 : h_kd (k_r C) k = 4) (day fl : Int32) (val : (Nat → Int64) → Int64) (j : Nat) : w_ok (2 ^ h_B (k_r C) (k_N C)) (w_A C day K k fl val j) (w_B C K k j) (w_O C day K k fl val j) (w_U C K k j) := by
  intro w hw
  have hB := hV.1.2.2.2
  have n1 := y_N hV (h_ns (nI w)) hK hk h4 day fl val j
  have n2 := y_N hV (h_sb (nI w)) hK hk h4 day fl val j
  have cg := y_cg hV (so := h_ns (nI w)) (so' := h_sb (nI (2 ^ h_B (k_r C) (k_N C) - 1 - w))) (fun i hi => y_f4 _ (by omega) w hw i hi) hK hk day fl val j
  refine ⟨⟨n1.1.1, n1.1.2.1, n2.1.2.2.1, n2.1.2.2.2⟩, ?_, n1.2.2.1, n2.2.2.2⟩
  have h := n1.2.1
  rw [cg.2.2.1, cg.2.2.2] at h
  exact h
theorem b_ways {n : Nat} {C C0 C1 : k_C} {day : Int32} {K k j : Nat} {fl : Int32} {val : (Nat → Int64) → Int64} (hn : 200 < n) (hd : h_day (k_r C) (k_N C) day K) (hk : k < K) (h4 : h_kd (k_r C) k = 4) (hj : j < 4) : ∀ (e x u : Nat) (M : m_M), x + e = 2 ^ h_B (k_r C) (k_N C) → e < u → n_M C C0 C1 M → k_YC 5 M fl val → (∀ w, w < x → M.2 170 w = lN (w_A C day K k fl val j w) ∧ M.2 171 w = lN (w_B C K k j w)) → q_T (f_X7_askInAllWays_b3 n (nI (h_D (k_r C) k)) (nI j) day u (nI x) M) (fun M' => n_M C C0 C1 M' ∧ ∀ w, w < 2 ^ h_B (k_r C) (k_N C) → M'.2 170 w = lN (w_A C day K k fl val j w) ∧ M'.2 171 w = lN (w_B C K k j w)) := by
  intro e
  induction e with
  | zero =>
    intro x u M hx hu hM hY hw
    obtain ⟨u, rfl⟩ : ∃ v, u = v + 1 := ⟨u - 1, by omega⟩
    have hB := hM.1.1.1.2.2.2
    have h32 := y_f7 _ (show h_B (k_r C) (k_N C) < 6 by omega)
    rw [f_X7_askInAllWays_b3]
    unfold f_X7_ways
    refine q_bd ?_
    rw [hM.1.2.1.2.2.2.1, y_f1 _ (by omega)]
    exact q_it ((q_le (by omega) (by omega)).mpr (by omega)) (q_some ⟨hM, fun w h => hw w (by omega)⟩)
  | succ e ih =>
    intro x u M hx hu hM hY hw
    obtain ⟨u, rfl⟩ : ∃ v, u = v + 1 := ⟨u - 1, by omega⟩
    have hV := hM.1.1
    have hK := hd.1
    have hB := hV.1.2.2.2
    have h32 := y_f7 _ (show h_B (k_r C) (k_N C) < 6 by omega)
    rw [f_X7_askInAllWays_b3]
    unfold f_X7_ways
    refine q_bd ?_
    rw [hM.1.2.1.2.2.2.1, y_f1 _ (by omega)]
    refine q_if (fun q => absurd ((q_le (by omega) (by omega)).mp q) (by omega)) (q_ob (q_mono (k_reck (n := n) (ns := nI x) hn hM hY hd) (fun M1 h1 => ?_)))
    obtain ⟨hH, hM1, hY1, hL1⟩ := h1
    have y1 := hY1 0 fl val (by omega) hY
    refine q_o2 (q_mono (q_TH (b_ask (j := j) hn hV hK hk h4 hH y1 hj) (g_X1_askAbove n _ _ M1)) (fun a ha => ?_))
    obtain ⟨a1, ga⟩ := ha
    have eA : a.1 = lN (w_A C day K k fl val j x) := a1
    have ga1 : ∀ i j, a.2.1 i j = M1.1 i j := fun i j => ga.1 i j (by unfold w_1; omega)
    have hM2 : n_M C C0 C1 a.2 := n_fr hM1 ⟨fun i j q => ga1 i j, fun i j q => ga.2 i j (by unfold w_15; omega)⟩
    have hH2 := k_H_e hH ga1
    have hY2 : k_YC 5 a.2 fl val := e_YC_fr y1 (fun j => ga1 _ _) (fun j => ga1 _ _) (fun j => ga.2 _ _ (by unfold w_15; omega))
    refine q_gd (q_in (by omega) (by decide)) (q_bd ?_)
    rw [q_cl (i := x) (by omega)]
    refine q_ob (q_of (b_below (j := j) (n := n) (M := m_sL a.2 170 x a.1) hn hV hK hk h4 (show k_F C (h_S (k_r C) (h_ns (nI x)) K).1 day K (m_sL a.2 170 x a.1) from hH2.1) hj) (q_bd ?_))
    rw [q_up, eA]
    refine ih (x + 1) u _ (by omega) (by omega) (n_fr (n_fr hM2 (k_fr_L (by omega))) (k_fr_L (by omega))) (e_YC_fr hY2 (fun j => rfl) (fun j => rfl) (fun j => by rw [q_l, if_neg (by omega), q_l, if_neg (by omega)])) (fun w h => ?_)
    have l0 : ∀ i, (i = 170 ∨ i = 171) → a.2.2 i w = M.2 i w := fun i q => (ga.2 i w (by unfold w_15; omega)).trans (hL1 i w (by omega) (by omega) (by omega))
    by_cases c : w = x
    · subst c
      refine ⟨?_, ?_⟩
      · rw [q_l, if_neg (by omega), q_l, if_pos ⟨rfl, rfl⟩]
      · rw [q_l, if_pos ⟨rfl, rfl⟩]
        rfl
    · have hw' := hw w (by omega)
      refine ⟨?_, ?_⟩
      · rw [q_l, if_neg (by omega), q_l, if_neg (by omega), l0 170 (by omega)]
        exact hw'.1
      · rw [q_l, if_neg (by omega), q_l, if_neg (by omega), l0 171 (by omega)]
        exact hw'.2
theorem a_ways {n : Nat} {C C0 C1 : k_C} {day : Int32} {K k j : Nat} {fl : Int32} {val : (Nat → Int64) → Int64} (hn : 200 < n) (hd : h_day (k_r C) (k_N C) day K) (hk : k < K) (h4 : h_kd (k_r C) k = 4) (hj : j < 4) (hY : k_YR (k_t C 0) (k_x C 0) fl val) : ∀ (e x u : Nat) (M : m_M), x + e = 2 ^ h_B (k_r C) (k_N C) → e < u → n_M C C0 C1 M → (∀ w, w < x → M.2 200 w = lN (w_O C day K k fl val j w) ∧ M.2 201 w = lN (w_U C K k j w)) → q_T (f_X8_layWays_b11 n (nI (h_D (k_r C) k)) (nI j) day u (nI (2 ^ h_B (k_r C) (k_N C))) (nI x) M) (fun b => b.1 = nI (2 ^ h_B (k_r C) (k_N C)) ∧ n_M C C0 C1 b.2 ∧ ∀ w, w < 2 ^ h_B (k_r C) (k_N C) → b.2.2 200 w = lN (w_O C day K k fl val j w) ∧ b.2.2 201 w = lN (w_U C K k j w)) := by
  intro e
  induction e with
  | zero =>
    intro x u M hx hu hM hw
    obtain ⟨u, rfl⟩ : ∃ v, u = v + 1 := ⟨u - 1, by omega⟩
    have hB := hM.1.1.1.2.2.2
    have h32 := y_f7 _ (show h_B (k_r C) (k_N C) < 6 by omega)
    rw [f_X8_layWays_b11]
    exact q_it ((q_le (by omega) (by omega)).mpr (by omega)) (q_bd (q_some ⟨rfl, n_31 31 hM, fun w h => hw w (by omega)⟩))
  | succ e ih =>
    intro x u M hx hu hM hw
    obtain ⟨u, rfl⟩ : ∃ v, u = v + 1 := ⟨u - 1, by omega⟩
    have hV := hM.1.1
    have hK := hd.1
    have hB := hV.1.2.2.2
    have h32 := y_f7 _ (show h_B (k_r C) (k_N C) < 6 by omega)
    rw [f_X8_layWays_b11]
    refine q_if (fun q => absurd ((q_le (by omega) (by omega)).mp q) (by omega)) (q_bd (q_ob (q_mono (n_all (n := n) hn (n_31 (nI x) hM) hY (by rw [q_r, if_pos ⟨rfl, rfl⟩]) hd) (fun M1 h1 => ?_))))
    obtain ⟨hg, hM1, hL1⟩ := h1
    refine q_ob (q_mono (q_TH (a_ask (j := j) hn hV hd hk h4 hg hY hj) (g_X8_askOf n _ _ _ M1)) (fun M2 h2 => ?_))
    obtain ⟨⟨o1, o2⟩, g2⟩ := h2
    have eO : M2.2 172 46 = lN (w_O C day K k fl val j x) := o1
    have eU : M2.2 172 47 = lN (w_U C K k j x) := o2
    have hM2 : n_M C C0 C1 M2 := n_fr hM1 ⟨fun i j q => g2.1 i j (by unfold w_60; omega), fun i j q => g2.2 i j (by unfold w_66; omega)⟩
    refine q_gd (q_in (by omega) (by decide)) (q_bd (q_bd ?_))
    rw [q_cl (i := x) (by omega), q_up]
    refine ih (x + 1) u _ (by omega) (by omega) (n_fr (n_fr hM2 (k_fr_L (by omega))) (k_fr_L (by omega))) (fun w h => ?_)
    have l0 : ∀ i, (i = 200 ∨ i = 201) → M2.2 i w = M.2 i w := fun i q => (g2.2 i w (by unfold w_66; omega)).trans (hL1 i w (by unfold w_61; omega))
    by_cases c : w = x
    · subst c
      refine ⟨?_, ?_⟩
      · rw [q_l, if_neg (by omega), q_l, if_pos ⟨rfl, rfl⟩, eO]
      · rw [q_l, if_pos ⟨rfl, rfl⟩, q_l, if_neg (by omega), eU]
    · have hw' := hw w (by omega)
      refine ⟨?_, ?_⟩
      · rw [q_l, if_neg (by omega), q_l, if_neg (by omega), l0 200 (by omega)]
        exact hw'.1
      · rw [q_l, if_neg (by omega), q_l, if_neg (by omega), l0 201 (by omega)]
        exact hw'.2
/-! the least, the greatest -/
def w_R (wh p q r s : Nat) : Prop := if wh = 0 then p * s ≤ r * q else r * q ≤ p * s
theorem w_Rr (wh p q : Nat) : w_R wh p q p q := by
  unfold w_R
  split <;> exact Nat.le_refl _
theorem w_mc {p s r q v t : Nat} (h1 : p * s ≤ r * q) (h2 : r * v ≤ t * s) (hs : 0 < s) : p * v ≤ t * q := by
  apply Nat.le_of_mul_le_mul_right _ hs
  calc p * v * s = p * s * v := by ac_rfl
    _ ≤ r * q * v := Nat.mul_le_mul_right v h1
    _ = r * v * q := by ac_rfl
    _ ≤ t * s * q := Nat.mul_le_mul_right q h2
    _ = t * q * s := by ac_rfl
theorem w_Rt {wh p q r s t v : Nat} (h1 : w_R wh p q r s) (h2 : w_R wh r s t v) (hs : 0 < s) : w_R wh p q t v := by
  unfold w_R at *
  split
  · next c =>
    rw [if_pos c] at h1 h2
    exact w_mc h1 h2 hs
  · next c =>
    rw [if_neg c] at h1 h2
    exact w_mc h2 h1 hs
theorem w_Rn {wh p q r s : Nat} (h : ¬ w_R wh p q r s) : w_R wh r s p q := by
  unfold w_R at *
  split
  · next c =>
    rw [if_pos c] at h
    omega
  · next c =>
    rw [if_neg c] at h
    omega
theorem w_Req {wh a b o u a' b' o' u' : Nat} (h : a * u' = o' * b) (h' : a' * u = o * b') (hb : 0 < b) (hb' : 0 < b') (hu : 0 < u) (hu' : 0 < u') (r1 : w_R wh a b a' b') (r2 : w_R wh o u o' u') : a * u = o * b := by
  have k1 : a * b' ≤ a' * b ↔ a * u ≤ o * b := by
    constructor
    · intro q
      apply Nat.le_of_mul_le_mul_right _ hb'
      calc a * u * b' = a * b' * u := by ac_rfl
        _ ≤ a' * b * u := Nat.mul_le_mul_right u q
        _ = a' * u * b := by ac_rfl
        _ = o * b' * b := by rw [h']
        _ = o * b * b' := by ac_rfl
    · intro q
      apply Nat.le_of_mul_le_mul_right _ hu
      calc a * b' * u = a * u * b' := by ac_rfl
        _ ≤ o * b * b' := Nat.mul_le_mul_right b' q
        _ = o * b' * b := by ac_rfl
        _ = a' * u * b := by rw [h']
        _ = a' * b * u := by ac_rfl
  have k1' : a' * b ≤ a * b' ↔ o * b ≤ a * u := by
    constructor
    · intro q
      apply Nat.le_of_mul_le_mul_right _ hb'
      calc o * b * b' = o * b' * b := by ac_rfl
        _ = a' * u * b := by rw [h']
        _ = a' * b * u := by ac_rfl
        _ ≤ a * b' * u := Nat.mul_le_mul_right u q
        _ = a * u * b' := by ac_rfl
    · intro q
      apply Nat.le_of_mul_le_mul_right _ hu
      calc a' * b * u = a' * u * b := by ac_rfl
        _ = o * b' * b := by rw [h']
        _ = o * b * b' := by ac_rfl
        _ ≤ a * u * b' := Nat.mul_le_mul_right b' q
        _ = a * b' * u := by ac_rfl
  have k2 : o * u' ≤ o' * u → o * b ≤ a * u := by
    intro q
    apply Nat.le_of_mul_le_mul_right _ hu'
    calc o * b * u' = o * u' * b := by ac_rfl
      _ ≤ o' * u * b := Nat.mul_le_mul_right b q
      _ = o' * b * u := by ac_rfl
      _ = a * u' * u := by rw [h]
      _ = a * u * u' := by ac_rfl
  have k2' : o' * u ≤ o * u' → a * u ≤ o * b := by
    intro q
    apply Nat.le_of_mul_le_mul_right _ hu'
    calc a * u * u' = a * u' * u := by ac_rfl
      _ = o' * b * u := by rw [h]
      _ = o' * u * b := by ac_rfl
      _ ≤ o * u' * b := Nat.mul_le_mul_right b q
      _ = o * b * u' := by ac_rfl
  unfold w_R at r1 r2
  by_cases c : wh = 0
  · rw [if_pos c] at r1 r2
    exact Nat.le_antisymm (k1.mp r1) (k2 r2)
  · rw [if_neg c] at r1 r2
    exact Nat.le_antisymm (k2' r2) (k1'.mp r1)
theorem w_cmp {n : Nat} {M : m_M} {W : Nat} {a b o u : Nat → Nat} (hW : W ≤ 32) (ok : w_ok W a b o u) (hm : ∀ w, w < W → M.2 170 w = lN (a w) ∧ M.2 171 w = lN (b w)) {x y : Nat} (hx : x < W) (hy : y < W) : f_X7_compareWays (nI x) (nI y) M = some (if a x * b y < a y * b x then -1 else if a x * b y = a y * b x then 0 else 1) := by
  obtain ⟨⟨a1, b1, _⟩, _⟩ := ok x hx
  obtain ⟨⟨a2, b2, _⟩, _⟩ := ok y hy
  unfold f_X7_compareWays m_gd
  rw [if_pos (q_in (by omega) (by decide)), if_pos (q_in (by omega) (by decide)), q_cl (by omega), q_cl (by omega), (hm x hx).1, (hm x hx).2, (hm y hy).1, (hm y hy).2, q_cmp (q_m63 a1 b2) (q_m63 a2 b1)]
  rfl
theorem b_b73 {n : Nat} {C : k_C} {x1 x2 x4 : Int32} {wh : Nat} {a b o u : Nat → Nat} {M : m_M} {Q : Int32 × m_M → Prop} (hwh : wh < 2) (hB : h_B (k_r C) (k_N C) ≤ 5) (h3 : M.1 1 3 = nI (h_B (k_r C) (k_N C))) (ok : w_ok (2 ^ h_B (k_r C) (k_N C)) a b o u) (hm : ∀ w, w < 2 ^ h_B (k_r C) (k_N C) → M.2 170 w = lN (a w) ∧ M.2 171 w = lN (b w)) (hQ : ∀ f, f < 2 ^ h_B (k_r C) (k_N C) → (∀ w, w < 2 ^ h_B (k_r C) (k_N C) → w_R wh (a f) (b f) (a w) (b w)) → q_T (m_ob (f_X7_setFraction n (lN (a f)) (lN (b f)) M) fun M4 => some ((1 : Int32), M4)) Q) : ∀ (e x v f : Nat), x + e = 2 ^ h_B (k_r C) (k_N C) → e < v → f < x → (∀ w, w < x → w_R wh (a f) (b f) (a w) (b w)) → q_T (f_X7_sure_b73 n x1 x2 (nI wh) x4 v (nI f) (if wh = 0 then -1 else 1) (nI x) M) Q := by
  have h32 := y_f7 _ (show h_B (k_r C) (k_N C) < 6 by omega)
  intro e
  induction e with
  | zero =>
    intro x v f hx hv hf hR
    obtain ⟨v, rfl⟩ : ∃ z, v = z + 1 := ⟨v - 1, by omega⟩
    rw [f_X7_sure_b73]
    unfold f_X7_ways
    refine q_bd ?_
    rw [h3, y_f1 _ (by omega)]
    refine q_it ((q_le (by omega) (by omega)).mpr (by omega)) (q_gd (q_in (by omega) (by decide)) ?_)
    rw [q_cl (by omega), (hm f (by omega)).1, (hm f (by omega)).2]
    exact hQ f (by omega) (fun w h => hR w (by omega))
  | succ e ih =>
    intro x v f hx hv hf hR
    obtain ⟨v, rfl⟩ : ∃ z, v = z + 1 := ⟨v - 1, by omega⟩
    rw [f_X7_sure_b73]
    unfold f_X7_ways
    refine q_bd ?_
    rw [h3, y_f1 _ (by omega)]
    refine q_if (fun q => absurd ((q_le (by omega) (by omega)).mp q) (by omega)) (q_ob (q_of (w_cmp (n := n) h32 ok hm (show x < _ by omega) (show f < _ by omega)) ?_))
    rw [q_up]
    have hbx := (ok x (by omega)).2.2.1
    have hbf := (ok f (by omega)).2.2.1
    have change : ¬ w_R wh (a f) (b f) (a x) (b x) → q_T (f_X7_sure_b73 n x1 x2 (nI wh) x4 v (nI x) (if wh = 0 then -1 else 1) (nI (x + 1)) M) Q := fun c => ih (x + 1) v x (by omega) (by omega) (by omega) (fun w h => by
      by_cases q : w = x
      · subst q
        exact w_Rr _ _ _
      · exact w_Rt (w_Rn c) (hR w (by omega)) hbf)
    have keep : w_R wh (a f) (b f) (a x) (b x) → q_T (f_X7_sure_b73 n x1 x2 (nI wh) x4 v (nI f) (if wh = 0 then -1 else 1) (nI (x + 1)) M) Q := fun c => ih (x + 1) v f (by omega) (by omega) (by omega) (fun w h => by
      by_cases q : w = x
      · subst q
        exact c
      · exact hR w (by omega))
    have cs : wh = 0 ∨ wh = 1 := by omega
    rcases cs with q | q
    · subst q
      unfold w_R at change keep
      rw [if_pos rfl] at change keep ⊢
      by_cases c : a x * b f < a f * b x
      · rw [if_pos c]
        exact q_it rfl (change (by omega))
      · rw [if_neg c]
        refine q_if ?_ (keep (by omega))
        split <;> decide
    · subst q
      unfold w_R at change keep
      rw [if_neg (show ¬ (1 : Nat) = 0 by decide)] at change keep ⊢
      by_cases c : a x * b f < a f * b x
      · rw [if_pos c]
        exact q_if (by decide) (keep (by omega))
      · rw [if_neg c]
        by_cases c2 : a x * b f = a f * b x
        · rw [if_pos c2]
          exact q_if (by decide) (keep (by omega))
        · rw [if_neg c2]
          exact q_it rfl (change (by omega))
theorem q_lsub {X Y : Nat} (hx : X < 2 ^ 62) (hy : Y < 2 ^ 62) : (lN X - lN Y < 0 ↔ X < Y) ∧ (lN X - lN Y ≤ 0 ↔ X ≤ Y) := by
  have h : (lN X - lN Y).toInt = (X : Int) - Y := by
    rw [Int64.toInt_sub, pk_lT (by omega), pk_lT (by omega)]
    exact Int.bmod_eq_of_le (by omega) (by omega)
  have h0 : (0 : Int64).toInt = 0 := rfl
  rw [Int64.lt_iff_toInt_lt, Int64.le_iff_toInt_le, h, h0]
  omega
theorem a_b59 {n : Nat} {x1 x2 x4 : Int32} {wh W : Nat} {a b o u : Nat → Nat} {M : m_M} {Q : Int32 × m_M → Prop} (hwh : wh < 2) (h32 : W ≤ 32) (ok : w_ok W a b o u) (hm : ∀ w, w < W → M.2 200 w = lN (o w) ∧ M.2 201 w = lN (u w)) (hQ : ∀ f, f < W → (∀ w, w < W → w_R wh (o f) (u f) (o w) (u w)) → q_T (m_ob (f_X8_tell n (lN (o f)) (lN (u f)) M) fun M4 => some ((1 : Int32), M4)) Q) : ∀ (e x v f : Nat), x + e = W → e < v → f < x → (∀ w, w < x → w_R wh (o f) (u f) (o w) (u w)) → q_T (f_X8_sure_b59 n x1 x2 (nI wh) x4 v (nI W) (nI f) (nI x) M) Q := by
  intro e
  induction e with
  | zero =>
    intro x v f hx hv hf hR
    obtain ⟨v, rfl⟩ : ∃ z, v = z + 1 := ⟨v - 1, by omega⟩
    rw [f_X8_sure_b59]
    refine q_it ((q_le (by omega) (by omega)).mpr (by omega)) (q_gd (q_in (by omega) (by decide)) ?_)
    rw [q_cl (by omega), (hm f (by omega)).1, (hm f (by omega)).2]
    exact hQ f (by omega) (fun w h => hR w (by omega))
  | succ e ih =>
    intro x v f hx hv hf hR
    obtain ⟨v, rfl⟩ : ∃ z, v = z + 1 := ⟨v - 1, by omega⟩
    rw [f_X8_sure_b59]
    refine q_if (fun q => absurd ((q_le (by omega) (by omega)).mp q) (by omega)) (q_gd (q_in (by omega) (by decide)) (q_gd (q_in (by omega) (by decide)) ?_))
    rw [q_cl (by omega), q_cl (by omega), (hm f (by omega)).1, (hm f (by omega)).2, (hm x (by omega)).1, (hm x (by omega)).2, q_up, lN_mul, lN_mul]
    refine q_bd ?_
    have hux := (ok x (by omega)).2.2.2
    have huf := (ok f (by omega)).2.2.2
    obtain ⟨⟨_, _, ox, ux⟩, _⟩ := ok x (by omega)
    obtain ⟨⟨_, _, of, uf⟩, _⟩ := ok f (by omega)
    have m1 : o x * u f ≤ 120000000 * 120000 := Nat.mul_le_mul ox uf
    have m2 : o f * u x ≤ 120000000 * 120000 := Nat.mul_le_mul of ux
    have hs := q_lsub (X := o x * u f) (Y := o f * u x) (by omega) (by omega)
    have change : ¬ w_R wh (o f) (u f) (o x) (u x) → q_T (f_X8_sure_b59 n x1 x2 (nI wh) x4 v (nI W) (nI x) (nI (x + 1)) M) Q := fun c => ih (x + 1) v x (by omega) (by omega) (by omega) (fun w h => by
      by_cases q : w = x
      · subst q
        exact w_Rr _ _ _
      · exact w_Rt (w_Rn c) (hR w (by omega)) huf)
    have keep : w_R wh (o f) (u f) (o x) (u x) → q_T (f_X8_sure_b59 n x1 x2 (nI wh) x4 v (nI W) (nI f) (nI (x + 1)) M) Q := fun c => ih (x + 1) v f (by omega) (by omega) (by omega) (fun w h => by
      by_cases q : w = x
      · subst q
        exact c
      · exact hR w (by omega))
    unfold f_X8_sure_b110
    rw [q_up]
    have cs : wh = 0 ∨ wh = 1 := by omega
    rcases cs with q | q
    · subst q
      unfold w_R at change keep
      rw [if_pos rfl] at change keep
      refine q_it rfl ?_
      by_cases c : o x * u f < o f * u x
      · exact q_it (hs.1.mpr c) (change (by omega))
      · exact q_if (fun q => c (hs.1.mp q)) (q_if (by decide) (keep (by omega)))
    · subst q
      unfold w_R at change keep
      rw [if_neg (show ¬ (1 : Nat) = 0 by decide)] at change keep
      refine q_if (by decide) (q_it rfl ?_)
      by_cases c : o x * u f ≤ o f * u x
      · exact q_it (hs.2.mpr c) (keep (by omega))
      · exact q_if (fun q => c (hs.2.mp q)) (change (by omega))
theorem n_e {n : Nat} {C : k_C} {M : m_M} {x2 : Int32} {K : Nat} (hn : 200 < n) (hV : k_V C) (hA : k_A C 1 M) (hK : h_day (k_r C) (k_N C) x2 K) {d : Nat} (hd : d < 2 ^ 31) : q_T (f_X7_isTooEarly n (nI d) x2 M) (fun a => a.1 = (if d < h_D (k_r C) K then 0 else 1) ∧ h_fr M a.2) := by
  unfold f_X7_isTooEarly
  refine q_ob (q_mono (k_replay (n := n) (ns := 0) hn hV hA hK) (fun M1 h1 => q_bd ?_))
  have hD := k_D60 hV hK.1
  rw [k_there (day := 0) h1.1.1, e_inN hd (by omega)]
  by_cases c : d < h_D (k_r C) K
  · rw [if_pos c, if_pos c]
    exact q_if (by decide) (q_some ⟨rfl, h1.2⟩)
  · rw [if_neg c, if_neg c]
    exact q_it rfl (q_some ⟨rfl, h1.2⟩)
