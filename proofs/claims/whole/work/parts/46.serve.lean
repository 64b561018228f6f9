/-! SERVED: what one gets of the purse, on both sides -/
def l_tk (L : l_L) (i g : Nat) : Nat := min (l_ow L i) (l_dp L i - g)
theorem l_bit : ∀ w, w < 64 → ∀ j, j < 6 → ((nI w >>> (nI j &&& 31)) &&& (1 : Int32)) = l_b (w.testBit j) := by decide +kernel
theorem l_n5b : ∀ b0 b1 b2 b3 b4 : Bool, ((y_n5 b0 b1 b2 b3 b4 >>> (nI 0 &&& 31)) &&& (1 : Int32)) = l_b b0 ∧ ((y_n5 b0 b1 b2 b3 b4 >>> (nI 1 &&& 31)) &&& (1 : Int32)) = l_b b1 ∧ ((y_n5 b0 b1 b2 b3 b4 >>> (nI 2 &&& 31)) &&& (1 : Int32)) = l_b b2 ∧ ((y_n5 b0 b1 b2 b3 b4 >>> (nI 3 &&& 31)) &&& (1 : Int32)) = l_b b3 := by decide +kernel
theorem l_nfb (f : Nat → Bool) {t : Nat} (ht : t < 4) : ((y_nf f >>> (nI t &&& 31)) &&& (1 : Int32)) = l_b (f t) := by
  have h := l_n5b (f 0) (f 1) (f 2) (f 3) (f 4)
  have hs : t = 0 ∨ t = 1 ∨ t = 2 ∨ t = 3 := by omega
  rcases hs with q | q | q | q <;> subst q
  · exact h.1
  · exact h.2.1
  · exact h.2.2.1
  · exact h.2.2.2
theorem l_b1 (b : Bool) : l_b b = 1 ↔ b = true := by cases b <;> decide
theorem l_b0 (b : Bool) : l_b b = 0 ↔ b = false := by cases b <;> decide
theorem l_isIn (x y : Int32) (b : Bool) (h : ((x >>> (y &&& 31)) &&& (1 : Int32)) = l_b b) : f_X6_isIn x y = l_b b := by
  unfold f_X6_isIn
  rw [h]
  cases b <;> decide
/-- the trades of p in which some of row w share, of the first x -/
def l_st (L : l_L) (w p : Nat) : Nat → Nat → Bool
  | 0, _ => false
  | x + 1, t => l_st L w p x t || (w.testBit x && l_la L x && decide (l_mn L x = p) && decide (t = l_tr L x))
def l_s4 (f : Nat → Bool) (P : Nat → Nat) : Nat := (if f 0 then P 0 else 0) + (if f 1 then P 1 else 0) + (if f 2 then P 2 else 0) + (if f 3 then P 3 else 0)
def l_SP (L : l_L) (w p : Nat) : Nat := l_s4 (l_st L w p (l_n L)) (l_PT L p)
theorem l_s4_le (f : Nat → Bool) (P : Nat → Nat) (h : ∀ t, P t ≤ 60000) : l_s4 f P ≤ 240000 := by
  have h0 := h 0
  have h1 := h 1
  have h2 := h 2
  have h3 := h 3
  unfold l_s4
  repeat' split
  all_goals omega
theorem l_s4_or (f g : Nat → Bool) (P : Nat → Nat) {t : Nat} (ht : t < 4) (h : ∀ i, g i = (f i || decide (i = t))) (hf : f t = false) : l_s4 g P = l_s4 f P + P t := by
  unfold l_s4
  rw [h 0, h 1, h 2, h 3]
  have hs : t = 0 ∨ t = 1 ∨ t = 2 ∨ t = 3 := by omega
  rcases hs with q | q | q | q <;> subst q <;> rw [hf] <;> simp <;> omega
theorem l_st_no {L : l_L} {w p x : Nat} (h : (w.testBit x && l_la L x && decide (l_mn L x = p)) = false) : l_st L w p (x + 1) = l_st L w p x := by
  funext t
  rw [l_st, h, Bool.false_and, Bool.or_false]
theorem l_st_yes {L : l_L} {w p x : Nat} (h1 : w.testBit x = true) (h2 : l_la L x = true) (h3 : l_mn L x = p) : l_st L w p (x + 1) = fun t => l_st L w p x t || decide (t = l_tr L x) := by
  funext t
  rw [l_st, h1, h2, decide_eq_true h3, Bool.true_and, Bool.true_and, Bool.true_and]
theorem l_st_in {L : l_L} {w p x t : Nat} (h : l_st L w p x t = true) (f : Nat → Bool) (hf : f = fun i => l_st L w p x i || decide (i = t)) : f = l_st L w p x := by
  funext i
  rw [hf]
  simp only []
  by_cases c : i = t
  · subst c
    rw [h, Bool.true_or]
  · rw [decide_eq_false c, Bool.or_false]
theorem l_st0 (L : l_L) (w p : Nat) : y_nf (l_st L w p 0) = 0 ∧ l_s4 (l_st L w p 0) (l_PT L p) = 0 := by
  have h : l_st L w p 0 = fun _ => false := by
    funext t
    rw [l_st]
  rw [h]
  exact ⟨by decide, rfl⟩
theorem b_sp8 {n : Nat} {L : l_L} {M : m_M} {w p : Nat} (hL : l_ok L) (hC : l_C L M) (hw : w < 64) (hp : p < 10) : ∀ (e x u : Nat), x + e = l_n L → e < u → f_X6_sharedParts_b8 n (nI p) (nI w) M u (lN (l_s4 (l_st L w p x) (l_PT L p))) (y_nf (l_st L w p x)) (nI x) = some (lN (l_SP L w p)) := by
  obtain ⟨n6, hi, hPT, hOD⟩ := hL
  obtain ⟨c0, c1⟩ := hC
  intro e
  induction e with
  | zero =>
    intro x u hx hu
    obtain ⟨u, rfl⟩ : ∃ v, u = v + 1 := ⟨u - 1, by omega⟩
    rw [f_X6_sharedParts_b8, c0, if_pos ((q_le (by omega) (by omega)).mpr (by omega)), show x = l_n L by omega]
    rfl
  | succ e ih =>
    intro x u hx hu
    obtain ⟨u, rfl⟩ : ∃ v, u = v + 1 := ⟨u - 1, by omega⟩
    obtain ⟨i1, i2, i3, i4, i5, i6⟩ := hi x (by omega)
    obtain ⟨e0, e1, e2, e3, e4, e5, e6, e7⟩ := c1 x (by omega)
    have ih' := ih (x + 1) u (by omega) (by omega)
    rw [f_X6_sharedParts_b8, c0, if_neg (fun q => absurd ((q_le (by omega) (by omega)).mp q) (by omega))]
    unfold m_bd m_gd
    dsimp only
    rw [l_isIn _ _ _ (l_bit w hw x (by omega)), q_up]
    by_cases cb : w.testBit x = true
    · rw [if_neg (by rw [cb]; decide), if_pos (q_in (by omega) (by decide)), q_cl (by omega), e0]
      by_cases cl : l_la L x = true
      · rw [if_pos cl]
        by_cases cm : l_mn L x = p
        · rw [if_pos (by rw [cm]), e1, if_pos cl, if_neg (nI_pos (by omega)), l_isIn _ _ _ (l_nfb _ i2), e4, if_pos cl, nI_l (by have := hPT (l_mn L x) (l_tr L x); omega), lN_add, y_nf_or _ (by omega)]
          rw [l_st_yes cb cl cm] at ih'
          by_cases ct : l_st L w p x (l_tr L x) = true
          · rw [if_neg (by rw [ct]; decide)]
            rw [l_st_in ct _ rfl] at ih'
            exact ih'
          · have cf : l_st L w p x (l_tr L x) = false := by
              cases h : l_st L w p x (l_tr L x) with
              | true => exact absurd h ct
              | false => rfl
            rw [if_pos (by rw [cf]; decide)]
            rw [l_s4_or (l_st L w p x) _ (l_PT L p) i2 (fun i => rfl) cf] at ih'
            rw [cm]
            exact ih'
        · rw [if_neg (fun q => cm ((nI_eq (by omega) (by omega)).mp q))]
          rw [l_st_no (by rw [decide_eq_false cm, Bool.and_false])] at ih'
          exact ih'
      · rw [if_neg cl, if_neg (fun q => q_m1 (by omega) q.symm)]
        rw [l_st_no (by rw [Bool.not_eq_true _ |>.mp cl, Bool.and_false, Bool.false_and])] at ih'
        exact ih'
    · rw [if_pos (by rw [Bool.not_eq_true _ |>.mp cb]; decide)]
      rw [l_st_no (by rw [Bool.not_eq_true _ |>.mp cb, Bool.false_and, Bool.false_and])] at ih'
      exact ih'
theorem b_sp0 {n : Nat} {L : l_L} {M : m_M} {w : Nat} {y : Int32} (hL : l_ok L) (hC : l_C L M) (hw : w < 64) : ∀ (e x u : Nat), x + e = l_n L → e < u → f_X6_sharedParts_b8 n (-1) (nI w) M u 0 y (nI x) = some 0 := by
  obtain ⟨n6, hi, hPT, hOD⟩ := hL
  obtain ⟨c0, c1⟩ := hC
  intro e
  induction e with
  | zero =>
    intro x u hx hu
    obtain ⟨u, rfl⟩ : ∃ v, u = v + 1 := ⟨u - 1, by omega⟩
    rw [f_X6_sharedParts_b8, c0, if_pos ((q_le (by omega) (by omega)).mpr (by omega))]
  | succ e ih =>
    intro x u hx hu
    obtain ⟨u, rfl⟩ : ∃ v, u = v + 1 := ⟨u - 1, by omega⟩
    obtain ⟨i1, i2, i3, i4, i5, i6⟩ := hi x (by omega)
    obtain ⟨e0, e1, e2, e3, e4, e5, e6, e7⟩ := c1 x (by omega)
    have ih' := ih (x + 1) u (by omega) (by omega)
    rw [f_X6_sharedParts_b8, c0, if_neg (fun q => absurd ((q_le (by omega) (by omega)).mp q) (by omega))]
    unfold m_bd m_gd
    dsimp only
    rw [l_isIn _ _ _ (l_bit w hw x (by omega)), q_up]
    by_cases cb : w.testBit x = true
    · rw [if_neg (by rw [cb]; decide), if_pos (q_in (by omega) (by decide)), q_cl (by omega), e0]
      by_cases cl : l_la L x = true
      · rw [if_pos cl, if_neg (q_m1 (by omega))]
        exact ih'
      · rw [if_neg cl, if_pos rfl, e1, if_neg cl, if_pos (by decide)]
        exact ih'
    · rw [if_pos (by rw [Bool.not_eq_true _ |>.mp cb]; decide)]
      exact ih'
theorem q_lNs {a b g : Nat} (ha : a < 2 ^ 40) (hb : b < 2 ^ 40) (hg : g < 2 ^ 40) : m_maxJ 0 (m_minJ (lN a) (lN b - lN g)) = lN (min a (b - g)) := by
  by_cases c : g ≤ b
  · rw [lN_sub c, q_mnJ (by omega) (by omega)]
    show m_maxJ (lN 0) _ = _
    rw [q_mxJ (by omega) (by omega), Nat.max_eq_right (Nat.zero_le _)]
  · have h : (lN b - lN g).toInt = (b : Int) - g := by
      rw [Int64.toInt_sub, pk_lT (by omega), pk_lT (by omega)]
      exact Int.bmod_eq_of_le (by omega) (by omega)
    have h0 : (0 : Int64).toInt = 0 := rfl
    unfold m_minJ
    rw [if_pos (Int64.lt_iff_toInt_lt.mpr (by rw [h, pk_lT (by omega)]; omega))]
    unfold m_maxJ
    rw [if_pos (Int64.lt_iff_toInt_lt.mpr (by rw [h, h0]; omega)), show b - g = 0 by omega, Nat.min_zero]
    rfl
theorem b_take {L : l_L} {M : m_M} {i g : Nat} (hL : l_ok L) (hC : l_C L M) (hi : i < l_n L) (hg : g < 2 ^ 40) : f_X6_take (nI i) (lN g) M = some (lN (l_tk L i g)) := by
  have n6 := hL.1
  obtain ⟨i1, i2, i3, i4, i5, i6⟩ := hL.2.1 i hi
  obtain ⟨e0, e1, e2, e3, e4, e5, e6, e7⟩ := hC.2 i hi
  unfold f_X6_take m_gd
  rw [if_pos (q_in (by omega) (by decide)), q_cl (by omega), e2, e3, nI_l (by omega), nI_l (by omega)]
  show some (m_maxJ 0 (m_minJ _ _)) = _
  rw [q_lNs (by omega) (by omega) hg]
  rfl
/-- what went ahead of place k to those of p, by order s, where row w shares -/
def l_gn (L : l_L) (s : Nat → Nat) (w p : Nat) : Nat → Nat
  | 0 => l_SP L w p
  | k + 1 => if l_mn L (s k) = p ∧ w.testBit (s k) = false then l_gn L s w p k + l_tk L (s k) (l_gn L s w p k) else l_gn L s w p k
theorem l_tk_le {L : l_L} (hL : l_ok L) {i : Nat} (hi : i < l_n L) (g : Nat) : l_tk L i g ≤ 1000 := by
  have := (hL.2.1 i hi).2.2.1
  unfold l_tk
  omega
theorem l_gn_le {L : l_L} (hL : l_ok L) {s : Nat → Nat} (hs : ∀ k, k < l_n L → s k < l_n L) (w p : Nat) : ∀ k, k ≤ l_n L → l_gn L s w p k ≤ 240000 + 1000 * k
  | 0, _ => l_s4_le _ _ (fun t => hL.2.2.1 p t)
  | k + 1, hk => by
    have ih := l_gn_le hL hs w p k (by omega)
    have ht := l_tk_le hL (hs k (by omega)) (l_gn L s w p k)
    rw [l_gn]
    split <;> omega
def l_id : Nat → Nat := fun k => k
theorem b_fp15 {n : Nat} {L : l_L} {M : m_M} {w i : Nat} (hL : l_ok L) (hC : l_C L M) (hw : w < 64) (hi : i < l_n L) (hla : l_la L i = true) : ∀ (e x u : Nat), x + e = i → e < u → f_X6_fromPurse_b15 n (nI i) (nI w) M u (lN (l_gn L l_id w (l_mn L i) x)) (nI x) = some (lN (l_tk L i (l_gn L l_id w (l_mn L i) i))) := by
  have n6 := hL.1
  have hle := l_gn_le hL (s := l_id) (fun k h => h) w (l_mn L i)
  obtain ⟨e0, _⟩ := hC.2 i hi
  have im := (hL.2.1 i hi).1
  intro e
  induction e with
  | zero =>
    intro x u hx hu
    obtain ⟨u, rfl⟩ : ∃ v, u = v + 1 := ⟨u - 1, by omega⟩
    obtain rfl : x = i := by omega
    rw [f_X6_fromPurse_b15, if_pos ((q_le (by omega) (by omega)).mpr (by omega)), b_take hL hC hi (by have := hle x (by omega); omega)]
    rfl
  | succ e ih =>
    intro x u hx hu
    obtain ⟨u, rfl⟩ : ∃ v, u = v + 1 := ⟨u - 1, by omega⟩
    have xm := (hL.2.1 x (by omega)).1
    obtain ⟨x0, _⟩ := hC.2 x (by omega)
    have ih' := ih (x + 1) u (by omega) (by omega)
    rw [l_gn] at ih'
    have hx' : l_id x = x := rfl
    rw [hx'] at ih'
    rw [f_X6_fromPurse_b15, if_neg (fun q => absurd ((q_le (by omega) (by omega)).mp q) (by omega))]
    unfold m_gd
    rw [if_pos (q_in (by omega) (by decide)), if_pos (q_in (by omega) (by decide)), q_cl (by omega), q_cl (by omega), x0, e0, if_pos hla, q_up]
    by_cases cl : l_la L x = true
    · rw [if_pos cl]
      by_cases cm : l_mn L x = l_mn L i
      · rw [if_pos (by rw [cm])]
        unfold m_bd
        dsimp only
        rw [l_isIn _ _ _ (l_bit w hw x (by omega))]
        by_cases cb : w.testBit x = false
        · rw [if_pos (by rw [cb]; decide), b_take hL hC (by omega) (by have := hle x (by omega); omega)]
          rw [if_pos ⟨cm, cb⟩] at ih'
          show f_X6_fromPurse_b15 n (nI i) (nI w) M u (lN _ + lN _) (nI (x + 1)) = _
          rw [lN_add]
          exact ih'
        · have cb' : w.testBit x = true := by
            cases h : w.testBit x with
            | true => rfl
            | false => exact absurd h cb
          rw [if_neg (by rw [cb']; decide)]
          rw [if_neg (fun q => cb q.2)] at ih'
          exact ih'
      · rw [if_neg (fun q => cm ((nI_eq (by omega) (by omega)).mp q))]
        rw [if_neg (fun q => cm q.1)] at ih'
        exact ih'
    · rw [if_neg cl, if_neg (fun q => q_m1 (by omega) q.symm)]
      have hz := ((hL.2.1 x (by omega)).2.2.2.2.1 (Bool.not_eq_true _ |>.mp cl)).1
      have ht : l_tk L x (l_gn L l_id w (l_mn L i) x) = 0 := by
        unfold l_tk
        rw [hz, Nat.zero_min]
      rw [ht, Nat.add_zero, ite_self] at ih'
      exact ih'
theorem b_fp0 {n : Nat} {L : l_L} {M : m_M} {w i : Nat} (hL : l_ok L) (hC : l_C L M) (hw : w < 64) (hi : i < l_n L) (hla : l_la L i = false) : ∀ (e x u : Nat), x + e = i → e < u → f_X6_fromPurse_b15 n (nI i) (nI w) M u 0 (nI x) = some 0 := by
  have n6 := hL.1
  obtain ⟨e0, _⟩ := hC.2 i hi
  have tk0 : ∀ x, x < l_n L → l_la L x = false → f_X6_take (nI x) 0 M = some 0 := by
    intro x hx hl
    have h := b_take (g := 0) hL hC hx (by omega)
    have hz := ((hL.2.1 x hx).2.2.2.2.1 hl).1
    unfold l_tk at h
    rw [hz, Nat.zero_min] at h
    exact h
  intro e
  induction e with
  | zero =>
    intro x u hx hu
    obtain ⟨u, rfl⟩ : ∃ v, u = v + 1 := ⟨u - 1, by omega⟩
    rw [f_X6_fromPurse_b15, if_pos ((q_le (by omega) (by omega)).mpr (by omega)), tk0 i hi hla]
    rfl
  | succ e ih =>
    intro x u hx hu
    obtain ⟨u, rfl⟩ : ∃ v, u = v + 1 := ⟨u - 1, by omega⟩
    have xm := (hL.2.1 x (by omega)).1
    obtain ⟨x0, _⟩ := hC.2 x (by omega)
    have ih' := ih (x + 1) u (by omega) (by omega)
    rw [f_X6_fromPurse_b15, if_neg (fun q => absurd ((q_le (by omega) (by omega)).mp q) (by omega))]
    unfold m_gd
    rw [if_pos (q_in (by omega) (by decide)), if_pos (q_in (by omega) (by decide)), q_cl (by omega), q_cl (by omega), x0, e0, q_up, hla, show (if (false : Bool) = true then nI (l_mn L i) else (-1 : Int32)) = -1 from rfl]
    by_cases cl : l_la L x = true
    · rw [if_pos cl, if_neg (q_m1 (by omega))]
      exact ih'
    · have cl' := Bool.not_eq_true _ |>.mp cl
      rw [cl', show (if (false : Bool) = true then nI (l_mn L x) else (-1 : Int32)) = -1 from rfl, if_pos (show (-1 : Int32) = -1 from rfl)]
      unfold m_bd
      dsimp only
      rw [l_isIn _ _ _ (l_bit w hw x (by omega))]
      by_cases cb : w.testBit x = false
      · rw [if_pos (by rw [cb]; decide), tk0 x (by omega) cl']
        show f_X6_fromPurse_b15 n (nI i) (nI w) M u ((0 : Int64) + 0) (nI (x + 1)) = _
        rw [Int64.add_zero]
        exact ih'
      · have cb' : w.testBit x = true := by
          cases h : w.testBit x with
          | true => rfl
          | false => exact absurd h cb
        rw [if_neg (by rw [cb']; decide)]
        exact ih'
theorem b_fp {n : Nat} {L : l_L} {M : m_M} {w i : Nat} (hn : 200 < n) (hL : l_ok L) (hC : l_C L M) (hw : w < 64) (hi : i < l_n L) : f_X6_fromPurse n (nI i) (nI w) M = some (lN (l_tk L i (l_gn L l_id w (l_mn L i) i))) := by
  have n6 := hL.1
  have im := (hL.2.1 i hi).1
  obtain ⟨e0, _⟩ := hC.2 i hi
  unfold f_X6_fromPurse m_gd f_X6_sharedParts
  rw [if_pos (q_in (by omega) (by decide)), q_cl (by omega), e0]
  cases hla : l_la L i with
  | true =>
    rw [if_pos rfl]
    have h := b_sp8 (n := n) (p := l_mn L i) hL hC hw im (l_n L) 0 n (by omega) (by omega)
    rw [(l_st0 L w (l_mn L i)).1, (l_st0 L w (l_mn L i)).2] at h
    have h' : f_X6_sharedParts_b8 n (nI (l_mn L i)) (nI w) M n 0 0 0 = some (lN (l_SP L w (l_mn L i))) := h
    rw [h']
    exact b_fp15 (n := n) hL hC hw hi hla i 0 n (by omega) (by omega)
  | false =>
    rw [if_neg (by decide)]
    have h := b_sp0 (n := n) (y := 0) hL hC hw (l_n L) 0 n (by omega) (by omega)
    have h' : f_X6_sharedParts_b8 n (-1) (nI w) M n 0 0 0 = some 0 := h
    rw [h']
    have hz := ((hL.2.1 i hi).2.2.2.2.1 hla).1
    unfold l_tk
    rw [hz, Nat.zero_min]
    exact b_fp0 (n := n) hL hC hw hi hla i 0 n (by omega) (by omega)
