/-! CALLS: sure, hangs -/
theorem z_sure {n : Nat} {x1 x2 x3 x4 : Int32} {M : m_M} (hn : 200 < n) (h : k_Inv M) : q_T (f_X7_sure n x1 x2 x3 x4 M) (fun a => z_eq a (f_X8_sure n x1 x2 x3 x4 a.2)) := by
  obtain ⟨C, C0, C1, hM⟩ := h
  obtain ⟨⟨hV, hA, hE⟩, hI⟩ := id hM
  have hDN := k_D60 hV (Nat.le_refl (k_N C))
  have hB := hV.1.2.2.2
  have h32 := y_f7 _ (show h_B (k_r C) (k_N C) < 6 by omega)
  have e8 : f_X8_isIn x3.toInt64 0 1 = e_in x3 2 := by
    have h := e_in_eq (x := x3) (n := 2) (by decide)
    rw [show (nI 2 - 1).toInt64 = 1 by decide +kernel] at h
    exact h
  have ref : ∀ M' : m_M, k_M C C0 C1 M' → e_in x1 (h_D (k_r C) (k_N C)) = 0 ∨ e_in x2 4 = 0 ∨ e_in x3 2 = 0 ∨ e_in x4 1000 = 0 → z_eq (-2, M') (f_X8_sure n x1 x2 x3 x4 M') := by
    intro M' hM' hc
    unfold z_eq f_X8_sure
    refine q_o2 (q_mono (k_asked (n := n) hn hM' x1 x4) (fun a ha => ?_))
    refine q_ite (fun _ => q_some ⟨rfl, C, C0, C1, ha.2.1⟩) (fun c => q_bd ?_)
    rw [e_ask8]
    refine q_ite (fun _ => q_some ⟨rfl, C, C0, C1, ha.2.1⟩) (fun c2 => q_bd ?_)
    rw [e8]
    refine q_it ?_ (q_some ⟨rfl, C, C0, C1, ha.2.1⟩)
    rw [ha.1] at c
    rcases hc with q | q | q | q
    · rw [if_pos q] at c
      exact absurd rfl c
    · exact absurd q c2
    · exact q
    · rw [if_pos q, ite_self] at c
      exact absurd rfl c
  unfold f_X7_sure
  refine q_bd ?_
  rw [e_dl7 hA.2.2.1]
  rcases e_in_of (x := x1) (n := h_D (k_r C) (k_N C)) (by omega) with ⟨e1, _⟩ | ⟨e1, d, hd, rfl⟩
  · exact q_it e1 (q_some (ref M hM (Or.inl e1)))
  refine q_if (by rw [e1]; decide) (q_bd ?_)
  rw [e_ask7]
  rcases e_in_of (x := x2) (n := 4) (by omega) with ⟨e3, _⟩ | ⟨e3, j, hj, rfl⟩
  · exact q_it e3 (q_some (ref M hM (Or.inr (Or.inl e3))))
  refine q_if (by rw [e3]; decide) ?_
  rcases e_in_of (x := x3) (n := 2) (by omega) with ⟨e4, n4⟩ | ⟨e4, wh, hwh, rfl⟩
  · have hc := ref M hM (Or.inr (Or.inr (Or.inl e4)))
    refine q_ite (fun _ => q_some hc) (fun c1 => q_ite (fun _ => q_some hc) (fun c2 => ?_))
    obtain ⟨i, hi, rfl⟩ := nI_of c1
    have l1 : (1 : Int32) < nI i ↔ 1 < i := q_lt (a := 1) (by decide) hi
    exact absurd ⟨i, by have : ¬ 1 < i := fun q => c2 (l1.mpr q); omega, rfl⟩ n4
  have l1 : (1 : Int32) < nI wh ↔ 1 < wh := q_lt (a := 1) (by decide) (by omega)
  refine q_if (nI_pos (by omega)) (q_if (fun q => absurd (l1.mp q) (by omega)) (q_bd ?_))
  rw [e_day7]
  rcases e_in_of (x := x4) (n := 1000) (by omega) with ⟨e2, _⟩ | ⟨e2, dy, hdy, rfl⟩
  · exact q_it e2 (q_some (ref M hM (Or.inr (Or.inr (Or.inr e2)))))
  refine q_if (by rw [e2]; decide) ?_
  obtain ⟨K, hK⟩ := k_isday hV (nI dy)
  have hDK := k_D60 hV hK.1
  refine q_o2 (q_mono (n_e (n := n) (d := d) hn hV hA hK (by omega)) (fun a0 ha0 => ?_))
  obtain ⟨t1, t2⟩ := ha0
  have hM1 := k_M_h hM t2
  rw [t1]
  by_cases c : d < h_D (k_r C) K
  · rw [if_pos c]
    refine q_it rfl ?_
    obtain ⟨fl, val, y1, y2⟩ := k_law hM1.1.2.1 (l := 0) (by omega)
    obtain ⟨k, k1, k2, rfl⟩ := h_D_ex _ _ _ c
    have ok := w_is hV hK.1 k1 k2 (nI dy) fl val j
    unfold f_X7_askInAllWays
    refine q_ob (q_mono (q_TH (b_ways (n := n) (fl := fl) (val := val) hn hK k1 k2 hj (2 ^ h_B (k_r C) (k_N C)) 0 n a0.2 (by omega) (by omega) (n_of hM1) y1 (fun w h => absurd h (Nat.not_lt_zero _))) (g_X7_askInAllWays n _ _ _ a0.2)) (fun M2 h2 => ?_))
    obtain ⟨⟨hM2, hm⟩, g⟩ := h2
    have fin : ∀ f, f < 2 ^ h_B (k_r C) (k_N C) → (∀ w, w < 2 ^ h_B (k_r C) (k_N C) → w_R wh (w_A C (nI dy) K k fl val j f) (w_B C K k j f) (w_A C (nI dy) K k fl val j w) (w_B C K k j w)) → q_T (m_ob (f_X7_setFraction n (lN (w_A C (nI dy) K k fl val j f)) (lN (w_B C K k j f)) M2) fun M4 => some ((1 : Int32), M4)) (fun a => z_eq a (f_X8_sure n (nI (h_D (k_r C) k)) (nI j) (nI wh) (nI dy) a.2)) := by
      intro f hf hR
      obtain ⟨⟨nA, nB, _, _⟩, cf, pB, _⟩ := ok f hf
      refine q_ob (q_of (f_set hn (by omega) pB (by omega)) (q_some ?_))
      have hM3 : n_M C C0 C1 (m_sL (m_sL M2 0 8 (lN (w_A C (nI dy) K k fl val j f / Nat.gcd (w_A C (nI dy) K k fl val j f) (w_B C K k j f)))) 0 9 (lN (w_B C K k j f / Nat.gcd (w_A C (nI dy) K k fl val j f) (w_B C K k j f)))) := n_fr (n_fr hM2 (k_fr_L (Or.inl rfl))) (k_fr_L (Or.inl rfl))
      have h8 : (m_sL (m_sL M2 0 8 (lN (w_A C (nI dy) K k fl val j f / Nat.gcd (w_A C (nI dy) K k fl val j f) (w_B C K k j f)))) 0 9 (lN (w_B C K k j f / Nat.gcd (w_A C (nI dy) K k fl val j f) (w_B C K k j f)))).2 0 8 = lN (w_A C (nI dy) K k fl val j f / Nat.gcd (w_A C (nI dy) K k fl val j f) (w_B C K k j f)) := by
        rw [q_l, if_neg (by omega), q_l, if_pos ⟨rfl, rfl⟩]
      have h9 : (m_sL (m_sL M2 0 8 (lN (w_A C (nI dy) K k fl val j f / Nat.gcd (w_A C (nI dy) K k fl val j f) (w_B C K k j f)))) 0 9 (lN (w_B C K k j f / Nat.gcd (w_A C (nI dy) K k fl val j f) (w_B C K k j f)))).2 0 9 = lN (w_B C K k j f / Nat.gcd (w_A C (nI dy) K k fl val j f) (w_B C K k j f)) := by
        rw [q_l, if_pos ⟨rfl, rfl⟩]
      generalize m_sL (m_sL M2 0 8 (lN (w_A C (nI dy) K k fl val j f / Nat.gcd (w_A C (nI dy) K k fl val j f) (w_B C K k j f)))) 0 9 (lN (w_B C K k j f / Nat.gcd (w_A C (nI dy) K k fl val j f) (w_B C K k j f))) = M3 at *
      unfold z_eq f_X8_sure
      refine q_o2 (q_mono (n_asked (n := n) hn hM3 _ _) (fun b hb' => ?_))
      obtain ⟨b1, b2, b3, b4⟩ := hb'
      rw [e1, if_neg (by decide), e2, if_neg (by decide)] at b1
      refine q_if (by rw [b1]; decide) (q_bd ?_)
      rw [e_ask8]
      refine q_if (by rw [e3]; decide) (q_bd ?_)
      rw [e8]
      refine q_if (by rw [e4]; decide) (q_ob (q_of (k_early hV b2.1.2.2 b3 hK hd) ?_))
      rw [if_pos c]
      refine q_it rfl ?_
      have lay : q_T (f_X8_layWays n (nI (h_D (k_r C) k)) (nI j) (nI dy) b.2) (fun q => q.1 = nI (2 ^ h_B (k_r C) (k_N C)) ∧ n_M C C0 C1 q.2 ∧ ∀ w, w < 2 ^ h_B (k_r C) (k_N C) → q.2.2 200 w = lN (w_O C (nI dy) K k fl val j w) ∧ q.2.2 201 w = lN (w_U C K k j w)) := by
        unfold f_X8_layWays
        refine q_ob (q_of (e_dm hn hV b2.1.2.2) ?_)
        rw [y_f1 _ (by omega)]
        exact a_ways (n := n) (fl := fl) (val := val) hn hK k1 k2 hj y2 (2 ^ h_B (k_r C) (k_N C)) 0 n b.2 (by omega) (by omega) b2 (fun w h => absurd h (Nat.not_lt_zero _))
      refine q_o2 (q_mono (q_TH lay (g_X8_layWays n _ _ _ b.2)) (fun q hq => ?_))
      obtain ⟨⟨q1, q2, q3⟩, g5⟩ := hq
      rw [q1]
      refine a_b59 (n := n) (wh := wh) (W := 2 ^ h_B (k_r C) (k_N C)) (a := w_A C (nI dy) K k fl val j) (b := w_B C K k j) (o := w_O C (nI dy) K k fl val j) (u := w_U C K k j) hwh h32 ok q3 (fun g' hg' hR' => ?_) (2 ^ h_B (k_r C) (k_N C) - 1) 1 n 0 (by have := Nat.two_pow_pos (h_B (k_r C) (k_N C)); omega) (by omega) (by omega) (fun w h => by obtain rfl : w = 0 := (by omega); exact w_Rr _ _ _)
      obtain ⟨⟨_, _, nO, nU⟩, _, _, pU⟩ := ok g' hg'
      have cg := ok (2 ^ h_B (k_r C) (k_N C) - 1 - g') (by omega)
      have cf2 := ok (2 ^ h_B (k_r C) (k_N C) - 1 - f) (by omega)
      have eqg := cg.2.1
      rw [show 2 ^ h_B (k_r C) (k_N C) - 1 - (2 ^ h_B (k_r C) (k_N C) - 1 - g') = g' by omega] at eqg
      have key := w_Req cf eqg pB cg.2.2.1 pU cf2.2.2.2 (hR _ (by omega)) (hR' _ (by omega))
      obtain ⟨f1, f2⟩ := f_low key pB pU
      refine q_ob (q_of (f_tell hn (by omega) pU (by omega)) (q_some ⟨rfl, C, C0, C1, ?_⟩))
      refine n_to (n_fr (n_fr q2 (k_fr_L (Or.inr (Or.inl rfl)))) (k_fr_L (Or.inr (Or.inl rfl)))) ⟨?_, ?_⟩
      · rw [q_l, if_neg (by omega), q_l, if_neg (by omega), q_l, if_neg (by omega), q_l, if_pos ⟨rfl, rfl⟩, g5.2 0 8 (by unfold w_72; omega), b4, h8, f1]
      · rw [q_l, if_neg (by omega), q_l, if_neg (by omega), q_l, if_pos ⟨rfl, rfl⟩, g5.2 0 9 (by unfold w_72; omega), b4, h9, f2]
    have h3 : M2.1 1 3 = nI (h_B (k_r C) (k_N C)) := hM2.1.2.1.2.2.2.1
    have loop := b_b73 (n := n) (x1 := nI (h_D (k_r C) k)) (x2 := nI j) (x4 := nI dy) (M := M2) hwh hB h3 ok hm fin (2 ^ h_B (k_r C) (k_N C) - 1) 1 n 0 (by have := Nat.two_pow_pos (h_B (k_r C) (k_N C)); omega) (by omega) (by omega) (fun w h => by obtain rfl : w = 0 := (by omega); exact w_Rr _ _ _)
    have cs : wh = 0 ∨ wh = 1 := by omega
    rcases cs with q | q
    · subst q
      exact q_it rfl loop
    · subst q
      exact q_if (by decide) loop
  · rw [if_neg c]
    refine q_if (by decide) (q_some ?_)
    unfold z_eq f_X8_sure
    refine q_o2 (q_mono (k_asked (n := n) hn hM1 _ _) (fun b hb' => ?_))
    obtain ⟨b1, b2, b3⟩ := hb'
    rw [e1, if_neg (by decide), e2, if_neg (by decide)] at b1
    refine q_if (by rw [b1]; decide) (q_bd ?_)
    rw [e_ask8]
    refine q_if (by rw [e3]; decide) (q_bd ?_)
    rw [e8]
    refine q_if (by rw [e4]; decide) (q_ob (q_of (k_early hV b2.1.2.2 b3 hK hd) ?_))
    rw [if_neg c]
    exact q_if (by decide) (q_some ⟨rfl, C, C0, C1, b2⟩)
/-! hangs: sets of bits -/
def y_n5 (b0 b1 b2 b3 b4 : Bool) : Int32 := ((((if b0 then 1 else 0) ||| (if b1 then 2 else 0)) ||| (if b2 then 4 else 0)) ||| (if b3 then 8 else 0)) ||| (if b4 then 16 else 0)
def y_nf (f : Nat → Bool) : Int32 := y_n5 (f 0) (f 1) (f 2) (f 3) (f 4)
theorem y_n5_or : ∀ b0 b1 b2 b3 b4 : Bool, ∀ k, k < 5 → y_n5 b0 b1 b2 b3 b4 ||| ((1 : Int32) <<< (nI k &&& 31)) = y_n5 (b0 || decide (0 = k)) (b1 || decide (1 = k)) (b2 || decide (2 = k)) (b3 || decide (3 = k)) (b4 || decide (4 = k)) := by decide +kernel
theorem y_nf_or (f : Nat → Bool) {k : Nat} (hk : k < 5) : y_nf f ||| ((1 : Int32) <<< (nI k &&& 31)) = y_nf (fun i => f i || decide (i = k)) := y_n5_or _ _ _ _ _ k hk
def y_any (P : Nat → Bool) : Nat → Nat → Bool
  | 0, _ => false
  | e + 1, x => P x || y_any P e (x + 1)
theorem y_any_iff (P : Nat → Bool) : ∀ e x, y_any P e x = true ↔ ∃ w, x ≤ w ∧ w < x + e ∧ P w = true
  | 0, x => by
    rw [y_any]
    constructor
    · intro h
      cases h
    · rintro ⟨w, h1, h2, _⟩
      omega
  | e + 1, x => by
    rw [y_any, Bool.or_eq_true, y_any_iff P e (x + 1)]
    constructor
    · rintro (h | ⟨w, h1, h2, h3⟩)
      · exact ⟨x, Nat.le_refl _, by omega, h⟩
      · exact ⟨w, by omega, by omega, h3⟩
    · rintro ⟨w, h1, h2, h3⟩
      by_cases c : w = x
      · subst c
        exact Or.inl h3
      · exact Or.inr ⟨w, by omega, by omega, h3⟩
def y_cd (a b : Nat → Nat) (w i : Nat) : Bool := decide (a w * b (w ||| 2 ^ i) ≠ a (w ||| 2 ^ i) * b w)
def y_rd (o u : Nat → Nat) (w i : Nat) : Bool := decide (o w * u (w ^^^ 2 ^ i) ≠ o (w ^^^ 2 ^ i) * u w)
theorem b_b62 {n B : Nat} {x1 x2 x3 : Int32} {q : Int32 → Int32 → m_M → Option (Int32 × m_M)} {a b o u : Nat → Nat} {M : m_M} {Q : Int32 × m_M → Prop} {w : Nat} (hB : B ≤ 5) (h3 : M.1 1 3 = nI B) (ok : w_ok (2 ^ B) a b o u) (hm : ∀ w, w < 2 ^ B → M.2 170 w = lN (a w) ∧ M.2 171 w = lN (b w)) (hw : w < 2 ^ B) : ∀ (e kk v : Nat) (f : Nat → Bool), kk + e = B → e < v → (∀ f', (∀ i, f' i = (f i || (decide (kk ≤ i ∧ i < B) && y_cd a b w i))) → q_T (q (y_nf f') (nI (w + 1)) M) Q) → q_T (f_X7_hangs_b62 n x1 x2 x3 q v (y_nf f) (nI w) (nI kk) M) Q := by
  have h32 := y_f7 B (by omega)
  intro e
  induction e with
  | zero =>
    intro kk v f hk hv hq
    obtain ⟨v, rfl⟩ : ∃ z, v = z + 1 := ⟨v - 1, by omega⟩
    rw [f_X7_hangs_b62, h3, q_up]
    refine q_it ((q_le (by omega) (by omega)).mpr (by omega)) (hq f (fun i => ?_))
    rw [decide_eq_false (by omega), Bool.false_and, Bool.or_false]
  | succ e ih =>
    intro kk v f hk hv hq
    obtain ⟨v, rfl⟩ : ∃ z, v = z + 1 := ⟨v - 1, by omega⟩
    have hor := (y_f5 B (by omega) w hw kk (by omega)).1
    obtain ⟨⟨a1, b1, _⟩, _⟩ := ok w hw
    obtain ⟨⟨a2, b2, _⟩, _⟩ := ok (w ||| 2 ^ kk) hor
    rw [f_X7_hangs_b62, h3]
    refine q_if (fun z => absurd ((q_le (by omega) (by omega)).mp z) (by omega)) (q_bd ?_)
    rw [y_f2 w (by omega) kk (by omega)]
    refine q_ob (q_of (w_cmp (n := n) h32 ok hm hw hor) ?_)
    rw [q_up]
    by_cases c : a w * b (w ||| 2 ^ kk) = a (w ||| 2 ^ kk) * b w
    · refine q_it ?_ (ih (kk + 1) v f (by omega) (by omega) (fun f' hf' => hq f' (fun i => ?_)))
      · rw [if_neg (by omega), if_pos c]
      · rw [hf']
        by_cases ci : i = kk
        · subst ci
          have : y_cd a b w i = false := by
            unfold y_cd
            rw [decide_eq_false_iff_not]
            exact fun z => z c
          rw [this, Bool.and_false, Bool.and_false]
        · have : decide (kk + 1 ≤ i ∧ i < B) = decide (kk ≤ i ∧ i < B) := by
            rw [decide_eq_decide]
            omega
          rw [this]
    · refine q_if ?_ (q_bd ?_)
      · split
        · decide
        · decide
      · rw [y_nf_or f (by omega)]
        refine ih (kk + 1) v _ (by omega) (by omega) (fun f' hf' => hq f' (fun i => ?_))
        rw [hf']
        by_cases ci : i = kk
        · subst ci
          have : y_cd a b w i = true := by
            unfold y_cd
            rw [decide_eq_true_iff]
            exact c
          rw [this, decide_eq_true (show i = i from rfl), decide_eq_true (show i ≤ i ∧ i < B by omega), Bool.or_true, Bool.true_or, Bool.true_and, Bool.or_true]
        · have : decide (kk + 1 ≤ i ∧ i < B) = decide (kk ≤ i ∧ i < B) := by
            rw [decide_eq_decide]
            omega
          rw [this, decide_eq_false ci, Bool.or_false]
theorem b_b50 {n B : Nat} {x1 x2 x3 : Int32} {a b o u : Nat → Nat} {M : m_M} {Q : Int32 × m_M → Prop} (hn : 200 < n) (hB : B ≤ 5) (h3 : M.1 1 3 = nI B) (ok : w_ok (2 ^ B) a b o u) (hm : ∀ w, w < 2 ^ B → M.2 170 w = lN (a w) ∧ M.2 171 w = lN (b w)) : ∀ (e w v : Nat) (f : Nat → Bool), w + e = 2 ^ B → e < v → (∀ f', (∀ i, f' i = (f i || (decide (i < B) && y_any (fun z => y_cd a b z i) e w))) → Q (y_nf f', M)) → q_T (f_X7_hangs_b50 n x1 x2 x3 v (y_nf f) (nI w) M) Q := by
  have h32 := y_f7 B (by omega)
  intro e
  induction e with
  | zero =>
    intro w v f hw hv hq
    obtain ⟨v, rfl⟩ : ∃ z, v = z + 1 := ⟨v - 1, by omega⟩
    rw [f_X7_hangs_b50]
    unfold f_X7_ways
    refine q_bd ?_
    rw [h3, y_f1 _ (by omega)]
    refine q_it ((q_le (by omega) (by omega)).mpr (by omega)) (q_some (hq f (fun i => ?_)))
    rw [y_any, Bool.and_false, Bool.or_false]
  | succ e ih =>
    intro w v f hw hv hq
    obtain ⟨v, rfl⟩ : ∃ z, v = z + 1 := ⟨v - 1, by omega⟩
    rw [f_X7_hangs_b50]
    unfold f_X7_ways
    refine q_bd ?_
    rw [h3, y_f1 _ (by omega)]
    refine q_if (fun z => absurd ((q_le (by omega) (by omega)).mp z) (by omega)) ?_
    refine b_b62 (n := n) (a := a) (b := b) (o := o) (u := u) hB h3 ok hm (show w < 2 ^ B by omega) B 0 n f (by omega) (by omega) (fun f1 hf1 => ?_)
    refine ih (w + 1) v f1 (by omega) (by omega) (fun f' hf' => hq f' (fun i => ?_))
    rw [hf', hf1, y_any]
    have : decide (0 ≤ i ∧ i < B) = decide (i < B) := by
      rw [decide_eq_decide]
      omega
    rw [this]
    cases f i <;> cases decide (i < B) <;> rfl
theorem a_b56 {n B : Nat} {x1 x2 x3 : Int32} {q : Int32 → Int32 → Int32 → m_M → Option (Int32 × m_M)} {a b o u : Nat → Nat} {M : m_M} {Q : Int32 × m_M → Prop} {w : Nat} (hB : B ≤ 5) (ok : w_ok (2 ^ B) a b o u) (hm : ∀ w, w < 2 ^ B → M.2 200 w = lN (o w) ∧ M.2 201 w = lN (u w)) (hw : w < 2 ^ B) : ∀ (e kk v : Nat) (f : Nat → Bool), kk + e = B → e < v → (∀ f', (∀ i, f' i = (f i || (decide (kk ≤ i ∧ i < B) && y_rd o u w i))) → q_T (q (nI (2 ^ B)) (y_nf f') (nI (w + 1)) M) Q) → q_T (f_X8_hangs_b56 n x1 x2 x3 q v (nI (2 ^ B)) (y_nf f) (nI w) (nI kk) M) Q := by
  have h32 := y_f7 B (by omega)
  intro e
  induction e with
  | zero =>
    intro kk v f hk hv hq
    obtain ⟨v, rfl⟩ : ∃ z, v = z + 1 := ⟨v - 1, by omega⟩
    rw [f_X8_hangs_b56, y_f1 kk (by omega), q_up]
    obtain rfl : kk = B := by omega
    refine q_it ((q_le (by omega) (by omega)).mpr (by omega)) (hq f (fun i => ?_))
    rw [decide_eq_false (by omega), Bool.false_and, Bool.or_false]
  | succ e ih =>
    intro kk v f hk hv hq
    obtain ⟨v, rfl⟩ : ∃ z, v = z + 1 := ⟨v - 1, by omega⟩
    have hor := (y_f5 B (by omega) w hw kk (by omega)).2.1
    obtain ⟨⟨_, _, o1, u1⟩, _⟩ := ok w hw
    obtain ⟨⟨_, _, o2, u2⟩, _⟩ := ok (w ^^^ 2 ^ kk) hor
    have hlt : 2 ^ kk < 2 ^ B := Nat.pow_lt_pow_right (by omega) (by omega)
    rw [f_X8_hangs_b56, y_f1 kk (by omega)]
    refine q_if (fun z => absurd ((q_le (by omega) (by omega)).mp z) (by omega)) (q_bd ?_)
    have hx : nI w ^^^ nI (2 ^ kk) = nI (w ^^^ 2 ^ kk) := by
      have := y_f3 w (by omega) kk (by omega)
      rw [y_f1 kk (by omega)] at this
      exact this
    rw [hx]
    refine q_gd (q_in (by omega) (by decide)) (q_gd (q_in (by omega) (by decide)) ?_)
    rw [q_cl (by omega), q_cl (by omega), (hm w hw).1, (hm w hw).2, (hm _ hor).1, (hm _ hor).2, lN_mul, lN_mul, q_up]
    by_cases c : o w * u (w ^^^ 2 ^ kk) = o (w ^^^ 2 ^ kk) * u w
    · refine q_it (by rw [c]) ?_
      rw [Int32.or_zero]
      refine ih (kk + 1) v f (by omega) (by omega) (fun f' hf' => hq f' (fun i => ?_))
      rw [hf']
      by_cases ci : i = kk
      · subst ci
        have : y_rd o u w i = false := by
          unfold y_rd
          rw [decide_eq_false_iff_not]
          exact fun z => z c
        rw [this, Bool.and_false, Bool.and_false]
      · have : decide (kk + 1 ≤ i ∧ i < B) = decide (kk ≤ i ∧ i < B) := by
          rw [decide_eq_decide]
          omega
        rw [this]
    · refine q_if (fun z => c ((pk_lEQ (q_m63 o1 u2) (q_m63 o2 u1)).mp z)) (q_bd ?_)
      have hor2 := y_nf_or f (k := kk) (by omega)
      rw [y_f1 kk (by omega)] at hor2
      rw [hor2]
      refine ih (kk + 1) v _ (by omega) (by omega) (fun f' hf' => hq f' (fun i => ?_))
      rw [hf']
      by_cases ci : i = kk
      · subst ci
        have : y_rd o u w i = true := by
          unfold y_rd
          rw [decide_eq_true_iff]
          exact c
        rw [this, decide_eq_true (show i = i from rfl), decide_eq_true (show i ≤ i ∧ i < B by omega), Bool.or_true, Bool.true_or, Bool.true_and, Bool.or_true]
      · have : decide (kk + 1 ≤ i ∧ i < B) = decide (kk ≤ i ∧ i < B) := by
          rw [decide_eq_decide]
          omega
        rw [this, decide_eq_false ci, Bool.or_false]
theorem a_b46 {n B : Nat} {x1 x2 x3 : Int32} {a b o u : Nat → Nat} {M : m_M} {Q : Int32 × m_M → Prop} (hn : 200 < n) (hB : B ≤ 5) (ok : w_ok (2 ^ B) a b o u) (hm : ∀ w, w < 2 ^ B → M.2 200 w = lN (o w) ∧ M.2 201 w = lN (u w)) : ∀ (e w v : Nat) (f : Nat → Bool), w + e = 2 ^ B → e < v → (∀ f', (∀ i, f' i = (f i || (decide (i < B) && y_any (fun z => y_rd o u z i) e w))) → Q (y_nf f', M)) → q_T (f_X8_hangs_b46 n x1 x2 x3 v (nI (2 ^ B)) (y_nf f) (nI w) M) Q := by
  have h32 := y_f7 B (by omega)
  intro e
  induction e with
  | zero =>
    intro w v f hw hv hq
    obtain ⟨v, rfl⟩ : ∃ z, v = z + 1 := ⟨v - 1, by omega⟩
    rw [f_X8_hangs_b46]
    refine q_it ((q_le (by omega) (by omega)).mpr (by omega)) (q_some (hq f (fun i => ?_)))
    rw [y_any, Bool.and_false, Bool.or_false]
  | succ e ih =>
    intro w v f hw hv hq
    obtain ⟨v, rfl⟩ : ∃ z, v = z + 1 := ⟨v - 1, by omega⟩
    rw [f_X8_hangs_b46]
    refine q_if (fun z => absurd ((q_le (by omega) (by omega)).mp z) (by omega)) ?_
    refine a_b56 (n := n) (a := a) (b := b) (o := o) (u := u) hB ok hm (show w < 2 ^ B by omega) B 0 n f (by omega) (by omega) (fun f1 hf1 => ?_)
    refine ih (w + 1) v f1 (by omega) (by omega) (fun f' hf' => hq f' (fun i => ?_))
    rw [hf', hf1, y_any]
    have : decide (0 ≤ i ∧ i < B) = decide (i < B) := by
      rw [decide_eq_decide]
      omega
    rw [this]
    cases f i <;> cases decide (i < B) <;> rfl
theorem y_both {B : Nat} {a b o u : Nat → Nat} (hB : B ≤ 5) (ok : w_ok (2 ^ B) a b o u) (i : Nat) (hi : i < B) : y_any (fun z => y_cd a b z i) (2 ^ B) 0 = y_any (fun z => y_rd o u z i) (2 ^ B) 0 := by
  have pr : ∀ v w, v < 2 ^ B → w < 2 ^ B → (a v * b w = a w * b v ↔ o (2 ^ B - 1 - v) * u (2 ^ B - 1 - w) = o (2 ^ B - 1 - w) * u (2 ^ B - 1 - v)) := by
    intro v w hv hw
    have o1 := ok v hv
    have o2 := ok w hw
    exact (f_lt o1.2.1 o2.2.1 o1.2.2.1 (ok (2 ^ B - 1 - v) (by omega)).2.2.2 o2.2.2.1 (ok (2 ^ B - 1 - w) (by omega)).2.2.2).2
  rw [Bool.eq_iff_iff, y_any_iff, y_any_iff]
  constructor
  · rintro ⟨w, _, hw, hd⟩
    have hw' : w < 2 ^ B := by omega
    obtain ⟨f1, f2, f3⟩ := y_f5 B (by omega) w hw' i hi
    unfold y_cd at hd
    rw [decide_eq_true_iff] at hd
    refine ⟨2 ^ B - 1 - w, by omega, by omega, ?_⟩
    unfold y_rd
    rw [decide_eq_true_iff]
    rcases f3 with q | q
    · rw [q] at hd
      exact absurd rfl hd
    · rw [q]
      exact fun z => hd ((pr w (w ||| 2 ^ i) hw' f1).mpr z)
  · rintro ⟨w, _, hw, hd⟩
    have hw' : w < 2 ^ B := by omega
    obtain ⟨f1, f2, f3⟩ := y_f5 B (by omega) w hw' i hi
    unfold y_rd at hd
    rw [decide_eq_true_iff] at hd
    have p2 := pr (2 ^ B - 1 - w) (2 ^ B - 1 - (w ^^^ 2 ^ i)) (by omega) (by omega)
    rw [show 2 ^ B - 1 - (2 ^ B - 1 - w) = w by omega, show 2 ^ B - 1 - (2 ^ B - 1 - (w ^^^ 2 ^ i)) = w ^^^ 2 ^ i by omega] at p2
    rcases y_f6 B (by omega) w hw' i hi with q | q
    · refine ⟨2 ^ B - 1 - (w ^^^ 2 ^ i), by omega, by omega, ?_⟩
      unfold y_cd
      rw [decide_eq_true_iff, q]
      exact fun z => hd (p2.mp z.symm)
    · refine ⟨2 ^ B - 1 - w, by omega, by omega, ?_⟩
      unfold y_cd
      rw [decide_eq_true_iff, q]
      exact fun z => hd (p2.mp z)
theorem z_hangs {n : Nat} {x1 x2 x4 : Int32} {M : m_M} (hn : 200 < n) (h : k_Inv M) : q_T (f_X7_hangs n x1 x2 x4 M) (fun a => z_eq a (f_X8_hangs n x1 x2 x4 a.2)) := by
  obtain ⟨C, C0, C1, hM⟩ := h
  obtain ⟨⟨hV, hA, hE⟩, hI⟩ := id hM
  have hDN := k_D60 hV (Nat.le_refl (k_N C))
  have hB := hV.1.2.2.2
  have h32 := y_f7 _ (show h_B (k_r C) (k_N C) < 6 by omega)
  have ref : ∀ M' : m_M, k_M C C0 C1 M' → e_in x1 (h_D (k_r C) (k_N C)) = 0 ∨ e_in x2 4 = 0 ∨ e_in x4 1000 = 0 → z_eq (-2, M') (f_X8_hangs n x1 x2 x4 M') := by
    intro M' hM' hc
    unfold z_eq f_X8_hangs
    refine q_o2 (q_mono (k_asked (n := n) hn hM' x1 x4) (fun a ha => ?_))
    refine q_ite (fun _ => q_some ⟨rfl, C, C0, C1, ha.2.1⟩) (fun c => q_bd ?_)
    rw [e_ask8]
    refine q_it ?_ (q_some ⟨rfl, C, C0, C1, ha.2.1⟩)
    rw [ha.1] at c
    rcases hc with q | q | q
    · rw [if_pos q] at c
      exact absurd rfl c
    · exact q
    · rw [if_pos q, ite_self] at c
      exact absurd rfl c
  unfold f_X7_hangs
  refine q_bd ?_
  rw [e_dl7 hA.2.2.1]
  rcases e_in_of (x := x1) (n := h_D (k_r C) (k_N C)) (by omega) with ⟨e1, _⟩ | ⟨e1, d, hd, rfl⟩
  · exact q_it e1 (q_some (ref M hM (Or.inl e1)))
  refine q_if (by rw [e1]; decide) (q_bd ?_)
  rw [e_ask7]
  rcases e_in_of (x := x2) (n := 4) (by omega) with ⟨e3, _⟩ | ⟨e3, j, hj, rfl⟩
  · exact q_it e3 (q_some (ref M hM (Or.inr (Or.inl e3))))
  refine q_if (by rw [e3]; decide) (q_bd ?_)
  rw [e_day7]
  rcases e_in_of (x := x4) (n := 1000) (by omega) with ⟨e2, _⟩ | ⟨e2, dy, hdy, rfl⟩
  · exact q_it e2 (q_some (ref M hM (Or.inr (Or.inr e2))))
  refine q_if (by rw [e2]; decide) ?_
  obtain ⟨K, hK⟩ := k_isday hV (nI dy)
  have hDK := k_D60 hV hK.1
  refine q_o2 (q_mono (n_e (n := n) (d := d) hn hV hA hK (by omega)) (fun a0 ha0 => ?_))
  obtain ⟨t1, t2⟩ := ha0
  have hM1 := k_M_h hM t2
  rw [t1]
  by_cases c : d < h_D (k_r C) K
  · rw [if_pos c]
    refine q_it rfl ?_
    obtain ⟨fl, val, y1, y2⟩ := k_law hM1.1.2.1 (l := 0) (by omega)
    obtain ⟨k, k1, k2, rfl⟩ := h_D_ex _ _ _ c
    have ok := w_is hV hK.1 k1 k2 (nI dy) fl val j
    unfold f_X7_askInAllWays
    refine q_ob (q_mono (q_TH (b_ways (n := n) (fl := fl) (val := val) hn hK k1 k2 hj (2 ^ h_B (k_r C) (k_N C)) 0 n a0.2 (by omega) (by omega) (n_of hM1) y1 (fun w h => absurd h (Nat.not_lt_zero _))) (g_X7_askInAllWays n _ _ _ a0.2)) (fun M2 h2 => ?_))
    obtain ⟨⟨hM2, hm⟩, g⟩ := h2
    have h3 : M2.1 1 3 = nI (h_B (k_r C) (k_N C)) := hM2.1.2.1.2.2.2.1
    have hM2k : k_M C C0 C1 M2 := n_to hM2 ⟨by rw [g.2 0 8 (by unfold w_19; omega), g.2 172 5 (by unfold w_19; omega)]; exact hM1.2.2.2.1, by rw [g.2 0 9 (by unfold w_19; omega), g.2 172 6 (by unfold w_19; omega)]; exact hM1.2.2.2.2⟩
    refine b_b50 (n := n) (a := w_A C (nI dy) K k fl val j) (b := w_B C K k j) (o := w_O C (nI dy) K k fl val j) (u := w_U C K k j) hn hB h3 ok hm (2 ^ h_B (k_r C) (k_N C)) 0 n (fun _ => false) (by omega) (by omega) (fun f1 hf1 => ?_)
    unfold z_eq f_X8_hangs
    refine q_o2 (q_mono (k_asked (n := n) hn hM2k _ _) (fun b hb' => ?_))
    obtain ⟨b1, b2, b3⟩ := hb'
    rw [e1, if_neg (by decide), e2, if_neg (by decide)] at b1
    refine q_if (by rw [b1]; decide) (q_bd ?_)
    rw [e_ask8]
    refine q_if (by rw [e3]; decide) (q_ob (q_of (k_early hV b2.1.2.2 b3 hK hd) ?_))
    rw [if_pos c]
    refine q_it rfl ?_
    have lay : q_T (f_X8_layWays n (nI (h_D (k_r C) k)) (nI j) (nI dy) b.2) (fun q => q.1 = nI (2 ^ h_B (k_r C) (k_N C)) ∧ n_M C C0 C1 q.2 ∧ ∀ w, w < 2 ^ h_B (k_r C) (k_N C) → q.2.2 200 w = lN (w_O C (nI dy) K k fl val j w) ∧ q.2.2 201 w = lN (w_U C K k j w)) := by
      unfold f_X8_layWays
      refine q_ob (q_of (e_dm hn hV b2.1.2.2) ?_)
      rw [y_f1 _ (by omega)]
      exact a_ways (n := n) (fl := fl) (val := val) hn hK k1 k2 hj y2 (2 ^ h_B (k_r C) (k_N C)) 0 n b.2 (by omega) (by omega) (n_of b2) (fun w h => absurd h (Nat.not_lt_zero _))
    refine q_o2 (q_mono (q_TH lay (g_X8_layWays n _ _ _ b.2)) (fun q hq => ?_))
    obtain ⟨⟨q1, q2, q3⟩, g5⟩ := hq
    rw [q1]
    have q2k : k_M C C0 C1 q.2 := n_to q2 ⟨by rw [g5.2 0 8 (by unfold w_72; omega), g5.2 172 5 (by unfold w_72; omega)]; exact b2.2.2.2.1, by rw [g5.2 0 9 (by unfold w_72; omega), g5.2 172 6 (by unfold w_72; omega)]; exact b2.2.2.2.2⟩
    refine a_b46 (n := n) (a := w_A C (nI dy) K k fl val j) (b := w_B C K k j) (o := w_O C (nI dy) K k fl val j) (u := w_U C K k j) hn hB ok q3 (2 ^ h_B (k_r C) (k_N C)) 0 n (fun _ => false) (by omega) (by omega) (fun f2 hf2 => ⟨?_, C, C0, C1, q2k⟩)
    have : f1 = f2 := by
      funext i
      rw [hf1, hf2]
      by_cases hi : i < h_B (k_r C) (k_N C)
      · rw [y_both hB ok i hi]
      · rw [decide_eq_false hi, Bool.false_and, Bool.false_and]
    rw [this]
  · rw [if_neg c]
    refine q_if (by decide) (q_some ?_)
    unfold z_eq f_X8_hangs
    refine q_o2 (q_mono (k_asked (n := n) hn hM1 _ _) (fun b hb' => ?_))
    obtain ⟨b1, b2, b3⟩ := hb'
    rw [e1, if_neg (by decide), e2, if_neg (by decide)] at b1
    refine q_if (by rw [b1]; decide) (q_bd ?_)
    rw [e_ask8]
    refine q_if (by rw [e3]; decide) (q_ob (q_of (k_early hV b2.1.2.2 b3 hK hd) ?_))
    rw [if_neg c]
    exact q_if (by decide) (q_some ⟨rfl, C, C0, C1, b2⟩)
