/-! ORDERS: what the class tries -/
def l_fo (L : l_L) : List Nat → Nat → Nat
  | [], g => g
  | j :: q, g => l_fo L q (g + l_tk L j g)
def l_mq (L : l_L) (j : Nat) : Int32 := if l_la L j then nI (l_mn L j) else -1
def l_va (L : l_L) (i : Nat) (q : List Nat) : Prop := q.Nodup ∧ ∀ j, j ∈ q → j < l_n L ∧ j ≠ i ∧ l_mq L j = l_mq L i
def l_v (L : l_L) (i : Nat) (q : List Nat) : Nat := l_tk L i (l_fo L q 0)
theorem l_fo_ap (L : l_L) (x : Nat) : ∀ (q : List Nat) (g : Nat), l_fo L (q ++ [x]) g = l_fo L q g + l_tk L x (l_fo L q g)
  | [], g => rfl
  | j :: q, g => l_fo_ap L x q _
theorem l_fo_le {L : l_L} (hL : l_ok L) : ∀ (q : List Nat) (g : Nat), (∀ j, j ∈ q → j < l_n L) → l_fo L q g ≤ g + 1000 * q.length
  | [], g, _ => by
    rw [l_fo, List.length_nil]
    omega
  | j :: q, g, h => by
    have ih := l_fo_le hL q (g + l_tk L j g) (fun k hk => h k (List.mem_cons_of_mem _ hk))
    have := l_tk_le hL (h j List.mem_cons_self) g
    rw [l_fo, List.length_cons]
    omega
theorem l_va_len {L : l_L} {i : Nat} (hL : l_ok L) (hi : i < l_n L) {q : List Nat} (h : l_va L i q) : q.length ≤ 5 := by
  have hn := hL.1
  have h1 : (i :: q).Nodup := List.nodup_cons.mpr ⟨fun w => (h.2 i w).2.1 rfl, h.1⟩
  have h2 : (i :: q).length ≤ (List.range (l_n L)).length := h1.length_le_of_subset (fun x hx => by
    rw [List.mem_range]
    rcases List.mem_cons.mp hx with e | e
    · rw [e]
      exact hi
    · exact (h.2 x e).1)
  rw [List.length_range, List.length_cons] at h2
  omega
theorem o_b1 : ∀ w, w < 64 → ∀ x, x < 6 → (w ||| 2 ^ x) < 64 ∧ ∀ j, j < 6 → (w ||| 2 ^ x).testBit j = (w.testBit j || decide (j = x)) := by decide +kernel
/-- what a stretch of trying leaves -/
def o_R (L : l_L) (i : Nat) (M M' : m_M) (a b : Nat) (cov : List Nat → Prop) : Prop := (∀ k j, M'.1 k j = M.1 k j) ∧ ∃ a' b', M'.2 159 9 = lN a' ∧ M'.2 159 10 = lN b' ∧ (a' ≤ a ∧ b ≤ b' ∧ b' < 2 ^ 63) ∧ (a' = a ∨ ∃ q, l_va L i q ∧ a' = l_v L i q) ∧ (b' = b ∨ ∃ q, l_va L i q ∧ b' = l_v L i q) ∧ ∀ q, cov q → l_va L i q → a' ≤ l_v L i q ∧ l_v L i q ≤ b'
theorem l_C_e {L : l_L} {M M' : m_M} (h : l_C L M) (e : ∀ i j, M'.1 i j = M.1 i j) : l_C L M' := by
  obtain ⟨h0, h1⟩ := h
  refine ⟨(e _ _).trans h0, fun i hi => ?_⟩
  have := h1 i hi
  unfold l_C1 at *
  rw [e, e, e, e, e, e, e, e]
  exact this
theorem o_b45 {n d : Nat} {L : l_L} {i w : Nat} {pre : List Nat} (hL : l_ok L) (hi : i < l_n L) (hp : l_va L i pre) (hw : w < 64) (hb : ∀ j, j < 6 → w.testBit j = decide (j ∈ pre)) (rec : ∀ (x : Nat) (M : m_M) (a b : Nat), l_va L i (pre ++ [x]) → l_C L M → M.2 159 9 = lN a → M.2 159 10 = lN b → a < 2 ^ 63 → b < 2 ^ 63 → q_T (f_X6_tryAhead n d (nI i) (nI (w ||| 2 ^ x)) (lN (l_fo L (pre ++ [x]) 0)) (nI (pre.length + 1)) M) (fun M' => o_R L i M M' a b (fun q => ∃ r, q = (pre ++ [x]) ++ r))) : ∀ (e x u : Nat) (M : m_M) (a b : Nat), x + e = l_n L → e < u → l_C L M → M.2 159 9 = lN a → M.2 159 10 = lN b → a < 2 ^ 63 → b < 2 ^ 63 → q_T (f_X6_tryAhead_b45 n (f_X6_tryAhead n d) (nI i) (nI w) (lN (l_fo L pre 0)) (nI pre.length) u (nI x) M) (fun M' => o_R L i M M' a b (fun q => ∃ k r, x ≤ k ∧ q = pre ++ k :: r)) := by
  have n6 := hL.1
  intro e
  induction e with
  | zero =>
    intro x u M a b hx hu hC h9 h10 ha hbb
    obtain ⟨u, rfl⟩ : ∃ v, u = v + 1 := ⟨u - 1, by omega⟩
    rw [f_X6_tryAhead_b45, hC.1]
    refine q_it ((q_le (by omega) (by omega)).mpr (by omega)) (q_some ⟨fun _ _ => rfl, a, b, h9, h10, ⟨Nat.le_refl _, Nat.le_refl _, hbb⟩, Or.inl rfl, Or.inl rfl, ?_⟩)
    rintro q ⟨k, r, hk, rfl⟩ hv
    have := (hv.2 k (List.mem_append_right _ List.mem_cons_self)).1
    omega
  | succ e ih =>
    intro x u M a b hx hu hC h9 h10 ha hbb
    obtain ⟨u, rfl⟩ : ∃ v, u = v + 1 := ⟨u - 1, by omega⟩
    have hxn : x < l_n L := by omega
    obtain ⟨e0, _⟩ := hC.2 x hxn
    obtain ⟨i0, _⟩ := hC.2 i hi
    have e0' : M.1 160 x = l_mq L x := e0
    have i0' : M.1 160 i = l_mq L i := i0
    rw [f_X6_tryAhead_b45, hC.1]
    refine q_if (fun q => absurd ((q_le (by omega) (by omega)).mp q) (by omega)) ?_
    rw [q_up]
    have skip : (¬ ∃ r, l_va L i (pre ++ x :: r)) → q_T (f_X6_tryAhead_b45 n (f_X6_tryAhead n d) (nI i) (nI w) (lN (l_fo L pre 0)) (nI pre.length) u (nI (x + 1)) M) (fun M' => o_R L i M M' a b (fun q => ∃ k r, x ≤ k ∧ q = pre ++ k :: r)) := by
      intro hno
      refine q_mono (ih (x + 1) u M a b (by omega) (by omega) hC h9 h10 ha hbb) (fun M' h => ?_)
      obtain ⟨p1, a', b', p2, p3, p4, p5, p6, p7⟩ := h
      refine ⟨p1, a', b', p2, p3, p4, p5, p6, ?_⟩
      rintro q ⟨k, r, hk, rfl⟩ hv
      by_cases z : k = x
      · subst z
        exact absurd ⟨r, hv⟩ hno
      · exact p7 _ ⟨k, r, by omega, rfl⟩ hv
    have hin : ∀ r, x ∈ pre ++ x :: r := fun r => List.mem_append_right _ List.mem_cons_self
    by_cases cx : x = i
    · refine q_it (by rw [cx]) (skip ?_)
      rintro ⟨r, hv⟩
      exact (hv.2 x (hin r)).2.1 cx
    refine q_if (fun q => cx ((nI_eq (by omega) (by omega)).mp q)) (q_gd (q_in (by omega) (by decide)) (q_gd (q_in (by omega) (by decide)) ?_))
    rw [q_cl (by omega), q_cl (by omega), e0', i0']
    by_cases cm : l_mq L x = l_mq L i
    · refine q_it cm (q_bd ?_)
      rw [l_isIn _ _ _ (l_bit w hw x (by omega)), hb x (by omega)]
      by_cases ci : x ∈ pre
      · refine q_if (by rw [decide_eq_true ci]; decide) (skip ?_)
        rintro ⟨r, hv⟩
        have := (List.nodup_append.mp hv.1).2.2 x ci x List.mem_cons_self
        exact this rfl
      · have hfo := l_fo_le hL pre 0 (fun j hj => (hp.2 j hj).1)
        have hlen := l_va_len hL hi hp
        refine q_it (by rw [decide_eq_false ci]; rfl) (q_ob (q_of (b_take hL hC hxn (by omega)) ?_))
        have hv1 : l_va L i (pre ++ [x]) := by
          refine ⟨List.nodup_append.mpr ⟨hp.1, List.nodup_cons.mpr ⟨by simp, List.nodup_nil⟩, fun a' ha' b' hb' => ?_⟩, fun j hj => ?_⟩
          · have : b' = x := by simpa using hb'
            rw [this]
            exact fun q => ci (q ▸ ha')
          · rcases List.mem_append.mp hj with q | q
            · exact hp.2 j q
            · have : j = x := by simpa using q
              rw [this]
              exact ⟨hxn, cx, cm⟩
        rw [r_f2 w hw x (by omega), lN_add, q_up, ← l_fo_ap]
        refine q_ob (q_mono (rec x M a b hv1 hC h9 h10 ha hbb) (fun M1 h1 => ?_))
        obtain ⟨p1, a1, b1, p2, p3, p4, p5, p6, p7⟩ := h1
        refine q_mono (ih (x + 1) u M1 a1 b1 (by omega) (by omega) (l_C_e hC p1) p2 p3 (by omega) p4.2.2) (fun M2 h2 => ?_)
        obtain ⟨s1, a2, b2, s2, s3, s4, s5, s6, s7⟩ := h2
        refine ⟨fun k j => (s1 k j).trans (p1 k j), a2, b2, s2, s3, ⟨by omega, by omega, s4.2.2⟩, ?_, ?_, ?_⟩
        · rcases s5 with q | q
          · rw [q]
            exact p5
          · exact Or.inr q
        · rcases s6 with q | q
          · rw [q]
            exact p6
          · exact Or.inr q
        · rintro q ⟨k, r, hk, rfl⟩ hv
          by_cases z : k = x
          · subst z
            have := p7 (pre ++ k :: r) ⟨r, by rw [List.append_assoc]; rfl⟩ hv
            omega
          · exact s7 _ ⟨k, r, by omega, rfl⟩ hv
    · refine q_if cm (skip ?_)
      rintro ⟨r, hv⟩
      exact cm (hv.2 x (hin r)).2.2
theorem o_try {n : Nat} {L : l_L} {i : Nat} (hn : 200 < n) (hL : l_ok L) (hi : i < l_n L) : ∀ (d : Nat) (pre : List Nat) (w : Nat) (M : m_M) (a b : Nat), l_va L i pre → 7 ≤ pre.length + d → w < 64 → (∀ j, j < 6 → w.testBit j = decide (j ∈ pre)) → l_C L M → M.2 159 9 = lN a → M.2 159 10 = lN b → a < 2 ^ 63 → b < 2 ^ 63 → q_T (f_X6_tryAhead n d (nI i) (nI w) (lN (l_fo L pre 0)) (nI pre.length) M) (fun M' => o_R L i M M' a b (fun q => ∃ r, q = pre ++ r)) := by
  have n6 := hL.1
  intro d
  induction d with
  | zero =>
    intro pre w M a b hp hd
    have := l_va_len hL hi hp
    omega
  | succ d ih =>
    intro pre w M a b hp hd hw hb hC h9 h10 ha hbb
    have hlen := l_va_len hL hi hp
    have hfo := l_fo_le hL pre 0 (fun j hj => (hp.2 j hj).1)
    have hv1000 : l_v L i pre ≤ 1000 := l_tk_le hL hi _
    rw [f_X6_tryAhead]
    unfold fb_X6_tryAhead
    refine q_ob (q_of (b_take hL hC hi (by omega)) (q_bd ?_))
    rw [h9, show lN (l_tk L i (l_fo L pre 0)) = lN (l_v L i pre) from rfl, q_mnJ ha (by omega)]
    refine q_bd (q_bd ?_)
    have e10 : (m_sL M 159 9 (lN (min a (l_v L i pre)))).2 159 10 = lN b := by rw [q_l, if_neg (by omega), h10]
    rw [e10, q_mxJ hbb (by omega)]
    refine q_bd ?_
    have l6 : nI pre.length < (6 : Int32) := (q_lt (b := 6) (by omega) (by decide)).mpr (by omega)
    refine q_it l6 ?_
    refine q_mono (o_b45 (n := n) (d := d) hL hi hp hw hb (fun x M2 a2 b2 hv hC2 g9 g10 ha2 hb2 => ?_) (l_n L) 0 n (m_sL (m_sL M 159 9 (lN (min a (l_v L i pre)))) 159 10 (lN (max b (l_v L i pre)))) (min a (l_v L i pre)) (max b (l_v L i pre)) (by omega) (by omega) (l_C_e hC (fun _ _ => rfl)) (by rw [q_l, if_neg (by omega), q_l, if_pos ⟨rfl, rfl⟩]) (by rw [q_l, if_pos ⟨rfl, rfl⟩]) (by omega) (by omega)) (fun M' h => ?_)
    · have hx := (hv.2 x (List.mem_append_right _ List.mem_cons_self)).1
      obtain ⟨o1, o2⟩ := o_b1 w hw x (by omega)
      have hl : (pre ++ [x]).length = pre.length + 1 := by rw [List.length_append]; rfl
      have := ih (pre ++ [x]) (w ||| 2 ^ x) M2 a2 b2 hv (by rw [hl]; omega) o1 (fun j hj => by
        rw [o2 j hj, hb j hj, ← Bool.decide_or, decide_eq_decide, List.mem_append, List.mem_singleton]) hC2 g9 g10 ha2 hb2
      rw [hl] at this
      exact this
    · obtain ⟨p1, a', b', p2, p3, p4, p5, p6, p7⟩ := h
      have m1 : a' ≤ a := Nat.le_trans p4.1 (Nat.min_le_left _ _)
      have m2 : b ≤ b' := Nat.le_trans (Nat.le_max_left _ _) p4.2.1
      refine ⟨p1, a', b', p2, p3, ⟨m1, m2, p4.2.2⟩, ?_, ?_, ?_⟩
      · rcases p5 with q | q
        · by_cases c : a ≤ l_v L i pre
          · exact Or.inl (by rw [q, Nat.min_eq_left c])
          · exact Or.inr ⟨pre, hp, by rw [q, Nat.min_eq_right (Nat.le_of_lt (Nat.lt_of_not_le c))]⟩
        · exact Or.inr q
      · rcases p6 with q | q
        · by_cases c : l_v L i pre ≤ b
          · exact Or.inl (by rw [q, Nat.max_eq_left c])
          · exact Or.inr ⟨pre, hp, by rw [q, Nat.max_eq_right (Nat.le_of_lt (Nat.lt_of_not_le c))]⟩
        · exact Or.inr q
      · rintro q ⟨r, rfl⟩ hv
        cases r with
        | nil =>
          rw [List.append_nil]
          exact ⟨Nat.le_trans p4.1 (Nat.min_le_right _ _), Nat.le_trans (Nat.le_max_right _ _) p4.2.1⟩
        | cons k r => exact p7 _ ⟨k, r, Nat.zero_le _, rfl⟩ hv
theorem o_tries {n : Nat} {L : l_L} {M : m_M} {i : Nat} (hn : 200 < n) (hL : l_ok L) (hC : l_C L M) (hi : i < l_n L) : q_T (f_X6_tryOrders n (nI i) M) (fun M' => ∃ lo hi', M'.2 159 9 = lN lo ∧ M'.2 159 10 = lN hi' ∧ (∃ q, l_va L i q ∧ lo = l_v L i q) ∧ (∃ q, l_va L i q ∧ hi' = l_v L i q) ∧ ∀ q, l_va L i q → lo ≤ l_v L i q ∧ l_v L i q ≤ hi') := by
  have hv0 : l_va L i [] := ⟨List.nodup_nil, fun j hj => by cases hj⟩
  have v1000 : l_v L i [] ≤ 1000 := l_tk_le hL hi _
  have n6 := hL.1
  obtain ⟨_, _, i3, _, _, _⟩ := hL.2.1 i hi
  have hle : l_v L i [] ≤ l_ow L i := Nat.min_le_left _ _
  have e0 : (M.1 162 (nI i).toNatClampNeg).toInt64 = lN (l_ow L i) := by
    rw [q_cl (by omega), (hC.2 i hi).2.2.1, nI_l (by omega)]
  unfold f_X6_tryOrders
  refine q_gd (q_in (by omega) (by decide)) ?_
  rw [e0]
  refine q_bd (q_bd (q_ob (q_mono (o_try (n := n) hn hL hi 10 [] 0 (m_sL (m_sL M 159 9 (lN (l_ow L i))) 159 10 0) (l_ow L i) 0 hv0 (by rw [List.length_nil]; omega) (by omega) (fun j hj => by rw [Nat.zero_testBit]; simp) (l_C_e hC (fun _ _ => rfl)) (by rw [q_l, if_neg (by omega), q_l, if_pos ⟨rfl, rfl⟩]) (by rw [q_l, if_pos ⟨rfl, rfl⟩]; rfl) (by omega) (by omega)) (fun M3 h3 => q_some ?_))))
  obtain ⟨p1, a', b', p2, p3, p4, p5, p6, p7⟩ := h3
  have c0 := p7 [] ⟨[], rfl⟩ hv0
  refine ⟨a', b', p2, p3, ?_, ?_, fun q hq => p7 q ⟨q, rfl⟩ hq⟩
  · rcases p5 with q | q
    · exact ⟨[], hv0, by omega⟩
    · exact q
  · rcases p6 with q | q
    · exact ⟨[], hv0, by omega⟩
    · exact q
/-! the reference tries all orders -/
def o_cd (L : l_L) (i j : Nat) : Bool := decide (l_mq L j = l_mq L i)
def o_bf (i : Nat) : List Nat → List Nat
  | [] => []
  | x :: r => if x = i then [] else x :: o_bf i r
def o_vl (L : l_L) (i : Nat) (a : List Nat) : Nat := l_v L i ((o_bf i a).filter (o_cd L i))
theorem o_bf_e {i : Nat} (r : List Nat) : ∀ q : List Nat, i ∉ q → o_bf i (q ++ i :: r) = q
  | [], _ => by
    rw [List.nil_append, o_bf, if_pos rfl]
  | x :: q, h => by
    have h1 : x ≠ i := fun e => h (e ▸ List.mem_cons_self)
    rw [List.cons_append, o_bf, if_neg h1, o_bf_e r q (fun e => h (List.mem_cons_of_mem _ e))]
theorem l_st00 (L : l_L) (p : Nat) : ∀ x, l_st L 0 p x = fun _ => false
  | 0 => by
    funext t
    rw [l_st]
  | x + 1 => by
    rw [l_st_no (by rw [Nat.zero_testBit, Bool.false_and, Bool.false_and]), l_st00 L p x]
theorem l_SP0 (L : l_L) (p : Nat) : l_SP L 0 p = 0 := by
  unfold l_SP
  rw [l_st00]
  rfl
theorem o_gn {L : l_L} {i : Nat} (hL : l_ok L) (hi : i < l_n L) (hla : l_la L i = true) (a : List Nat) (ha : ∀ j, j ∈ a → j < l_n L) : ∀ k, k ≤ a.length → l_gn L (o_f a) 0 (l_mn L i) k = l_fo L ((a.take k).filter (o_cd L i)) 0
  | 0, _ => by
    rw [l_gn, l_SP0, List.take_zero, List.filter_nil, l_fo]
  | k + 1, hk => by
    have ih := o_gn hL hi hla a ha k (by omega)
    have hlt : k < a.length := by omega
    have hak : o_f a k = a[k] := by
      unfold o_f
      rw [List.getD_eq_getElem?_getD, List.getElem?_eq_getElem hlt]
      rfl
    have hj := ha a[k] (List.getElem_mem hlt)
    have im := (hL.2.1 i hi).1
    have jm := (hL.2.1 _ hj).1
    rw [l_gn, hak, List.take_succ_eq_append_getElem hlt, List.filter_append, Nat.zero_testBit, ih]
    by_cases c : o_cd L i a[k] = true
    · have c' : l_mq L a[k] = l_mq L i := of_decide_eq_true c
      unfold l_mq at c'
      rw [if_pos hla] at c'
      have hm : l_la L a[k] = true ∧ l_mn L a[k] = l_mn L i := by
        cases hl : l_la L a[k] with
        | true =>
          rw [hl, if_pos rfl] at c'
          exact ⟨rfl, (nI_eq (by omega) (by omega)).mp c'⟩
        | false =>
          rw [hl, if_neg (by decide)] at c'
          exact absurd c'.symm (q_m1 (by omega))
      rw [if_pos ⟨hm.2, rfl⟩, List.filter_cons_of_pos c, List.filter_nil, l_fo_ap]
    · rw [List.filter_cons_of_neg c, List.filter_nil, List.append_nil]
      by_cases hm : l_mn L a[k] = l_mn L i
      · have hl : l_la L a[k] = false := by
          cases hl : l_la L a[k] with
          | false => rfl
          | true =>
            exfalso
            apply c
            unfold o_cd l_mq
            rw [hl, hla, if_pos rfl, if_pos rfl, hm]
            exact decide_eq_true rfl
        have hz := ((hL.2.1 _ hj).2.2.2.2.1 hl).1
        rw [if_pos ⟨hm, rfl⟩]
        have : l_tk L a[k] (l_fo L ((a.take k).filter (o_cd L i)) 0) = 0 := by
          unfold l_tk
          rw [hz, Nat.zero_min]
        rw [this, Nat.add_zero]
      · rw [if_neg (fun q => hm q.1)]
theorem o_G {L : l_L} {i : Nat} (hL : l_ok L) (hi : i < l_n L) {q r : List Nat} (hq : i ∉ q) (ha : ∀ j, j ∈ q ++ i :: r → j < l_n L) : o_f (q ++ i :: r) q.length = i ∧ l_G L (o_f (q ++ i :: r)) 0 q.length = o_vl L i (q ++ i :: r) := by
  have h1 : o_f (q ++ i :: r) q.length = i := by
    unfold o_f
    rw [List.getD_eq_getElem?_getD, List.getElem?_append_right (Nat.le_refl _), Nat.sub_self]
    rfl
  refine ⟨h1, ?_⟩
  unfold l_G o_vl l_v
  rw [h1, Nat.zero_testBit, if_neg (by decide), o_bf_e r q hq]
  cases hla : l_la L i with
  | true =>
    rw [o_gn hL hi hla (q ++ i :: r) ha q.length (by rw [List.length_append]; omega), List.take_left]
  | false =>
    have hz := ((hL.2.1 i hi).2.2.2.2.1 hla).1
    unfold l_tk
    rw [hz, Nat.zero_min, Nat.zero_min]
theorem o_link {L : l_L} {i : Nat} (hL : l_ok L) (hi : i < l_n L) : (∀ a, a ∈ o_P (l_n L) → ∃ q, l_va L i q ∧ o_vl L i a = l_v L i q) ∧ ∀ q, l_va L i q → ∃ a, a ∈ o_P (l_n L) ∧ o_vl L i a = l_v L i q := by
  constructor
  · intro a ha
    obtain ⟨h1, h2, h3⟩ := o_sub (l_n L) (List.range (l_n L)) a List.nodup_range (by rw [List.length_range]) ha
    have him : i ∈ a := (h3 i).mpr (List.mem_range.mpr hi)
    obtain ⟨q, r, rfl⟩ := List.append_of_mem him
    obtain ⟨n1, n2, n3⟩ := List.nodup_append.mp h1
    have hq : i ∉ q := fun z => n3 i z i List.mem_cons_self rfl
    refine ⟨q.filter (o_cd L i), ⟨n1.sublist List.filter_sublist, fun j hj => ?_⟩, ?_⟩
    · obtain ⟨j1, j2⟩ := List.mem_filter.mp hj
      refine ⟨List.mem_range.mp ((h3 j).mp (List.mem_append_left _ j1)), fun z => hq (z ▸ j1), of_decide_eq_true j2⟩
    · unfold o_vl
      rw [o_bf_e r q hq]
  · intro q hq
    have hiq : i ∉ q := fun z => (hq.2 i z).2.1 rfl
    refine ⟨q ++ i :: (List.range (l_n L)).filter (fun x => decide (x ∉ q ∧ x ≠ i)), ?_, ?_⟩
    · have h := o_mem (q ++ i :: (List.range (l_n L)).filter (fun x => decide (x ∉ q ∧ x ≠ i))) (List.range (l_n L)) ?_ List.nodup_range (fun x => ?_)
      · rw [List.length_range] at h
        exact h
      · refine List.nodup_append.mpr ⟨hq.1, List.nodup_cons.mpr ⟨fun z => ?_, List.nodup_range.sublist List.filter_sublist⟩, fun a ha b hb => ?_⟩
        · have := of_decide_eq_true (List.mem_filter.mp z).2
          exact this.2 rfl
        · rcases List.mem_cons.mp hb with e | e
          · rw [e]
            exact fun z => hiq (z ▸ ha)
          · have := of_decide_eq_true (List.mem_filter.mp e).2
            exact fun z => this.1 (z ▸ ha)
      · rw [List.mem_append, List.mem_cons, List.mem_filter, List.mem_range]
        constructor
        · rintro (z | z | z)
          · exact (hq.2 x z).1
          · rw [z]
            exact hi
          · exact z.1
        · intro z
          by_cases c1 : x ∈ q
          · exact Or.inl c1
          · by_cases c2 : x = i
            · exact Or.inr (Or.inl c2)
            · exact Or.inr (Or.inr ⟨z, decide_eq_true ⟨c1, c2⟩⟩)
    · unfold o_vl
      rw [o_bf_e _ q hiq]
      congr 1
      exact List.filter_eq_self.mpr (fun j hj => decide_eq_true (hq.2 j hj).2.2)
