/-! ORDERS: the next order, and that all of them come -/
def o_sw (s : Nat → Nat) (a b : Nat) : Nat → Nat := fun x => if x = b then s a else if x = a then s b else s x
def o_k (s : Nat → Nat) : Nat → Option Nat
  | 0 => none
  | c + 1 => if s c ≤ s (c + 1) then some c else o_k s c
def o_j (s : Nat → Nat) (k : Nat) : Nat → Nat
  | 0 => 0
  | c + 1 => if s k ≤ s (c + 1) then c + 1 else o_j s k c
def o_r : Nat → (Nat → Nat) → Nat → Nat → (Nat → Nat)
  | 0, s, _, _ => s
  | f + 1, s, lo, hi => if hi ≤ lo then s else o_r f (o_sw s lo hi) (lo + 1) (hi - 1)
def o_nx (n : Nat) (s : Nat → Nat) : Option (Nat → Nat) := (o_k s (n - 1)).map (fun k => o_r n (o_sw s k (o_j s k (n - 1))) (k + 1) (n - 1))
def o_O (n : Nat) (s : Nat → Nat) (M : m_M) : Prop := ∀ j, j < n → M.1 199 j = nI (s j)
def o_fr (M M' : m_M) : Prop := M'.2 = M.2 ∧ ∀ i j, i ≠ 199 → M'.1 i j = M.1 i j
theorem o_swap {n a b : Nat} {s : Nat → Nat} {M : m_M} (hn : n ≤ 6) (ha : a < n) (hb : b < n) (h : o_O n s M) : q_T (f_X8_swap (nI a) (nI b) M) (fun M' => o_O n (o_sw s a b) M' ∧ o_fr M M') := by
  unfold f_X8_swap
  refine q_gd (q_in (by omega) (by decide)) (q_gd (q_in (by omega) (by decide)) (q_bd (q_bd (q_some ⟨fun j hj => ?_, rfl, fun i j q => ?_⟩))))
  · rw [q_cl (by omega), q_cl (by omega), q_r, q_r, h a ha, h b hb]
    unfold o_sw
    by_cases c1 : j = b
    · rw [if_pos ⟨rfl, c1⟩, if_pos c1]
    · rw [if_neg (fun q => c1 q.2), if_neg c1]
      by_cases c2 : j = a
      · rw [if_pos ⟨rfl, c2⟩, if_pos c2]
      · rw [if_neg (fun q => c2 q.2), if_neg c2]
        exact h j hj
  · rw [q_r, if_neg (fun z => q z.1), q_r, if_neg (fun z => q z.1)]
theorem o_fr_tr {M M1 M2 : m_M} (h : o_fr M M1) (h2 : o_fr M1 M2) : o_fr M M2 := ⟨h2.1.trans h.1, fun i j q => (h2.2 i j q).trans (h.2 i j q)⟩
theorem o_b86 {n' n : Nat} (hn : n ≤ 6) : ∀ (f lo hi u : Nat) (s : Nat → Nat) (M : m_M), lo ≤ 10 → hi ≤ lo + f → f < u → hi < n → o_O n s M → q_T (f_X8_nextOrder_b86 n' u (nI lo) (nI hi) M) (fun a => a.1 = 1 ∧ o_O n (o_r f s lo hi) a.2 ∧ o_fr M a.2) := by
  intro f
  induction f with
  | zero =>
    intro lo hi u s M hl hh hu hhi h
    obtain ⟨u, rfl⟩ : ∃ v, u = v + 1 := ⟨u - 1, by omega⟩
    rw [f_X8_nextOrder_b86]
    exact q_it ((q_le (by omega) (by omega)).mpr (by omega)) (q_some ⟨rfl, h, rfl, fun _ _ _ => rfl⟩)
  | succ f ih =>
    intro lo hi u s M hl hh hu hhi h
    obtain ⟨u, rfl⟩ : ∃ v, u = v + 1 := ⟨u - 1, by omega⟩
    rw [f_X8_nextOrder_b86, o_r]
    by_cases c : hi ≤ lo
    · rw [if_pos c]
      exact q_it ((q_le (by omega) (by omega)).mpr c) (q_some ⟨rfl, h, rfl, fun _ _ _ => rfl⟩)
    · rw [if_neg c]
      obtain ⟨h', rfl⟩ : ∃ h', hi = h' + 1 := ⟨hi - 1, by omega⟩
      refine q_if (fun q => c ((q_le (by omega) (by omega)).mp q)) (q_ob (q_mono (o_swap hn (by omega) hhi h) (fun M2 h2 => ?_)))
      rw [q_up, q_dec, Nat.add_sub_cancel]
      exact q_mono (ih (lo + 1) h' u _ M2 (by omega) (by omega) (by omega) (by omega) h2.1) (fun a ha => ⟨ha.1, ha.2.1, o_fr_tr h2.2 ha.2.2⟩)
theorem o_b47 {n' n k : Nat} {s : Nat → Nat} {M : m_M} (hn' : 200 < n') (hn : n ≤ 6) (hk : k < n) (h4 : M.1 173 470 = nI n) (h : o_O n s M) (hs : ∀ j, j < n → s j < 10) : ∀ (c u : Nat), k ≤ c → c < n → c < u → q_T (f_X8_nextOrder_b47 n' u (nI k) (nI c) M) (fun a => a.1 = 1 ∧ o_O n (o_r n (o_sw s k (o_j s k c)) (k + 1) (n - 1)) a.2 ∧ o_fr M a.2) := by
  have fin : ∀ c, c < n → q_T (m_ob (f_X8_swap (nI k) (nI c) M) fun M6 => m_bd (f_X8_lined M6) fun r7 => f_X8_nextOrder_b86 n' n' ((nI k) + (1 : Int32)) (r7 - (1 : Int32)) M6) (fun a => a.1 = 1 ∧ o_O n (o_r n (o_sw s k c) (k + 1) (n - 1)) a.2 ∧ o_fr M a.2) := by
    intro c hc
    refine q_ob (q_mono (o_swap hn hk hc h) (fun M2 h2 => ?_))
    have h4' : M2.1 173 470 = nI n := (h2.2.2 _ _ (by omega)).trans h4
    unfold f_X8_lined
    refine q_bd ?_
    obtain ⟨m, hm⟩ : ∃ m, n = m + 1 := ⟨n - 1, by omega⟩
    rw [h4', q_up, hm, nI_pred, Nat.add_sub_cancel, ← hm]
    exact q_mono (o_b86 (n' := n') hn n (k + 1) m n' _ M2 (by omega) (by omega) (by omega) (by omega) h2.1) (fun a ha => ⟨ha.1, ha.2.1, o_fr_tr h2.2 ha.2.2⟩)
  intro c
  induction c with
  | zero =>
    intro u hkc hc hu
    obtain ⟨u, rfl⟩ : ∃ v, u = v + 1 := ⟨u - 1, by omega⟩
    obtain rfl : k = 0 := by omega
    rw [f_X8_nextOrder_b47]
    refine q_gd (q_in (by omega) (by decide)) (q_gd (q_in (by omega) (by decide)) ?_)
    exact q_it (Int32.le_refl _) (fin 0 hc)
  | succ c ih =>
    intro u hkc hc hu
    obtain ⟨u, rfl⟩ : ∃ v, u = v + 1 := ⟨u - 1, by omega⟩
    have s1 := hs k hk
    have s2 := hs (c + 1) hc
    rw [f_X8_nextOrder_b47, o_j]
    refine q_gd (q_in (by omega) (by decide)) (q_gd (q_in (by omega) (by decide)) ?_)
    rw [q_cl (by omega), q_cl (by omega), h k hk, h (c + 1) hc]
    by_cases z : s k ≤ s (c + 1)
    · rw [if_pos z]
      exact q_it ((q_le (by omega) (by omega)).mpr z) (fin (c + 1) hc)
    · rw [if_neg z]
      refine q_if (fun q => z ((q_le (by omega) (by omega)).mp q)) ?_
      rw [q_dec]
      refine ih u ?_ (by omega) (by omega)
      by_cases y : k = c + 1
      · subst y
        exact absurd (Nat.le_refl _) z
      · omega
theorem o_b7 {n' n : Nat} {s : Nat → Nat} {M : m_M} (hn' : 200 < n') (hn : n ≤ 6) (h1 : 1 ≤ n) (h4 : M.1 173 470 = nI n) (h : o_O n s M) (hs : ∀ j, j < n → s j < 10) : ∀ (c u : Nat), c < n → c < u → q_T (f_X8_nextOrder_b7 n' u (nI c + (-1)) M) (fun a => (o_k s c = none → a.1 = 0 ∧ a.2 = M) ∧ ∀ k, o_k s c = some k → a.1 = 1 ∧ o_O n (o_r n (o_sw s k (o_j s k (n - 1))) (k + 1) (n - 1)) a.2 ∧ o_fr M a.2) := by
  intro c
  induction c with
  | zero =>
    intro u hc hu
    obtain ⟨u, rfl⟩ : ∃ v, u = v + 1 := ⟨u - 1, by omega⟩
    rw [f_X8_nextOrder_b7]
    refine q_it (by decide) ?_
    unfold f_X8_nextOrder_b34
    refine q_if (by decide) (q_some ⟨fun _ => ⟨rfl, rfl⟩, fun k q => ?_⟩)
    rw [o_k] at q
    cases q
  | succ c ih =>
    intro u hc hu
    obtain ⟨u, rfl⟩ : ∃ v, u = v + 1 := ⟨u - 1, by omega⟩
    have s1 := hs c (by omega)
    have s2 := hs (c + 1) hc
    rw [q_dec, f_X8_nextOrder_b7, o_k, q_up]
    refine q_if (nI_pos (by omega)) (q_gd (q_in (by omega) (by decide)) (q_gd (q_in (by omega) (by decide)) ?_))
    rw [q_cl (by omega), q_cl (by omega), h c (by omega), h (c + 1) hc]
    by_cases z : s c ≤ s (c + 1)
    · rw [if_pos z]
      refine q_it ((q_le (by omega) (by omega)).mpr z) ?_
      unfold f_X8_nextOrder_b34 f_X8_lined
      refine q_it (nI_pos' (by omega)) (q_bd ?_)
      obtain ⟨m, hm⟩ : ∃ m, n = m + 1 := ⟨n - 1, by omega⟩
      rw [h4, hm, nI_pred, ← hm]
      refine q_mono (o_b47 (n' := n') (k := c) hn' hn (by omega) h4 h hs m n' (by omega) (by omega) (by omega)) (fun a ha => ⟨fun q => ?_, fun k q => ?_⟩)
      · cases q
      · injection q with q
        subst q
        rw [show n - 1 = m by omega] at ha ⊢
        exact ha
    · rw [if_neg z]
      exact q_if (fun q => z ((q_le (by omega) (by omega)).mp q)) (ih u (by omega) (by omega))
theorem o_next {n' n : Nat} {s : Nat → Nat} {M : m_M} (hn' : 200 < n') (hn : n ≤ 6) (h1 : 1 ≤ n) (h4 : M.1 173 470 = nI n) (h : o_O n s M) (hs : ∀ j, j < n → s j < 10) : q_T (f_X8_nextOrder n' M) (fun a => (o_nx n s = none → a.1 = 0 ∧ a.2 = M) ∧ ∀ t, o_nx n s = some t → a.1 = 1 ∧ o_O n t a.2 ∧ o_fr M a.2) := by
  unfold f_X8_nextOrder f_X8_lined
  refine q_bd ?_
  obtain ⟨m, hm⟩ : ∃ m, n = m + 1 := ⟨n - 1, by omega⟩
  have e : nI n - 2 = nI m + (-1) := by
    rw [hm, ← nI_1, Int32.sub_eq_add_neg, Int32.add_assoc]
    rfl
  rw [h4, e]
  refine q_mono (o_b7 (n' := n') hn' hn h1 h4 h hs m n' (by omega) (by omega)) (fun a ha => ⟨fun q => ?_, fun t q => ?_⟩)
  · unfold o_nx at q
    rw [show n - 1 = m by omega] at q
    refine ha.1 ?_
    cases z : o_k s m with
    | none => rfl
    | some k =>
      rw [z] at q
      cases q
  · unfold o_nx at q
    rw [show n - 1 = m by omega] at q
    cases z : o_k s m with
    | none =>
      rw [z] at q
      cases q
    | some k =>
      rw [z] at q
      injection q with q
      subst q
      have := ha.2 k z
      rw [show n - 1 = m by omega] at this
      exact this
/-! all orders -/
def o_p : Nat → List Nat → List (List Nat)
  | 0, _ => [[]]
  | f + 1, s => s.flatMap (fun x => (o_p f (s.erase x)).map (fun r => x :: r))
def o_f (a : List Nat) : Nat → Nat := fun k => a.getD k 0
def o_eq (n : Nat) (t u : Nat → Nat) : Bool := (List.range n).all (fun k => t k == u k)
def o_st (n : Nat) (a b : List Nat) : Bool := match o_nx n (o_f a) with
  | none => false
  | some t => o_eq n t (o_f b)
def o_en (n : Nat) (a : List Nat) : Bool := match o_nx n (o_f a) with
  | none => true
  | some _ => false
def o_ck (n : Nat) : List Nat → List (List Nat) → Bool
  | a, [] => o_en n a
  | a, b :: r => o_st n a b && o_ck n b r
def o_P (n : Nat) : List (List Nat) := o_p n (List.range n)
theorem o_mem : ∀ (a s : List Nat), a.Nodup → s.Nodup → (∀ x, x ∈ a ↔ x ∈ s) → a ∈ o_p s.length s
  | [], s, _, _, h => by
    have : s = [] := by
      cases s with
      | nil => rfl
      | cons y r => exact absurd ((h y).mpr (List.mem_cons_self)) (by intro q; cases q)
    subst this
    rw [List.length_nil, o_p]
    exact List.mem_singleton.mpr rfl
  | x :: a, s, h1, h2, h => by
    have hx : x ∈ s := (h x).mp List.mem_cons_self
    obtain ⟨h3, h4⟩ := List.nodup_cons.mp h1
    have hl : s.length = (s.erase x).length + 1 := by
      rw [List.length_erase_of_mem hx]
      have := List.length_pos_of_mem hx
      omega
    rw [hl, o_p, List.mem_flatMap]
    refine ⟨x, hx, List.mem_map.mpr ⟨a, ?_, rfl⟩⟩
    refine o_mem a (s.erase x) h4 (h2.erase x) (fun y => ?_)
    rw [h2.mem_erase_iff]
    constructor
    · intro q
      refine ⟨fun e => h3 (e ▸ q), (h y).mp (List.mem_cons_of_mem _ q)⟩
    · rintro ⟨q1, q2⟩
      rcases List.mem_cons.mp ((h y).mpr q2) with e | e
      · exact absurd e q1
      · exact e
theorem o_sub : ∀ (f : Nat) (s a : List Nat), s.Nodup → f = s.length → a ∈ o_p f s → a.Nodup ∧ a.length = f ∧ ∀ x, x ∈ a ↔ x ∈ s
  | 0, s, a, _, hf, h => by
    rw [o_p] at h
    have := List.mem_singleton.mp h
    subst this
    have hs : s = [] := List.length_eq_zero_iff.mp hf.symm
    subst hs
    exact ⟨List.nodup_nil, rfl, fun x => Iff.rfl⟩
  | f + 1, s, a, h2, hf, h => by
    rw [o_p, List.mem_flatMap] at h
    obtain ⟨x, hx, h⟩ := h
    obtain ⟨b, hb, rfl⟩ := List.mem_map.mp h
    have ih := o_sub f (s.erase x) b (h2.erase x) (by rw [List.length_erase_of_mem hx]; omega) hb
    obtain ⟨i1, i2, i3⟩ := ih
    refine ⟨List.nodup_cons.mpr ⟨fun q => ?_, i1⟩, by rw [List.length_cons, i2], fun y => ?_⟩
    · exact (h2.mem_erase_iff.mp ((i3 x).mp q)).1 rfl
    · rw [List.mem_cons, i3 y, h2.mem_erase_iff]
      constructor
      · rintro (e | e)
        · rw [e]
          exact hx
        · exact e.2
      · intro q
        by_cases e : y = x
        · exact Or.inl e
        · exact Or.inr ⟨e, q⟩
theorem o_ck1 : o_P 1 = [[0]] ∧ o_ck 1 [0] [] = true := by decide +kernel
theorem o_ckn : ∀ n, n < 7 → 1 ≤ n → ((o_P n).head? = some (List.range n) ∧ o_ck n (List.range n) (o_P n).tail = true) := by decide +kernel
