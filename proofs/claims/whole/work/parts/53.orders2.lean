/-! ORDERS: the reference's loop, the call -/
theorem o_eqs {n : Nat} {t u : Nat → Nat} (h : o_eq n t u = true) : ∀ k, k < n → t k = u k := by
  intro k hk
  unfold o_eq at h
  have := List.all_eq_true.mp h k (List.mem_range.mpr hk)
  exact eq_of_beq this
/-- what serving by the order a tells of place i -/
theorem o_serve {n : Nat} {C C0 C1 : k_C} {day : Int32} {K i : Nat} {kr : Nat → Nat} {fl : Int32} {val : (Nat → Int64) → Int64} {a : List Nat} {M : m_M} (hn : 200 < n) (hV : k_V C) (hd : h_day (k_r C) (k_N C) day K) (hkr : l_kr C kr) (hi : i < k_n C) (ha : a ∈ o_P (k_n C)) (hR : l_R C day K kr (l_mk C day K kr fl val) M) (ho : o_O (k_n C) (o_f a) M) (hM : k_M C C0 C1 M) : q_T (f_X8_serve n 0 M) (fun M' => M'.1 198 i = nI (o_vl (l_mk C day K kr fl val) i a) ∧ l_R C day K kr (l_mk C day K kr fl val) M' ∧ o_O (k_n C) (o_f a) M' ∧ k_M C C0 C1 M') := by
  have hL := l_mk_ok hV hd.1 hkr day fl val
  have n6 : k_n C ≤ 6 := hV.1.2.2.1
  obtain ⟨h1, h2, h3⟩ := o_sub (k_n C) (List.range (k_n C)) a List.nodup_range (by rw [List.length_range]) ha
  have hg : ∀ j, (hj : j < k_n C) → o_f a j = a[j]'(by omega) := fun j hj => by
    unfold o_f
    rw [List.getD_eq_getElem?_getD, List.getElem?_eq_getElem (by omega)]
    rfl
  have hs : ∀ j, j < k_n C → o_f a j < k_n C := fun j hj => by
    rw [hg j hj]
    exact List.mem_range.mp ((h3 _).mp (List.getElem_mem _))
  have hinj : ∀ x y, x < k_n C → y < k_n C → o_f a x = o_f a y → x = y := fun x y hx hy e => by
    rw [hg x hx, hg y hy] at e
    have := List.getElem?_inj (l := a) (i := x) (j := y) (by omega) h1
    apply this.mp
    rw [List.getElem?_eq_getElem (by omega), List.getElem?_eq_getElem (by omega), e]
  refine q_mono (a_serve (n := n) (w := 0) (s := o_f a) (fl := fl) (val := val) hn hV hd hkr (by omega) hs hinj hR ho) (fun M' h => ?_)
  obtain ⟨p1, p2⟩ := h
  refine ⟨?_, l_R_fr hR (fun x y q => p2.1 x y (by unfold w_71; omega)), fun j hj => (p2.1 199 j (by unfold w_71; omega)).trans (ho j hj), k_M_fr2 hM ⟨fun x y q => p2.1 x y (by unfold w_71; omega), fun x y q => p2.2 x y (by unfold w_1; omega)⟩ (fun x y q => p2.2 x y (by unfold w_1; omega))⟩
  have him : i ∈ a := (h3 i).mpr (List.mem_range.mpr hi)
  obtain ⟨q, r, rfl⟩ := List.append_of_mem him
  obtain ⟨n1, n2, n3⟩ := List.nodup_append.mp h1
  have hq : i ∉ q := fun z => n3 i z i List.mem_cons_self rfl
  obtain ⟨g1, g2⟩ := o_G hL hi hq (fun j hj => List.mem_range.mp ((h3 j).mp hj))
  have hlen : q.length < k_n C := by
    rw [← h2, List.length_append, List.length_cons]
    omega
  have := p1 q.length hlen
  rw [g1] at this
  rw [this]
  exact congrArg nI g2
/-- what the loop over the orders leaves -/
def o_Z (L : l_L) (i : Nat) (P : List (List Nat)) (x2 : Int32) (r : Int32) (x4 : Int32) (m5 : Nat) : Prop := ∃ lo hi, r = (if x2 = 0 then nI lo else nI hi) ∧ (x4 = nI lo ∨ ∃ a, a ∈ P ∧ lo = o_vl L i a) ∧ (hi = m5 ∨ ∃ a, a ∈ P ∧ hi = o_vl L i a) ∧ (∀ a, a ∈ P → lo ≤ o_vl L i a ∧ o_vl L i a ≤ hi) ∧ (∀ m, m < 2 ^ 31 → x4 = nI m → lo ≤ m) ∧ m5 ≤ hi ∧ lo ≤ 1000
theorem o_vl_le {L : l_L} (hL : l_ok L) {i : Nat} (hi : i < l_n L) (a : List Nat) : o_vl L i a ≤ 1000 := l_tk_le hL hi _
theorem o_b42 {n : Nat} {C C0 C1 : k_C} {day x2 x3 : Int32} {K i : Nat} {kr : Nat → Nat} {fl : Int32} {val : (Nat → Int64) → Int64} (hn : 200 < n) (hV : k_V C) (hd : h_day (k_r C) (k_N C) day K) (hkr : l_kr C kr) (hi : i < k_n C) : ∀ (r : List (List Nat)) (a : List Nat) (u : Nat) (M : m_M) (x4 : Int32) (m5 : Nat), o_ck (k_n C) a r = true → (∀ b, b ∈ a :: r → b ∈ o_P (k_n C)) → r.length + 2 ≤ u → l_R C day K kr (l_mk C day K kr fl val) M → o_O (k_n C) (o_f a) M → k_M C C0 C1 M → (x4 = -1 ∨ ∃ m, m ≤ 1000 ∧ x4 = nI m) → m5 ≤ 1000 → q_T (f_X8_orders_b42 n (nI i) x2 x3 u x4 (nI m5) 1 M) (fun b => o_Z (l_mk C day K kr fl val) i (a :: r) x2 b.1 x4 m5 ∧ k_M C C0 C1 b.2) := by
  have hL := l_mk_ok hV hd.1 hkr day fl val
  have n6 : k_n C ≤ 6 := hV.1.2.2.1
  have hdn := hd.1
  intro r
  induction r with
  | nil =>
    intro a u M x4 m5 hck hP hu hR ho hM h4 h5
    obtain ⟨u, rfl⟩ : ∃ v, u = v + 1 + 1 := ⟨u - 2, by rw [List.length_nil] at hu; omega⟩
    have hv := o_vl_le hL hi a
    rw [f_X8_orders_b42]
    refine q_if (by decide) (q_ob (q_mono (o_serve (n := n) hn hV hd hkr hi (hP a List.mem_cons_self) hR ho hM) (fun M1 h1 => ?_)))
    obtain ⟨s1, s2, s3, s4⟩ := h1
    have h470 : M1.1 173 470 = nI (k_n C) := s2.1.2.2.2.1
    have hsb : ∀ j, j < k_n C → o_f a j < 10 := fun j hj => by
      obtain ⟨g1, g2, g3⟩ := o_sub (k_n C) (List.range (k_n C)) a List.nodup_range (by rw [List.length_range]) (hP a List.mem_cons_self)
      unfold o_f
      rw [List.getD_eq_getElem?_getD, List.getElem?_eq_getElem (by omega)]
      have := List.mem_range.mp ((g3 _).mp (List.getElem_mem (show j < a.length by omega)))
      show a[j] < 10
      omega
    have hen : o_nx (k_n C) (o_f a) = none := by
      rw [o_ck] at hck
      unfold o_en at hck
      cases z : o_nx (k_n C) (o_f a) with
      | none => rfl
      | some t =>
        rw [z] at hck
        cases hck
    have nxt : ∀ (lo hi' : Nat), q_T (m_o2 (f_X8_nextOrder n M1) fun r3 M4 => f_X8_orders_b42 n (nI i) x2 x3 (u + 1) (nI lo) (nI hi') r3 M4) (fun b => b.1 = (if x2 = 0 then nI lo else nI hi') ∧ k_M C C0 C1 b.2) := by
      intro lo hi'
      refine q_o2 (q_mono (o_next (n' := n) hn n6 (by omega) h470 s3 hsb) (fun q hq => ?_))
      obtain ⟨q1, q2⟩ := hq.1 hen
      rw [q1, q2, f_X8_orders_b42]
      refine q_it rfl (q_ite (fun c => q_some ⟨?_, s4⟩) (fun c => q_some ⟨?_, s4⟩))
      · rw [if_pos c]
      · rw [if_neg c]
    -- the most
    have b80 : ∀ lo : Nat, q_T (f_X8_orders_b80 n (nI i) x2 x3 (f_X8_orders_b42 n (nI i) x2 x3 (u + 1)) (nI m5) (nI lo) M1) (fun b => b.1 = (if x2 = 0 then nI lo else nI (max m5 (o_vl (l_mk C day K kr fl val) i a))) ∧ k_M C C0 C1 b.2) := by
      intro lo
      unfold f_X8_orders_b80
      refine q_gd (q_in (by omega) (by decide)) ?_
      rw [q_cl (by omega), s1]
      by_cases c : o_vl (l_mk C day K kr fl val) i a ≤ m5
      · rw [Nat.max_eq_left c]
        exact q_it ((q_le (by omega) (by omega)).mpr c) (nxt lo m5)
      · rw [Nat.max_eq_right (by omega)]
        exact q_if (fun z => c ((q_le (by omega) (by omega)).mp z)) (nxt lo _)
    have pack : ∀ (lo : Nat) (b : Int32 × m_M), (x4 = nI lo ∨ lo = o_vl (l_mk C day K kr fl val) i a) → lo ≤ o_vl (l_mk C day K kr fl val) i a → (∀ m, m < 2 ^ 31 → x4 = nI m → lo ≤ m) → (b.1 = (if x2 = 0 then nI lo else nI (max m5 (o_vl (l_mk C day K kr fl val) i a))) ∧ k_M C C0 C1 b.2) → o_Z (l_mk C day K kr fl val) i [a] x2 b.1 x4 m5 ∧ k_M C C0 C1 b.2 := by
      intro lo b h1 h2 h3 hb
      refine ⟨⟨lo, _, hb.1, ?_, ?_, ?_, h3, Nat.le_max_left _ _, by omega⟩, hb.2⟩
      · rcases h1 with q | q
        · exact Or.inl q
        · exact Or.inr ⟨a, List.mem_cons_self, q⟩
      · by_cases c : o_vl (l_mk C day K kr fl val) i a ≤ m5
        · exact Or.inl (Nat.max_eq_left c)
        · exact Or.inr ⟨a, List.mem_cons_self, Nat.max_eq_right (by omega)⟩
      · intro b' hb'
        have : b' = a := by simpa using hb'
        rw [this]
        exact ⟨h2, Nat.le_max_right _ _⟩
    refine q_ite (fun c => q_gd (q_in (by omega) (by decide)) ?_) (fun c => q_gd (q_in (by omega) (by decide)) ?_)
    · rw [q_cl (by omega), s1]
      refine q_mono (b80 (o_vl (l_mk C day K kr fl val) i a)) (fun b hb => pack _ b (Or.inr rfl) (Nat.le_refl _) (fun m hm z => ?_) hb)
      rw [c] at z
      exact absurd z.symm (q_m1 hm)
    · obtain ⟨m4, hm4, rfl⟩ : ∃ m, m ≤ 1000 ∧ x4 = nI m := by
        rcases h4 with q | q
        · exact absurd q c
        · exact q
      rw [q_cl (by omega), s1]
      by_cases c2 : m4 ≤ o_vl (l_mk C day K kr fl val) i a
      · refine q_it ((q_le (by omega) (by omega)).mpr c2) (q_mono (b80 m4) (fun b hb => pack _ b (Or.inl rfl) c2 (fun m hm z => ?_) hb))
        have := (nI_eq (by omega) hm).mp z
        omega
      · refine q_if (fun z => c2 ((q_le (by omega) (by omega)).mp z)) (q_mono (b80 (o_vl (l_mk C day K kr fl val) i a)) (fun b hb => pack _ b (Or.inr rfl) (Nat.le_refl _) (fun m hm z => ?_) hb))
        have := (nI_eq (by omega) hm).mp z
        omega
  | cons a2 r ih =>
    intro a u M x4 m5 hck hP hu hR ho hM h4 h5
    obtain ⟨u, rfl⟩ : ∃ v, u = v + 1 := ⟨u - 1, by omega⟩
    have hv := o_vl_le hL hi a
    rw [List.length_cons] at hu
    rw [o_ck, Bool.and_eq_true] at hck
    obtain ⟨hst, hck⟩ := hck
    rw [f_X8_orders_b42]
    refine q_if (by decide) (q_ob (q_mono (o_serve (n := n) hn hV hd hkr hi (hP a List.mem_cons_self) hR ho hM) (fun M1 h1 => ?_)))
    obtain ⟨s1, s2, s3, s4⟩ := h1
    have h470 : M1.1 173 470 = nI (k_n C) := s2.1.2.2.2.1
    have hsb : ∀ j, j < k_n C → o_f a j < 10 := fun j hj => by
      obtain ⟨g1, g2, g3⟩ := o_sub (k_n C) (List.range (k_n C)) a List.nodup_range (by rw [List.length_range]) (hP a List.mem_cons_self)
      unfold o_f
      rw [List.getD_eq_getElem?_getD, List.getElem?_eq_getElem (by omega)]
      have := List.mem_range.mp ((g3 _).mp (List.getElem_mem (show j < a.length by omega)))
      show a[j] < 10
      omega
    obtain ⟨t, ht, hte⟩ : ∃ t, o_nx (k_n C) (o_f a) = some t ∧ o_eq (k_n C) t (o_f a2) = true := by
      unfold o_st at hst
      cases z : o_nx (k_n C) (o_f a) with
      | none =>
        rw [z] at hst
        cases hst
      | some t =>
        rw [z] at hst
        exact ⟨t, rfl, hst⟩
    have nxt : ∀ (lo hi' : Nat), lo ≤ 1000 → hi' ≤ 1000 → q_T (m_o2 (f_X8_nextOrder n M1) fun r3 M4 => f_X8_orders_b42 n (nI i) x2 x3 u (nI lo) (nI hi') r3 M4) (fun b => o_Z (l_mk C day K kr fl val) i (a2 :: r) x2 b.1 (nI lo) hi' ∧ k_M C C0 C1 b.2) := by
      intro lo hi' hlo hhi
      refine q_o2 (q_mono (o_next (n' := n) hn n6 (by omega) h470 s3 hsb) (fun q hq => ?_))
      obtain ⟨q1, q2, q3⟩ := hq.2 t ht
      rw [q1]
      refine ih a2 u q.2 (nI lo) hi' hck (fun b hb => hP b (List.mem_cons_of_mem _ hb)) (by omega) (l_R_fr s2 (fun x y w => q3.2 x y (by omega))) (fun j hj => ?_) (k_M_fr2 s4 ⟨fun x y w => q3.2 x y (by omega), fun x y w => by rw [q3.1]⟩ (fun x y w => by rw [q3.1])) (Or.inr ⟨lo, hlo, rfl⟩) hhi
      rw [q2 j hj, o_eqs hte j hj]
    have b80 : ∀ lo : Nat, lo ≤ 1000 → q_T (f_X8_orders_b80 n (nI i) x2 x3 (f_X8_orders_b42 n (nI i) x2 x3 u) (nI m5) (nI lo) M1) (fun b => o_Z (l_mk C day K kr fl val) i (a2 :: r) x2 b.1 (nI lo) (max m5 (o_vl (l_mk C day K kr fl val) i a)) ∧ k_M C C0 C1 b.2) := by
      intro lo hlo
      unfold f_X8_orders_b80
      refine q_gd (q_in (by omega) (by decide)) ?_
      rw [q_cl (by omega), s1]
      by_cases c : o_vl (l_mk C day K kr fl val) i a ≤ m5
      · rw [Nat.max_eq_left c]
        exact q_it ((q_le (by omega) (by omega)).mpr c) (nxt lo m5 hlo h5)
      · rw [Nat.max_eq_right (by omega)]
        exact q_if (fun z => c ((q_le (by omega) (by omega)).mp z)) (nxt lo _ hlo hv)
    have pack : ∀ (lo : Nat) (b : Int32 × m_M), (x4 = nI lo ∨ lo = o_vl (l_mk C day K kr fl val) i a) → lo ≤ o_vl (l_mk C day K kr fl val) i a → (∀ m, m < 2 ^ 31 → x4 = nI m → lo ≤ m) → lo ≤ 1000 → (o_Z (l_mk C day K kr fl val) i (a2 :: r) x2 b.1 (nI lo) (max m5 (o_vl (l_mk C day K kr fl val) i a)) ∧ k_M C C0 C1 b.2) → o_Z (l_mk C day K kr fl val) i (a :: a2 :: r) x2 b.1 x4 m5 ∧ k_M C C0 C1 b.2 := by
      intro lo b h1 h2 h3 hlo hb
      obtain ⟨⟨lo', hi', g1, g2, g3, g4, g5, g6, g7⟩, hbM⟩ := hb
      have hll : lo' ≤ lo := g5 lo (by omega) rfl
      have hhm : m5 ≤ hi' := Nat.le_trans (Nat.le_max_left _ _) g6
      have hhv : o_vl (l_mk C day K kr fl val) i a ≤ hi' := Nat.le_trans (Nat.le_max_right _ _) g6
      refine ⟨⟨lo', hi', g1, ?_, ?_, ?_, fun m hm z => Nat.le_trans hll (h3 m hm z), hhm, g7⟩, hbM⟩
      · rcases g2 with q | ⟨b', q1, q2⟩
        · have : lo = lo' := (nI_eq (by omega) (by omega)).mp q
          rw [← this]
          rcases h1 with w | w
          · exact Or.inl w
          · exact Or.inr ⟨a, List.mem_cons_self, w⟩
        · exact Or.inr ⟨b', List.mem_cons_of_mem _ q1, q2⟩
      · rcases g3 with q | ⟨b', q1, q2⟩
        · by_cases c : o_vl (l_mk C day K kr fl val) i a ≤ m5
          · exact Or.inl (by rw [q, Nat.max_eq_left c])
          · exact Or.inr ⟨a, List.mem_cons_self, by rw [q, Nat.max_eq_right (Nat.le_of_lt (Nat.lt_of_not_le c))]⟩
        · exact Or.inr ⟨b', List.mem_cons_of_mem _ q1, q2⟩
      · intro b' hb'
        rcases List.mem_cons.mp hb' with q | q
        · rw [q]
          exact ⟨Nat.le_trans hll h2, hhv⟩
        · exact g4 b' q
    refine q_ite (fun c => q_gd (q_in (by omega) (by decide)) ?_) (fun c => q_gd (q_in (by omega) (by decide)) ?_)
    · rw [q_cl (by omega), s1]
      refine q_mono (b80 (o_vl (l_mk C day K kr fl val) i a) hv) (fun b hb => pack _ b (Or.inr rfl) (Nat.le_refl _) (fun m hm z => ?_) hv hb)
      rw [c] at z
      exact absurd z.symm (q_m1 hm)
    · obtain ⟨m4, hm4, rfl⟩ : ∃ m, m ≤ 1000 ∧ x4 = nI m := by
        rcases h4 with q | q
        · exact absurd q c
        · exact q
      rw [q_cl (by omega), s1]
      by_cases c2 : m4 ≤ o_vl (l_mk C day K kr fl val) i a
      · refine q_it ((q_le (by omega) (by omega)).mpr c2) (q_mono (b80 m4 hm4) (fun b hb => pack _ b (Or.inl rfl) c2 (fun m hm z => ?_) hm4 hb))
        have := (nI_eq (by omega) hm).mp z
        omega
      · refine q_if (fun z => c2 ((q_le (by omega) (by omega)).mp z)) (q_mono (b80 (o_vl (l_mk C day K kr fl val) i a) hv) (fun b hb => pack _ b (Or.inr rfl) (Nat.le_refl _) (fun m hm z => ?_) hv hb))
        have := (nI_eq (by omega) hm).mp z
        omega
theorem o_len : ∀ n, n < 7 → (o_P n).length ≤ 720 := by decide +kernel
theorem z_orders {n : Nat} {x1 x2 x3 : Int32} {M : m_M} (hn : 3000 < n) (h : k_Inv M) : q_T (f_X7_orders n x1 x2 x3 M) (fun a => z_eq a (f_X8_orders n x1 x2 x3 a.2)) := by
  obtain ⟨C, C0, C1, hM⟩ := h
  obtain ⟨⟨hV, hA, hE⟩, hI⟩ := id hM
  have n6 : k_n C ≤ 6 := hV.1.2.2.1
  have e8 : f_X8_isIn x2.toInt64 0 1 = e_in x2 2 := by
    have h := e_in_eq (x := x2) (n := 2) (by decide)
    rw [show (nI 2 - 1).toInt64 = 1 by decide +kernel] at h
    exact h
  have ref : e_in x1 (k_n C) = 0 ∨ e_in x2 2 = 0 ∨ e_in x3 1000 = 0 → z_eq (-2, M) (f_X8_orders n x1 x2 x3 M) := by
    intro hc
    unfold z_eq f_X8_orders
    refine q_bd ?_
    rw [e_li8 (by omega) hE.2.2.1]
    refine q_ite (fun _ => q_some ⟨rfl, C, C0, C1, hM⟩) (fun c => q_bd ?_)
    rw [e8]
    refine q_ite (fun _ => q_some ⟨rfl, C, C0, C1, hM⟩) (fun c2 => q_bd ?_)
    rw [e_day8]
    refine q_it ?_ (q_some ⟨rfl, C, C0, C1, hM⟩)
    rcases hc with q | q | q
    · exact absurd q c
    · exact absurd q c2
    · exact q
  unfold f_X7_orders
  refine q_bd ?_
  rw [e_li7 hA.2.2.2.2.1]
  rcases e_in_of (x := x1) (n := k_n C) (by omega) with ⟨e1, _⟩ | ⟨e1, i, hi, rfl⟩
  · exact q_it e1 (q_some (ref (Or.inl e1)))
  refine q_if (by rw [e1]; decide) ?_
  rcases e_in_of (x := x2) (n := 2) (by omega) with ⟨e3, n3⟩ | ⟨e3, wh, hwh, rfl⟩
  · have hc := ref (Or.inr (Or.inl e3))
    refine q_ite (fun _ => q_some hc) (fun c1 => q_ite (fun _ => q_some hc) (fun c2 => ?_))
    obtain ⟨k, hk, rfl⟩ := nI_of c1
    have l1 : (1 : Int32) < nI k ↔ 1 < k := q_lt (a := 1) (by decide) hk
    exact absurd ⟨k, by have : ¬ 1 < k := fun q => c2 (l1.mpr q); omega, rfl⟩ n3
  have l1 : (1 : Int32) < nI wh ↔ 1 < wh := q_lt (a := 1) (by decide) (by omega)
  refine q_if (nI_pos (by omega)) (q_if (fun q => absurd (l1.mp q) (by omega)) (q_bd ?_))
  rw [e_day7]
  rcases e_in_of (x := x3) (n := 1000) (by omega) with ⟨e2, _⟩ | ⟨e2, dy, hdy, rfl⟩
  · exact q_it e2 (q_some (ref (Or.inr (Or.inr e2))))
  refine q_if (by rw [e2]; decide) ?_
  obtain ⟨K, hK⟩ := k_isday hV (nI dy)
  obtain ⟨fl, val, y1, y2⟩ := k_law hA (l := 0) (by omega)
  obtain ⟨kr, hkr⟩ := l_ex hV
  have hL := l_mk_ok hV hK.1 hkr (nI dy) fl val
  refine q_ob (q_mono (b_lineUp (n := n) (fl := fl) (val := val) (by omega) hM y1 hkr hK) (fun M1 h1 => ?_))
  obtain ⟨hC1, hM1⟩ := h1
  refine q_ob (q_mono (q_TH (o_tries (n := n) (by omega) hL hC1 hi) (g_X6_tryOrders n _ M1)) (fun M2 h2 => ?_))
  obtain ⟨⟨lo, hi', t1, t2, ⟨ql, ql1, ql2⟩, ⟨qh, qh1, qh2⟩, t5⟩, g⟩ := h2
  have hM2 : k_M C C0 C1 M2 := k_M_fr2 hM1 ⟨fun x y q => g.1 x y (by unfold w_1; omega), fun x y q => g.2 x y (by unfold w_38; omega)⟩ (fun x y q => g.2 x y (by unfold w_38; omega))
  -- the reference from here
  have ref2 : z_eq (if nI wh = 0 then nI lo else nI hi', M2) (f_X8_orders n (nI i) (nI wh) (nI dy) M2) := by
    unfold z_eq f_X8_orders
    refine q_bd ?_
    rw [e_li8 (P := k_n C) (by omega) hM2.1.2.2.2.2.1]
    refine q_if (by rw [e1]; decide) (q_bd ?_)
    rw [e8]
    refine q_if (by rw [e3]; decide) (q_bd ?_)
    rw [e_day8]
    refine q_if (by rw [e2]; decide) (q_ob (q_mono (a_layLine (n := n) (fl := fl) (val := val) (by omega) hM2 y2 hkr hK) (fun M3 h3 => ?_)))
    obtain ⟨⟨g3, q3⟩, hM3⟩ := h3
    have hck := o_ckn (k_n C) (by omega) (by omega)
    have hlen := o_len (k_n C) (by omega)
    have hP : o_P (k_n C) = List.range (k_n C) :: (o_P (k_n C)).tail := by
      cases z : o_P (k_n C) with
      | nil =>
        rw [z] at hck
        cases hck.1
      | cons b r =>
        have h1 := hck.1
        rw [z] at h1
        injection h1 with h1
        rw [h1]
        rfl
    have hO : o_O (k_n C) (o_f (List.range (k_n C))) M3 := fun j hj => by
      rw [(q3 j hj).2]
      unfold o_f
      rw [List.getD_eq_getElem?_getD, List.getElem?_range hj]
      rfl
    refine q_mono (o_b42 (n := n) (x2 := nI wh) (x3 := nI dy) (fl := fl) (val := val) (by omega) hV hK hkr hi (o_P (k_n C)).tail (List.range (k_n C)) n M3 (-1) 0 hck.2 (fun b hb => by rw [hP]; exact hb) (by rw [List.length_tail]; omega) ⟨g3.1, fun j q => (q3 j q).1⟩ hO hM3 (Or.inl rfl) (by omega)) (fun b hb => ⟨?_, C, C0, C1, hb.2⟩)
    obtain ⟨⟨lo2, hi2, z1, z2, z3, z4, z5, z6, z7⟩, _⟩ := hb
    rw [← hP] at z2 z3 z4
    obtain ⟨k1, k2⟩ := o_link hL hi
    have elo : lo = lo2 := by
      apply Nat.le_antisymm
      · rcases z2 with q | ⟨a, a1, a2⟩
        · exact absurd q.symm (q_m1 (by omega))
        · obtain ⟨q, q1, q2⟩ := k1 a a1
          rw [a2, q2]
          exact (t5 q q1).1
      · obtain ⟨a, a1, a2⟩ := k2 ql ql1
        rw [ql2, ← a2]
        exact (z4 a a1).1
    have ehi : hi' = hi2 := by
      apply Nat.le_antisymm
      · obtain ⟨a, a1, a2⟩ := k2 qh qh1
        rw [qh2, ← a2]
        exact (z4 a a1).2
      · rcases z3 with q | ⟨a, a1, a2⟩
        · rw [q]
          exact Nat.zero_le _
        · obtain ⟨q, q1, q2⟩ := k1 a a1
          rw [a2, q2]
          exact (t5 q q1).2
    rw [z1, elo, ehi]
  refine q_ite (fun c => q_some ?_) (fun c => q_some ?_)
  · rw [if_pos c] at ref2
    rw [t1, lN_i]
    exact ref2
  · rw [if_neg c] at ref2
    rw [t2, lN_i]
    exact ref2
