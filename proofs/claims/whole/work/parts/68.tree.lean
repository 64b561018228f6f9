/-! LAWS: trees, their steps, what they come to -/
abbrev v_L : Type := List (Int32 × Int64)
abbrev v_F : Type := (Nat → Int64) → Int64
def v_jn (o : Int32) (a b : Int64) : Int64 :=
  if o = 38 then (if a = 0 then 0 else if b = 0 then 0 else 1)
  else if o = 42 then a * b
  else if o = 43 then a + b
  else if o = 45 then a - b
  else if o = 47 then (if b = 0 then 0 else a / b)
  else if o = 60 then (if b ≤ a then 0 else 1)
  else if o = 61 then (if a = b then 1 else 0)
  else if o = 62 then (if a ≤ b then 0 else 1)
  else if a = 0 then (if b = 0 then 0 else 1) else 1
theorem v_join (o : Int32) (a b : Int64) : f_X4_join o a b = some (v_jn o a b) := by
  unfold f_X4_join v_jn m_gd
  by_cases c1 : o = 38
  · rw [if_pos c1, if_pos c1]
    by_cases d1 : a = 0
    · rw [if_pos d1, if_pos d1]
    · rw [if_neg d1, if_neg d1]
      by_cases d2 : b = 0
      · rw [if_pos d2, if_pos d2]
      · rw [if_neg d2, if_neg d2]
  rw [if_neg c1, if_neg c1]
  by_cases c2 : o = 42
  · rw [if_pos c2, if_pos c2]
  rw [if_neg c2, if_neg c2]
  by_cases c3 : o = 43
  · rw [if_pos c3, if_pos c3]
  rw [if_neg c3, if_neg c3]
  by_cases c4 : o = 45
  · rw [if_pos c4, if_pos c4]
  rw [if_neg c4, if_neg c4]
  by_cases c5 : o = 47
  · rw [if_pos c5, if_pos c5]
    by_cases d1 : b = 0
    · rw [if_pos d1, if_pos d1]
    · rw [if_neg d1, if_neg d1, if_pos d1]
  rw [if_neg c5, if_neg c5]
  by_cases c6 : o = 60
  · rw [if_pos c6, if_pos c6]
    by_cases d1 : b ≤ a
    · rw [if_pos d1, if_pos d1]
    · rw [if_neg d1, if_neg d1]
  rw [if_neg c6, if_neg c6]
  by_cases c7 : o = 61
  · rw [if_pos c7, if_pos c7]
    by_cases d1 : a = b
    · rw [if_pos d1, if_pos d1]
    · rw [if_neg d1, if_neg d1]
  rw [if_neg c7, if_neg c7]
  by_cases c8 : o = 62
  · rw [if_pos c8, if_pos c8]
    by_cases d1 : a ≤ b
    · rw [if_pos d1, if_pos d1]
    · rw [if_neg d1, if_neg d1]
  rw [if_neg c8, if_neg c8]
  by_cases d1 : a = 0
  · rw [if_pos d1, if_pos d1]
    by_cases d2 : b = 0
    · rw [if_pos d2, if_pos d2]
    · rw [if_neg d2, if_neg d2]
  · rw [if_neg d1, if_neg d1]
def v_nt (x : Int64) : Int64 := if x = 0 then 1 else 0
def v_op (o : Int32) : Prop := o = 38 ∨ o = 42 ∨ o = 43 ∨ o = 45 ∨ o = 47 ∨ o = 60 ∨ o = 61 ∨ o = 62 ∨ o = 124
/-- what holds of leaves and of what is made of trees -/
def v_cl (P : v_L → v_F → Prop) : Prop := (∀ x, P [(110, x)] (fun _ => x)) ∧ (∀ k, k < 5 → P [(118, lN k)] (fun f => f k)) ∧ (∀ (b : Bool) S v, P S v → P (S ++ [(if b = true then 33 else 126, 0)]) (fun f => if b = true then v_nt (v f) else - v f)) ∧ ∀ o S v S' v', v_op o → P S v → P S' v' → P (S ++ (S' ++ [(o, 0)])) (fun f => v_jn o (v f) (v' f))
/-- steps that are a tree's, and what it comes to -/
def v_T (S : v_L) (v : v_F) : Prop := ∀ P : v_L → v_F → Prop, v_cl P → P S v
theorem v_T0 (x : Int64) : v_T [(110, x)] (fun _ => x) := fun _ h => h.1 x
theorem v_T1 {k : Nat} (hk : k < 5) : v_T [(118, lN k)] (fun f => f k) := fun _ h => h.2.1 k hk
theorem v_T2 {S : v_L} {v : v_F} (b : Bool) (h : v_T S v) : v_T (S ++ [(if b = true then 33 else 126, 0)]) (fun f => if b = true then v_nt (v f) else - v f) := fun P c => c.2.2.1 b S v (h P c)
theorem v_T3 {S S' : v_L} {v v' : v_F} {o : Int32} (ho : v_op o) (h : v_T S v) (h' : v_T S' v') : v_T (S ++ (S' ++ [(o, 0)])) (fun f => v_jn o (v f) (v' f)) := fun P c => c.2.2.2 o S v S' v' ho (h P c) (h' P c)
def v_has (c : Nat → Int32) (c2 : Nat → Int64) : Nat → v_L → Prop
  | _, [] => True
  | i, s :: S => c i = s.1 ∧ c2 i = s.2 ∧ v_has c c2 (i + 1) S
theorem v_has_app {c : Nat → Int32} {c2 : Nat → Int64} : ∀ (S S' : List (Int32 × Int64)) (i : Nat), v_has c c2 i (S ++ S') ↔ v_has c c2 i S ∧ v_has c c2 (i + S.length) S'
  | [], S', i => ⟨fun h => ⟨trivial, h⟩, fun h => h.2⟩
  | s :: S, S', i => by
    have ih := v_has_app (c := c) (c2 := c2) S S' (i + 1)
    show (c i = s.1 ∧ c2 i = s.2 ∧ v_has c c2 (i + 1) (S ++ S')) ↔ (c i = s.1 ∧ c2 i = s.2 ∧ v_has c c2 (i + 1) S) ∧ v_has c c2 (i + (S.length + 1)) S'
    rw [ih, show i + 1 + S.length = i + (S.length + 1) by omega]
    exact ⟨fun h => ⟨⟨h.1, h.2.1, h.2.2.1⟩, h.2.2.2⟩, fun h => ⟨h.1.1, h.1.2.1, h.1.2.2, h.2⟩⟩
theorem v_has_cg {c c' : Nat → Int32} {c2 c2' : Nat → Int64} {N : Nat} (e : ∀ j, j < N → c' j = c j) (e2 : ∀ j, j < N → c2' j = c2 j) : ∀ (S : List (Int32 × Int64)) (i : Nat), i + S.length ≤ N → v_has c c2 i S → v_has c' c2' i S
  | [], _, _, _ => trivial
  | s :: S, i, hi, h => by
    have hi' : i + (S.length + 1) ≤ N := hi
    exact ⟨(e i (by omega)).trans h.1, (e2 i (by omega)).trans h.2.1, v_has_cg e e2 S (i + 1) (by omega) h.2.2⟩
theorem v_lN {k : Nat} (hk : k < 5) : (lN k).toInt32 = nI k := by
  have h : ∀ k, k < 5 → (lN k).toInt32 = nI k := by decide +kernel
  exact h k hk
/-- the class works the steps of a tree -/
def v_W (n k N : Nat) (Q : Int64 × m_M → Prop) (S : v_L) (v : v_F) : Prop := 0 < S.length ∧ ∀ (i h u : Nat) (M : m_M), M.1 k 5 = nI N → v_has (M.1 (k + 2)) (M.2 (k + 3)) i S → i + S.length ≤ N → h ≤ i → S.length < u → (∀ (u' : Nat) (M' : m_M), u' + S.length = u → M'.1 = M.1 → (∀ c, c ≠ k + 4 → M'.2 c = M.2 c) → (∀ j, j < h → M'.2 (k + 4) j = M.2 (k + 4) j) → M'.2 (k + 4) h = v (e_five (M.2 48)) → q_T (f_X4_work_b4 n k u' (nI (h + 1)) (nI (i + S.length)) M') Q) → q_T (f_X4_work_b4 n k u (nI h) (nI i) M) Q
theorem v_wk {n k N : Nat} {Q : Int64 × m_M → Prop} (hk : k < 44) (hN : N ≤ 50) {S : v_L} {v : v_F} (hT : v_T S v) : v_W n k N Q S v := by
  refine hT _ ⟨fun x => ⟨Nat.one_pos, ?_⟩, fun x hx => ⟨Nat.one_pos, ?_⟩, fun b S v hS => ⟨?_, ?_⟩, fun o S v S' v' ho hS hS' => ⟨?_, ?_⟩⟩
  · intro i h u M h5 hs hi hh hu hQ
    obtain ⟨u, rfl⟩ : ∃ v, u = v + 1 := ⟨u - 1, by omega⟩
    have hi' : i + 1 ≤ N := hi
    have s1 : M.1 (k + 2) i = 110 := hs.1
    have s2 : M.2 (k + 3) i = x := hs.2.1
    rw [f_X4_work_b4, h5]
    refine q_if (fun q => absurd ((q_le (by omega) (by omega)).mp q) (by omega)) (q_gd (q_in (by omega) (by decide)) ?_)
    rw [q_cl (by omega), s1]
    refine q_it rfl ?_
    unfold f_X4_work_b34
    refine q_it ((q_lt (b := 50) (by omega) (by decide)).mpr (by omega)) (q_it rfl (q_gd (q_in (by omega) (by decide)) (q_gd (q_in (by omega) (by decide)) (q_bd ?_))))
    rw [q_cl (by omega), q_cl (by omega), s2, q_up, q_up]
    refine hQ u _ rfl rfl (fun c hc => ?_) (fun j hj => ?_) ?_
    · funext j
      rw [q_l, if_neg (by omega)]
    · rw [q_l, if_neg (by omega)]
    · rw [q_l, if_pos ⟨rfl, rfl⟩]
  · intro i h u M h5 hs hi hh hu hQ
    obtain ⟨u, rfl⟩ : ∃ v, u = v + 1 := ⟨u - 1, by omega⟩
    have hi' : i + 1 ≤ N := hi
    have s1 : M.1 (k + 2) i = 118 := hs.1
    have s2 : M.2 (k + 3) i = lN x := hs.2.1
    rw [f_X4_work_b4, h5]
    refine q_if (fun q => absurd ((q_le (by omega) (by omega)).mp q) (by omega)) (q_gd (q_in (by omega) (by decide)) ?_)
    rw [q_cl (by omega), s1]
    refine q_if (by decide) (q_it rfl ?_)
    unfold f_X4_work_b34
    refine q_it ((q_lt (b := 50) (by omega) (by decide)).mpr (by omega)) (q_if (by decide) (q_gd (q_in (by omega) (by decide)) ?_))
    rw [q_cl (by omega), s2, v_lN hx]
    refine q_gd (q_in (by omega) (by decide)) (q_gd (q_in (by omega) (by decide)) (q_bd ?_))
    rw [q_cl (by omega), q_cl (by omega), q_up, q_up]
    refine hQ u _ rfl rfl (fun c hc => ?_) (fun j hj => ?_) ?_
    · funext j
      rw [q_l, if_neg (by omega)]
    · rw [q_l, if_neg (by omega)]
    · rw [q_l, if_pos ⟨rfl, rfl⟩]
      show M.2 48 x = e_five (M.2 48) x
      unfold e_five
      rw [if_pos hx]
  · rw [List.length_append]
    exact Nat.succ_pos _
  · intro i h u M h5 hs hi hh hu hQ
    have hs' : v_has (M.1 (k + 2)) (M.2 (k + 3)) i (S ++ [(if b = true then 33 else 126, 0)]) := hs
    rw [v_has_app] at hs'
    have hl : (S ++ [((if b = true then 33 else 126 : Int32), (0 : Int64))]).length = S.length + 1 := List.length_append
    rw [hl] at hi hu hQ
    refine hS.2 i h u M h5 hs'.1 (by omega) hh (by omega) (fun u1 M1 hu1 m1 m2 m3 m4 => ?_)
    obtain ⟨u1, rfl⟩ : ∃ v, u1 = v + 1 := ⟨u1 - 1, by omega⟩
    have s1 : M1.1 (k + 2) (i + S.length) = if b = true then 33 else 126 := by rw [m1]; exact hs'.2.1
    have x1 : (nI (h + 1) - (1 : Int32)) = nI h := nI_pred h
    rw [f_X4_work_b4, show M1.1 k 5 = nI N by rw [m1, h5]]
    refine q_if (fun q => absurd ((q_le (by omega) (by omega)).mp q) (by omega)) (q_gd (q_in (by omega) (by decide)) ?_)
    rw [q_cl (by omega), s1]
    have b93 : ∀ x4 : Int32, x4 = (if b = true then 33 else 126) → q_T (f_X4_work_b93 n k (f_X4_work_b4 n k u1) (nI (h + 1)) (nI (i + S.length)) x4 M1) Q := by
      intro x4 hx4
      have fin : ∀ y, y = (if b = true then v_nt (v (e_five (M.2 48))) else - v (e_five (M.2 48))) → q_T (f_X4_work_b4 n k u1 (nI (h + 1)) (nI (i + S.length + 1)) (m_sL M1 (k + 4) h y)) Q := by
        intro y hy
        refine hQ u1 _ (by omega) m1 (fun c hc => ?_) (fun j hj => ?_) ?_
        · rw [← m2 c hc]
          funext j
          rw [q_l, if_neg (by omega)]
        · rw [q_l, if_neg (by omega)]
          exact m3 j hj
        · rw [q_l, if_pos ⟨rfl, rfl⟩]
          exact hy
      unfold f_X4_work_b93
      rw [x1]
      refine q_it ((q_le (a := 1) (by decide) (by omega)).mpr (by omega)) ?_
      cases b
      · refine q_it hx4 (q_gd (q_in (by omega) (by decide)) (q_bd ?_))
        rw [q_cl (by omega), q_up, m4]
        exact fin _ rfl
      · refine q_if (by rw [hx4]; decide) (q_gd (q_in (by omega) (by decide)) ?_)
        rw [q_cl (by omega), q_up, m4]
        by_cases c : v (e_five (M.2 48)) = 0
        · exact q_it c (q_bd (fin _ (by unfold v_nt; rw [if_pos c]; rfl)))
        · exact q_if c (q_bd (fin _ (by unfold v_nt; rw [if_neg c]; rfl)))
    cases b
    · exact q_if (by decide) (q_if (by decide) (q_if (by decide) (q_it rfl (b93 _ rfl))))
    · exact q_if (by decide) (q_if (by decide) (q_it rfl (b93 _ rfl)))
  · rw [List.length_append, List.length_append]
    exact Nat.succ_pos _
  · intro i h u M h5 hs hi hh hu hQ
    have hs' : v_has (M.1 (k + 2)) (M.2 (k + 3)) i (S ++ (S' ++ [(o, 0)])) := hs
    rw [v_has_app, v_has_app] at hs'
    have hl : (S ++ (S' ++ [(o, (0 : Int64))])).length = S.length + S'.length + 1 := by
      rw [List.length_append, List.length_append]
      show S.length + (S'.length + 1) = _
      omega
    have pa := hS.1
    rw [hl] at hi hu hQ
    refine hS.2 i h u M h5 hs'.1 (by omega) hh (by omega) (fun u1 M1 hu1 m1 m2 m3 m4 => ?_)
    have n2 : M1.2 (k + 3) = M.2 (k + 3) := m2 _ (by omega)
    have n48 : M1.2 48 = M.2 48 := m2 _ (by omega)
    refine hS'.2 (i + S.length) (h + 1) u1 M1 (by rw [m1, h5]) (by rw [m1, n2]; exact hs'.2.1) (by omega) (by omega) (by omega) (fun u2 M2 hu2 p1 p2 p3 p4 => ?_)
    obtain ⟨u2, rfl⟩ : ∃ v, u2 = v + 1 := ⟨u2 - 1, by omega⟩
    have s1 : M2.1 (k + 2) (i + S.length + S'.length) = o := by
      rw [p1, m1]
      exact hs'.2.2.1
    have x1 : (nI (h + 1 + 1) + (-1 : Int32)) = nI (h + 1) := q_dec (h + 1)
    have x2 : (nI (h + 1) - (1 : Int32)) = nI h := nI_pred h
    rw [f_X4_work_b4, show M2.1 k 5 = nI N by rw [p1, m1, h5]]
    refine q_if (fun q => absurd ((q_le (by omega) (by omega)).mp q) (by omega)) (q_gd (q_in (by omega) (by decide)) ?_)
    rw [q_cl (by omega), s1, x1, x2]
    have o1 : o ≠ 110 ∧ o ≠ 118 ∧ o ≠ 33 ∧ o ≠ 126 := by
      rcases ho with q | q | q | q | q | q | q | q | q <;> subst q <;> decide
    refine q_if o1.1 (q_if o1.2.1 (q_if o1.2.2.1 (q_if o1.2.2.2 (q_it ((q_le (a := 2) (by decide) (by omega)).mpr (by omega)) (q_gd (q_in (by omega) (by decide)) (q_gd (q_in (by omega) (by decide)) (q_ob (q_of (v_join _ _ _) (q_bd ?_)))))))))
    rw [q_up, q_cl (by omega), q_cl (by omega)]
    rw [show i + S.length + S'.length + 1 = i + (S.length + S'.length + 1) by omega]
    refine hQ u2 _ (by omega) ((p1.trans m1)) (fun c hc => ?_) (fun j hj => ?_) ?_
    · rw [← m2 c hc, ← p2 c hc]
      funext j
      rw [q_l, if_neg (by omega)]
    · rw [q_l, if_neg (by omega), p3 j (by omega), m3 j hj]
    · rw [q_l, if_pos ⟨rfl, rfl⟩, p3 h (by omega), m4, p4, n48]
/-- a tree's steps, all of a law's: what the class comes to -/
theorem v_work {n k : Nat} {M : m_M} {S : v_L} {v : v_F} (hn : 60 < n) (hk : k < 44) (hT : v_T S v) (hS : S.length ≤ 50) (h5 : M.1 k 5 = nI S.length) (hs : v_has (M.1 (k + 2)) (M.2 (k + 3)) 0 S) : q_T (f_X4_work n k M) (fun a => a.1 = v (e_five (M.2 48))) := by
  unfold f_X4_work
  refine (v_wk (Q := fun a => a.1 = v (e_five (M.2 48))) hk hS hT).2 0 0 n M h5 hs (by omega) (Nat.le_refl _) (by omega) (fun u' M' hu' m1 m2 m3 m4 => ?_)
  obtain ⟨u', rfl⟩ : ∃ w, u' = w + 1 := ⟨u' - 1, by omega⟩
  rw [f_X4_work_b4, m1, h5]
  exact q_it ((q_le (by omega) (by omega)).mpr (by omega)) (q_it ((q_le (a := 1) (by decide) (by omega)).mpr (by omega)) (q_some m4))
