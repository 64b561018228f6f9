/-! BASE: one flat memory of ints and longs; the cells of one run at fixed places from b on; a row an instruction over it -/
abbrev m_M : Type := (Nat → Nat → Int32) × (Nat → Nat → Int64)
def m_sI (M : m_M) (k j : Nat) (x : Int32) : m_M := (va_up M.1 k (upd (M.1 k) j x), M.2)
def m_sL (M : m_M) (k j : Nat) (x : Int64) : m_M := (M.1, va_up M.2 k (vp_updL (M.2 k) j x))
def m_sC (M : m_M) (k : Nat) (f : Nat → Int32) : m_M := (va_up M.1 k f, M.2)
def m_bd {α β : Type} (x : α) (f : α → β) : β := f x
theorem m_bd_e {α β : Type} {x : α} {f : α → β} {r : β} (h : m_bd x f = r) : ∃ y, x = y ∧ f y = r := ⟨x, rfl, h⟩
def m_gd {α : Type} (c : Prop) [Decidable c] (x : Option α) : Option α := if c then x else none
theorem m_gd_e {α : Type} {c : Prop} [Decidable c] {x : Option α} {r : α} (h : m_gd c x = some r) : c ∧ x = some r := by
  unfold m_gd at h
  by_cases hc : c
  · rw [if_pos hc] at h
    exact ⟨hc, h⟩
  · rw [if_neg hc] at h
    cases h
def m_ob {α β : Type} (o : Option α) (f : α → Option β) : Option β := match o with
  | some a => f a
  | none => none
theorem m_ob_e {α β : Type} {o : Option α} {f : α → Option β} {r : β} (h : m_ob o f = some r) : ∃ a, o = some a ∧ f a = some r := by
  cases o with
  | none => cases h
  | some a => exact ⟨a, rfl, h⟩
def m_o2 {α γ β : Type} (o : Option (α × γ)) (f : α → γ → Option β) : Option β := match o with
  | some a => f a.1 a.2
  | none => none
theorem m_o2_e {α γ β : Type} {o : Option (α × γ)} {f : α → γ → Option β} {r : β} (h : m_o2 o f = some r) : ∃ a b, o = some (a, b) ∧ f a b = some r := by
  cases o with
  | none => cases h
  | some a => exact ⟨a.1, a.2, rfl, h⟩
def m_b2 {α γ β : Type} (o : α × γ) (f : α → γ → β) : β := f o.1 o.2
theorem m_b2_e {α γ β : Type} {o : α × γ} {f : α → γ → β} {r : β} (h : m_b2 o f = r) : ∃ a b, o = (a, b) ∧ f a b = r := ⟨o.1, o.2, rfl, h⟩
theorem m_it {α : Sort _} {c : Prop} [Decidable c] {a b r : α} (h : (if c then a else b) = r) (hc : c) : a = r := by rw [if_pos hc] at h; exact h
theorem m_if {α : Sort _} {c : Prop} [Decidable c] {a b r : α} (h : (if c then a else b) = r) (hc : ¬ c) : b = r := by rw [if_neg hc] at h; exact h
abbrev m_in (i : Int32) (n : Nat) : Prop := ¬ (i < 0 ∨ n ≤ i.toNatClampNeg)
abbrev m_B (x : Int32) : Prop := x = 0 ∨ x = 1
def m_layL : List (Nat × Nat) := [(17, 0), (13, 0), (0, 360), (0, 6), (5, 2), (14, 0), (0, 50), (0, 50), (1, 50), (1, 50), (14, 0), (0, 50), (0, 50), (1, 50), (1, 50), (4, 2), (13, 0), (0, 360), (0, 6), (5, 2), (14, 0), (0, 50), (0, 50), (1, 50), (1, 50), (14, 0), (0, 50), (0, 50), (1, 50), (1, 50), (13, 0), (0, 360), (0, 6), (5, 2), (14, 0), (0, 50), (0, 50), (1, 50), (1, 50), (14, 0), (0, 50), (0, 50), (1, 50), (1, 50), (2, 2), (11, 0), (6, 10), (3, 60), (1, 5), (15, 0), (0, 4), (0, 10), (2, 4), (2, 4), (15, 0), (0, 4), (0, 10), (2, 4), (2, 4), (15, 0), (0, 4), (0, 10), (2, 4), (2, 4), (15, 0), (0, 4), (0, 10), (2, 4), (2, 4), (15, 0), (0, 4), (0, 10), (2, 4), (2, 4), (15, 0), (0, 4), (0, 10), (2, 4), (2, 4), (15, 0), (0, 4), (0, 10), (2, 4), (2, 4), (15, 0), (0, 4), (0, 10), (2, 4), (2, 4), (15, 0), (0, 4), (0, 10), (2, 4), (2, 4), (15, 0), (0, 4), (0, 10), (2, 4), (2, 4), (10, 0), (10, 0), (10, 0), (10, 0), (10, 0), (10, 0), (10, 0), (10, 0), (10, 0), (10, 0), (10, 0), (10, 0), (10, 0), (10, 0), (10, 0), (10, 0), (10, 0), (10, 0), (10, 0), (10, 0), (10, 0), (10, 0), (10, 0), (10, 0), (10, 0), (10, 0), (10, 0), (10, 0), (10, 0), (10, 0), (10, 0), (10, 0), (10, 0), (10, 0), (10, 0), (10, 0), (10, 0), (10, 0), (10, 0), (10, 0), (10, 0), (10, 0), (10, 0), (10, 0), (10, 0), (10, 0), (10, 0), (10, 0), (10, 0), (10, 0), (10, 0), (10, 0), (10, 0), (10, 0), (10, 0), (10, 0), (10, 0), (10, 0), (10, 0), (10, 0), (16, 0), (0, 6), (0, 6), (0, 6), (0, 6), (0, 6), (0, 6), (2, 6), (2, 6), (12, 0), (0, 300), (1, 32), (1, 32), (18, 0), (0, 471), (0, 942), (2, 2), (0, 300), (0, 10), (0, 10), (0, 10), (0, 10), (0, 40), (2, 40), (2, 40), (0, 100), (0, 60), (0, 60), (0, 60), (0, 60), (2, 60), (2, 60), (2, 60), (1, 64), (0, 128), (1, 5), (0, 10), (0, 6), (0, 6), (0, 6), (0, 6), (1, 32), (1, 32)]
def m_N : Nat := 202
def m_lay (k : Nat) : Nat × Nat := m_layL.getD k (99, 0)
theorem m_lay_lt {k kd n : Nat} (h : m_lay k = (kd, n)) (hk : kd ≠ 99) : k < m_N := by
  rcases Nat.lt_or_ge k m_N with q | q
  · exact q
  · have h2 : m_lay k = (99, 0) := by
      unfold m_lay
      rw [List.getD_eq_getElem?_getD, List.getElem?_eq_none (show m_layL.length ≤ k from q)]
      rfl
    rw [h2] at h
    exact absurd (Prod.mk.inj h).1.symm hk
abbrev m_G : Type := va_G × (Nat → ClassId) × Nat × (Nat → Nat) × (Nat → Nat)
def m_ad (G : m_G) (k : Nat) : Nat := G.2.2.1 + k
abbrev m_K (G : m_G) (i : Nat) : Nat := G.2.2.2.1 i
abbrev m_V (G : m_G) (i : Nat) : Nat := G.2.2.2.2 i
def m_F (G : m_G) (ci k : Nat) (I : Nat → Int32) (L : Nat → Int64) : List Value := match ci with
  | 0 => [.int (I 0), .int (I 1), .int (I 2), .int (I 3), .int (I 4), .int (I 5), .int (I 6), .int (I 7), .int (I 8), .int (I 9)]
  | 1 => [.ref (m_ad G 1), .ref (m_ad G 46), .ref (m_ad G 47), .ref (m_ad G 48), .int (I 4), .int (I 5)]
  | 2 => [.ref (m_ad G 169), .int (I 1), .int (I 2), .int (I 3), .int (I 4), .int (I 5), .int (I 6), .int (I 7), .int (I 8)]
  | 3 => [.int (I 0), .int (I 1), .int (I 2), .int (I 3), .int (I 4), .ref (m_ad G (k + 1)), .ref (m_ad G (k + 2)), .ref (m_ad G (k + 3))]
  | 4 => [.ref (m_ad G (k + 1)), .int (I 1), .ref (m_ad G (k + 2)), .ref (m_ad G (k + 3)), .ref (m_ad G (k + 4)), .int (I 5), .int (I 6), .int (I 7)]
  | 5 => [.int (I 0), .int (I 1), .int (I 2), .int (I 3), .int (I 4), .int (I 5), .int (I 6), .ref (m_ad G (k + 1)), .ref (m_ad G (k + 2)), .ref (m_ad G (k + 3)), .ref (m_ad G (k + 4))]
  | 6 => [.int (I 0), .ref (m_ad G 160), .ref (m_ad G 161), .ref (m_ad G 162), .ref (m_ad G 163), .ref (m_ad G 164), .ref (m_ad G 165), .ref (m_ad G 166), .ref (m_ad G 167), .long (L 9), .long (L 10)]
  | 7 => [.ref (m_ad G 1), .ref (m_ad G 15), .ref (m_ad G 44), .ref (m_ad G 45), .ref (m_ad G 159), .ref (m_ad G 168), .ref (m_ad G 170), .ref (m_ad G 171), .long (L 8), .long (L 9)]
  | 8 => [.ref (m_ad G 173), .ref (m_ad G 174), .ref (m_ad G 175), .ref (m_ad G 176), .int (I 4), .long (L 5), .long (L 6), .ref (m_ad G 177), .ref (m_ad G 178), .ref (m_ad G 179), .ref (m_ad G 180), .ref (m_ad G 181), .ref (m_ad G 182), .ref (m_ad G 183), .ref (m_ad G 184), .ref (m_ad G 185), .ref (m_ad G 186), .ref (m_ad G 187), .ref (m_ad G 188), .ref (m_ad G 189), .ref (m_ad G 190), .ref (m_ad G 191), .int (I 22), .int (I 23), .int (I 24), .int (I 25), .int (I 26), .int (I 27), .int (I 28), .int (I 29), .int (I 30), .int (I 31), .int (I 32), .int (I 33), .int (I 34), .int (I 35), .int (I 36), .int (I 37), .int (I 38), .ref (m_ad G 192), .int (I 40), .ref (m_ad G 193), .int (I 42), .ref (m_ad G 194), .long (L 44), .ref (m_ad G 195), .long (L 46), .long (L 47), .ref (m_ad G 196), .ref (m_ad G 197), .ref (m_ad G 198), .ref (m_ad G 199), .ref (m_ad G 200), .ref (m_ad G 201)]
  | _ => []
def m_C (G : m_G) (kd : Nat × Nat) (k : Nat) (I : Nat → Int32) (L : Nat → Int64) : va_E := match kd.1 with
  | 0 => .inl (G.2.1 0, kd.2, .inl I)
  | 1 => .inl (G.2.1 1, kd.2, .inr (.inl L))
  | 2 => .inl (G.2.1 2, kd.2, .inl I)
  | 3 => .inl (G.2.1 3, kd.2, .inr (.inr (.inr (.inr (fun j => some (m_ad G (99 + j)))))))
  | 4 => .inl (G.2.1 4, kd.2, .inr (.inr (.inr (.inr (fun j => some (m_ad G (16 + 14 * j)))))))
  | 5 => .inl (G.2.1 5, kd.2, .inr (.inr (.inr (.inr (fun j => some (m_ad G (k + 1 + 5 * j)))))))
  | 6 => .inl (G.2.1 6, kd.2, .inr (.inr (.inr (.inr (fun j => some (m_ad G (49 + 5 * j)))))))
  | 10 => .inr (0, m_F G 0 k I L)
  | 11 => .inr (1, m_F G 1 k I L)
  | 12 => .inr (2, m_F G 2 k I L)
  | 13 => .inr (3, m_F G 3 k I L)
  | 14 => .inr (4, m_F G 4 k I L)
  | 15 => .inr (5, m_F G 5 k I L)
  | 16 => .inr (6, m_F G 6 k I L)
  | 17 => .inr (7, m_F G 7 k I L)
  | 18 => .inr (8, m_F G 8 k I L)
  | _ => .inr (99, [])
def m_w (G : m_G) (M : m_M) : Nat → va_E := fun a => m_C G (m_lay (a - G.2.2.1)) (a - G.2.2.1) (M.1 (a - G.2.2.1)) (M.2 (a - G.2.2.1))
def m_L (G : m_G) : List Nat := (List.range m_N).map (fun k => m_ad G k)
def m_P (G : m_G) (M : m_M) (H : Heap) : Prop := va_P G.1 vwCl (va_pl (m_L G) (m_w G M)) H
abbrev m_A (G : m_G) : Nat → Prop := fun q => G.2.2.1 ≤ q
theorem m_pl_at (G : m_G) (f : Nat → va_E) (i : Nat) : (va_pl (m_L G) f)[i]? = if i < m_N then some (m_ad G i, f (m_ad G i)) else none := by
  unfold va_pl m_L
  rw [List.getElem?_map, List.getElem?_map]
  by_cases h : i < m_N
  · rw [if_pos h, List.getElem?_range h]
    rfl
  · rw [if_neg h, List.getElem?_eq_none (by rw [List.length_range]; exact Nat.le_of_not_lt h)]
    rfl
theorem m_D (G : m_G) (f : Nat → va_E) : va_D (m_A G) (va_pl (m_L G) f) := by
  refine ⟨fun i j p q hi hj e => ?_, fun k q hk => ?_⟩
  · rw [m_pl_at] at hi hj
    by_cases h1 : i < m_N
    · by_cases h2 : j < m_N
      · rw [if_pos h1] at hi
        rw [if_pos h2] at hj
        cases hi
        cases hj
        have e2 : G.2.2.1 + i = G.2.2.1 + j := e
        omega
      · rw [if_neg h2] at hj
        cases hj
    · rw [if_neg h1] at hi
      cases hi
  · rw [m_pl_at] at hk
    by_cases h1 : k < m_N
    · rw [if_pos h1] at hk
      cases hk
      exact Nat.le_add_right _ _
    · rw [if_neg h1] at hk
      cases hk
theorem m_w_at (G : m_G) (M : m_M) (k : Nat) : m_w G M (m_ad G k) = m_C G (m_lay k) k (M.1 k) (M.2 k) := by
  unfold m_w m_ad
  rw [Nat.add_sub_cancel_left]
theorem m_at (G : m_G) (M : m_M) {k kd n : Nat} (hl : m_lay k = (kd, n)) (h9 : kd ≠ 99) : (va_pl (m_L G) (m_w G M))[k]? = some (m_ad G k, m_C G (kd, n) k (M.1 k) (M.2 k)) := by
  rw [m_pl_at, if_pos (m_lay_lt hl h9), m_w_at, hl]
theorem m_set (G : m_G) {M M' : m_M} {k kd n : Nat} (hl : m_lay k = (kd, n)) (h1 : ∀ j, j ≠ k → M'.1 j = M.1 j) (h2 : ∀ j, j ≠ k → M'.2 j = M.2 j) : (va_pl (m_L G) (m_w G M)).set k (m_ad G k, m_C G (kd, n) k (M'.1 k) (M'.2 k)) = va_pl (m_L G) (m_w G M') := by
  apply List.ext_getElem?
  intro i
  rw [List.getElem?_set]
  by_cases hik : k = i
  · subst hik
    rw [if_pos rfl, m_pl_at]
    by_cases h : k < m_N
    · rw [if_pos h, if_pos (show k < (va_pl (m_L G) (m_w G M)).length by unfold va_pl m_L; rw [List.length_map, List.length_map, List.length_range]; exact h), m_w_at, hl]
    · rw [if_neg h, if_neg (show ¬ k < (va_pl (m_L G) (m_w G M)).length by unfold va_pl m_L; rw [List.length_map, List.length_map, List.length_range]; exact h)]
  · rw [if_neg hik, m_pl_at, m_pl_at, m_w_at, m_w_at, h1 i (Ne.symm hik), h2 i (Ne.symm hik)]
theorem m_sI_ne {M : m_M} {k j : Nat} {x : Int32} : ∀ i, i ≠ k → (m_sI M k j x).1 i = M.1 i := fun i h => va_up_ne _ _ h
theorem m_sI_eq {M : m_M} {k j : Nat} {x : Int32} : (m_sI M k j x).1 k = upd (M.1 k) j x := va_up_self _ _ _
theorem m_sL_ne {M : m_M} {k j : Nat} {x : Int64} : ∀ i, i ≠ k → (m_sL M k j x).2 i = M.2 i := fun i h => va_up_ne _ _ h
theorem m_sL_eq {M : m_M} {k j : Nat} {x : Int64} : (m_sL M k j x).2 k = vp_updL (M.2 k) j x := va_up_self _ _ _
theorem m_sC_ne {M : m_M} {k : Nat} {f : Nat → Int32} : ∀ i, i ≠ k → (m_sC M k f).1 i = M.1 i := fun i h => va_up_ne _ _ h
theorem m_sC_eq {M : m_M} {k : Nat} {f : Nat → Int32} : (m_sC M k f).1 k = f := va_up_self _ _ _
def m_byt : List (List Int32) := [[112, 112, 112, 112, 112, 100, 112, 112, 112, 100, 100, 112, 112, 100, 112], [104, 116, 116, 116, 116, 45, 116, 116, 116, 45, 45, 111, 111, 45, 119], [45, 115, 115, 115, 115, 45, 45, 45, 45, 115, 115, 115, 115, 115, 45], [45, 63, 63, 63, 45, 63, 63, 63, 63, 63, 63, 63, 63, 63, 45], [112, 112, 112, 112, 112, 100, 112, 112, 112, 100, 100, 112, 112, 100, 112], [104, 97, 110, 100, 32, 103, 105, 118, 101, 32, 116, 97, 107, 101, 32, 104, 105, 100, 101, 32, 100, 101, 97, 108, 32, 111, 114, 100, 101, 114, 32, 112, 111, 115, 116, 32, 117, 110, 112, 111, 115, 116, 32, 107, 110, 111, 119, 32, 117, 115, 101, 32, 108, 111, 115, 101, 32, 111, 119, 101, 32, 115, 101, 116, 116, 108, 101, 32, 112, 97, 121, 32, 101, 110, 100, 32], [104, 116, 116, 116, 116, 45, 116, 116, 116, 45, 45, 111, 111, 45, 119], [45, 115, 115, 115, 115, 45, 45, 45, 45, 115, 115, 115, 115, 115, 45], [103, 115, 111, 119, 104]]
def m_len (i : Nat) : Nat := (m_byt.getD i []).length
def m_ch (i j : Nat) : Int32 := (m_byt.getD i []).getD j 0
def m_lt (G : m_G) (i : Nat) (s : State) (H : Heap) : Prop := va_O "java/lang/String" (m_K G i) (m_A G) s H ∧ va_OF "java/lang/String" "coder" "B" (.int 0) (m_K G i) (m_A G) s H ∧ va_OF "java/lang/String" "value" "[B" (.ref (m_V G i)) (m_K G i) (m_A G) s H ∧ va_T .byte (m_V G i) (m_len i) (fun j => .int (m_ch i j)) (m_A G) s H
def m_rs (G : m_G) (s : State) : Prop := vk_R RX3 59 "pppppdpppddppdp" (m_K G 0) s ∧ vk_R RX3 67 "htttt-ttt--oo-w" (m_K G 1) s ∧ vk_R RX3 73 "-ssss----sssss-" (m_K G 2) s ∧ vk_R RX3 75 "-???-?????????-" (m_K G 3) s ∧ vk_R RX1 67 "pppppdpppddppdp" (m_K G 4) s ∧ vk_R RX2 83 "hand give take hide deal order post unpost know use lose owe settle pay end " (m_K G 5) s ∧ vk_R RX2 51 "htttt-ttt--oo-w" (m_K G 6) s ∧ vk_R RX2 66 "-ssss----sssss-" (m_K G 7) s ∧ vk_R RX4 108 "gsowh" (m_K G 8) s
def m_tys (G : m_G) : List (ClassId × FieldType) := [(G.2.1 0, .int), (G.2.1 1, .long), (G.2.1 2, .boolean), (G.2.1 3, .object "SonsPurse$Deal"), (G.2.1 4, .object "SonsPurse$Kept"), (G.2.1 5, .object "SonsPurse$Law"), (G.2.1 6, .object "SonsPurse$Person")]
def m_ns (s : State) : Prop := va_Nw (.methodLinkNest RX7 9 yX3_init "SonsPurse") s ∧ va_Nw (.methodLinkNest RX3 20 yX4_init "SonsPurse") s ∧ va_Nw (.methodLinkNest RX1 31 yX5_init "SonsPurse") s ∧ va_Nw (.methodLinkNest RX1 32 yX0_init "SonsPurse") s ∧ va_Nw (.methodLinkNest RX7 35 yX6_init "SonsPurse") s ∧ va_Nw (.methodLinkNest RX7 42 yX2_init "SonsPurse") s ∧ va_Nw (.methodLinkNest RX3 51 yX7_isDay "SonsPurse") s
def m_z (G : m_G) (s : State) (H : Heap) : Prop := va_Z "java/lang/String" "COMPACT_STRINGS" "Z" (.int 1) (m_A G) s H ∧ va_Zq "jdk/internal/util/Preconditions" "SIOOBE_FORMATTER" "Ljava/util/function/BiFunction;" (m_A G) s H
def m_S (G : m_G) (s : State) : Prop := va_K G.1 vwCl (m_tys G) s ∧ (∀ i, i < 9 → m_lt G i s s.heap) ∧ m_rs G s ∧ m_ns s ∧ m_z G s s.heap
theorem m_lt.kept {G : m_G} {i : Nat} {U : State} {H H1 : Heap} (h : m_lt G i U H) (hq : ∀ a : Nat, a < H.size → ¬ m_A G a → H1[a]? = H[a]?) : m_lt G i U H1 := ⟨h.1.kept hq, h.2.1.kept hq, h.2.2.1.kept hq, h.2.2.2.kept hq⟩
theorem m_lt.moved {G : m_G} {i : Nat} {u U : State} {H : Heap} (hvm : u.vm.Alike U.vm) (h : m_lt G i u H) : m_lt G i U H := ⟨va_O.moved hvm h.1, va_OF.moved hvm h.2.1, va_OF.moved hvm h.2.2.1, va_T.moved hvm h.2.2.2⟩
theorem m_rs.warm {G : m_G} {s U : State} (hW : s.WarmedH U.vm) (h : m_rs G s) : m_rs G U := by
  unfold m_rs at h ⊢
  obtain ⟨h0, h1, h2, h3, h4, h5, h6, h7, h8⟩ := h
  exact ⟨h0.warm hW, h1.warm hW, h2.warm hW, h3.warm hW, h4.warm hW, h5.warm hW, h6.warm hW, h7.warm hW, h8.warm hW⟩
theorem m_rs.same {G : m_G} {u U : State} (hv : U.vm = u.vm) (h : m_rs G u) : m_rs G U := by
  unfold m_rs at h ⊢
  obtain ⟨h0, h1, h2, h3, h4, h5, h6, h7, h8⟩ := h
  exact ⟨h0.same hv, h1.same hv, h2.same hv, h3.same hv, h4.same hv, h5.same hv, h6.same hv, h7.same hv, h8.same hv⟩
theorem m_ns.warm {s U : State} (hW : s.WarmedH U.vm) (h : m_ns s) : m_ns U := by
  unfold m_ns at h ⊢
  obtain ⟨h0, h1, h2, h3, h4, h5, h6⟩ := h
  exact ⟨va_Nw.warmM hW h0, va_Nw.warmM hW h1, va_Nw.warmM hW h2, va_Nw.warmM hW h3, va_Nw.warmM hW h4, va_Nw.warmM hW h5, va_Nw.warmM hW h6⟩
theorem m_ns.same {u U : State} (hv : u.vm = U.vm) (h : m_ns u) : m_ns U := by
  unfold m_ns at h ⊢
  obtain ⟨h0, h1, h2, h3, h4, h5, h6⟩ := h
  exact ⟨va_Nw.same rfl hv h0, va_Nw.same rfl hv h1, va_Nw.same rfl hv h2, va_Nw.same rfl hv h3, va_Nw.same rfl hv h4, va_Nw.same rfl hv h5, va_Nw.same rfl hv h6⟩
theorem m_S.move {G : m_G} {s U : State} {H : Heap} {locs : List Loc} (h : m_S G s) (hS : va_S (m_A G) s.heap H locs) (hU : U.heap = H) (hW : s.WarmedH U.vm) : m_S G U := by
  obtain ⟨h1, h2, h3, h4, h5, h6⟩ := h
  subst hU
  exact ⟨va_K.moved hW.alike h1, fun i hi => ((h2 i hi).kept hS.2.1).moved hW.alike, h3.warm hW, h4.warm hW, (h5.kept hS.2.1).moved hW.alike, by
    rcases h6 with h6 | ⟨t, h6⟩
    · exact Or.inl ((h6.kept hS.2.1).moved hW.alike)
    · exact Or.inr ⟨t, (h6.kept hS.2.1).moved hW.alike⟩⟩
theorem m_S.call {G : m_G} {U : State} {g : JFrame} {mk : MethodId} {a : Array Value} (h : m_S G U) : m_S G (U.calling g mk a) := by
  obtain ⟨h1, h2, h3, h4, h5, h6⟩ := h
  exact ⟨va_K.moved (u := U) (U := U.calling g mk a) (Vm.Alike.refl U.vm) h1, fun i hi => (h2 i hi).moved (u := U) (U := U.calling g mk a) (Vm.Alike.refl U.vm), h3.same (u := U) (U := U.calling g mk a) rfl, h4.same (u := U) (U := U.calling g mk a) rfl, h5.moved (u := U) (U := U.calling g mk a) (Vm.Alike.refl U.vm), by
    rcases h6 with h6 | ⟨t, h6⟩
    · exact Or.inl (h6.moved (u := U) (U := U.calling g mk a) (Vm.Alike.refl U.vm))
    · exact Or.inr ⟨t, h6.moved (u := U) (U := U.calling g mk a) (Vm.Alike.refl U.vm)⟩⟩
abbrev m_U (y : MethodName) (cc : ByteArray) (n : Nat) (ret : Option FieldType) : List Cond := Cond.code y cc n ret :: m_ws
abbrev m_R (f w : Nat) : Room := { frames := f, cells := 0, slots := 0, locals := w }
def m_Pc (G : m_G) (As : List Value) (M : m_M) : Array Value → State → Prop := va_Pc As (fun U => m_S G U ∧ m_P G M U.heap)
abbrev m_Qi (G : m_G) (r : Int32) (M : m_M) : Array Value → State → Outcome → State → Prop := va_Qi (fun (r' : Int32) (_ : Unit) => r' = r) (fun _ t => m_P G M t.heap) (m_A G)
abbrev m_Qz (G : m_G) (r : Int32) (M : m_M) : Array Value → State → Outcome → State → Prop := va_Qi (fun (r' : Int32) (_ : Unit) => r' = r ∧ m_B r') (fun _ t => m_P G M t.heap) (m_A G)
abbrev m_Qn (ty : FieldType) (G : m_G) (r : Int32) (M : m_M) : Array Value → State → Outcome → State → Prop := va_Qi (fun (r' : Int32) (_ : Unit) => r' = r ∧ narrow ty (.int r') = .int r') (fun _ t => m_P G M t.heap) (m_A G)
abbrev m_Ql (G : m_G) (r : Int64) (M : m_M) : Array Value → State → Outcome → State → Prop := va_Ql (fun (r' : Int64) (_ : Unit) => r' = r) (fun _ t => m_P G M t.heap) (m_A G)
abbrev m_Qv (G : m_G) (M : m_M) : Array Value → State → Outcome → State → Prop := va_Qv (fun (_ : Unit) => True) (fun _ t => m_P G M t.heap) (m_A G)
theorem m_blind (G : m_G) (As : List Value) (M : m_M) : FrameBlind (m_Pc G As M) := fun a U g mk h => ⟨h.1, h.2.1.call, h.2.2⟩
theorem m_good : ∀ w ∈ m_ws, w ∈ m_ws ∧ ((w.onTables && w.keeps) = true ∨ ∃ ty, w = .arrayClass ty) := by
  have h : m_ws.all goodWord = true := by decide +kernel
  exact fun w hw => ⟨hw, good_of_word (List.all_eq_true.mp h w hw)⟩
theorem m_goodU {y : MethodName} {cc : ByteArray} {n : Nat} {ret : Option FieldType} (h : Cond.code y cc n ret ∈ m_ws) : GoodIn m_ws (m_U y cc n ret) := fun w hw => by
  rcases List.mem_cons.mp hw with e | e
  · subst e; exact m_good _ h
  · exact m_good w e
/-- a method from its entry -/
theorem m_i0 {l : Launch} {y : MethodName} {cc : ByteArray} {n : Nat} {ret : Option FieldType} {G : m_G} {As : List Value} {M : m_M} {f w : Nat} {Qc : Array Value → State → Outcome → State → Prop} (own : String) (ho : y.cls = own) (hy : plainName y.cls = true) (hn : (lg_sl As).length ≤ n)
    (hb : ∀ (p : Program) (e : Env) (s : State) (m : MethodId) (args : Array Value) (below : List Frame) (meth : Method) (c : Code), CallFix p m c cc n s args m_ws own → meth.sig.returnType = ret → meth.locks = false → m_S G s → m_P G M s.heap → va_S (m_A G) s.heap s.heap [] → ∀ ls : Array Slot, lv_has ls n (lv_args 0 As) → W p l e (m_R f w) s m args below meth c s.heap [] 0 0 (MQ below Qc args s 0 0 (m_A G)) (F0 m 0 ls [])) :
    Met l y (m_U y cc n ret) (m_R f w) (m_Pc G As M) Qc 0 0 (m_A G) := by
  refine Met.ofW (cc := cc) (maxL := n) (ret := ret) hy rfl ?_
  intro p e s m args below meth c s₁ B hml hv
  obtain ⟨rfl, hSt, hP⟩ := hv
  have hts := atoms_spec (ws := m_U y cc n ret) B.pre
  have hown : s.vm.findClass own = some m.cls := ho ▸ findClass_of_methodNamed B.named
  rw [lg_entry_eq]
  exact hb p e s m As.toArray below meth c ⟨B.exec, B.bytes, hml, hown, fun w hw => hts w (List.mem_cons_of_mem _ hw)⟩ B.returns B.notSynchronized hSt hP va_S.rf _ (lv_entry As hn)
def m_max (x y : Int32) : Int32 := if x < y then y else x
def m_min (x y : Int32) : Int32 := if y < x then y else x
def m_maxJ (x y : Int64) : Int64 := if y < x then x else y
def m_minJ (x y : Int64) : Int64 := if y < x then y else x
section MROWS
variable {p : Program} {l : Launch} {e : Env} {R : Room} {s : State} {m : MethodId} {args : Array Value} {below : List Frame} {meth : Method} {c : Code} {H : Heap} {locs : List Loc} {cells slots : Nat} {Q : State → Prop}
variable {cc : ByteArray} {pc nL : Nat} {ls : Array Slot} {rest st : List Value} {own : String} {G : m_G} {M : m_M}
/-- arrays: read -/
theorem m_ia (X : CallFix p m c cc nL s args m_ws own) (hSt : m_S G s) (hP : m_P G M H) {k n : Nat} (hl : m_lay k = (0, n)) {i : Int32} (hin : m_in i n) {j : Nat} (hj : i.toNatClampNeg = j) (hdg : decode cc pc = .ok (.iaload, 1))
    (kk : W p l e R s m args below meth c H locs cells slots Q (F0 m (pc + 1) ls (.int (M.1 k j) :: rest))) : W p l e R s m args below meth c H locs cells slots Q (F0 m pc ls (.int i :: .ref (m_ad G k) :: rest)) := by
  subst hj
  exact va_iald (D := G.1) X.1 X.2.1 hSt.1 hP k 0 (m_at G M hl (by decide)) rfl hin hdg kk
theorem m_la (X : CallFix p m c cc nL s args m_ws own) (hSt : m_S G s) (hP : m_P G M H) {k n : Nat} (hl : m_lay k = (1, n)) {i : Int32} (hin : m_in i n) {j : Nat} (hj : i.toNatClampNeg = j) (hdg : decode cc pc = .ok (.laload, 1))
    (kk : W p l e R s m args below meth c H locs cells slots Q (F0 m (pc + 1) ls (.long (M.2 k j) :: rest))) : W p l e R s m args below meth c H locs cells slots Q (F0 m pc ls (.int i :: .ref (m_ad G k) :: rest)) := by
  subst hj
  exact va_lald (D := G.1) X.1 X.2.1 hSt.1 hP k 1 (m_at G M hl (by decide)) rfl hin hdg kk
theorem m_za (X : CallFix p m c cc nL s args m_ws own) (hSt : m_S G s) (hP : m_P G M H) {k n : Nat} (hl : m_lay k = (2, n)) {i : Int32} (hin : m_in i n) {j : Nat} (hj : i.toNatClampNeg = j) (hdg : decode cc pc = .ok (.baload, 1))
    (kk : W p l e R s m args below meth c H locs cells slots Q (F0 m (pc + 1) ls (.int (M.1 k j) :: rest))) : W p l e R s m args below meth c H locs cells slots Q (F0 m pc ls (.int i :: .ref (m_ad G k) :: rest)) := by
  subst hj
  exact va_zald (D := G.1) X.1 X.2.1 hSt.1 hP k 2 (m_at G M hl (by decide)) rfl hin hdg kk
theorem m_qa3 (X : CallFix p m c cc nL s args m_ws own) (hSt : m_S G s) (hP : m_P G M H) {k n : Nat} (hl : m_lay k = (3, n)) {i : Int32} (hin : m_in i n) {j : Nat} (hj : i.toNatClampNeg = j) (hdg : decode cc pc = .ok (.aaload, 1))
    (kk : W p l e R s m args below meth c H locs cells slots Q (F0 m (pc + 1) ls (.ref (m_ad G (99 + j)) :: rest))) : W p l e R s m args below meth c H locs cells slots Q (F0 m pc ls (.int i :: .ref (m_ad G k) :: rest)) := by
  subst hj
  exact va_aldq (D := G.1) X.1 X.2.1 hSt.1 hP k 3 (m_at G M hl (by decide)) rfl hin hdg kk
theorem m_qa4 (X : CallFix p m c cc nL s args m_ws own) (hSt : m_S G s) (hP : m_P G M H) {k n : Nat} (hl : m_lay k = (4, n)) {i : Int32} (hin : m_in i n) {j : Nat} (hj : i.toNatClampNeg = j) (hdg : decode cc pc = .ok (.aaload, 1))
    (kk : W p l e R s m args below meth c H locs cells slots Q (F0 m (pc + 1) ls (.ref (m_ad G (16 + 14 * j)) :: rest))) : W p l e R s m args below meth c H locs cells slots Q (F0 m pc ls (.int i :: .ref (m_ad G k) :: rest)) := by
  subst hj
  exact va_aldq (D := G.1) X.1 X.2.1 hSt.1 hP k 4 (m_at G M hl (by decide)) rfl hin hdg kk
theorem m_qa5 (X : CallFix p m c cc nL s args m_ws own) (hSt : m_S G s) (hP : m_P G M H) {k n : Nat} (hl : m_lay k = (5, n)) {i : Int32} (hin : m_in i n) {j : Nat} (hj : i.toNatClampNeg = j) (hdg : decode cc pc = .ok (.aaload, 1))
    (kk : W p l e R s m args below meth c H locs cells slots Q (F0 m (pc + 1) ls (.ref (m_ad G (k + 1 + 5 * j)) :: rest))) : W p l e R s m args below meth c H locs cells slots Q (F0 m pc ls (.int i :: .ref (m_ad G k) :: rest)) := by
  subst hj
  exact va_aldq (D := G.1) X.1 X.2.1 hSt.1 hP k 5 (m_at G M hl (by decide)) rfl hin hdg kk
theorem m_qa6 (X : CallFix p m c cc nL s args m_ws own) (hSt : m_S G s) (hP : m_P G M H) {k n : Nat} (hl : m_lay k = (6, n)) {i : Int32} (hin : m_in i n) {j : Nat} (hj : i.toNatClampNeg = j) (hdg : decode cc pc = .ok (.aaload, 1))
    (kk : W p l e R s m args below meth c H locs cells slots Q (F0 m (pc + 1) ls (.ref (m_ad G (49 + 5 * j)) :: rest))) : W p l e R s m args below meth c H locs cells slots Q (F0 m pc ls (.int i :: .ref (m_ad G k) :: rest)) := by
  subst hj
  exact va_aldq (D := G.1) X.1 X.2.1 hSt.1 hP k 6 (m_at G M hl (by decide)) rfl hin hdg kk
/-- arrays: write -/
theorem m_is (X : CallFix p m c cc nL s args m_ws own) (hSt : m_S G s) (hP : m_P G M H) (hS : va_S (m_A G) s.heap H locs) {k n : Nat} (hl : m_lay k = (0, n)) {i x : Int32} (hin : m_in i n) {j : Nat} (hj : i.toNatClampNeg = j) (hdg : decode cc pc = .ok (.iastore, 1))
    {M' : m_M} (eM : m_sI M k j x = M') (kk : ∀ (H1 : Heap) (locs1 : List Loc), m_P G M' H1 → va_S (m_A G) s.heap H1 locs1 → W p l e R s m args below meth c H1 locs1 cells slots Q (F0 m (pc + 1) ls rest)) : W p l e R s m args below meth c H locs cells slots Q (F0 m pc ls (.int x :: .int i :: .ref (m_ad G k) :: rest)) := by
  subst hj
  subst eM
  refine va_iast (D := G.1) X.1 X.2.1 hSt.1 hP (m_D G _) hS k 0 (m_at G M hl (by decide)) rfl hin hdg (fun H1 locs1 q1 q2 q3 => kk H1 locs1 ?_ q3)
  have e := m_set G (M := M) (M' := m_sI M k i.toNatClampNeg x) hl m_sI_ne (fun _ _ => rfl)
  rw [m_sI_eq] at e
  show va_P G.1 vwCl (va_pl (m_L G) (m_w G _)) H1
  rw [← e]
  exact q1
theorem m_ls (X : CallFix p m c cc nL s args m_ws own) (hSt : m_S G s) (hP : m_P G M H) (hS : va_S (m_A G) s.heap H locs) {k n : Nat} (hl : m_lay k = (1, n)) {i : Int32} {x : Int64} (hin : m_in i n) {j : Nat} (hj : i.toNatClampNeg = j) (hdg : decode cc pc = .ok (.lastore, 1))
    {M' : m_M} (eM : m_sL M k j x = M') (kk : ∀ (H1 : Heap) (locs1 : List Loc), m_P G M' H1 → va_S (m_A G) s.heap H1 locs1 → W p l e R s m args below meth c H1 locs1 cells slots Q (F0 m (pc + 1) ls rest)) : W p l e R s m args below meth c H locs cells slots Q (F0 m pc ls (.long x :: .int i :: .ref (m_ad G k) :: rest)) := by
  subst hj
  subst eM
  refine va_last (D := G.1) X.1 X.2.1 hSt.1 hP (m_D G _) hS k 1 (m_at G M hl (by decide)) rfl hin hdg (fun H1 locs1 q1 q2 q3 => kk H1 locs1 ?_ q3)
  have e := m_set G (M := M) (M' := m_sL M k i.toNatClampNeg x) hl (fun _ _ => rfl) m_sL_ne
  rw [m_sL_eq] at e
  show va_P G.1 vwCl (va_pl (m_L G) (m_w G _)) H1
  rw [← e]
  exact q1
theorem m_narB {x : Int32} (h : m_B x) : narrow .boolean (.int x) = .int x := by
  rcases h with h | h <;> subst h <;> rfl
theorem m_zs (X : CallFix p m c cc nL s args m_ws own) (hSt : m_S G s) (hP : m_P G M H) (hS : va_S (m_A G) s.heap H locs) {k n : Nat} (hl : m_lay k = (2, n)) {i x : Int32} (hin : m_in i n) {j : Nat} (hj : i.toNatClampNeg = j) (hB : m_B x) (hdg : decode cc pc = .ok (.bastore, 1))
    {M' : m_M} (eM : m_sI M k j x = M') (kk : ∀ (H1 : Heap) (locs1 : List Loc), m_P G M' H1 → va_S (m_A G) s.heap H1 locs1 → W p l e R s m args below meth c H1 locs1 cells slots Q (F0 m (pc + 1) ls rest)) : W p l e R s m args below meth c H locs cells slots Q (F0 m pc ls (.int x :: .int i :: .ref (m_ad G k) :: rest)) := by
  subst hj
  subst eM
  refine va_zast (D := G.1) X.1 X.2.1 hSt.1 hP (m_D G _) hS k 2 (m_at G M hl (by decide)) rfl hin hdg (fun H1 locs1 q1 q2 q3 => kk H1 locs1 ?_ q3)
  have e := m_set G (M := M) (M' := m_sI M k i.toNatClampNeg x) hl m_sI_ne (fun _ _ => rfl)
  rw [m_sI_eq] at e
  have ex : vp_nar .boolean x = x := by unfold vp_nar; rw [m_narB hB]
  rw [ex] at q1
  show va_P G.1 vwCl (va_pl (m_L G) (m_w G _)) H1
  rw [← e]
  exact q1
/-- System.arraycopy of int rows -/
theorem m_cp (X : CallFix p m c cc nL s args m_ws own) (hSt : m_S G s) (hP : m_P G M H) (hS : va_S (m_A G) s.heap H locs) (hls : ls.size = nL) {idx : Nat} (hlk : Cond.methodLink own idx arraycopyName ∈ m_ws) (hnat : Cond.native arraycopyName ∈ m_ws) (hstat : Cond.static arraycopyName ∈ m_ws) (hini : Cond.initialized "java/lang/System" ∈ m_ws) {k0 k1 n0 n1 : Nat} (hl0 : m_lay k0 = (0, n0)) (hl1 : m_lay k1 = (0, n1))
    {sp dp n : Int32} {a b q : Nat} (h1 : ¬ sp < 0) (h2 : ¬ dp < 0) (h3 : ¬ n < 0) (ha : sp.toNatClampNeg = a) (hb : dp.toNatClampNeg = b) (hq : n.toNatClampNeg = q) (h4 : a + q ≤ n0) (h5 : b + q ≤ n1) (hframes : 1 ≤ R.frames) (hlocals : (rest.map fun v => v.category).sum + (nativeFrameWords "java/lang/System" "arraycopy" 5 + 11) ≤ R.locals) (hdg : decode cc pc = .ok (.invokestatic idx, 3))
    {M' : m_M} (eM : m_sC M k1 (va_cpy (M.1 k0) (M.1 k1) a b q) = M') (kk : ∀ (H1 : Heap) (locs1 : List Loc), m_P G M' H1 → va_S (m_A G) s.heap H1 locs1 → W p l e R s m args below meth c H1 locs1 cells slots Q (F0 m (pc + 3) ls rest)) : W p l e R s m args below meth c H locs cells slots Q (F0 m pc ls (.int n :: .int dp :: .ref (m_ad G k1) :: .int sp :: .ref (m_ad G k0) :: rest)) := by
  subst ha
  subst hb
  subst hq
  subst eM
  refine va_copyi (D := G.1) X.1 X.2.1 (X.2.2.1.trans hls.symm) X.2.2.2.1 (X.2.2.2.2 _ hlk) (X.2.2.2.2 _ hnat) (X.2.2.2.2 _ hstat) (X.2.2.2.2 _ hini) hSt.1 hP (m_D G _) hS k0 k1 0 0 (ty := .int) (m_at G M hl0 (by decide)) (m_at G M hl1 (by decide)) rfl rfl rfl h1 h2 h3 h4 h5 (fun _ _ => rfl) hframes hlocals hdg (fun H1 locs1 q1 q2 q3 => kk H1 locs1 ?_ q3)
  have e := m_set G (M := M) (M' := m_sC M k1 (va_cpy (M.1 k0) (M.1 k1) sp.toNatClampNeg dp.toNatClampNeg n.toNatClampNeg)) hl1 m_sC_ne (fun _ _ => rfl)
  rw [m_sC_eq] at e
  show va_P G.1 vwCl (va_pl (m_L G) (m_w G _)) H1
  rw [← e]
  exact q1
/-- the ends -/
theorem m_ri (X : CallFix p m c cc nL s args m_ws own) (hr : meth.sig.returnType = some .int) (hlk : meth.locks = false) (hP : m_P G M H) (hS : va_S (m_A G) s.heap H locs) {x r : Int32} {M' : m_M} (hx : x = r) (hM : M = M') (hdg : decode cc pc = .ok (.ireturn, 1)) :
    W p l e R s m args below meth c H locs cells slots (MQ below (m_Qi G r M') args s cells slots (m_A G)) (F0 m pc ls [.int x]) := by
  subst hx
  subst hM
  exact W.iret X.1 X.2.1 hr (fun t ht _ => ⟨⟨x, (), rfl, rfl, by show m_P G _ t.heap; rw [ht]; exact hP⟩, hS.F ht⟩) hS.2.2 hdg hlk
theorem m_rz (X : CallFix p m c cc nL s args m_ws own) (hr : meth.sig.returnType = some .boolean) (hlk : meth.locks = false) (hP : m_P G M H) (hS : va_S (m_A G) s.heap H locs) {x r : Int32} {M' : m_M} (hx : x = r) (hM : M = M') (hB : m_B x) (hdg : decode cc pc = .ok (.ireturn, 1)) :
    W p l e R s m args below meth c H locs cells slots (MQ below (m_Qz G r M') args s cells slots (m_A G)) (F0 m pc ls [.int x]) := by
  subst hx
  subst hM
  exact W.zret X.1 X.2.1 hr (m_narB hB) (fun t ht _ => ⟨⟨x, (), rfl, ⟨rfl, hB⟩, by show m_P G _ t.heap; rw [ht]; exact hP⟩, hS.F ht⟩) hS.2.2 hdg hlk
theorem m_rn (X : CallFix p m c cc nL s args m_ws own) {ty : FieldType} (hr : meth.sig.returnType = some ty) (hlk : meth.locks = false) (hP : m_P G M H) (hS : va_S (m_A G) s.heap H locs) {x r : Int32} {M' : m_M} (hx : x = r) (hM : M = M') (hn : narrow ty (.int x) = .int x) (hdg : decode cc pc = .ok (.ireturn, 1)) :
    W p l e R s m args below meth c H locs cells slots (MQ below (m_Qn ty G r M') args s cells slots (m_A G)) (F0 m pc ls [.int x]) := by
  subst hx
  subst hM
  exact W.zret X.1 X.2.1 hr hn (fun t ht _ => ⟨⟨x, (), rfl, ⟨rfl, hn⟩, by show m_P G _ t.heap; rw [ht]; exact hP⟩, hS.F ht⟩) hS.2.2 hdg hlk
theorem m_rl (X : CallFix p m c cc nL s args m_ws own) (hr : meth.sig.returnType = some .long) (hlk : meth.locks = false) (hP : m_P G M H) (hS : va_S (m_A G) s.heap H locs) {x r : Int64} {M' : m_M} (hx : x = r) (hM : M = M') (hdg : decode cc pc = .ok (.lreturn, 1)) :
    W p l e R s m args below meth c H locs cells slots (MQ below (m_Ql G r M') args s cells slots (m_A G)) (F0 m pc ls [.long x]) := by
  subst hx
  subst hM
  exact W.lret X.1 X.2.1 hr (fun t ht _ => ⟨⟨x, (), rfl, rfl, by show m_P G _ t.heap; rw [ht]; exact hP⟩, hS.F ht⟩) hS.2.2 hdg hlk
theorem m_rv (X : CallFix p m c cc nL s args m_ws own) (hr : meth.sig.returnType = none) (hlk : meth.locks = false) (hP : m_P G M H) (hS : va_S (m_A G) s.heap H locs) {M' : m_M} (hM : M = M') (hdg : decode cc pc = .ok (.return_, 1)) :
    W p l e R s m args below meth c H locs cells slots (MQ below (m_Qv G M') args s cells slots (m_A G)) (F0 m pc ls []) := by
  subst hM
  exact W.vret X.1 X.2.1 hr (fun t ht _ => ⟨⟨(), rfl, trivial, by show m_P G _ t.heap; rw [ht]; exact hP⟩, hS.F ht⟩) hS.2.2 hdg hlk
/-- the receiver -/
theorem m_rcS (hSt : m_S G s) (hS : va_S (m_A G) s.heap H locs) {i : Nat} (hi : i < 9) : ∃ cell : Cell, H[m_K G i]? = some cell ∧ cell.vm.isStatics = false ∧ s.vm.findClass "java/lang/String" = some cell.cls := by
  obtain ⟨cell, h1, h2, h3, -⟩ := (hSt.2.1 i hi).1.kept hS.2.1
  exact ⟨cell, h1, h2, h3⟩
/-- calls -/
def m_Go (p : Program) (l : Launch) (e : Env) (R : Room) (s : State) (m : MethodId) (args : Array Value) (below : List Frame) (meth : Method) (c : Code) (H : Heap) (locs : List Loc) (cells slots : Nat) (g : JFrame) (rest : List Value) (Qa : State → Outcome → State → Prop) (G : m_G) : Prop := va_Run p l e R s m args below meth c H locs cells slots 0 0 g rest Qa (m_A G)
theorem m_cV (X : CallFix p m c cc nL s args m_ws own) (hSt : m_S G s) (hP : m_P G M H) (hS : va_S (m_A G) s.heap H locs) (hls : ls.size = nL) {y : MethodName} {bytes : ByteArray} {maxL n idx f w a : Nat} {ret : Option FieldType} {As : List Value} {Qc : Array Value → State → Outcome → State → Prop}
    (hM : Met l y (m_U y bytes maxL ret) (m_R f w) (m_Pc G (.ref a :: As) M) Qc 0 0 (m_A G))
    (hcode : Cond.code y bytes maxL ret ∈ m_ws) (hlk : Cond.methodLink own idx y ∈ m_ws) (hin : Cond.instanceMethod y ∈ m_ws) (hsel : Cond.selects y.cls y y ∈ m_ws) (hini : Cond.initialized y.cls ∈ m_ws) (hd : y.cls ≠ "java/lang/invoke/MethodHandle" ∧ y.cls ≠ "java/lang/invoke/VarHandle" ∧ (parseMethodDescriptor y.desc).map (fun d => d.parameters.length) = some n)
    (hrc : ∃ cell : Cell, H[a]? = some cell ∧ cell.vm.isStatics = false ∧ s.vm.findClass y.cls = some cell.cls) (hn : As.length = n) (hst : st = As.reverse ++ .ref a :: rest) (hR : f + 1 ≤ R.frames ∧ 8 + (maxL + 11) + w ≤ R.locals) (hrest : (rest.map fun v => v.category).sum ≤ 8) (hf : cells ≤ R.cells ∧ slots ≤ R.slots) (hdg : decode cc pc = .ok (.invokevirtual idx, 3)) :
    va_Run p l e R s m args below meth c H locs cells slots 0 0 (F0 m pc ls st) rest (Qc (Value.ref a :: As).toArray) (m_A G) := by
  have hX := X.2.2.2.2
  refine va_runV (C := y.cls) (n := n) (As := As) (rest := rest) X hM ⟨callB_of n hX (m_goodU hcode) rfl rfl rfl (hX _ hini) (hX _ hlk) hd hR, hX _ hin, hX _ hsel⟩ ⟨m_blind G _ M, hrc, fun U hU hW => ⟨rfl, hSt.move hS hU hW, by rw [hU]; exact hP⟩⟩ rfl hn hls hst (lv_room (rest := st) hrest) hdg hf
theorem m_cS (X : CallFix p m c cc nL s args m_ws own) (hSt : m_S G s) (hP : m_P G M H) (hS : va_S (m_A G) s.heap H locs) (hls : ls.size = nL) {y : MethodName} {bytes : ByteArray} {maxL n idx f w : Nat} {ret : Option FieldType} {As : List Value} {Qc : Array Value → State → Outcome → State → Prop}
    (hM : Met l y (m_U y bytes maxL ret) (m_R f w) (m_Pc G As M) Qc 0 0 (m_A G))
    (hcode : Cond.code y bytes maxL ret ∈ m_ws) (hlk : Cond.methodLink own idx y ∈ m_ws) (hstat : Cond.static y ∈ m_ws) (hini : Cond.initialized y.cls ∈ m_ws) (hd : y.cls ≠ "java/lang/invoke/MethodHandle" ∧ y.cls ≠ "java/lang/invoke/VarHandle" ∧ (parseMethodDescriptor y.desc).map (fun d => d.parameters.length) = some n)
    (hn : As.length = n) (hst : st = As.reverse ++ rest) (hR : f + 1 ≤ R.frames ∧ 8 + (maxL + 11) + w ≤ R.locals) (hrest : (rest.map fun v => v.category).sum ≤ 8) (hf : cells ≤ R.cells ∧ slots ≤ R.slots) (hdg : decode cc pc = .ok (.invokestatic idx, 3)) :
    va_Run p l e R s m args below meth c H locs cells slots 0 0 (F0 m pc ls st) rest (Qc As.toArray) (m_A G) := by
  have hX := X.2.2.2.2
  refine va_runS (n := n) (As := As) (rest := rest) X hM ⟨callB_of n hX (m_goodU hcode) rfl rfl rfl (hX _ hini) (hX _ hlk) hd hR, hX _ hstat⟩ ⟨m_blind G _ M, fun U hU hW => ⟨rfl, hSt.move hS hU hW, by rw [hU]; exact hP⟩⟩ rfl hn hls hst (lv_room (rest := st) hrest) hdg hf
/-- behind a call -/
theorem m_bi {st0 : List Value} {a : Array Value} {r : Int32} {M' : m_M} (hr : va_Run p l e R s m args below meth c H locs cells slots 0 0 (F0 m pc ls st0) rest (m_Qi G r M' a) (m_A G)) (hS : va_S (m_A G) s.heap H locs)
    (kk : ∀ (H1 : Heap) (locs1 : List Loc), m_P G M' H1 → va_S (m_A G) s.heap H1 locs1 → W p l e R s m args below meth c H1 locs1 cells slots Q (F0 m (pc + 3) ls (.int r :: rest))) : W p l e R s m args below meth c H locs cells slots Q (F0 m pc ls st0) :=
  va_calli hr hS (fun _ _ h => h) (fun _ h => h) (fun r1 _ t H1 locs1 ht _ hp hB _ _ hS1 => by
    subst hp
    exact kk H1 locs1 (by rw [← ht]; exact hB) hS1)
theorem m_bz {st0 : List Value} {a : Array Value} {r : Int32} {M' : m_M} (hr : va_Run p l e R s m args below meth c H locs cells slots 0 0 (F0 m pc ls st0) rest (m_Qz G r M' a) (m_A G)) (hS : va_S (m_A G) s.heap H locs)
    (kk : ∀ (H1 : Heap) (locs1 : List Loc), m_P G M' H1 → va_S (m_A G) s.heap H1 locs1 → m_B r → W p l e R s m args below meth c H1 locs1 cells slots Q (F0 m (pc + 3) ls (.int r :: rest))) : W p l e R s m args below meth c H locs cells slots Q (F0 m pc ls st0) :=
  va_calli hr hS (fun _ _ h => h) (fun _ h => h) (fun r1 _ t H1 locs1 ht _ hp hB _ _ hS1 => by
    obtain ⟨hp, hz⟩ := hp
    subst hp
    exact kk H1 locs1 (by rw [← ht]; exact hB) hS1 hz)
theorem m_bn {ty : FieldType} {st0 : List Value} {a : Array Value} {r : Int32} {M' : m_M} (hr : va_Run p l e R s m args below meth c H locs cells slots 0 0 (F0 m pc ls st0) rest (m_Qn ty G r M' a) (m_A G)) (hS : va_S (m_A G) s.heap H locs)
    (kk : ∀ (H1 : Heap) (locs1 : List Loc), m_P G M' H1 → va_S (m_A G) s.heap H1 locs1 → narrow ty (.int r) = .int r → W p l e R s m args below meth c H1 locs1 cells slots Q (F0 m (pc + 3) ls (.int r :: rest))) : W p l e R s m args below meth c H locs cells slots Q (F0 m pc ls st0) :=
  va_calli hr hS (fun _ _ h => h) (fun _ h => h) (fun r1 _ t H1 locs1 ht _ hp hB _ _ hS1 => by
    obtain ⟨hp, hz⟩ := hp
    subst hp
    exact kk H1 locs1 (by rw [← ht]; exact hB) hS1 hz)
theorem m_bl {st0 : List Value} {a : Array Value} {r : Int64} {M' : m_M} (hr : va_Run p l e R s m args below meth c H locs cells slots 0 0 (F0 m pc ls st0) rest (m_Ql G r M' a) (m_A G)) (hS : va_S (m_A G) s.heap H locs)
    (kk : ∀ (H1 : Heap) (locs1 : List Loc), m_P G M' H1 → va_S (m_A G) s.heap H1 locs1 → W p l e R s m args below meth c H1 locs1 cells slots Q (F0 m (pc + 3) ls (.long r :: rest))) : W p l e R s m args below meth c H locs cells slots Q (F0 m pc ls st0) :=
  va_calll hr hS (fun _ _ h => h) (fun _ h => h) (fun r1 _ t H1 locs1 ht _ hp hB _ _ hS1 => by
    subst hp
    exact kk H1 locs1 (by rw [← ht]; exact hB) hS1)
theorem m_bv {st0 : List Value} {a : Array Value} {M' : m_M} (hr : va_Run p l e R s m args below meth c H locs cells slots 0 0 (F0 m pc ls st0) rest (m_Qv G M' a) (m_A G)) (hS : va_S (m_A G) s.heap H locs)
    (kk : ∀ (H1 : Heap) (locs1 : List Loc), m_P G M' H1 → va_S (m_A G) s.heap H1 locs1 → W p l e R s m args below meth c H1 locs1 cells slots Q (F0 m (pc + 3) ls rest)) : W p l e R s m args below meth c H locs cells slots Q (F0 m pc ls st0) :=
  va_callv hr hS (fun _ _ h => h) (fun _ h => h) (fun _ t H1 locs1 ht _ _ hB _ _ hS1 => kk H1 locs1 (by rw [← ht]; exact hB) hS1)
/-- a long compare and its branch -/
theorem m_cmp_lt {x y : Int64} : lg_cmp x y < 0 ↔ x < y := by
  unfold lg_cmp
  by_cases h1 : y < x
  · rw [if_pos h1]
    exact ⟨fun h => absurd h (by decide), fun h => (Int64.lt_irrefl (Int64.lt_trans h h1)).elim⟩
  · rw [if_neg h1]
    by_cases h2 : x = y
    · rw [if_pos h2]
      exact ⟨fun h => absurd h (by decide), fun h => by subst h2; exact (Int64.lt_irrefl h).elim⟩
    · rw [if_neg h2]
      refine ⟨fun _ => ?_, fun _ => by decide⟩
      rcases Int64.lt_or_eq_of_le (Int64.not_lt.mp h1) with q | q
      · exact q
      · exact absurd q h2
theorem m_cmp_eq {x y : Int64} : lg_cmp x y = 0 ↔ x = y := by
  unfold lg_cmp
  by_cases h1 : y < x
  · rw [if_pos h1]
    exact ⟨fun h => absurd h (by decide), fun h => by subst h; exact (Int64.lt_irrefl h1).elim⟩
  · rw [if_neg h1]
    by_cases h2 : x = y
    · rw [if_pos h2]
      exact ⟨fun _ => h2, fun _ => rfl⟩
    · rw [if_neg h2]
      exact ⟨fun h => absurd h (by decide), fun h => absurd h h2⟩
theorem m_cmp_gt {x y : Int64} : 0 < lg_cmp x y ↔ y < x := by
  unfold lg_cmp
  by_cases h1 : y < x
  · rw [if_pos h1]
    exact ⟨fun _ => h1, fun _ => by decide⟩
  · rw [if_neg h1]
    by_cases h2 : x = y
    · rw [if_pos h2]
      exact ⟨fun h => absurd h (by decide), fun h => absurd h h1⟩
    · rw [if_neg h2]
      exact ⟨fun h => absurd h (by decide), fun h => absurd h h1⟩
theorem m_cmp_le {x y : Int64} : lg_cmp x y ≤ 0 ↔ x ≤ y := by
  rw [← Int32.not_lt, ← Int64.not_lt]
  exact not_congr m_cmp_gt
theorem m_cmp_ge {x y : Int64} : 0 ≤ lg_cmp x y ↔ y ≤ x := by
  rw [← Int32.not_lt, ← Int64.not_lt]
  exact not_congr m_cmp_lt
theorem m_tin (X : CallFix p m c cc nL s args m_ws own) {dflt lo hi : Int} {offs : Array Int} {len : Nat} {x : Int32} {off : Int} {tgt : Nat} (hdg : decode cc pc = .ok (.tableswitch dflt lo hi offs, len)) (hx : ∃ k : Int32, x = k ∧ ¬ k.toInt < lo ∧ ¬ hi < k.toInt ∧ offs[(k.toInt - lo).toNat]? = some off) (ht : (pc : Int) + off = (tgt : Int))
    (kk : W p l e R s m args below meth c H locs cells slots Q (F0 m tgt ls rest)) : W p l e R s m args below meth c H locs cells slots Q (F0 m pc ls (.int x :: rest)) := by
  obtain ⟨k, hx, h1, h2, ho⟩ := hx
  subst hx
  exact lv_tableIn X.1 X.2.1 hdg h1 h2 ho ht kk
theorem m_tdf (X : CallFix p m c cc nL s args m_ws own) {dflt lo hi : Int} {offs : Array Int} {len : Nat} {x : Int32} {tgt : Nat} (hdg : decode cc pc = .ok (.tableswitch dflt lo hi offs, len)) (hx : (x.toInt < lo ∨ hi < x.toInt) ∨ ∃ k : Int32, x = k ∧ ¬ k.toInt < lo ∧ ¬ hi < k.toInt ∧ offs[(k.toInt - lo).toNat]? = some dflt) (ht : (pc : Int) + dflt = (tgt : Int))
    (kk : W p l e R s m args below meth c H locs cells slots Q (F0 m tgt ls rest)) : W p l e R s m args below meth c H locs cells slots Q (F0 m pc ls (.int x :: rest)) := by
  rcases hx with hx | hx
  · exact lv_tableOut X.1 X.2.1 hdg hx ht kk
  · exact m_tin X hdg hx ht kk
theorem m_ne {x k : Int32} {z : Int} (h : ¬ x = k) (hz : k.toInt = z) : x.toInt ≠ z := fun e => h (Int32.toInt_inj.mp (e.trans hz.symm))
theorem m_lkd {x : Int} {l : List (Int × Int)} {dflt : Int} (h : ∀ q ∈ l, q.1 ≠ x) : Op.lookupswitch.offset l dflt x = dflt := by
  refine Op.lookupswitch.offset_none (List.find?_eq_none.mpr fun q hq => ?_)
  simpa using h q hq
theorem m_lin (X : CallFix p m c cc nL s args m_ws own) {dflt : Int} {ps : Array (Int × Int)} {len : Nat} {x : Int32} {off : Int} {tgt : Nat} (hdg : decode cc pc = .ok (.lookupswitch dflt ps, len)) (hx : ∃ k : Int32, x = k ∧ Op.lookupswitch.offset ps.toList dflt k.toInt = off) (hp : (ps.toList.zip (ps.toList.drop 1)).all (fun (a, next) => a.1 < next.1) = true) (ht : (pc : Int) + off = (tgt : Int))
    (kk : W p l e R s m args below meth c H locs cells slots Q (F0 m tgt ls rest)) : W p l e R s m args below meth c H locs cells slots Q (F0 m pc ls (.int x :: rest)) := by
  obtain ⟨k, hx, ho⟩ := hx
  subst hx
  exact lv_lookup X.1 X.2.1 hdg hp ho ht kk
theorem m_llt (X : CallFix p m c cc nL s args m_ws own) {x y : Int64} {off : Int} {tgt : Nat} (hd1 : decode cc pc = .ok (.lcmp, 1)) (hd2 : decode cc (pc + 1) = .ok (.ifCond .lt off, 3)) (ht : ((pc + 1 : Nat) : Int) + off = (tgt : Int))
    (kt : x < y → W p l e R s m args below meth c H locs cells slots Q (F0 m tgt ls rest)) (kf : ¬ x < y → W p l e R s m args below meth c H locs cells slots Q (F0 m (pc + 4) ls rest)) : W p l e R s m args below meth c H locs cells slots Q (F0 m pc ls (.long y :: .long x :: rest)) :=
  W.lcmp X.1 X.2.1 hd1 (lv_if_lt X.1 X.2.1 hd2 ht (fun h => kt (m_cmp_lt.mp h)) (fun h => kf (fun q => h (m_cmp_lt.mpr q))))
theorem m_lge (X : CallFix p m c cc nL s args m_ws own) {x y : Int64} {off : Int} {tgt : Nat} (hd1 : decode cc pc = .ok (.lcmp, 1)) (hd2 : decode cc (pc + 1) = .ok (.ifCond .ge off, 3)) (ht : ((pc + 1 : Nat) : Int) + off = (tgt : Int))
    (kt : y ≤ x → W p l e R s m args below meth c H locs cells slots Q (F0 m tgt ls rest)) (kf : ¬ y ≤ x → W p l e R s m args below meth c H locs cells slots Q (F0 m (pc + 4) ls rest)) : W p l e R s m args below meth c H locs cells slots Q (F0 m pc ls (.long y :: .long x :: rest)) :=
  W.lcmp X.1 X.2.1 hd1 (lv_if_ge X.1 X.2.1 hd2 ht (fun h => kt (m_cmp_ge.mp h)) (fun h => kf (fun q => h (m_cmp_ge.mpr q))))
theorem m_lgt (X : CallFix p m c cc nL s args m_ws own) {x y : Int64} {off : Int} {tgt : Nat} (hd1 : decode cc pc = .ok (.lcmp, 1)) (hd2 : decode cc (pc + 1) = .ok (.ifCond .gt off, 3)) (ht : ((pc + 1 : Nat) : Int) + off = (tgt : Int))
    (kt : y < x → W p l e R s m args below meth c H locs cells slots Q (F0 m tgt ls rest)) (kf : ¬ y < x → W p l e R s m args below meth c H locs cells slots Q (F0 m (pc + 4) ls rest)) : W p l e R s m args below meth c H locs cells slots Q (F0 m pc ls (.long y :: .long x :: rest)) :=
  W.lcmp X.1 X.2.1 hd1 (lv_if_gt X.1 X.2.1 hd2 ht (fun h => kt (m_cmp_gt.mp h)) (fun h => kf (fun q => h (m_cmp_gt.mpr q))))
theorem m_lle (X : CallFix p m c cc nL s args m_ws own) {x y : Int64} {off : Int} {tgt : Nat} (hd1 : decode cc pc = .ok (.lcmp, 1)) (hd2 : decode cc (pc + 1) = .ok (.ifCond .le off, 3)) (ht : ((pc + 1 : Nat) : Int) + off = (tgt : Int))
    (kt : x ≤ y → W p l e R s m args below meth c H locs cells slots Q (F0 m tgt ls rest)) (kf : ¬ x ≤ y → W p l e R s m args below meth c H locs cells slots Q (F0 m (pc + 4) ls rest)) : W p l e R s m args below meth c H locs cells slots Q (F0 m pc ls (.long y :: .long x :: rest)) :=
  W.lcmp X.1 X.2.1 hd1 (lv_if_le X.1 X.2.1 hd2 ht (fun h => kt (m_cmp_le.mp h)) (fun h => kf (fun q => h (m_cmp_le.mpr q))))
theorem m_leq (X : CallFix p m c cc nL s args m_ws own) {x y : Int64} {off : Int} {tgt : Nat} (hd1 : decode cc pc = .ok (.lcmp, 1)) (hd2 : decode cc (pc + 1) = .ok (.ifCond .eq off, 3)) (ht : ((pc + 1 : Nat) : Int) + off = (tgt : Int))
    (kt : x = y → W p l e R s m args below meth c H locs cells slots Q (F0 m tgt ls rest)) (kf : ¬ x = y → W p l e R s m args below meth c H locs cells slots Q (F0 m (pc + 4) ls rest)) : W p l e R s m args below meth c H locs cells slots Q (F0 m pc ls (.long y :: .long x :: rest)) :=
  W.lcmp X.1 X.2.1 hd1 (lv_if_eq X.1 X.2.1 hd2 ht (fun h => kt (m_cmp_eq.mp h)) (fun h => kf (fun q => h (m_cmp_eq.mpr q))))
theorem m_lne (X : CallFix p m c cc nL s args m_ws own) {x y : Int64} {off : Int} {tgt : Nat} (hd1 : decode cc pc = .ok (.lcmp, 1)) (hd2 : decode cc (pc + 1) = .ok (.ifCond .ne off, 3)) (ht : ((pc + 1 : Nat) : Int) + off = (tgt : Int))
    (kt : ¬ x = y → W p l e R s m args below meth c H locs cells slots Q (F0 m tgt ls rest)) (kf : x = y → W p l e R s m args below meth c H locs cells slots Q (F0 m (pc + 4) ls rest)) : W p l e R s m args below meth c H locs cells slots Q (F0 m pc ls (.long y :: .long x :: rest)) :=
  W.lcmp X.1 X.2.1 hd1 (lv_if_ne X.1 X.2.1 hd2 ht (fun h => kt (fun q => h (m_cmp_eq.mpr q))) (fun h => kf (m_cmp_eq.mp h)))
/-- a literal's own fields -/
theorem m_sv (X : CallFix p m c cc nL s args m_ws RJ0) (hSt : m_S G s) (hS : va_S (m_A G) s.heap H locs) {i : Nat} (hi : i < 9) {idx : Nat} (hlk : Cond.fieldLink RJ0 idx "java/lang/String" "value" "[B" ∈ m_ws) (hdg : decode cc pc = .ok (.getfield idx, 3))
    (kk : W p l e R s m args below meth c H locs cells slots Q (F0 m (pc + 3) ls (.ref (m_V G i) :: rest))) : W p l e R s m args below meth c H locs cells slots Q (F0 m pc ls (.ref (m_K G i) :: rest)) :=
  vk_getf X.1 X.2.1 (hSt.2.1 i hi).2.2.1 hS X.2.2.2.1 (X.2.2.2.2 _ hlk) (fun _ h9 => h9) hdg kk
theorem m_sc (X : CallFix p m c cc nL s args m_ws RJ0) (hSt : m_S G s) (hS : va_S (m_A G) s.heap H locs) {i : Nat} (hi : i < 9) {idx : Nat} (hlk : Cond.fieldLink RJ0 idx "java/lang/String" "coder" "B" ∈ m_ws) (hdg : decode cc pc = .ok (.getfield idx, 3))
    (kk : W p l e R s m args below meth c H locs cells slots Q (F0 m (pc + 3) ls (.int 0 :: rest))) : W p l e R s m args below meth c H locs cells slots Q (F0 m pc ls (.ref (m_K G i) :: rest)) :=
  vk_getf X.1 X.2.1 (hSt.2.1 i hi).2.1 hS X.2.2.2.1 (X.2.2.2.2 _ hlk) (fun _ h9 => h9) hdg kk
theorem m_sb (X : CallFix p m c cc nL s args m_ws own) (hSt : m_S G s) (hS : va_S (m_A G) s.heap H locs) {i : Nat} (hi : i < 9) {j : Int32} (hin : m_in j (m_len i)) (hdg : decode cc pc = .ok (.baload, 1))
    (kk : W p l e R s m args below meth c H locs cells slots Q (F0 m (pc + 1) ls (.int (m_ch i j.toNatClampNeg) :: rest))) : W p l e R s m args below meth c H locs cells slots Q (F0 m pc ls (.int j :: .ref (m_V G i) :: rest)) :=
  va_tb X.1 X.2.1 (hSt.2.1 i hi).2.2.2 hS hin rfl hdg kk
theorem m_sn (X : CallFix p m c cc nL s args m_ws own) (hSt : m_S G s) (hS : va_S (m_A G) s.heap H locs) {i : Nat} (hi : i < 9) (hdg : decode cc pc = .ok (.arraylength, 1))
    (kk : W p l e R s m args below meth c H locs cells slots Q (F0 m (pc + 1) ls (.int (nI (m_len i)) :: rest))) : W p l e R s m args below meth c H locs cells slots Q (F0 m pc ls (.ref (m_V G i) :: rest)) :=
  va_tlen X.1 X.2.1 (hSt.2.1 i hi).2.2.2 hS rfl hdg kk
theorem m_sk (X : CallFix p m c cc nL s args m_ws own) (hSt : m_S G s) (hS : va_S (m_A G) s.heap H locs) {idx : Nat} (hlk : Cond.fieldLink own idx "java/lang/String" "COMPACT_STRINGS" "Z" ∈ m_ws) (hdg : decode cc pc = .ok (.getstatic idx, 3))
    (kk : W p l e R s m args below meth c H locs cells slots Q (F0 m (pc + 3) ls (.int 1 :: rest))) : W p l e R s m args below meth c H locs cells slots Q (F0 m pc ls rest) :=
  va_gets X.1 X.2.1 hSt.2.2.2.2.1 hS X.2.2.2.1 (X.2.2.2.2 _ hlk) (fun _ h9 => h9) hdg kk
theorem m_so (X : CallFix p m c cc nL s args m_ws own) (hSt : m_S G s) (hS : va_S (m_A G) s.heap H locs) {idx : Nat} (hlk : Cond.fieldLink own idx "jdk/internal/util/Preconditions" "SIOOBE_FORMATTER" "Ljava/util/function/BiFunction;" ∈ m_ws) (hdg : decode cc pc = .ok (.getstatic idx, 3))
    (kk : ∀ v : Option Nat, W p l e R s m args below meth c H locs cells slots Q (F0 m (pc + 3) ls (va_rf v :: rest))) : W p l e R s m args below meth c H locs cells slots Q (F0 m pc ls rest) := by
  rcases hSt.2.2.2.2.2 with h | ⟨t, h⟩
  · exact va_gets X.1 X.2.1 h hS X.2.2.2.1 (X.2.2.2.2 _ hlk) (fun _ h9 => h9) hdg (kk none)
  · exact va_gets X.1 X.2.1 h hS X.2.2.2.1 (X.2.2.2.2 _ hlk) (fun _ h9 => h9) hdg (kk (some t))
theorem m_cN (X : CallFix p m c cc nL s args m_ws own) (hSt : m_S G s) (hP : m_P G M H) (hS : va_S (m_A G) s.heap H locs) (hls : ls.size = nL) {y : MethodName} {bytes : ByteArray} {maxL n idx f w : Nat} {host : String} {ret : Option FieldType} {As : List Value} {Qc : Array Value → State → Outcome → State → Prop}
    (hM : Met l y (m_U y bytes maxL ret) (m_R f w) (m_Pc G As M) Qc 0 0 (m_A G))
    (hcode : Cond.code y bytes maxL ret ∈ m_ws) (hlk : va_Nw (.methodLinkNest own idx y host) s) (hstat : Cond.static y ∈ m_ws) (hini : Cond.initialized y.cls ∈ m_ws) (hd : y.cls ≠ "java/lang/invoke/MethodHandle" ∧ y.cls ≠ "java/lang/invoke/VarHandle" ∧ (parseMethodDescriptor y.desc).map (fun d => d.parameters.length) = some n)
    (hn : As.length = n) (hst : st = As.reverse ++ rest) (hR : f + 1 ≤ R.frames ∧ 8 + (maxL + 11) + w ≤ R.locals) (hrest : (rest.map fun v => v.category).sum ≤ 8) (hf : cells ≤ R.cells ∧ slots ≤ R.slots) (hdg : decode cc pc = .ok (.invokestatic idx, 3)) :
    va_Run p l e R s m args below meth c H locs cells slots 0 0 (F0 m pc ls st) rest (Qc As.toArray) (m_A G) := by
  have hX := X.2.2.2.2
  refine va_runSN (n := n) (As := As) (rest := rest) X hM ⟨va_cnB n hX (m_goodU hcode) rfl rfl rfl hlk (hX _ hini) hd hR, hX _ hstat, trivial⟩ ⟨m_blind G _ M, fun U hU hW => ⟨rfl, hSt.move hS hU hW, by rw [hU]; exact hP⟩⟩ rfl hn hls hst (lv_room (rest := st) hrest) hdg hf
theorem m_ti {x y : Int32} (h : x = y) (k : W p l e R s m args below meth c H locs cells slots Q (F0 m pc ls (.int y :: rest))) : W p l e R s m args below meth c H locs cells slots Q (F0 m pc ls (.int x :: rest)) := by
  subst h
  exact k
theorem m_tl {x y : Int64} (h : x = y) (k : W p l e R s m args below meth c H locs cells slots Q (F0 m pc ls (.long y :: rest))) : W p l e R s m args below meth c H locs cells slots Q (F0 m pc ls (.long x :: rest)) := by
  subst h
  exact k
theorem m_mx (X : CallFix p m c cc nL s args m_ws own) (hls : ls.size = nL) {idx : Nat} (hlk : Cond.methodLink own idx Lib.Math.max.name ∈ m_ws) (hstat : Cond.static Lib.Math.max.name ∈ m_ws) (hini : Cond.initialized "java/lang/Math" ∈ m_ws) (hcode : Cond.code Lib.Math.max.name Lib.Math.max.code 2 (some .int) ∈ m_ws) (hframes : 1 ≤ R.frames) (hlocals : (rest.map fun v => v.category).sum + 13 ≤ R.locals) (hf : cells ≤ R.cells ∧ slots ≤ R.slots) {x y r : Int32} (hdg : decode cc pc = .ok (.invokestatic idx, 3)) (er : m_max x y = r)
    (kk : W p l e R s m args below meth c H locs cells slots Q (F0 m (pc + 3) ls (.int r :: rest))) : W p l e R s m args below meth c H locs cells slots Q (F0 m pc ls (.int y :: .int x :: rest)) := by
  subst er
  exact va_mmax X.1 X.2.1 (X.2.2.1.trans hls.symm) X.2.2.2.1 (X.2.2.2.2 _ hlk) (X.2.2.2.2 _ hstat) (X.2.2.2.2 _ hini) (X.2.2.2.2 _ hcode) hframes hlocals hf.1 hf.2 hdg kk
theorem m_mn (X : CallFix p m c cc nL s args m_ws own) (hls : ls.size = nL) {idx : Nat} (hlk : Cond.methodLink own idx Lib.Math.min.name ∈ m_ws) (hstat : Cond.static Lib.Math.min.name ∈ m_ws) (hini : Cond.initialized "java/lang/Math" ∈ m_ws) (hcode : Cond.code Lib.Math.min.name Lib.Math.min.code 2 (some .int) ∈ m_ws) (hframes : 1 ≤ R.frames) (hlocals : (rest.map fun v => v.category).sum + 13 ≤ R.locals) (hf : cells ≤ R.cells ∧ slots ≤ R.slots) {x y r : Int32} (hdg : decode cc pc = .ok (.invokestatic idx, 3)) (er : m_min x y = r)
    (kk : W p l e R s m args below meth c H locs cells slots Q (F0 m (pc + 3) ls (.int r :: rest))) : W p l e R s m args below meth c H locs cells slots Q (F0 m pc ls (.int y :: .int x :: rest)) := by
  subst er
  exact va_mmin X.1 X.2.1 (X.2.2.1.trans hls.symm) X.2.2.2.1 (X.2.2.2.2 _ hlk) (X.2.2.2.2 _ hstat) (X.2.2.2.2 _ hini) (X.2.2.2.2 _ hcode) hframes hlocals hf.1 hf.2 hdg kk
theorem m_mxJ (X : CallFix p m c cc nL s args m_ws own) (hls : ls.size = nL) {idx : Nat} (hlk : Cond.methodLink own idx Lib.MathLoose.max_long.x ∈ m_ws) (hstat : Cond.static Lib.MathLoose.max_long.x ∈ m_ws) (hini : Cond.initialized "java/lang/Math" ∈ m_ws) (hcode : Cond.code Lib.MathLoose.max_long.x Lib.MathLoose.max_long.code 4 (some .long) ∈ m_ws) (hframes : 1 ≤ R.frames) (hlocals : (rest.map fun v => v.category).sum + 15 ≤ R.locals) (hf : cells ≤ R.cells ∧ slots ≤ R.slots) {x y r : Int64} (hdg : decode cc pc = .ok (.invokestatic idx, 3)) (er : m_maxJ x y = r)
    (kk : W p l e R s m args below meth c H locs cells slots Q (F0 m (pc + 3) ls (.long r :: rest))) : W p l e R s m args below meth c H locs cells slots Q (F0 m pc ls (.long y :: .long x :: rest)) := by
  subst er
  exact va_mmax_long X.1 X.2.1 (X.2.2.1.trans hls.symm) X.2.2.2.1 (X.2.2.2.2 _ hlk) (X.2.2.2.2 _ hstat) (X.2.2.2.2 _ hini) (X.2.2.2.2 _ hcode) hframes hlocals hf.1 hf.2 hdg kk
theorem m_mnJ (X : CallFix p m c cc nL s args m_ws own) (hls : ls.size = nL) {idx : Nat} (hlk : Cond.methodLink own idx Lib.MathLoose.min_long.x ∈ m_ws) (hstat : Cond.static Lib.MathLoose.min_long.x ∈ m_ws) (hini : Cond.initialized "java/lang/Math" ∈ m_ws) (hcode : Cond.code Lib.MathLoose.min_long.x Lib.MathLoose.min_long.code 4 (some .long) ∈ m_ws) (hframes : 1 ≤ R.frames) (hlocals : (rest.map fun v => v.category).sum + 15 ≤ R.locals) (hf : cells ≤ R.cells ∧ slots ≤ R.slots) {x y r : Int64} (hdg : decode cc pc = .ok (.invokestatic idx, 3)) (er : m_minJ x y = r)
    (kk : W p l e R s m args below meth c H locs cells slots Q (F0 m (pc + 3) ls (.long r :: rest))) : W p l e R s m args below meth c H locs cells slots Q (F0 m pc ls (.long y :: .long x :: rest)) := by
  subst er
  exact va_mmin_long X.1 X.2.1 (X.2.2.1.trans hls.symm) X.2.2.2.1 (X.2.2.2.2 _ hlk) (X.2.2.2.2 _ hstat) (X.2.2.2.2 _ hini) (X.2.2.2.2 _ hcode) hframes hlocals hf.1 hf.2 hdg kk

theorem m_g0 (X : CallFix p m c cc nL s args m_ws own) (hSt : m_S G s) (hP : m_P G M H) {k : Nat} (hl : m_lay k = (10, 0)) (j : Nat) (hj : j < 10) {v : Value} (hv : (m_F G 0 k (M.1 k) (M.2 k))[j]? = some v) {idx : Nat} (hlk : Cond.fieldLink own idx (TX0 j).1 (TX0 j).2.1 (TX0 j).2.2.1 ∈ m_ws) (hdg : decode cc pc = .ok (.getfield idx, 3))
    (kk : W p l e R s m args below meth c H locs cells slots Q (F0 m (pc + 3) ls (v :: rest))) : W p l e R s m args below meth c H locs cells slots Q (F0 m pc ls (.ref (m_ad G k) :: rest)) :=
  va_get (D := G.1) (ci := 0) (C := RX0) (T := TX0) (N := 10) X.1 X.2.1 X.2.2.2.2 inlX0 X.2.2.2.1 hSt.1 hP k (m_at G M hl (by decide)) rfl j hj (X.2.2.2.2 _ hlk) (fun _ h9 => h9) hv hdg kk
theorem m_p0 (X : CallFix p m c cc nL s args m_ws own) (hSt : m_S G s) (hP : m_P G M H) (hS : va_S (m_A G) s.heap H locs) {k : Nat} (hl : m_lay k = (10, 0)) (j : Nat) (hj : j < 10) {v : Value} {ty : FieldType} (M' : m_M) (hset : (m_F G 0 k (M.1 k) (M.2 k)).set j v = m_F G 0 k (M'.1 k) (M'.2 k)) (h1 : ∀ i, i ≠ k → M'.1 i = M.1 i) (h2 : ∀ i, i ≠ k → M'.2 i = M.2 i) (hfin : (TX0 j).2.2.2 = false) (hd : parseFieldDescriptor (TX0 j).2.2.1 = some ty) (hn : narrow ty v = v) (hfit : fits ty v = true) {idx : Nat} (hlk : Cond.fieldLink own idx (TX0 j).1 (TX0 j).2.1 (TX0 j).2.2.1 ∈ m_ws) (hdg : decode cc pc = .ok (.putfield idx, 3))
    (kk : ∀ (H1 : Heap) (locs1 : List Loc), m_P G M' H1 → va_S (m_A G) s.heap H1 locs1 → W p l e R s m args below meth c H1 locs1 cells slots Q (F0 m (pc + 3) ls rest)) : W p l e R s m args below meth c H locs cells slots Q (F0 m pc ls (v :: .ref (m_ad G k) :: rest)) := by
  refine va_put (D := G.1) (ci := 0) (C := RX0) (T := TX0) (N := 10) X.1 X.2.1 X.2.2.2.2 inlX0 tyX0 tyX0_ok nmX0 X.2.2.2.1 hSt.1 hP (m_D G _) hS k (m_at G M hl (by decide)) rfl j hj (X.2.2.2.2 _ hlk) (fun _ h9 => h9) hfin hd hn hfit (Nat.lt_of_lt_of_le hj (Nat.le_of_ble_eq_true rfl)) hdg (fun H1 locs1 q1 q2 q3 => kk H1 locs1 ?_ q3)
  have e := m_set G (M := M) (M' := M') hl h1 h2
  have e2 : m_C G (10, 0) k (M'.1 k) (M'.2 k) = .inr (0, (m_F G 0 k (M.1 k) (M.2 k)).set j v) := by rw [hset]; rfl
  rw [e2] at e
  show va_P G.1 vwCl (va_pl (m_L G) (m_w G M')) H1
  rw [← e]
  exact q1
theorem m_pi0 (X : CallFix p m c cc nL s args m_ws own) (hSt : m_S G s) (hP : m_P G M H) (hS : va_S (m_A G) s.heap H locs) {k : Nat} (hl : m_lay k = (10, 0)) (j : Nat) (hj : j < 10) {x : Int32} {M' : m_M} (eM : m_sI M k j x = M') (hset : (m_F G 0 k (M.1 k) (M.2 k)).set j (.int x) = m_F G 0 k (upd (M.1 k) j x) (M.2 k)) (hfin : (TX0 j).2.2.2 = false) (hd : parseFieldDescriptor (TX0 j).2.2.1 = some .int) {idx : Nat} (hlk : Cond.fieldLink own idx (TX0 j).1 (TX0 j).2.1 (TX0 j).2.2.1 ∈ m_ws) (hdg : decode cc pc = .ok (.putfield idx, 3))
    (kk : ∀ (H1 : Heap) (locs1 : List Loc), m_P G M' H1 → va_S (m_A G) s.heap H1 locs1 → W p l e R s m args below meth c H1 locs1 cells slots Q (F0 m (pc + 3) ls rest)) : W p l e R s m args below meth c H locs cells slots Q (F0 m pc ls (.int x :: .ref (m_ad G k) :: rest)) := by
  subst eM
  exact m_p0 X hSt hP hS hl j hj (ty := .int) (m_sI M k j x) (by rw [m_sI_eq]; exact hset) m_sI_ne (fun _ _ => rfl) hfin hd rfl rfl hlk hdg kk
theorem m_pz0 (X : CallFix p m c cc nL s args m_ws own) (hSt : m_S G s) (hP : m_P G M H) (hS : va_S (m_A G) s.heap H locs) {k : Nat} (hl : m_lay k = (10, 0)) (j : Nat) (hj : j < 10) {x : Int32} (hB : m_B x) {M' : m_M} (eM : m_sI M k j x = M') (hset : (m_F G 0 k (M.1 k) (M.2 k)).set j (.int x) = m_F G 0 k (upd (M.1 k) j x) (M.2 k)) (hfin : (TX0 j).2.2.2 = false) (hd : parseFieldDescriptor (TX0 j).2.2.1 = some .boolean) {idx : Nat} (hlk : Cond.fieldLink own idx (TX0 j).1 (TX0 j).2.1 (TX0 j).2.2.1 ∈ m_ws) (hdg : decode cc pc = .ok (.putfield idx, 3))
    (kk : ∀ (H1 : Heap) (locs1 : List Loc), m_P G M' H1 → va_S (m_A G) s.heap H1 locs1 → W p l e R s m args below meth c H1 locs1 cells slots Q (F0 m (pc + 3) ls rest)) : W p l e R s m args below meth c H locs cells slots Q (F0 m pc ls (.int x :: .ref (m_ad G k) :: rest)) := by
  subst eM
  exact m_p0 X hSt hP hS hl j hj (ty := .boolean) (m_sI M k j x) (by rw [m_sI_eq]; exact hset) m_sI_ne (fun _ _ => rfl) hfin hd (m_narB hB) (by rcases hB with h | h <;> subst h <;> rfl) hlk hdg kk
theorem m_pl0 (X : CallFix p m c cc nL s args m_ws own) (hSt : m_S G s) (hP : m_P G M H) (hS : va_S (m_A G) s.heap H locs) {k : Nat} (hl : m_lay k = (10, 0)) (j : Nat) (hj : j < 10) {x : Int64} {M' : m_M} (eM : m_sL M k j x = M') (hset : (m_F G 0 k (M.1 k) (M.2 k)).set j (.long x) = m_F G 0 k (M.1 k) (vp_updL (M.2 k) j x)) (hfin : (TX0 j).2.2.2 = false) (hd : parseFieldDescriptor (TX0 j).2.2.1 = some .long) {idx : Nat} (hlk : Cond.fieldLink own idx (TX0 j).1 (TX0 j).2.1 (TX0 j).2.2.1 ∈ m_ws) (hdg : decode cc pc = .ok (.putfield idx, 3))
    (kk : ∀ (H1 : Heap) (locs1 : List Loc), m_P G M' H1 → va_S (m_A G) s.heap H1 locs1 → W p l e R s m args below meth c H1 locs1 cells slots Q (F0 m (pc + 3) ls rest)) : W p l e R s m args below meth c H locs cells slots Q (F0 m pc ls (.long x :: .ref (m_ad G k) :: rest)) := by
  subst eM
  exact m_p0 X hSt hP hS hl j hj (ty := .long) (m_sL M k j x) (by rw [m_sL_eq]; exact hset) (fun _ _ => rfl) m_sL_ne hfin hd rfl rfl hlk hdg kk
theorem m_rc0 (hSt : m_S G s) (hP : m_P G M H) {k : Nat} (hl : m_lay k = (10, 0)) : ∃ cell : Cell, H[m_ad G k]? = some cell ∧ cell.vm.isStatics = false ∧ s.vm.findClass RX0 = some cell.cls :=
  va_recv (q := (RX0, TX0, 10)) (ci := 0) hSt.1 hP rfl (m_at G M hl (by decide))
theorem m_g1 (X : CallFix p m c cc nL s args m_ws own) (hSt : m_S G s) (hP : m_P G M H) {k : Nat} (hl : m_lay k = (11, 0)) (j : Nat) (hj : j < 6) {v : Value} (hv : (m_F G 1 k (M.1 k) (M.2 k))[j]? = some v) {idx : Nat} (hlk : Cond.fieldLink own idx (TX1 j).1 (TX1 j).2.1 (TX1 j).2.2.1 ∈ m_ws) (hdg : decode cc pc = .ok (.getfield idx, 3))
    (kk : W p l e R s m args below meth c H locs cells slots Q (F0 m (pc + 3) ls (v :: rest))) : W p l e R s m args below meth c H locs cells slots Q (F0 m pc ls (.ref (m_ad G k) :: rest)) :=
  va_get (D := G.1) (ci := 1) (C := RX1) (T := TX1) (N := 6) X.1 X.2.1 X.2.2.2.2 inlX1 X.2.2.2.1 hSt.1 hP k (m_at G M hl (by decide)) rfl j hj (X.2.2.2.2 _ hlk) (fun _ h9 => h9) hv hdg kk
theorem m_p1 (X : CallFix p m c cc nL s args m_ws own) (hSt : m_S G s) (hP : m_P G M H) (hS : va_S (m_A G) s.heap H locs) {k : Nat} (hl : m_lay k = (11, 0)) (j : Nat) (hj : j < 6) {v : Value} {ty : FieldType} (M' : m_M) (hset : (m_F G 1 k (M.1 k) (M.2 k)).set j v = m_F G 1 k (M'.1 k) (M'.2 k)) (h1 : ∀ i, i ≠ k → M'.1 i = M.1 i) (h2 : ∀ i, i ≠ k → M'.2 i = M.2 i) (hfin : (TX1 j).2.2.2 = false) (hd : parseFieldDescriptor (TX1 j).2.2.1 = some ty) (hn : narrow ty v = v) (hfit : fits ty v = true) {idx : Nat} (hlk : Cond.fieldLink own idx (TX1 j).1 (TX1 j).2.1 (TX1 j).2.2.1 ∈ m_ws) (hdg : decode cc pc = .ok (.putfield idx, 3))
    (kk : ∀ (H1 : Heap) (locs1 : List Loc), m_P G M' H1 → va_S (m_A G) s.heap H1 locs1 → W p l e R s m args below meth c H1 locs1 cells slots Q (F0 m (pc + 3) ls rest)) : W p l e R s m args below meth c H locs cells slots Q (F0 m pc ls (v :: .ref (m_ad G k) :: rest)) := by
  refine va_put (D := G.1) (ci := 1) (C := RX1) (T := TX1) (N := 6) X.1 X.2.1 X.2.2.2.2 inlX1 tyX1 tyX1_ok nmX1 X.2.2.2.1 hSt.1 hP (m_D G _) hS k (m_at G M hl (by decide)) rfl j hj (X.2.2.2.2 _ hlk) (fun _ h9 => h9) hfin hd hn hfit (Nat.lt_of_lt_of_le hj (Nat.le_of_ble_eq_true rfl)) hdg (fun H1 locs1 q1 q2 q3 => kk H1 locs1 ?_ q3)
  have e := m_set G (M := M) (M' := M') hl h1 h2
  have e2 : m_C G (11, 0) k (M'.1 k) (M'.2 k) = .inr (1, (m_F G 1 k (M.1 k) (M.2 k)).set j v) := by rw [hset]; rfl
  rw [e2] at e
  show va_P G.1 vwCl (va_pl (m_L G) (m_w G M')) H1
  rw [← e]
  exact q1
theorem m_pi1 (X : CallFix p m c cc nL s args m_ws own) (hSt : m_S G s) (hP : m_P G M H) (hS : va_S (m_A G) s.heap H locs) {k : Nat} (hl : m_lay k = (11, 0)) (j : Nat) (hj : j < 6) {x : Int32} {M' : m_M} (eM : m_sI M k j x = M') (hset : (m_F G 1 k (M.1 k) (M.2 k)).set j (.int x) = m_F G 1 k (upd (M.1 k) j x) (M.2 k)) (hfin : (TX1 j).2.2.2 = false) (hd : parseFieldDescriptor (TX1 j).2.2.1 = some .int) {idx : Nat} (hlk : Cond.fieldLink own idx (TX1 j).1 (TX1 j).2.1 (TX1 j).2.2.1 ∈ m_ws) (hdg : decode cc pc = .ok (.putfield idx, 3))
    (kk : ∀ (H1 : Heap) (locs1 : List Loc), m_P G M' H1 → va_S (m_A G) s.heap H1 locs1 → W p l e R s m args below meth c H1 locs1 cells slots Q (F0 m (pc + 3) ls rest)) : W p l e R s m args below meth c H locs cells slots Q (F0 m pc ls (.int x :: .ref (m_ad G k) :: rest)) := by
  subst eM
  exact m_p1 X hSt hP hS hl j hj (ty := .int) (m_sI M k j x) (by rw [m_sI_eq]; exact hset) m_sI_ne (fun _ _ => rfl) hfin hd rfl rfl hlk hdg kk
theorem m_pz1 (X : CallFix p m c cc nL s args m_ws own) (hSt : m_S G s) (hP : m_P G M H) (hS : va_S (m_A G) s.heap H locs) {k : Nat} (hl : m_lay k = (11, 0)) (j : Nat) (hj : j < 6) {x : Int32} (hB : m_B x) {M' : m_M} (eM : m_sI M k j x = M') (hset : (m_F G 1 k (M.1 k) (M.2 k)).set j (.int x) = m_F G 1 k (upd (M.1 k) j x) (M.2 k)) (hfin : (TX1 j).2.2.2 = false) (hd : parseFieldDescriptor (TX1 j).2.2.1 = some .boolean) {idx : Nat} (hlk : Cond.fieldLink own idx (TX1 j).1 (TX1 j).2.1 (TX1 j).2.2.1 ∈ m_ws) (hdg : decode cc pc = .ok (.putfield idx, 3))
    (kk : ∀ (H1 : Heap) (locs1 : List Loc), m_P G M' H1 → va_S (m_A G) s.heap H1 locs1 → W p l e R s m args below meth c H1 locs1 cells slots Q (F0 m (pc + 3) ls rest)) : W p l e R s m args below meth c H locs cells slots Q (F0 m pc ls (.int x :: .ref (m_ad G k) :: rest)) := by
  subst eM
  exact m_p1 X hSt hP hS hl j hj (ty := .boolean) (m_sI M k j x) (by rw [m_sI_eq]; exact hset) m_sI_ne (fun _ _ => rfl) hfin hd (m_narB hB) (by rcases hB with h | h <;> subst h <;> rfl) hlk hdg kk
theorem m_pl1 (X : CallFix p m c cc nL s args m_ws own) (hSt : m_S G s) (hP : m_P G M H) (hS : va_S (m_A G) s.heap H locs) {k : Nat} (hl : m_lay k = (11, 0)) (j : Nat) (hj : j < 6) {x : Int64} {M' : m_M} (eM : m_sL M k j x = M') (hset : (m_F G 1 k (M.1 k) (M.2 k)).set j (.long x) = m_F G 1 k (M.1 k) (vp_updL (M.2 k) j x)) (hfin : (TX1 j).2.2.2 = false) (hd : parseFieldDescriptor (TX1 j).2.2.1 = some .long) {idx : Nat} (hlk : Cond.fieldLink own idx (TX1 j).1 (TX1 j).2.1 (TX1 j).2.2.1 ∈ m_ws) (hdg : decode cc pc = .ok (.putfield idx, 3))
    (kk : ∀ (H1 : Heap) (locs1 : List Loc), m_P G M' H1 → va_S (m_A G) s.heap H1 locs1 → W p l e R s m args below meth c H1 locs1 cells slots Q (F0 m (pc + 3) ls rest)) : W p l e R s m args below meth c H locs cells slots Q (F0 m pc ls (.long x :: .ref (m_ad G k) :: rest)) := by
  subst eM
  exact m_p1 X hSt hP hS hl j hj (ty := .long) (m_sL M k j x) (by rw [m_sL_eq]; exact hset) (fun _ _ => rfl) m_sL_ne hfin hd rfl rfl hlk hdg kk
theorem m_rc1 (hSt : m_S G s) (hP : m_P G M H) {k : Nat} (hl : m_lay k = (11, 0)) : ∃ cell : Cell, H[m_ad G k]? = some cell ∧ cell.vm.isStatics = false ∧ s.vm.findClass RX1 = some cell.cls :=
  va_recv (q := (RX1, TX1, 6)) (ci := 1) hSt.1 hP rfl (m_at G M hl (by decide))
theorem m_g2 (X : CallFix p m c cc nL s args m_ws own) (hSt : m_S G s) (hP : m_P G M H) {k : Nat} (hl : m_lay k = (12, 0)) (j : Nat) (hj : j < 9) {v : Value} (hv : (m_F G 2 k (M.1 k) (M.2 k))[j]? = some v) {idx : Nat} (hlk : Cond.fieldLink own idx (TX2 j).1 (TX2 j).2.1 (TX2 j).2.2.1 ∈ m_ws) (hdg : decode cc pc = .ok (.getfield idx, 3))
    (kk : W p l e R s m args below meth c H locs cells slots Q (F0 m (pc + 3) ls (v :: rest))) : W p l e R s m args below meth c H locs cells slots Q (F0 m pc ls (.ref (m_ad G k) :: rest)) :=
  va_get (D := G.1) (ci := 2) (C := RX2) (T := TX2) (N := 9) X.1 X.2.1 X.2.2.2.2 inlX2 X.2.2.2.1 hSt.1 hP k (m_at G M hl (by decide)) rfl j hj (X.2.2.2.2 _ hlk) (fun _ h9 => h9) hv hdg kk
theorem m_p2 (X : CallFix p m c cc nL s args m_ws own) (hSt : m_S G s) (hP : m_P G M H) (hS : va_S (m_A G) s.heap H locs) {k : Nat} (hl : m_lay k = (12, 0)) (j : Nat) (hj : j < 9) {v : Value} {ty : FieldType} (M' : m_M) (hset : (m_F G 2 k (M.1 k) (M.2 k)).set j v = m_F G 2 k (M'.1 k) (M'.2 k)) (h1 : ∀ i, i ≠ k → M'.1 i = M.1 i) (h2 : ∀ i, i ≠ k → M'.2 i = M.2 i) (hfin : (TX2 j).2.2.2 = false) (hd : parseFieldDescriptor (TX2 j).2.2.1 = some ty) (hn : narrow ty v = v) (hfit : fits ty v = true) {idx : Nat} (hlk : Cond.fieldLink own idx (TX2 j).1 (TX2 j).2.1 (TX2 j).2.2.1 ∈ m_ws) (hdg : decode cc pc = .ok (.putfield idx, 3))
    (kk : ∀ (H1 : Heap) (locs1 : List Loc), m_P G M' H1 → va_S (m_A G) s.heap H1 locs1 → W p l e R s m args below meth c H1 locs1 cells slots Q (F0 m (pc + 3) ls rest)) : W p l e R s m args below meth c H locs cells slots Q (F0 m pc ls (v :: .ref (m_ad G k) :: rest)) := by
  refine va_put (D := G.1) (ci := 2) (C := RX2) (T := TX2) (N := 9) X.1 X.2.1 X.2.2.2.2 inlX2 tyX2 tyX2_ok nmX2 X.2.2.2.1 hSt.1 hP (m_D G _) hS k (m_at G M hl (by decide)) rfl j hj (X.2.2.2.2 _ hlk) (fun _ h9 => h9) hfin hd hn hfit (Nat.lt_of_lt_of_le hj (Nat.le_of_ble_eq_true rfl)) hdg (fun H1 locs1 q1 q2 q3 => kk H1 locs1 ?_ q3)
  have e := m_set G (M := M) (M' := M') hl h1 h2
  have e2 : m_C G (12, 0) k (M'.1 k) (M'.2 k) = .inr (2, (m_F G 2 k (M.1 k) (M.2 k)).set j v) := by rw [hset]; rfl
  rw [e2] at e
  show va_P G.1 vwCl (va_pl (m_L G) (m_w G M')) H1
  rw [← e]
  exact q1
theorem m_pi2 (X : CallFix p m c cc nL s args m_ws own) (hSt : m_S G s) (hP : m_P G M H) (hS : va_S (m_A G) s.heap H locs) {k : Nat} (hl : m_lay k = (12, 0)) (j : Nat) (hj : j < 9) {x : Int32} {M' : m_M} (eM : m_sI M k j x = M') (hset : (m_F G 2 k (M.1 k) (M.2 k)).set j (.int x) = m_F G 2 k (upd (M.1 k) j x) (M.2 k)) (hfin : (TX2 j).2.2.2 = false) (hd : parseFieldDescriptor (TX2 j).2.2.1 = some .int) {idx : Nat} (hlk : Cond.fieldLink own idx (TX2 j).1 (TX2 j).2.1 (TX2 j).2.2.1 ∈ m_ws) (hdg : decode cc pc = .ok (.putfield idx, 3))
    (kk : ∀ (H1 : Heap) (locs1 : List Loc), m_P G M' H1 → va_S (m_A G) s.heap H1 locs1 → W p l e R s m args below meth c H1 locs1 cells slots Q (F0 m (pc + 3) ls rest)) : W p l e R s m args below meth c H locs cells slots Q (F0 m pc ls (.int x :: .ref (m_ad G k) :: rest)) := by
  subst eM
  exact m_p2 X hSt hP hS hl j hj (ty := .int) (m_sI M k j x) (by rw [m_sI_eq]; exact hset) m_sI_ne (fun _ _ => rfl) hfin hd rfl rfl hlk hdg kk
theorem m_pz2 (X : CallFix p m c cc nL s args m_ws own) (hSt : m_S G s) (hP : m_P G M H) (hS : va_S (m_A G) s.heap H locs) {k : Nat} (hl : m_lay k = (12, 0)) (j : Nat) (hj : j < 9) {x : Int32} (hB : m_B x) {M' : m_M} (eM : m_sI M k j x = M') (hset : (m_F G 2 k (M.1 k) (M.2 k)).set j (.int x) = m_F G 2 k (upd (M.1 k) j x) (M.2 k)) (hfin : (TX2 j).2.2.2 = false) (hd : parseFieldDescriptor (TX2 j).2.2.1 = some .boolean) {idx : Nat} (hlk : Cond.fieldLink own idx (TX2 j).1 (TX2 j).2.1 (TX2 j).2.2.1 ∈ m_ws) (hdg : decode cc pc = .ok (.putfield idx, 3))
    (kk : ∀ (H1 : Heap) (locs1 : List Loc), m_P G M' H1 → va_S (m_A G) s.heap H1 locs1 → W p l e R s m args below meth c H1 locs1 cells slots Q (F0 m (pc + 3) ls rest)) : W p l e R s m args below meth c H locs cells slots Q (F0 m pc ls (.int x :: .ref (m_ad G k) :: rest)) := by
  subst eM
  exact m_p2 X hSt hP hS hl j hj (ty := .boolean) (m_sI M k j x) (by rw [m_sI_eq]; exact hset) m_sI_ne (fun _ _ => rfl) hfin hd (m_narB hB) (by rcases hB with h | h <;> subst h <;> rfl) hlk hdg kk
theorem m_pl2 (X : CallFix p m c cc nL s args m_ws own) (hSt : m_S G s) (hP : m_P G M H) (hS : va_S (m_A G) s.heap H locs) {k : Nat} (hl : m_lay k = (12, 0)) (j : Nat) (hj : j < 9) {x : Int64} {M' : m_M} (eM : m_sL M k j x = M') (hset : (m_F G 2 k (M.1 k) (M.2 k)).set j (.long x) = m_F G 2 k (M.1 k) (vp_updL (M.2 k) j x)) (hfin : (TX2 j).2.2.2 = false) (hd : parseFieldDescriptor (TX2 j).2.2.1 = some .long) {idx : Nat} (hlk : Cond.fieldLink own idx (TX2 j).1 (TX2 j).2.1 (TX2 j).2.2.1 ∈ m_ws) (hdg : decode cc pc = .ok (.putfield idx, 3))
    (kk : ∀ (H1 : Heap) (locs1 : List Loc), m_P G M' H1 → va_S (m_A G) s.heap H1 locs1 → W p l e R s m args below meth c H1 locs1 cells slots Q (F0 m (pc + 3) ls rest)) : W p l e R s m args below meth c H locs cells slots Q (F0 m pc ls (.long x :: .ref (m_ad G k) :: rest)) := by
  subst eM
  exact m_p2 X hSt hP hS hl j hj (ty := .long) (m_sL M k j x) (by rw [m_sL_eq]; exact hset) (fun _ _ => rfl) m_sL_ne hfin hd rfl rfl hlk hdg kk
theorem m_rc2 (hSt : m_S G s) (hP : m_P G M H) {k : Nat} (hl : m_lay k = (12, 0)) : ∃ cell : Cell, H[m_ad G k]? = some cell ∧ cell.vm.isStatics = false ∧ s.vm.findClass RX2 = some cell.cls :=
  va_recv (q := (RX2, TX2, 9)) (ci := 2) hSt.1 hP rfl (m_at G M hl (by decide))
theorem m_g3 (X : CallFix p m c cc nL s args m_ws own) (hSt : m_S G s) (hP : m_P G M H) {k : Nat} (hl : m_lay k = (13, 0)) (j : Nat) (hj : j < 8) {v : Value} (hv : (m_F G 3 k (M.1 k) (M.2 k))[j]? = some v) {idx : Nat} (hlk : Cond.fieldLink own idx (TX3 j).1 (TX3 j).2.1 (TX3 j).2.2.1 ∈ m_ws) (hdg : decode cc pc = .ok (.getfield idx, 3))
    (kk : W p l e R s m args below meth c H locs cells slots Q (F0 m (pc + 3) ls (v :: rest))) : W p l e R s m args below meth c H locs cells slots Q (F0 m pc ls (.ref (m_ad G k) :: rest)) :=
  va_get (D := G.1) (ci := 3) (C := RX3) (T := TX3) (N := 8) X.1 X.2.1 X.2.2.2.2 inlX3 X.2.2.2.1 hSt.1 hP k (m_at G M hl (by decide)) rfl j hj (X.2.2.2.2 _ hlk) (fun _ h9 => h9) hv hdg kk
theorem m_p3 (X : CallFix p m c cc nL s args m_ws own) (hSt : m_S G s) (hP : m_P G M H) (hS : va_S (m_A G) s.heap H locs) {k : Nat} (hl : m_lay k = (13, 0)) (j : Nat) (hj : j < 8) {v : Value} {ty : FieldType} (M' : m_M) (hset : (m_F G 3 k (M.1 k) (M.2 k)).set j v = m_F G 3 k (M'.1 k) (M'.2 k)) (h1 : ∀ i, i ≠ k → M'.1 i = M.1 i) (h2 : ∀ i, i ≠ k → M'.2 i = M.2 i) (hfin : (TX3 j).2.2.2 = false) (hd : parseFieldDescriptor (TX3 j).2.2.1 = some ty) (hn : narrow ty v = v) (hfit : fits ty v = true) {idx : Nat} (hlk : Cond.fieldLink own idx (TX3 j).1 (TX3 j).2.1 (TX3 j).2.2.1 ∈ m_ws) (hdg : decode cc pc = .ok (.putfield idx, 3))
    (kk : ∀ (H1 : Heap) (locs1 : List Loc), m_P G M' H1 → va_S (m_A G) s.heap H1 locs1 → W p l e R s m args below meth c H1 locs1 cells slots Q (F0 m (pc + 3) ls rest)) : W p l e R s m args below meth c H locs cells slots Q (F0 m pc ls (v :: .ref (m_ad G k) :: rest)) := by
  refine va_put (D := G.1) (ci := 3) (C := RX3) (T := TX3) (N := 8) X.1 X.2.1 X.2.2.2.2 inlX3 tyX3 tyX3_ok nmX3 X.2.2.2.1 hSt.1 hP (m_D G _) hS k (m_at G M hl (by decide)) rfl j hj (X.2.2.2.2 _ hlk) (fun _ h9 => h9) hfin hd hn hfit (Nat.lt_of_lt_of_le hj (Nat.le_of_ble_eq_true rfl)) hdg (fun H1 locs1 q1 q2 q3 => kk H1 locs1 ?_ q3)
  have e := m_set G (M := M) (M' := M') hl h1 h2
  have e2 : m_C G (13, 0) k (M'.1 k) (M'.2 k) = .inr (3, (m_F G 3 k (M.1 k) (M.2 k)).set j v) := by rw [hset]; rfl
  rw [e2] at e
  show va_P G.1 vwCl (va_pl (m_L G) (m_w G M')) H1
  rw [← e]
  exact q1
theorem m_pi3 (X : CallFix p m c cc nL s args m_ws own) (hSt : m_S G s) (hP : m_P G M H) (hS : va_S (m_A G) s.heap H locs) {k : Nat} (hl : m_lay k = (13, 0)) (j : Nat) (hj : j < 8) {x : Int32} {M' : m_M} (eM : m_sI M k j x = M') (hset : (m_F G 3 k (M.1 k) (M.2 k)).set j (.int x) = m_F G 3 k (upd (M.1 k) j x) (M.2 k)) (hfin : (TX3 j).2.2.2 = false) (hd : parseFieldDescriptor (TX3 j).2.2.1 = some .int) {idx : Nat} (hlk : Cond.fieldLink own idx (TX3 j).1 (TX3 j).2.1 (TX3 j).2.2.1 ∈ m_ws) (hdg : decode cc pc = .ok (.putfield idx, 3))
    (kk : ∀ (H1 : Heap) (locs1 : List Loc), m_P G M' H1 → va_S (m_A G) s.heap H1 locs1 → W p l e R s m args below meth c H1 locs1 cells slots Q (F0 m (pc + 3) ls rest)) : W p l e R s m args below meth c H locs cells slots Q (F0 m pc ls (.int x :: .ref (m_ad G k) :: rest)) := by
  subst eM
  exact m_p3 X hSt hP hS hl j hj (ty := .int) (m_sI M k j x) (by rw [m_sI_eq]; exact hset) m_sI_ne (fun _ _ => rfl) hfin hd rfl rfl hlk hdg kk
theorem m_pz3 (X : CallFix p m c cc nL s args m_ws own) (hSt : m_S G s) (hP : m_P G M H) (hS : va_S (m_A G) s.heap H locs) {k : Nat} (hl : m_lay k = (13, 0)) (j : Nat) (hj : j < 8) {x : Int32} (hB : m_B x) {M' : m_M} (eM : m_sI M k j x = M') (hset : (m_F G 3 k (M.1 k) (M.2 k)).set j (.int x) = m_F G 3 k (upd (M.1 k) j x) (M.2 k)) (hfin : (TX3 j).2.2.2 = false) (hd : parseFieldDescriptor (TX3 j).2.2.1 = some .boolean) {idx : Nat} (hlk : Cond.fieldLink own idx (TX3 j).1 (TX3 j).2.1 (TX3 j).2.2.1 ∈ m_ws) (hdg : decode cc pc = .ok (.putfield idx, 3))
    (kk : ∀ (H1 : Heap) (locs1 : List Loc), m_P G M' H1 → va_S (m_A G) s.heap H1 locs1 → W p l e R s m args below meth c H1 locs1 cells slots Q (F0 m (pc + 3) ls rest)) : W p l e R s m args below meth c H locs cells slots Q (F0 m pc ls (.int x :: .ref (m_ad G k) :: rest)) := by
  subst eM
  exact m_p3 X hSt hP hS hl j hj (ty := .boolean) (m_sI M k j x) (by rw [m_sI_eq]; exact hset) m_sI_ne (fun _ _ => rfl) hfin hd (m_narB hB) (by rcases hB with h | h <;> subst h <;> rfl) hlk hdg kk
theorem m_pl3 (X : CallFix p m c cc nL s args m_ws own) (hSt : m_S G s) (hP : m_P G M H) (hS : va_S (m_A G) s.heap H locs) {k : Nat} (hl : m_lay k = (13, 0)) (j : Nat) (hj : j < 8) {x : Int64} {M' : m_M} (eM : m_sL M k j x = M') (hset : (m_F G 3 k (M.1 k) (M.2 k)).set j (.long x) = m_F G 3 k (M.1 k) (vp_updL (M.2 k) j x)) (hfin : (TX3 j).2.2.2 = false) (hd : parseFieldDescriptor (TX3 j).2.2.1 = some .long) {idx : Nat} (hlk : Cond.fieldLink own idx (TX3 j).1 (TX3 j).2.1 (TX3 j).2.2.1 ∈ m_ws) (hdg : decode cc pc = .ok (.putfield idx, 3))
    (kk : ∀ (H1 : Heap) (locs1 : List Loc), m_P G M' H1 → va_S (m_A G) s.heap H1 locs1 → W p l e R s m args below meth c H1 locs1 cells slots Q (F0 m (pc + 3) ls rest)) : W p l e R s m args below meth c H locs cells slots Q (F0 m pc ls (.long x :: .ref (m_ad G k) :: rest)) := by
  subst eM
  exact m_p3 X hSt hP hS hl j hj (ty := .long) (m_sL M k j x) (by rw [m_sL_eq]; exact hset) (fun _ _ => rfl) m_sL_ne hfin hd rfl rfl hlk hdg kk
theorem m_rc3 (hSt : m_S G s) (hP : m_P G M H) {k : Nat} (hl : m_lay k = (13, 0)) : ∃ cell : Cell, H[m_ad G k]? = some cell ∧ cell.vm.isStatics = false ∧ s.vm.findClass RX3 = some cell.cls :=
  va_recv (q := (RX3, TX3, 8)) (ci := 3) hSt.1 hP rfl (m_at G M hl (by decide))
theorem m_g4 (X : CallFix p m c cc nL s args m_ws own) (hSt : m_S G s) (hP : m_P G M H) {k : Nat} (hl : m_lay k = (14, 0)) (j : Nat) (hj : j < 8) {v : Value} (hv : (m_F G 4 k (M.1 k) (M.2 k))[j]? = some v) {idx : Nat} (hlk : Cond.fieldLink own idx (TX4 j).1 (TX4 j).2.1 (TX4 j).2.2.1 ∈ m_ws) (hdg : decode cc pc = .ok (.getfield idx, 3))
    (kk : W p l e R s m args below meth c H locs cells slots Q (F0 m (pc + 3) ls (v :: rest))) : W p l e R s m args below meth c H locs cells slots Q (F0 m pc ls (.ref (m_ad G k) :: rest)) :=
  va_get (D := G.1) (ci := 4) (C := RX4) (T := TX4) (N := 8) X.1 X.2.1 X.2.2.2.2 inlX4 X.2.2.2.1 hSt.1 hP k (m_at G M hl (by decide)) rfl j hj (X.2.2.2.2 _ hlk) (fun _ h9 => h9) hv hdg kk
theorem m_p4 (X : CallFix p m c cc nL s args m_ws own) (hSt : m_S G s) (hP : m_P G M H) (hS : va_S (m_A G) s.heap H locs) {k : Nat} (hl : m_lay k = (14, 0)) (j : Nat) (hj : j < 8) {v : Value} {ty : FieldType} (M' : m_M) (hset : (m_F G 4 k (M.1 k) (M.2 k)).set j v = m_F G 4 k (M'.1 k) (M'.2 k)) (h1 : ∀ i, i ≠ k → M'.1 i = M.1 i) (h2 : ∀ i, i ≠ k → M'.2 i = M.2 i) (hfin : (TX4 j).2.2.2 = false) (hd : parseFieldDescriptor (TX4 j).2.2.1 = some ty) (hn : narrow ty v = v) (hfit : fits ty v = true) {idx : Nat} (hlk : Cond.fieldLink own idx (TX4 j).1 (TX4 j).2.1 (TX4 j).2.2.1 ∈ m_ws) (hdg : decode cc pc = .ok (.putfield idx, 3))
    (kk : ∀ (H1 : Heap) (locs1 : List Loc), m_P G M' H1 → va_S (m_A G) s.heap H1 locs1 → W p l e R s m args below meth c H1 locs1 cells slots Q (F0 m (pc + 3) ls rest)) : W p l e R s m args below meth c H locs cells slots Q (F0 m pc ls (v :: .ref (m_ad G k) :: rest)) := by
  refine va_put (D := G.1) (ci := 4) (C := RX4) (T := TX4) (N := 8) X.1 X.2.1 X.2.2.2.2 inlX4 tyX4 tyX4_ok nmX4 X.2.2.2.1 hSt.1 hP (m_D G _) hS k (m_at G M hl (by decide)) rfl j hj (X.2.2.2.2 _ hlk) (fun _ h9 => h9) hfin hd hn hfit (Nat.lt_of_lt_of_le hj (Nat.le_of_ble_eq_true rfl)) hdg (fun H1 locs1 q1 q2 q3 => kk H1 locs1 ?_ q3)
  have e := m_set G (M := M) (M' := M') hl h1 h2
  have e2 : m_C G (14, 0) k (M'.1 k) (M'.2 k) = .inr (4, (m_F G 4 k (M.1 k) (M.2 k)).set j v) := by rw [hset]; rfl
  rw [e2] at e
  show va_P G.1 vwCl (va_pl (m_L G) (m_w G M')) H1
  rw [← e]
  exact q1
theorem m_pi4 (X : CallFix p m c cc nL s args m_ws own) (hSt : m_S G s) (hP : m_P G M H) (hS : va_S (m_A G) s.heap H locs) {k : Nat} (hl : m_lay k = (14, 0)) (j : Nat) (hj : j < 8) {x : Int32} {M' : m_M} (eM : m_sI M k j x = M') (hset : (m_F G 4 k (M.1 k) (M.2 k)).set j (.int x) = m_F G 4 k (upd (M.1 k) j x) (M.2 k)) (hfin : (TX4 j).2.2.2 = false) (hd : parseFieldDescriptor (TX4 j).2.2.1 = some .int) {idx : Nat} (hlk : Cond.fieldLink own idx (TX4 j).1 (TX4 j).2.1 (TX4 j).2.2.1 ∈ m_ws) (hdg : decode cc pc = .ok (.putfield idx, 3))
    (kk : ∀ (H1 : Heap) (locs1 : List Loc), m_P G M' H1 → va_S (m_A G) s.heap H1 locs1 → W p l e R s m args below meth c H1 locs1 cells slots Q (F0 m (pc + 3) ls rest)) : W p l e R s m args below meth c H locs cells slots Q (F0 m pc ls (.int x :: .ref (m_ad G k) :: rest)) := by
  subst eM
  exact m_p4 X hSt hP hS hl j hj (ty := .int) (m_sI M k j x) (by rw [m_sI_eq]; exact hset) m_sI_ne (fun _ _ => rfl) hfin hd rfl rfl hlk hdg kk
theorem m_pz4 (X : CallFix p m c cc nL s args m_ws own) (hSt : m_S G s) (hP : m_P G M H) (hS : va_S (m_A G) s.heap H locs) {k : Nat} (hl : m_lay k = (14, 0)) (j : Nat) (hj : j < 8) {x : Int32} (hB : m_B x) {M' : m_M} (eM : m_sI M k j x = M') (hset : (m_F G 4 k (M.1 k) (M.2 k)).set j (.int x) = m_F G 4 k (upd (M.1 k) j x) (M.2 k)) (hfin : (TX4 j).2.2.2 = false) (hd : parseFieldDescriptor (TX4 j).2.2.1 = some .boolean) {idx : Nat} (hlk : Cond.fieldLink own idx (TX4 j).1 (TX4 j).2.1 (TX4 j).2.2.1 ∈ m_ws) (hdg : decode cc pc = .ok (.putfield idx, 3))
    (kk : ∀ (H1 : Heap) (locs1 : List Loc), m_P G M' H1 → va_S (m_A G) s.heap H1 locs1 → W p l e R s m args below meth c H1 locs1 cells slots Q (F0 m (pc + 3) ls rest)) : W p l e R s m args below meth c H locs cells slots Q (F0 m pc ls (.int x :: .ref (m_ad G k) :: rest)) := by
  subst eM
  exact m_p4 X hSt hP hS hl j hj (ty := .boolean) (m_sI M k j x) (by rw [m_sI_eq]; exact hset) m_sI_ne (fun _ _ => rfl) hfin hd (m_narB hB) (by rcases hB with h | h <;> subst h <;> rfl) hlk hdg kk
theorem m_pl4 (X : CallFix p m c cc nL s args m_ws own) (hSt : m_S G s) (hP : m_P G M H) (hS : va_S (m_A G) s.heap H locs) {k : Nat} (hl : m_lay k = (14, 0)) (j : Nat) (hj : j < 8) {x : Int64} {M' : m_M} (eM : m_sL M k j x = M') (hset : (m_F G 4 k (M.1 k) (M.2 k)).set j (.long x) = m_F G 4 k (M.1 k) (vp_updL (M.2 k) j x)) (hfin : (TX4 j).2.2.2 = false) (hd : parseFieldDescriptor (TX4 j).2.2.1 = some .long) {idx : Nat} (hlk : Cond.fieldLink own idx (TX4 j).1 (TX4 j).2.1 (TX4 j).2.2.1 ∈ m_ws) (hdg : decode cc pc = .ok (.putfield idx, 3))
    (kk : ∀ (H1 : Heap) (locs1 : List Loc), m_P G M' H1 → va_S (m_A G) s.heap H1 locs1 → W p l e R s m args below meth c H1 locs1 cells slots Q (F0 m (pc + 3) ls rest)) : W p l e R s m args below meth c H locs cells slots Q (F0 m pc ls (.long x :: .ref (m_ad G k) :: rest)) := by
  subst eM
  exact m_p4 X hSt hP hS hl j hj (ty := .long) (m_sL M k j x) (by rw [m_sL_eq]; exact hset) (fun _ _ => rfl) m_sL_ne hfin hd rfl rfl hlk hdg kk
theorem m_rc4 (hSt : m_S G s) (hP : m_P G M H) {k : Nat} (hl : m_lay k = (14, 0)) : ∃ cell : Cell, H[m_ad G k]? = some cell ∧ cell.vm.isStatics = false ∧ s.vm.findClass RX4 = some cell.cls :=
  va_recv (q := (RX4, TX4, 8)) (ci := 4) hSt.1 hP rfl (m_at G M hl (by decide))
theorem m_g5 (X : CallFix p m c cc nL s args m_ws own) (hSt : m_S G s) (hP : m_P G M H) {k : Nat} (hl : m_lay k = (15, 0)) (j : Nat) (hj : j < 11) {v : Value} (hv : (m_F G 5 k (M.1 k) (M.2 k))[j]? = some v) {idx : Nat} (hlk : Cond.fieldLink own idx (TX5 j).1 (TX5 j).2.1 (TX5 j).2.2.1 ∈ m_ws) (hdg : decode cc pc = .ok (.getfield idx, 3))
    (kk : W p l e R s m args below meth c H locs cells slots Q (F0 m (pc + 3) ls (v :: rest))) : W p l e R s m args below meth c H locs cells slots Q (F0 m pc ls (.ref (m_ad G k) :: rest)) :=
  va_get (D := G.1) (ci := 5) (C := RX5) (T := TX5) (N := 11) X.1 X.2.1 X.2.2.2.2 inlX5 X.2.2.2.1 hSt.1 hP k (m_at G M hl (by decide)) rfl j hj (X.2.2.2.2 _ hlk) (fun _ h9 => h9) hv hdg kk
theorem m_p5 (X : CallFix p m c cc nL s args m_ws own) (hSt : m_S G s) (hP : m_P G M H) (hS : va_S (m_A G) s.heap H locs) {k : Nat} (hl : m_lay k = (15, 0)) (j : Nat) (hj : j < 11) {v : Value} {ty : FieldType} (M' : m_M) (hset : (m_F G 5 k (M.1 k) (M.2 k)).set j v = m_F G 5 k (M'.1 k) (M'.2 k)) (h1 : ∀ i, i ≠ k → M'.1 i = M.1 i) (h2 : ∀ i, i ≠ k → M'.2 i = M.2 i) (hfin : (TX5 j).2.2.2 = false) (hd : parseFieldDescriptor (TX5 j).2.2.1 = some ty) (hn : narrow ty v = v) (hfit : fits ty v = true) {idx : Nat} (hlk : Cond.fieldLink own idx (TX5 j).1 (TX5 j).2.1 (TX5 j).2.2.1 ∈ m_ws) (hdg : decode cc pc = .ok (.putfield idx, 3))
    (kk : ∀ (H1 : Heap) (locs1 : List Loc), m_P G M' H1 → va_S (m_A G) s.heap H1 locs1 → W p l e R s m args below meth c H1 locs1 cells slots Q (F0 m (pc + 3) ls rest)) : W p l e R s m args below meth c H locs cells slots Q (F0 m pc ls (v :: .ref (m_ad G k) :: rest)) := by
  refine va_put (D := G.1) (ci := 5) (C := RX5) (T := TX5) (N := 11) X.1 X.2.1 X.2.2.2.2 inlX5 tyX5 tyX5_ok nmX5 X.2.2.2.1 hSt.1 hP (m_D G _) hS k (m_at G M hl (by decide)) rfl j hj (X.2.2.2.2 _ hlk) (fun _ h9 => h9) hfin hd hn hfit (Nat.lt_of_lt_of_le hj (Nat.le_of_ble_eq_true rfl)) hdg (fun H1 locs1 q1 q2 q3 => kk H1 locs1 ?_ q3)
  have e := m_set G (M := M) (M' := M') hl h1 h2
  have e2 : m_C G (15, 0) k (M'.1 k) (M'.2 k) = .inr (5, (m_F G 5 k (M.1 k) (M.2 k)).set j v) := by rw [hset]; rfl
  rw [e2] at e
  show va_P G.1 vwCl (va_pl (m_L G) (m_w G M')) H1
  rw [← e]
  exact q1
theorem m_pi5 (X : CallFix p m c cc nL s args m_ws own) (hSt : m_S G s) (hP : m_P G M H) (hS : va_S (m_A G) s.heap H locs) {k : Nat} (hl : m_lay k = (15, 0)) (j : Nat) (hj : j < 11) {x : Int32} {M' : m_M} (eM : m_sI M k j x = M') (hset : (m_F G 5 k (M.1 k) (M.2 k)).set j (.int x) = m_F G 5 k (upd (M.1 k) j x) (M.2 k)) (hfin : (TX5 j).2.2.2 = false) (hd : parseFieldDescriptor (TX5 j).2.2.1 = some .int) {idx : Nat} (hlk : Cond.fieldLink own idx (TX5 j).1 (TX5 j).2.1 (TX5 j).2.2.1 ∈ m_ws) (hdg : decode cc pc = .ok (.putfield idx, 3))
    (kk : ∀ (H1 : Heap) (locs1 : List Loc), m_P G M' H1 → va_S (m_A G) s.heap H1 locs1 → W p l e R s m args below meth c H1 locs1 cells slots Q (F0 m (pc + 3) ls rest)) : W p l e R s m args below meth c H locs cells slots Q (F0 m pc ls (.int x :: .ref (m_ad G k) :: rest)) := by
  subst eM
  exact m_p5 X hSt hP hS hl j hj (ty := .int) (m_sI M k j x) (by rw [m_sI_eq]; exact hset) m_sI_ne (fun _ _ => rfl) hfin hd rfl rfl hlk hdg kk
theorem m_pz5 (X : CallFix p m c cc nL s args m_ws own) (hSt : m_S G s) (hP : m_P G M H) (hS : va_S (m_A G) s.heap H locs) {k : Nat} (hl : m_lay k = (15, 0)) (j : Nat) (hj : j < 11) {x : Int32} (hB : m_B x) {M' : m_M} (eM : m_sI M k j x = M') (hset : (m_F G 5 k (M.1 k) (M.2 k)).set j (.int x) = m_F G 5 k (upd (M.1 k) j x) (M.2 k)) (hfin : (TX5 j).2.2.2 = false) (hd : parseFieldDescriptor (TX5 j).2.2.1 = some .boolean) {idx : Nat} (hlk : Cond.fieldLink own idx (TX5 j).1 (TX5 j).2.1 (TX5 j).2.2.1 ∈ m_ws) (hdg : decode cc pc = .ok (.putfield idx, 3))
    (kk : ∀ (H1 : Heap) (locs1 : List Loc), m_P G M' H1 → va_S (m_A G) s.heap H1 locs1 → W p l e R s m args below meth c H1 locs1 cells slots Q (F0 m (pc + 3) ls rest)) : W p l e R s m args below meth c H locs cells slots Q (F0 m pc ls (.int x :: .ref (m_ad G k) :: rest)) := by
  subst eM
  exact m_p5 X hSt hP hS hl j hj (ty := .boolean) (m_sI M k j x) (by rw [m_sI_eq]; exact hset) m_sI_ne (fun _ _ => rfl) hfin hd (m_narB hB) (by rcases hB with h | h <;> subst h <;> rfl) hlk hdg kk
theorem m_pl5 (X : CallFix p m c cc nL s args m_ws own) (hSt : m_S G s) (hP : m_P G M H) (hS : va_S (m_A G) s.heap H locs) {k : Nat} (hl : m_lay k = (15, 0)) (j : Nat) (hj : j < 11) {x : Int64} {M' : m_M} (eM : m_sL M k j x = M') (hset : (m_F G 5 k (M.1 k) (M.2 k)).set j (.long x) = m_F G 5 k (M.1 k) (vp_updL (M.2 k) j x)) (hfin : (TX5 j).2.2.2 = false) (hd : parseFieldDescriptor (TX5 j).2.2.1 = some .long) {idx : Nat} (hlk : Cond.fieldLink own idx (TX5 j).1 (TX5 j).2.1 (TX5 j).2.2.1 ∈ m_ws) (hdg : decode cc pc = .ok (.putfield idx, 3))
    (kk : ∀ (H1 : Heap) (locs1 : List Loc), m_P G M' H1 → va_S (m_A G) s.heap H1 locs1 → W p l e R s m args below meth c H1 locs1 cells slots Q (F0 m (pc + 3) ls rest)) : W p l e R s m args below meth c H locs cells slots Q (F0 m pc ls (.long x :: .ref (m_ad G k) :: rest)) := by
  subst eM
  exact m_p5 X hSt hP hS hl j hj (ty := .long) (m_sL M k j x) (by rw [m_sL_eq]; exact hset) (fun _ _ => rfl) m_sL_ne hfin hd rfl rfl hlk hdg kk
theorem m_rc5 (hSt : m_S G s) (hP : m_P G M H) {k : Nat} (hl : m_lay k = (15, 0)) : ∃ cell : Cell, H[m_ad G k]? = some cell ∧ cell.vm.isStatics = false ∧ s.vm.findClass RX5 = some cell.cls :=
  va_recv (q := (RX5, TX5, 11)) (ci := 5) hSt.1 hP rfl (m_at G M hl (by decide))
theorem m_g6 (X : CallFix p m c cc nL s args m_ws own) (hSt : m_S G s) (hP : m_P G M H) {k : Nat} (hl : m_lay k = (16, 0)) (j : Nat) (hj : j < 11) {v : Value} (hv : (m_F G 6 k (M.1 k) (M.2 k))[j]? = some v) {idx : Nat} (hlk : Cond.fieldLink own idx (TX6 j).1 (TX6 j).2.1 (TX6 j).2.2.1 ∈ m_ws) (hdg : decode cc pc = .ok (.getfield idx, 3))
    (kk : W p l e R s m args below meth c H locs cells slots Q (F0 m (pc + 3) ls (v :: rest))) : W p l e R s m args below meth c H locs cells slots Q (F0 m pc ls (.ref (m_ad G k) :: rest)) :=
  va_get (D := G.1) (ci := 6) (C := RX6) (T := TX6) (N := 11) X.1 X.2.1 X.2.2.2.2 inlX6 X.2.2.2.1 hSt.1 hP k (m_at G M hl (by decide)) rfl j hj (X.2.2.2.2 _ hlk) (fun _ h9 => h9) hv hdg kk
theorem m_p6 (X : CallFix p m c cc nL s args m_ws own) (hSt : m_S G s) (hP : m_P G M H) (hS : va_S (m_A G) s.heap H locs) {k : Nat} (hl : m_lay k = (16, 0)) (j : Nat) (hj : j < 11) {v : Value} {ty : FieldType} (M' : m_M) (hset : (m_F G 6 k (M.1 k) (M.2 k)).set j v = m_F G 6 k (M'.1 k) (M'.2 k)) (h1 : ∀ i, i ≠ k → M'.1 i = M.1 i) (h2 : ∀ i, i ≠ k → M'.2 i = M.2 i) (hfin : (TX6 j).2.2.2 = false) (hd : parseFieldDescriptor (TX6 j).2.2.1 = some ty) (hn : narrow ty v = v) (hfit : fits ty v = true) {idx : Nat} (hlk : Cond.fieldLink own idx (TX6 j).1 (TX6 j).2.1 (TX6 j).2.2.1 ∈ m_ws) (hdg : decode cc pc = .ok (.putfield idx, 3))
    (kk : ∀ (H1 : Heap) (locs1 : List Loc), m_P G M' H1 → va_S (m_A G) s.heap H1 locs1 → W p l e R s m args below meth c H1 locs1 cells slots Q (F0 m (pc + 3) ls rest)) : W p l e R s m args below meth c H locs cells slots Q (F0 m pc ls (v :: .ref (m_ad G k) :: rest)) := by
  refine va_put (D := G.1) (ci := 6) (C := RX6) (T := TX6) (N := 11) X.1 X.2.1 X.2.2.2.2 inlX6 tyX6 tyX6_ok nmX6 X.2.2.2.1 hSt.1 hP (m_D G _) hS k (m_at G M hl (by decide)) rfl j hj (X.2.2.2.2 _ hlk) (fun _ h9 => h9) hfin hd hn hfit (Nat.lt_of_lt_of_le hj (Nat.le_of_ble_eq_true rfl)) hdg (fun H1 locs1 q1 q2 q3 => kk H1 locs1 ?_ q3)
  have e := m_set G (M := M) (M' := M') hl h1 h2
  have e2 : m_C G (16, 0) k (M'.1 k) (M'.2 k) = .inr (6, (m_F G 6 k (M.1 k) (M.2 k)).set j v) := by rw [hset]; rfl
  rw [e2] at e
  show va_P G.1 vwCl (va_pl (m_L G) (m_w G M')) H1
  rw [← e]
  exact q1
theorem m_pi6 (X : CallFix p m c cc nL s args m_ws own) (hSt : m_S G s) (hP : m_P G M H) (hS : va_S (m_A G) s.heap H locs) {k : Nat} (hl : m_lay k = (16, 0)) (j : Nat) (hj : j < 11) {x : Int32} {M' : m_M} (eM : m_sI M k j x = M') (hset : (m_F G 6 k (M.1 k) (M.2 k)).set j (.int x) = m_F G 6 k (upd (M.1 k) j x) (M.2 k)) (hfin : (TX6 j).2.2.2 = false) (hd : parseFieldDescriptor (TX6 j).2.2.1 = some .int) {idx : Nat} (hlk : Cond.fieldLink own idx (TX6 j).1 (TX6 j).2.1 (TX6 j).2.2.1 ∈ m_ws) (hdg : decode cc pc = .ok (.putfield idx, 3))
    (kk : ∀ (H1 : Heap) (locs1 : List Loc), m_P G M' H1 → va_S (m_A G) s.heap H1 locs1 → W p l e R s m args below meth c H1 locs1 cells slots Q (F0 m (pc + 3) ls rest)) : W p l e R s m args below meth c H locs cells slots Q (F0 m pc ls (.int x :: .ref (m_ad G k) :: rest)) := by
  subst eM
  exact m_p6 X hSt hP hS hl j hj (ty := .int) (m_sI M k j x) (by rw [m_sI_eq]; exact hset) m_sI_ne (fun _ _ => rfl) hfin hd rfl rfl hlk hdg kk
theorem m_pz6 (X : CallFix p m c cc nL s args m_ws own) (hSt : m_S G s) (hP : m_P G M H) (hS : va_S (m_A G) s.heap H locs) {k : Nat} (hl : m_lay k = (16, 0)) (j : Nat) (hj : j < 11) {x : Int32} (hB : m_B x) {M' : m_M} (eM : m_sI M k j x = M') (hset : (m_F G 6 k (M.1 k) (M.2 k)).set j (.int x) = m_F G 6 k (upd (M.1 k) j x) (M.2 k)) (hfin : (TX6 j).2.2.2 = false) (hd : parseFieldDescriptor (TX6 j).2.2.1 = some .boolean) {idx : Nat} (hlk : Cond.fieldLink own idx (TX6 j).1 (TX6 j).2.1 (TX6 j).2.2.1 ∈ m_ws) (hdg : decode cc pc = .ok (.putfield idx, 3))
    (kk : ∀ (H1 : Heap) (locs1 : List Loc), m_P G M' H1 → va_S (m_A G) s.heap H1 locs1 → W p l e R s m args below meth c H1 locs1 cells slots Q (F0 m (pc + 3) ls rest)) : W p l e R s m args below meth c H locs cells slots Q (F0 m pc ls (.int x :: .ref (m_ad G k) :: rest)) := by
  subst eM
  exact m_p6 X hSt hP hS hl j hj (ty := .boolean) (m_sI M k j x) (by rw [m_sI_eq]; exact hset) m_sI_ne (fun _ _ => rfl) hfin hd (m_narB hB) (by rcases hB with h | h <;> subst h <;> rfl) hlk hdg kk
theorem m_pl6 (X : CallFix p m c cc nL s args m_ws own) (hSt : m_S G s) (hP : m_P G M H) (hS : va_S (m_A G) s.heap H locs) {k : Nat} (hl : m_lay k = (16, 0)) (j : Nat) (hj : j < 11) {x : Int64} {M' : m_M} (eM : m_sL M k j x = M') (hset : (m_F G 6 k (M.1 k) (M.2 k)).set j (.long x) = m_F G 6 k (M.1 k) (vp_updL (M.2 k) j x)) (hfin : (TX6 j).2.2.2 = false) (hd : parseFieldDescriptor (TX6 j).2.2.1 = some .long) {idx : Nat} (hlk : Cond.fieldLink own idx (TX6 j).1 (TX6 j).2.1 (TX6 j).2.2.1 ∈ m_ws) (hdg : decode cc pc = .ok (.putfield idx, 3))
    (kk : ∀ (H1 : Heap) (locs1 : List Loc), m_P G M' H1 → va_S (m_A G) s.heap H1 locs1 → W p l e R s m args below meth c H1 locs1 cells slots Q (F0 m (pc + 3) ls rest)) : W p l e R s m args below meth c H locs cells slots Q (F0 m pc ls (.long x :: .ref (m_ad G k) :: rest)) := by
  subst eM
  exact m_p6 X hSt hP hS hl j hj (ty := .long) (m_sL M k j x) (by rw [m_sL_eq]; exact hset) (fun _ _ => rfl) m_sL_ne hfin hd rfl rfl hlk hdg kk
theorem m_rc6 (hSt : m_S G s) (hP : m_P G M H) {k : Nat} (hl : m_lay k = (16, 0)) : ∃ cell : Cell, H[m_ad G k]? = some cell ∧ cell.vm.isStatics = false ∧ s.vm.findClass RX6 = some cell.cls :=
  va_recv (q := (RX6, TX6, 11)) (ci := 6) hSt.1 hP rfl (m_at G M hl (by decide))
theorem m_g7 (X : CallFix p m c cc nL s args m_ws own) (hSt : m_S G s) (hP : m_P G M H) {k : Nat} (hl : m_lay k = (17, 0)) (j : Nat) (hj : j < 10) {v : Value} (hv : (m_F G 7 k (M.1 k) (M.2 k))[j]? = some v) {idx : Nat} (hlk : Cond.fieldLink own idx (TX7 j).1 (TX7 j).2.1 (TX7 j).2.2.1 ∈ m_ws) (hdg : decode cc pc = .ok (.getfield idx, 3))
    (kk : W p l e R s m args below meth c H locs cells slots Q (F0 m (pc + 3) ls (v :: rest))) : W p l e R s m args below meth c H locs cells slots Q (F0 m pc ls (.ref (m_ad G k) :: rest)) :=
  va_get (D := G.1) (ci := 7) (C := RX7) (T := TX7) (N := 10) X.1 X.2.1 X.2.2.2.2 inlX7 X.2.2.2.1 hSt.1 hP k (m_at G M hl (by decide)) rfl j hj (X.2.2.2.2 _ hlk) (fun _ h9 => h9) hv hdg kk
theorem m_p7 (X : CallFix p m c cc nL s args m_ws own) (hSt : m_S G s) (hP : m_P G M H) (hS : va_S (m_A G) s.heap H locs) {k : Nat} (hl : m_lay k = (17, 0)) (j : Nat) (hj : j < 10) {v : Value} {ty : FieldType} (M' : m_M) (hset : (m_F G 7 k (M.1 k) (M.2 k)).set j v = m_F G 7 k (M'.1 k) (M'.2 k)) (h1 : ∀ i, i ≠ k → M'.1 i = M.1 i) (h2 : ∀ i, i ≠ k → M'.2 i = M.2 i) (hfin : (TX7 j).2.2.2 = false) (hd : parseFieldDescriptor (TX7 j).2.2.1 = some ty) (hn : narrow ty v = v) (hfit : fits ty v = true) {idx : Nat} (hlk : Cond.fieldLink own idx (TX7 j).1 (TX7 j).2.1 (TX7 j).2.2.1 ∈ m_ws) (hdg : decode cc pc = .ok (.putfield idx, 3))
    (kk : ∀ (H1 : Heap) (locs1 : List Loc), m_P G M' H1 → va_S (m_A G) s.heap H1 locs1 → W p l e R s m args below meth c H1 locs1 cells slots Q (F0 m (pc + 3) ls rest)) : W p l e R s m args below meth c H locs cells slots Q (F0 m pc ls (v :: .ref (m_ad G k) :: rest)) := by
  refine va_put (D := G.1) (ci := 7) (C := RX7) (T := TX7) (N := 10) X.1 X.2.1 X.2.2.2.2 inlX7 tyX7 tyX7_ok nmX7 X.2.2.2.1 hSt.1 hP (m_D G _) hS k (m_at G M hl (by decide)) rfl j hj (X.2.2.2.2 _ hlk) (fun _ h9 => h9) hfin hd hn hfit (Nat.lt_of_lt_of_le hj (Nat.le_of_ble_eq_true rfl)) hdg (fun H1 locs1 q1 q2 q3 => kk H1 locs1 ?_ q3)
  have e := m_set G (M := M) (M' := M') hl h1 h2
  have e2 : m_C G (17, 0) k (M'.1 k) (M'.2 k) = .inr (7, (m_F G 7 k (M.1 k) (M.2 k)).set j v) := by rw [hset]; rfl
  rw [e2] at e
  show va_P G.1 vwCl (va_pl (m_L G) (m_w G M')) H1
  rw [← e]
  exact q1
theorem m_pi7 (X : CallFix p m c cc nL s args m_ws own) (hSt : m_S G s) (hP : m_P G M H) (hS : va_S (m_A G) s.heap H locs) {k : Nat} (hl : m_lay k = (17, 0)) (j : Nat) (hj : j < 10) {x : Int32} {M' : m_M} (eM : m_sI M k j x = M') (hset : (m_F G 7 k (M.1 k) (M.2 k)).set j (.int x) = m_F G 7 k (upd (M.1 k) j x) (M.2 k)) (hfin : (TX7 j).2.2.2 = false) (hd : parseFieldDescriptor (TX7 j).2.2.1 = some .int) {idx : Nat} (hlk : Cond.fieldLink own idx (TX7 j).1 (TX7 j).2.1 (TX7 j).2.2.1 ∈ m_ws) (hdg : decode cc pc = .ok (.putfield idx, 3))
    (kk : ∀ (H1 : Heap) (locs1 : List Loc), m_P G M' H1 → va_S (m_A G) s.heap H1 locs1 → W p l e R s m args below meth c H1 locs1 cells slots Q (F0 m (pc + 3) ls rest)) : W p l e R s m args below meth c H locs cells slots Q (F0 m pc ls (.int x :: .ref (m_ad G k) :: rest)) := by
  subst eM
  exact m_p7 X hSt hP hS hl j hj (ty := .int) (m_sI M k j x) (by rw [m_sI_eq]; exact hset) m_sI_ne (fun _ _ => rfl) hfin hd rfl rfl hlk hdg kk
theorem m_pz7 (X : CallFix p m c cc nL s args m_ws own) (hSt : m_S G s) (hP : m_P G M H) (hS : va_S (m_A G) s.heap H locs) {k : Nat} (hl : m_lay k = (17, 0)) (j : Nat) (hj : j < 10) {x : Int32} (hB : m_B x) {M' : m_M} (eM : m_sI M k j x = M') (hset : (m_F G 7 k (M.1 k) (M.2 k)).set j (.int x) = m_F G 7 k (upd (M.1 k) j x) (M.2 k)) (hfin : (TX7 j).2.2.2 = false) (hd : parseFieldDescriptor (TX7 j).2.2.1 = some .boolean) {idx : Nat} (hlk : Cond.fieldLink own idx (TX7 j).1 (TX7 j).2.1 (TX7 j).2.2.1 ∈ m_ws) (hdg : decode cc pc = .ok (.putfield idx, 3))
    (kk : ∀ (H1 : Heap) (locs1 : List Loc), m_P G M' H1 → va_S (m_A G) s.heap H1 locs1 → W p l e R s m args below meth c H1 locs1 cells slots Q (F0 m (pc + 3) ls rest)) : W p l e R s m args below meth c H locs cells slots Q (F0 m pc ls (.int x :: .ref (m_ad G k) :: rest)) := by
  subst eM
  exact m_p7 X hSt hP hS hl j hj (ty := .boolean) (m_sI M k j x) (by rw [m_sI_eq]; exact hset) m_sI_ne (fun _ _ => rfl) hfin hd (m_narB hB) (by rcases hB with h | h <;> subst h <;> rfl) hlk hdg kk
theorem m_pl7 (X : CallFix p m c cc nL s args m_ws own) (hSt : m_S G s) (hP : m_P G M H) (hS : va_S (m_A G) s.heap H locs) {k : Nat} (hl : m_lay k = (17, 0)) (j : Nat) (hj : j < 10) {x : Int64} {M' : m_M} (eM : m_sL M k j x = M') (hset : (m_F G 7 k (M.1 k) (M.2 k)).set j (.long x) = m_F G 7 k (M.1 k) (vp_updL (M.2 k) j x)) (hfin : (TX7 j).2.2.2 = false) (hd : parseFieldDescriptor (TX7 j).2.2.1 = some .long) {idx : Nat} (hlk : Cond.fieldLink own idx (TX7 j).1 (TX7 j).2.1 (TX7 j).2.2.1 ∈ m_ws) (hdg : decode cc pc = .ok (.putfield idx, 3))
    (kk : ∀ (H1 : Heap) (locs1 : List Loc), m_P G M' H1 → va_S (m_A G) s.heap H1 locs1 → W p l e R s m args below meth c H1 locs1 cells slots Q (F0 m (pc + 3) ls rest)) : W p l e R s m args below meth c H locs cells slots Q (F0 m pc ls (.long x :: .ref (m_ad G k) :: rest)) := by
  subst eM
  exact m_p7 X hSt hP hS hl j hj (ty := .long) (m_sL M k j x) (by rw [m_sL_eq]; exact hset) (fun _ _ => rfl) m_sL_ne hfin hd rfl rfl hlk hdg kk
theorem m_rc7 (hSt : m_S G s) (hP : m_P G M H) {k : Nat} (hl : m_lay k = (17, 0)) : ∃ cell : Cell, H[m_ad G k]? = some cell ∧ cell.vm.isStatics = false ∧ s.vm.findClass RX7 = some cell.cls :=
  va_recv (q := (RX7, TX7, 10)) (ci := 7) hSt.1 hP rfl (m_at G M hl (by decide))
theorem m_g8 (X : CallFix p m c cc nL s args m_ws own) (hSt : m_S G s) (hP : m_P G M H) {k : Nat} (hl : m_lay k = (18, 0)) (j : Nat) (hj : j < 54) {v : Value} (hv : (m_F G 8 k (M.1 k) (M.2 k))[j]? = some v) {idx : Nat} (hlk : Cond.fieldLink own idx (TX8 j).1 (TX8 j).2.1 (TX8 j).2.2.1 ∈ m_ws) (hdg : decode cc pc = .ok (.getfield idx, 3))
    (kk : W p l e R s m args below meth c H locs cells slots Q (F0 m (pc + 3) ls (v :: rest))) : W p l e R s m args below meth c H locs cells slots Q (F0 m pc ls (.ref (m_ad G k) :: rest)) :=
  va_get (D := G.1) (ci := 8) (C := RX8) (T := TX8) (N := 54) X.1 X.2.1 X.2.2.2.2 inlX8 X.2.2.2.1 hSt.1 hP k (m_at G M hl (by decide)) rfl j hj (X.2.2.2.2 _ hlk) (fun _ h9 => h9) hv hdg kk
theorem m_p8 (X : CallFix p m c cc nL s args m_ws own) (hSt : m_S G s) (hP : m_P G M H) (hS : va_S (m_A G) s.heap H locs) {k : Nat} (hl : m_lay k = (18, 0)) (j : Nat) (hj : j < 54) {v : Value} {ty : FieldType} (M' : m_M) (hset : (m_F G 8 k (M.1 k) (M.2 k)).set j v = m_F G 8 k (M'.1 k) (M'.2 k)) (h1 : ∀ i, i ≠ k → M'.1 i = M.1 i) (h2 : ∀ i, i ≠ k → M'.2 i = M.2 i) (hfin : (TX8 j).2.2.2 = false) (hd : parseFieldDescriptor (TX8 j).2.2.1 = some ty) (hn : narrow ty v = v) (hfit : fits ty v = true) {idx : Nat} (hlk : Cond.fieldLink own idx (TX8 j).1 (TX8 j).2.1 (TX8 j).2.2.1 ∈ m_ws) (hdg : decode cc pc = .ok (.putfield idx, 3))
    (kk : ∀ (H1 : Heap) (locs1 : List Loc), m_P G M' H1 → va_S (m_A G) s.heap H1 locs1 → W p l e R s m args below meth c H1 locs1 cells slots Q (F0 m (pc + 3) ls rest)) : W p l e R s m args below meth c H locs cells slots Q (F0 m pc ls (v :: .ref (m_ad G k) :: rest)) := by
  refine va_put (D := G.1) (ci := 8) (C := RX8) (T := TX8) (N := 54) X.1 X.2.1 X.2.2.2.2 inlX8 tyX8 tyX8_ok nmX8 X.2.2.2.1 hSt.1 hP (m_D G _) hS k (m_at G M hl (by decide)) rfl j hj (X.2.2.2.2 _ hlk) (fun _ h9 => h9) hfin hd hn hfit (Nat.lt_of_lt_of_le hj (Nat.le_of_ble_eq_true rfl)) hdg (fun H1 locs1 q1 q2 q3 => kk H1 locs1 ?_ q3)
  have e := m_set G (M := M) (M' := M') hl h1 h2
  have e2 : m_C G (18, 0) k (M'.1 k) (M'.2 k) = .inr (8, (m_F G 8 k (M.1 k) (M.2 k)).set j v) := by rw [hset]; rfl
  rw [e2] at e
  show va_P G.1 vwCl (va_pl (m_L G) (m_w G M')) H1
  rw [← e]
  exact q1
theorem m_pi8 (X : CallFix p m c cc nL s args m_ws own) (hSt : m_S G s) (hP : m_P G M H) (hS : va_S (m_A G) s.heap H locs) {k : Nat} (hl : m_lay k = (18, 0)) (j : Nat) (hj : j < 54) {x : Int32} {M' : m_M} (eM : m_sI M k j x = M') (hset : (m_F G 8 k (M.1 k) (M.2 k)).set j (.int x) = m_F G 8 k (upd (M.1 k) j x) (M.2 k)) (hfin : (TX8 j).2.2.2 = false) (hd : parseFieldDescriptor (TX8 j).2.2.1 = some .int) {idx : Nat} (hlk : Cond.fieldLink own idx (TX8 j).1 (TX8 j).2.1 (TX8 j).2.2.1 ∈ m_ws) (hdg : decode cc pc = .ok (.putfield idx, 3))
    (kk : ∀ (H1 : Heap) (locs1 : List Loc), m_P G M' H1 → va_S (m_A G) s.heap H1 locs1 → W p l e R s m args below meth c H1 locs1 cells slots Q (F0 m (pc + 3) ls rest)) : W p l e R s m args below meth c H locs cells slots Q (F0 m pc ls (.int x :: .ref (m_ad G k) :: rest)) := by
  subst eM
  exact m_p8 X hSt hP hS hl j hj (ty := .int) (m_sI M k j x) (by rw [m_sI_eq]; exact hset) m_sI_ne (fun _ _ => rfl) hfin hd rfl rfl hlk hdg kk
theorem m_pz8 (X : CallFix p m c cc nL s args m_ws own) (hSt : m_S G s) (hP : m_P G M H) (hS : va_S (m_A G) s.heap H locs) {k : Nat} (hl : m_lay k = (18, 0)) (j : Nat) (hj : j < 54) {x : Int32} (hB : m_B x) {M' : m_M} (eM : m_sI M k j x = M') (hset : (m_F G 8 k (M.1 k) (M.2 k)).set j (.int x) = m_F G 8 k (upd (M.1 k) j x) (M.2 k)) (hfin : (TX8 j).2.2.2 = false) (hd : parseFieldDescriptor (TX8 j).2.2.1 = some .boolean) {idx : Nat} (hlk : Cond.fieldLink own idx (TX8 j).1 (TX8 j).2.1 (TX8 j).2.2.1 ∈ m_ws) (hdg : decode cc pc = .ok (.putfield idx, 3))
    (kk : ∀ (H1 : Heap) (locs1 : List Loc), m_P G M' H1 → va_S (m_A G) s.heap H1 locs1 → W p l e R s m args below meth c H1 locs1 cells slots Q (F0 m (pc + 3) ls rest)) : W p l e R s m args below meth c H locs cells slots Q (F0 m pc ls (.int x :: .ref (m_ad G k) :: rest)) := by
  subst eM
  exact m_p8 X hSt hP hS hl j hj (ty := .boolean) (m_sI M k j x) (by rw [m_sI_eq]; exact hset) m_sI_ne (fun _ _ => rfl) hfin hd (m_narB hB) (by rcases hB with h | h <;> subst h <;> rfl) hlk hdg kk
theorem m_pl8 (X : CallFix p m c cc nL s args m_ws own) (hSt : m_S G s) (hP : m_P G M H) (hS : va_S (m_A G) s.heap H locs) {k : Nat} (hl : m_lay k = (18, 0)) (j : Nat) (hj : j < 54) {x : Int64} {M' : m_M} (eM : m_sL M k j x = M') (hset : (m_F G 8 k (M.1 k) (M.2 k)).set j (.long x) = m_F G 8 k (M.1 k) (vp_updL (M.2 k) j x)) (hfin : (TX8 j).2.2.2 = false) (hd : parseFieldDescriptor (TX8 j).2.2.1 = some .long) {idx : Nat} (hlk : Cond.fieldLink own idx (TX8 j).1 (TX8 j).2.1 (TX8 j).2.2.1 ∈ m_ws) (hdg : decode cc pc = .ok (.putfield idx, 3))
    (kk : ∀ (H1 : Heap) (locs1 : List Loc), m_P G M' H1 → va_S (m_A G) s.heap H1 locs1 → W p l e R s m args below meth c H1 locs1 cells slots Q (F0 m (pc + 3) ls rest)) : W p l e R s m args below meth c H locs cells slots Q (F0 m pc ls (.long x :: .ref (m_ad G k) :: rest)) := by
  subst eM
  exact m_p8 X hSt hP hS hl j hj (ty := .long) (m_sL M k j x) (by rw [m_sL_eq]; exact hset) (fun _ _ => rfl) m_sL_ne hfin hd rfl rfl hlk hdg kk
theorem m_rc8 (hSt : m_S G s) (hP : m_P G M H) {k : Nat} (hl : m_lay k = (18, 0)) : ∃ cell : Cell, H[m_ad G k]? = some cell ∧ cell.vm.isStatics = false ∧ s.vm.findClass RX8 = some cell.cls :=
  va_recv (q := (RX8, TX8, 54)) (ci := 8) hSt.1 hP rfl (m_at G M hl (by decide))
theorem m_ld0 (X : CallFix p m c cc nL s args m_ws RX3) (hSt : m_S G s) (hdg : decode cc pc = .ok (.ldc 59, 2)) (kk : W p l e R s m args below meth c H locs cells slots Q (F0 m (pc + 2) ls (.ref (m_K G 0) :: rest))) : W p l e R s m args below meth c H locs cells slots Q (F0 m pc ls rest) := va_ldcS X.1 X.2.1 X.2.2.2.1 hSt.2.2.1.1 hdg kk
theorem m_ld1 (X : CallFix p m c cc nL s args m_ws RX3) (hSt : m_S G s) (hdg : decode cc pc = .ok (.ldc 67, 2)) (kk : W p l e R s m args below meth c H locs cells slots Q (F0 m (pc + 2) ls (.ref (m_K G 1) :: rest))) : W p l e R s m args below meth c H locs cells slots Q (F0 m pc ls rest) := va_ldcS X.1 X.2.1 X.2.2.2.1 hSt.2.2.1.2.1 hdg kk
theorem m_ld2 (X : CallFix p m c cc nL s args m_ws RX3) (hSt : m_S G s) (hdg : decode cc pc = .ok (.ldc 73, 2)) (kk : W p l e R s m args below meth c H locs cells slots Q (F0 m (pc + 2) ls (.ref (m_K G 2) :: rest))) : W p l e R s m args below meth c H locs cells slots Q (F0 m pc ls rest) := va_ldcS X.1 X.2.1 X.2.2.2.1 hSt.2.2.1.2.2.1 hdg kk
theorem m_ld3 (X : CallFix p m c cc nL s args m_ws RX3) (hSt : m_S G s) (hdg : decode cc pc = .ok (.ldc 75, 2)) (kk : W p l e R s m args below meth c H locs cells slots Q (F0 m (pc + 2) ls (.ref (m_K G 3) :: rest))) : W p l e R s m args below meth c H locs cells slots Q (F0 m pc ls rest) := va_ldcS X.1 X.2.1 X.2.2.2.1 hSt.2.2.1.2.2.2.1 hdg kk
theorem m_ld4 (X : CallFix p m c cc nL s args m_ws RX1) (hSt : m_S G s) (hdg : decode cc pc = .ok (.ldc 67, 2)) (kk : W p l e R s m args below meth c H locs cells slots Q (F0 m (pc + 2) ls (.ref (m_K G 4) :: rest))) : W p l e R s m args below meth c H locs cells slots Q (F0 m pc ls rest) := va_ldcS X.1 X.2.1 X.2.2.2.1 hSt.2.2.1.2.2.2.2.1 hdg kk
theorem m_ld5 (X : CallFix p m c cc nL s args m_ws RX2) (hSt : m_S G s) (hdg : decode cc pc = .ok (.ldc 83, 2)) (kk : W p l e R s m args below meth c H locs cells slots Q (F0 m (pc + 2) ls (.ref (m_K G 5) :: rest))) : W p l e R s m args below meth c H locs cells slots Q (F0 m pc ls rest) := va_ldcS X.1 X.2.1 X.2.2.2.1 hSt.2.2.1.2.2.2.2.2.1 hdg kk
theorem m_ld6 (X : CallFix p m c cc nL s args m_ws RX2) (hSt : m_S G s) (hdg : decode cc pc = .ok (.ldc 51, 2)) (kk : W p l e R s m args below meth c H locs cells slots Q (F0 m (pc + 2) ls (.ref (m_K G 6) :: rest))) : W p l e R s m args below meth c H locs cells slots Q (F0 m pc ls rest) := va_ldcS X.1 X.2.1 X.2.2.2.1 hSt.2.2.1.2.2.2.2.2.2.1 hdg kk
theorem m_ld7 (X : CallFix p m c cc nL s args m_ws RX2) (hSt : m_S G s) (hdg : decode cc pc = .ok (.ldc 66, 2)) (kk : W p l e R s m args below meth c H locs cells slots Q (F0 m (pc + 2) ls (.ref (m_K G 7) :: rest))) : W p l e R s m args below meth c H locs cells slots Q (F0 m pc ls rest) := va_ldcS X.1 X.2.1 X.2.2.2.1 hSt.2.2.1.2.2.2.2.2.2.2.1 hdg kk
theorem m_ld8 (X : CallFix p m c cc nL s args m_ws RX4) (hSt : m_S G s) (hdg : decode cc pc = .ok (.ldc 108, 2)) (kk : W p l e R s m args below meth c H locs cells slots Q (F0 m (pc + 2) ls (.ref (m_K G 8) :: rest))) : W p l e R s m args below meth c H locs cells slots Q (F0 m pc ls rest) := va_ldcS X.1 X.2.1 X.2.2.2.1 hSt.2.2.1.2.2.2.2.2.2.2.2 hdg kk
end MROWS
def m_isDeal (k : Nat) : Prop := m_lay k = (10, 0)
def m_isLaw (k : Nat) : Prop := m_lay k = (14, 0) ∧ m_lay (k + 1) = (0, 50) ∧ m_lay (k + 2) = (0, 50) ∧ m_lay (k + 3) = (1, 50) ∧ m_lay (k + 4) = (1, 50)
def m_isKept (k : Nat) : Prop := m_lay k = (13, 0) ∧ m_lay (k + 1) = (0, 360) ∧ m_lay (k + 2) = (0, 6) ∧ m_lay (k + 3) = (5, 2) ∧ m_isLaw (k + 4) ∧ m_isLaw (k + 9)
def m_isPerson (k : Nat) : Prop := m_lay k = (15, 0) ∧ m_lay (k + 1) = (0, 4) ∧ m_lay (k + 2) = (0, 10) ∧ m_lay (k + 3) = (2, 4) ∧ m_lay (k + 4) = (2, 4)
theorem m_in_lt {i : Int32} {n : Nat} (h : m_in i n) : i.toNatClampNeg < n := Nat.not_le.mp fun q => h (Or.inr q)
theorem m_law_of {k : Nat} (h : m_isKept k) {i : Int32} (hi : m_in i 2) : m_isLaw (k + 3 + 1 + 5 * i.toNatClampNeg) := by
  have h2 := m_in_lt hi
  generalize i.toNatClampNeg = q at h2 ⊢
  match q, h2 with
  | 0, _ => exact h.2.2.2.2.1
  | 1, _ => exact h.2.2.2.2.2
theorem m_kept_0 : m_isKept 1 := by unfold m_isKept m_isLaw; decide +kernel
theorem m_kept_all : ∀ q, q < 2 → m_isKept (16 + 14 * q) := by unfold m_isKept m_isLaw; decide +kernel
theorem m_kept_of {i : Int32} (hi : m_in i 2) : m_isKept (16 + 14 * i.toNatClampNeg) := m_kept_all _ (m_in_lt hi)
theorem m_person_all : ∀ q, q < 10 → m_isPerson (49 + 5 * q) := by unfold m_isPerson; decide +kernel
theorem m_person_of {i : Int32} (hi : m_in i 10) : m_isPerson (49 + 5 * i.toNatClampNeg) := m_person_all _ (m_in_lt hi)
theorem m_deal_all : ∀ q, q < 60 → m_isDeal (99 + q) := by unfold m_isDeal; decide +kernel
theorem m_deal_of {i : Int32} (hi : m_in i 60) : m_isDeal (99 + i.toNatClampNeg) := m_deal_all _ (m_in_lt hi)
theorem m_z_0 : m_lay 0 = (17, 0) := by decide +kernel
theorem m_z_1 : m_lay 1 = (13, 0) := by decide +kernel
theorem m_z_2 : m_lay 2 = (0, 360) := by decide +kernel
theorem m_z_3 : m_lay 3 = (0, 6) := by decide +kernel
theorem m_z_4 : m_lay 4 = (5, 2) := by decide +kernel
theorem m_z_5 : m_lay 5 = (14, 0) := by decide +kernel
theorem m_z_6 : m_lay 6 = (0, 50) := by decide +kernel
theorem m_z_7 : m_lay 7 = (0, 50) := by decide +kernel
theorem m_z_8 : m_lay 8 = (1, 50) := by decide +kernel
theorem m_z_9 : m_lay 9 = (1, 50) := by decide +kernel
theorem m_z_10 : m_lay 10 = (14, 0) := by decide +kernel
theorem m_z_11 : m_lay 11 = (0, 50) := by decide +kernel
theorem m_z_12 : m_lay 12 = (0, 50) := by decide +kernel
theorem m_z_13 : m_lay 13 = (1, 50) := by decide +kernel
theorem m_z_14 : m_lay 14 = (1, 50) := by decide +kernel
theorem m_z_15 : m_lay 15 = (4, 2) := by decide +kernel
theorem m_z_16 : m_lay 16 = (13, 0) := by decide +kernel
theorem m_z_17 : m_lay 17 = (0, 360) := by decide +kernel
theorem m_z_18 : m_lay 18 = (0, 6) := by decide +kernel
theorem m_z_19 : m_lay 19 = (5, 2) := by decide +kernel
theorem m_z_20 : m_lay 20 = (14, 0) := by decide +kernel
theorem m_z_21 : m_lay 21 = (0, 50) := by decide +kernel
theorem m_z_22 : m_lay 22 = (0, 50) := by decide +kernel
theorem m_z_23 : m_lay 23 = (1, 50) := by decide +kernel
theorem m_z_24 : m_lay 24 = (1, 50) := by decide +kernel
theorem m_z_25 : m_lay 25 = (14, 0) := by decide +kernel
theorem m_z_26 : m_lay 26 = (0, 50) := by decide +kernel
theorem m_z_27 : m_lay 27 = (0, 50) := by decide +kernel
theorem m_z_28 : m_lay 28 = (1, 50) := by decide +kernel
theorem m_z_29 : m_lay 29 = (1, 50) := by decide +kernel
theorem m_z_30 : m_lay 30 = (13, 0) := by decide +kernel
theorem m_z_31 : m_lay 31 = (0, 360) := by decide +kernel
theorem m_z_32 : m_lay 32 = (0, 6) := by decide +kernel
theorem m_z_33 : m_lay 33 = (5, 2) := by decide +kernel
theorem m_z_34 : m_lay 34 = (14, 0) := by decide +kernel
theorem m_z_35 : m_lay 35 = (0, 50) := by decide +kernel
theorem m_z_36 : m_lay 36 = (0, 50) := by decide +kernel
theorem m_z_37 : m_lay 37 = (1, 50) := by decide +kernel
theorem m_z_38 : m_lay 38 = (1, 50) := by decide +kernel
theorem m_z_39 : m_lay 39 = (14, 0) := by decide +kernel
theorem m_z_40 : m_lay 40 = (0, 50) := by decide +kernel
theorem m_z_41 : m_lay 41 = (0, 50) := by decide +kernel
theorem m_z_42 : m_lay 42 = (1, 50) := by decide +kernel
theorem m_z_43 : m_lay 43 = (1, 50) := by decide +kernel
theorem m_z_44 : m_lay 44 = (2, 2) := by decide +kernel
theorem m_z_45 : m_lay 45 = (11, 0) := by decide +kernel
theorem m_z_46 : m_lay 46 = (6, 10) := by decide +kernel
theorem m_z_47 : m_lay 47 = (3, 60) := by decide +kernel
theorem m_z_48 : m_lay 48 = (1, 5) := by decide +kernel
theorem m_z_159 : m_lay 159 = (16, 0) := by decide +kernel
theorem m_z_160 : m_lay 160 = (0, 6) := by decide +kernel
theorem m_z_161 : m_lay 161 = (0, 6) := by decide +kernel
theorem m_z_162 : m_lay 162 = (0, 6) := by decide +kernel
theorem m_z_163 : m_lay 163 = (0, 6) := by decide +kernel
theorem m_z_164 : m_lay 164 = (0, 6) := by decide +kernel
theorem m_z_165 : m_lay 165 = (0, 6) := by decide +kernel
theorem m_z_166 : m_lay 166 = (2, 6) := by decide +kernel
theorem m_z_167 : m_lay 167 = (2, 6) := by decide +kernel
theorem m_z_168 : m_lay 168 = (12, 0) := by decide +kernel
theorem m_z_169 : m_lay 169 = (0, 300) := by decide +kernel
theorem m_z_170 : m_lay 170 = (1, 32) := by decide +kernel
theorem m_z_171 : m_lay 171 = (1, 32) := by decide +kernel
theorem m_z_172 : m_lay 172 = (18, 0) := by decide +kernel
theorem m_z_173 : m_lay 173 = (0, 471) := by decide +kernel
theorem m_z_174 : m_lay 174 = (0, 942) := by decide +kernel
theorem m_z_175 : m_lay 175 = (2, 2) := by decide +kernel
theorem m_z_176 : m_lay 176 = (0, 300) := by decide +kernel
theorem m_z_177 : m_lay 177 = (0, 10) := by decide +kernel
theorem m_z_178 : m_lay 178 = (0, 10) := by decide +kernel
theorem m_z_179 : m_lay 179 = (0, 10) := by decide +kernel
theorem m_z_180 : m_lay 180 = (0, 10) := by decide +kernel
theorem m_z_181 : m_lay 181 = (0, 40) := by decide +kernel
theorem m_z_182 : m_lay 182 = (2, 40) := by decide +kernel
theorem m_z_183 : m_lay 183 = (2, 40) := by decide +kernel
theorem m_z_184 : m_lay 184 = (0, 100) := by decide +kernel
theorem m_z_185 : m_lay 185 = (0, 60) := by decide +kernel
theorem m_z_186 : m_lay 186 = (0, 60) := by decide +kernel
theorem m_z_187 : m_lay 187 = (0, 60) := by decide +kernel
theorem m_z_188 : m_lay 188 = (0, 60) := by decide +kernel
theorem m_z_189 : m_lay 189 = (2, 60) := by decide +kernel
theorem m_z_190 : m_lay 190 = (2, 60) := by decide +kernel
theorem m_z_191 : m_lay 191 = (2, 60) := by decide +kernel
theorem m_z_192 : m_lay 192 = (1, 64) := by decide +kernel
theorem m_z_193 : m_lay 193 = (0, 128) := by decide +kernel
theorem m_z_194 : m_lay 194 = (1, 5) := by decide +kernel
theorem m_z_195 : m_lay 195 = (0, 10) := by decide +kernel
theorem m_z_196 : m_lay 196 = (0, 6) := by decide +kernel
theorem m_z_197 : m_lay 197 = (0, 6) := by decide +kernel
theorem m_z_198 : m_lay 198 = (0, 6) := by decide +kernel
theorem m_z_199 : m_lay 199 = (0, 6) := by decide +kernel
theorem m_z_200 : m_lay 200 = (1, 32) := by decide +kernel
theorem m_z_201 : m_lay 201 = (1, 32) := by decide +kernel
