/-! CALLS: image, from: the class takes all -/
theorem q_bx {α β : Type} {x : α} {f : α → Option β} {P : β → Prop} (h : ∀ y, y = x → q_T (f y) P) : q_T (m_bd x f) P := h x rfl
theorem q_cp {M : m_M} {k : Nat} {f : Nat → Int32} (i j : Nat) : (m_sC M k f).1 i j = if i = k then f j else M.1 i j := by
  unfold m_sC va_up
  by_cases h : i = k
  · simp [h]
  · simp [h]
theorem q_cy {f g : Nat → Int32} {n j : Nat} (h : j < n) : va_cpy f g 0 0 n j = f j := by
  unfold va_cpy
  rw [if_pos (by omega), show 0 + (j - 0) = j by omega]
theorem k_take1 {n a b T : Nat} {tx : Nat → Int32} {M : m_M} (hn : 1600 < n) (ha : a < 44) (hd : b + 5 ≤ a ∨ a + 5 ≤ b) (hT : T ≤ 50) (hx : ∀ j, j < T → ∃ c, c < 128 ∧ tx j = nI c) (h1 : M.1 b 1 = nI T) (hb : ∀ j, j < T → M.1 (b + 1) j = tx j) : q_T (f_X4_takeAll n a b M) (fun M' => M'.1 a 1 = nI T ∧ (∀ j, j < T → M'.1 (a + 1) j = tx j) ∧ k_Z a M' T tx) := by
  obtain ⟨t, t1, t2⟩ := k_tnat hx
  unfold f_X4_takeAll
  refine q_bx (fun M1 e1 => ?_)
  have c1 : ∀ i j, M1.1 i j = if i = a + 1 then va_cpy (M.1 (b + 1)) (M.1 (a + 1)) 0 0 50 j else M.1 i j := fun i j => by rw [e1, q_cp]
  have b1 : M1.1 b 1 = nI T := by rw [c1, if_neg (by omega), h1]
  rw [b1]
  refine q_bx (fun M2 e2 => ?_)
  have c2 : ∀ i j, M2.1 i j = if i = a ∧ j = 1 then nI T else M1.1 i j := fun i j => by rw [e2, q_r]
  have d2 : M2.1 a 1 = nI T := by rw [c2, if_pos ⟨rfl, rfl⟩]
  have x2 : ∀ j, j < T → M2.1 (a + 1) j = tx j := fun j hj => by rw [c2, if_neg (by omega), c1, if_pos rfl, q_cy (by omega), hb j hj]
  refine q_ob (q_mono (q_TH (v_Z (T := T) (t := t) (tx := tx) hn ha hT t1 d2 (fun j hj => (x2 j hj).trans (t2 j hj)) t2) (g_X4_parse n a M2)) (fun M3 h3 => q_some ⟨?_, fun j hj => ?_, h3.1⟩))
  · rw [h3.2.1 a 1 (by unfold w_6; omega), d2]
  · rw [h3.2.1 (a + 1) j (by unfold w_6; omega), x2 j hj]
theorem k_take2 {n a b u : Nat} {C : k_C} {M : m_M} (hn : 1600 < n) (hu : 2 < u) (ha : a ≤ 30) (hd : b + 14 ≤ a ∨ a + 14 ≤ b) (hV : k_V C) (hL : ∀ l, l < 2 → M.1 (b + 4 + 5 * l) 1 = nI (k_t C l) ∧ ∀ j, j < k_t C l → M.1 (b + 5 + 5 * l) j = k_x C l j) : q_T (f_X3_takeAll_b73 n a b u 0 M) (fun M' => (∀ i j, ¬ (a + 4 ≤ i ∧ i ≤ a + 13) → M'.1 i j = M.1 i j) ∧ ∀ l, l < 2 → M'.1 (a + 4 + 5 * l) 1 = nI (k_t C l) ∧ (∀ j, j < k_t C l → M'.1 (a + 5 + 5 * l) j = k_x C l j) ∧ k_Z (a + 4 + 5 * l) M' (k_t C l) (k_x C l)) := by
  obtain ⟨u, rfl⟩ : ∃ v, u = v + 3 := ⟨u - 3, by omega⟩
  have xx := hV.2.2.2.2.2.2.2.2
  obtain ⟨t0, x0⟩ := xx 0 (by omega)
  obtain ⟨t1, x1⟩ := xx 1 (by omega)
  obtain ⟨p0, r0⟩ := hL 0 (by omega)
  obtain ⟨p1, r1⟩ := hL 1 (by omega)
  rw [f_X3_takeAll_b73]
  refine q_if (by decide) (q_gd (q_in (i := 0) (by decide) (by decide)) ?_)
  rw [show ((0 : Int32)).toNatClampNeg = 0 from by decide, show a + 3 + 1 + 5 * 0 = a + 4 by omega, show b + 3 + 1 + 5 * 0 = b + 4 by omega]
  refine q_ob (q_mono (q_TH (k_take1 (a := a + 4) (b := b + 4) (T := k_t C 0) (tx := k_x C 0) hn (by omega) (by omega) t0 x0 p0 r0) (g_X4_takeAll n (a + 4) (b + 4) M)) (fun M1 h1 => ?_))
  obtain ⟨⟨q1, q2, fl, val, q3, q4⟩, g⟩ := h1
  rw [f_X3_takeAll_b73]
  refine q_if (by decide) (q_gd (q_in (i := 1) (by decide) (by decide)) ?_)
  rw [show ((0 : Int32) + 1).toNatClampNeg = 1 from by decide, show a + 3 + 1 + 5 * 1 = a + 9 by omega, show b + 3 + 1 + 5 * 1 = b + 9 by omega]
  refine q_ob (q_mono (q_TH (k_take1 (a := a + 9) (b := b + 9) (T := k_t C 1) (tx := k_x C 1) hn (by omega) (by omega) t1 x1 ((g.1 (b + 9) 1 (by unfold w_28; omega)).trans p1) (fun j hj => (g.1 (b + 10) j (by unfold w_28; omega)).trans (r1 j hj))) (g_X4_takeAll n (a + 9) (b + 9) M1)) (fun M2 h2 => ?_))
  obtain ⟨⟨s1, s2, s3⟩, g2⟩ := h2
  rw [f_X3_takeAll_b73]
  refine q_it (by decide) (q_some ⟨fun i j q => ?_, fun l hl => ?_⟩)
  · rw [g2.1 i j (by unfold w_28; omega), g.1 i j (by unfold w_28; omega)]
  · have hc : l = 0 ∨ l = 1 := by omega
    rcases hc with e | e <;> subst e
    · exact ⟨(g2.1 (a + 4) 1 (by unfold w_28; omega)).trans q1, fun j hj => (g2.1 (a + 5) j (by unfold w_28; omega)).trans (q2 j hj), fl, val, e_YC_fr q3 (fun j => g2.1 (a + 4) j (by unfold w_28; omega)) (fun j => g2.1 (a + 6) j (by unfold w_28; omega)) (fun j => g2.2 (a + 7) j (by unfold w_5; omega)), q4⟩
    · exact ⟨s1, s2, s3⟩
theorem k_take {n a b : Nat} {C : k_C} {M : m_M} (hn : 1600 < n) (ha : a ≤ 30) (hd : b + 14 ≤ a ∨ a + 14 ≤ b) (hV : k_V C) (h : k_A C b M) : q_T (f_X3_takeAll n a b M) (fun M' => k_A C a M') := by
  obtain ⟨a0, a1, a2, a3, a4, a5, a6, a7⟩ := h
  have hN := hV.1.2.1
  have hl := hV.1.2.2.1
  unfold f_X3_takeAll
  refine q_bx (fun M4 h4 => ?_)
  have c4 : ∀ i j, M4.1 i j = if i = a ∧ j = 0 then M.1 b 0 else M.1 i j := fun i j => by rw [h4, q_r]
  refine q_bx (fun M5 h5 => ?_)
  have c5 : ∀ i j, M5.1 i j = if i = a ∧ j = 1 then M4.1 b 1 else M4.1 i j := fun i j => by rw [h5, q_r]
  refine q_bx (fun M6 h6 => ?_)
  have c6 : ∀ i j, M6.1 i j = if i = a ∧ j = 2 then M5.1 b 2 else M5.1 i j := fun i j => by rw [h6, q_r]
  refine q_bx (fun M7 h7 => ?_)
  have c7 : ∀ i j, M7.1 i j = if i = a ∧ j = 3 then M6.1 b 3 else M6.1 i j := fun i j => by rw [h7, q_r]
  refine q_bx (fun M8 h8 => ?_)
  have c8 : ∀ i j, M8.1 i j = if i = a ∧ j = 4 then M7.1 b 4 else M7.1 i j := fun i j => by rw [h8, q_r]
  refine q_bx (fun M9 h9 => ?_)
  have c9 : ∀ i j, M9.1 i j = if i = a + 1 then va_cpy (M8.1 (b + 1)) (M8.1 (a + 1)) 0 0 360 j else M8.1 i j := fun i j => by rw [h9, q_cp]
  refine q_bx (fun M10 h10 => ?_)
  have c10 : ∀ i j, M10.1 i j = if i = a + 2 then va_cpy (M9.1 (b + 2)) (M9.1 (a + 2)) 0 0 6 j else M9.1 i j := fun i j => by rw [h10, q_cp]
  have o8 : ∀ i j, i ≠ a → M8.1 i j = M.1 i j := fun i j q => by
    rw [c8, if_neg (by omega), c7, if_neg (by omega), c6, if_neg (by omega), c5, if_neg (by omega), c4, if_neg (by omega)]
  have o10 : ∀ i j, i ≠ a → i ≠ a + 1 → i ≠ a + 2 → M10.1 i j = M.1 i j := fun i j q1 q2 q3 => by
    rw [c10, if_neg q3, c9, if_neg q2, o8 i j q1]
  have f0 : M10.1 a 0 = nI (k_P C) := by
    rw [c10, if_neg (by omega), c9, if_neg (by omega), c8, if_neg (by omega), c7, if_neg (by omega), c6, if_neg (by omega), c5, if_neg (by omega), c4, if_pos ⟨rfl, rfl⟩, a0]
  have f1 : M10.1 a 1 = nI (k_N C) := by
    rw [c10, if_neg (by omega), c9, if_neg (by omega), c8, if_neg (by omega), c7, if_neg (by omega), c6, if_neg (by omega), c5, if_pos ⟨rfl, rfl⟩, c4, if_neg (by omega), a1]
  have f2 : M10.1 a 2 = nI (h_D (k_r C) (k_N C)) := by
    rw [c10, if_neg (by omega), c9, if_neg (by omega), c8, if_neg (by omega), c7, if_neg (by omega), c6, if_pos ⟨rfl, rfl⟩, c5, if_neg (by omega), c4, if_neg (by omega), a2]
  have f3 : M10.1 a 3 = nI (h_B (k_r C) (k_N C)) := by
    rw [c10, if_neg (by omega), c9, if_neg (by omega), c8, if_neg (by omega), c7, if_pos ⟨rfl, rfl⟩, c6, if_neg (by omega), c5, if_neg (by omega), c4, if_neg (by omega), a3]
  have f4 : M10.1 a 4 = nI (k_n C) := by
    rw [c10, if_neg (by omega), c9, if_neg (by omega), c8, if_pos ⟨rfl, rfl⟩, c7, if_neg (by omega), c6, if_neg (by omega), c5, if_neg (by omega), c4, if_neg (by omega), a4]
  have f5 : ∀ j, j < 6 * k_N C → M10.1 (a + 1) j = k_r C j := fun j hj => by
    rw [c10, if_neg (by omega), c9, if_pos rfl, q_cy (by omega), o8 _ _ (by omega), a5 j hj]
  have f6 : ∀ j, j < k_n C → M10.1 (a + 2) j = k_l C j := fun j hj => by
    rw [c10, if_pos rfl, q_cy (by omega), c9, if_neg (by omega), o8 _ _ (by omega), a6 j hj]
  refine q_mono (k_take2 (M := M10) (u := n) hn (by omega) ha hd hV (fun l hl => ⟨?_, fun j hj => ?_⟩)) (fun M' h' => ?_)
  · rw [o10 _ _ (by omega) (by omega) (by omega)]
    exact (a7 l hl).1
  · rw [o10 _ _ (by omega) (by omega) (by omega)]
    exact (a7 l hl).2.1 j hj
  · obtain ⟨e, z⟩ := h'
    exact ⟨(e _ _ (by omega)).trans f0, (e _ _ (by omega)).trans f1, (e _ _ (by omega)).trans f2, (e _ _ (by omega)).trans f3, (e _ _ (by omega)).trans f4, fun j hj => (e _ _ (by omega)).trans (f5 j hj), fun j hj => (e _ _ (by omega)).trans (f6 j hj), z⟩
