/-! A NOTE comes: the reference -/
theorem a_b179 {n N k : Nat} {x1 x2 x3 x4 x5 z : Int32} {M : m_M} (hN : N < 60) (h1 : M.1 173 469 = nI N) : q_T (f_X8_note_b179 n x1 x2 x3 x4 x5 (nI (6 * N)) (nI (6 * N + 4)) z M) (fun a => a.1 = nI N ∧ a.2.2 = M.2 ∧ ∀ i j, a.2.1 i j = if i = 173 ∧ j = 469 then nI (N + 1) else if i = 173 ∧ j = 6 * N + 5 then 0 else if i = 173 ∧ j = 6 * N + 4 then z else M.1 i j) := by
  unfold f_X8_note_b179 f_X8_notes
  rw [q_p5]
  refine q_gd (q_in (by omega) (by decide)) (q_bd (q_gd (q_in (by omega) (by decide)) (q_bd (q_bd (q_bd (q_some ?_))))))
  rw [q_cl (by omega), q_cl (by omega)]
  have e1 : (m_sI (m_sI M 173 (6 * N + 4) z) 173 (6 * N + 5) 0).1 173 469 = nI N := by rw [q_r, q_r, if_neg (by omega), if_neg (by omega), h1]
  rw [e1, q_up]
  refine ⟨?_, rfl, fun i j => ?_⟩
  · rw [q_r, if_pos ⟨rfl, rfl⟩, nI_pred]
  · rw [q_r, q_r, q_r]
theorem a_b157 {n N k : Nat} {x1 x3 x4 x5 y : Int32} {M : m_M} (hN : N < 60) (hk : k < 15) (h1 : M.1 173 469 = nI N) : q_T (f_X8_note_b157 n x1 (nI k) x3 x4 x5 (nI (6 * N)) (nI (6 * N + 3)) y M) (fun a => a.1 = nI N ∧ a.2.2 = M.2 ∧ ∀ i j, a.2.1 i j = if i = 173 ∧ j = 469 then nI (N + 1) else if i = 173 ∧ j = 6 * N + 5 then 0 else if i = 173 ∧ j = 6 * N + 4 then n_v k x5 else if i = 173 ∧ j = 6 * N + 3 then y else M.1 i j) := by
  unfold f_X8_note_b157
  rw [q_p4]
  refine q_gd (q_in (by omega) (by decide)) (q_bd (q_bd ?_))
  rw [q_cl (by omega), n_nv hk]
  have key : ∀ z, z = n_v k x5 → q_T (f_X8_note_b179 n x1 (nI k) x3 x4 x5 (nI (6 * N)) (nI (6 * N + 4)) z (m_sI M 173 (6 * N + 3) y)) (fun a => a.1 = nI N ∧ a.2.2 = M.2 ∧ ∀ i j, a.2.1 i j = if i = 173 ∧ j = 469 then nI (N + 1) else if i = 173 ∧ j = 6 * N + 5 then 0 else if i = 173 ∧ j = 6 * N + 4 then n_v k x5 else if i = 173 ∧ j = 6 * N + 3 then y else M.1 i j) := by
    intro z hz
    subst hz
    refine q_mono (a_b179 (k := k) hN (by rw [q_r, if_neg (by omega), h1])) (fun a ha => ?_)
    obtain ⟨a1, a2, a3⟩ := ha
    exact ⟨a1, a2.trans rfl, fun i j => by rw [a3, q_r]⟩
  by_cases c : (1 ≤ k ∧ k ≤ 4) ∨ (9 ≤ k ∧ k ≤ 13)
  · rw [if_pos c]
    refine q_if (by decide) (key x5 ?_)
    unfold n_v
    rw [if_pos c]
  · rw [if_neg c]
    refine q_it rfl (key 0 ?_)
    unfold n_v
    rw [if_neg c]
theorem k_E_f3 {C : k_C} {M M' : m_M} (h : k_E C 173 0 M) (e : ∀ j, M'.1 173 j = M.1 173 j) : k_E C 173 0 M' := by
  obtain ⟨h0, h1, h2, h5, h6, h7⟩ := h
  refine ⟨(e _).trans h0, (e _).trans h1, (e _).trans h2, fun j hj => (e _).trans (h5 j hj), fun j hj => (e _).trans (h6 j hj), fun l hl => ?_⟩
  obtain ⟨a, b⟩ := h7 l hl
  exact ⟨(e _).trans a, fun j hj => (e _).trans (b j hj)⟩
theorem n_dy8 {C : k_C} {x s : Int32} (hs : s = n_first C) : f_X8_isIn x.toInt64 s.toInt64 999 = n_dy C x := by
  have h : f_X8_isIn x.toInt64 s.toInt64 999 = if x < s then 0 else if (999 : Int32) < x then 0 else 1 := e_rg rfl (by decide +kernel)
  rw [h, hs]
  rfl
theorem a_n22 {n : Nat} {C : k_C} {M : m_M} {x1 x2 x3 x4 x5 : Int32} (hn : 200 < n) (hV : k_V C) (hE : k_E C 173 0 M) : q_T (f_X8_note_b22 n x1 x2 x3 x4 x5 (n_first C) M) (fun a => a.1 = (n_go C x1 x2 x3 x4 x5).1 ∧ k_E (n_go C x1 x2 x3 x4 x5).2 173 0 a.2) := by
  have hN := hV.1.2.1
  have e2 : (n_dy C x1 = 0 ∨ n_ft (k_P C) (h_D (k_r C) (k_N C)) x2 x3 x4 x5 = 0) → n_go C x1 x2 x3 x4 x5 = (-2, C) := fun q => by
    unfold n_go
    by_cases c : n_dy C x1 = 0
    · rw [if_pos c]
    · rw [if_neg c, if_pos (by rcases q with q | q; exact absurd q c; exact q)]
  unfold f_X8_note_b22
  refine q_bd ?_
  have hE0 : k_E C 173 0 (m_sI M 172 24 31) := k_E_f3 hE (fun j => by rw [q_r, if_neg (by omega)])
  refine q_ob (q_mono (q_TH (k_layDay hn hV hE0 (so := 31) (by rw [q_r, if_pos ⟨rfl, rfl⟩]) (k_999 hV)) (g_X8_layDay n 999 _)) (fun M1 h1 => ?_))
  obtain ⟨hL, g⟩ := h1
  have hE1 : k_E C 173 0 M1 := k_E_f3 hE0 (fun j => g.1 173 j (by unfold w_53; omega))
  have hG : k_G C 31 999 (k_N C) M1 := ⟨hL, hE1⟩
  have z0 : M1.1 173 468 = nI (k_P C) := hE1.1
  have z1 : M1.1 173 469 = nI (k_N C) := hE1.2.1
  refine q_bd ?_
  rw [n_dy8 rfl]
  by_cases c1 : n_dy C x1 = 0
  · exact q_it c1 (q_some (by rw [e2 (Or.inl c1)]; exact ⟨rfl, hE1⟩))
  refine q_if c1 (q_bd ?_)
  rw [a_fits (P := k_P C) (D := h_D (k_r C) (k_N C)) (by have := hV.1.1; omega) (by have := k_D60 hV (Nat.le_refl (k_N C)); omega) z0 hL.2.1]
  by_cases c2 : n_ft (k_P C) (h_D (k_r C) (k_N C)) x2 x3 x4 x5 = 0
  · exact q_it c2 (q_some (by rw [e2 (Or.inr c2)]; exact ⟨rfl, hE1⟩))
  refine q_if c2 ?_
  obtain ⟨k, hk, rfl⟩ := n_ftk c2
  have hF := n_fk_of (P := k_P C) (D := h_D (k_r C) (k_N C)) (by have := hV.1.1; omega) (by have := k_D60 hV (Nat.le_refl (k_N C)); omega) hk (by rw [← n_ft_k hk]; exact c2)
  refine q_ob (q_of (a_mk hn hV hG hk hF) ?_)
  by_cases c3 : n_mk (h_S (k_r C) h_all (k_N C)).1 k x3 x4 x5 = false
  · have e : n_go C x1 (nI k) x3 x4 x5 = (-3, C) := by
      unfold n_go
      rw [if_neg c1, if_neg c2, q_cl (by omega), if_pos c3]
    rw [e, c3]
    exact q_it (by decide) (q_some ⟨rfl, hE1⟩)
  have c3' : n_mk (h_S (k_r C) h_all (k_N C)).1 k x3 x4 x5 = true := by
    revert c3
    cases n_mk (h_S (k_r C) h_all (k_N C)).1 k x3 x4 x5 <;> simp
  rw [c3']
  refine q_if (by decide) (q_bd ?_)
  unfold f_X8_notes
  rw [z1]
  by_cases c4 : k_N C = 60
  · have e : n_go C x1 (nI k) x3 x4 x5 = (-4, C) := by
      unfold n_go
      rw [if_neg c1, if_neg c2, q_cl (by omega), if_neg c3, if_pos c4]
    rw [e]
    exact q_it (by rw [c4]; decide) (q_some ⟨rfl, hE1⟩)
  have e : n_go C x1 (nI k) x3 x4 x5 = (nI (k_N C), n_C C k x1 x3 x4 x5) := by
    unfold n_go
    rw [if_neg c1, if_neg c2, q_cl (by omega), if_neg c3, if_neg c4]
  rw [e]
  refine q_if (fun q => c4 ((nI_eq (b := 60) (by omega) (by decide)).mp q)) (q_bd (q_bd ?_))
  rw [q_x6, q_zp, q_p0, q_p1, q_p2, q_p3]
  refine q_gd (q_in (by omega) (by decide)) (q_bd (q_gd (q_in (by omega) (by decide)) (q_bd (q_gd (q_in (by omega) (by decide)) (q_bd (q_bd ?_))))))
  rw [q_cl (i := 6 * k_N C) (by omega), q_cl (i := 6 * k_N C + 1) (by omega), q_cl (i := 6 * k_N C + 2) (by omega), n_nb hk]
  have e3 : ∀ i j, (m_sI (m_sI (m_sI M1 173 (6 * k_N C) x1) 173 (6 * k_N C + 1) (nI k)) 173 (6 * k_N C + 2) x3).1 i j = if i = 173 ∧ j = 6 * k_N C + 2 then x3 else if i = 173 ∧ j = 6 * k_N C + 1 then nI k else if i = 173 ∧ j = 6 * k_N C then x1 else M1.1 i j := fun i j => by rw [q_r, q_r, q_r]
  generalize m_sI (m_sI (m_sI M1 173 (6 * k_N C) x1) 173 (6 * k_N C + 1) (nI k)) 173 (6 * k_N C + 2) x3 = M3 at *
  have key : ∀ y, y = n_b k x4 → q_T (f_X8_note_b157 n x1 (nI k) x3 x4 x5 (nI (6 * k_N C)) (nI (6 * k_N C + 3)) y M3) (fun a => a.1 = nI (k_N C) ∧ k_E (n_C C k x1 x3 x4 x5) 173 0 a.2) := by
    intro y hy
    subst hy
    refine q_mono (a_b157 (by omega) hk (by rw [e3, if_neg (by omega), if_neg (by omega), if_neg (by omega), z1])) (fun a ha => ?_)
    obtain ⟨a1, a2, a3⟩ := ha
    have fr : ∀ j, j ≠ 469 → ¬ (6 * k_N C ≤ j ∧ j < 6 * k_N C + 6) → a.2.1 173 j = M1.1 173 j := fun j q1 q2 => by
      rw [a3, if_neg (by omega), if_neg (by omega), if_neg (by omega), if_neg (by omega), e3, if_neg (by omega), if_neg (by omega), if_neg (by omega)]
    obtain ⟨b0, b1, b2, b5, b6, b7⟩ := hE1
    refine ⟨a1, (fr _ (by omega) (by omega)).trans b0, ?_, (fr _ (by omega) (by omega)).trans b2, fun j hj => ?_, fun j hj => (fr _ (by have : j < k_n C := hj; have := hV.1.2.2.1; omega) (by omega)).trans (b6 j hj), fun l hl => ?_⟩
    · rw [a3, if_pos ⟨rfl, rfl⟩]
      rfl
    · show a.2.1 173 (0 + j) = n_r (k_r C) (k_N C) k x1 x3 x4 x5 j
      have hj' : j < 6 * (k_N C + 1) := hj
      rw [Nat.zero_add]
      unfold n_r
      by_cases c : j < 6 * k_N C
      · rw [if_pos c, fr _ (by omega) (by omega)]
        have := b5 j c
        rw [Nat.zero_add] at this
        exact this
      · rw [if_neg c, a3, e3]
        have hs : j = 6 * k_N C ∨ j = 6 * k_N C + 1 ∨ j = 6 * k_N C + 2 ∨ j = 6 * k_N C + 3 ∨ j = 6 * k_N C + 4 ∨ j = 6 * k_N C + 5 := by omega
        unfold n_rw
        rcases hs with q | q | q | q | q | q <;> subst q
        · (repeat (first | rw [if_pos (by omega)] | rw [if_neg (by omega)]))
        · (repeat (first | rw [if_pos (by omega)] | rw [if_neg (by omega)]))
        · (repeat (first | rw [if_pos (by omega)] | rw [if_neg (by omega)]))
        · (repeat (first | rw [if_pos (by omega)] | rw [if_neg (by omega)]))
        · (repeat (first | rw [if_pos (by omega)] | rw [if_neg (by omega)]))
        · (repeat (first | rw [if_pos (by omega)] | rw [if_neg (by omega)]))
    · have := k_ht hV l hl
      exact ⟨(fr _ (by omega) (by omega)).trans (b7 l hl).1, fun j hj => (fr _ (by have : j < k_t C l := hj; omega) (by omega)).trans ((b7 l hl).2 j hj)⟩
  by_cases cb : k = 5 ∨ k = 9 ∨ k = 10 ∨ k = 13
  · rw [if_pos cb]
    refine q_it rfl (key 0 ?_)
    unfold n_b
    rw [if_pos cb]
  · rw [if_neg cb]
    refine q_if (by decide) (key x4 ?_)
    unfold n_b
    rw [if_neg cb]
theorem a_note {n : Nat} {C : k_C} {M : m_M} {x1 x2 x3 x4 x5 : Int32} (hn : 200 < n) (hV : k_V C) (hE : k_E C 173 0 M) : q_T (f_X8_note n x1 x2 x3 x4 x5 M) (fun a => a.1 = (n_go C x1 x2 x3 x4 x5).1 ∧ k_E (n_go C x1 x2 x3 x4 x5).2 173 0 a.2) := by
  have hN := hV.1.2.1
  have z1 : M.1 173 469 = nI (k_N C) := hE.2.1
  have key := a_n22 (x1 := x1) (x2 := x2) (x3 := x3) (x4 := x4) (x5 := x5) hn hV hE
  unfold f_X8_note f_X8_notes
  refine q_bd ?_
  rw [z1]
  by_cases c : k_N C = 0
  · have e : n_first C = 0 := if_pos c
    rw [e] at key
    exact q_it (by rw [c]; rfl) key
  · obtain ⟨m, hm⟩ : ∃ m, k_N C = m + 1 := ⟨k_N C - 1, by omega⟩
    have e : n_first C = k_r C (6 * (k_N C - 1)) := if_neg c
    refine q_if (fun q => c ((nI_eq (b := 0) (by omega) (by omega)).mp q)) (q_bd ?_)
    have h : f_X8_of (nI m) 0 M = some (k_r C (6 * m + 0)) := k_row_of (j := 0) hV hE (by omega) (by omega)
    rw [hm, nI_pred]
    refine q_ob (q_of h ?_)
    rw [e, hm, Nat.add_sub_cancel] at key
    exact key
