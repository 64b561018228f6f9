/-! A NOTE: what it must be, on both sides -/
def n_sm (x : Int32) : Int32 := if x < 1 then 0 else if (1000 : Int32) < x then 0 else 1
theorem n_sm01 (x : Int32) : (if n_sm x = 0 then (0 : Int32) else 1) = n_sm x := by
  unfold n_sm
  by_cases c : x < 1
  · rw [if_pos c]
    rfl
  · rw [if_neg c]
    by_cases c2 : (1000 : Int32) < x
    · rw [if_pos c2]
      rfl
    · rw [if_neg c2]
      rfl
theorem e_in01 (x : Int32) (n : Nat) : (if e_in x n = 0 then (0 : Int32) else 1) = e_in x n := by
  unfold e_in
  by_cases c : x < 0
  · rw [if_pos c]
    rfl
  · rw [if_neg c]
    by_cases c2 : nI n ≤ x
    · rw [if_pos c2]
      rfl
    · rw [if_neg c2]
      rfl
def n_ft (P D : Nat) (x1 x2 x3 x4 : Int32) : Int32 :=
  if x1 = 0 then (if e_in x2 P = 0 then 0 else if x3 = (-1) then 1 else if e_in x3 P = 0 then 0 else 1)
  else if x1 = 1 ∨ x1 = 2 ∨ x1 = 3 ∨ x1 = 4 then (if e_in x2 P = 0 then 0 else if e_in x3 4 = 0 then 0 else if n_sm x4 = 0 then 0 else 1)
  else if x1 = 5 then e_in x2 D
  else if x1 = 6 ∨ x1 = 7 ∨ x1 = 8 then (if e_in x2 P = 0 then 0 else if e_in x3 4 = 0 then 0 else 1)
  else if x1 = 9 ∨ x1 = 10 ∨ x1 = 13 then (if e_in x2 D = 0 then 0 else if n_sm x4 = 0 then 0 else 1)
  else if x1 = 11 ∨ x1 = 12 then (if e_in x2 P = 0 then 0 else if e_in x3 P = 0 then 0 else if x2 = x3 then 0 else if n_sm x4 = 0 then 0 else 1)
  else if x1 = 14 then (if e_in x2 P = 0 then 0 else if e_in x3 3 = 0 then 0 else 1)
  else 0
theorem a_fits {P D : Nat} {M : m_M} {x1 x2 x3 x4 : Int32} (hP : P < 2 ^ 31) (hD : D < 2 ^ 31) (h0 : M.1 173 468 = nI P) (h22 : M.1 172 22 = nI D) : f_X8_fits x1 x2 x3 x4 M = n_ft P D x1 x2 x3 x4 := by
  have ht : ∀ x, f_X8_isTrade x = e_in x 4 := fun x => by
    have h := e_in_eq (x := x) (n := 4) (by decide)
    rw [show (nI 4 - 1).toInt64 = 3 by decide +kernel] at h
    exact h
  have h3 : ∀ x : Int32, f_X8_isIn x.toInt64 0 2 = e_in x 3 := fun x => by
    have h := e_in_eq (x := x) (n := 3) (by decide)
    rw [show (nI 3 - 1).toInt64 = 2 by decide +kernel] at h
    exact h
  have hs : ∀ x : Int32, f_X8_isSum x = n_sm x := fun x => by
    have h : f_X8_isIn x.toInt64 1 1000 = if x < 1 then 0 else if (1000 : Int32) < x then 0 else 1 := e_rg (by decide +kernel) (by decide +kernel)
    exact h
  unfold f_X8_fits n_ft
  simp only [m_bd, e_per8 hP h0, e_dl8 hD h22, ht, h3, hs]
def n_first (C : k_C) : Int32 := if k_N C = 0 then 0 else k_r C (6 * (k_N C - 1))
def n_dy (C : k_C) (x : Int32) : Int32 := if x < n_first C then 0 else if (999 : Int32) < x then 0 else 1
theorem n_first0 {C : k_C} (hV : k_V C) : ∃ d, d < 1000 ∧ n_first C = nI d := by
  unfold n_first
  by_cases c : k_N C = 0
  · rw [if_pos c]
    exact ⟨0, by omega, rfl⟩
  · rw [if_neg c]
    exact (hV.2.2.1 (k_N C - 1) (by omega)).1
theorem n_dy_e {C : k_C} (hV : k_V C) (x : Int32) : (if e_in x 1000 = 0 then (0 : Int32) else if x < n_first C then 0 else 1) = n_dy C x := by
  obtain ⟨d, hd, e⟩ := n_first0 hV
  unfold n_dy
  rw [e]
  rcases e_in_of (x := x) (n := 1000) (by omega) with ⟨e1, n1⟩ | ⟨e1, y, hy, rfl⟩
  · rw [e1, if_pos rfl]
    by_cases c : x < nI d
    · rw [if_pos c]
    · rw [if_neg c, if_pos]
      have c' : ¬ x < 0 := fun q => c (Int32.lt_iff_toInt_lt.mpr (by
        have := q_il0.mp q
        rw [nI_toInt (by omega)]
        omega))
      obtain ⟨j, hj, rfl⟩ := nI_of c'
      refine (q_lt (a := 999) (by decide) hj).mpr ?_
      have : ¬ j < 1000 := fun q => n1 ⟨j, q, rfl⟩
      omega
  · rw [e1, if_neg (by decide)]
    by_cases c : nI y < nI d
    · rw [if_pos c, if_pos c]
    · rw [if_neg c, if_neg c, if_neg]
      exact fun q => absurd ((q_lt (a := 999) (by decide) (by omega)).mp q) (by omega)
theorem h_chB : ∀ kd, kd < 15 → f_J0_charAt_5068e 1 (nI kd) = some (if kd = 0 then 104 else if kd = 5 ∨ kd = 9 ∨ kd = 10 ∨ kd = 13 then 45 else if kd = 11 ∨ kd = 12 then 111 else if kd = 14 then 119 else 116) := by decide +kernel
theorem h_chV : ∀ kd, kd < 15 → f_J0_charAt_5068e 2 (nI kd) = some (if (1 ≤ kd ∧ kd ≤ 4) ∨ (9 ≤ kd ∧ kd ≤ 13) then 115 else 45) := by decide +kernel
theorem n_ca {α : Type} {x : Int32} {Q : Nat} {X Y : α} : (if x < 0 then Y else if x < nI Q then X else Y) = if e_in x Q = 0 then Y else X := by
  unfold e_in
  by_cases c : x < 0
  · rw [if_pos c, if_pos c, if_pos rfl]
  · rw [if_neg c, if_neg c]
    by_cases c2 : x < nI Q
    · rw [if_pos c2, if_neg (Int32.not_le.mpr c2), if_neg (show ¬ (1 : Int32) = 0 by decide)]
    · rw [if_neg c2, if_pos (Int32.not_lt.mp c2), if_pos rfl]
/-- the b of a kind -/
def n_bb (P : Nat) (c x2 x3 : Int32) : Int32 := if c = 104 then (if x3 = -1 then 1 else e_in x3 P) else if c = 111 then (if e_in x3 P = 0 then 0 else if x2 = x3 then 0 else 1) else if c = 116 then e_in x3 4 else if c = 119 then e_in x3 3 else 1
theorem b_wb {P : Nat} {M : m_M} {c x2 x3 : Int32} (hP : P < 2 ^ 31) (h0 : M.1 1 0 = nI P) : f_X3_isWellToldB 1 c x2 x3 M = n_bb P c x2 x3 := by
  have h2 : (-1 : Int32).toInt = -1 := by decide
  unfold f_X3_isWellToldB n_bb
  rw [h0]
  by_cases c1 : c = 104
  · rw [if_pos c1, if_pos c1]
    by_cases d1 : x3 = -1
    · rw [if_pos d1, d1, if_neg (by decide), if_neg]
      intro q
      have := Int32.le_iff_toInt_le.mp q
      rw [h2, nI_toInt hP] at this
      omega
    · rw [if_neg d1]
      unfold e_in
      have d1' : x3.toInt ≠ -1 := fun q => d1 (Int32.toInt_inj.mp (by rw [q, h2]))
      by_cases d2 : x3 < -1
      · have := Int32.lt_iff_toInt_lt.mp d2
        rw [if_pos d2, if_pos (q_il0.mpr (by omega))]
      · have h3 : ¬ x3 < 0 := fun q => by
          have a := q_il0.mp q
          have b : ¬ x3.toInt < (-1 : Int32).toInt := fun w => d2 (Int32.lt_iff_toInt_lt.mpr w)
          rw [h2] at b
          omega
        rw [if_neg d2, if_neg h3]
  · rw [if_neg c1, if_neg c1]
    by_cases c2 : c = 111
    · rw [if_pos c2, if_pos c2]
      unfold e_in
      by_cases d1 : x3 < 0
      · rw [if_pos d1, if_pos d1, if_pos rfl]
      · rw [if_neg d1, if_neg d1]
        by_cases d2 : nI P ≤ x3
        · rw [if_pos d2, if_pos d2, if_pos rfl]
        · rw [if_neg d2, if_neg d2, if_neg (show ¬ (1 : Int32) = 0 by decide)]
          by_cases d3 : x3 = x2
          · rw [if_pos d3, if_pos d3.symm]
          · rw [if_neg d3, if_neg (fun q => d3 q.symm)]
    · rw [if_neg c2, if_neg c2]
      by_cases c3 : c = 116
      · rw [if_pos c3, if_pos c3]
        rfl
      · rw [if_neg c3, if_neg c3]
        by_cases c4 : c = 119
        · rw [if_pos c4, if_pos c4]
          unfold e_in
          by_cases d1 : x3 < 0
          · rw [if_pos d1, if_pos d1]
          · rw [if_neg d1, if_neg d1]
            obtain ⟨j, hj, rfl⟩ := nI_of d1
            by_cases d2 : 3 ≤ j
            · have l2 : (2 : Int32) < nI j := (q_lt (a := 2) (by decide) hj).mpr (by omega)
              rw [if_pos l2, if_pos ((q_le (by omega) hj).mpr d2)]
            · have l2 : ¬ (2 : Int32) < nI j := fun q => by have := (q_lt (a := 2) (by decide) hj).mp q; omega
              rw [if_neg l2, if_neg (fun q => d2 ((q_le (by omega) hj).mp q))]
        · rw [if_neg c4, if_neg c4]
def n_vv (k : Nat) (x : Int32) : Int32 := if (1 ≤ k ∧ k ≤ 4) ∨ (9 ≤ k ∧ k ≤ 13) then n_sm x else 1
def n_cb (k : Nat) : Int32 := if k = 0 then 104 else if k = 5 ∨ k = 9 ∨ k = 10 ∨ k = 13 then 45 else if k = 11 ∨ k = 12 then 111 else if k = 14 then 119 else 116
/-- a kind's form, all at once -/
def n_fk (P D k : Nat) (x2 x3 x4 : Int32) : Int32 := if e_in x2 (if k = 5 ∨ k = 9 ∨ k = 10 ∨ k = 13 then D else P) = 0 then 0 else if n_bb P (n_cb k) x2 x3 = 0 then 0 else n_vv k x4
theorem n_ft_k {P D k : Nat} {x2 x3 x4 : Int32} (hk : k < 15) : n_ft P D (nI k) x2 x3 x4 = n_fk P D k x2 x3 x4 := by
  have hc : k = 0 ∨ k = 1 ∨ k = 2 ∨ k = 3 ∨ k = 4 ∨ k = 5 ∨ k = 6 ∨ k = 7 ∨ k = 8 ∨ k = 9 ∨ k = 10 ∨ k = 11 ∨ k = 12 ∨ k = 13 ∨ k = 14 := by omega
  have e1 := n_sm01 x4
  have e2 := e_in01 x3 P
  have b104 : n_bb P 104 x2 x3 = if x3 = -1 then 1 else e_in x3 P := by
    unfold n_bb
    rw [if_pos rfl]
  have b45 : n_bb P 45 x2 x3 = 1 := by
    unfold n_bb
    rw [if_neg (by decide), if_neg (by decide), if_neg (by decide), if_neg (by decide)]
  have b111 : n_bb P 111 x2 x3 = if e_in x3 P = 0 then 0 else if x2 = x3 then 0 else 1 := by
    unfold n_bb
    rw [if_neg (by decide), if_pos rfl]
  have b116 : n_bb P 116 x2 x3 = e_in x3 4 := by
    unfold n_bb
    rw [if_neg (by decide), if_neg (by decide), if_pos rfl]
  have b119 : n_bb P 119 x2 x3 = e_in x3 3 := by
    unfold n_bb
    rw [if_neg (by decide), if_neg (by decide), if_neg (by decide), if_pos rfl]
  unfold n_ft n_fk n_vv n_cb
  rcases hc with e | e | e | e | e | e | e | e | e | e | e | e | e | e | e <;> subst e
  · rw [if_pos (show nI 0 = 0 by decide), if_neg (show ¬ ((0 : Nat) = 5 ∨ (0 : Nat) = 9 ∨ (0 : Nat) = 10 ∨ (0 : Nat) = 13) by decide), if_pos (show (0 : Nat) = 0 by decide), if_neg (show ¬ ((1 ≤ 0 ∧ 0 ≤ 4) ∨ (9 ≤ 0 ∧ 0 ≤ 13)) by decide), b104]
    rw [e2]
    by_cases c : x3 = -1
    · rw [if_pos c, if_neg (show ¬ (1 : Int32) = 0 by decide)]
    · rw [if_neg c, e2]
  · rw [if_neg (show ¬ (nI 1 = 0) by decide), if_pos (show nI 1 = 1 ∨ nI 1 = 2 ∨ nI 1 = 3 ∨ nI 1 = 4 by decide), if_neg (show ¬ ((1 : Nat) = 5 ∨ (1 : Nat) = 9 ∨ (1 : Nat) = 10 ∨ (1 : Nat) = 13) by decide), if_neg (show ¬ (1 : Nat) = 0 by decide), if_neg (show ¬ ((1 : Nat) = 5 ∨ (1 : Nat) = 9 ∨ (1 : Nat) = 10 ∨ (1 : Nat) = 13) by decide), if_neg (show ¬ ((1 : Nat) = 11 ∨ (1 : Nat) = 12) by decide), if_neg (show ¬ (1 : Nat) = 14 by decide), if_pos (show ((1 ≤ 1 ∧ 1 ≤ 4) ∨ (9 ≤ 1 ∧ 1 ≤ 13)) by decide), b116]
    rw [e1]
  · rw [if_neg (show ¬ (nI 2 = 0) by decide), if_pos (show nI 2 = 1 ∨ nI 2 = 2 ∨ nI 2 = 3 ∨ nI 2 = 4 by decide), if_neg (show ¬ ((2 : Nat) = 5 ∨ (2 : Nat) = 9 ∨ (2 : Nat) = 10 ∨ (2 : Nat) = 13) by decide), if_neg (show ¬ (2 : Nat) = 0 by decide), if_neg (show ¬ ((2 : Nat) = 5 ∨ (2 : Nat) = 9 ∨ (2 : Nat) = 10 ∨ (2 : Nat) = 13) by decide), if_neg (show ¬ ((2 : Nat) = 11 ∨ (2 : Nat) = 12) by decide), if_neg (show ¬ (2 : Nat) = 14 by decide), if_pos (show ((1 ≤ 2 ∧ 2 ≤ 4) ∨ (9 ≤ 2 ∧ 2 ≤ 13)) by decide), b116]
    rw [e1]
  · rw [if_neg (show ¬ (nI 3 = 0) by decide), if_pos (show nI 3 = 1 ∨ nI 3 = 2 ∨ nI 3 = 3 ∨ nI 3 = 4 by decide), if_neg (show ¬ ((3 : Nat) = 5 ∨ (3 : Nat) = 9 ∨ (3 : Nat) = 10 ∨ (3 : Nat) = 13) by decide), if_neg (show ¬ (3 : Nat) = 0 by decide), if_neg (show ¬ ((3 : Nat) = 5 ∨ (3 : Nat) = 9 ∨ (3 : Nat) = 10 ∨ (3 : Nat) = 13) by decide), if_neg (show ¬ ((3 : Nat) = 11 ∨ (3 : Nat) = 12) by decide), if_neg (show ¬ (3 : Nat) = 14 by decide), if_pos (show ((1 ≤ 3 ∧ 3 ≤ 4) ∨ (9 ≤ 3 ∧ 3 ≤ 13)) by decide), b116]
    rw [e1]
  · rw [if_neg (show ¬ (nI 4 = 0) by decide), if_pos (show nI 4 = 1 ∨ nI 4 = 2 ∨ nI 4 = 3 ∨ nI 4 = 4 by decide), if_neg (show ¬ ((4 : Nat) = 5 ∨ (4 : Nat) = 9 ∨ (4 : Nat) = 10 ∨ (4 : Nat) = 13) by decide), if_neg (show ¬ (4 : Nat) = 0 by decide), if_neg (show ¬ ((4 : Nat) = 5 ∨ (4 : Nat) = 9 ∨ (4 : Nat) = 10 ∨ (4 : Nat) = 13) by decide), if_neg (show ¬ ((4 : Nat) = 11 ∨ (4 : Nat) = 12) by decide), if_neg (show ¬ (4 : Nat) = 14 by decide), if_pos (show ((1 ≤ 4 ∧ 4 ≤ 4) ∨ (9 ≤ 4 ∧ 4 ≤ 13)) by decide), b116]
    rw [e1]
  · rw [if_neg (show ¬ (nI 5 = 0) by decide), if_neg (show ¬ (nI 5 = 1 ∨ nI 5 = 2 ∨ nI 5 = 3 ∨ nI 5 = 4) by decide), if_pos (show nI 5 = 5 by decide), if_pos (show ((5 : Nat) = 5 ∨ (5 : Nat) = 9 ∨ (5 : Nat) = 10 ∨ (5 : Nat) = 13) by decide), if_neg (show ¬ (5 : Nat) = 0 by decide), if_pos (show ((5 : Nat) = 5 ∨ (5 : Nat) = 9 ∨ (5 : Nat) = 10 ∨ (5 : Nat) = 13) by decide), if_neg (show ¬ ((1 ≤ 5 ∧ 5 ≤ 4) ∨ (9 ≤ 5 ∧ 5 ≤ 13)) by decide), b45]
    rw [if_neg (show ¬ (1 : Int32) = 0 by decide), e_in01]
  · rw [if_neg (show ¬ (nI 6 = 0) by decide), if_neg (show ¬ (nI 6 = 1 ∨ nI 6 = 2 ∨ nI 6 = 3 ∨ nI 6 = 4) by decide), if_neg (show ¬ (nI 6 = 5) by decide), if_pos (show nI 6 = 6 ∨ nI 6 = 7 ∨ nI 6 = 8 by decide), if_neg (show ¬ ((6 : Nat) = 5 ∨ (6 : Nat) = 9 ∨ (6 : Nat) = 10 ∨ (6 : Nat) = 13) by decide), if_neg (show ¬ (6 : Nat) = 0 by decide), if_neg (show ¬ ((6 : Nat) = 5 ∨ (6 : Nat) = 9 ∨ (6 : Nat) = 10 ∨ (6 : Nat) = 13) by decide), if_neg (show ¬ ((6 : Nat) = 11 ∨ (6 : Nat) = 12) by decide), if_neg (show ¬ (6 : Nat) = 14 by decide), if_neg (show ¬ ((1 ≤ 6 ∧ 6 ≤ 4) ∨ (9 ≤ 6 ∧ 6 ≤ 13)) by decide), b116]
  · rw [if_neg (show ¬ (nI 7 = 0) by decide), if_neg (show ¬ (nI 7 = 1 ∨ nI 7 = 2 ∨ nI 7 = 3 ∨ nI 7 = 4) by decide), if_neg (show ¬ (nI 7 = 5) by decide), if_pos (show nI 7 = 6 ∨ nI 7 = 7 ∨ nI 7 = 8 by decide), if_neg (show ¬ ((7 : Nat) = 5 ∨ (7 : Nat) = 9 ∨ (7 : Nat) = 10 ∨ (7 : Nat) = 13) by decide), if_neg (show ¬ (7 : Nat) = 0 by decide), if_neg (show ¬ ((7 : Nat) = 5 ∨ (7 : Nat) = 9 ∨ (7 : Nat) = 10 ∨ (7 : Nat) = 13) by decide), if_neg (show ¬ ((7 : Nat) = 11 ∨ (7 : Nat) = 12) by decide), if_neg (show ¬ (7 : Nat) = 14 by decide), if_neg (show ¬ ((1 ≤ 7 ∧ 7 ≤ 4) ∨ (9 ≤ 7 ∧ 7 ≤ 13)) by decide), b116]
  · rw [if_neg (show ¬ (nI 8 = 0) by decide), if_neg (show ¬ (nI 8 = 1 ∨ nI 8 = 2 ∨ nI 8 = 3 ∨ nI 8 = 4) by decide), if_neg (show ¬ (nI 8 = 5) by decide), if_pos (show nI 8 = 6 ∨ nI 8 = 7 ∨ nI 8 = 8 by decide), if_neg (show ¬ ((8 : Nat) = 5 ∨ (8 : Nat) = 9 ∨ (8 : Nat) = 10 ∨ (8 : Nat) = 13) by decide), if_neg (show ¬ (8 : Nat) = 0 by decide), if_neg (show ¬ ((8 : Nat) = 5 ∨ (8 : Nat) = 9 ∨ (8 : Nat) = 10 ∨ (8 : Nat) = 13) by decide), if_neg (show ¬ ((8 : Nat) = 11 ∨ (8 : Nat) = 12) by decide), if_neg (show ¬ (8 : Nat) = 14 by decide), if_neg (show ¬ ((1 ≤ 8 ∧ 8 ≤ 4) ∨ (9 ≤ 8 ∧ 8 ≤ 13)) by decide), b116]
  · rw [if_neg (show ¬ (nI 9 = 0) by decide), if_neg (show ¬ (nI 9 = 1 ∨ nI 9 = 2 ∨ nI 9 = 3 ∨ nI 9 = 4) by decide), if_neg (show ¬ (nI 9 = 5) by decide), if_neg (show ¬ (nI 9 = 6 ∨ nI 9 = 7 ∨ nI 9 = 8) by decide), if_pos (show nI 9 = 9 ∨ nI 9 = 10 ∨ nI 9 = 13 by decide), if_pos (show ((9 : Nat) = 5 ∨ (9 : Nat) = 9 ∨ (9 : Nat) = 10 ∨ (9 : Nat) = 13) by decide), if_neg (show ¬ (9 : Nat) = 0 by decide), if_pos (show ((9 : Nat) = 5 ∨ (9 : Nat) = 9 ∨ (9 : Nat) = 10 ∨ (9 : Nat) = 13) by decide), if_pos (show ((1 ≤ 9 ∧ 9 ≤ 4) ∨ (9 ≤ 9 ∧ 9 ≤ 13)) by decide), b45]
    rw [if_neg (show ¬ (1 : Int32) = 0 by decide), e1]
  · rw [if_neg (show ¬ (nI 10 = 0) by decide), if_neg (show ¬ (nI 10 = 1 ∨ nI 10 = 2 ∨ nI 10 = 3 ∨ nI 10 = 4) by decide), if_neg (show ¬ (nI 10 = 5) by decide), if_neg (show ¬ (nI 10 = 6 ∨ nI 10 = 7 ∨ nI 10 = 8) by decide), if_pos (show nI 10 = 9 ∨ nI 10 = 10 ∨ nI 10 = 13 by decide), if_pos (show ((10 : Nat) = 5 ∨ (10 : Nat) = 9 ∨ (10 : Nat) = 10 ∨ (10 : Nat) = 13) by decide), if_neg (show ¬ (10 : Nat) = 0 by decide), if_pos (show ((10 : Nat) = 5 ∨ (10 : Nat) = 9 ∨ (10 : Nat) = 10 ∨ (10 : Nat) = 13) by decide), if_pos (show ((1 ≤ 10 ∧ 10 ≤ 4) ∨ (9 ≤ 10 ∧ 10 ≤ 13)) by decide), b45]
    rw [if_neg (show ¬ (1 : Int32) = 0 by decide), e1]
  · rw [if_neg (show ¬ (nI 11 = 0) by decide), if_neg (show ¬ (nI 11 = 1 ∨ nI 11 = 2 ∨ nI 11 = 3 ∨ nI 11 = 4) by decide), if_neg (show ¬ (nI 11 = 5) by decide), if_neg (show ¬ (nI 11 = 6 ∨ nI 11 = 7 ∨ nI 11 = 8) by decide), if_neg (show ¬ (nI 11 = 9 ∨ nI 11 = 10 ∨ nI 11 = 13) by decide), if_pos (show nI 11 = 11 ∨ nI 11 = 12 by decide), if_neg (show ¬ ((11 : Nat) = 5 ∨ (11 : Nat) = 9 ∨ (11 : Nat) = 10 ∨ (11 : Nat) = 13) by decide), if_neg (show ¬ (11 : Nat) = 0 by decide), if_neg (show ¬ ((11 : Nat) = 5 ∨ (11 : Nat) = 9 ∨ (11 : Nat) = 10 ∨ (11 : Nat) = 13) by decide), if_pos (show (11 : Nat) = 11 ∨ (11 : Nat) = 12 by decide), if_pos (show ((1 ≤ 11 ∧ 11 ≤ 4) ∨ (9 ≤ 11 ∧ 11 ≤ 13)) by decide), b111]
    rw [e1]
    by_cases c : e_in x3 P = 0
    · rw [if_pos c, if_pos c, if_pos rfl]
    · rw [if_neg c, if_neg c]
      by_cases c2 : x2 = x3
      · rw [if_pos c2, if_pos c2, if_pos rfl]
      · rw [if_neg c2, if_neg c2, if_neg (show ¬ (1 : Int32) = 0 by decide)]
  · rw [if_neg (show ¬ (nI 12 = 0) by decide), if_neg (show ¬ (nI 12 = 1 ∨ nI 12 = 2 ∨ nI 12 = 3 ∨ nI 12 = 4) by decide), if_neg (show ¬ (nI 12 = 5) by decide), if_neg (show ¬ (nI 12 = 6 ∨ nI 12 = 7 ∨ nI 12 = 8) by decide), if_neg (show ¬ (nI 12 = 9 ∨ nI 12 = 10 ∨ nI 12 = 13) by decide), if_pos (show nI 12 = 11 ∨ nI 12 = 12 by decide), if_neg (show ¬ ((12 : Nat) = 5 ∨ (12 : Nat) = 9 ∨ (12 : Nat) = 10 ∨ (12 : Nat) = 13) by decide), if_neg (show ¬ (12 : Nat) = 0 by decide), if_neg (show ¬ ((12 : Nat) = 5 ∨ (12 : Nat) = 9 ∨ (12 : Nat) = 10 ∨ (12 : Nat) = 13) by decide), if_pos (show (12 : Nat) = 11 ∨ (12 : Nat) = 12 by decide), if_pos (show ((1 ≤ 12 ∧ 12 ≤ 4) ∨ (9 ≤ 12 ∧ 12 ≤ 13)) by decide), b111]
    rw [e1]
    by_cases c : e_in x3 P = 0
    · rw [if_pos c, if_pos c, if_pos rfl]
    · rw [if_neg c, if_neg c]
      by_cases c2 : x2 = x3
      · rw [if_pos c2, if_pos c2, if_pos rfl]
      · rw [if_neg c2, if_neg c2, if_neg (show ¬ (1 : Int32) = 0 by decide)]
  · rw [if_neg (show ¬ (nI 13 = 0) by decide), if_neg (show ¬ (nI 13 = 1 ∨ nI 13 = 2 ∨ nI 13 = 3 ∨ nI 13 = 4) by decide), if_neg (show ¬ (nI 13 = 5) by decide), if_neg (show ¬ (nI 13 = 6 ∨ nI 13 = 7 ∨ nI 13 = 8) by decide), if_pos (show nI 13 = 9 ∨ nI 13 = 10 ∨ nI 13 = 13 by decide), if_pos (show ((13 : Nat) = 5 ∨ (13 : Nat) = 9 ∨ (13 : Nat) = 10 ∨ (13 : Nat) = 13) by decide), if_neg (show ¬ (13 : Nat) = 0 by decide), if_pos (show ((13 : Nat) = 5 ∨ (13 : Nat) = 9 ∨ (13 : Nat) = 10 ∨ (13 : Nat) = 13) by decide), if_pos (show ((1 ≤ 13 ∧ 13 ≤ 4) ∨ (9 ≤ 13 ∧ 13 ≤ 13)) by decide), b45]
    rw [if_neg (show ¬ (1 : Int32) = 0 by decide), e1]
  · rw [if_neg (show ¬ (nI 14 = 0) by decide), if_neg (show ¬ (nI 14 = 1 ∨ nI 14 = 2 ∨ nI 14 = 3 ∨ nI 14 = 4) by decide), if_neg (show ¬ (nI 14 = 5) by decide), if_neg (show ¬ (nI 14 = 6 ∨ nI 14 = 7 ∨ nI 14 = 8) by decide), if_neg (show ¬ (nI 14 = 9 ∨ nI 14 = 10 ∨ nI 14 = 13) by decide), if_neg (show ¬ (nI 14 = 11 ∨ nI 14 = 12) by decide), if_pos (show nI 14 = 14 by decide), if_neg (show ¬ ((14 : Nat) = 5 ∨ (14 : Nat) = 9 ∨ (14 : Nat) = 10 ∨ (14 : Nat) = 13) by decide), if_neg (show ¬ (14 : Nat) = 0 by decide), if_neg (show ¬ ((14 : Nat) = 5 ∨ (14 : Nat) = 9 ∨ (14 : Nat) = 10 ∨ (14 : Nat) = 13) by decide), if_neg (show ¬ ((14 : Nat) = 11 ∨ (14 : Nat) = 12) by decide), if_pos (show (14 : Nat) = 14 by decide), if_neg (show ¬ ((1 ≤ 14 ∧ 14 ≤ 4) ∨ (9 ≤ 14 ∧ 14 ≤ 13)) by decide), b119]
theorem n_ft_no {P D : Nat} {x1 x2 x3 x4 : Int32} (h : ¬ ∃ k, k < 15 ∧ x1 = nI k) : n_ft P D x1 x2 x3 x4 = 0 := by
  have n : ∀ k, k < 15 → x1 ≠ nI k := fun k hk e => h ⟨k, hk, e⟩
  unfold n_ft
  rw [if_neg (show ¬ x1 = 0 from n 0 (by omega)), if_neg (show ¬ (x1 = 1 ∨ x1 = 2 ∨ x1 = 3 ∨ x1 = 4) from by rintro (q | q | q | q); exact n 1 (by omega) q; exact n 2 (by omega) q; exact n 3 (by omega) q; exact n 4 (by omega) q), if_neg (show ¬ x1 = 5 from n 5 (by omega)), if_neg (show ¬ (x1 = 6 ∨ x1 = 7 ∨ x1 = 8) from by rintro (q | q | q); exact n 6 (by omega) q; exact n 7 (by omega) q; exact n 8 (by omega) q), if_neg (show ¬ (x1 = 9 ∨ x1 = 10 ∨ x1 = 13) from by rintro (q | q | q); exact n 9 (by omega) q; exact n 10 (by omega) q; exact n 13 (by omega) q), if_neg (show ¬ (x1 = 11 ∨ x1 = 12) from by rintro (q | q); exact n 11 (by omega) q; exact n 12 (by omega) q), if_neg (show ¬ x1 = 14 from n 14 (by omega))]
theorem h_chA0 : ∀ kd, kd < 15 → f_J0_charAt_5068e 0 (nI kd) = some (if kd = 5 ∨ kd = 9 ∨ kd = 10 ∨ kd = 13 then 100 else 112) := by decide +kernel
theorem b_wt {C : k_C} {M : m_M} {x1 x2 x3 x4 x5 : Int32} (hV : k_V C) (hA : k_A C 1 M) : f_X3_isWellTold 1 x1 x2 x3 x4 x5 M = some (if n_dy C x1 = 0 then 0 else n_ft (k_P C) (h_D (k_r C) (k_N C)) x2 x3 x4 x5) := by
  have hP := hV.1.1
  have hN := hV.1.2.1
  have hlast : f_X3_lastDay 1 M = some (n_first C) := by
    unfold f_X3_lastDay n_first
    rw [hA.2.1]
    by_cases c : k_N C = 0
    · rw [if_pos (by rw [c]; rfl), if_pos c]
    · have c' : ¬ nI (k_N C) = 0 := fun q => c ((nI_eq (b := 0) (by omega) (by omega)).mp q)
      obtain ⟨m, hm⟩ : ∃ m, k_N C = m + 1 := ⟨k_N C - 1, by omega⟩
      rw [if_neg c', if_neg c]
      have hr := hA.2.2.2.2.2.1 (6 * m) (by omega)
      rw [hm, nI_pred, q_x6, q_p0]
      unfold m_gd
      rw [if_pos (q_in (by omega) (by decide)), q_cl (by omega), Nat.add_sub_cancel]
      exact congrArg some hr
  unfold f_X3_isWellTold
  simp only [m_bd]
  rw [e_day7, hlast, ← n_dy_e hV]
  show (if e_in x1 1000 = 0 then some 0 else if x1 < n_first C then some 0 else _) = _
  by_cases c1 : e_in x1 1000 = 0
  · rw [if_pos c1, if_pos c1, if_pos rfl]
  rw [if_neg c1, if_neg c1]
  by_cases c2 : x1 < n_first C
  · rw [if_pos c2, if_pos c2, if_pos rfl]
  rw [if_neg c2, if_neg c2, if_neg (show ¬ (1 : Int32) = 0 by decide)]
  by_cases c3 : x2 < 0
  · rw [if_pos c3, n_ft_no]
    rintro ⟨k, hk, rfl⟩
    exact nI_pos (by omega) c3
  rw [if_neg c3]
  obtain ⟨k, hk, rfl⟩ := nI_of c3
  by_cases c4 : k < 15
  · have l15 : nI k < (15 : Int32) := (q_lt (b := 15) hk (by decide)).mpr c4
    rw [if_pos l15, h_chA0 k c4, n_ft_k c4]
    have b54 : ∀ s1, f_X3_isWellTold_b54 1 x1 (nI k) x3 x4 x5 M x3 s1 = if x3 < s1 then (if n_bb (k_P C) (n_cb k) x3 x4 = 0 then some 0 else some (n_vv k x5)) else some 0 := by
      intro s1
      unfold f_X3_isWellTold_b54
      rw [h_chB k c4, h_chV k c4]
      by_cases c : x3 < s1
      · rw [if_pos c, if_pos c]
        show (if f_X3_isWellToldB 1 (n_cb k) x3 x4 M = 0 then some 0 else _) = _
        rw [b_wb (by omega) hA.1]
        by_cases d : n_bb (k_P C) (n_cb k) x3 x4 = 0
        · rw [if_pos d, if_pos d]
        · rw [if_neg d, if_neg d]
          unfold n_vv
          by_cases v : (1 ≤ k ∧ k ≤ 4) ∨ (9 ≤ k ∧ k ≤ 13)
          · rw [if_pos v, if_pos v]
            show (if (115 : Int32) = 45 then some 1 else if x5 < 1 then some 0 else if (1000 : Int32) < x5 then some 0 else some 1) = _
            rw [if_neg (by decide)]
            unfold n_sm
            by_cases w : x5 < 1
            · rw [if_pos w, if_pos w]
            · rw [if_neg w, if_neg w]
              by_cases w2 : (1000 : Int32) < x5
              · rw [if_pos w2, if_pos w2]
              · rw [if_neg w2, if_neg w2]
          · rw [if_neg v, if_neg v]
            rfl
      · rw [if_neg c, if_neg c]
    show (if x3 < 0 then some 0 else if (if k = 5 ∨ k = 9 ∨ k = 10 ∨ k = 13 then (100 : Int32) else 112) = 100 then f_X3_isWellTold_b54 1 x1 (nI k) x3 x4 x5 M x3 (M.1 1 2) else f_X3_isWellTold_b54 1 x1 (nI k) x3 x4 x5 M x3 (M.1 1 0)) = _
    rw [b54, b54, hA.1, hA.2.2.1]
    unfold n_fk
    by_cases d : k = 5 ∨ k = 9 ∨ k = 10 ∨ k = 13
    · rw [if_pos d, if_pos d, if_pos rfl, n_ca]
      by_cases e : e_in x3 (h_D (k_r C) (k_N C)) = 0
      · rw [if_pos e, if_pos e]
      · rw [if_neg e, if_neg e]
        by_cases f : n_bb (k_P C) (n_cb k) x3 x4 = 0
        · rw [if_pos f, if_pos f]
        · rw [if_neg f, if_neg f]
    · rw [if_neg d, if_neg d, if_neg (show ¬ (112 : Int32) = 100 by decide), n_ca]
      by_cases e : e_in x3 (k_P C) = 0
      · rw [if_pos e, if_pos e]
      · rw [if_neg e, if_neg e]
        by_cases f : n_bb (k_P C) (n_cb k) x3 x4 = 0
        · rw [if_pos f, if_pos f]
        · rw [if_neg f, if_neg f]
  · have l15 : ¬ nI k < (15 : Int32) := fun q => c4 ((q_lt (b := 15) hk (by decide)).mp q)
    rw [if_neg l15, n_ft_no]
    rintro ⟨k', hk', e⟩
    have := (nI_eq hk (by omega)).mp e
    omega
