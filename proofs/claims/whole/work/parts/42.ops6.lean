/-! CALLS: type -/
theorem y_by1 (x : Int64) (c : Int64) (s : Nat) (hc : (c.toBitVec.smod 64).toNat = s) : (x >>> c).toInt = x.toInt / (2 ^ s : Nat) := by
  show (x.toBitVec.sshiftRight (c.toBitVec.smod 64).toNat).toInt = _
  rw [hc, BitVec.toInt_sshiftRight, Int.shiftRight_eq_div_pow]
  rfl
theorem y_by2 (z : Int64) : (z.toInt32 &&& 255) = nI (z.toBitVec.toNat % 256) := by
  rw [pk_and _ 8 (by decide)]
  congr 1
  rw [Int64.toBitVec_toInt32, BitVec.signExtend_eq_setWidth_of_le _ (by decide), BitVec.toNat_setWidth]
  omega
theorem y_by3 (z : Int64) : (z &&& 255).toInt32 = nI (z.toBitVec.toNat % 256) := by
  apply Int32.toBitVec_inj.mp
  apply BitVec.eq_of_toNat_eq
  rw [pk_tn (by omega), Int64.toBitVec_toInt32, BitVec.signExtend_eq_setWidth_of_le _ (by decide), BitVec.toNat_setWidth, Int64.toBitVec_and, BitVec.toNat_and, show (255 : Int64).toBitVec.toNat = 2 ^ 8 - 1 by decide, Nat.and_two_pow_sub_one_eq_mod]
  omega
theorem y_by4 (x : Int64) (c : UInt64) (s : Nat) (hc : (c.toBitVec % 64).toNat = s) : ((x.toUInt64 >>> c).toInt64).toBitVec.toNat = x.toBitVec.toNat / 2 ^ s := by
  show (x.toBitVec >>> (c.toBitVec % 64).toNat).toNat = _
  rw [hc, BitVec.toNat_ushiftRight, Nat.shiftRight_eq_div_pow]
theorem y_by5 (z : Int64) : (z.toBitVec.toNat : Int) = if 0 ≤ z.toInt then z.toInt else z.toInt + 18446744073709551616 := by
  have h : z.toInt = z.toBitVec.toInt := rfl
  have h2 := BitVec.toInt_eq_toNat_cond z.toBitVec
  have h3 := z.toBitVec.isLt
  rw [h]
  by_cases c : 2 * z.toBitVec.toNat < 2 ^ 64
  · rw [if_pos c] at h2
    rw [if_pos (by omega)]
    omega
  · rw [if_neg c] at h2
    rw [if_neg (by omega)]
    omega
theorem y_byk (x : Int64) (c : Int64) (d : UInt64) (s : Nat) (hs : s = 0 ∨ s = 8 ∨ s = 16 ∨ s = 24 ∨ s = 32 ∨ s = 40 ∨ s = 48 ∨ s = 56) (hc : (c.toBitVec.smod 64).toNat = s) (hd : (d.toBitVec % 64).toNat = s) : ((x >>> c).toInt32 &&& 255) = nI (x.toBitVec.toNat / 2 ^ s % 256) ∧ ((((x.toUInt64 >>> d).toInt64) &&& 255).toInt32) = nI (x.toBitVec.toNat / 2 ^ s % 256) := by
  rw [y_by2, y_by3, y_by4 x d s hd]
  refine ⟨congrArg nI ?_, rfl⟩
  have h1 := y_by1 x c s hc
  have h2 := y_by5 x
  have h3 := y_by5 (x >>> c)
  have hx := x.toBitVec.isLt
  have hx2 := (x >>> c).toBitVec.isLt
  generalize (x >>> c).toBitVec.toNat = Y at *
  generalize x.toBitVec.toNat = X at *
  generalize (x >>> c).toInt = y at *
  generalize x.toInt = z at *
  rcases hs with q | q | q | q | q | q | q | q <;> subst q <;> (split at h2 <;> split at h3 <;> omega)
theorem y_byte (x : Int64) {k : Nat} (hk : k < 8) : ∃ c, c < 256 ∧ ((x >>> (((8 : Int32) * nI k).toInt64 &&& 63)).toInt32 &&& (255 : Int32)) = nI c ∧ ((((x.toUInt64 >>> (((8 : Int32) * nI k).toInt64.toUInt64 &&& Int64.toUInt64 63)).toInt64) &&& (255 : Int64)).toInt32) = nI c := by
  have hs : k = 0 ∨ k = 1 ∨ k = 2 ∨ k = 3 ∨ k = 4 ∨ k = 5 ∨ k = 6 ∨ k = 7 := by omega
  rcases hs with q | q | q | q | q | q | q | q <;> subst q
  · exact ⟨_, Nat.mod_lt _ (by decide), y_byk x _ _ 0 (by omega) (by decide +kernel) (by decide +kernel)⟩
  · exact ⟨_, Nat.mod_lt _ (by decide), y_byk x _ _ 8 (by omega) (by decide +kernel) (by decide +kernel)⟩
  · exact ⟨_, Nat.mod_lt _ (by decide), y_byk x _ _ 16 (by omega) (by decide +kernel) (by decide +kernel)⟩
  · exact ⟨_, Nat.mod_lt _ (by decide), y_byk x _ _ 24 (by omega) (by decide +kernel) (by decide +kernel)⟩
  · exact ⟨_, Nat.mod_lt _ (by decide), y_byk x _ _ 32 (by omega) (by decide +kernel) (by decide +kernel)⟩
  · exact ⟨_, Nat.mod_lt _ (by decide), y_byk x _ _ 40 (by omega) (by decide +kernel) (by decide +kernel)⟩
  · exact ⟨_, Nat.mod_lt _ (by decide), y_byk x _ _ 48 (by omega) (by decide +kernel) (by decide +kernel)⟩
  · exact ⟨_, Nat.mod_lt _ (by decide), y_byk x _ _ 56 (by omega) (by decide +kernel) (by decide +kernel)⟩
/-- the bytes of x from place c down, as they come -/
def y_bv (x : Int64) (k : Nat) : Int32 := ((x >>> (((8 : Int32) * nI k).toInt64 &&& 63)).toInt32 &&& (255 : Int32))
theorem b_ty {n : Nat} {x : Int64} {x3 : Int32} : ∀ (c u T : Nat) (M : m_M), c ≤ 8 → c < u → T + c ≤ 300 → M.1 168 1 = nI T → q_T (f_X7_type_b37 n x x3 u (nI c + (-1)) M) (fun a => a.1 = nI (T + c) ∧ a.2.1 168 1 = nI (T + c) ∧ (∀ j, j < T → a.2.1 169 j = M.1 169 j) ∧ (∀ i, i < c → a.2.1 169 (T + i) = y_bv x (c - 1 - i)) ∧ a.2.2 = M.2 ∧ ∀ i j, ¬ (i = 168 ∧ j = 1) → i ≠ 169 → a.2.1 i j = M.1 i j) := by
  intro c
  induction c with
  | zero =>
    intro u T M hc hu hT hM
    obtain ⟨u, rfl⟩ : ∃ v, u = v + 1 := ⟨u - 1, by omega⟩
    rw [f_X7_type_b37]
    exact q_it (by decide) (q_some ⟨hM, hM, fun _ _ => rfl, fun i hi => absurd hi (Nat.not_lt_zero _), rfl, fun _ _ _ _ => rfl⟩)
  | succ c ih =>
    intro u T M hc hu hT hM
    obtain ⟨u, rfl⟩ : ∃ v, u = v + 1 := ⟨u - 1, by omega⟩
    have l3 : nI T < (300 : Int32) := (q_lt (b := 300) (by omega) (by decide)).mpr (by omega)
    rw [q_dec, f_X7_type_b37]
    refine q_if (nI_pos (by omega)) ?_
    unfold f_X2_add
    rw [hM, if_pos l3]
    refine q_ob (q_gd (q_in (by omega) (by decide)) (q_bd (q_bd (q_some ?_))))
    rw [q_cl (by omega)]
    have e1 : (m_sI M 169 T (y_bv x c)).1 168 1 = nI T := by rw [q_r, if_neg (by omega), hM]
    show q_T (f_X7_type_b37 n x x3 u (nI c + (-1)) (m_sI (m_sI M 169 T (y_bv x c)) 168 1 ((m_sI M 169 T (y_bv x c)).1 168 1 + 1))) _
    rw [e1, q_up]
    refine q_mono (ih u (T + 1) _ (by omega) (by omega) (by omega) (by rw [q_r, if_pos ⟨rfl, rfl⟩])) (fun a ha => ?_)
    obtain ⟨a1, a2, a3, a4, a5, a6⟩ := ha
    refine ⟨by rw [a1]; congr 1; omega, by rw [a2]; congr 1; omega, fun j hj => ?_, fun i hi => ?_, a5.trans rfl, fun i j p q => ?_⟩
    · rw [a3 j (by omega), q_r, if_neg (by omega), q_r, if_neg (by omega)]
    · by_cases z : i = 0
      · subst z
        rw [Nat.add_zero, a3 T (by omega), q_r, if_neg (by omega), q_r, if_pos ⟨rfl, rfl⟩]
        rfl
      · have := a4 (i - 1) (by omega)
        rw [show T + 1 + (i - 1) = T + i by omega, show c - 1 - (i - 1) = c + 1 - 1 - i by omega] at this
        exact this
    · rw [a6 i j p q, q_r, if_neg p, q_r, if_neg (by omega)]
theorem a_ty {n : Nat} {x : Int64} {x3 : Int32} : ∀ (c u T : Nat) (M : m_M), c ≤ 8 → c < u → T + c ≤ 300 → M.1 172 4 = nI T → q_T (f_X8_type_b35 n x x3 u (nI c + (-1)) M) (fun a => a.1 = nI (T + c) ∧ a.2.1 172 4 = nI (T + c) ∧ (∀ j, j < T → a.2.1 176 j = M.1 176 j) ∧ (∀ i, i < c → a.2.1 176 (T + i) = y_bv x (c - 1 - i)) ∧ a.2.2 = M.2 ∧ ∀ i j, ¬ (i = 172 ∧ j = 4) → i ≠ 176 → a.2.1 i j = M.1 i j) := by
  intro c
  induction c with
  | zero =>
    intro u T M hc hu hT hM
    obtain ⟨u, rfl⟩ : ∃ v, u = v + 1 := ⟨u - 1, by omega⟩
    rw [f_X8_type_b35]
    exact q_it (by decide) (q_some ⟨hM, hM, fun _ _ => rfl, fun i hi => absurd hi (Nat.not_lt_zero _), rfl, fun _ _ _ _ => rfl⟩)
  | succ c ih =>
    intro u T M hc hu hT hM
    obtain ⟨u, rfl⟩ : ∃ v, u = v + 1 := ⟨u - 1, by omega⟩
    obtain ⟨z, z1, z2, z3⟩ := y_byte x (show c < 8 by omega)
    rw [q_dec, f_X8_type_b35]
    refine q_if (nI_pos (by omega)) ?_
    rw [hM, z3, ← z2]
    refine q_gd (q_in (by omega) (by decide)) (q_bd (q_bd ?_))
    rw [q_cl (by omega)]
    have e1 : (m_sI M 176 T (y_bv x c)).1 172 4 = nI T := by rw [q_r, if_neg (by omega), hM]
    show q_T (f_X8_type_b35 n x x3 u (nI c + (-1)) (m_sI (m_sI M 176 T (y_bv x c)) 172 4 ((m_sI M 176 T (y_bv x c)).1 172 4 + 1))) _
    rw [e1, q_up]
    refine q_mono (ih u (T + 1) _ (by omega) (by omega) (by omega) (by rw [q_r, if_pos ⟨rfl, rfl⟩])) (fun a ha => ?_)
    obtain ⟨a1, a2, a3, a4, a5, a6⟩ := ha
    refine ⟨by rw [a1]; congr 1; omega, by rw [a2]; congr 1; omega, fun j hj => ?_, fun i hi => ?_, a5.trans rfl, fun i j p q => ?_⟩
    · rw [a3 j (by omega), q_r, if_neg (by omega), q_r, if_neg (by omega)]
    · by_cases z : i = 0
      · subst z
        rw [Nat.add_zero, a3 T (by omega), q_r, if_neg (by omega), q_r, if_pos ⟨rfl, rfl⟩]
        rfl
      · have := a4 (i - 1) (by omega)
        rw [show T + 1 + (i - 1) = T + i by omega, show c - 1 - (i - 1) = c + 1 - 1 - i by omega] at this
        exact this
    · rw [a6 i j p q, q_r, if_neg p, q_r, if_neg (by omega)]
theorem z_type {n : Nat} {x : Int64} {x3 : Int32} {M : m_M} (hn : 200 < n) (h : k_Inv M) : q_T (f_X7_type n x x3 M) (fun a => z_eq a (f_X8_type n x x3 a.2)) := by
  obtain ⟨C, C0, C1, hM⟩ := h
  obtain ⟨T, t0, t1, t2, t3⟩ := hM.2.2.1
  have e8 : f_X8_isIn x3.toInt64 1 8 = if x3 < 1 then 0 else if (8 : Int32) < x3 then 0 else 1 := e_rg (by decide +kernel) (by decide +kernel)
  unfold f_X7_type
  refine q_ite (fun c => q_some ?_) (fun c1 => q_ite (fun c2 => ?_) (fun c => q_some ?_))
  · unfold z_eq f_X8_type
    refine q_bd ?_
    rw [e8, if_pos c]
    exact q_it rfl (q_some ⟨rfl, C, C0, C1, hM⟩)
  · have hx : ∃ c, 1 ≤ c ∧ c ≤ 8 ∧ x3 = nI c := by
      have h1 : ¬ x3.toInt < 1 := fun q => c1 (Int32.lt_iff_toInt_lt.mpr q)
      have h2 : x3.toInt ≤ 8 := Int32.le_iff_toInt_le.mp c2
      obtain ⟨j, hj, rfl⟩ := nI_of (x := x3) (by rw [q_il0]; omega)
      rw [nI_toInt hj] at h1 h2
      exact ⟨j, by omega, by omega, rfl⟩
    obtain ⟨c, hc1, hc2, rfl⟩ := hx
    have c8 : ¬ (8 : Int32) < nI c := Int32.not_lt.mpr c2
    have hle : nI T + nI c ≤ (300 : Int32) ↔ T + c ≤ 300 := by
      rw [q_add]
      exact q_le (b := 300) (by omega) (by decide)
    have hsub : nI c - 1 = nI c + (-1) := Int32.sub_eq_add_neg _ _
    rw [t1]
    refine q_ite (fun c3 => ?_) (fun c3 => q_some ?_)
    · have hT := hle.mp c3
      rw [hsub]
      refine q_mono (b_ty (n := n) c n T M (by omega) (by omega) hT t1) (fun a ha => ?_)
      obtain ⟨a1, a2, a3, a4, a5, a6⟩ := ha
      have a172 : a.2.1 172 4 = nI T := (a6 172 4 (by omega) (by omega)).trans t2
      unfold z_eq f_X8_type
      refine q_bd ?_
      rw [e8, if_neg c1, if_neg c8]
      refine q_if (by decide) ?_
      rw [a172]
      refine q_it (hle.mpr hT) ?_
      rw [hsub]
      refine q_mono (a_ty (n := n) c n T a.2 (by omega) (by omega) hT a172) (fun b hb => ?_)
      obtain ⟨b1, b2, b3, b4, b5, b6⟩ := hb
      refine ⟨a1.trans b1.symm, C, C0, C1, k_M_tx hM (fun i j q => (b6 i j (by omega) (by omega)).trans (a6 i j (by omega) (by omega))) (b5.trans a5) ⟨T + c, hT, (b6 168 1 (by omega) (by omega)).trans a2, b2, fun j hj => ?_⟩⟩
      by_cases q : j < T
      · rw [b6 169 j (by omega) (by omega), a3 j q, b3 j q, a6 176 j (by omega) (by omega)]
        exact t3 j q
      · have p := a4 (j - T) (by omega)
        have p' := b4 (j - T) (by omega)
        rw [show T + (j - T) = j by omega] at p p'
        rw [b6 169 j (by omega) (by omega), p, p']
        obtain ⟨z, z1, z2, z3⟩ := y_byte x (show c - 1 - (j - T) < 8 by omega)
        exact ⟨rfl, z, z1, z2⟩
    · unfold z_eq f_X8_type
      refine q_bd ?_
      rw [e8, if_neg c1, if_neg c8]
      refine q_if (by decide) ?_
      rw [t2]
      exact q_if c3 (q_some ⟨rfl, C, C0, C1, hM⟩)
  · unfold z_eq f_X8_type
    refine q_bd ?_
    rw [e8, if_neg c1, if_pos (Int32.not_le.mp c)]
    exact q_it rfl (q_some ⟨rfl, C, C0, C1, hM⟩)
/-! line -/
theorem b_li {n : Nat} {C : k_C} {M : m_M} {x1 : Int32} (hV : k_V C) (hA : k_A C 1 M) : ∀ (e x u : Nat), x + e = k_n C → e < u → (∀ j, j < x → k_l C j ≠ x1) → ((∃ j, j < k_n C ∧ k_l C j = x1) ∧ f_X7_line_b13 n x1 u (nI x) M = some (-3, M)) ∨ (∀ j, j < k_n C → k_l C j ≠ x1) ∧ f_X7_line_b13 n x1 u (nI x) M = if k_n C < 6 then some (nI (k_n C + 1), m_sI (m_sI M 3 (k_n C) x1) 1 4 (nI (k_n C + 1))) else some (-4, M) := by
  have hn6 : k_n C ≤ 6 := hV.1.2.2.1
  have h4 := hA.2.2.2.2.1
  have hl := hA.2.2.2.2.2.2.1
  intro e
  induction e with
  | zero =>
    intro x u hx hu hj
    obtain ⟨u, rfl⟩ : ∃ v, u = v + 1 := ⟨u - 1, by omega⟩
    refine Or.inr ⟨fun j q => hj j (by omega), ?_⟩
    have l6 : nI (k_n C) < (6 : Int32) ↔ k_n C < 6 := q_lt (b := 6) (by omega) (by decide)
    rw [f_X7_line_b13, h4, if_pos ((q_le (by omega) (by omega)).mpr (by omega))]
    by_cases c : k_n C < 6
    · rw [if_pos (l6.mpr c), if_pos c]
      unfold m_gd m_bd
      rw [if_pos (q_in c (by decide)), q_cl (by omega)]
      have e1 : (m_sI M (1 + 2) (k_n C) x1).1 1 4 = nI (k_n C) := by rw [q_r, if_neg (by omega), h4]
      simp only []
      rw [e1, q_up, q_r, if_pos ⟨rfl, rfl⟩]
    · rw [if_neg (fun q => c (l6.mp q)), if_neg c]
  | succ e ih =>
    intro x u hx hu hj
    obtain ⟨u, rfl⟩ : ∃ v, u = v + 1 := ⟨u - 1, by omega⟩
    have hlx : M.1 (1 + 2) x = k_l C x := hl x (by omega)
    rw [f_X7_line_b13, h4, if_neg (fun q => absurd ((q_le (by omega) (by omega)).mp q) (by omega))]
    unfold m_gd
    rw [if_pos (q_in (by omega) (by decide)), q_cl (by omega), hlx, q_up]
    by_cases c : k_l C x = x1
    · rw [if_pos c]
      exact Or.inl ⟨⟨x, by omega, c⟩, rfl⟩
    · rw [if_neg c]
      refine ih (x + 1) u (by omega) (by omega) (fun j q => ?_)
      by_cases z : j = x
      · subst z
        exact c
      · exact hj j (by omega)
theorem a_li {n : Nat} {C : k_C} {M : m_M} {x1 : Int32} (hV : k_V C) (hE : k_E C 173 0 M) : ∀ (e x u : Nat), x + e = k_n C → e < u → (∀ j, j < x → k_l C j ≠ x1) → ((∃ j, j < k_n C ∧ k_l C j = x1) ∧ f_X8_line_b26 n x1 u (nI x) M = some (-3, M)) ∨ (∀ j, j < k_n C → k_l C j ≠ x1) ∧ f_X8_line_b26 n x1 u (nI x) M = if k_n C < 6 then some (nI (k_n C + 1), m_sI (m_sI M 173 (462 + k_n C) x1) 173 470 (nI (k_n C + 1))) else some (-4, M) := by
  have hn6 : k_n C ≤ 6 := hV.1.2.2.1
  have h4 : M.1 173 470 = nI (k_n C) := hE.2.2.1
  have hl := hE.2.2.2.2.1
  have e462 : ∀ x : Nat, (462 : Int32) + nI x = nI (462 + x) := fun x => q_add 462 x
  intro e
  induction e with
  | zero =>
    intro x u hx hu hj
    obtain ⟨u, rfl⟩ : ∃ v, u = v + 1 := ⟨u - 1, by omega⟩
    refine Or.inr ⟨fun j q => hj j (by omega), ?_⟩
    have l6 : nI (k_n C) = (6 : Int32) ↔ k_n C = 6 := nI_eq (b := 6) (by omega) (by decide)
    rw [f_X8_line_b26]
    unfold f_X8_lined m_bd
    simp only []
    rw [h4, if_pos ((q_le (by omega) (by omega)).mpr (by omega))]
    by_cases c : k_n C < 6
    · rw [if_neg (fun q => absurd (l6.mp q) (by omega)), if_pos c, e462]
      unfold m_gd
      rw [if_pos (q_in (by omega) (by decide)), q_cl (by omega)]
      have e1 : (m_sI M 173 (462 + k_n C) x1).1 173 470 = nI (k_n C) := by rw [q_r, if_neg (by omega), h4]
      rw [e1, q_up, q_r, if_pos ⟨rfl, rfl⟩]
    · rw [if_pos (l6.mpr (by omega)), if_neg c]
  | succ e ih =>
    intro x u hx hu hj
    obtain ⟨u, rfl⟩ : ∃ v, u = v + 1 := ⟨u - 1, by omega⟩
    have hlx : M.1 173 (462 + x) = k_l C x := by
      have := hl x (by omega)
      rw [Nat.zero_add] at this
      exact this
    rw [f_X8_line_b26]
    unfold f_X8_lined m_bd
    simp only []
    rw [h4, if_neg (fun q => absurd ((q_le (by omega) (by omega)).mp q) (by omega)), e462]
    unfold m_gd
    rw [if_pos (q_in (by omega) (by decide)), q_cl (by omega), hlx, q_up]
    by_cases c : k_l C x = x1
    · rw [if_pos c]
      exact Or.inl ⟨⟨x, by omega, c⟩, rfl⟩
    · rw [if_neg c]
      refine ih (x + 1) u (by omega) (by omega) (fun j q => ?_)
      by_cases z : j = x
      · subst z
        exact c
      · exact hj j (by omega)
theorem z_line {n : Nat} {x1 : Int32} {M : m_M} (hn : 200 < n) (h : k_Inv M) : q_T (f_X7_line n x1 M) (fun a => z_eq a (f_X8_line n x1 a.2)) := by
  obtain ⟨C, C0, C1, hM⟩ := h
  obtain ⟨⟨hV, hA, hE⟩, hI⟩ := id hM
  have hDN := k_D60 hV (Nat.le_refl (k_N C))
  have hn6 : k_n C ≤ 6 := hV.1.2.2.1
  obtain ⟨K, hK⟩ := k_isday hV 999
  -- what the reference does, from any memory with its side whole
  have ref : ∀ (M' : m_M) (r : Int32) (Q : Int32 × m_M → Prop), k_E C 173 0 M' → (∀ M2 : m_M, k_E C 173 0 M2 → (∀ i j, ¬ w_53 i j → ¬ (i = 172 ∧ j = 24) → M2.1 i j = M'.1 i j) → (∀ i j, M2.2 i j = M'.2 i j) → q_T (if e_in x1 (h_D (k_r C) (k_N C)) = 0 then some ((-2 : Int32), M2) else f_X8_line_b26 n x1 n 0 M2) Q) → q_T (f_X8_line n x1 M') Q := by
    intro M' r Q hE' hQ
    unfold f_X8_line
    refine q_bd ?_
    have e24 : ∀ i j, ¬ (i = 172 ∧ j = 24) → (m_sI M' 172 24 31).1 i j = M'.1 i j := fun i j q => by rw [q_r, if_neg q]
    have hE1 : k_E C 173 0 (m_sI M' 172 24 31) := k_E_f2 hE' hV.1.2.1 hn6 (k_ht hV) (fun j _ _ => e24 _ _ (by omega))
    refine q_ob (q_mono (q_TH (k_layDay (n := n) hn hV hE1 (by rw [q_r, if_pos ⟨rfl, rfl⟩]) hK) (g_X8_layDay n 999 _)) (fun M2 h2 => q_bd ?_))
    rw [e_dl8 (by omega) h2.1.2.1]
    exact hQ M2 (k_E_f2 hE1 hV.1.2.1 hn6 (k_ht hV) (fun j _ _ => h2.2.1 _ _ (by unfold w_53; omega))) (fun i j p q => (h2.2.1 i j p).trans (e24 i j q)) (fun i j => h2.2.2 i j (by unfold w_1; omega))
  have same : ∀ r : Int32, (∀ M2 : m_M, k_E C 173 0 M2 → (if e_in x1 (h_D (k_r C) (k_N C)) = 0 then some ((-2 : Int32), M2) else f_X8_line_b26 n x1 n 0 M2) = some (r, M2)) → z_eq (r, M) (f_X8_line n x1 M) := by
    intro r hr
    refine ref M r _ hE (fun M2 h2 e1 e2 => ?_)
    rw [hr M2 h2]
    exact q_some ⟨rfl, C, C0, C1, k_M_fr2 hM ⟨fun i j q => e1 i j (by unfold w_53; omega) (by omega), fun i j _ => e2 i j⟩ (fun i j _ => e2 i j)⟩
  unfold f_X7_line
  refine q_bd ?_
  rw [e_dl7 hA.2.2.1]
  rcases e_in_of (x := x1) (n := h_D (k_r C) (k_N C)) (by omega) with ⟨e1, _⟩ | ⟨e1, d, hd, hx1⟩
  · refine q_it e1 (q_some (same _ (fun M2 _ => ?_)))
    rw [if_pos e1]
  refine q_if (by rw [e1]; decide) ?_
  have e1' : ¬ e_in x1 (h_D (k_r C) (k_N C)) = 0 := by rw [e1]; decide
  rcases b_li (n := n) (x1 := x1) hV hA (k_n C) 0 n (by omega) (by omega) (fun j q => absurd q (Nat.not_lt_zero _)) with ⟨q1, q2⟩ | ⟨q1, q2⟩
  · refine q_of q2 (same _ (fun M2 h2 => ?_))
    rw [if_neg e1']
    rcases a_li (n := n) (x1 := x1) hV h2 (k_n C) 0 n (by omega) (by omega) (fun j q => absurd q (Nat.not_lt_zero _)) with ⟨p1, p2⟩ | ⟨p1, p2⟩
    · exact p2
    · obtain ⟨j, j1, j2⟩ := q1
      exact absurd j2 (p1 j j1)
  · by_cases c : k_n C < 6
    · rw [if_pos c] at q2
      refine q_of q2 ?_
      have eC : ∀ i j, (m_sI (m_sI M 3 (k_n C) x1) 1 4 (nI (k_n C + 1))).1 i j = if i = 1 ∧ j = 4 then nI (k_n C + 1) else if i = 3 ∧ j = k_n C then x1 else M.1 i j := fun i j => by rw [q_r, q_r]
      refine ref _ 0 _ (k_E_f2 hE hV.1.2.1 hn6 (k_ht hV) (fun j _ _ => by rw [eC, if_neg (by omega), if_neg (by omega)])) (fun M2 h2 f1 f2 => ?_)
      rw [if_neg e1']
      rcases a_li (n := n) (x1 := x1) hV h2 (k_n C) 0 n (by omega) (by omega) (fun j q => absurd q (Nat.not_lt_zero _)) with ⟨p1, p2⟩ | ⟨p1, p2⟩
      · obtain ⟨j, j1, j2⟩ := p1
        exact absurd j2 (q1 j j1)
      · rw [if_pos c] at p2
        refine q_of p2 ⟨rfl, (k_P C, k_N C, k_r C, k_n C + 1, (fun j => if j = k_n C then x1 else k_l C j), k_t C, k_x C), C0, C1, ?_⟩
        have eE : ∀ i j, (m_sI (m_sI M2 173 (462 + k_n C) x1) 173 470 (nI (k_n C + 1))).1 i j = if i = 173 ∧ j = 470 then nI (k_n C + 1) else if i = 173 ∧ j = 462 + k_n C then x1 else M2.1 i j := fun i j => by rw [q_r, q_r]
        have eM : ∀ i j, i ≠ 173 → ¬ (i = 1 ∧ j = 4) → i ≠ 3 → ¬ w_53 i j → ¬ (i = 172 ∧ j = 24) → (m_sI (m_sI M2 173 (462 + k_n C) x1) 173 470 (nI (k_n C + 1))).1 i j = M.1 i j := fun i j a b c d e => by
          rw [eE, if_neg (by omega), if_neg (by omega), f1 i j d e, eC, if_neg b, if_neg (by omega)]
        have eN : ∀ j, (m_sI (m_sI M2 173 (462 + k_n C) x1) 173 470 (nI (k_n C + 1))).1 173 j = if j = 470 then nI (k_n C + 1) else if j = 462 + k_n C then x1 else M.1 173 j := fun j => by
          rw [eE]
          by_cases z1 : j = 470
          · rw [if_pos ⟨rfl, z1⟩, if_pos z1]
          · rw [if_neg (by omega), if_neg z1]
            by_cases z2 : j = 462 + k_n C
            · rw [if_pos ⟨rfl, z2⟩, if_pos z2]
            · rw [if_neg (by omega), if_neg z2, f1 173 j (by unfold w_53; omega) (by omega), eC, if_neg (by omega), if_neg (by omega)]
        refine k_M_mk hM ?_ (k_A_li hA (fun i j a b c d => eM i j (by omega) d c (by unfold w_53; omega) (by omega)) (fun i j _ => f2 i j) ?_ (fun j hj => ?_)) (k_E_li hE hV.1.2.1 (k_ht hV) (fun j q => ?_) ?_ (fun j hj => ?_)) (fun i j q => eM i j (by omega) (by omega) (by omega) (by unfold w_53; omega) (by omega)) (fun i j _ => f2 i j)
        · obtain ⟨⟨v1, v2, v3, v4⟩, w, r, m, a, p, l1, l2, x⟩ := hV
          refine ⟨⟨v1, v2, by show k_n C + 1 ≤ 6; omega, v4⟩, w, r, m, a, p, fun i hi => ?_, fun i j hij hj => ?_, x⟩
          · show ∃ d, d < h_D (k_r C) (k_N C) ∧ (if i = k_n C then x1 else k_l C i) = nI d
            by_cases z : i = k_n C
            · rw [if_pos z]
              exact ⟨d, hd, hx1⟩
            · rw [if_neg z]
              exact l1 i (by have : i < k_n C + 1 := hi; omega)
          · have hj' : j < k_n C + 1 := hj
            show (if i = k_n C then x1 else k_l C i) ≠ (if j = k_n C then x1 else k_l C j)
            rw [if_neg (show ¬ i = k_n C by omega)]
            by_cases z : j = k_n C
            · rw [if_pos z]
              exact q1 i (by omega)
            · rw [if_neg z]
              exact l2 i j hij (by omega)
        · rw [eE, if_neg (by omega), if_neg (by omega), f1 1 4 (by unfold w_53; omega) (by omega), eC, if_pos ⟨rfl, rfl⟩]
        · rw [eE, if_neg (by omega), if_neg (by omega), f1 3 j (by unfold w_53; omega) (by omega), eC, if_neg (by omega)]
          by_cases z : j = k_n C
          · rw [if_pos ⟨rfl, z⟩, if_pos z]
          · rw [if_neg (by omega), if_neg z]
            exact hA.2.2.2.2.2.2.1 j (by omega)
        · rw [eN, if_neg (by omega), if_neg (by omega)]
        · rw [eN, if_pos rfl]
        · rw [eN, if_neg (by omega)]
          by_cases z : j = k_n C
          · rw [if_pos (by omega), if_pos z]
          · rw [if_neg (by omega), if_neg z]
            have := hE.2.2.2.2.1 j (by omega)
            rw [Nat.zero_add] at this
            exact this
    · rw [if_neg c] at q2
      refine q_of q2 (same _ (fun M2 h2 => ?_))
      rw [if_neg e1']
      rcases a_li (n := n) (x1 := x1) hV h2 (k_n C) 0 n (by omega) (by omega) (fun j q => absurd q (Nat.not_lt_zero _)) with ⟨p1, p2⟩ | ⟨p1, p2⟩
      · obtain ⟨j, j1, j2⟩ := p1
        exact absurd j2 (q1 j j1)
      · rw [if_neg c] at p2
        exact p2
