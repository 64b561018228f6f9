/-! A NOTE that came: all that is kept holds -/
theorem n_dy_of {C : k_C} {x : Int32} (hV : k_V C) (h : n_dy C x ≠ 0) : ∃ d, d < 1000 ∧ x = nI d ∧ n_first C ≤ x := by
  obtain ⟨d0, h0, e0⟩ := n_first0 hV
  unfold n_dy at h
  by_cases c : x < n_first C
  · rw [if_pos c] at h
    exact absurd rfl h
  rw [if_neg c] at h
  by_cases c2 : (999 : Int32) < x
  · rw [if_pos c2] at h
    exact absurd rfl h
  have c' : ¬ x < 0 := fun q => c (Int32.lt_iff_toInt_lt.mpr (by
    have := q_il0.mp q
    rw [e0, nI_toInt (by omega)]
    omega))
  obtain ⟨j, hj, rfl⟩ := nI_of c'
  refine ⟨j, ?_, rfl, Int32.not_lt.mp c⟩
  have : ¬ 999 < j := fun q => c2 ((q_lt (a := 999) (by decide) hj).mpr q)
  omega
theorem n_rwa {k : Nat} {x1 x2 x3 x4 : Int32} : n_rw k x1 x2 x3 x4 0 = x1 ∧ n_rw k x1 x2 x3 x4 1 = nI k ∧ n_rw k x1 x2 x3 x4 2 = x2 ∧ n_rw k x1 x2 x3 x4 3 = n_b k x3 ∧ n_rw k x1 x2 x3 x4 4 = n_v k x4 ∧ n_rw k x1 x2 x3 x4 5 = 0 := by
  unfold n_rw
  exact ⟨rfl, rfl, rfl, rfl, rfl, rfl⟩
theorem n_keeps {C : k_C} {k : Nat} {x1 x2 x3 x4 : Int32} (hV : k_V C) (hk : k < 15) (hN : k_N C < 60) (hd : n_dy C x1 ≠ 0) (hF : n_F (k_P C) (h_D (k_r C) (k_N C)) k x2 x3 x4) (hm : n_mk (h_S (k_r C) h_all (k_N C)).1 k x2 x3 x4 = true) : k_V (n_C C k x1 x2 x3 x4) := by
  have hV0 := hV
  have hac := k_ac hV h_all (Nat.le_refl (k_N C))
  have hD60 := k_D60 hV (Nat.le_refl (k_N C))
  have hbd := k_bd hV h_all (Nat.le_refl (k_N C))
  have hlf := fun {k' : Nat} => k_lf (K := k_N C) (k := k') hV h_all (Nat.le_refl _)
  have hmd := fun {k' : Nat} (h4 : h_kd (k_r C) k' = 4) (hk' : k' < k_N C) => (h_made_S hV.2.1 h_all h4 (k_N C) (Nat.le_refl _) hk').2.2
  obtain ⟨d1, hd1, rfl, hd2⟩ := n_dy_of hV hd
  obtain ⟨⟨v1, v2, v3, v4⟩, w, r, m, a, p, l1, l2, x⟩ := hV
  obtain ⟨F1, F2, F3, F4, F5, F6, F7⟩ := hF
  have e : ∀ j, j < 6 * k_N C → n_r (k_r C) (k_N C) k (nI d1) x2 x3 x4 j = k_r C j := n_rlt
  have eN := fun i => n_rN (r := k_r C) (N := k_N C) (k := k) (x1 := nI d1) (x2 := x2) (x3 := x3) (x4 := x4) i
  have ekN := n_kN (r := k_r C) (N := k_N C) (x1 := nI d1) (x2 := x2) (x3 := x3) (x4 := x4) hk
  have eDN := n_DN (r := k_r C) (N := k_N C) (x1 := nI d1) (x2 := x2) (x3 := x3) (x4 := x4) hk
  have eBN := n_BN (r := k_r C) (N := k_N C) (k := k) (x1 := nI d1) (x2 := x2) (x3 := x3) (x4 := x4)
  obtain ⟨g0, g1, g2, g3, g4, g5⟩ := n_rwa (k := k) (x1 := nI d1) (x2 := x2) (x3 := x3) (x4 := x4)
  unfold n_C
  generalize n_r (k_r C) (k_N C) k (nI d1) x2 x3 x4 = r' at *
  have i0 := eN 0
  have i1 := eN 1
  have i2 := eN 2
  have i3 := eN 3
  have i4 := eN 4
  have i5 := eN 5
  rw [g0] at i0
  rw [g1] at i1
  rw [g2] at i2
  rw [g3] at i3
  rw [g4] at i4
  rw [g5] at i5
  rw [Nat.add_zero] at i0
  have eP : h_a r' (k_N C) = x2.toNatClampNeg := by unfold h_a; rw [i2]
  have eb : h_b r' (k_N C) = (n_b k x3).toNatClampNeg := by unfold h_b; rw [i3]
  have nb : ¬ h_isd k → n_b k x3 = x3 := fun q => if_neg q
  have ha1 : h_isd k → x2 = nI (h_a r' (k_N C)) ∧ h_a r' (k_N C) < h_D (k_r C) (k_N C) := fun q => by
    obtain ⟨y, y1, rfl⟩ := F1 q
    rw [eP, q_cl (by omega)]
    exact ⟨rfl, y1⟩
  have ha2 : ¬ h_isd k → x2 = nI (h_a r' (k_N C)) ∧ h_a r' (k_N C) < k_P C := fun q => by
    obtain ⟨y, y1, rfl⟩ := F2 q
    rw [eP, q_cl (by omega)]
    exact ⟨rfl, y1⟩
  have hbt : (1 ≤ k ∧ k ≤ 4 ∨ 6 ≤ k ∧ k ≤ 8) → x3 = nI (h_b r' (k_N C)) ∧ h_b r' (k_N C) < 4 := fun q => by
    obtain ⟨y, y1, y2⟩ := F4 q
    rw [eb, nb (by unfold h_isd; omega), y2, q_cl (by omega)]
    exact ⟨rfl, y1⟩
  have hbp : (k = 11 ∨ k = 12) → x3 = nI (h_b r' (k_N C)) ∧ h_b r' (k_N C) < k_P C := fun q => by
    obtain ⟨y, y1, y2⟩ := F5 q
    rw [eb, nb (by unfold h_isd; omega), y2, q_cl (by omega)]
    exact ⟨rfl, y1⟩
  have hW' : h_W r' (k_N C + 1) := fun k' hk' => by
    by_cases c : k' < k_N C
    · obtain ⟨z1, z2⟩ := w k' c
      have zz := n_cgk e c
      rw [n_cgD e k' (by omega)]
      refine ⟨?_, ?_⟩
      · unfold h_v at z1 ⊢
        rw [zz.1, zz.2.1, zz.2.2, e _ (by omega), e _ (by omega), e _ (by omega)]
        exact z1
      · unfold h_dub at z2 ⊢
        rw [zz.1, e _ (by omega)]
        exact z2
    · have c' : k' = k_N C := by omega
      rw [c', n_cgD e _ (Nat.le_refl _)]
      refine ⟨?_, ?_⟩
      · unfold h_v
        rw [ekN, i1, i2, i3]
        refine ⟨rfl, hk, ?_, fun q => (ha1 q).2, fun q => by have := (ha2 q).2; omega, fun q => ?_, fun q => ?_⟩
        · by_cases q : h_isd k
          · exact (ha1 q).1
          · exact (ha2 q).1
        · rw [nb (by unfold h_isd; omega)]
          exact hbt q
        · rw [nb (by unfold h_isd; omega)]
          exact ⟨(hbp q).1, by have := (hbp q).2; omega⟩
      · unfold h_dub
        rw [i5]
        exact ⟨Or.inl rfl, fun q => absurd rfl q⟩
  have eS := n_cgS h_all e (k_N C) (Nat.le_refl _)
  have eD := n_cgD e (k_N C) (Nat.le_refl _)
  have st := h_all_st hW' (show k_N C < k_N C + 1 by omega)
  rw [eS, eD, ekN, i0, i3, i4] at st
  generalize hSS : (h_S (k_r C) h_all (k_N C)).1 = S at *
  refine ⟨⟨v1, by show k_N C + 1 ≤ 60; omega, v3, by show h_B r' (k_N C + 1) ≤ 5; rw [eBN]; exact v4⟩, hW', fun k' hk' => ?_, fun i j hij hj => ?_, fun k' hk' => ?_, fun d hd => ?_, fun i hi => ?_, l2, x⟩
  · show k_row r' (k_P C) k'
    have hk'' : k' < k_N C + 1 := hk'
    by_cases c : k' < k_N C
    · have z := r k' c
      have zz := n_cgk e c
      unfold k_row at z ⊢
      rw [zz.1, zz.2.1, zz.2.2, e _ (by omega), e _ (by omega), e _ (by omega)]
      exact z
    · have c' : k' = k_N C := by omega
      rw [c']
      unfold k_row
      rw [ekN, i0, i3, i4]
      refine ⟨⟨d1, hd1, rfl⟩, fun q => (ha2 q).2, fun q => ?_, fun q => (hbp q).2, fun q => ?_, fun q => ?_⟩
      · rw [nb (by unfold h_isd; omega)]
        exact F3 q
      · rw [nb (by unfold h_isd; omega)]
        exact F6 q
      · have : n_v k x4 = x4 := if_pos q
        rw [this]
        exact F7 q
  · show r' (6 * i) ≤ r' (6 * j)
    have hj' : j < k_N C + 1 := hj
    by_cases c : j < k_N C
    · rw [e _ (by omega), e _ (by omega)]
      exact m i j hij c
    · have c' : j = k_N C := by omega
      rw [c', i0]
      by_cases c2 : i < k_N C
      · rw [e _ (by omega)]
        have h1 := m i (k_N C - 1) (by omega) (by omega)
        have h2 : n_first C = k_r C (6 * (k_N C - 1)) := if_neg (by omega)
        rw [h2] at hd2
        exact Int32.le_trans h1 hd2
      · rw [show i = k_N C by omega, i0]
        exact Int32.le_refl _
  · show e_ac (h_S r' h_all k').1 (k_P C)
    have hk'' : k' ≤ k_N C + 1 := hk'
    by_cases c : k' ≤ k_N C
    · rw [n_cgS h_all e k' c]
      exact a k' c
    · rw [show k' = k_N C + 1 by omega, st]
      by_cases q0 : k = 0
      · subst q0
        have ab := (ha2 (by unfold h_isd; omega)).1
        have ab2 := (ha2 (by unfold h_isd; omega)).2
        rcases F3 rfl with q | ⟨y, y1, y2⟩
        · refine n_ac_1 (a := h_a r' (k_N C)) v1 hac (fun p => ?_)
          rw [nb (by unfold h_isd; omega), q]
          simp [h_st, h_up]
        · refine n_ac_0 (a := h_a r' (k_N C)) (b := y) v1 ab2 y1 hac ?_ (fun p => ?_)
          · have hm' := hm
            unfold n_mk at hm'
            rw [if_pos rfl, y2, if_neg (q_m1 (by omega)), ab] at hm'
            revert hm'
            cases n_hit S (nI (h_a r' (k_N C))) 11 (nI y) <;> simp
          · rw [nb (by unfold h_isd; omega), y2]
            simp [h_st, h_up]
      · by_cases q14 : k = 14
        · subst q14
          refine n_ac_1 (a := h_a r' (k_N C)) v1 hac (fun p => ?_)
          simp [h_st, h_up]
        · exact e_ac_cg hac (fun p => e_st0 q0 (by omega))
  · show (h_S r' h_all (k_N C + 1)).1 13 d ≤ (h_S r' h_all (k_N C + 1)).1 12 d
    have hd' : d < h_D r' (k_N C + 1) := hd
    rw [eDN] at hd'
    rw [st, h_st13 hk, h_st12 hk]
    by_cases q4 : k = 4
    · subst q4
      rw [if_neg (by omega)]
      by_cases c : d = h_D (k_r C) (k_N C)
      · obtain ⟨y, y1, y2, y3⟩ := F7 (by omega)
        rw [if_pos ⟨rfl, c⟩, if_pos ⟨rfl, c⟩, show n_v 4 x4 = x4 from rfl, y3]
        exact nI_pos' (by omega)
      · rw [if_neg (fun q => c q.2), if_neg (fun q => c q.2)]
        rw [if_pos rfl] at hd'
        exact p d (by omega)
    · rw [if_neg q4] at hd'
      rw [if_neg (show ¬ (k = 4 ∧ d = h_D (k_r C) (k_N C)) from fun q => q4 q.1), if_neg (show ¬ (k = 4 ∧ d = h_D (k_r C) (k_N C)) from fun q => q4 q.1)]
      by_cases c : k = 13 ∧ d = h_a r' (k_N C)
      · rw [if_pos c]
        obtain ⟨c1, c2⟩ := c
        obtain ⟨k', k1, k2, k3⟩ := h_D_ex _ _ _ hd'
        subst c1
        obtain ⟨y, y1, y2, y3⟩ := F7 (by omega)
        have ab := (ha1 (by unfold h_isd; omega)).1
        have hm' := hm
        unfold n_mk at hm'
        rw [if_neg (by decide), if_neg (by decide), if_neg (by decide), if_neg (by decide), if_neg (by decide), if_neg (by decide), if_neg (by decide), if_neg (by decide), if_neg (by decide), if_pos (by decide), ab, q_cl (by omega), ← c2] at hm'
        have hlt : ¬ S 12 d - S 13 d < x4 := by
          intro q
          rw [decide_eq_true q] at hm'
          exact absurd hm' (by decide)
        rw [show n_v 13 x4 = x4 from rfl, y3]
        rw [y3] at hlt
        have hb := hbd 13 d (by unfold h_bf; omega)
        obtain ⟨b1, b2, b3⟩ := hb
        have b3' := b3 (by omega) (by omega)
        have hl := hlf k1 k2
        rw [k3] at hl
        have m12 := hmd k2 k1
        rw [k3] at m12
        obtain ⟨z, z1, z2, z3⟩ := (r k' k1).2.2.2.2.2 (by omega)
        rw [z3] at m12
        rw [Int32.lt_iff_toInt_lt, nI_toInt (by omega)] at hlt
        have e12 : (S 12 d).toInt = z := by rw [m12, nI_toInt (by omega)]
        have es := q_is (x := S 12 d) (y := S 13 d) (by omega) (by omega)
        have ey := nI_toInt (n := y) (by omega)
        have ea := q_ia (x := S 13 d) (y := nI y) (by omega) (by omega)
        rw [← c2, Int32.le_iff_toInt_le, ea, ey, e12]
        rw [es, e12] at hlt
        omega
      · rw [if_neg c]
        exact p d hd'
  · obtain ⟨d, q1, q2⟩ := l1 i hi
    refine ⟨d, ?_, q2⟩
    show d < h_D r' (k_N C + 1)
    rw [eDN]
    split <;> omega
theorem n_go_V {C : k_C} {x1 x2 x3 x4 x5 : Int32} (hV : k_V C) : k_V (n_go C x1 x2 x3 x4 x5).2 := by
  have hN := hV.1.2.1
  unfold n_go
  by_cases c1 : n_dy C x1 = 0
  · rw [if_pos c1]
    exact hV
  rw [if_neg c1]
  by_cases c2 : n_ft (k_P C) (h_D (k_r C) (k_N C)) x2 x3 x4 x5 = 0
  · rw [if_pos c2]
    exact hV
  rw [if_neg c2]
  obtain ⟨k, hk, rfl⟩ := n_ftk c2
  rw [q_cl (by omega)]
  by_cases c3 : n_mk (h_S (k_r C) h_all (k_N C)).1 k x3 x4 x5 = false
  · rw [if_pos c3]
    exact hV
  rw [if_neg c3]
  by_cases c4 : k_N C = 60
  · rw [if_pos c4]
    exact hV
  rw [if_neg c4]
  have hF := n_fk_of (P := k_P C) (D := h_D (k_r C) (k_N C)) (by have := hV.1.1; omega) (by have := k_D60 hV (Nat.le_refl (k_N C)); omega) hk (by rw [← n_ft_k hk]; exact c2)
  exact n_keeps hV hk (by omega) c1 hF (by
    revert c3
    cases n_mk (h_S (k_r C) h_all (k_N C)).1 k x3 x4 x5 <;> simp)
theorem z_note {n : Nat} {x1 x2 x3 x4 x5 : Int32} {M : m_M} (hn : 200 < n) (h : k_Inv M) : q_T (f_X7_note n x1 x2 x3 x4 x5 M) (fun a => z_eq a (f_X8_note n x1 x2 x3 x4 x5 a.2)) := by
  obtain ⟨C, C0, C1, hM⟩ := h
  obtain ⟨⟨hV, hA, hE⟩, hI⟩ := id hM
  unfold f_X7_note
  refine q_o2 (q_mono (q_TH (b_bring (x1 := x1) (x2 := x2) (x3 := x3) (x4 := x4) (x5 := x5) hn hV hA) (g_X7_bring n x1 x2 x3 x4 x5 M)) (fun a ha => ?_))
  obtain ⟨⟨a1, a2⟩, g⟩ := ha
  refine q_some ?_
  have hE1 : k_E C 173 0 a.2 := k_E_f3 hE (fun j => g.1 _ _ (by unfold w_21; omega))
  unfold z_eq
  refine q_mono (q_TH (a_note (x1 := x1) (x2 := x2) (x3 := x3) (x4 := x4) (x5 := x5) hn hV hE1) (g_X8_note n x1 x2 x3 x4 x5 _)) (fun b hb => ?_)
  obtain ⟨⟨b1, b2⟩, g'⟩ := hb
  have fr : ∀ i j, ¬ w_21 i j → ¬ w_75 i j → b.2.1 i j = M.1 i j := fun i j p q => (g'.1 i j q).trans (g.1 i j p)
  have fr2 : ∀ i j, b.2.2 i j = M.2 i j := fun i j => (g'.2 i j (by unfold w_1; omega)).trans (g.2 i j (by unfold w_1; omega))
  refine ⟨a1.trans b1.symm, (n_go C x1 x2 x3 x4 x5).2, C0, C1, k_M_mk hM (n_go_V hV) ?_ b2 (fun i j q => fr i j (by unfold w_21; omega) (by unfold w_75; omega)) (fun i j _ => fr2 i j)⟩
  exact k_A_f2 a2 (fun i j p q => g'.1 i j (by unfold w_75; omega)) (fun i j _ => g'.2 i j (by unfold w_1; omega))
