/-! CALLS: own, person, clear, unline, part, told -/
theorem z_own {n : Nat} {x1 x2 x3 : Int32} {M : m_M} (hn : 200 < n) (h : k_Inv M) : q_T (f_X7_own n x1 x2 x3 M) (fun a => z_eq a (f_X8_own n x1 x2 x3 a.2)) := by
  obtain ⟨C, C0, C1, hM⟩ := h
  obtain ⟨⟨hV, hA, hE⟩, hI⟩ := id hM
  have hP : k_P C ≤ 10 := hV.1.1
  have e8 : f_X8_isIn x2.toInt64 0 2 = e_in x2 3 := by
    have h := e_in_eq (x := x2) (n := 3) (by decide)
    rw [show (nI 3 - 1).toInt64 = 2 by decide +kernel] at h
    exact h
  have ref : ∀ M' : m_M, M'.1 173 468 = nI (k_P C) → e_in x1 (k_P C) = 0 ∨ e_in x2 3 = 0 ∨ e_in x3 1000 = 0 → k_M C C0 C1 M' → z_eq (-2, M') (f_X8_own n x1 x2 x3 M') := by
    intro M' h' hc hM'
    unfold z_eq f_X8_own
    refine q_bd ?_
    rw [e_per8 (by omega) h']
    refine q_ite (fun _ => q_some ⟨rfl, C, C0, C1, hM'⟩) (fun c1 => q_bd ?_)
    rw [e8]
    refine q_ite (fun _ => q_some ⟨rfl, C, C0, C1, hM'⟩) (fun c2 => q_bd ?_)
    rw [e_day8]
    exact q_it (by rcases hc with q | q | q; exact absurd q c1; exact absurd q c2; exact q) (q_some ⟨rfl, C, C0, C1, hM'⟩)
  have l2 : ∀ j, j < 2 ^ 31 → ((2 : Int32) < nI j ↔ 2 < j) := fun j hj => q_lt (a := 2) (by decide) hj
  unfold f_X7_own
  refine q_bd ?_
  rw [e_per7 hA.1]
  rcases e_in_of (x := x1) (n := k_P C) (by omega) with ⟨e1, _⟩ | ⟨e1, p, hp, rfl⟩
  · exact q_it e1 (q_some (ref M hE.1 (Or.inl e1) hM))
  · refine q_if (by rw [e1]; decide) ?_
    rcases e_in_of (x := x2) (n := 3) (by omega) with ⟨e2, n2⟩ | ⟨e2, t, ht, rfl⟩
    · have hc := ref M hE.1 (Or.inr (Or.inl e2)) hM
      refine q_ite (fun _ => q_some hc) (fun c1 => ?_)
      refine q_ite (fun _ => q_some hc) (fun c2 => ?_)
      obtain ⟨j, hj, rfl⟩ := nI_of c1
      refine absurd ⟨j, ?_, rfl⟩ n2
      have : ¬ 2 < j := fun q => c2 ((l2 j hj).mpr q)
      omega
    · refine q_if (nI_pos (by omega)) (q_if (fun q => absurd ((l2 t (by omega)).mp q) (by omega)) (q_bd ?_))
      rw [e_day7]
      rcases e_in_of (x := x3) (n := 1000) (by omega) with ⟨e3, _⟩ | ⟨e3, d, hd, rfl⟩
      · exact q_it e3 (q_some (ref M hE.1 (Or.inr (Or.inr e3)) hM))
      · refine q_if (by rw [e3]; decide) ?_
        obtain ⟨K, hK⟩ := k_isday hV (nI d)
        obtain ⟨fl, val, y1, y2⟩ := k_law hA (l := 0) (by omega)
        have hac := k_ac hV h_all hK.1
        refine q_ob (q_mono (k_reckon (n := n) (ns := 0) hn hV hA y1 hK) (fun M1 h1 => ?_))
        obtain ⟨⟨a1, _, a3⟩, a4, a5⟩ := h1
        have hM1 := k_M_rk hM a4 a5
        rw [k_ns0 hV hK.1] at a1 a3
        have hP1 : M1.1 1 0 = nI (k_P C) := (a4 1 0 (h_cell1 (by omega))).trans hA.1
        have rest : ∀ r : Int32, (t = 0 → r = e_sec (h_S (k_r C) h_all K).1 (k_gn C (h_S (k_r C) h_all K).1 fl val) p (k_P C)) → (t = 1 → r = e_o (h_S (k_r C) h_all K).1 p) → (t = 2 → r = e_wf (h_S (k_r C) h_all K).1 p (k_P C)) → z_eq (r, M1) (f_X8_own n (nI p) (nI t) (nI d) M1) := by
          intro r r1 r2 r3
          unfold z_eq f_X8_own
          refine q_bd ?_
          rw [e_per8 (P := k_P C) (by omega) hM1.1.2.2.1]
          refine q_if (by rw [e1]; decide) (q_bd ?_)
          rw [e8]
          refine q_if (by rw [e2]; decide) (q_bd ?_)
          rw [e_day8]
          refine q_if (by rw [e3]; decide) ?_
          refine q_ob (q_mono (k_today (n := n) hn hM1 y2 hK) (fun M2 h2 => ?_))
          obtain ⟨⟨b1, b2, b3⟩, b4⟩ := h2
          have hG := k_EG b2 b4.1.2.2
          have ts : t = 0 ∨ t = 1 ∨ t = 2 := by omega
          rcases ts with c | c | c <;> subst c
          · refine q_it rfl (q_ob (q_of (e_second (by omega) hG.1 hP hG.2.1 b3) (q_some ?_)))
            exact ⟨r1 rfl, C, C0, C1, b4⟩
          · refine q_if (by decide) ?_
            rw [show nI 1 - 1 = 0 by decide]
            refine q_ob (q_of (e_own0 (by omega) hG.1 hP hG.2.1 hp hac.1) (q_some ?_))
            exact ⟨r2 rfl, C, C0, C1, b4⟩
          · refine q_if (by decide) ?_
            rw [show nI 2 - 1 = 1 by decide]
            refine q_ob (q_of (e_own1 (by omega) hG.1 hP hG.2.1 hp hac.1) (q_some ?_))
            exact ⟨r3 rfl, C, C0, C1, b4⟩
        have ts : t = 0 ∨ t = 1 ∨ t = 2 := by omega
        rcases ts with c | c | c <;> subst c
        · refine q_it rfl (q_gd (q_in (by omega) (by decide)) (q_some ?_))
          rw [q_cl (by omega)]
          exact rest _ (fun _ => a3 p hp) (fun q => absurd q (by omega)) (fun q => absurd q (by omega))
        · refine q_if (by decide) (q_it rfl (q_ob (q_of (e_oC a1 hP hp hac.1) (q_some ?_))))
          exact rest _ (fun q => absurd q (by omega)) (fun _ => rfl) (fun q => absurd q (by omega))
        · refine q_if (by decide) (q_if (by decide) (q_ob (q_of (e_wC (by omega) a1 hP1 hP hp hac.1) (q_some ?_))))
          exact rest _ (fun q => absurd q (by omega)) (fun q => absurd q (by omega)) (fun _ => rfl)
