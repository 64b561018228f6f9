/-! THE LAW: its loop over the calls -/
theorem y_zz {o : Option (Int32 × m_M)} {g : m_M → Option (Int32 × m_M)} {k : m_M → Option Int32} (h : q_T o (fun a => z_eq a (g a.2))) (hk : ∀ M, k_Inv M → q_T (k M) (fun r => r = 1)) : q_T (m_o2 o fun r M1 => m_o2 (g M1) fun r2 M2 => if r = r2 then k M2 else some 0) (fun r => r = 1) := q_o2 (q_mono h (fun a ha => q_o2 (q_mono ha (fun b hb => q_it hb.1 (hk _ hb.2)))))
theorem y_bb {o : Int32 × m_M} {g : m_M → Int32 × m_M} {k : m_M → Option Int32} (h : o.1 = (g o.2).1 ∧ k_Inv (g o.2).2) (hk : ∀ M, k_Inv M → q_T (k M) (fun r => r = 1)) : q_T (m_b2 o fun r M1 => m_b2 (g M1) fun r2 M2 => if r = r2 then k M2 else some 0) (fun r => r = 1) := q_b2 (q_b2 (q_it h.1 (hk _ h.2)))
theorem y_end {L i : Nat} (hL : L ≤ 3072) (hi : i < 2 ^ 30) : (nI L - 6 < nI i) ↔ L < i + 6 := by
  have h6 : (6 : Int32).toInt = 6 := rfl
  have hs : (nI L - 6).toInt = (L : Int) - 6 := by
    rw [q_is (by rw [nI_toInt (by omega), h6]; omega) (by rw [nI_toInt (by omega), h6]; omega), nI_toInt (by omega), h6]
  rw [Int32.lt_iff_toInt_lt, hs, nI_toInt (by omega)]
  omega
theorem y_doubt {n : Nat} {xs : Nat → Int32} {L : Nat} {q : Int32 → m_M → Option Int32} {x3 x : Int32} {M : m_M} (hn : 200 < n) (h : k_Inv M) (hx : m_B x) (g1 : m_in (x3 + 1) L) (g2 : m_in (x3 + 2) L) (hc : x = if xs (x3 + 2).toNatClampNeg = 0 then 0 else 1) (hk : ∀ M, k_Inv M → q_T (q (x3 + 6) M) (fun r => r = 1)) : q_T (f_L_law_b271 n xs L q x3 (xs (x3 + 1).toNatClampNeg) x M) (fun r => r = 1) := by
  unfold f_L_law_b271
  refine q_o2 (q_mono (z_doubt hn hx h) (fun a ha => q_gd g1 (q_gd g2 ?_)))
  by_cases c : xs (x3 + 2).toNatClampNeg = 0
  · rw [if_pos c] at hc
    subst hc
    refine q_it c ?_
    unfold f_L_law_b293
    exact q_o2 (q_mono ha (fun b hb => q_it hb.1 (hk _ hb.2)))
  · rw [if_neg c] at hc
    subst hc
    refine q_if c ?_
    unfold f_L_law_b293
    exact q_o2 (q_mono ha (fun b hb => q_it hb.1 (hk _ hb.2)))
set_option maxHeartbeats 4000000 in
set_option maxRecDepth 100000 in
theorem y_step {n L i u : Nat} {xs : Nat → Int32} {M : m_M} (hn : 3000 < n) (hL : L ≤ 3072) (hi : i + 6 ≤ L) (h : k_Inv M) (hk : ∀ M, k_Inv M → q_T (f_L_law_b18 n xs L u (nI i + 6) M) (fun r => r = 1)) : q_T (f_L_law_b18 n xs L (u + 1) (nI i) M) (fun r => r = 1) := by
  have g0 : m_in (nI i) L := q_in (by omega) (by omega)
  have g1 : m_in (nI i + 1) L := by rw [show nI i + 1 = nI (i + 1) from q_add i 1]; exact q_in (by omega) (by omega)
  have g2 : m_in (nI i + 2) L := by rw [show nI i + 2 = nI (i + 2) from q_add i 2]; exact q_in (by omega) (by omega)
  have g3 : m_in (nI i + 3) L := by rw [show nI i + 3 = nI (i + 3) from q_add i 3]; exact q_in (by omega) (by omega)
  have g4 : m_in (nI i + 4) L := by rw [show nI i + 4 = nI (i + 4) from q_add i 4]; exact q_in (by omega) (by omega)
  have g5 : m_in (nI i + 5) L := by rw [show nI i + 5 = nI (i + 5) from q_add i 5]; exact q_in (by omega) (by omega)
  rw [f_L_law_b18]
  refine q_if (fun q => absurd ((y_end hL (by omega)).mp q) (by omega)) (q_gd g0 ?_)
  refine q_ite (fun _ => ?_) (fun _ => ?_)
  · exact (y_bb (z_person h) hk)
  refine q_ite (fun _ => ?_) (fun _ => ?_)
  · exact (q_gd g1 (q_gd g2 (q_gd g3 (q_gd g4 (q_gd g5 (y_zz (z_note (by omega) h) hk))))))
  refine q_ite (fun _ => ?_) (fun _ => ?_)
  · exact (q_gd g1 (q_gd g2 (q_ite (fun c => y_doubt (by omega) h (Or.inl rfl) g1 g2 (by rw [if_pos c]) hk) (fun c => y_doubt (by omega) h (Or.inr rfl) g1 g2 (by rw [if_neg c]) hk))))
  refine q_ite (fun _ => ?_) (fun _ => ?_)
  · exact (q_gd g1 (q_gd g2 (q_gd g3 (y_zz (z_type (by omega) h) hk))))
  refine q_ite (fun _ => ?_) (fun _ => ?_)
  · exact (y_bb (z_clear h) hk)
  refine q_ite (fun _ => ?_) (fun _ => ?_)
  · exact (y_zz (z_read (by omega) h) hk)
  refine q_ite (fun _ => ?_) (fun _ => ?_)
  · exact (q_gd g1 (q_gd g2 (y_zz (z_write (by omega) h) hk)))
  refine q_ite (fun _ => ?_) (fun _ => ?_)
  · exact (q_gd g1 (y_zz (z_erase (by omega) h) hk))
  refine q_ite (fun _ => ?_) (fun _ => ?_)
  · exact (q_gd g1 (q_ob (q_mono (z_fault (n := n) (by omega) h) (fun a ha => q_o2 (q_mono ha (fun b hb => q_it hb.1 (hk _ hb.2)))))))
  refine q_ite (fun _ => ?_) (fun _ => ?_)
  · exact (q_gd g1 (q_gd g2 (y_zz (z_holder (by omega) h) hk)))
  refine q_ite (fun _ => ?_) (fun _ => ?_)
  · exact (q_gd g1 (q_gd g2 (q_gd g3 (y_zz (z_in (by omega) h) hk))))
  refine q_ite (fun _ => ?_) (fun _ => ?_)
  · exact (q_gd g1 (q_gd g2 (q_gd g3 (y_zz (z_own (by omega) h) hk))))
  refine q_ite (fun _ => ?_) (fun _ => ?_)
  · exact (q_gd g1 (q_gd g2 (q_gd g3 (y_zz (z_net (by omega) h) hk))))
  refine q_ite (fun _ => ?_) (fun _ => ?_)
  · exact (q_gd g1 (q_gd g2 (y_zz (z_owed (by omega) h) hk)))
  refine q_ite (fun _ => ?_) (fun _ => ?_)
  · exact (q_gd g1 (q_gd g2 (y_zz (z_answers (by omega) h) hk)))
  refine q_ite (fun _ => ?_) (fun _ => ?_)
  · exact (q_gd g1 (q_gd g2 (q_gd g3 (y_zz (z_ask (by omega) h) hk))))
  refine q_ite (fun _ => ?_) (fun _ => ?_)
  · exact (q_gd g1 (q_gd g2 (y_zz (z_best (by omega) h) hk)))
  refine q_ite (fun _ => ?_) (fun _ => ?_)
  · exact (q_gd g1 (y_zz (z_line (by omega) h) hk))
  refine q_ite (fun _ => ?_) (fun _ => ?_)
  · exact (y_bb (z_unline h) hk)
  refine q_ite (fun _ => ?_) (fun _ => ?_)
  · exact (q_gd g1 (q_gd g2 (y_zz (z_served (by omega) h) hk)))
  refine q_ite (fun _ => ?_) (fun _ => ?_)
  · exact (q_gd g1 (q_gd g2 (q_gd g3 (y_zz (z_orders (by omega) h) hk))))
  refine q_ite (fun _ => ?_) (fun _ => ?_)
  · exact (q_gd g1 (q_gd g2 (y_zz (z_rests (by omega) h) hk)))
  refine q_ite (fun _ => ?_) (fun _ => ?_)
  · exact (q_gd g1 (q_gd g2 (q_gd g3 (y_zz (z_wise (by omega) h) hk))))
  refine q_ite (fun _ => ?_) (fun _ => ?_)
  · exact (q_gd g1 (q_gd g2 (q_gd g3 (q_gd g4 (y_zz (z_sure (by omega) h) hk)))))
  refine q_ite (fun _ => ?_) (fun _ => ?_)
  · exact (q_gd g1 (q_gd g2 (q_gd g3 (y_zz (z_hangs (by omega) h) hk))))
  refine q_ite (fun _ => ?_) (fun _ => ?_)
  · exact (q_gd g1 (y_zz (z_parted (by omega) h) hk))
  refine q_ite (fun _ => ?_) (fun _ => ?_)
  · exact (q_gd g1 (q_bd (q_bd (q_it (z_part h) (hk _ h)))))
  refine q_ite (fun _ => ?_) (fun _ => ?_)
  · exact (q_gd g1 (q_gd g2 (q_ob (q_mono (z_told h) (fun a ha => q_ob (q_mono ha (fun b hb => q_it hb (hk _ h))))))))
  refine q_ite (fun _ => ?_) (fun _ => ?_)
  · exact (q_gd g1 (y_zz (z_image (by omega) h) hk))
  refine q_ite (fun _ => ?_) (fun _ => ?_)
  · exact (q_gd g1 (y_zz (z_from (by omega) h) hk))
  refine q_ite (fun _ => ?_) (fun _ => ?_)
  · exact (q_gd g1 (q_bd (q_o2 (q_mono (z_count (n := n) (by omega) h) (fun b hb => q_it hb.1 (hk _ hb.2))))))
  refine q_ite (fun _ => ?_) (fun _ => ?_)
  · exact (q_o2 (q_mono (z_digest (by omega) h) (fun a ha => q_o2 (q_mono ha (fun b hb => q_it hb.1 (hk _ hb.2))))))
  exact hk _ h
theorem y_loop {n L : Nat} {xs : Nat → Int32} (hn : 3000 < n) (hL : L ≤ 3072) : ∀ (u i : Nat) (M : m_M), i ≤ L + 6 → L ≤ i + 6 * u → k_Inv M → q_T (f_L_law_b18 n xs L (u + 1) (nI i) M) (fun r => r = 1) := by
  intro u
  induction u with
  | zero =>
    intro i M h1 h2 h
    rw [f_L_law_b18]
    exact q_it ((y_end hL (by omega)).mpr (by omega)) (q_some rfl)
  | succ u ih =>
    intro i M h1 h2 h
    by_cases c : L < i + 6
    · rw [f_L_law_b18]
      exact q_it ((y_end hL (by omega)).mpr c) (q_some rfl)
    · refine y_step hn hL (by omega) h (fun M2 h3 => ?_)
      rw [show nI i + 6 = nI (i + 6) from q_add i 6]
      exact ih (i + 6) M2 (by omega) (by omega) h3
theorem z_law {L : Nat} (hL : L ≤ 3072) (xs : Nat → Int32) : ∃ n u, f_L_law_b18 n xs L u 0 y_M = some 1 := by
  obtain ⟨r, e, hr⟩ := y_loop (n := 3001) (L := L) (xs := xs) (by omega) hL 512 0 y_M (by omega) (by omega) k_start
  subst hr
  exact ⟨3001, 513, e⟩
