/-! CALLS: erase, write -/
theorem k_lawp {C : k_C} {M : m_M} {L : Nat} (hA : k_A C 1 M) (hL : L < 2) : M.1 (5 + 5 * L) 1 = nI (k_t C L) ∧ ∀ j, j < k_t C L → M.1 (6 + 5 * L) j = k_x C L j := by
  obtain ⟨b0, b1, _⟩ := hA.2.2.2.2.2.2.2 L hL
  have e0 : 1 + 4 + 5 * L = 5 + 5 * L := by omega
  have e1 : 1 + 5 + 5 * L = 6 + 5 * L := by omega
  rw [e0] at b0
  rw [e1] at b1
  exact ⟨b0, b1⟩
theorem k_lawe {C : k_C} {M : m_M} {L : Nat} (hE : k_E C 173 0 M) (hL : L < 2) : M.1 173 (360 + 51 * L) = nI (k_t C L) ∧ ∀ j, j < k_t C L → M.1 173 (361 + 51 * L + j) = k_x C L j := by
  obtain ⟨b0, b1⟩ := hE.2.2.2.2.2 L hL
  refine ⟨?_, fun j hj => ?_⟩
  · have e0 : 0 + 360 + 51 * L = 360 + 51 * L := by omega
    rw [e0] at b0
    exact b0
  · have := b1 j hj
    have e0 : 0 + 361 + 51 * L + j = 361 + 51 * L + j := by omega
    rw [e0] at this
    exact this
theorem k_tnat {T : Nat} {tx : Nat → Int32} (hx : ∀ j, j < T → ∃ c, c < 128 ∧ tx j = nI c) : ∃ t : Nat → Nat, (∀ j, t j < 128) ∧ ∀ j, j < T → tx j = nI (t j) := by
  refine ⟨fun j => (tx j).toNatClampNeg % 128, fun j => Nat.mod_lt _ (by decide), fun j hj => ?_⟩
  obtain ⟨c, c1, c2⟩ := hx j hj
  show tx j = nI ((tx j).toNatClampNeg % 128)
  have e : (tx j).toNatClampNeg % 128 = c := by rw [c2, q_cl (by omega)]; omega
  rw [e]
  exact c2
theorem q_51 (L : Nat) : (360 : Int32) + (51 : Int32) * nI L = nI (360 + 51 * L) := by
  rw [show (51 : Int32) * nI L = nI (51 * L) from q_mul 51 L]
  exact q_add 360 _
theorem z_erase {n : Nat} {x1 : Int32} {M : m_M} (hn : 1600 < n) (h : k_Inv M) : q_T (f_X7_erase n x1 M) (fun a => z_eq a (f_X8_erase x1 a.2)) := by
  obtain ⟨C, C0, C1, hM⟩ := h
  obtain ⟨⟨hV, hA, hE⟩, hI⟩ := id hM
  unfold f_X7_erase
  refine q_bd ?_
  rw [e_law7]
  rcases e_in_of (x := x1) (n := 2) (by omega) with ⟨e1, _⟩ | ⟨e1, L, hL, rfl⟩
  · refine q_it e1 (q_some ?_)
    unfold z_eq f_X8_erase
    refine q_bd ?_
    rw [e_law8]
    exact q_it e1 (q_some ⟨rfl, C, C0, C1, hM⟩)
  refine q_if (by rw [e1]; decide) (q_gd (q_in hL (by decide)) ?_)
  rw [q_cl (by omega), show (1 + 3) + 1 + 5 * L = 5 + 5 * L by omega]
  obtain ⟨p1, p2⟩ := k_lawp hA hL
  obtain ⟨r1, r2⟩ := k_lawe hE hL
  have hk : q_T (f_X4_empty n (5 + 5 * L) M) (fun a => a.1 = nI (k_t C L) ∧ a.2.1 (5 + 5 * L) 1 = 0 ∧ k_Z (5 + 5 * L) a.2 0 (k_x C L)) := by
    unfold f_X4_empty
    refine q_bd (q_ob (q_mono (q_TH (v_Z (T := 0) (t := fun _ => 0) (tx := k_x C L) hn (by omega) (by omega) (fun _ => by show 0 < 128; omega) (by rw [q_r, if_pos ⟨rfl, rfl⟩]; rfl) (fun j hj => absurd hj (Nat.not_lt_zero _)) (fun j hj => absurd hj (Nat.not_lt_zero _))) (g_X4_parse n (5 + 5 * L) _)) (fun M2 h2 => q_some ⟨p1, ?_, h2.1⟩)))
    rw [h2.2.1 (5 + 5 * L) 1 (by unfold w_6; omega), q_r, if_pos ⟨rfl, rfl⟩]
  refine q_o2 (q_mono (q_TH hk (g_X4_empty n (5 + 5 * L) M)) (fun a ha => q_some ?_))
  obtain ⟨⟨a1, a2, a3⟩, g⟩ := ha
  unfold z_eq f_X8_erase
  refine q_bd ?_
  rw [e_law8]
  refine q_if (by rw [e1]; decide) ?_
  rw [q_51]
  refine q_gd (q_in (by omega) (by decide)) (q_bd (q_bd (q_some ?_)))
  rw [q_cl (by omega)]
  have e173 : ∀ j, a.2.1 173 j = M.1 173 j := fun j => g.1 173 j (by unfold w_25; omega)
  refine ⟨?_, k_setl C L 0 (k_x C L), C0, C1, k_M_mk hM (k_setl_V hV (by omega) (fun j hj => absurd hj (Nat.not_lt_zero _))) (k_setl_A hL hA (fun i j q1 q2 q3 => ?_) (fun i j q1 q2 => ?_) ?_ (fun j hj => absurd hj (Nat.not_lt_zero _)) ?_) (k_setl_E hL hV (by omega) hE (fun j q => ?_) ?_ (fun j hj => absurd hj (Nat.not_lt_zero _))) (fun i j q => ?_) (fun i j q => ?_)⟩
  · show a.1 = a.2.1 173 (360 + 51 * L)
    rw [a1, e173, r1]
  · rw [q_r, if_neg (by omega), g.1 i j (by unfold w_25; omega)]
  · exact g.2 i j (by unfold w_5; omega)
  · rw [q_r, if_neg (by omega), a2]
    rfl
  · obtain ⟨fl, val, y, y'⟩ := a3
    exact ⟨fl, val, e_YC_fr y (fun j => by rw [q_r, if_neg (by omega)]) (fun j => by rw [q_r, if_neg (by omega)]) (fun j => rfl), y'⟩
  · rw [q_r, if_neg (by omega), e173]
  · rw [q_r, if_pos ⟨rfl, rfl⟩]
    rfl
  · rw [q_r, if_neg (by omega), g.1 i j (by unfold w_25; omega)]
  · exact g.2 i j (by unfold w_5; omega)
theorem z_fault {n : Nat} {x1 : Int32} {M : m_M} (hn : 200 < n) (h : k_Inv M) : q_T (f_X7_fault x1 M) (fun a => q_T (f_X8_fault n x1 M) (fun b => a = b.1 ∧ k_Inv b.2)) := by
  obtain ⟨C, C0, C1, hM⟩ := h
  obtain ⟨⟨hV, hA, hE⟩, hI⟩ := id hM
  unfold f_X7_fault
  refine q_bd ?_
  rw [e_law7]
  rcases e_in_of (x := x1) (n := 2) (by omega) with ⟨e1, _⟩ | ⟨e1, L, hL, rfl⟩
  · refine q_it e1 (q_some ?_)
    unfold f_X8_fault
    refine q_bd ?_
    rw [e_law8]
    exact q_it e1 (q_some ⟨rfl, C, C0, C1, hM⟩)
  refine q_if (by rw [e1]; decide) (q_gd (q_in hL (by decide)) (q_some ?_))
  rw [q_cl (by omega), show (1 + 3) + 1 + 5 * L = 5 + 5 * L by omega]
  obtain ⟨fl, val, y1, y2⟩ := k_law hA hL
  obtain ⟨r1, r2⟩ := k_lawe hE hL
  unfold f_X8_fault
  refine q_bd ?_
  rw [e_law8]
  refine q_if (by rw [e1]; decide) (q_bd (q_o2 (q_mono (q_TH (y2 n L (m_sI M 172 36 (nI L)) hn hL (by rw [q_r, if_pos ⟨rfl, rfl⟩]) (by rw [q_r, if_neg (by omega), r1]) (fun j hj => by rw [q_r, if_neg (by omega), r2 j hj])) (g_X8_reads n _)) (fun b hb => q_some ?_))))
  obtain ⟨⟨b1, b2, b3⟩, g⟩ := hb
  refine ⟨y1.1.trans b2.symm, C, C0, C1, k_M_fr2 hM ⟨fun i j q => ?_, fun i j q => ?_⟩ (fun i j q => ?_)⟩
  · rw [g.1 i j (by unfold w_58; omega), q_r, if_neg (by omega)]
  · exact g.2 i j (by unfold w_59; omega)
  · exact g.2 i j (by unfold w_59; omega)
