/-! FRAMES 4 -/
theorem g_X8_reads_b312 (n : Nat) (q26 : Int32 → Int32 → Int32 → m_M → Option (Int32 × m_M)) (x1 : Int32) (x2 : Int32) (x3 : Int32) (x4 : Int32) (M : m_M) (hq26 : ∀ (a0 : Int32) (a1 : Int32) (a2 : Int32) (M : m_M), q_H (q26 a0 a1 a2 M) (fun a => g_fr w_58 w_59 M a.2)) : q_H (f_X8_reads_b312 n q26 x1 x2 x3 x4 M) (fun a => g_fr w_58 w_59 M a.2) := by
  have hM : g_fr w_58 w_59 M M := g_rf
  unfold f_X8_reads_b312
  refine g_bv (fun r18 => ?_)
  refine g_if (fun _ => ?_) (fun _ => ?_)
  · skip
    refine g_if (fun _ => ?_) (fun _ => ?_)
    · skip
      refine g_if (fun _ => ?_) (fun _ => ?_)
      · skip
        refine g_oM (g_X8_workDown n 1 M) (fun i j h => (h.elim (fun h => Or.inr (Or.inr (Or.inl (h)))) (fun h => (h.elim (fun h => Or.inr (Or.inr (Or.inr (Or.inl (h))))) (fun h => absurd h (Nat.lt_irrefl i)))))) (fun i j h => (h.elim (fun h => Or.inr (Or.inl (h))) (fun h => absurd h (Nat.lt_irrefl i)))) hM (fun M22 hM22 => ?_)
        exact g_tP (hq26 x1 x2 0 M22) g_id g_id hM22
      · skip
        exact g_tP (g_X8_reads_b465 n q26 x1 x2 x3 M hq26) g_id g_id hM
    · skip
      exact g_tP (g_X8_reads_b465 n q26 x1 x2 x3 M hq26) g_id g_id hM
  · skip
    refine g_bv (fun r23 => ?_)
    refine g_if (fun _ => ?_) (fun _ => ?_)
    · skip
      exact g_tP (g_X8_reads_b339 n q26 x1 x2 x3 x4 4 M hq26) g_id g_id hM
    · skip
      refine g_bv (fun r25 => ?_)
      exact g_tP (g_X8_reads_b339 n q26 x1 x2 x3 x4 r25 M hq26) g_id g_id hM
theorem g_X8_reads_b155 (n : Nat) (q26 : Int32 → Int32 → Int32 → m_M → Option (Int32 × m_M)) (x1 : Int32) (x2 : Int32) (x3 : Int32) (s1 : Int32) (s2 : Int32) (M : m_M) (hq26 : ∀ (a0 : Int32) (a1 : Int32) (a2 : Int32) (M : m_M), q_H (q26 a0 a1 a2 M) (fun a => g_fr w_58 w_59 M a.2)) : q_H (f_X8_reads_b155 n q26 x1 x2 x3 s1 s2 M) (fun a => g_fr w_58 w_59 M a.2) := by
  have hM : g_fr w_58 w_59 M M := g_rf
  unfold f_X8_reads_b155
  refine g_gd (fun z1 => ?_)
  have y1 := g_lt z1
  refine g_bI hM (Or.inr (Or.inr (Or.inr (Or.inr (Or.inl (by omega)))))) (fun M27 hM27 => ?_)
  refine g_bI hM27 (Or.inr (Or.inr (Or.inr (Or.inl (by omega))))) (fun M28 hM28 => ?_)
  exact g_tP (hq26 x1 x2 x3 M28) g_id g_id hM28
theorem g_X8_reads_b121 (n : Nat) (q26 : Int32 → Int32 → Int32 → m_M → Option (Int32 × m_M)) (x1 : Int32) (x2 : Int32) (x3 : Int32) (x4 : Int32) (M : m_M) (hq26 : ∀ (a0 : Int32) (a1 : Int32) (a2 : Int32) (M : m_M), q_H (q26 a0 a1 a2 M) (fun a => g_fr w_58 w_59 M a.2)) : q_H (f_X8_reads_b121 n q26 x1 x2 x3 x4 M) (fun a => g_fr w_58 w_59 M a.2) := by
  have hM : g_fr w_58 w_59 M M := g_rf
  unfold f_X8_reads_b121
  refine g_bI hM (Or.inl (by omega)) (fun M29 hM29 => ?_)
  refine g_if (fun _ => ?_) (fun _ => ?_)
  · skip
    exact g_tP (g_X8_reads_b155 n q26 x1 x2 x3 (M29.1 172 42) 1001 M29 hq26) g_id g_id hM29
  · skip
    exact g_tP (g_X8_reads_b155 n q26 x1 x2 x3 (M29.1 172 42) 1002 M29 hq26) g_id g_id hM29
theorem g_X8_reads_b220 (n : Nat) (q26 : Int32 → Int32 → Int32 → m_M → Option (Int32 × m_M)) (x1 : Int32) (x2 : Int32) (x3 : Int32) (x4 : Int32) (M : m_M) (hq26 : ∀ (a0 : Int32) (a1 : Int32) (a2 : Int32) (M : m_M), q_H (q26 a0 a1 a2 M) (fun a => g_fr w_58 w_59 M a.2)) : q_H (f_X8_reads_b220 n q26 x1 x2 x3 x4 M) (fun a => g_fr w_58 w_59 M a.2) := by
  have hM : g_fr w_58 w_59 M M := g_rf
  unfold f_X8_reads_b220
  refine g_if (fun _ => ?_) (fun _ => ?_)
  · skip
    refine g_bI hM (Or.inr (Or.inl (by omega))) (fun M33 hM33 => ?_)
    exact g_tP (hq26 x1 x2 x3 M33) g_id g_id hM33
  · skip
    refine g_bI hM (Or.inr (Or.inl (by omega))) (fun M32 hM32 => ?_)
    exact g_tP (hq26 x1 x2 x3 M32) g_id g_id hM32
theorem g_X8_reads_b26 (n : Nat) : ∀ (u : Nat) (x1 : Int32) (x2 : Int32) (x3 : Int32) (M : m_M), q_H (f_X8_reads_b26 n u x1 x2 x3 M) (fun a => g_fr w_58 w_59 M a.2) := by
  intro u
  induction u with
  | zero => exact fun _ _ _ _ _ h => nomatch h
  | succ u ih =>
    intro x1 x2 x3 M
    have hM : g_fr w_58 w_59 M M := g_rf
    rw [f_X8_reads_b26]
    refine g_if (fun _ => ?_) (fun _ => ?_)
    · skip
      exact g_tP (g_X8_reads_b481 n M) g_id g_id hM
    · skip
      refine g_if (fun _ => ?_) (fun _ => ?_)
      · skip
        refine g_o2 (g_X8_ahead n M) (fun i j h => (h.elim (fun h => Or.inl (h)) (fun h => absurd h (Nat.lt_irrefl i)))) (fun i j h => absurd h (Nat.lt_irrefl i)) hM (fun r36 M37 hM37 => ?_)
        refine g_if (fun _ => ?_) (fun _ => ?_)
        · skip
          refine g_if (fun _ => ?_) (fun _ => ?_)
          · skip
            refine g_if (fun _ => ?_) (fun _ => ?_)
            · skip
              exact g_tP (g_X8_reads_b312 n (f_X8_reads_b26 n u) x1 x2 x3 r36 M37 ih) g_id g_id hM37
            · skip
              refine g_bI hM37 (Or.inl (by omega)) (fun M41 hM41 => ?_)
              refine g_oM (g_X8_workDown n 1 M41) (fun i j h => (h.elim (fun h => Or.inr (Or.inr (Or.inl (h)))) (fun h => (h.elim (fun h => Or.inr (Or.inr (Or.inr (Or.inl (h))))) (fun h => absurd h (Nat.lt_irrefl i)))))) (fun i j h => (h.elim (fun h => Or.inr (Or.inl (h))) (fun h => absurd h (Nat.lt_irrefl i)))) hM41 (fun M42 hM42 => ?_)
              refine g_bI hM42 (Or.inr (Or.inr (Or.inr (Or.inl (by omega))))) (fun M43 hM43 => ?_)
              refine g_bI hM43 (Or.inr (Or.inr (Or.inl (by omega)))) (fun M44 hM44 => ?_)
              refine g_gd (fun z1 => ?_)
              have y1 := g_lt z1
              refine g_oM (g_X8_stands n (M44.2 192 ((M44.1 172 40).toNatClampNeg)) M44) (fun i j h => (h.elim (fun h => Or.inr (Or.inr (Or.inl (h)))) (fun h => (h.elim (fun h => Or.inr (Or.inr (Or.inr (Or.inl (h))))) (fun h => absurd h (Nat.lt_irrefl i)))))) (fun i j h => (h.elim (fun h => Or.inr (Or.inl (h))) (fun h => absurd h (Nat.lt_irrefl i)))) hM44 (fun M46 hM46 => ?_)
              exact g_tP (ih (x1 + (-1)) x2 x3 M46) g_id g_id hM46
          · skip
            exact g_tP (g_X8_reads_b312 n (f_X8_reads_b26 n u) x1 x2 x3 r36 M37 ih) g_id g_id hM37
        · skip
          refine g_bv (fun r47 => ?_)
          refine g_if (fun _ => ?_) (fun _ => ?_)
          · skip
            refine g_bv (fun r50 => ?_)
            refine g_if (fun _ => ?_) (fun _ => ?_)
            · skip
              refine g_if (fun _ => ?_) (fun _ => ?_)
              · skip
                exact g_tP (g_X8_reads_b121 n (f_X8_reads_b26 n u) x1 x2 x3 r36 M37 ih) g_id g_id hM37
              · skip
                refine g_if (fun _ => ?_) (fun _ => ?_)
                · skip
                  exact g_tP (g_X8_reads_b121 n (f_X8_reads_b26 n u) x1 x2 x3 r36 M37 ih) g_id g_id hM37
                · skip
                  refine g_if (fun _ => ?_) (fun _ => ?_)
                  · skip
                    refine g_if (fun _ => ?_) (fun _ => ?_)
                    · skip
                      exact g_tP (g_X8_reads_b220 n (f_X8_reads_b26 n u) x1 x2 x3 r36 M37 ih) g_id g_id hM37
                    · skip
                      refine g_bI hM37 (Or.inl (by omega)) (fun M56 hM56 => ?_)
                      refine g_gd (fun z2 => ?_)
                      have y2 := g_lt z2
                      refine g_bI hM56 (Or.inr (Or.inr (Or.inr (Or.inr (Or.inl (by omega)))))) (fun M58 hM58 => ?_)
                      refine g_bI hM58 (Or.inr (Or.inr (Or.inr (Or.inl (by omega))))) (fun M59 hM59 => ?_)
                      exact g_tP (ih (x1 + 1) x2 x3 M59) g_id g_id hM59
                  · skip
                    exact g_tP (g_X8_reads_b220 n (f_X8_reads_b26 n u) x1 x2 x3 r36 M37 ih) g_id g_id hM37
            · skip
              refine g_bI hM37 (Or.inl (by omega)) (fun M60 hM60 => ?_)
              refine g_bv (fun r61 => ?_)
              refine g_gd (fun z3 => ?_)
              have y3 := g_lt z3
              refine g_oM (g_X8_stands n (M60.2 194 r61.toNatClampNeg) M60) (fun i j h => (h.elim (fun h => Or.inr (Or.inr (Or.inl (h)))) (fun h => (h.elim (fun h => Or.inr (Or.inr (Or.inr (Or.inl (h))))) (fun h => absurd h (Nat.lt_irrefl i)))))) (fun i j h => (h.elim (fun h => Or.inr (Or.inl (h))) (fun h => absurd h (Nat.lt_irrefl i)))) hM60 (fun M63 hM63 => ?_)
              exact g_tP (ih x1 0 x3 M63) g_id g_id hM63
          · skip
            refine g_o2 (g_X8_digits n M37) (fun i j h => (h.elim (fun h => Or.inl (h)) (fun h => (h.elim (fun h => Or.inr (Or.inl (h))) (fun h => absurd h (Nat.lt_irrefl i)))))) (fun i j h => absurd h (Nat.lt_irrefl i)) hM37 (fun r64 M65 hM65 => ?_)
            refine g_oM (g_X8_stands n r64 M65) (fun i j h => (h.elim (fun h => Or.inr (Or.inr (Or.inl (h)))) (fun h => (h.elim (fun h => Or.inr (Or.inr (Or.inr (Or.inl (h))))) (fun h => absurd h (Nat.lt_irrefl i)))))) (fun i j h => (h.elim (fun h => Or.inr (Or.inl (h))) (fun h => absurd h (Nat.lt_irrefl i)))) hM65 (fun M66 hM66 => ?_)
            exact g_tP (ih x1 0 x3 M66) g_id g_id hM66
      · skip
        exact g_tP (g_X8_reads_b481 n M) g_id g_id hM
theorem g_X8_reads (n : Nat) (M : m_M) : q_H (f_X8_reads n M) (fun a => g_fr w_58 w_59 M a.2) := by
  have hM : g_fr w_58 w_59 M M := g_rf
  unfold f_X8_reads
  refine g_bI hM (Or.inl (by omega)) (fun M67 hM67 => ?_)
  refine g_bI hM67 (Or.inr (Or.inl (by omega))) (fun M68 hM68 => ?_)
  refine g_bI hM68 (Or.inr (Or.inr (Or.inl (by omega)))) (fun M69 hM69 => ?_)
  refine g_bI hM69 (Or.inr (Or.inr (Or.inr (Or.inl (by omega))))) (fun M70 hM70 => ?_)
  exact g_tP (g_X8_reads_b26 n n 0 1 1 M70) g_id g_id hM70
theorem g_X8_netOf_b114 (n : Nat) (x1 : Int32) (x2 : Int32) (x3 : Int32) (x4 : Int32) (s0 : Int64) (M : m_M) : q_H (f_X8_netOf_b114 n x1 x2 x3 x4 s0 M) (fun a => g_fr w_60 w_61 M a.2) := by
  have hM : g_fr w_60 w_61 M M := g_rf
  unfold f_X8_netOf_b114
  refine g_if (fun _ => ?_) (fun _ => ?_)
  · skip
    refine g_if (fun _ => ?_) (fun _ => ?_)
    · skip
      exact g_sp hM
    · skip
      exact g_sp hM
  · skip
    exact g_sp hM
theorem g_X8_netOf (n : Nat) (x1 : Int32) (x2 : Int32) (x3 : Int32) (x4 : Int32) (M : m_M) : q_H (f_X8_netOf n x1 x2 x3 x4 M) (fun a => g_fr w_60 w_61 M a.2) := by
  have hM : g_fr w_60 w_61 M M := g_rf
  unfold f_X8_netOf
  refine g_ov (fun r3 => ?_)
  refine g_bL hM (Or.inr (Or.inr (Or.inl (by omega)))) (fun M4 hM4 => ?_)
  refine g_ov (fun r5 => ?_)
  refine g_bL hM4 (Or.inr (Or.inr (Or.inr (Or.inl (by omega))))) (fun M6 hM6 => ?_)
  refine g_ov (fun r7 => ?_)
  refine g_bL hM6 (Or.inr (Or.inr (Or.inr (Or.inr (Or.inl (by omega)))))) (fun M8 hM8 => ?_)
  refine g_ov (fun r9 => ?_)
  refine g_bL hM8 (Or.inr (Or.inr (Or.inr (Or.inr (Or.inr (Or.inl (by omega))))))) (fun M10 hM10 => ?_)
  refine g_bL hM10 (Or.inr (Or.inr (Or.inr (Or.inr (Or.inr (Or.inr (Or.inl (by omega)))))))) (fun M11 hM11 => ?_)
  refine g_bI hM11 (Or.inl (by omega)) (fun M12 hM12 => ?_)
  refine g_o2 (g_X8_reads n M12) (fun i j h => (h.elim (fun h => Or.inr (Or.inl (h))) (fun h => (h.elim (fun h => Or.inr (Or.inr (Or.inl (h)))) (fun h => (h.elim (fun h => Or.inr (Or.inr (Or.inr (Or.inl (h))))) (fun h => (h.elim (fun h => Or.inr (Or.inr (Or.inr (Or.inr (Or.inl (h)))))) (fun h => (h.elim (fun h => Or.inr (Or.inr (Or.inr (Or.inr (Or.inr (Or.inl (h))))))) (fun h => absurd h (Nat.lt_irrefl i)))))))))))) (fun i j h => (h.elim (fun h => Or.inl (h)) (fun h => (h.elim (fun h => Or.inr (Or.inl (h))) (fun h => absurd h (Nat.lt_irrefl i)))))) hM12 (fun r13 M14 hM14 => ?_)
  refine g_if (fun _ => ?_) (fun _ => ?_)
  · skip
    exact g_tP (g_X8_netOf_b114 n x1 x2 x3 x4 (((((M14.2 194 0) + (M14.2 194 1)) - (M14.2 194 2)) - (M14.2 194 3)) + (M14.2 194 4)) M14) g_id g_id hM14
  · skip
    exact g_tP (g_X8_netOf_b114 n x1 x2 x3 x4 (M14.2 172 44) M14) g_id g_id hM14
theorem g_X8_findNets_b33 (n : Nat) (q23 : Int32 → m_M → Option m_M) (hq23 : ∀ (a0 : Int32) (M : m_M), q_H (q23 a0 M) (fun a => g_fr w_62 w_61 M a)) : ∀ (u : Nat) (x1 : Int32) (x2 : Int32) (M : m_M), q_H (f_X8_findNets_b33 n q23 u x1 x2 M) (fun a => g_fr w_62 w_61 M a) := by
  intro u
  induction u with
  | zero => exact fun _ _ _ _ h => nomatch h
  | succ u ih =>
    intro x1 x2 M
    have hM : g_fr w_62 w_61 M M := g_rf
    rw [f_X8_findNets_b33]
    refine g_bv (fun r1 => ?_)
    refine g_if (fun _ => ?_) (fun _ => ?_)
    · skip
      exact g_tM (hq23 (x1 + 1) M) g_id g_id hM
    · skip
      refine g_o2 (g_X8_netOf n x2 0 0 0 M) (fun i j h => (h.elim (fun h => Or.inl (h)) (fun h => (h.elim (fun h => Or.inr (Or.inl (h))) (fun h => (h.elim (fun h => Or.inr (Or.inr (Or.inl (h)))) (fun h => (h.elim (fun h => Or.inr (Or.inr (Or.inr (Or.inl (h))))) (fun h => (h.elim (fun h => Or.inr (Or.inr (Or.inr (Or.inr (Or.inl (h)))))) (fun h => (h.elim (fun h => Or.inr (Or.inr (Or.inr (Or.inr (Or.inr (Or.inl (h))))))) (fun h => absurd h (Nat.lt_irrefl i)))))))))))))) g_id hM (fun r3 M4 hM4 => ?_)
      refine g_gd (fun z1 => ?_)
      have y1 := g_lt z1
      refine g_bI hM4 (Or.inr (Or.inr (Or.inr (Or.inr (Or.inr (Or.inr (Or.inl (by omega)))))))) (fun M6 hM6 => ?_)
      exact g_tM (ih x1 (x2 + 1) M6) g_id g_id hM6
theorem g_X8_findNets_b23 (n : Nat) : ∀ (u : Nat) (x1 : Int32) (M : m_M), q_H (f_X8_findNets_b23 n u x1 M) (fun a => g_fr w_62 w_61 M a) := by
  intro u
  induction u with
  | zero => exact fun _ _ _ h => nomatch h
  | succ u ih =>
    intro x1 M
    have hM : g_fr w_62 w_61 M M := g_rf
    rw [f_X8_findNets_b23]
    refine g_bv (fun r7 => ?_)
    refine g_if (fun _ => ?_) (fun _ => ?_)
    · skip
      exact g_sm hM
    · skip
      exact g_tM (g_X8_findNets_b33 n (f_X8_findNets_b23 n u) ih n x1 0 M) g_id g_id hM
theorem g_X8_findNets_b2 (n : Nat) : ∀ (u : Nat) (x1 : Int32) (M : m_M), q_H (f_X8_findNets_b2 n u x1 M) (fun a => g_fr w_62 w_61 M a) := by
  intro u
  induction u with
  | zero => exact fun _ _ _ h => nomatch h
  | succ u ih =>
    intro x1 M
    have hM : g_fr w_62 w_61 M M := g_rf
    rw [f_X8_findNets_b2]
    refine g_if (fun _ => ?_) (fun _ => ?_)
    · skip
      exact g_tM (g_X8_findNets_b23 n n 0 M) g_id g_id hM
    · skip
      refine g_gd (fun z1 => ?_)
      have y1 := g_lt z1
      refine g_bI hM (Or.inr (Or.inr (Or.inr (Or.inr (Or.inr (Or.inr (Or.inl (by omega)))))))) (fun M11 hM11 => ?_)
      exact g_tM (ih (x1 + 1) M11) g_id g_id hM11
theorem g_X8_findNets (n : Nat) (M : m_M) : q_H (f_X8_findNets n M) (fun a => g_fr w_62 w_61 M a) := by
  have hM : g_fr w_62 w_61 M M := g_rf
  unfold f_X8_findNets
  exact g_tM (g_X8_findNets_b2 n n 0 M) g_id g_id hM
theorem g_X8_layAll (n : Nat) (x1 : Int32) (M : m_M) : q_H (f_X8_layAll n x1 M) (fun a => g_fr w_63 w_61 M a) := by
  have hM : g_fr w_63 w_61 M M := g_rf
  unfold f_X8_layAll
  refine g_oM (g_X8_layDay n x1 M) (fun i j h => (h.elim (fun h => Or.inl (h)) (fun h => (h.elim (fun h => Or.inr (Or.inl (h))) (fun h => (h.elim (fun h => Or.inr (Or.inr (Or.inl (h)))) (fun h => (h.elim (fun h => Or.inr (Or.inr (Or.inr (Or.inl (h))))) (fun h => (h.elim (fun h => Or.inr (Or.inr (Or.inr (Or.inr (Or.inr (Or.inr (Or.inr (Or.inr (Or.inr (Or.inl (h))))))))))) (fun h => absurd h (Nat.lt_irrefl i)))))))))))) (fun i j h => absurd h (Nat.lt_irrefl i)) hM (fun M1 hM1 => ?_)
  refine g_oM (g_X8_findNets n M1) (fun i j h => (h.elim (fun h => Or.inr (Or.inr (Or.inr (Or.inr (Or.inl (h)))))) (fun h => (h.elim (fun h => Or.inr (Or.inr (Or.inr (Or.inr (Or.inr (Or.inl (h))))))) (fun h => (h.elim (fun h => Or.inr (Or.inr (Or.inr (Or.inr (Or.inr (Or.inr (Or.inl (h)))))))) (fun h => (h.elim (fun h => Or.inr (Or.inr (Or.inr (Or.inr (Or.inr (Or.inr (Or.inr (Or.inl (h))))))))) (fun h => (h.elim (fun h => Or.inr (Or.inr (Or.inr (Or.inr (Or.inr (Or.inr (Or.inr (Or.inr (Or.inl (h)))))))))) (fun h => (h.elim (fun h => Or.inr (Or.inr (Or.inr (Or.inr (Or.inr (Or.inr (Or.inr (Or.inr (Or.inr (Or.inr (Or.inl (h)))))))))))) (fun h => (h.elim (fun h => Or.inr (Or.inr (Or.inr (Or.inr (Or.inr (Or.inr (Or.inr (Or.inr (Or.inr (Or.inr (Or.inr (Or.inl (h))))))))))))) (fun h => absurd h (Nat.lt_irrefl i)))))))))))))))) g_id hM1 (fun M2 hM2 => ?_)
  exact g_sm hM2
theorem g_X8_layToday (n : Nat) (x1 : Int32) (M : m_M) : q_H (f_X8_layToday n x1 M) (fun a => g_fr w_64 w_61 M a) := by
  have hM : g_fr w_64 w_61 M M := g_rf
  unfold f_X8_layToday
  refine g_bI hM (Or.inr (Or.inr (Or.inl (by omega)))) (fun M1 hM1 => ?_)
  refine g_oM (g_X8_layAll n x1 M1) (fun i j h => (h.elim (fun h => Or.inl (h)) (fun h => (h.elim (fun h => Or.inr (Or.inl (h))) (fun h => (h.elim (fun h => Or.inr (Or.inr (Or.inr (Or.inl (h))))) (fun h => (h.elim (fun h => Or.inr (Or.inr (Or.inr (Or.inr (Or.inl (h)))))) (fun h => (h.elim (fun h => Or.inr (Or.inr (Or.inr (Or.inr (Or.inr (Or.inl (h))))))) (fun h => (h.elim (fun h => Or.inr (Or.inr (Or.inr (Or.inr (Or.inr (Or.inr (Or.inl (h)))))))) (fun h => (h.elim (fun h => Or.inr (Or.inr (Or.inr (Or.inr (Or.inr (Or.inr (Or.inr (Or.inl (h))))))))) (fun h => (h.elim (fun h => Or.inr (Or.inr (Or.inr (Or.inr (Or.inr (Or.inr (Or.inr (Or.inr (Or.inl (h)))))))))) (fun h => (h.elim (fun h => Or.inr (Or.inr (Or.inr (Or.inr (Or.inr (Or.inr (Or.inr (Or.inr (Or.inr (Or.inl (h))))))))))) (fun h => (h.elim (fun h => Or.inr (Or.inr (Or.inr (Or.inr (Or.inr (Or.inr (Or.inr (Or.inr (Or.inr (Or.inr (Or.inl (h)))))))))))) (fun h => (h.elim (fun h => Or.inr (Or.inr (Or.inr (Or.inr (Or.inr (Or.inr (Or.inr (Or.inr (Or.inr (Or.inr (Or.inr (Or.inl (h))))))))))))) (fun h => (h.elim (fun h => Or.inr (Or.inr (Or.inr (Or.inr (Or.inr (Or.inr (Or.inr (Or.inr (Or.inr (Or.inr (Or.inr (Or.inr (Or.inl (h)))))))))))))) (fun h => absurd h (Nat.lt_irrefl i)))))))))))))))))))))))))) g_id hM1 (fun M2 hM2 => ?_)
  exact g_sm hM2
theorem g_X8_answers (n : Nat) (x1 : Int32) (x2 : Int32) (M : m_M) : q_H (f_X8_answers n x1 x2 M) (fun a => g_fr w_64 w_61 M a.2) := by
  have hM : g_fr w_64 w_61 M M := g_rf
  unfold f_X8_answers
  refine g_o2 (g_X8_isAsked n x1 x2 M) (fun i j h => (h.elim (fun h => Or.inl (h)) (fun h => (h.elim (fun h => Or.inr (Or.inl (h))) (fun h => (h.elim (fun h => Or.inr (Or.inr (Or.inl (h)))) (fun h => (h.elim (fun h => Or.inr (Or.inr (Or.inr (Or.inl (h))))) (fun h => (h.elim (fun h => Or.inr (Or.inr (Or.inr (Or.inr (Or.inl (h)))))) (fun h => (h.elim (fun h => Or.inr (Or.inr (Or.inr (Or.inr (Or.inr (Or.inr (Or.inr (Or.inr (Or.inr (Or.inr (Or.inl (h)))))))))))) (fun h => absurd h (Nat.lt_irrefl i)))))))))))))) (fun i j h => absurd h (Nat.lt_irrefl i)) hM (fun r1 M2 hM2 => ?_)
  refine g_if (fun _ => ?_) (fun _ => ?_)
  · skip
    exact g_sp hM2
  · skip
    refine g_ov (fun r5 => ?_)
    refine g_if (fun _ => ?_) (fun _ => ?_)
    · skip
      refine g_oM (g_X8_layToday n x2 M2) g_id g_id hM2 (fun M8 hM8 => ?_)
      refine g_ov (fun r9 => ?_)
      exact g_sp hM8
    · skip
      exact g_sp hM2
theorem g_X8_shareOf_b75 (x1 : Int32) (x2 : Int64) (x8 : Int32) (s1 : Int64) (M : m_M) : q_H (f_X8_shareOf_b75 x1 x2 x8 s1 M) (fun a => g_fr w_1 w_65 M a) := by
  have hM : g_fr w_1 w_65 M M := g_rf
  unfold f_X8_shareOf_b75
  refine g_bL hM (Or.inl (by omega)) (fun M1 hM1 => ?_)
  refine g_if (fun _ => ?_) (fun _ => ?_)
  · skip
    refine g_bL hM1 (Or.inr (Or.inl (by omega))) (fun M3 hM3 => ?_)
    exact g_sm hM3
  · skip
    refine g_bL hM1 (Or.inr (Or.inl (by omega))) (fun M4 hM4 => ?_)
    exact g_sm hM4
theorem g_X8_shareOf_b57 (x1 : Int32) (x2 : Int64) (x4 : Int64) (x6 : Int64) (s0 : Int32) (M : m_M) : q_H (f_X8_shareOf_b57 x1 x2 x4 x6 s0 M) (fun a => g_fr w_1 w_65 M a) := by
  have hM : g_fr w_1 w_65 M M := g_rf
  unfold f_X8_shareOf_b57
  refine g_if (fun _ => ?_) (fun _ => ?_)
  · skip
    exact g_tM (g_X8_shareOf_b75 x1 x2 s0 (x6 * x4) M) g_id g_id hM
  · skip
    exact g_tM (g_X8_shareOf_b75 x1 x2 s0 x4 M) g_id g_id hM
theorem g_X8_shareOf (x1 : Int32) (x2 : Int64) (M : m_M) : q_H (f_X8_shareOf x1 x2 M) (fun a => g_fr w_1 w_65 M a) := by
  have hM : g_fr w_1 w_65 M M := g_rf
  unfold f_X8_shareOf
  refine g_ov (fun r6 => ?_)
  refine g_ov (fun r7 => ?_)
  refine g_ov (fun r8 => ?_)
  refine g_gd (fun z1 => ?_)
  have y1 := g_lt z1
  refine g_bv (fun t10 => ?_)
  refine g_bL hM (Or.inl (by omega)) (fun M11 hM11 => ?_)
  refine g_bL hM11 (Or.inr (Or.inl (by omega))) (fun M12 hM12 => ?_)
  refine g_if (fun _ => ?_) (fun _ => ?_)
  · skip
    exact g_sm hM12
  · skip
    refine g_if (fun _ => ?_) (fun _ => ?_)
    · skip
      exact g_tM (g_X8_shareOf_b57 x1 x2 r6.toInt64 t10 0 M12) g_id g_id hM12
    · skip
      exact g_tM (g_X8_shareOf_b57 x1 x2 r6.toInt64 t10 1 M12) g_id g_id hM12
theorem g_X8_askOf_b180 (n : Nat) (x1 : Int32) (x2 : Int32) (x3 : Int32) : ∀ (u : Nat) (x5 : Int64) (x7 : Int32) (M : m_M), q_H (f_X8_askOf_b180 n x1 x2 x3 u x5 x7 M) (fun a => g_fr w_60 w_66 M a) := by
  intro u
  induction u with
  | zero => exact fun _ _ _ _ h => nomatch h
  | succ u ih =>
    intro x5 x7 M
    have hM : g_fr w_60 w_66 M M := g_rf
    rw [f_X8_askOf_b180]
    refine g_if (fun _ => ?_) (fun _ => ?_)
    · skip
      refine g_oM (g_X8_shareOf x1 x5 M) (fun i j h => absurd h (Nat.lt_irrefl i)) (fun i j h => (h.elim (fun h => Or.inr (Or.inl (h))) (fun h => (h.elim (fun h => Or.inr (Or.inr (Or.inl (h)))) (fun h => absurd h (Nat.lt_irrefl i)))))) hM (fun M2 hM2 => ?_)
      exact g_sm hM2
    · skip
      refine g_ov (fun r3 => ?_)
      refine g_ov (fun r4 => ?_)
      refine g_if (fun _ => ?_) (fun _ => ?_)
      · skip
        refine g_ov (fun r6 => ?_)
        refine g_ov (fun r7 => ?_)
        refine g_if (fun _ => ?_) (fun _ => ?_)
        · skip
          refine g_ov (fun r9 => ?_)
          exact g_tM (ih (x5 + r9.toInt64) (x7 + 1) M) g_id g_id hM
        · skip
          exact g_tM (ih (x5 + (0 : Int64)) (x7 + 1) M) g_id g_id hM
      · skip
        exact g_tM (ih (x5 + (0 : Int64)) (x7 + 1) M) g_id g_id hM
theorem g_X8_askOf_b130 (n : Nat) (x1 : Int32) (x2 : Int32) (x3 : Int32) (x4 : Int32) (s0 : Int32) (M : m_M) : q_H (f_X8_askOf_b130 n x1 x2 x3 x4 s0 M) (fun a => g_fr w_60 w_66 M a) := by
  have hM : g_fr w_60 w_66 M M := g_rf
  unfold f_X8_askOf_b130
  refine g_if (fun _ => ?_) (fun _ => ?_)
  · skip
    refine g_bL hM (Or.inr (Or.inl (by omega))) (fun M11 hM11 => ?_)
    exact g_sm hM11
  · skip
    refine g_bL hM (Or.inr (Or.inl (by omega))) (fun M12 hM12 => ?_)
    exact g_sm hM12
theorem g_X8_askOf (n : Nat) (x1 : Int32) (x2 : Int32) (x3 : Int32) (M : m_M) : q_H (f_X8_askOf n x1 x2 x3 M) (fun a => g_fr w_60 w_66 M a) := by
  have hM : g_fr w_60 w_66 M M := g_rf
  unfold f_X8_askOf
  refine g_bL hM (Or.inr (Or.inl (by omega))) (fun M13 hM13 => ?_)
  refine g_bL hM13 (Or.inr (Or.inr (Or.inl (by omega)))) (fun M14 hM14 => ?_)
  refine g_ov (fun r15 => ?_)
  refine g_if (fun _ => ?_) (fun _ => ?_)
  · skip
    exact g_sm hM14
  · skip
    refine g_ov (fun r17 => ?_)
    refine g_if (fun _ => ?_) (fun _ => ?_)
    · skip
      refine g_gd (fun z1 => ?_)
      have y1 := g_lt z1
      refine g_if (fun _ => ?_) (fun _ => ?_)
      · skip
        refine g_if (fun _ => ?_) (fun _ => ?_)
        · skip
          refine g_bL hM14 (Or.inr (Or.inl (by omega))) (fun M41 hM41 => ?_)
          exact g_sm hM41
        · skip
          refine g_bL hM14 (Or.inr (Or.inl (by omega))) (fun M42 hM42 => ?_)
          exact g_sm hM42
      · skip
        refine g_bL hM14 (Or.inr (Or.inl (by omega))) (fun M39 hM39 => ?_)
        exact g_sm hM39
    · skip
      refine g_if (fun _ => ?_) (fun _ => ?_)
      · skip
        refine g_ov (fun r32 => ?_)
        refine g_if (fun _ => ?_) (fun _ => ?_)
        · skip
          refine g_ov (fun r34 => ?_)
          refine g_bL hM14 (Or.inr (Or.inl (by omega))) (fun M35 hM35 => ?_)
          exact g_sm hM35
        · skip
          refine g_bL hM14 (Or.inr (Or.inl (by omega))) (fun M36 hM36 => ?_)
          exact g_sm hM36
      · skip
        refine g_if (fun _ => ?_) (fun _ => ?_)
        · skip
          refine g_ov (fun r25 => ?_)
          refine g_if (fun _ => ?_) (fun _ => ?_)
          · skip
            exact g_tM (g_X8_askOf_b130 n x1 x2 x3 r17 0 M14) g_id g_id hM14
          · skip
            refine g_ov (fun r28 => ?_)
            refine g_ov (fun r29 => ?_)
            refine g_o2 (g_X8_netOf n r28 x3 0 r29 M14) g_id (fun i j h => (h.elim (fun h => Or.inl (h)) (fun h => (h.elim (fun h => Or.inr (Or.inr (Or.inr (Or.inl (h))))) (fun h => (h.elim (fun h => Or.inr (Or.inr (Or.inr (Or.inr (Or.inl (h)))))) (fun h => (h.elim (fun h => Or.inr (Or.inr (Or.inr (Or.inr (Or.inr (Or.inl (h))))))) (fun h => (h.elim (fun h => Or.inr (Or.inr (Or.inr (Or.inr (Or.inr (Or.inr (Or.inl (h)))))))) (fun h => (h.elim (fun h => Or.inr (Or.inr (Or.inr (Or.inr (Or.inr (Or.inr (Or.inr (Or.inl (h))))))))) (fun h => (h.elim (fun h => Or.inr (Or.inr (Or.inr (Or.inr (Or.inr (Or.inr (Or.inr (Or.inr (Or.inl (h)))))))))) (fun h => absurd h (Nat.lt_irrefl i)))))))))))))))) hM14 (fun r30 M31 hM31 => ?_)
            exact g_tM (g_X8_askOf_b130 n x1 x2 x3 r17 r30 M31) g_id g_id hM31
        · skip
          refine g_gd (fun z2 => ?_)
          have y2 := g_lt z2
          refine g_if (fun _ => ?_) (fun _ => ?_)
          · skip
            exact g_sm hM14
          · skip
            refine g_ov (fun r23 => ?_)
            refine g_ov (fun r24 => ?_)
            exact g_tM (g_X8_askOf_b180 n x1 x2 x3 n r24.toInt64 0 M14) g_id g_id hM14
theorem g_X8_tell_b6 (n : Nat) (x1 : Int64) (x3 : Int64) : ∀ (u : Nat) (x5 : Int64) (x7 : Int64) (M : m_M), q_H (f_X8_tell_b6 n x1 x3 u x5 x7 M) (fun a => g_fr w_1 w_67 M a) := by
  intro u
  induction u with
  | zero => exact fun _ _ _ _ h => nomatch h
  | succ u ih =>
    intro x5 x7 M
    have hM : g_fr w_1 w_67 M M := g_rf
    rw [f_X8_tell_b6]
    refine g_if (fun _ => ?_) (fun _ => ?_)
    · skip
      refine g_gd (fun _ => ?_)
      refine g_bL hM (Or.inl (by omega)) (fun M3 hM3 => ?_)
      refine g_gd (fun _ => ?_)
      refine g_bL hM3 (Or.inr (Or.inl (by omega))) (fun M5 hM5 => ?_)
      exact g_sm hM5
    · skip
      refine g_gd (fun _ => ?_)
      exact g_tM (ih x7 (x5 - x5 / x7 * x7) M) g_id g_id hM
theorem g_X8_tell (n : Nat) (x1 : Int64) (x3 : Int64) (M : m_M) : q_H (f_X8_tell n x1 x3 M) (fun a => g_fr w_1 w_67 M a) := by
  have hM : g_fr w_1 w_67 M M := g_rf
  unfold f_X8_tell
  exact g_tM (g_X8_tell_b6 n x1 x3 n x1 x3 M) g_id g_id hM
theorem g_X8_ask (n : Nat) (x1 : Int32) (x2 : Int32) (x3 : Int32) (M : m_M) : q_H (f_X8_ask n x1 x2 x3 M) (fun a => g_fr w_64 w_68 M a.2) := by
  have hM : g_fr w_64 w_68 M M := g_rf
  unfold f_X8_ask
  refine g_o2 (g_X8_isAsked n x1 x3 M) (fun i j h => (h.elim (fun h => Or.inl (h)) (fun h => (h.elim (fun h => Or.inr (Or.inl (h))) (fun h => (h.elim (fun h => Or.inr (Or.inr (Or.inl (h)))) (fun h => (h.elim (fun h => Or.inr (Or.inr (Or.inr (Or.inl (h))))) (fun h => (h.elim (fun h => Or.inr (Or.inr (Or.inr (Or.inr (Or.inl (h)))))) (fun h => (h.elim (fun h => Or.inr (Or.inr (Or.inr (Or.inr (Or.inr (Or.inr (Or.inr (Or.inr (Or.inr (Or.inr (Or.inl (h)))))))))))) (fun h => absurd h (Nat.lt_irrefl i)))))))))))))) (fun i j h => absurd h (Nat.lt_irrefl i)) hM (fun r1 M2 hM2 => ?_)
  refine g_if (fun _ => ?_) (fun _ => ?_)
  · skip
    exact g_sp hM2
  · skip
    refine g_bv (fun r5 => ?_)
    refine g_if (fun _ => ?_) (fun _ => ?_)
    · skip
      exact g_sp hM2
    · skip
      refine g_ov (fun r8 => ?_)
      refine g_if (fun _ => ?_) (fun _ => ?_)
      · skip
        refine g_oM (g_X8_layToday n x3 M2) g_id (fun i j h => (h.elim (fun h => Or.inr (Or.inr (Or.inl (h)))) (fun h => (h.elim (fun h => Or.inr (Or.inr (Or.inr (Or.inr (Or.inr (Or.inl (h))))))) (fun h => (h.elim (fun h => Or.inr (Or.inr (Or.inr (Or.inr (Or.inr (Or.inr (Or.inl (h)))))))) (fun h => (h.elim (fun h => Or.inr (Or.inr (Or.inr (Or.inr (Or.inr (Or.inr (Or.inr (Or.inl (h))))))))) (fun h => (h.elim (fun h => Or.inr (Or.inr (Or.inr (Or.inr (Or.inr (Or.inr (Or.inr (Or.inr (Or.inl (h)))))))))) (fun h => (h.elim (fun h => Or.inr (Or.inr (Or.inr (Or.inr (Or.inr (Or.inr (Or.inr (Or.inr (Or.inr (Or.inl (h))))))))))) (fun h => (h.elim (fun h => Or.inr (Or.inr (Or.inr (Or.inr (Or.inr (Or.inr (Or.inr (Or.inr (Or.inr (Or.inr (Or.inl (h)))))))))))) (fun h => absurd h (Nat.lt_irrefl i)))))))))))))))) hM2 (fun M11 hM11 => ?_)
        refine g_oM (g_X8_askOf n x1 x2 0 M11) (fun i j h => (h.elim (fun h => Or.inr (Or.inr (Or.inr (Or.inr (Or.inr (Or.inl (h))))))) (fun h => (h.elim (fun h => Or.inr (Or.inr (Or.inr (Or.inr (Or.inr (Or.inr (Or.inl (h)))))))) (fun h => (h.elim (fun h => Or.inr (Or.inr (Or.inr (Or.inr (Or.inr (Or.inr (Or.inr (Or.inl (h))))))))) (fun h => (h.elim (fun h => Or.inr (Or.inr (Or.inr (Or.inr (Or.inr (Or.inr (Or.inr (Or.inr (Or.inl (h)))))))))) (fun h => (h.elim (fun h => Or.inr (Or.inr (Or.inr (Or.inr (Or.inr (Or.inr (Or.inr (Or.inr (Or.inr (Or.inl (h))))))))))) (fun h => (h.elim (fun h => Or.inr (Or.inr (Or.inr (Or.inr (Or.inr (Or.inr (Or.inr (Or.inr (Or.inr (Or.inr (Or.inr (Or.inl (h))))))))))))) (fun h => absurd h (Nat.lt_irrefl i)))))))))))))) (fun i j h => (h.elim (fun h => Or.inr (Or.inr (Or.inl (h)))) (fun h => (h.elim (fun h => Or.inr (Or.inr (Or.inr (Or.inl (h))))) (fun h => (h.elim (fun h => Or.inr (Or.inr (Or.inr (Or.inr (Or.inl (h)))))) (fun h => (h.elim (fun h => Or.inr (Or.inr (Or.inr (Or.inr (Or.inr (Or.inl (h))))))) (fun h => (h.elim (fun h => Or.inr (Or.inr (Or.inr (Or.inr (Or.inr (Or.inr (Or.inl (h)))))))) (fun h => (h.elim (fun h => Or.inr (Or.inr (Or.inr (Or.inr (Or.inr (Or.inr (Or.inr (Or.inl (h))))))))) (fun h => (h.elim (fun h => Or.inr (Or.inr (Or.inr (Or.inr (Or.inr (Or.inr (Or.inr (Or.inr (Or.inl (h)))))))))) (fun h => (h.elim (fun h => Or.inr (Or.inr (Or.inr (Or.inr (Or.inr (Or.inr (Or.inr (Or.inr (Or.inr (Or.inl (h))))))))))) (fun h => (h.elim (fun h => Or.inr (Or.inr (Or.inr (Or.inr (Or.inr (Or.inr (Or.inr (Or.inr (Or.inr (Or.inr (Or.inl (h)))))))))))) (fun h => absurd h (Nat.lt_irrefl i)))))))))))))))))))) hM11 (fun M12 hM12 => ?_)
        refine g_oM (g_X8_tell n (M12.2 172 46) (M12.2 172 47) M12) (fun i j h => absurd h (Nat.lt_irrefl i)) (fun i j h => (h.elim (fun h => Or.inl (h)) (fun h => (h.elim (fun h => Or.inr (Or.inl (h))) (fun h => absurd h (Nat.lt_irrefl i)))))) hM12 (fun M13 hM13 => ?_)
        exact g_sp hM13
      · skip
        exact g_sp hM2
theorem g_X8_best_b40 (n : Nat) (x1 : Int32) (x2 : Int32) : ∀ (u : Nat) (x3 : Int32) (x4 : Int64) (x6 : Int64) (x8 : Int32) (M : m_M), q_H (f_X8_best_b40 n x1 x2 u x3 x4 x6 x8 M) (fun a => g_fr w_64 w_66 M a.2) := by
  intro u
  induction u with
  | zero => exact fun _ _ _ _ _ _ h => nomatch h
  | succ u ih =>
    intro x3 x4 x6 x8 M
    have hM : g_fr w_64 w_66 M M := g_rf
    rw [f_X8_best_b40]
    refine g_if (fun _ => ?_) (fun _ => ?_)
    · skip
      exact g_sp hM
    · skip
      refine g_oM (g_X8_askOf n x1 x8 0 M) (fun i j h => (h.elim (fun h => Or.inr (Or.inr (Or.inr (Or.inr (Or.inr (Or.inl (h))))))) (fun h => (h.elim (fun h => Or.inr (Or.inr (Or.inr (Or.inr (Or.inr (Or.inr (Or.inl (h)))))))) (fun h => (h.elim (fun h => Or.inr (Or.inr (Or.inr (Or.inr (Or.inr (Or.inr (Or.inr (Or.inl (h))))))))) (fun h => (h.elim (fun h => Or.inr (Or.inr (Or.inr (Or.inr (Or.inr (Or.inr (Or.inr (Or.inr (Or.inl (h)))))))))) (fun h => (h.elim (fun h => Or.inr (Or.inr (Or.inr (Or.inr (Or.inr (Or.inr (Or.inr (Or.inr (Or.inr (Or.inl (h))))))))))) (fun h => (h.elim (fun h => Or.inr (Or.inr (Or.inr (Or.inr (Or.inr (Or.inr (Or.inr (Or.inr (Or.inr (Or.inr (Or.inr (Or.inl (h))))))))))))) (fun h => absurd h (Nat.lt_irrefl i)))))))))))))) g_id hM (fun M2 hM2 => ?_)
      refine g_if (fun _ => ?_) (fun _ => ?_)
      · skip
        exact g_tP (ih x3 x4 x6 (x8 + 1) M2) g_id g_id hM2
      · skip
        exact g_tP (ih x8 (M2.2 172 46) (M2.2 172 47) (x8 + 1) M2) g_id g_id hM2
theorem g_X8_best (n : Nat) (x1 : Int32) (x2 : Int32) (M : m_M) : q_H (f_X8_best n x1 x2 M) (fun a => g_fr w_64 w_66 M a.2) := by
  have hM : g_fr w_64 w_66 M M := g_rf
  unfold f_X8_best
  refine g_o2 (g_X8_isAsked n x1 x2 M) (fun i j h => (h.elim (fun h => Or.inl (h)) (fun h => (h.elim (fun h => Or.inr (Or.inl (h))) (fun h => (h.elim (fun h => Or.inr (Or.inr (Or.inl (h)))) (fun h => (h.elim (fun h => Or.inr (Or.inr (Or.inr (Or.inl (h))))) (fun h => (h.elim (fun h => Or.inr (Or.inr (Or.inr (Or.inr (Or.inl (h)))))) (fun h => (h.elim (fun h => Or.inr (Or.inr (Or.inr (Or.inr (Or.inr (Or.inr (Or.inr (Or.inr (Or.inr (Or.inr (Or.inl (h)))))))))))) (fun h => absurd h (Nat.lt_irrefl i)))))))))))))) (fun i j h => absurd h (Nat.lt_irrefl i)) hM (fun r4 M5 hM5 => ?_)
  refine g_if (fun _ => ?_) (fun _ => ?_)
  · skip
    exact g_sp hM5
  · skip
    refine g_ov (fun r8 => ?_)
    refine g_if (fun _ => ?_) (fun _ => ?_)
    · skip
      refine g_oM (g_X8_layToday n x2 M5) g_id (fun i j h => (h.elim (fun h => Or.inl (h)) (fun h => (h.elim (fun h => Or.inr (Or.inr (Or.inr (Or.inl (h))))) (fun h => (h.elim (fun h => Or.inr (Or.inr (Or.inr (Or.inr (Or.inl (h)))))) (fun h => (h.elim (fun h => Or.inr (Or.inr (Or.inr (Or.inr (Or.inr (Or.inl (h))))))) (fun h => (h.elim (fun h => Or.inr (Or.inr (Or.inr (Or.inr (Or.inr (Or.inr (Or.inl (h)))))))) (fun h => (h.elim (fun h => Or.inr (Or.inr (Or.inr (Or.inr (Or.inr (Or.inr (Or.inr (Or.inl (h))))))))) (fun h => (h.elim (fun h => Or.inr (Or.inr (Or.inr (Or.inr (Or.inr (Or.inr (Or.inr (Or.inr (Or.inl (h)))))))))) (fun h => absurd h (Nat.lt_irrefl i)))))))))))))))) hM5 (fun M11 hM11 => ?_)
      exact g_tP (g_X8_best_b40 n x1 x2 n (-1) 0 1 0 M11) g_id g_id hM11
    · skip
      exact g_sp hM5
theorem g_X8_clear (M : m_M) : g_fr w_69 w_1 M (f_X8_clear M).2 := by
  unfold f_X8_clear
  simp only [m_bd, f_X8_persons, f_X8_lined]
  repeat' split
  all_goals (repeat' (first | exact g_rf | refine g_sI ?_ (by first | exact Or.inl (by omega))))
theorem g_X8_count (n : Nat) (x1 : Int32) (M : m_M) : q_H (f_X8_count n x1 M) (fun a => g_fr w_54 w_1 M a.2) := by
  have hM : g_fr w_54 w_1 M M := g_rf
  unfold f_X8_count
  refine g_if (fun _ => ?_) (fun _ => ?_)
  · skip
    refine g_bv (fun r2 => ?_)
    exact g_sp hM
  · skip
    refine g_if (fun _ => ?_) (fun _ => ?_)
    · skip
      refine g_bv (fun r4 => ?_)
      exact g_sp hM
    · skip
      refine g_if (fun _ => ?_) (fun _ => ?_)
      · skip
        refine g_bI hM (Or.inr (Or.inr (Or.inl (by omega)))) (fun M6 hM6 => ?_)
        refine g_oM (g_X8_layDay n 999 M6) (fun i j h => (h.elim (fun h => Or.inl (h)) (fun h => (h.elim (fun h => Or.inr (Or.inl (h))) (fun h => (h.elim (fun h => Or.inr (Or.inr (Or.inr (Or.inl (h))))) (fun h => (h.elim (fun h => Or.inr (Or.inr (Or.inr (Or.inr (Or.inl (h)))))) (fun h => (h.elim (fun h => Or.inr (Or.inr (Or.inr (Or.inr (Or.inr (Or.inl (h))))))) (fun h => absurd h (Nat.lt_irrefl i)))))))))))) g_id hM6 (fun M7 hM7 => ?_)
        exact g_sp hM7
      · skip
        refine g_if (fun _ => ?_) (fun _ => ?_)
        · skip
          refine g_ov (fun r9 => ?_)
          exact g_sp hM
        · skip
          refine g_if (fun _ => ?_) (fun _ => ?_)
          · skip
            refine g_bv (fun r11 => ?_)
            exact g_sp hM
          · skip
            refine g_if (fun _ => ?_) (fun _ => ?_)
            · skip
              exact g_sp hM
            · skip
              exact g_sp hM
theorem g_X8_digest_b172 (n : Nat) : ∀ (u : Nat) (x1 : Int64) (x3 : Int32) (M : m_M), q_H (f_X8_digest_b172 n u x1 x3 M) (fun a => g_fr w_64 w_61 M a.2) := by
  intro u
  induction u with
  | zero => exact fun _ _ _ _ h => nomatch h
  | succ u ih =>
    intro x1 x3 M
    have hM : g_fr w_64 w_61 M M := g_rf
    rw [f_X8_digest_b172]
    refine g_bv (fun r1 => ?_)
    refine g_if (fun _ => ?_) (fun _ => ?_)
    · skip
      exact g_sp hM
    · skip
      refine g_gd (fun z1 => ?_)
      have y1 := g_lt z1
      refine g_ov (fun r4 => ?_)
      refine g_bv (fun t5 => ?_)
      refine g_o2 (g_X8_netOf n x3 0 0 0 M) (fun i j h => (h.elim (fun h => Or.inr (Or.inr (Or.inr (Or.inr (Or.inr (Or.inl (h))))))) (fun h => (h.elim (fun h => Or.inr (Or.inr (Or.inr (Or.inr (Or.inr (Or.inr (Or.inl (h)))))))) (fun h => (h.elim (fun h => Or.inr (Or.inr (Or.inr (Or.inr (Or.inr (Or.inr (Or.inr (Or.inl (h))))))))) (fun h => (h.elim (fun h => Or.inr (Or.inr (Or.inr (Or.inr (Or.inr (Or.inr (Or.inr (Or.inr (Or.inl (h)))))))))) (fun h => (h.elim (fun h => Or.inr (Or.inr (Or.inr (Or.inr (Or.inr (Or.inr (Or.inr (Or.inr (Or.inr (Or.inl (h))))))))))) (fun h => (h.elim (fun h => Or.inr (Or.inr (Or.inr (Or.inr (Or.inr (Or.inr (Or.inr (Or.inr (Or.inr (Or.inr (Or.inr (Or.inl (h))))))))))))) (fun h => absurd h (Nat.lt_irrefl i)))))))))))))) g_id hM (fun r6 M7 hM7 => ?_)
      refine g_o2 (g_X8_netOf n x3 1 0 0 M7) (fun i j h => (h.elim (fun h => Or.inr (Or.inr (Or.inr (Or.inr (Or.inr (Or.inl (h))))))) (fun h => (h.elim (fun h => Or.inr (Or.inr (Or.inr (Or.inr (Or.inr (Or.inr (Or.inl (h)))))))) (fun h => (h.elim (fun h => Or.inr (Or.inr (Or.inr (Or.inr (Or.inr (Or.inr (Or.inr (Or.inl (h))))))))) (fun h => (h.elim (fun h => Or.inr (Or.inr (Or.inr (Or.inr (Or.inr (Or.inr (Or.inr (Or.inr (Or.inl (h)))))))))) (fun h => (h.elim (fun h => Or.inr (Or.inr (Or.inr (Or.inr (Or.inr (Or.inr (Or.inr (Or.inr (Or.inr (Or.inl (h))))))))))) (fun h => (h.elim (fun h => Or.inr (Or.inr (Or.inr (Or.inr (Or.inr (Or.inr (Or.inr (Or.inr (Or.inr (Or.inr (Or.inr (Or.inl (h))))))))))))) (fun h => absurd h (Nat.lt_irrefl i)))))))))))))) g_id hM7 (fun r8 M9 hM9 => ?_)
      refine g_bv (fun t10 => ?_)
      exact g_tP (ih t10 (x3 + 1) M9) g_id g_id hM9
theorem g_X8_digest_b131 (n : Nat) : ∀ (u : Nat) (x1 : Int64) (x3 : Int32) (M : m_M), q_H (f_X8_digest_b131 n u x1 x3 M) (fun a => g_fr w_64 w_61 M a.2) := by
  intro u
  induction u with
  | zero => exact fun _ _ _ _ h => nomatch h
  | succ u ih =>
    intro x1 x3 M
    have hM : g_fr w_64 w_61 M M := g_rf
    rw [f_X8_digest_b131]
    refine g_bv (fun r11 => ?_)
    refine g_if (fun _ => ?_) (fun _ => ?_)
    · skip
      refine g_oM (g_X8_layToday n 999 M) g_id g_id hM (fun M13 hM13 => ?_)
      exact g_tP (g_X8_digest_b172 n n x1 0 M13) g_id g_id hM13
    · skip
      refine g_gd (fun z1 => ?_)
      have y1 := g_lt z1
      refine g_bv (fun t15 => ?_)
      exact g_tP (ih t15 (x3 + 1) M) g_id g_id hM
theorem g_X8_digest_b75 (n : Nat) (q67 : Int64 → Int32 → m_M → Option (Int64 × m_M)) (hq67 : ∀ (a0 : Int64) (a1 : Int32) (M : m_M), q_H (q67 a0 a1 M) (fun a => g_fr w_64 w_61 M a.2)) : ∀ (u : Nat) (x1 : Int64) (x3 : Int32) (x4 : Int32) (M : m_M), q_H (f_X8_digest_b75 n q67 u x1 x3 x4 M) (fun a => g_fr w_64 w_61 M a.2) := by
  intro u
  induction u with
  | zero => exact fun _ _ _ _ _ h => nomatch h
  | succ u ih =>
    intro x1 x3 x4 M
    have hM : g_fr w_64 w_61 M M := g_rf
    rw [f_X8_digest_b75]
    refine g_gd (fun z1 => ?_)
    have y1 := g_lt z1
    refine g_if (fun _ => ?_) (fun _ => ?_)
    · skip
      exact g_tP (hq67 x1 (x3 + 1) M) g_id g_id hM
    · skip
      refine g_gd (fun z2 => ?_)
      have y2 := g_lt z2
      refine g_bv (fun t19 => ?_)
      exact g_tP (ih t19 x3 (x4 + 1) M) g_id g_id hM
theorem g_X8_digest_b67 (n : Nat) : ∀ (u : Nat) (x1 : Int64) (x3 : Int32) (M : m_M), q_H (f_X8_digest_b67 n u x1 x3 M) (fun a => g_fr w_64 w_61 M a.2) := by
  intro u
  induction u with
  | zero => exact fun _ _ _ _ h => nomatch h
  | succ u ih =>
    intro x1 x3 M
    have hM : g_fr w_64 w_61 M M := g_rf
    rw [f_X8_digest_b67]
    refine g_if (fun _ => ?_) (fun _ => ?_)
    · skip
      exact g_tP (g_X8_digest_b131 n n x1 0 M) g_id g_id hM
    · skip
      exact g_tP (g_X8_digest_b75 n (f_X8_digest_b67 n u) ih n x1 x3 0 M) g_id g_id hM
theorem g_X8_digest_b32 (n : Nat) : ∀ (u : Nat) (x1 : Int64) (x3 : Int32) (M : m_M), q_H (f_X8_digest_b32 n u x1 x3 M) (fun a => g_fr w_64 w_61 M a.2) := by
  intro u
  induction u with
  | zero => exact fun _ _ _ _ h => nomatch h
  | succ u ih =>
    intro x1 x3 M
    have hM : g_fr w_64 w_61 M M := g_rf
    rw [f_X8_digest_b32]
    refine g_bv (fun r21 => ?_)
    refine g_if (fun _ => ?_) (fun _ => ?_)
    · skip
      exact g_tP (g_X8_digest_b67 n n x1 0 M) g_id g_id hM
    · skip
      refine g_gd (fun z1 => ?_)
      have y1 := g_lt z1
      refine g_bv (fun t24 => ?_)
      exact g_tP (ih t24 (x3 + 1) M) g_id g_id hM
theorem g_X8_digest_b6 (n : Nat) : ∀ (u : Nat) (x1 : Int64) (x3 : Int32) (M : m_M), q_H (f_X8_digest_b6 n u x1 x3 M) (fun a => g_fr w_64 w_61 M a.2) := by
  intro u
  induction u with
  | zero => exact fun _ _ _ _ h => nomatch h
  | succ u ih =>
    intro x1 x3 M
    have hM : g_fr w_64 w_61 M M := g_rf
    rw [f_X8_digest_b6]
    refine g_if (fun _ => ?_) (fun _ => ?_)
    · skip
      exact g_tP (g_X8_digest_b32 n n x1 0 M) g_id g_id hM
    · skip
      refine g_o2 (g_X8_count n x3 M) (fun i j h => (h.elim (fun h => Or.inl (h)) (fun h => (h.elim (fun h => Or.inr (Or.inl (h))) (fun h => (h.elim (fun h => Or.inr (Or.inr (Or.inl (h)))) (fun h => (h.elim (fun h => Or.inr (Or.inr (Or.inr (Or.inl (h))))) (fun h => (h.elim (fun h => Or.inr (Or.inr (Or.inr (Or.inr (Or.inl (h)))))) (fun h => (h.elim (fun h => Or.inr (Or.inr (Or.inr (Or.inr (Or.inr (Or.inr (Or.inr (Or.inr (Or.inr (Or.inr (Or.inl (h)))))))))))) (fun h => absurd h (Nat.lt_irrefl i)))))))))))))) (fun i j h => absurd h (Nat.lt_irrefl i)) hM (fun r26 M27 hM27 => ?_)
      refine g_bv (fun t28 => ?_)
      exact g_tP (ih t28 (x3 + 1) M27) g_id g_id hM27
theorem g_X8_digest (n : Nat) (M : m_M) : q_H (f_X8_digest n M) (fun a => g_fr w_64 w_61 M a.2) := by
  have hM : g_fr w_64 w_61 M M := g_rf
  unfold f_X8_digest
  exact g_tP (g_X8_digest_b6 n n 491 0 M) g_id g_id hM
theorem g_X8_doubt_b81 (n : Nat) (x1 : Int32) (x2 : Int32) (M : m_M) : q_H (f_X8_doubt_b81 n x1 x2 M) (fun a => g_fr w_70 w_1 M a.2) := by
  have hM : g_fr w_70 w_1 M M := g_rf
  unfold f_X8_doubt_b81
  refine g_if (fun _ => ?_) (fun _ => ?_)
  · skip
    refine g_gd (fun z1 => ?_)
    have y1 := g_lt z1
    refine g_bI hM (Or.inl (by omega)) (fun M3 hM3 => ?_)
    exact g_sp hM3
  · skip
    refine g_gd (fun z2 => ?_)
    have y2 := g_lt z2
    refine g_bI hM (Or.inl (by omega)) (fun M5 hM5 => ?_)
    exact g_sp hM5
theorem g_X8_doubt_b59 (n : Nat) (x1 : Int32) (x2 : Int32) (s0 : Int32) (M : m_M) : q_H (f_X8_doubt_b59 n x1 x2 s0 M) (fun a => g_fr w_70 w_1 M a.2) := by
  have hM : g_fr w_70 w_1 M M := g_rf
  unfold f_X8_doubt_b59
  refine g_if (fun _ => ?_) (fun _ => ?_)
  · skip
    exact g_sp hM
  · skip
    refine g_if (fun _ => ?_) (fun _ => ?_)
    · skip
      exact g_tP (g_X8_doubt_b81 n x1 x2 M) g_id g_id hM
    · skip
      refine g_ov (fun r8 => ?_)
      refine g_if (fun _ => ?_) (fun _ => ?_)
      · skip
        exact g_sp hM
      · skip
        exact g_tP (g_X8_doubt_b81 n x1 x2 M) g_id g_id hM
theorem g_X8_doubt (n : Nat) (x1 : Int32) (x2 : Int32) (M : m_M) : q_H (f_X8_doubt n x1 x2 M) (fun a => g_fr w_70 w_1 M a.2) := by
  have hM : g_fr w_70 w_1 M M := g_rf
  unfold f_X8_doubt
  refine g_bv (fun r10 => ?_)
  refine g_bv (fun r11 => ?_)
  refine g_if (fun _ => ?_) (fun _ => ?_)
  · skip
    exact g_sp hM
  · skip
    refine g_ov (fun r14 => ?_)
    refine g_if (fun _ => ?_) (fun _ => ?_)
    · skip
      exact g_sp hM
    · skip
      refine g_if (fun _ => ?_) (fun _ => ?_)
      · skip
        exact g_sp hM
      · skip
        refine g_if (fun _ => ?_) (fun _ => ?_)
        · skip
          exact g_sp hM
        · skip
          refine g_ov (fun r18 => ?_)
          refine g_if (fun _ => ?_) (fun _ => ?_)
          · skip
            exact g_tP (g_X8_doubt_b59 n x1 x2 1 M) g_id g_id hM
          · skip
            exact g_tP (g_X8_doubt_b59 n x1 x2 0 M) g_id g_id hM
theorem g_X8_erase (x1 : Int32) (M : m_M) : q_H (f_X8_erase x1 M) (fun a => g_fr w_70 w_1 M a.2) := by
  have hM : g_fr w_70 w_1 M M := g_rf
  unfold f_X8_erase
  refine g_bv (fun r1 => ?_)
  refine g_if (fun _ => ?_) (fun _ => ?_)
  · skip
    exact g_sp hM
  · skip
    refine g_gd (fun z1 => ?_)
    have y1 := g_lt z1
    refine g_bv (fun t5 => ?_)
    refine g_bI hM (Or.inl (by omega)) (fun M6 hM6 => ?_)
    exact g_sp hM6
theorem g_X8_fault (n : Nat) (x1 : Int32) (M : m_M) : q_H (f_X8_fault n x1 M) (fun a => g_fr w_60 w_59 M a.2) := by
  have hM : g_fr w_60 w_59 M M := g_rf
  unfold f_X8_fault
  refine g_bv (fun r1 => ?_)
  refine g_if (fun _ => ?_) (fun _ => ?_)
  · skip
    exact g_sp hM
  · skip
    refine g_bI hM (Or.inl (by omega)) (fun M4 hM4 => ?_)
    refine g_o2 (g_X8_reads n M4) (fun i j h => (h.elim (fun h => Or.inr (Or.inl (h))) (fun h => (h.elim (fun h => Or.inr (Or.inr (Or.inl (h)))) (fun h => (h.elim (fun h => Or.inr (Or.inr (Or.inr (Or.inl (h))))) (fun h => (h.elim (fun h => Or.inr (Or.inr (Or.inr (Or.inr (Or.inl (h)))))) (fun h => (h.elim (fun h => Or.inr (Or.inr (Or.inr (Or.inr (Or.inr (Or.inl (h))))))) (fun h => absurd h (Nat.lt_irrefl i)))))))))))) g_id hM4 (fun r5 M6 hM6 => ?_)
    exact g_sp hM6
theorem g_X8_from_b24 (n : Nat) (x1 : Int32) : ∀ (u : Nat) (x2 : Int32) (M : m_M), q_H (f_X8_from_b24 n x1 u x2 M) (fun a => g_fr w_70 w_1 M a.2) := by
  intro u
  induction u with
  | zero => exact fun _ _ _ h => nomatch h
  | succ u ih =>
    intro x2 M
    have hM : g_fr w_70 w_1 M M := g_rf
    rw [f_X8_from_b24]
    refine g_if (fun _ => ?_) (fun _ => ?_)
    · skip
      exact g_sp hM
    · skip
      refine g_gd (fun z1 => ?_)
      have y1 := g_lt z1
      refine g_gd (fun z2 => ?_)
      have y2 := g_lt z2
      refine g_bI hM (Or.inl (by omega)) (fun M4 hM4 => ?_)
      exact g_tP (ih (x2 + 1) M4) g_id g_id hM4
theorem g_X8_from (n : Nat) (x1 : Int32) (M : m_M) : q_H (f_X8_from n x1 M) (fun a => g_fr w_70 w_1 M a.2) := by
  have hM : g_fr w_70 w_1 M M := g_rf
  unfold f_X8_from
  refine g_bv (fun r5 => ?_)
  refine g_if (fun _ => ?_) (fun _ => ?_)
  · skip
    exact g_sp hM
  · skip
    refine g_gd (fun z1 => ?_)
    have y1 := g_lt z1
    refine g_if (fun _ => ?_) (fun _ => ?_)
    · skip
      exact g_sp hM
    · skip
      exact g_tP (g_X8_from_b24 n x1 n 0 M) g_id g_id hM
theorem g_X8_serve_b170 (n : Nat) (x1 : Int32) (q2 : Int32 → m_M → Option m_M) (x2 : Int32) (x3 : Int32) (s0 : Int32) (M : m_M) (hq2 : ∀ (a0 : Int32) (M : m_M), q_H (q2 a0 M) (fun a => g_fr w_71 w_1 M a)) : q_H (f_X8_serve_b170 n x1 q2 x2 x3 s0 M) (fun a => g_fr w_71 w_1 M a) := by
  have hM : g_fr w_71 w_1 M M := g_rf
  unfold f_X8_serve_b170
  refine g_gd (fun z1 => ?_)
  have y1 := g_lt z1
  refine g_if (fun _ => ?_) (fun _ => ?_)
  · skip
    refine g_bI hM (Or.inl (by omega)) (fun M3 hM3 => ?_)
    exact g_tM (hq2 (x2 + 1) M3) g_id g_id hM3
  · skip
    refine g_bI hM (Or.inl (by omega)) (fun M4 hM4 => ?_)
    exact g_tM (hq2 (x2 + 1) M4) g_id g_id hM4
theorem g_X8_serve_b111 (n : Nat) (x1 : Int32) (q2 : Int32 → m_M → Option m_M) (q63 : Int32 → Int32 → Int32 → Int32 → m_M → Option m_M) (x2 : Int32) (x3 : Int32) (x4 : Int32) (x5 : Int32) (s0 : Int32) (M : m_M) (hq2 : ∀ (a0 : Int32) (M : m_M), q_H (q2 a0 M) (fun a => g_fr w_71 w_1 M a)) (hq63 : ∀ (a0 : Int32) (a1 : Int32) (a2 : Int32) (a3 : Int32) (M : m_M), q_H (q63 a0 a1 a2 a3 M) (fun a => g_fr w_71 w_1 M a)) : q_H (f_X8_serve_b111 n x1 q2 q63 x2 x3 x4 x5 s0 M) (fun a => g_fr w_71 w_1 M a) := by
  have hM : g_fr w_71 w_1 M M := g_rf
  unfold f_X8_serve_b111
  refine g_if (fun _ => ?_) (fun _ => ?_)
  · skip
    exact g_tM (hq63 x2 x3 (x4 - (0 : Int32)) (x5 + 1) M) g_id g_id hM
  · skip
    refine g_gd (fun z1 => ?_)
    have y1 := g_lt z1
    refine g_if (fun _ => ?_) (fun _ => ?_)
    · skip
      refine g_gd (fun z2 => ?_)
      have y2 := g_lt z2
      refine g_bv (fun t9 => ?_)
      exact g_tM (hq63 x2 x3 t9 (x5 + 1) M) g_id g_id hM
    · skip
      exact g_tM (hq63 x2 x3 (x4 - (0 : Int32)) (x5 + 1) M) g_id g_id hM
theorem g_X8_serve_b63 (n : Nat) (x1 : Int32) (q2 : Int32 → m_M → Option m_M) (hq2 : ∀ (a0 : Int32) (M : m_M), q_H (q2 a0 M) (fun a => g_fr w_71 w_1 M a)) : ∀ (u : Nat) (x2 : Int32) (x3 : Int32) (x4 : Int32) (x5 : Int32) (M : m_M), q_H (f_X8_serve_b63 n x1 q2 u x2 x3 x4 x5 M) (fun a => g_fr w_71 w_1 M a) := by
  intro u
  induction u with
  | zero => exact fun _ _ _ _ _ _ h => nomatch h
  | succ u ih =>
    intro x2 x3 x4 x5 M
    have hM : g_fr w_71 w_1 M M := g_rf
    rw [f_X8_serve_b63]
    refine g_if (fun _ => ?_) (fun _ => ?_)
    · skip
      refine g_if (fun _ => ?_) (fun _ => ?_)
      · skip
        exact g_tM (g_X8_serve_b170 n x1 q2 x2 x3 x4 M hq2) g_id g_id hM
      · skip
        exact g_tM (g_X8_serve_b170 n x1 q2 x2 x3 0 M hq2) g_id g_id hM
    · skip
      refine g_gd (fun z1 => ?_)
      have y1 := g_lt z1
      refine g_gd (fun z2 => ?_)
      have y2 := g_lt z2
      refine g_ov (fun r14 => ?_)
      refine g_gd (fun z3 => ?_)
      have y3 := g_lt z3
      refine g_ov (fun r16 => ?_)
      refine g_if (fun _ => ?_) (fun _ => ?_)
      · skip
        exact g_tM (g_X8_serve_b111 n x1 q2 (f_X8_serve_b63 n x1 q2 u) x2 x3 x4 x5 1 M hq2 ih) g_id g_id hM
      · skip
        exact g_tM (g_X8_serve_b111 n x1 q2 (f_X8_serve_b63 n x1 q2 u) x2 x3 x4 x5 0 M hq2 ih) g_id g_id hM
theorem g_X8_serve_b2 (n : Nat) (x1 : Int32) : ∀ (u : Nat) (x2 : Int32) (M : m_M), q_H (f_X8_serve_b2 n x1 u x2 M) (fun a => g_fr w_71 w_1 M a) := by
  intro u
  induction u with
  | zero => exact fun _ _ _ h => nomatch h
  | succ u ih =>
    intro x2 M
    have hM : g_fr w_71 w_1 M M := g_rf
    rw [f_X8_serve_b2]
    refine g_bv (fun r18 => ?_)
    refine g_if (fun _ => ?_) (fun _ => ?_)
    · skip
      exact g_sm hM
    · skip
      refine g_gd (fun z1 => ?_)
      have y1 := g_lt z1
      refine g_gd (fun z2 => ?_)
      have y2 := g_lt z2
      refine g_bI hM (Or.inl (by omega)) (fun M22 hM22 => ?_)
      refine g_if (fun _ => ?_) (fun _ => ?_)
      · skip
        refine g_gd (fun z3 => ?_)
        have y3 := g_lt z3
        refine g_ov (fun r25 => ?_)
        refine g_ov (fun r26 => ?_)
        refine g_bv (fun t27 => ?_)
        exact g_tM (g_X8_serve_b63 n x1 (f_X8_serve_b2 n x1 u) ih n x2 (M.1 199 x2.toNatClampNeg) t27 0 M22) g_id g_id hM22
      · skip
        exact g_tM (ih (x2 + 1) M22) g_id g_id hM22
theorem g_X8_serve (n : Nat) (x1 : Int32) (M : m_M) : q_H (f_X8_serve n x1 M) (fun a => g_fr w_71 w_1 M a) := by
  have hM : g_fr w_71 w_1 M M := g_rf
  unfold f_X8_serve
  exact g_tM (g_X8_serve_b2 n x1 n 0 M) g_id g_id hM
theorem g_X8_getsBy_b154 (n : Nat) (x1 : Int32) (x2 : Int32) (q80 : Int32 → Int64 → Int32 → m_M → Option m_M) (x3 : Int32) (x4 : Int64) (x6 : Int32) (x7 : Int32) (s0 : Int32) (M : m_M) (hq80 : ∀ (a0 : Int32) (a1 : Int64) (a2 : Int32) (M : m_M), q_H (q80 a0 a1 a2 M) (fun a => g_fr w_71 w_65 M a)) : q_H (f_X8_getsBy_b154 n x1 x2 q80 x3 x4 x6 x7 s0 M) (fun a => g_fr w_71 w_65 M a) := by
  have hM : g_fr w_71 w_65 M M := g_rf
  unfold f_X8_getsBy_b154
  refine g_if (fun _ => ?_) (fun _ => ?_)
  · skip
    exact g_tM (hq80 x3 (x4 + (0 : Int64)) (x6 + 1) M) g_id g_id hM
  · skip
    refine g_ov (fun r2 => ?_)
    exact g_tM (hq80 x3 (x4 + r2.toInt64) (x6 + 1) M) g_id g_id hM
theorem g_X8_getsBy_b80 (n : Nat) (x1 : Int32) (x2 : Int32) : ∀ (u : Nat) (x3 : Int32) (x4 : Int64) (x6 : Int32) (M : m_M), q_H (f_X8_getsBy_b80 n x1 x2 u x3 x4 x6 M) (fun a => g_fr w_71 w_65 M a) := by
  intro u
  induction u with
  | zero => exact fun _ _ _ _ _ h => nomatch h
  | succ u ih =>
    intro x3 x4 x6 M
    have hM : g_fr w_71 w_65 M M := g_rf
    rw [f_X8_getsBy_b80]
    refine g_bv (fun r3 => ?_)
    refine g_if (fun _ => ?_) (fun _ => ?_)
    · skip
      refine g_oM (g_X8_shareOf x3 x4 M) (fun i j h => absurd h (Nat.lt_irrefl i)) g_id hM (fun M5 hM5 => ?_)
      exact g_sm hM5
    · skip
      refine g_gd (fun z1 => ?_)
      have y1 := g_lt z1
      refine g_bv (fun t7 => ?_)
      refine g_if (fun _ => ?_) (fun _ => ?_)
      · skip
        refine g_ov (fun r9 => ?_)
        refine g_if (fun _ => ?_) (fun _ => ?_)
        · skip
          exact g_tM (g_X8_getsBy_b154 n x1 x2 (f_X8_getsBy_b80 n x1 x2 u) x3 x4 x6 t7 0 M ih) g_id g_id hM
        · skip
          refine g_ov (fun r12 => ?_)
          refine g_ov (fun r13 => ?_)
          refine g_if (fun _ => ?_) (fun _ => ?_)
          · skip
            refine g_ov (fun r15 => ?_)
            refine g_ov (fun r16 => ?_)
            refine g_if (fun _ => ?_) (fun _ => ?_)
            · skip
              exact g_tM (g_X8_getsBy_b154 n x1 x2 (f_X8_getsBy_b80 n x1 x2 u) x3 x4 x6 t7 1 M ih) g_id g_id hM
            · skip
              exact g_tM (g_X8_getsBy_b154 n x1 x2 (f_X8_getsBy_b80 n x1 x2 u) x3 x4 x6 t7 0 M ih) g_id g_id hM
          · skip
            exact g_tM (g_X8_getsBy_b154 n x1 x2 (f_X8_getsBy_b80 n x1 x2 u) x3 x4 x6 t7 0 M ih) g_id g_id hM
      · skip
        exact g_tM (g_X8_getsBy_b154 n x1 x2 (f_X8_getsBy_b80 n x1 x2 u) x3 x4 x6 t7 0 M ih) g_id g_id hM
theorem g_X8_getsBy (n : Nat) (x1 : Int32) (x2 : Int32) (M : m_M) : q_H (f_X8_getsBy n x1 x2 M) (fun a => g_fr w_71 w_65 M a) := by
  have hM : g_fr w_71 w_65 M M := g_rf
  unfold f_X8_getsBy
  refine g_gd (fun z1 => ?_)
  have y1 := g_lt z1
  refine g_bv (fun t19 => ?_)
  refine g_bL hM (Or.inl (by omega)) (fun M20 hM20 => ?_)
  refine g_bL hM20 (Or.inr (Or.inl (by omega))) (fun M21 hM21 => ?_)
  refine g_ov (fun r22 => ?_)
  refine g_if (fun _ => ?_) (fun _ => ?_)
  · skip
    exact g_sm hM21
  · skip
    refine g_ov (fun r25 => ?_)
    refine g_if (fun _ => ?_) (fun _ => ?_)
    · skip
      exact g_sm hM21
    · skip
      refine g_if (fun _ => ?_) (fun _ => ?_)
      · skip
        refine g_oM (g_X8_serve n x2 M21) g_id (fun i j h => absurd h (Nat.lt_irrefl i)) hM21 (fun M30 hM30 => ?_)
        refine g_gd (fun z2 => ?_)
        have y2 := g_lt z2
        refine g_bL hM30 (Or.inl (by omega)) (fun M32 hM32 => ?_)
        exact g_sm hM32
      · skip
        refine g_ov (fun r28 => ?_)
        refine g_ov (fun r29 => ?_)
        exact g_tM (g_X8_getsBy_b80 n x1 x2 n t19 r29.toInt64 0 M21) g_id g_id hM21
theorem g_X8_layWays_b11 (n : Nat) (x1 : Int32) (x2 : Int32) (x3 : Int32) : ∀ (u : Nat) (x4 : Int32) (x5 : Int32) (M : m_M), q_H (f_X8_layWays_b11 n x1 x2 x3 u x4 x5 M) (fun a => g_fr w_64 w_72 M a.2) := by
  intro u
  induction u with
  | zero => exact fun _ _ _ _ h => nomatch h
  | succ u ih =>
    intro x4 x5 M
    have hM : g_fr w_64 w_72 M M := g_rf
    rw [f_X8_layWays_b11]
    refine g_if (fun _ => ?_) (fun _ => ?_)
    · skip
      refine g_bI hM (Or.inr (Or.inr (Or.inl (by omega)))) (fun M2 hM2 => ?_)
      exact g_sp hM2
    · skip
      refine g_bI hM (Or.inr (Or.inr (Or.inl (by omega)))) (fun M3 hM3 => ?_)
      refine g_oM (g_X8_layAll n x3 M3) (fun i j h => (h.elim (fun h => Or.inl (h)) (fun h => (h.elim (fun h => Or.inr (Or.inl (h))) (fun h => (h.elim (fun h => Or.inr (Or.inr (Or.inr (Or.inl (h))))) (fun h => (h.elim (fun h => Or.inr (Or.inr (Or.inr (Or.inr (Or.inl (h)))))) (fun h => (h.elim (fun h => Or.inr (Or.inr (Or.inr (Or.inr (Or.inr (Or.inl (h))))))) (fun h => (h.elim (fun h => Or.inr (Or.inr (Or.inr (Or.inr (Or.inr (Or.inr (Or.inl (h)))))))) (fun h => (h.elim (fun h => Or.inr (Or.inr (Or.inr (Or.inr (Or.inr (Or.inr (Or.inr (Or.inl (h))))))))) (fun h => (h.elim (fun h => Or.inr (Or.inr (Or.inr (Or.inr (Or.inr (Or.inr (Or.inr (Or.inr (Or.inl (h)))))))))) (fun h => (h.elim (fun h => Or.inr (Or.inr (Or.inr (Or.inr (Or.inr (Or.inr (Or.inr (Or.inr (Or.inr (Or.inl (h))))))))))) (fun h => (h.elim (fun h => Or.inr (Or.inr (Or.inr (Or.inr (Or.inr (Or.inr (Or.inr (Or.inr (Or.inr (Or.inr (Or.inl (h)))))))))))) (fun h => (h.elim (fun h => Or.inr (Or.inr (Or.inr (Or.inr (Or.inr (Or.inr (Or.inr (Or.inr (Or.inr (Or.inr (Or.inr (Or.inl (h))))))))))))) (fun h => (h.elim (fun h => Or.inr (Or.inr (Or.inr (Or.inr (Or.inr (Or.inr (Or.inr (Or.inr (Or.inr (Or.inr (Or.inr (Or.inr (Or.inl (h)))))))))))))) (fun h => absurd h (Nat.lt_irrefl i)))))))))))))))))))))))))) (fun i j h => (h.elim (fun h => Or.inl (h)) (fun h => (h.elim (fun h => Or.inr (Or.inr (Or.inr (Or.inl (h))))) (fun h => (h.elim (fun h => Or.inr (Or.inr (Or.inr (Or.inr (Or.inl (h)))))) (fun h => (h.elim (fun h => Or.inr (Or.inr (Or.inr (Or.inr (Or.inr (Or.inl (h))))))) (fun h => (h.elim (fun h => Or.inr (Or.inr (Or.inr (Or.inr (Or.inr (Or.inr (Or.inl (h)))))))) (fun h => (h.elim (fun h => Or.inr (Or.inr (Or.inr (Or.inr (Or.inr (Or.inr (Or.inr (Or.inl (h))))))))) (fun h => (h.elim (fun h => Or.inr (Or.inr (Or.inr (Or.inr (Or.inr (Or.inr (Or.inr (Or.inr (Or.inl (h)))))))))) (fun h => absurd h (Nat.lt_irrefl i)))))))))))))))) hM3 (fun M4 hM4 => ?_)
      refine g_oM (g_X8_askOf n x1 x2 0 M4) (fun i j h => (h.elim (fun h => Or.inr (Or.inr (Or.inr (Or.inr (Or.inr (Or.inl (h))))))) (fun h => (h.elim (fun h => Or.inr (Or.inr (Or.inr (Or.inr (Or.inr (Or.inr (Or.inl (h)))))))) (fun h => (h.elim (fun h => Or.inr (Or.inr (Or.inr (Or.inr (Or.inr (Or.inr (Or.inr (Or.inl (h))))))))) (fun h => (h.elim (fun h => Or.inr (Or.inr (Or.inr (Or.inr (Or.inr (Or.inr (Or.inr (Or.inr (Or.inl (h)))))))))) (fun h => (h.elim (fun h => Or.inr (Or.inr (Or.inr (Or.inr (Or.inr (Or.inr (Or.inr (Or.inr (Or.inr (Or.inl (h))))))))))) (fun h => (h.elim (fun h => Or.inr (Or.inr (Or.inr (Or.inr (Or.inr (Or.inr (Or.inr (Or.inr (Or.inr (Or.inr (Or.inr (Or.inl (h))))))))))))) (fun h => absurd h (Nat.lt_irrefl i)))))))))))))) (fun i j h => (h.elim (fun h => Or.inl (h)) (fun h => (h.elim (fun h => Or.inr (Or.inl (h))) (fun h => (h.elim (fun h => Or.inr (Or.inr (Or.inl (h)))) (fun h => (h.elim (fun h => Or.inr (Or.inr (Or.inr (Or.inl (h))))) (fun h => (h.elim (fun h => Or.inr (Or.inr (Or.inr (Or.inr (Or.inl (h)))))) (fun h => (h.elim (fun h => Or.inr (Or.inr (Or.inr (Or.inr (Or.inr (Or.inl (h))))))) (fun h => (h.elim (fun h => Or.inr (Or.inr (Or.inr (Or.inr (Or.inr (Or.inr (Or.inl (h)))))))) (fun h => (h.elim (fun h => Or.inr (Or.inr (Or.inr (Or.inr (Or.inr (Or.inr (Or.inr (Or.inl (h))))))))) (fun h => (h.elim (fun h => Or.inr (Or.inr (Or.inr (Or.inr (Or.inr (Or.inr (Or.inr (Or.inr (Or.inl (h)))))))))) (fun h => absurd h (Nat.lt_irrefl i)))))))))))))))))))) hM4 (fun M5 hM5 => ?_)
      refine g_gd (fun z1 => ?_)
      have y1 := g_lt z1
      refine g_bL hM5 (Or.inr (Or.inr (Or.inr (Or.inr (Or.inr (Or.inr (Or.inr (Or.inr (Or.inr (Or.inl (by omega))))))))))) (fun M7 hM7 => ?_)
      refine g_bL hM7 (Or.inr (Or.inr (Or.inr (Or.inr (Or.inr (Or.inr (Or.inr (Or.inr (Or.inr (Or.inl (by omega))))))))))) (fun M8 hM8 => ?_)
      exact g_tP (ih x4 (x5 + 1) M8) g_id g_id hM8
theorem g_X8_layWays (n : Nat) (x1 : Int32) (x2 : Int32) (x3 : Int32) (M : m_M) : q_H (f_X8_layWays n x1 x2 x3 M) (fun a => g_fr w_64 w_72 M a.2) := by
  have hM : g_fr w_64 w_72 M M := g_rf
  unfold f_X8_layWays
  refine g_ov (fun r9 => ?_)
  exact g_tP (g_X8_layWays_b11 n x1 x2 x3 n ((1 : Int32) <<< (r9 &&& 31)) 0 M) g_id g_id hM
theorem g_X8_hangs_b56 (n : Nat) (x1 : Int32) (x2 : Int32) (x3 : Int32) (q46 : Int32 → Int32 → Int32 → m_M → Option (Int32 × m_M)) (hq46 : ∀ (a0 : Int32) (a1 : Int32) (a2 : Int32) (M : m_M), q_H (q46 a0 a1 a2 M) (fun a => g_fr w_64 w_72 M a.2)) : ∀ (u : Nat) (x4 : Int32) (x5 : Int32) (x6 : Int32) (x7 : Int32) (M : m_M), q_H (f_X8_hangs_b56 n x1 x2 x3 q46 u x4 x5 x6 x7 M) (fun a => g_fr w_64 w_72 M a.2) := by
  intro u
  induction u with
  | zero => exact fun _ _ _ _ _ _ h => nomatch h
  | succ u ih =>
    intro x4 x5 x6 x7 M
    have hM : g_fr w_64 w_72 M M := g_rf
    rw [f_X8_hangs_b56]
    refine g_if (fun _ => ?_) (fun _ => ?_)
    · skip
      exact g_tP (hq46 x4 x5 (x6 + 1) M) g_id g_id hM
    · skip
      refine g_bv (fun t2 => ?_)
      refine g_gd (fun z1 => ?_)
      have y1 := g_lt z1
      refine g_gd (fun z2 => ?_)
      have y2 := g_lt z2
      refine g_if (fun _ => ?_) (fun _ => ?_)
      · skip
        exact g_tP (ih x4 (x5 ||| (0 : Int32)) x6 (x7 + 1) M) g_id g_id hM
      · skip
        refine g_bv (fun t6 => ?_)
        exact g_tP (ih x4 t6 x6 (x7 + 1) M) g_id g_id hM
theorem g_X8_hangs_b46 (n : Nat) (x1 : Int32) (x2 : Int32) (x3 : Int32) : ∀ (u : Nat) (x4 : Int32) (x5 : Int32) (x6 : Int32) (M : m_M), q_H (f_X8_hangs_b46 n x1 x2 x3 u x4 x5 x6 M) (fun a => g_fr w_64 w_72 M a.2) := by
  intro u
  induction u with
  | zero => exact fun _ _ _ _ _ h => nomatch h
  | succ u ih =>
    intro x4 x5 x6 M
    have hM : g_fr w_64 w_72 M M := g_rf
    rw [f_X8_hangs_b46]
    refine g_if (fun _ => ?_) (fun _ => ?_)
    · skip
      exact g_sp hM
    · skip
      exact g_tP (g_X8_hangs_b56 n x1 x2 x3 (f_X8_hangs_b46 n x1 x2 x3 u) ih n x4 x5 x6 0 M) g_id g_id hM
theorem g_X8_hangs (n : Nat) (x1 : Int32) (x2 : Int32) (x3 : Int32) (M : m_M) : q_H (f_X8_hangs n x1 x2 x3 M) (fun a => g_fr w_64 w_72 M a.2) := by
  have hM : g_fr w_64 w_72 M M := g_rf
  unfold f_X8_hangs
  refine g_o2 (g_X8_isAsked n x1 x3 M) (fun i j h => (h.elim (fun h => Or.inl (h)) (fun h => (h.elim (fun h => Or.inr (Or.inl (h))) (fun h => (h.elim (fun h => Or.inr (Or.inr (Or.inl (h)))) (fun h => (h.elim (fun h => Or.inr (Or.inr (Or.inr (Or.inl (h))))) (fun h => (h.elim (fun h => Or.inr (Or.inr (Or.inr (Or.inr (Or.inl (h)))))) (fun h => (h.elim (fun h => Or.inr (Or.inr (Or.inr (Or.inr (Or.inr (Or.inr (Or.inr (Or.inr (Or.inr (Or.inr (Or.inl (h)))))))))))) (fun h => absurd h (Nat.lt_irrefl i)))))))))))))) (fun i j h => absurd h (Nat.lt_irrefl i)) hM (fun r8 M9 hM9 => ?_)
  refine g_if (fun _ => ?_) (fun _ => ?_)
  · skip
    exact g_sp hM9
  · skip
    refine g_bv (fun r12 => ?_)
    refine g_if (fun _ => ?_) (fun _ => ?_)
    · skip
      exact g_sp hM9
    · skip
      refine g_ov (fun r15 => ?_)
      refine g_if (fun _ => ?_) (fun _ => ?_)
      · skip
        refine g_o2 (g_X8_layWays n x1 x2 x3 M9) g_id g_id hM9 (fun r18 M19 hM19 => ?_)
        exact g_tP (g_X8_hangs_b46 n x1 x2 x3 n r18 0 0 M19) g_id g_id hM19
      · skip
        exact g_sp hM9
theorem g_X8_holder (n : Nat) (x1 : Int32) (x2 : Int32) (M : m_M) : q_H (f_X8_holder n x1 x2 M) (fun a => g_fr w_64 w_61 M a.2) := by
  have hM : g_fr w_64 w_61 M M := g_rf
  unfold f_X8_holder
  refine g_bv (fun r1 => ?_)
  refine g_if (fun _ => ?_) (fun _ => ?_)
  · skip
    exact g_sp hM
  · skip
    refine g_bv (fun r4 => ?_)
    refine g_if (fun _ => ?_) (fun _ => ?_)
    · skip
      exact g_sp hM
    · skip
      refine g_oM (g_X8_layToday n x2 M) g_id g_id hM (fun M7 hM7 => ?_)
      refine g_gd (fun z1 => ?_)
      have y1 := g_lt z1
      exact g_sp hM7
theorem g_X8_image_b12 (n : Nat) (x1 : Int32) : ∀ (u : Nat) (x2 : Int32) (M : m_M), q_H (f_X8_image_b12 n x1 u x2 M) (fun a => g_fr w_73 w_1 M a.2) := by
  intro u
  induction u with
  | zero => exact fun _ _ _ h => nomatch h
  | succ u ih =>
    intro x2 M
    have hM : g_fr w_73 w_1 M M := g_rf
    rw [f_X8_image_b12]
    refine g_if (fun _ => ?_) (fun _ => ?_)
    · skip
      refine g_gd (fun z1 => ?_)
      have y1 := g_lt z1
      refine g_bI hM (Or.inl (by omega)) (fun M3 hM3 => ?_)
      exact g_sp hM3
    · skip
      refine g_gd (fun z2 => ?_)
      have y2 := g_lt z2
      refine g_gd (fun z3 => ?_)
      have y3 := g_lt z3
      refine g_bI hM (Or.inl (by omega)) (fun M6 hM6 => ?_)
      exact g_tP (ih (x2 + 1) M6) g_id g_id hM6
theorem g_X8_image (n : Nat) (x1 : Int32) (M : m_M) : q_H (f_X8_image n x1 M) (fun a => g_fr w_73 w_1 M a.2) := by
  have hM : g_fr w_73 w_1 M M := g_rf
  unfold f_X8_image
  refine g_bv (fun r7 => ?_)
  refine g_if (fun _ => ?_) (fun _ => ?_)
  · skip
    exact g_sp hM
  · skip
    exact g_tP (g_X8_image_b12 n x1 n 0 M) g_id g_id hM
theorem g_X8_in (n : Nat) (x1 : Int32) (x2 : Int32) (x3 : Int32) (M : m_M) : q_H (f_X8_in n x1 x2 x3 M) (fun a => g_fr w_64 w_61 M a.2) := by
  have hM : g_fr w_64 w_61 M M := g_rf
  unfold f_X8_in
  refine g_bv (fun r1 => ?_)
  refine g_if (fun _ => ?_) (fun _ => ?_)
  · skip
    exact g_sp hM
  · skip
    refine g_bv (fun r4 => ?_)
    refine g_if (fun _ => ?_) (fun _ => ?_)
    · skip
      exact g_sp hM
    · skip
      refine g_bv (fun r7 => ?_)
      refine g_if (fun _ => ?_) (fun _ => ?_)
      · skip
        exact g_sp hM
      · skip
        refine g_oM (g_X8_layToday n x3 M) g_id g_id hM (fun M10 hM10 => ?_)
        refine g_if (fun _ => ?_) (fun _ => ?_)
        · skip
          refine g_ov (fun r13 => ?_)
          exact g_sp hM10
        · skip
          refine g_gd (fun z1 => ?_)
          have y1 := g_lt z1
          exact g_sp hM10
theorem g_X8_isRest_b37 (n : Nat) (x1 : Int32) : ∀ (u : Nat) (x2 : Int32) (M : m_M), q_H (f_X8_isRest_b37 n x1 u x2 M) (fun a => g_fr w_71 w_65 M a.2) := by
  intro u
  induction u with
  | zero => exact fun _ _ _ h => nomatch h
  | succ u ih =>
    intro x2 M
    have hM : g_fr w_71 w_65 M M := g_rf
    rw [f_X8_isRest_b37]
    refine g_bv (fun r1 => ?_)
    refine g_if (fun _ => ?_) (fun _ => ?_)
    · skip
      exact g_sp hM
    · skip
      refine g_ov (fun r3 => ?_)
      refine g_if (fun _ => ?_) (fun _ => ?_)
      · skip
        exact g_tP (ih (x2 + 1) M) g_id g_id hM
      · skip
        refine g_oM (g_X8_getsBy n x2 x1 M) g_id g_id hM (fun M6 hM6 => ?_)
        refine g_oM (g_X8_getsBy n x2 (x1 ^^^ ((1 : Int32) <<< (x2 &&& 31))) M6) g_id g_id hM6 (fun M7 hM7 => ?_)
        refine g_if (fun _ => ?_) (fun _ => ?_)
        · skip
          exact g_tP (ih (x2 + 1) M7) g_id g_id hM7
        · skip
          exact g_sp hM7
