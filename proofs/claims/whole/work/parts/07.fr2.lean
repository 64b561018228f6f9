/-! FRAMES 2 -/
theorem g_X7_askInAllWays_b3 (n : Nat) (x1 : Int32) (x2 : Int32) (x3 : Int32) : ∀ (u : Nat) (x4 : Int32) (M : m_M), q_H (f_X7_askInAllWays_b3 n x1 x2 x3 u x4 M) (fun a => g_fr w_13 w_19 M a) := by
  intro u
  induction u with
  | zero => exact fun _ _ _ h => nomatch h
  | succ u ih =>
    intro x4 M
    have hM : g_fr w_13 w_19 M M := g_rf
    rw [f_X7_askInAllWays_b3]
    refine g_bv (fun r1 => ?_)
    refine g_if (fun _ => ?_) (fun _ => ?_)
    · skip
      exact g_sm hM
    · skip
      refine g_oM (g_X1_reckon n x3 x4 M) g_id (fun i j h => (h.elim (fun h => Or.inl (h)) (fun h => (h.elim (fun h => Or.inr (Or.inl (h))) (fun h => (h.elim (fun h => Or.inr (Or.inr (Or.inl (h)))) (fun h => (h.elim (fun h => Or.inr (Or.inr (Or.inr (Or.inl (h))))) (fun h => (h.elim (fun h => Or.inr (Or.inr (Or.inr (Or.inr (Or.inl (h)))))) (fun h => (h.elim (fun h => Or.inr (Or.inr (Or.inr (Or.inr (Or.inr (Or.inl (h))))))) (fun h => absurd h (Nat.lt_irrefl i)))))))))))))) hM (fun M3 hM3 => ?_)
      refine g_o2 (g_X1_askAbove n x1 x2 M3) (fun i j h => absurd h (Nat.lt_irrefl i)) (fun i j h => (h.elim (fun h => Or.inl (h)) (fun h => (h.elim (fun h => Or.inr (Or.inl (h))) (fun h => (h.elim (fun h => Or.inr (Or.inr (Or.inl (h)))) (fun h => (h.elim (fun h => Or.inr (Or.inr (Or.inr (Or.inl (h))))) (fun h => (h.elim (fun h => Or.inr (Or.inr (Or.inr (Or.inr (Or.inl (h)))))) (fun h => (h.elim (fun h => Or.inr (Or.inr (Or.inr (Or.inr (Or.inr (Or.inl (h))))))) (fun h => absurd h (Nat.lt_irrefl i)))))))))))))) hM3 (fun r4 M5 hM5 => ?_)
      refine g_gd (fun z1 => ?_)
      have y1 := g_lt z1
      refine g_bL hM5 (Or.inr (Or.inr (Or.inr (Or.inr (Or.inr (Or.inr (Or.inl (by omega)))))))) (fun M7 hM7 => ?_)
      refine g_ov (fun r8 => ?_)
      refine g_bL hM7 (Or.inr (Or.inr (Or.inr (Or.inr (Or.inr (Or.inr (Or.inl (by omega)))))))) (fun M9 hM9 => ?_)
      exact g_tM (ih (x4 + 1) M9) g_id g_id hM9
theorem g_X7_askInAllWays (n : Nat) (x1 : Int32) (x2 : Int32) (x3 : Int32) (M : m_M) : q_H (f_X7_askInAllWays n x1 x2 x3 M) (fun a => g_fr w_13 w_19 M a) := by
  have hM : g_fr w_13 w_19 M M := g_rf
  unfold f_X7_askInAllWays
  exact g_tM (g_X7_askInAllWays_b3 n x1 x2 x3 n 0 M) g_id g_id hM
theorem g_X7_best_b52 (n : Nat) (x1 : Int32) (x2 : Int32) : ∀ (u : Nat) (x3 : Int32) (x4 : Int64) (x6 : Int64) (x8 : Int32) (M : m_M), q_H (f_X7_best_b52 n x1 x2 u x3 x4 x6 x8 M) (fun a => g_fr w_13 w_15 M a.2) := by
  intro u
  induction u with
  | zero => exact fun _ _ _ _ _ _ h => nomatch h
  | succ u ih =>
    intro x3 x4 x6 x8 M
    have hM : g_fr w_13 w_15 M M := g_rf
    rw [f_X7_best_b52]
    refine g_if (fun _ => ?_) (fun _ => ?_)
    · skip
      exact g_sp hM
    · skip
      refine g_o2 (g_X1_askAbove n x1 x8 M) (fun i j h => absurd h (Nat.lt_irrefl i)) g_id hM (fun r2 M3 hM3 => ?_)
      refine g_ov (fun r4 => ?_)
      refine g_bv (fun r5 => ?_)
      refine g_if (fun _ => ?_) (fun _ => ?_)
      · skip
        exact g_tP (ih x3 x4 x6 (x8 + 1) M3) g_id g_id hM3
      · skip
        exact g_tP (ih x8 r2 r4 (x8 + 1) M3) g_id g_id hM3
theorem g_X7_best (n : Nat) (x1 : Int32) (x2 : Int32) (M : m_M) : q_H (f_X7_best n x1 x2 M) (fun a => g_fr w_13 w_15 M a.2) := by
  have hM : g_fr w_13 w_15 M M := g_rf
  unfold f_X7_best
  refine g_bv (fun r7 => ?_)
  refine g_if (fun _ => ?_) (fun _ => ?_)
  · skip
    exact g_sp hM
  · skip
    refine g_bv (fun r10 => ?_)
    refine g_if (fun _ => ?_) (fun _ => ?_)
    · skip
      exact g_sp hM
    · skip
      refine g_oM (g_X1_reckon n x2 0 M) g_id g_id hM (fun M13 hM13 => ?_)
      refine g_bv (fun r14 => ?_)
      refine g_if (fun _ => ?_) (fun _ => ?_)
      · skip
        exact g_sp hM13
      · skip
        exact g_tP (g_X7_best_b52 n x1 x2 n (-1) 0 1 0 M13) g_id g_id hM13
theorem g_X3_add_b116 (k0 : Nat) (x1 : Int32) (x2 : Int32) (x3 : Int32) (x4 : Int32) (x5 : Int32) (M : m_M) : q_H (f_X3_add_b116 k0 x1 x2 x3 x4 x5 M) (fun a => g_fr (w_20 k0) w_1 M a.2) := by
  have hM : g_fr (w_20 k0) w_1 M M := g_rf
  unfold f_X3_add_b116
  refine g_bI hM (Or.inl (by omega)) (fun M1 hM1 => ?_)
  exact g_sp hM1
theorem g_X3_add_b90 (k0 : Nat) (x1 : Int32) (x2 : Int32) (x3 : Int32) (x4 : Int32) (x5 : Int32) (x6 : Int32) (s1 : Int32) (s2 : Int32) (M : m_M) : q_H (f_X3_add_b90 k0 x1 x2 x3 x4 x5 x6 s1 s2 M) (fun a => g_fr (w_20 k0) w_1 M a.2) := by
  have hM : g_fr (w_20 k0) w_1 M M := g_rf
  unfold f_X3_add_b90
  refine g_gd (fun z1 => ?_)
  have y1 := g_lt z1
  refine g_bI hM (Or.inr (Or.inr (Or.inl (by omega)))) (fun M3 hM3 => ?_)
  refine g_gd (fun z2 => ?_)
  have y2 := g_lt z2
  refine g_bI hM3 (Or.inr (Or.inr (Or.inl (by omega)))) (fun M5 hM5 => ?_)
  refine g_if (fun _ => ?_) (fun _ => ?_)
  · skip
    refine g_bI hM5 (Or.inr (Or.inl (by omega))) (fun M7 hM7 => ?_)
    exact g_tP (g_X3_add_b116 k0 x1 x2 x3 x4 x5 M7) g_id g_id hM7
  · skip
    exact g_tP (g_X3_add_b116 k0 x1 x2 x3 x4 x5 M5) g_id g_id hM5
theorem g_X3_add_b64 (k0 : Nat) (x1 : Int32) (x2 : Int32) (x3 : Int32) (x4 : Int32) (x5 : Int32) (x6 : Int32) (s1 : Int32) (s2 : Int32) (M : m_M) : q_H (f_X3_add_b64 k0 x1 x2 x3 x4 x5 x6 s1 s2 M) (fun a => g_fr (w_20 k0) w_1 M a.2) := by
  have hM : g_fr (w_20 k0) w_1 M M := g_rf
  unfold f_X3_add_b64
  refine g_gd (fun z1 => ?_)
  have y1 := g_lt z1
  refine g_bI hM (Or.inr (Or.inr (Or.inl (by omega)))) (fun M9 hM9 => ?_)
  refine g_ov (fun r10 => ?_)
  refine g_if (fun _ => ?_) (fun _ => ?_)
  · skip
    exact g_tP (g_X3_add_b90 k0 x1 x2 x3 x4 x5 x6 (x6 + (4 : Int32)) 0 M9) g_id g_id hM9
  · skip
    exact g_tP (g_X3_add_b90 k0 x1 x2 x3 x4 x5 x6 (x6 + (4 : Int32)) x5 M9) g_id g_id hM9
theorem g_X3_add (k0 : Nat) (x1 : Int32) (x2 : Int32) (x3 : Int32) (x4 : Int32) (x5 : Int32) (M : m_M) : q_H (f_X3_add k0 x1 x2 x3 x4 x5 M) (fun a => g_fr (w_20 k0) w_1 M a.2) := by
  have hM : g_fr (w_20 k0) w_1 M M := g_rf
  unfold f_X3_add
  refine g_gd (fun z1 => ?_)
  have y1 := g_lt z1
  refine g_bI hM (Or.inr (Or.inr (Or.inl (by omega)))) (fun M14 hM14 => ?_)
  refine g_gd (fun z2 => ?_)
  have y2 := g_lt z2
  refine g_bI hM14 (Or.inr (Or.inr (Or.inl (by omega)))) (fun M16 hM16 => ?_)
  refine g_gd (fun z3 => ?_)
  have y3 := g_lt z3
  refine g_bI hM16 (Or.inr (Or.inr (Or.inl (by omega)))) (fun M18 hM18 => ?_)
  refine g_ov (fun r19 => ?_)
  refine g_if (fun _ => ?_) (fun _ => ?_)
  · skip
    exact g_tP (g_X3_add_b64 k0 x1 x2 x3 x4 x5 ((6 : Int32) * (M.1 k0 1)) (((6 : Int32) * (M.1 k0 1)) + (3 : Int32)) 0 M18) g_id g_id hM18
  · skip
    exact g_tP (g_X3_add_b64 k0 x1 x2 x3 x4 x5 ((6 : Int32) * (M.1 k0 1)) (((6 : Int32) * (M.1 k0 1)) + (3 : Int32)) x4 M18) g_id g_id hM18
theorem g_X7_bring (n : Nat) (x1 : Int32) (x2 : Int32) (x3 : Int32) (x4 : Int32) (x5 : Int32) (M : m_M) : q_H (f_X7_bring n x1 x2 x3 x4 x5 M) (fun a => g_fr w_21 w_1 M a.2) := by
  have hM : g_fr w_21 w_1 M M := g_rf
  unfold f_X7_bring
  refine g_ov (fun r1 => ?_)
  refine g_if (fun _ => ?_) (fun _ => ?_)
  · skip
    exact g_sp hM
  · skip
    refine g_oM (g_X1_replay n 999 0 M) (fun i j h => (h.elim (fun h => Or.inr (Or.inr (Or.inr (Or.inl (h))))) (fun h => (h.elim (fun h => Or.inr (Or.inr (Or.inr (Or.inr (Or.inl (h)))))) (fun h => (h.elim (fun h => Or.inr (Or.inr (Or.inr (Or.inr (Or.inr (Or.inl (h))))))) (fun h => (h.elim (fun h => Or.inr (Or.inr (Or.inr (Or.inr (Or.inr (Or.inr (Or.inl (h)))))))) (fun h => (h.elim (fun h => Or.inr (Or.inr (Or.inr (Or.inr (Or.inr (Or.inr (Or.inr (Or.inl (h))))))))) (fun h => (h.elim (fun h => Or.inr (Or.inr (Or.inr (Or.inr (Or.inr (Or.inr (Or.inr (Or.inr (Or.inl (h)))))))))) (fun h => (h.elim (fun h => Or.inr (Or.inr (Or.inr (Or.inr (Or.inr (Or.inr (Or.inr (Or.inr (Or.inr (Or.inl (h))))))))))) (fun h => (h.elim (fun h => Or.inr (Or.inr (Or.inr (Or.inr (Or.inr (Or.inr (Or.inr (Or.inr (Or.inr (Or.inr (Or.inl (h)))))))))))) (fun h => (h.elim (fun h => Or.inr (Or.inr (Or.inr (Or.inr (Or.inr (Or.inr (Or.inr (Or.inr (Or.inr (Or.inr (Or.inr (Or.inl (h))))))))))))) (fun h => (h.elim (fun h => Or.inr (Or.inr (Or.inr (Or.inr (Or.inr (Or.inr (Or.inr (Or.inr (Or.inr (Or.inr (Or.inr (Or.inr (Or.inl (h)))))))))))))) (fun h => (h.elim (fun h => Or.inr (Or.inr (Or.inr (Or.inr (Or.inr (Or.inr (Or.inr (Or.inr (Or.inr (Or.inr (Or.inr (Or.inr (Or.inr (Or.inl (h))))))))))))))) (fun h => (h.elim (fun h => Or.inr (Or.inr (Or.inr (Or.inr (Or.inr (Or.inr (Or.inr (Or.inr (Or.inr (Or.inr (Or.inr (Or.inr (Or.inr (Or.inr (Or.inl (h)))))))))))))))) (fun h => (h.elim (fun h => Or.inr (Or.inr (Or.inr (Or.inr (Or.inr (Or.inr (Or.inr (Or.inr (Or.inr (Or.inr (Or.inr (Or.inr (Or.inr (Or.inr (Or.inr (Or.inl (h))))))))))))))))) (fun h => (h.elim (fun h => Or.inr (Or.inr (Or.inr (Or.inr (Or.inr (Or.inr (Or.inr (Or.inr (Or.inr (Or.inr (Or.inr (Or.inr (Or.inr (Or.inr (Or.inr (Or.inr (Or.inl (h)))))))))))))))))) (fun h => (h.elim (fun h => Or.inr (Or.inr (Or.inr (Or.inr (Or.inr (Or.inr (Or.inr (Or.inr (Or.inr (Or.inr (Or.inr (Or.inr (Or.inr (Or.inr (Or.inr (Or.inr (Or.inr (Or.inl (h))))))))))))))))))) (fun h => (h.elim (fun h => Or.inr (Or.inr (Or.inr (Or.inr (Or.inr (Or.inr (Or.inr (Or.inr (Or.inr (Or.inr (Or.inr (Or.inr (Or.inr (Or.inr (Or.inr (Or.inr (Or.inr (Or.inr (Or.inl (h)))))))))))))))))))) (fun h => (h.elim (fun h => Or.inr (Or.inr (Or.inr (Or.inr (Or.inr (Or.inr (Or.inr (Or.inr (Or.inr (Or.inr (Or.inr (Or.inr (Or.inr (Or.inr (Or.inr (Or.inr (Or.inr (Or.inr (Or.inr (Or.inl (h))))))))))))))))))))) (fun h => (h.elim (fun h => Or.inr (Or.inr (Or.inr (Or.inr (Or.inr (Or.inr (Or.inr (Or.inr (Or.inr (Or.inr (Or.inr (Or.inr (Or.inr (Or.inr (Or.inr (Or.inr (Or.inr (Or.inr (Or.inr (Or.inr (Or.inl (h)))))))))))))))))))))) (fun h => (h.elim (fun h => Or.inr (Or.inr (Or.inr (Or.inr (Or.inr (Or.inr (Or.inr (Or.inr (Or.inr (Or.inr (Or.inr (Or.inr (Or.inr (Or.inr (Or.inr (Or.inr (Or.inr (Or.inr (Or.inr (Or.inr (Or.inr (Or.inl (h))))))))))))))))))))))) (fun h => (h.elim (fun h => Or.inr (Or.inr (Or.inr (Or.inr (Or.inr (Or.inr (Or.inr (Or.inr (Or.inr (Or.inr (Or.inr (Or.inr (Or.inr (Or.inr (Or.inr (Or.inr (Or.inr (Or.inr (Or.inr (Or.inr (Or.inr (Or.inr (Or.inl (h)))))))))))))))))))))))) (fun h => (h.elim (fun h => Or.inr (Or.inr (Or.inr (Or.inr (Or.inr (Or.inr (Or.inr (Or.inr (Or.inr (Or.inr (Or.inr (Or.inr (Or.inr (Or.inr (Or.inr (Or.inr (Or.inr (Or.inr (Or.inr (Or.inr (Or.inr (Or.inr (Or.inr (Or.inl (h))))))))))))))))))))))))) (fun h => (h.elim (fun h => Or.inr (Or.inr (Or.inr (Or.inr (Or.inr (Or.inr (Or.inr (Or.inr (Or.inr (Or.inr (Or.inr (Or.inr (Or.inr (Or.inr (Or.inr (Or.inr (Or.inr (Or.inr (Or.inr (Or.inr (Or.inr (Or.inr (Or.inr (Or.inr (Or.inl (h)))))))))))))))))))))))))) (fun h => (h.elim (fun h => Or.inr (Or.inr (Or.inr (Or.inr (Or.inr (Or.inr (Or.inr (Or.inr (Or.inr (Or.inr (Or.inr (Or.inr (Or.inr (Or.inr (Or.inr (Or.inr (Or.inr (Or.inr (Or.inr (Or.inr (Or.inr (Or.inr (Or.inr (Or.inr (Or.inr (Or.inl (h))))))))))))))))))))))))))) (fun h => absurd h (Nat.lt_irrefl i)))))))))))))))))))))))))))))))))))))))))))))))) g_id hM (fun M4 hM4 => ?_)
    refine g_ov (fun r5 => ?_)
    refine g_if (fun _ => ?_) (fun _ => ?_)
    · skip
      refine g_if (fun _ => ?_) (fun _ => ?_)
      · skip
        refine g_o2 (g_X3_add 1 x1 x2 x3 x4 x5 M4) (fun i j h => (h.elim (fun h => Or.inl (by omega)) (fun h => (h.elim (fun h => Or.inr (Or.inl (by omega))) (fun h => (h.elim (fun h => Or.inr (Or.inr (Or.inl (by omega)))) (fun h => absurd h (Nat.lt_irrefl i)))))))) g_id hM4 (fun r9 M10 hM10 => ?_)
        exact g_sp hM10
      · skip
        exact g_sp hM4
    · skip
      exact g_sp hM4
theorem g_X7_clear (M : m_M) : g_fr w_22 w_1 M (f_X7_clear M).2 := by
  unfold f_X7_clear
  simp only [m_bd, f_X8_persons, f_X8_lined]
  repeat' split
  all_goals (repeat' (first | exact g_rf | refine g_sI ?_ (by first | exact Or.inl (by omega))))
theorem g_X7_digestOfPersons_b16 (n : Nat) (x1 : Int64) : ∀ (u : Nat) (x3 : Int64) (x5 : Int32) (M : m_M), q_H (f_X7_digestOfPersons_b16 n x1 u x3 x5 M) (fun a => g_fr w_13 w_15 M a.2) := by
  intro u
  induction u with
  | zero => exact fun _ _ _ _ h => nomatch h
  | succ u ih =>
    intro x3 x5 M
    have hM : g_fr w_13 w_15 M M := g_rf
    rw [f_X7_digestOfPersons_b16]
    refine g_if (fun _ => ?_) (fun _ => ?_)
    · skip
      exact g_sp hM
    · skip
      refine g_gd (fun z1 => ?_)
      have y1 := g_lt z1
      refine g_bv (fun t3 => ?_)
      refine g_ov (fun r4 => ?_)
      refine g_o2 (g_X1_netOf n x5 0 0 0 M) (fun i j h => absurd h (Nat.lt_irrefl i)) g_id hM (fun r5 M6 hM6 => ?_)
      refine g_bv (fun t7 => ?_)
      refine g_o2 (g_X1_netOf n x5 1 0 0 M6) (fun i j h => absurd h (Nat.lt_irrefl i)) g_id hM6 (fun r8 M9 hM9 => ?_)
      exact g_tP (ih (((31 : Int64) * t7) + r8.toInt64) (x5 + 1) M9) g_id g_id hM9
theorem g_X7_digestOfPersons (n : Nat) (x1 : Int64) (M : m_M) : q_H (f_X7_digestOfPersons n x1 M) (fun a => g_fr w_13 w_15 M a.2) := by
  have hM : g_fr w_13 w_15 M M := g_rf
  unfold f_X7_digestOfPersons
  refine g_oM (g_X1_reckon n 999 0 M) g_id g_id hM (fun M10 hM10 => ?_)
  exact g_tP (g_X7_digestOfPersons_b16 n x1 n x1 0 M10) g_id g_id hM10
theorem g_X7_digest_b101 (n : Nat) : ∀ (u : Nat) (x1 : Int64) (x3 : Int32) (M : m_M), q_H (f_X7_digest_b101 n u x1 x3 M) (fun a => g_fr w_13 w_15 M a.2) := by
  intro u
  induction u with
  | zero => exact fun _ _ _ _ h => nomatch h
  | succ u ih =>
    intro x1 x3 M
    have hM : g_fr w_13 w_15 M M := g_rf
    rw [f_X7_digest_b101]
    refine g_if (fun _ => ?_) (fun _ => ?_)
    · skip
      refine g_o2 (g_X7_digestOfPersons n x1 M) g_id g_id hM (fun r2 M3 hM3 => ?_)
      exact g_sp hM3
    · skip
      refine g_gd (fun z1 => ?_)
      have y1 := g_lt z1
      refine g_bv (fun t5 => ?_)
      exact g_tP (ih t5 (x3 + 1) M) g_id g_id hM
theorem g_X7_digest_b74 (n : Nat) : ∀ (u : Nat) (x1 : Int64) (x3 : Int32) (M : m_M), q_H (f_X7_digest_b74 n u x1 x3 M) (fun a => g_fr w_13 w_15 M a.2) := by
  intro u
  induction u with
  | zero => exact fun _ _ _ _ h => nomatch h
  | succ u ih =>
    intro x1 x3 M
    have hM : g_fr w_13 w_15 M M := g_rf
    rw [f_X7_digest_b74]
    refine g_if (fun _ => ?_) (fun _ => ?_)
    · skip
      exact g_tP (g_X7_digest_b101 n n x1 0 M) g_id g_id hM
    · skip
      refine g_gd (fun z1 => ?_)
      have y1 := g_lt z1
      refine g_ov (fun r8 => ?_)
      exact g_tP (ih r8 (x3 + 1) M) g_id g_id hM
theorem g_X7_digest_b35 (n : Nat) : ∀ (u : Nat) (x1 : Int64) (x3 : Int32) (M : m_M), q_H (f_X7_digest_b35 n u x1 x3 M) (fun a => g_fr w_13 w_15 M a.2) := by
  intro u
  induction u with
  | zero => exact fun _ _ _ _ h => nomatch h
  | succ u ih =>
    intro x1 x3 M
    have hM : g_fr w_13 w_15 M M := g_rf
    rw [f_X7_digest_b35]
    refine g_if (fun _ => ?_) (fun _ => ?_)
    · skip
      exact g_tP (g_X7_digest_b74 n n x1 0 M) g_id g_id hM
    · skip
      refine g_gd (fun z1 => ?_)
      have y1 := g_lt z1
      refine g_bv (fun t11 => ?_)
      exact g_tP (ih t11 (x3 + 1) M) g_id g_id hM
theorem g_X7_digest_b6 (n : Nat) : ∀ (u : Nat) (x1 : Int64) (x3 : Int32) (M : m_M), q_H (f_X7_digest_b6 n u x1 x3 M) (fun a => g_fr w_13 w_15 M a.2) := by
  intro u
  induction u with
  | zero => exact fun _ _ _ _ h => nomatch h
  | succ u ih =>
    intro x1 x3 M
    have hM : g_fr w_13 w_15 M M := g_rf
    rw [f_X7_digest_b6]
    refine g_if (fun _ => ?_) (fun _ => ?_)
    · skip
      exact g_tP (g_X7_digest_b35 n n x1 0 M) g_id g_id hM
    · skip
      refine g_bv (fun r13 => ?_)
      refine g_bv (fun t14 => ?_)
      exact g_tP (ih t14 (x3 + 1) M) g_id g_id hM
theorem g_X7_digest (n : Nat) (M : m_M) : q_H (f_X7_digest n M) (fun a => g_fr w_13 w_15 M a.2) := by
  have hM : g_fr w_13 w_15 M M := g_rf
  unfold f_X7_digest
  exact g_tP (g_X7_digest_b6 n n 491 0 M) g_id g_id hM
theorem g_X3_markDoubt_b19 (k0 : Nat) (x1 : Int32) (x2 : Int32) (s1 : Int32) (s2 : Int32) (M : m_M) : q_H (f_X3_markDoubt_b19 k0 x1 x2 s1 s2 M) (fun a => g_fr (w_23 k0) w_1 M a) := by
  have hM : g_fr (w_23 k0) w_1 M M := g_rf
  unfold f_X3_markDoubt_b19
  refine g_gd (fun z1 => ?_)
  have y1 := g_lt z1
  refine g_bI hM (Or.inr (Or.inl (by omega))) (fun M2 hM2 => ?_)
  refine g_if (fun _ => ?_) (fun _ => ?_)
  · skip
    refine g_bI hM2 (Or.inl (by omega)) (fun M4 hM4 => ?_)
    exact g_sm hM4
  · skip
    refine g_bI hM2 (Or.inl (by omega)) (fun M5 hM5 => ?_)
    exact g_sm hM5
theorem g_X3_markDoubt (k0 : Nat) (x1 : Int32) (x2 : Int32) (M : m_M) : q_H (f_X3_markDoubt k0 x1 x2 M) (fun a => g_fr (w_23 k0) w_1 M a) := by
  have hM : g_fr (w_23 k0) w_1 M M := g_rf
  unfold f_X3_markDoubt
  refine g_if (fun _ => ?_) (fun _ => ?_)
  · skip
    exact g_tM (g_X3_markDoubt_b19 k0 x1 x2 (((6 : Int32) * x1) + (5 : Int32)) 0 M) g_id g_id hM
  · skip
    exact g_tM (g_X3_markDoubt_b19 k0 x1 x2 (((6 : Int32) * x1) + (5 : Int32)) 1 M) g_id g_id hM
theorem g_X7_doubt_b55 (x1 : Int32) (x2 : Int32) (M : m_M) : q_H (f_X7_doubt_b55 x1 x2 M) (fun a => g_fr w_24 w_1 M a.2) := by
  have hM : g_fr w_24 w_1 M M := g_rf
  unfold f_X7_doubt_b55
  refine g_oM (g_X3_markDoubt 1 x1 x2 M) (fun i j h => (h.elim (fun h => Or.inl (by omega)) (fun h => (h.elim (fun h => Or.inr (Or.inl (by omega))) (fun h => absurd h (Nat.lt_irrefl i)))))) g_id hM (fun M1 hM1 => ?_)
  exact g_sp hM1
theorem g_X7_doubt (x1 : Int32) (x2 : Int32) (M : m_M) : q_H (f_X7_doubt x1 x2 M) (fun a => g_fr w_24 w_1 M a.2) := by
  have hM : g_fr w_24 w_1 M M := g_rf
  unfold f_X7_doubt
  refine g_bv (fun r2 => ?_)
  refine g_if (fun _ => ?_) (fun _ => ?_)
  · skip
    exact g_sp hM
  · skip
    refine g_ov (fun r5 => ?_)
    refine g_if (fun _ => ?_) (fun _ => ?_)
    · skip
      exact g_sp hM
    · skip
      refine g_ov (fun r8 => ?_)
      refine g_if (fun _ => ?_) (fun _ => ?_)
      · skip
        exact g_sp hM
      · skip
        refine g_if (fun _ => ?_) (fun _ => ?_)
        · skip
          exact g_tP (g_X7_doubt_b55 x1 x2 M) g_id g_id hM
        · skip
          refine g_if (fun _ => ?_) (fun _ => ?_)
          · skip
            exact g_tP (g_X7_doubt_b55 x1 x2 M) g_id g_id hM
          · skip
            exact g_sp hM
theorem g_X4_parse (n : Nat) (k0 : Nat) (M : m_M) : q_H (f_X4_parse n k0 M) (fun a => g_fr (w_6 k0) (w_5 k0) M a) := by
  have hM : g_fr (w_6 k0) (w_5 k0) M M := g_rf
  unfold f_X4_parse
  refine g_bI hM (Or.inr (Or.inr (Or.inl (by omega)))) (fun M1 hM1 => ?_)
  refine g_bI hM1 (Or.inr (Or.inl (by omega))) (fun M2 hM2 => ?_)
  refine g_bI hM2 (Or.inl (by omega)) (fun M3 hM3 => ?_)
  refine g_oM (g_X4_value n 12 k0 0 M3) g_id g_id hM3 (fun M4 hM4 => ?_)
  refine g_o2 (g_X4_peek n k0 M4) (fun i j h => (h.elim (fun h => Or.inr (Or.inl (by omega))) (fun h => absurd h (Nat.lt_irrefl i)))) (fun i j h => absurd h (Nat.lt_irrefl i)) hM4 (fun r5 M6 hM6 => ?_)
  refine g_if (fun _ => ?_) (fun _ => ?_)
  · skip
    exact g_sm hM6
  · skip
    refine g_bT (g_X4_blame k0 (M6.1 k0 6) 1 M6) (fun i j h => (h.elim (fun h => Or.inr (Or.inr (Or.inl (by omega)))) (fun h => absurd h (Nat.lt_irrefl i)))) (fun i j h => absurd h (Nat.lt_irrefl i)) hM6 (fun M8 hM8 => ?_)
    exact g_sm hM8
theorem g_X4_empty (n : Nat) (k0 : Nat) (M : m_M) : q_H (f_X4_empty n k0 M) (fun a => g_fr (w_25 k0) (w_5 k0) M a.2) := by
  have hM : g_fr (w_25 k0) (w_5 k0) M M := g_rf
  unfold f_X4_empty
  refine g_bI hM (Or.inl (by omega)) (fun M1 hM1 => ?_)
  refine g_oM (g_X4_parse n k0 M1) (fun i j h => (h.elim (fun h => Or.inr (Or.inl (by omega))) (fun h => (h.elim (fun h => Or.inr (Or.inr (Or.inl (by omega)))) (fun h => (h.elim (fun h => Or.inr (Or.inr (Or.inr (Or.inl (by omega))))) (fun h => (h.elim (fun h => Or.inr (Or.inr (Or.inr (Or.inr (Or.inl (by omega)))))) (fun h => absurd h (Nat.lt_irrefl i)))))))))) g_id hM1 (fun M2 hM2 => ?_)
  exact g_sp hM2
theorem g_X7_erase (n : Nat) (x1 : Int32) (M : m_M) : q_H (f_X7_erase n x1 M) (fun a => g_fr w_26 w_27 M a.2) := by
  have hM : g_fr w_26 w_27 M M := g_rf
  unfold f_X7_erase
  refine g_bv (fun r1 => ?_)
  refine g_if (fun _ => ?_) (fun _ => ?_)
  · skip
    exact g_sp hM
  · skip
    refine g_gd (fun z1 => ?_)
    have y1 := g_lt z1
    refine g_o2 (g_X4_empty n ((1 + 3) + 1 + 5 * x1.toNatClampNeg) M) (fun i j h => (h.elim (fun h => Or.inl (by omega)) (fun h => (h.elim (fun h => Or.inr (Or.inl (by omega))) (fun h => (h.elim (fun h => Or.inr (Or.inr (Or.inl (by omega)))) (fun h => (h.elim (fun h => Or.inr (Or.inr (Or.inr (Or.inl (by omega))))) (fun h => (h.elim (fun h => Or.inr (Or.inr (Or.inr (Or.inr (Or.inl (by omega)))))) (fun h => absurd h (Nat.lt_irrefl i)))))))))))) (fun i j h => (h.elim (fun h => Or.inl (by omega)) (fun h => absurd h (Nat.lt_irrefl i)))) hM (fun r5 M6 hM6 => ?_)
    exact g_sp hM6
theorem g_X4_takeAll (n : Nat) (k0 : Nat) (k1 : Nat) (M : m_M) : q_H (f_X4_takeAll n k0 k1 M) (fun a => g_fr (w_28 k0) (w_5 k0) M a) := by
  have hM : g_fr (w_28 k0) (w_5 k0) M M := g_rf
  unfold f_X4_takeAll
  refine g_bC hM (fun j => Or.inr (Or.inr (Or.inr (Or.inr (Or.inl (by omega)))))) (fun M1 hM1 => ?_)
  refine g_bI hM1 (Or.inl (by omega)) (fun M2 hM2 => ?_)
  refine g_oM (g_X4_parse n k0 M2) (fun i j h => (h.elim (fun h => Or.inr (Or.inl (by omega))) (fun h => (h.elim (fun h => Or.inr (Or.inr (Or.inl (by omega)))) (fun h => (h.elim (fun h => Or.inr (Or.inr (Or.inr (Or.inl (by omega))))) (fun h => (h.elim (fun h => Or.inr (Or.inr (Or.inr (Or.inr (Or.inr (Or.inl (by omega))))))) (fun h => absurd h (Nat.lt_irrefl i)))))))))) g_id hM2 (fun M3 hM3 => ?_)
  exact g_sm hM3
theorem g_X3_takeAll_b73 (n : Nat) (k0 : Nat) (k1 : Nat) : ∀ (u : Nat) (x2 : Int32) (M : m_M), q_H (f_X3_takeAll_b73 n k0 k1 u x2 M) (fun a => g_fr (w_29 k0) (w_30 k0) M a) := by
  intro u
  induction u with
  | zero => exact fun _ _ _ h => nomatch h
  | succ u ih =>
    intro x2 M
    have hM : g_fr (w_29 k0) (w_30 k0) M M := g_rf
    rw [f_X3_takeAll_b73]
    refine g_if (fun _ => ?_) (fun _ => ?_)
    · skip
      exact g_sm hM
    · skip
      refine g_gd (fun z1 => ?_)
      have y1 := g_lt z1
      refine g_oM (g_X4_takeAll n ((k0 + 3) + 1 + 5 * x2.toNatClampNeg) ((k1 + 3) + 1 + 5 * x2.toNatClampNeg) M) (fun i j h => (h.elim (fun h => Or.inr (Or.inr (Or.inr (Or.inr (Or.inr (Or.inr (Or.inr (Or.inl (by omega))))))))) (fun h => (h.elim (fun h => Or.inr (Or.inr (Or.inr (Or.inr (Or.inr (Or.inr (Or.inr (Or.inr (Or.inl (by omega)))))))))) (fun h => (h.elim (fun h => Or.inr (Or.inr (Or.inr (Or.inr (Or.inr (Or.inr (Or.inr (Or.inr (Or.inr (Or.inl (by omega))))))))))) (fun h => (h.elim (fun h => Or.inr (Or.inr (Or.inr (Or.inr (Or.inr (Or.inr (Or.inr (Or.inr (Or.inr (Or.inr (Or.inl (by omega)))))))))))) (fun h => (h.elim (fun h => Or.inr (Or.inr (Or.inr (Or.inr (Or.inr (Or.inr (Or.inr (Or.inr (Or.inr (Or.inr (Or.inr (Or.inl (by omega))))))))))))) (fun h => (h.elim (fun h => Or.inr (Or.inr (Or.inr (Or.inr (Or.inr (Or.inr (Or.inr (Or.inr (Or.inr (Or.inr (Or.inr (Or.inr (Or.inl (by omega)))))))))))))) (fun h => absurd h (Nat.lt_irrefl i)))))))))))))) (fun i j h => (h.elim (fun h => Or.inl (by omega)) (fun h => absurd h (Nat.lt_irrefl i)))) hM (fun M3 hM3 => ?_)
      exact g_tM (ih (x2 + 1) M3) g_id g_id hM3
theorem g_X3_takeAll (n : Nat) (k0 : Nat) (k1 : Nat) (M : m_M) : q_H (f_X3_takeAll n k0 k1 M) (fun a => g_fr (w_29 k0) (w_30 k0) M a) := by
  have hM : g_fr (w_29 k0) (w_30 k0) M M := g_rf
  unfold f_X3_takeAll
  refine g_bI hM (Or.inl (by omega)) (fun M4 hM4 => ?_)
  refine g_bI hM4 (Or.inr (Or.inl (by omega))) (fun M5 hM5 => ?_)
  refine g_bI hM5 (Or.inr (Or.inr (Or.inl (by omega)))) (fun M6 hM6 => ?_)
  refine g_bI hM6 (Or.inr (Or.inr (Or.inr (Or.inl (by omega))))) (fun M7 hM7 => ?_)
  refine g_bI hM7 (Or.inr (Or.inr (Or.inr (Or.inr (Or.inl (by omega)))))) (fun M8 hM8 => ?_)
  refine g_bC hM8 (fun j => Or.inr (Or.inr (Or.inr (Or.inr (Or.inr (Or.inl (by omega))))))) (fun M9 hM9 => ?_)
  refine g_bC hM9 (fun j => Or.inr (Or.inr (Or.inr (Or.inr (Or.inr (Or.inr (Or.inl (by omega)))))))) (fun M10 hM10 => ?_)
  exact g_tM (g_X3_takeAll_b73 n k0 k1 n 0 M10) g_id g_id hM10
theorem g_X7_from (n : Nat) (x1 : Int32) (M : m_M) : q_H (f_X7_from n x1 M) (fun a => g_fr w_31 w_27 M a.2) := by
  have hM : g_fr w_31 w_27 M M := g_rf
  unfold f_X7_from
  refine g_if (fun _ => ?_) (fun _ => ?_)
  · skip
    exact g_sp hM
  · skip
    refine g_if (fun _ => ?_) (fun _ => ?_)
    · skip
      refine g_gd (fun z1 => ?_)
      have y1 := g_lt z1
      refine g_if (fun _ => ?_) (fun _ => ?_)
      · skip
        exact g_sp hM
      · skip
        refine g_oM (g_X3_takeAll n 1 (16 + 14 * x1.toNatClampNeg) M) (fun i j h => (h.elim (fun h => Or.inl (by omega)) (fun h => (h.elim (fun h => Or.inr (Or.inl (by omega))) (fun h => (h.elim (fun h => Or.inr (Or.inr (Or.inl (by omega)))) (fun h => (h.elim (fun h => Or.inr (Or.inr (Or.inr (Or.inl (by omega))))) (fun h => (h.elim (fun h => Or.inr (Or.inr (Or.inr (Or.inr (Or.inl (by omega)))))) (fun h => (h.elim (fun h => Or.inr (Or.inr (Or.inr (Or.inr (Or.inr (Or.inl (by omega))))))) (fun h => (h.elim (fun h => Or.inr (Or.inr (Or.inr (Or.inr (Or.inr (Or.inl (by omega))))))) (fun h => (h.elim (fun h => Or.inr (Or.inr (Or.inr (Or.inr (Or.inr (Or.inr (Or.inl (by omega)))))))) (fun h => (h.elim (fun h => Or.inr (Or.inr (Or.inr (Or.inr (Or.inr (Or.inr (Or.inr (Or.inl (by omega))))))))) (fun h => (h.elim (fun h => Or.inr (Or.inr (Or.inr (Or.inr (Or.inr (Or.inr (Or.inr (Or.inr (Or.inl (by omega)))))))))) (fun h => (h.elim (fun h => Or.inr (Or.inr (Or.inr (Or.inr (Or.inr (Or.inr (Or.inr (Or.inr (Or.inr (Or.inl (by omega))))))))))) (fun h => (h.elim (fun h => Or.inr (Or.inr (Or.inr (Or.inr (Or.inr (Or.inr (Or.inr (Or.inr (Or.inr (Or.inr (Or.inl (by omega)))))))))))) (fun h => (h.elim (fun h => Or.inr (Or.inr (Or.inr (Or.inr (Or.inr (Or.inr (Or.inr (Or.inr (Or.inr (Or.inr (Or.inr (Or.inl (by omega))))))))))))) (fun h => absurd h (Nat.lt_irrefl i)))))))))))))))))))))))))))) (fun i j h => (h.elim (fun h => Or.inl (by omega)) (fun h => absurd h (Nat.lt_irrefl i)))) hM (fun M5 hM5 => ?_)
        exact g_sp hM5
    · skip
      exact g_sp hM
theorem g_X7_isTooEarly (n : Nat) (x1 : Int32) (x2 : Int32) (M : m_M) : q_H (f_X7_isTooEarly n x1 x2 M) (fun a => g_fr w_13 w_1 M a.2) := by
  have hM : g_fr w_13 w_1 M M := g_rf
  unfold f_X7_isTooEarly
  refine g_oM (g_X1_replay n x2 0 M) g_id g_id hM (fun M1 hM1 => ?_)
  refine g_bv (fun r2 => ?_)
  refine g_if (fun _ => ?_) (fun _ => ?_)
  · skip
    exact g_sp hM1
  · skip
    exact g_sp hM1
theorem g_X7_hangs_b62 (n : Nat) (x1 : Int32) (x2 : Int32) (x3 : Int32) (q50 : Int32 → Int32 → m_M → Option (Int32 × m_M)) (hq50 : ∀ (a0 : Int32) (a1 : Int32) (M : m_M), q_H (q50 a0 a1 M) (fun a => g_fr w_13 w_19 M a.2)) : ∀ (u : Nat) (x4 : Int32) (x5 : Int32) (x6 : Int32) (M : m_M), q_H (f_X7_hangs_b62 n x1 x2 x3 q50 u x4 x5 x6 M) (fun a => g_fr w_13 w_19 M a.2) := by
  intro u
  induction u with
  | zero => exact fun _ _ _ _ _ h => nomatch h
  | succ u ih =>
    intro x4 x5 x6 M
    have hM : g_fr w_13 w_19 M M := g_rf
    rw [f_X7_hangs_b62]
    refine g_if (fun _ => ?_) (fun _ => ?_)
    · skip
      exact g_tP (hq50 x4 (x5 + 1) M) g_id g_id hM
    · skip
      refine g_bv (fun t2 => ?_)
      refine g_ov (fun r3 => ?_)
      refine g_if (fun _ => ?_) (fun _ => ?_)
      · skip
        exact g_tP (ih x4 x5 (x6 + 1) M) g_id g_id hM
      · skip
        refine g_bv (fun t5 => ?_)
        exact g_tP (ih t5 x5 (x6 + 1) M) g_id g_id hM
theorem g_X7_hangs_b50 (n : Nat) (x1 : Int32) (x2 : Int32) (x3 : Int32) : ∀ (u : Nat) (x4 : Int32) (x5 : Int32) (M : m_M), q_H (f_X7_hangs_b50 n x1 x2 x3 u x4 x5 M) (fun a => g_fr w_13 w_19 M a.2) := by
  intro u
  induction u with
  | zero => exact fun _ _ _ _ h => nomatch h
  | succ u ih =>
    intro x4 x5 M
    have hM : g_fr w_13 w_19 M M := g_rf
    rw [f_X7_hangs_b50]
    refine g_bv (fun r6 => ?_)
    refine g_if (fun _ => ?_) (fun _ => ?_)
    · skip
      exact g_sp hM
    · skip
      exact g_tP (g_X7_hangs_b62 n x1 x2 x3 (f_X7_hangs_b50 n x1 x2 x3 u) ih n x4 x5 0 M) g_id g_id hM
theorem g_X7_hangs (n : Nat) (x1 : Int32) (x2 : Int32) (x3 : Int32) (M : m_M) : q_H (f_X7_hangs n x1 x2 x3 M) (fun a => g_fr w_13 w_19 M a.2) := by
  have hM : g_fr w_13 w_19 M M := g_rf
  unfold f_X7_hangs
  refine g_bv (fun r8 => ?_)
  refine g_if (fun _ => ?_) (fun _ => ?_)
  · skip
    exact g_sp hM
  · skip
    refine g_bv (fun r11 => ?_)
    refine g_if (fun _ => ?_) (fun _ => ?_)
    · skip
      exact g_sp hM
    · skip
      refine g_bv (fun r14 => ?_)
      refine g_if (fun _ => ?_) (fun _ => ?_)
      · skip
        exact g_sp hM
      · skip
        refine g_o2 (g_X7_isTooEarly n x1 x3 M) g_id (fun i j h => absurd h (Nat.lt_irrefl i)) hM (fun r17 M18 hM18 => ?_)
        refine g_if (fun _ => ?_) (fun _ => ?_)
        · skip
          refine g_oM (g_X7_askInAllWays n x1 x2 x3 M18) g_id g_id hM18 (fun M21 hM21 => ?_)
          exact g_tP (g_X7_hangs_b50 n x1 x2 x3 n 0 0 M21) g_id g_id hM21
        · skip
          exact g_sp hM18
theorem g_X7_holder (n : Nat) (x1 : Int32) (x2 : Int32) (M : m_M) : q_H (f_X7_holder n x1 x2 M) (fun a => g_fr w_13 w_1 M a.2) := by
  have hM : g_fr w_13 w_1 M M := g_rf
  unfold f_X7_holder
  refine g_bv (fun r1 => ?_)
  refine g_if (fun _ => ?_) (fun _ => ?_)
  · skip
    exact g_sp hM
  · skip
    refine g_bv (fun r4 => ?_)
    refine g_if (fun _ => ?_) (fun _ => ?_)
    · skip
      exact g_sp hM
    · skip
      refine g_oM (g_X1_replay n x2 0 M) g_id g_id hM (fun M7 hM7 => ?_)
      refine g_gd (fun z1 => ?_)
      have y1 := g_lt z1
      exact g_sp hM7
theorem g_X7_image (n : Nat) (x1 : Int32) (M : m_M) : q_H (f_X7_image n x1 M) (fun a => g_fr w_32 w_33 M a.2) := by
  have hM : g_fr w_32 w_33 M M := g_rf
  unfold f_X7_image
  refine g_if (fun _ => ?_) (fun _ => ?_)
  · skip
    exact g_sp hM
  · skip
    refine g_if (fun _ => ?_) (fun _ => ?_)
    · skip
      refine g_gd (fun z1 => ?_)
      have y1 := g_lt z1
      refine g_oM (g_X3_takeAll n (16 + 14 * x1.toNatClampNeg) 1 M) (fun i j h => (h.elim (fun h => Or.inl (by omega)) (fun h => (h.elim (fun h => Or.inr (Or.inl (by omega))) (fun h => (h.elim (fun h => Or.inr (Or.inr (Or.inl (by omega)))) (fun h => (h.elim (fun h => Or.inr (Or.inr (Or.inr (Or.inl (by omega))))) (fun h => (h.elim (fun h => Or.inr (Or.inr (Or.inr (Or.inr (Or.inl (by omega)))))) (fun h => (h.elim (fun h => Or.inr (Or.inr (Or.inr (Or.inr (Or.inr (Or.inl (by omega))))))) (fun h => (h.elim (fun h => Or.inr (Or.inr (Or.inr (Or.inr (Or.inr (Or.inr (Or.inl (by omega)))))))) (fun h => (h.elim (fun h => Or.inr (Or.inr (Or.inr (Or.inr (Or.inr (Or.inr (Or.inr (Or.inl (by omega))))))))) (fun h => (h.elim (fun h => Or.inr (Or.inr (Or.inr (Or.inr (Or.inr (Or.inr (Or.inr (Or.inr (Or.inl (by omega)))))))))) (fun h => (h.elim (fun h => Or.inr (Or.inr (Or.inr (Or.inr (Or.inr (Or.inr (Or.inr (Or.inr (Or.inr (Or.inl (by omega))))))))))) (fun h => (h.elim (fun h => Or.inr (Or.inr (Or.inr (Or.inr (Or.inr (Or.inr (Or.inr (Or.inr (Or.inr (Or.inr (Or.inl (by omega)))))))))))) (fun h => (h.elim (fun h => Or.inr (Or.inr (Or.inr (Or.inr (Or.inr (Or.inr (Or.inr (Or.inr (Or.inr (Or.inr (Or.inr (Or.inl (by omega))))))))))))) (fun h => (h.elim (fun h => Or.inr (Or.inr (Or.inr (Or.inr (Or.inr (Or.inr (Or.inr (Or.inr (Or.inr (Or.inr (Or.inr (Or.inl (by omega))))))))))))) (fun h => absurd h (Nat.lt_irrefl i)))))))))))))))))))))))))))) (fun i j h => (h.elim (fun h => Or.inl (by omega)) (fun h => absurd h (Nat.lt_irrefl i)))) hM (fun M4 hM4 => ?_)
      refine g_bI hM4 (Or.inr (Or.inr (Or.inr (Or.inr (Or.inr (Or.inr (Or.inr (Or.inr (Or.inr (Or.inr (Or.inr (Or.inr (Or.inl (by omega)))))))))))))) (fun M5 hM5 => ?_)
      exact g_sp hM5
    · skip
      exact g_sp hM
theorem g_X7_in (n : Nat) (x1 : Int32) (x2 : Int32) (x3 : Int32) (M : m_M) : q_H (f_X7_in n x1 x2 x3 M) (fun a => g_fr w_13 w_1 M a.2) := by
  have hM : g_fr w_13 w_1 M M := g_rf
  unfold f_X7_in
  refine g_bv (fun r1 => ?_)
  refine g_if (fun _ => ?_) (fun _ => ?_)
  · skip
    exact g_sp hM
  · skip
    refine g_if (fun _ => ?_) (fun _ => ?_)
    · skip
      exact g_sp hM
    · skip
      refine g_if (fun _ => ?_) (fun _ => ?_)
      · skip
        exact g_sp hM
      · skip
        refine g_bv (fun r6 => ?_)
        refine g_if (fun _ => ?_) (fun _ => ?_)
        · skip
          exact g_sp hM
        · skip
          refine g_oM (g_X1_replay n x3 0 M) g_id g_id hM (fun M9 hM9 => ?_)
          refine g_gd (fun z1 => ?_)
          have y1 := g_lt z1
          refine g_if (fun _ => ?_) (fun _ => ?_)
          · skip
            refine g_ov (fun r12 => ?_)
            exact g_sp hM9
          · skip
            refine g_ov (fun r13 => ?_)
            exact g_sp hM9
theorem g_X7_line_b13 (n : Nat) (x1 : Int32) : ∀ (u : Nat) (x2 : Int32) (M : m_M), q_H (f_X7_line_b13 n x1 u x2 M) (fun a => g_fr w_34 w_1 M a.2) := by
  intro u
  induction u with
  | zero => exact fun _ _ _ h => nomatch h
  | succ u ih =>
    intro x2 M
    have hM : g_fr w_34 w_1 M M := g_rf
    rw [f_X7_line_b13]
    refine g_if (fun _ => ?_) (fun _ => ?_)
    · skip
      refine g_if (fun _ => ?_) (fun _ => ?_)
      · skip
        refine g_gd (fun z1 => ?_)
        have y1 := g_lt z1
        refine g_bI hM (Or.inr (Or.inl (by omega))) (fun M4 hM4 => ?_)
        refine g_bI hM4 (Or.inl (by omega)) (fun M5 hM5 => ?_)
        exact g_sp hM5
      · skip
        exact g_sp hM
    · skip
      refine g_gd (fun z2 => ?_)
      have y2 := g_lt z2
      refine g_if (fun _ => ?_) (fun _ => ?_)
      · skip
        exact g_sp hM
      · skip
        exact g_tP (ih (x2 + 1) M) g_id g_id hM
theorem g_X7_line (n : Nat) (x1 : Int32) (M : m_M) : q_H (f_X7_line n x1 M) (fun a => g_fr w_34 w_1 M a.2) := by
  have hM : g_fr w_34 w_1 M M := g_rf
  unfold f_X7_line
  refine g_bv (fun r8 => ?_)
  refine g_if (fun _ => ?_) (fun _ => ?_)
  · skip
    exact g_sp hM
  · skip
    exact g_tP (g_X7_line_b13 n x1 n 0 M) g_id g_id hM
theorem g_X6_leaveOut (x1 : Int32) (M : m_M) : q_H (f_X6_leaveOut x1 M) (fun a => g_fr w_35 w_1 M a) := by
  have hM : g_fr w_35 w_1 M M := g_rf
  unfold f_X6_leaveOut
  refine g_gd (fun z1 => ?_)
  have y1 := g_lt z1
  refine g_bI hM (Or.inl (by omega)) (fun M2 hM2 => ?_)
  refine g_bI hM2 (Or.inl (by omega)) (fun M3 hM3 => ?_)
  refine g_bI hM3 (Or.inl (by omega)) (fun M4 hM4 => ?_)
  refine g_bI hM4 (Or.inl (by omega)) (fun M5 hM5 => ?_)
  refine g_bI hM5 (Or.inl (by omega)) (fun M6 hM6 => ?_)
  refine g_bI hM6 (Or.inl (by omega)) (fun M7 hM7 => ?_)
  refine g_bI hM7 (Or.inl (by omega)) (fun M8 hM8 => ?_)
  refine g_bI hM8 (Or.inl (by omega)) (fun M9 hM9 => ?_)
  exact g_sm hM9
theorem g_X6_stand_b72 (n : Nat) (x1 : Int32) (x2 : Int32) (k4 : Nat) (M : m_M) : q_H (f_X6_stand_b72 n x1 x2 k4 M) (fun a => g_fr w_35 w_15 M a) := by
  have hM : g_fr w_35 w_15 M M := g_rf
  unfold f_X6_stand_b72
  refine g_gd (fun z1 => ?_)
  have y1 := g_lt z1
  refine g_ov (fun r2 => ?_)
  refine g_gd (fun z2 => ?_)
  have y2 := g_lt z2
  refine g_bI hM (Or.inl (by omega)) (fun M4 hM4 => ?_)
  refine g_ov (fun r5 => ?_)
  refine g_bI hM4 (Or.inl (by omega)) (fun M6 hM6 => ?_)
  refine g_gd (fun _ => ?_)
  refine g_bI hM6 (Or.inl (by omega)) (fun M7 hM7 => ?_)
  refine g_ov (fun r9 => ?_)
  refine g_if (fun _ => ?_) (fun _ => ?_)
  · skip
    refine g_bI hM7 (Or.inl (by omega)) (fun M11 hM11 => ?_)
    exact g_sm hM11
  · skip
    refine g_bI hM7 (Or.inl (by omega)) (fun M12 hM12 => ?_)
    exact g_sm hM12
theorem g_X6_stand (n : Nat) (x1 : Int32) (x2 : Int32) (M : m_M) : q_H (f_X6_stand n x1 x2 M) (fun a => g_fr w_35 w_15 M a) := by
  have hM : g_fr w_35 w_15 M M := g_rf
  unfold f_X6_stand
  refine g_gd (fun z1 => ?_)
  have y1 := g_lt z1
  refine g_gd (fun z2 => ?_)
  have y2 := g_lt z2
  refine g_bI hM (Or.inl (by omega)) (fun M15 hM15 => ?_)
  refine g_bI hM15 (Or.inl (by omega)) (fun M16 hM16 => ?_)
  refine g_bv (fun r17 => ?_)
  refine g_bI hM16 (Or.inl (by omega)) (fun M18 hM18 => ?_)
  refine g_ov (fun r19 => ?_)
  refine g_if (fun _ => ?_) (fun _ => ?_)
  · skip
    exact g_tM (g_X6_stand_b72 n x1 x2 (99 + x2.toNatClampNeg) M18) g_id g_id hM18
  · skip
    refine g_ov (fun r22 => ?_)
    refine g_o2 (g_X1_netOf n (M18.1 (99 + x2.toNatClampNeg) 0) 0 r22.toInt64 0 M18) (fun i j h => absurd h (Nat.lt_irrefl i)) g_id hM18 (fun r23 M24 hM24 => ?_)
    refine g_bI hM24 (Or.inl (by omega)) (fun M25 hM25 => ?_)
    exact g_tM (g_X6_stand_b72 n x1 x2 (99 + x2.toNatClampNeg) M25) g_id g_id hM25
theorem g_X6_lineUp_b10 (n : Nat) (k1 : Nat) : ∀ (u : Nat) (x3 : Int32) (M : m_M), q_H (f_X6_lineUp_b10 n k1 u x3 M) (fun a => g_fr w_36 w_15 M a) := by
  intro u
  induction u with
  | zero => exact fun _ _ _ h => nomatch h
  | succ u ih =>
    intro x3 M
    have hM : g_fr w_36 w_15 M M := g_rf
    rw [f_X6_lineUp_b10]
    refine g_if (fun _ => ?_) (fun _ => ?_)
    · skip
      exact g_sm hM
    · skip
      refine g_oM (g_X6_leaveOut x3 M) (fun i j h => (h.elim (fun h => Or.inr (Or.inl (h))) (fun h => absurd h (Nat.lt_irrefl i)))) (fun i j h => absurd h (Nat.lt_irrefl i)) hM (fun M2 hM2 => ?_)
      refine g_gd (fun z1 => ?_)
      have y1 := g_lt z1
      refine g_bv (fun r4 => ?_)
      refine g_if (fun _ => ?_) (fun _ => ?_)
      · skip
        exact g_tM (ih (x3 + 1) M2) g_id g_id hM2
      · skip
        refine g_oM (g_X6_stand n x3 (M2.1 (k1 + 2) x3.toNatClampNeg) M2) (fun i j h => (h.elim (fun h => Or.inr (Or.inl (h))) (fun h => absurd h (Nat.lt_irrefl i)))) g_id hM2 (fun M7 hM7 => ?_)
        exact g_tM (ih (x3 + 1) M7) g_id g_id hM7
theorem g_X6_lineUp (n : Nat) (k1 : Nat) (M : m_M) : q_H (f_X6_lineUp n k1 M) (fun a => g_fr w_36 w_15 M a) := by
  have hM : g_fr w_36 w_15 M M := g_rf
  unfold f_X6_lineUp
  refine g_bI hM (Or.inl (by omega)) (fun M8 hM8 => ?_)
  exact g_tM (g_X6_lineUp_b10 n k1 n 0 M8) g_id g_id hM8
theorem g_X7_lineUp (n : Nat) (x1 : Int32) (M : m_M) : q_H (f_X7_lineUp n x1 M) (fun a => g_fr w_37 w_15 M a) := by
  have hM : g_fr w_37 w_15 M M := g_rf
  unfold f_X7_lineUp
  refine g_oM (g_X1_reckon n x1 0 M) (fun i j h => (h.elim (fun h => Or.inl (h)) (fun h => (h.elim (fun h => Or.inr (Or.inl (h))) (fun h => (h.elim (fun h => Or.inr (Or.inr (Or.inl (h)))) (fun h => (h.elim (fun h => Or.inr (Or.inr (Or.inr (Or.inl (h))))) (fun h => (h.elim (fun h => Or.inr (Or.inr (Or.inr (Or.inr (Or.inl (h)))))) (fun h => (h.elim (fun h => Or.inr (Or.inr (Or.inr (Or.inr (Or.inr (Or.inl (h))))))) (fun h => (h.elim (fun h => Or.inr (Or.inr (Or.inr (Or.inr (Or.inr (Or.inr (Or.inl (h)))))))) (fun h => (h.elim (fun h => Or.inr (Or.inr (Or.inr (Or.inr (Or.inr (Or.inr (Or.inr (Or.inl (h))))))))) (fun h => (h.elim (fun h => Or.inr (Or.inr (Or.inr (Or.inr (Or.inr (Or.inr (Or.inr (Or.inr (Or.inl (h)))))))))) (fun h => (h.elim (fun h => Or.inr (Or.inr (Or.inr (Or.inr (Or.inr (Or.inr (Or.inr (Or.inr (Or.inr (Or.inl (h))))))))))) (fun h => (h.elim (fun h => Or.inr (Or.inr (Or.inr (Or.inr (Or.inr (Or.inr (Or.inr (Or.inr (Or.inr (Or.inr (Or.inl (h)))))))))))) (fun h => (h.elim (fun h => Or.inr (Or.inr (Or.inr (Or.inr (Or.inr (Or.inr (Or.inr (Or.inr (Or.inr (Or.inr (Or.inr (Or.inl (h))))))))))))) (fun h => (h.elim (fun h => Or.inr (Or.inr (Or.inr (Or.inr (Or.inr (Or.inr (Or.inr (Or.inr (Or.inr (Or.inr (Or.inr (Or.inr (Or.inl (h)))))))))))))) (fun h => (h.elim (fun h => Or.inr (Or.inr (Or.inr (Or.inr (Or.inr (Or.inr (Or.inr (Or.inr (Or.inr (Or.inr (Or.inr (Or.inr (Or.inr (Or.inl (h))))))))))))))) (fun h => (h.elim (fun h => Or.inr (Or.inr (Or.inr (Or.inr (Or.inr (Or.inr (Or.inr (Or.inr (Or.inr (Or.inr (Or.inr (Or.inr (Or.inr (Or.inr (Or.inl (h)))))))))))))))) (fun h => (h.elim (fun h => Or.inr (Or.inr (Or.inr (Or.inr (Or.inr (Or.inr (Or.inr (Or.inr (Or.inr (Or.inr (Or.inr (Or.inr (Or.inr (Or.inr (Or.inr (Or.inl (h))))))))))))))))) (fun h => (h.elim (fun h => Or.inr (Or.inr (Or.inr (Or.inr (Or.inr (Or.inr (Or.inr (Or.inr (Or.inr (Or.inr (Or.inr (Or.inr (Or.inr (Or.inr (Or.inr (Or.inr (Or.inl (h)))))))))))))))))) (fun h => (h.elim (fun h => Or.inr (Or.inr (Or.inr (Or.inr (Or.inr (Or.inr (Or.inr (Or.inr (Or.inr (Or.inr (Or.inr (Or.inr (Or.inr (Or.inr (Or.inr (Or.inr (Or.inr (Or.inl (h))))))))))))))))))) (fun h => (h.elim (fun h => Or.inr (Or.inr (Or.inr (Or.inr (Or.inr (Or.inr (Or.inr (Or.inr (Or.inr (Or.inr (Or.inr (Or.inr (Or.inr (Or.inr (Or.inr (Or.inr (Or.inr (Or.inr (Or.inl (h)))))))))))))))))))) (fun h => (h.elim (fun h => Or.inr (Or.inr (Or.inr (Or.inr (Or.inr (Or.inr (Or.inr (Or.inr (Or.inr (Or.inr (Or.inr (Or.inr (Or.inr (Or.inr (Or.inr (Or.inr (Or.inr (Or.inr (Or.inr (Or.inl (h))))))))))))))))))))) (fun h => (h.elim (fun h => Or.inr (Or.inr (Or.inr (Or.inr (Or.inr (Or.inr (Or.inr (Or.inr (Or.inr (Or.inr (Or.inr (Or.inr (Or.inr (Or.inr (Or.inr (Or.inr (Or.inr (Or.inr (Or.inr (Or.inr (Or.inl (h)))))))))))))))))))))) (fun h => (h.elim (fun h => Or.inr (Or.inr (Or.inr (Or.inr (Or.inr (Or.inr (Or.inr (Or.inr (Or.inr (Or.inr (Or.inr (Or.inr (Or.inr (Or.inr (Or.inr (Or.inr (Or.inr (Or.inr (Or.inr (Or.inr (Or.inr (Or.inl (h))))))))))))))))))))))) (fun h => (h.elim (fun h => Or.inr (Or.inr (Or.inr (Or.inr (Or.inr (Or.inr (Or.inr (Or.inr (Or.inr (Or.inr (Or.inr (Or.inr (Or.inr (Or.inr (Or.inr (Or.inr (Or.inr (Or.inr (Or.inr (Or.inr (Or.inr (Or.inr (Or.inl (h)))))))))))))))))))))))) (fun h => absurd h (Nat.lt_irrefl i)))))))))))))))))))))))))))))))))))))))))))))))) g_id hM (fun M1 hM1 => ?_)
  refine g_oM (g_X6_lineUp n 1 M1) (fun i j h => (h.elim (fun h => Or.inr (Or.inr (Or.inr (Or.inr (Or.inr (Or.inr (Or.inr (Or.inr (Or.inr (Or.inr (Or.inr (Or.inr (Or.inr (Or.inr (Or.inr (Or.inr (Or.inr (Or.inr (Or.inr (Or.inr (Or.inr (Or.inr (Or.inr (Or.inl (h))))))))))))))))))))))))) (fun h => (h.elim (fun h => Or.inr (Or.inr (Or.inr (Or.inr (Or.inr (Or.inr (Or.inr (Or.inr (Or.inr (Or.inr (Or.inr (Or.inr (Or.inr (Or.inr (Or.inr (Or.inr (Or.inr (Or.inr (Or.inr (Or.inr (Or.inr (Or.inr (Or.inr (Or.inr (Or.inl (h)))))))))))))))))))))))))) (fun h => absurd h (Nat.lt_irrefl i)))))) g_id hM1 (fun M2 hM2 => ?_)
  exact g_sm hM2
theorem g_X7_net (n : Nat) (x1 : Int32) (x2 : Int32) (x3 : Int32) (M : m_M) : q_H (f_X7_net n x1 x2 x3 M) (fun a => g_fr w_13 w_15 M a.2) := by
  have hM : g_fr w_13 w_15 M M := g_rf
  unfold f_X7_net
  refine g_bv (fun r1 => ?_)
  refine g_if (fun _ => ?_) (fun _ => ?_)
  · skip
    exact g_sp hM
  · skip
    refine g_bv (fun r4 => ?_)
    refine g_if (fun _ => ?_) (fun _ => ?_)
    · skip
      exact g_sp hM
    · skip
      refine g_bv (fun r7 => ?_)
      refine g_if (fun _ => ?_) (fun _ => ?_)
      · skip
        exact g_sp hM
      · skip
        refine g_oM (g_X1_reckon n x3 0 M) g_id g_id hM (fun M10 hM10 => ?_)
        refine g_o2 (g_X1_netOf n x1 x2 0 0 M10) (fun i j h => absurd h (Nat.lt_irrefl i)) g_id hM10 (fun r11 M12 hM12 => ?_)
        exact g_sp hM12
theorem g_X7_note (n : Nat) (x1 : Int32) (x2 : Int32) (x3 : Int32) (x4 : Int32) (x5 : Int32) (M : m_M) : q_H (f_X7_note n x1 x2 x3 x4 x5 M) (fun a => g_fr w_21 w_1 M a.2) := by
  have hM : g_fr w_21 w_1 M M := g_rf
  unfold f_X7_note
  refine g_o2 (g_X7_bring n x1 x2 x3 x4 x5 M) g_id g_id hM (fun r1 M2 hM2 => ?_)
  exact g_sp hM2
theorem g_X6_tryAhead_b45 (n : Nat) (rv : Int32 → Int32 → Int64 → Int32 → m_M → Option m_M) (x1 : Int32) (x2 : Int32) (x3 : Int64) (x5 : Int32) (hrv : ∀ (a0 : Int32) (a1 : Int32) (a2 : Int64) (a3 : Int32) (M : m_M), q_H (rv a0 a1 a2 a3 M) (fun a => g_fr w_1 w_38 M a)) : ∀ (u : Nat) (x8 : Int32) (M : m_M), q_H (f_X6_tryAhead_b45 n rv x1 x2 x3 x5 u x8 M) (fun a => g_fr w_1 w_38 M a) := by
  intro u
  induction u with
  | zero => exact fun _ _ _ h => nomatch h
  | succ u ih =>
    intro x8 M
    have hM : g_fr w_1 w_38 M M := g_rf
    rw [f_X6_tryAhead_b45]
    refine g_if (fun _ => ?_) (fun _ => ?_)
    · skip
      exact g_sm hM
    · skip
      refine g_if (fun _ => ?_) (fun _ => ?_)
      · skip
        exact g_tM (ih (x8 + 1) M) g_id g_id hM
      · skip
        refine g_gd (fun z1 => ?_)
        have y1 := g_lt z1
        refine g_gd (fun z2 => ?_)
        have y2 := g_lt z2
        refine g_if (fun _ => ?_) (fun _ => ?_)
        · skip
          refine g_bv (fun r6 => ?_)
          refine g_if (fun _ => ?_) (fun _ => ?_)
          · skip
            refine g_ov (fun r9 => ?_)
            refine g_oM (hrv x1 (x2 ||| ((1 : Int32) <<< (x8 &&& 31))) (x3 + r9) (x5 + (1 : Int32)) M) g_id g_id hM (fun M10 hM10 => ?_)
            exact g_tM (ih (x8 + 1) M10) g_id g_id hM10
          · skip
            exact g_tM (ih (x8 + 1) M) g_id g_id hM
        · skip
          exact g_tM (ih (x8 + 1) M) g_id g_id hM
theorem g_fb_X6_tryAhead (n : Nat) (rv : Int32 → Int32 → Int64 → Int32 → m_M → Option m_M) (x1 : Int32) (x2 : Int32) (x3 : Int64) (x5 : Int32) (M : m_M) (hrv : ∀ (a0 : Int32) (a1 : Int32) (a2 : Int64) (a3 : Int32) (M : m_M), q_H (rv a0 a1 a2 a3 M) (fun a => g_fr w_1 w_38 M a)) : q_H (fb_X6_tryAhead n rv x1 x2 x3 x5 M) (fun a => g_fr w_1 w_38 M a) := by
  have hM : g_fr w_1 w_38 M M := g_rf
  unfold fb_X6_tryAhead
  refine g_ov (fun r11 => ?_)
  refine g_bv (fun r12 => ?_)
  refine g_bL hM (Or.inl (by omega)) (fun M13 hM13 => ?_)
  refine g_bv (fun r14 => ?_)
  refine g_bL hM13 (Or.inr (Or.inl (by omega))) (fun M15 hM15 => ?_)
  refine g_if (fun _ => ?_) (fun _ => ?_)
  · skip
    exact g_tM (g_X6_tryAhead_b45 n rv x1 x2 x3 x5 hrv n 0 M15) g_id g_id hM15
  · skip
    exact g_sm hM15
theorem g_X6_tryAhead (n : Nat) : ∀ (u : Nat) (x1 : Int32) (x2 : Int32) (x3 : Int64) (x5 : Int32) (M : m_M), q_H (f_X6_tryAhead n u x1 x2 x3 x5 M) (fun a => g_fr w_1 w_38 M a) := by
  intro u
  induction u with
  | zero => exact fun _ _ _ _ _ _ h => nomatch h
  | succ d ih =>
    intro x1 x2 x3 x5 M
    have hM : g_fr w_1 w_38 M M := g_rf
    rw [f_X6_tryAhead]
    exact g_tM (g_fb_X6_tryAhead n (f_X6_tryAhead n d) x1 x2 x3 x5 M ih) g_id g_id hM
theorem g_X6_tryOrders (n : Nat) (x1 : Int32) (M : m_M) : q_H (f_X6_tryOrders n x1 M) (fun a => g_fr w_1 w_38 M a) := by
  have hM : g_fr w_1 w_38 M M := g_rf
  unfold f_X6_tryOrders
  refine g_gd (fun z1 => ?_)
  have y1 := g_lt z1
  refine g_bL hM (Or.inl (by omega)) (fun M2 hM2 => ?_)
  refine g_bL hM2 (Or.inr (Or.inl (by omega))) (fun M3 hM3 => ?_)
  refine g_oM (g_X6_tryAhead n 10 x1 0 0 0 M3) g_id g_id hM3 (fun M4 hM4 => ?_)
  exact g_sm hM4
theorem g_X7_orders (n : Nat) (x1 : Int32) (x2 : Int32) (x3 : Int32) (M : m_M) : q_H (f_X7_orders n x1 x2 x3 M) (fun a => g_fr w_37 w_39 M a.2) := by
  have hM : g_fr w_37 w_39 M M := g_rf
  unfold f_X7_orders
  refine g_bv (fun r1 => ?_)
  refine g_if (fun _ => ?_) (fun _ => ?_)
  · skip
    exact g_sp hM
  · skip
    refine g_if (fun _ => ?_) (fun _ => ?_)
    · skip
      exact g_sp hM
    · skip
      refine g_if (fun _ => ?_) (fun _ => ?_)
      · skip
        exact g_sp hM
      · skip
        refine g_bv (fun r6 => ?_)
        refine g_if (fun _ => ?_) (fun _ => ?_)
        · skip
          exact g_sp hM
        · skip
          refine g_oM (g_X7_lineUp n x3 M) g_id (fun i j h => (h.elim (fun h => Or.inl (h)) (fun h => (h.elim (fun h => Or.inr (Or.inl (h))) (fun h => (h.elim (fun h => Or.inr (Or.inr (Or.inl (h)))) (fun h => (h.elim (fun h => Or.inr (Or.inr (Or.inr (Or.inl (h))))) (fun h => (h.elim (fun h => Or.inr (Or.inr (Or.inr (Or.inr (Or.inl (h)))))) (fun h => (h.elim (fun h => Or.inr (Or.inr (Or.inr (Or.inr (Or.inr (Or.inl (h))))))) (fun h => absurd h (Nat.lt_irrefl i)))))))))))))) hM (fun M9 hM9 => ?_)
          refine g_oM (g_X6_tryOrders n x1 M9) (fun i j h => absurd h (Nat.lt_irrefl i)) (fun i j h => (h.elim (fun h => Or.inr (Or.inr (Or.inr (Or.inr (Or.inr (Or.inr (Or.inl (h)))))))) (fun h => (h.elim (fun h => Or.inr (Or.inr (Or.inr (Or.inr (Or.inr (Or.inr (Or.inr (Or.inl (h))))))))) (fun h => absurd h (Nat.lt_irrefl i)))))) hM9 (fun M10 hM10 => ?_)
          refine g_if (fun _ => ?_) (fun _ => ?_)
          · skip
            exact g_sp hM10
          · skip
            exact g_sp hM10
theorem g_X7_owed (n : Nat) (x1 : Int32) (x2 : Int32) (M : m_M) : q_H (f_X7_owed n x1 x2 M) (fun a => g_fr w_13 w_1 M a.2) := by
  have hM : g_fr w_13 w_1 M M := g_rf
  unfold f_X7_owed
  refine g_bv (fun r1 => ?_)
  refine g_if (fun _ => ?_) (fun _ => ?_)
  · skip
    exact g_sp hM
  · skip
    refine g_bv (fun r4 => ?_)
    refine g_if (fun _ => ?_) (fun _ => ?_)
    · skip
      exact g_sp hM
    · skip
      refine g_oM (g_X1_replay n x2 0 M) g_id g_id hM (fun M7 hM7 => ?_)
      refine g_bv (fun r8 => ?_)
      refine g_if (fun _ => ?_) (fun _ => ?_)
      · skip
        exact g_sp hM7
      · skip
        refine g_gd (fun z1 => ?_)
        have y1 := g_lt z1
        refine g_bv (fun r12 => ?_)
        exact g_sp hM7
theorem g_X7_own (n : Nat) (x1 : Int32) (x2 : Int32) (x3 : Int32) (M : m_M) : q_H (f_X7_own n x1 x2 x3 M) (fun a => g_fr w_13 w_15 M a.2) := by
  have hM : g_fr w_13 w_15 M M := g_rf
  unfold f_X7_own
  refine g_bv (fun r1 => ?_)
  refine g_if (fun _ => ?_) (fun _ => ?_)
  · skip
    exact g_sp hM
  · skip
    refine g_if (fun _ => ?_) (fun _ => ?_)
    · skip
      exact g_sp hM
    · skip
      refine g_if (fun _ => ?_) (fun _ => ?_)
      · skip
        exact g_sp hM
      · skip
        refine g_bv (fun r6 => ?_)
        refine g_if (fun _ => ?_) (fun _ => ?_)
        · skip
          exact g_sp hM
        · skip
          refine g_oM (g_X1_reckon n x3 0 M) g_id g_id hM (fun M9 hM9 => ?_)
          refine g_if (fun _ => ?_) (fun _ => ?_)
          · skip
            refine g_gd (fun z1 => ?_)
            have y1 := g_lt z1
            exact g_sp hM9
          · skip
            refine g_if (fun _ => ?_) (fun _ => ?_)
            · skip
              refine g_ov (fun r13 => ?_)
              exact g_sp hM9
            · skip
              refine g_ov (fun r12 => ?_)
              exact g_sp hM9
theorem g_X7_parted_b21 (n : Nat) (x1 : Int32) : ∀ (u : Nat) (x2 : Int32) (M : m_M), q_H (f_X7_parted_b21 n x1 u x2 M) (fun a => g_fr w_13 w_15 M a.2) := by
  intro u
  induction u with
  | zero => exact fun _ _ _ h => nomatch h
  | succ u ih =>
    intro x2 M
    have hM : g_fr w_13 w_15 M M := g_rf
    rw [f_X7_parted_b21]
    refine g_if (fun _ => ?_) (fun _ => ?_)
    · skip
      exact g_sp hM
    · skip
      refine g_o2 (g_X1_purseAsk n x2 0 M) (fun i j h => absurd h (Nat.lt_irrefl i)) g_id hM (fun r2 M3 hM3 => ?_)
      refine g_o2 (g_X1_purseAsk n x2 1 M3) (fun i j h => absurd h (Nat.lt_irrefl i)) g_id hM3 (fun r4 M5 hM5 => ?_)
      refine g_if (fun _ => ?_) (fun _ => ?_)
      · skip
        exact g_tP (ih (x2 + 1) M5) g_id g_id hM5
      · skip
        exact g_sp hM5
theorem g_X7_parted (n : Nat) (x1 : Int32) (M : m_M) : q_H (f_X7_parted n x1 M) (fun a => g_fr w_13 w_15 M a.2) := by
  have hM : g_fr w_13 w_15 M M := g_rf
  unfold f_X7_parted
  refine g_bv (fun r7 => ?_)
  refine g_if (fun _ => ?_) (fun _ => ?_)
  · skip
    exact g_sp hM
  · skip
    refine g_oM (g_X1_reckon n x1 0 M) g_id g_id hM (fun M10 hM10 => ?_)
    exact g_tP (g_X7_parted_b21 n x1 n 0 M10) g_id g_id hM10
theorem g_X7_person (M : m_M) : g_fr w_40 w_1 M (f_X7_person M).2 := by
  unfold f_X7_person
  simp only [m_bd, f_X8_persons, f_X8_lined]
  repeat' split
  all_goals (repeat' (first | exact g_rf | refine g_sI ?_ (by first | exact Or.inl (by omega))))
theorem g_X2_goToStart (M : m_M) : g_fr w_41 w_1 M (f_X2_goToStart M) := by
  unfold f_X2_goToStart
  simp only [m_bd, f_X8_persons, f_X8_lined]
  repeat' split
  all_goals (repeat' (first | exact g_rf | refine g_sI ?_ (by first | exact Or.inl (by omega) | exact Or.inr (Or.inl (by omega)))))
theorem g_X2_skipBlanks_b0 (n : Nat) : ∀ (u : Nat) (M : m_M), q_H (f_X2_skipBlanks_b0 n u M) (fun a => g_fr w_42 w_1 M a) := by
  intro u
  induction u with
  | zero => exact fun _ _ h => nomatch h
  | succ u ih =>
    intro M
    have hM : g_fr w_42 w_1 M M := g_rf
    rw [f_X2_skipBlanks_b0]
    refine g_if (fun _ => ?_) (fun _ => ?_)
    · skip
      exact g_sm hM
    · skip
      refine g_gd (fun z1 => ?_)
      have y1 := g_lt z1
      refine g_if (fun _ => ?_) (fun _ => ?_)
      · skip
        refine g_bI hM (Or.inl (by omega)) (fun M4 hM4 => ?_)
        exact g_tM (ih M4) g_id g_id hM4
      · skip
        exact g_sm hM
theorem g_X2_skipBlanks (n : Nat) (M : m_M) : q_H (f_X2_skipBlanks n M) (fun a => g_fr w_42 w_1 M a) := by
  have hM : g_fr w_42 w_1 M M := g_rf
  unfold f_X2_skipBlanks
  refine g_if (fun _ => ?_) (fun _ => ?_)
  · skip
    exact g_sm hM
  · skip
    refine g_gd (fun z1 => ?_)
    have y1 := g_lt z1
    refine g_if (fun _ => ?_) (fun _ => ?_)
    · skip
      refine g_bI hM (Or.inl (by omega)) (fun M8 hM8 => ?_)
      exact g_tM (g_X2_skipBlanks_b0 n n M8) g_id g_id hM8
    · skip
      exact g_sm hM
theorem g_X2_blame (x1 : Int32) (M : m_M) : g_fr w_43 w_1 M (f_X2_blame x1 M) := by
  unfold f_X2_blame
  simp only [m_bd, f_X8_persons, f_X8_lined]
  repeat' split
  all_goals (repeat' (first | exact g_rf | refine g_sI ?_ (by first | exact Or.inl (by omega))))
theorem g_X2_number_b91 (n : Nat) (x1 : Int32) (x2 : Int32) (M : m_M) : q_H (f_X2_number_b91 n x1 x2 M) (fun a => g_fr w_41 w_1 M a.2) := by
  have hM : g_fr w_41 w_1 M M := g_rf
  unfold f_X2_number_b91
  refine g_if (fun _ => ?_) (fun _ => ?_)
  · skip
    refine g_bT (g_X2_blame x1 M) (fun i j h => (h.elim (fun h => Or.inr (Or.inl (h))) (fun h => absurd h (Nat.lt_irrefl i)))) g_id hM (fun M2 hM2 => ?_)
    exact g_sp hM2
  · skip
    refine g_if (fun _ => ?_) (fun _ => ?_)
    · skip
      exact g_sp hM
    · skip
      refine g_bT (g_X2_blame x1 M) (fun i j h => (h.elim (fun h => Or.inr (Or.inl (h))) (fun h => absurd h (Nat.lt_irrefl i)))) g_id hM (fun M4 hM4 => ?_)
      exact g_sp hM4
