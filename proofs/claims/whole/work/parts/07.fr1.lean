/-! FRAMES 1 -/
theorem g_X0_start (k0 : Nat) (x1 : Int32) (x2 : Int32) (x3 : Int32) (k4 : Nat) (M : m_M) : q_H (f_X0_start k0 x1 x2 x3 k4 M) (fun a => g_fr (w_0 k0) w_1 M a) := by
  have hM : g_fr (w_0 k0) w_1 M M := g_rf
  unfold f_X0_start
  refine g_bI hM (Or.inl (by omega)) (fun M1 hM1 => ?_)
  refine g_bI hM1 (Or.inr (Or.inl (by omega))) (fun M2 hM2 => ?_)
  refine g_bI hM2 (Or.inr (Or.inr (Or.inl (by omega)))) (fun M3 hM3 => ?_)
  refine g_bI hM3 (Or.inr (Or.inr (Or.inr (Or.inl (by omega))))) (fun M4 hM4 => ?_)
  refine g_bI hM4 (Or.inr (Or.inr (Or.inr (Or.inr (Or.inl (by omega)))))) (fun M5 hM5 => ?_)
  refine g_bI hM5 (Or.inr (Or.inr (Or.inr (Or.inr (Or.inr (Or.inl (by omega))))))) (fun M6 hM6 => ?_)
  refine g_bI hM6 (Or.inr (Or.inr (Or.inr (Or.inr (Or.inr (Or.inr (Or.inl (by omega)))))))) (fun M7 hM7 => ?_)
  refine g_bI hM7 (Or.inr (Or.inr (Or.inr (Or.inr (Or.inr (Or.inr (Or.inr (Or.inl (by omega))))))))) (fun M8 hM8 => ?_)
  refine g_gd (fun z1 => ?_)
  have y1 := g_lt z1
  refine g_gd (fun _ => ?_)
  refine g_bI hM8 (Or.inr (Or.inr (Or.inr (Or.inr (Or.inr (Or.inr (Or.inr (Or.inr (Or.inl (by omega)))))))))) (fun M10 hM10 => ?_)
  refine g_gd (fun _ => ?_)
  refine g_bI hM10 (Or.inr (Or.inr (Or.inr (Or.inr (Or.inr (Or.inr (Or.inr (Or.inr (Or.inr (Or.inl (by omega))))))))))) (fun M12 hM12 => ?_)
  exact g_sm hM12
theorem g_X4_peek_b38 (n : Nat) (k0 : Nat) (M : m_M) : q_H (f_X4_peek_b38 n k0 M) (fun a => g_fr (w_2 k0) w_1 M a.2) := by
  have hM : g_fr (w_2 k0) w_1 M M := g_rf
  unfold f_X4_peek_b38
  refine g_if (fun _ => ?_) (fun _ => ?_)
  · skip
    exact g_sp hM
  · skip
    refine g_if (fun _ => ?_) (fun _ => ?_)
    · skip
      refine g_gd (fun z1 => ?_)
      have y1 := g_lt z1
      exact g_sp hM
    · skip
      exact g_sp hM
theorem g_X4_peek_b0 (n : Nat) (k0 : Nat) : ∀ (u : Nat) (M : m_M), q_H (f_X4_peek_b0 n k0 u M) (fun a => g_fr (w_2 k0) w_1 M a.2) := by
  intro u
  induction u with
  | zero => exact fun _ _ h => nomatch h
  | succ u ih =>
    intro M
    have hM : g_fr (w_2 k0) w_1 M M := g_rf
    rw [f_X4_peek_b0]
    refine g_if (fun _ => ?_) (fun _ => ?_)
    · skip
      exact g_tP (g_X4_peek_b38 n k0 M) g_id g_id hM
    · skip
      refine g_gd (fun z1 => ?_)
      have y1 := g_lt z1
      refine g_if (fun _ => ?_) (fun _ => ?_)
      · skip
        refine g_bI hM (Or.inl (by omega)) (fun M7 hM7 => ?_)
        exact g_tP (ih M7) g_id g_id hM7
      · skip
        exact g_tP (g_X4_peek_b38 n k0 M) g_id g_id hM
theorem g_X4_peek (n : Nat) (k0 : Nat) (M : m_M) : q_H (f_X4_peek n k0 M) (fun a => g_fr (w_2 k0) w_1 M a.2) := by
  have hM : g_fr (w_2 k0) w_1 M M := g_rf
  unfold f_X4_peek
  refine g_if (fun _ => ?_) (fun _ => ?_)
  · skip
    exact g_tP (g_X4_peek_b38 n k0 M) g_id g_id hM
  · skip
    refine g_gd (fun z1 => ?_)
    have y1 := g_lt z1
    refine g_if (fun _ => ?_) (fun _ => ?_)
    · skip
      refine g_bI hM (Or.inl (by omega)) (fun M11 hM11 => ?_)
      exact g_tP (g_X4_peek_b0 n k0 n M11) g_id g_id hM11
    · skip
      exact g_tP (g_X4_peek_b38 n k0 M) g_id g_id hM
theorem g_X4_blame (k0 : Nat) (x1 : Int32) (x2 : Int32) (M : m_M) : g_fr (w_3 k0) w_1 M (f_X4_blame k0 x1 x2 M) := by
  unfold f_X4_blame
  simp only [m_bd, f_X8_persons, f_X8_lined]
  repeat' split
  all_goals (repeat' (first | exact g_rf | refine g_sI ?_ (by first | exact Or.inl (by omega))))
theorem g_X4_step (k0 : Nat) (x1 : Int32) (x2 : Int64) (M : m_M) : q_H (f_X4_step k0 x1 x2 M) (fun a => g_fr (w_4 k0) (w_5 k0) M a) := by
  have hM : g_fr (w_4 k0) (w_5 k0) M M := g_rf
  unfold f_X4_step
  refine g_if (fun _ => ?_) (fun _ => ?_)
  · skip
    refine g_gd (fun z1 => ?_)
    have y1 := g_lt z1
    refine g_bI hM (Or.inr (Or.inl (by omega))) (fun M3 hM3 => ?_)
    refine g_gd (fun z2 => ?_)
    have y2 := g_lt z2
    refine g_bL hM3 (Or.inl (by omega)) (fun M5 hM5 => ?_)
    refine g_bI hM5 (Or.inl (by omega)) (fun M6 hM6 => ?_)
    exact g_sm hM6
  · skip
    exact g_sm hM
theorem g_X4_digits_b77 (n : Nat) (k0 : Nat) (x1 : Int32) (x2 : Int64) (M : m_M) : q_H (f_X4_digits_b77 n k0 x1 x2 M) (fun a => g_fr (w_6 k0) (w_5 k0) M a) := by
  have hM : g_fr (w_6 k0) (w_5 k0) M M := g_rf
  unfold f_X4_digits_b77
  refine g_if (fun _ => ?_) (fun _ => ?_)
  · skip
    refine g_oM (g_X4_step k0 110 x2 M) (fun i j h => (h.elim (fun h => Or.inl (by omega)) (fun h => (h.elim (fun h => Or.inr (Or.inr (Or.inr (Or.inl (by omega))))) (fun h => absurd h (Nat.lt_irrefl i)))))) g_id hM (fun M2 hM2 => ?_)
    exact g_sm hM2
  · skip
    refine g_bT (g_X4_blame k0 x1 2 M) (fun i j h => (h.elim (fun h => Or.inr (Or.inr (Or.inl (by omega)))) (fun h => absurd h (Nat.lt_irrefl i)))) (fun i j h => absurd h (Nat.lt_irrefl i)) hM (fun M3 hM3 => ?_)
    refine g_oM (g_X4_step k0 110 x2 M3) (fun i j h => (h.elim (fun h => Or.inl (by omega)) (fun h => (h.elim (fun h => Or.inr (Or.inr (Or.inr (Or.inl (by omega))))) (fun h => absurd h (Nat.lt_irrefl i)))))) g_id hM3 (fun M4 hM4 => ?_)
    exact g_sm hM4
theorem g_X4_digits_b64 (n : Nat) (k0 : Nat) (q7 : Int32 → Int64 → m_M → Option m_M) (x1 : Int32) (x2 : Int64) (M : m_M) (hq7 : ∀ (a0 : Int32) (a1 : Int64) (M : m_M), q_H (q7 a0 a1 M) (fun a => g_fr (w_6 k0) (w_5 k0) M a)) : q_H (f_X4_digits_b64 n k0 q7 x1 x2 M) (fun a => g_fr (w_6 k0) (w_5 k0) M a) := by
  have hM : g_fr (w_6 k0) (w_5 k0) M M := g_rf
  unfold f_X4_digits_b64
  refine g_bI hM (Or.inr (Or.inl (by omega))) (fun M5 hM5 => ?_)
  exact g_tM (hq7 x1 x2 M5) g_id g_id hM5
theorem g_X4_digits_b7 (n : Nat) (k0 : Nat) : ∀ (u : Nat) (x1 : Int32) (x2 : Int64) (M : m_M), q_H (f_X4_digits_b7 n k0 u x1 x2 M) (fun a => g_fr (w_6 k0) (w_5 k0) M a) := by
  intro u
  induction u with
  | zero => exact fun _ _ _ _ h => nomatch h
  | succ u ih =>
    intro x1 x2 M
    have hM : g_fr (w_6 k0) (w_5 k0) M M := g_rf
    rw [f_X4_digits_b7]
    refine g_if (fun _ => ?_) (fun _ => ?_)
    · skip
      exact g_tM (g_X4_digits_b77 n k0 x1 x2 M) g_id g_id hM
    · skip
      refine g_gd (fun z1 => ?_)
      have y1 := g_lt z1
      refine g_bv (fun r8 => ?_)
      refine g_if (fun _ => ?_) (fun _ => ?_)
      · skip
        exact g_tM (g_X4_digits_b77 n k0 x1 x2 M) g_id g_id hM
      · skip
        refine g_if (fun _ => ?_) (fun _ => ?_)
        · skip
          exact g_tM (g_X4_digits_b64 n k0 (f_X4_digits_b7 n k0 u) x1 x2 M ih) g_id g_id hM
        · skip
          refine g_bv (fun t12 => ?_)
          exact g_tM (g_X4_digits_b64 n k0 (f_X4_digits_b7 n k0 u) x1 t12 M ih) g_id g_id hM
theorem g_X4_digits (n : Nat) (k0 : Nat) (M : m_M) : q_H (f_X4_digits n k0 M) (fun a => g_fr (w_6 k0) (w_5 k0) M a) := by
  have hM : g_fr (w_6 k0) (w_5 k0) M M := g_rf
  unfold f_X4_digits
  exact g_tM (g_X4_digits_b7 n k0 n (M.1 k0 6) 0 M) g_id g_id hM
theorem g_X4_opened (n : Nat) (rv : Nat → Int32 → m_M → Option m_M) (k0 : Nat) (x1 : Int32) (M : m_M) (hrv : ∀ (a0 : Nat) (a1 : Int32) (M : m_M), q_H (rv a0 a1 M) (fun a => g_fr (w_6 a0) (w_5 a0) M a)) : q_H (f_X4_opened n rv k0 x1 M) (fun a => g_fr (w_6 k0) (w_5 k0) M a) := by
  have hM : g_fr (w_6 k0) (w_5 k0) M M := g_rf
  unfold f_X4_opened
  refine g_if (fun _ => ?_) (fun _ => ?_)
  · skip
    refine g_bI hM (Or.inr (Or.inl (by omega))) (fun M2 hM2 => ?_)
    refine g_oM (hrv k0 (x1 + (1 : Int32)) M2) g_id g_id hM2 (fun M3 hM3 => ?_)
    refine g_o2 (g_X4_peek n k0 M3) (fun i j h => (h.elim (fun h => Or.inr (Or.inl (by omega))) (fun h => absurd h (Nat.lt_irrefl i)))) (fun i j h => absurd h (Nat.lt_irrefl i)) hM3 (fun r4 M5 hM5 => ?_)
    refine g_if (fun _ => ?_) (fun _ => ?_)
    · skip
      refine g_bI hM5 (Or.inr (Or.inl (by omega))) (fun M8 hM8 => ?_)
      exact g_sm hM8
    · skip
      refine g_bT (g_X4_blame k0 (M5.1 k0 6) 1 M5) (fun i j h => (h.elim (fun h => Or.inr (Or.inr (Or.inl (by omega)))) (fun h => absurd h (Nat.lt_irrefl i)))) (fun i j h => absurd h (Nat.lt_irrefl i)) hM5 (fun M7 hM7 => ?_)
      exact g_sm hM7
  · skip
    refine g_bT (g_X4_blame k0 (M.1 k0 6) 3 M) (fun i j h => (h.elim (fun h => Or.inr (Or.inr (Or.inl (by omega)))) (fun h => absurd h (Nat.lt_irrefl i)))) (fun i j h => absurd h (Nat.lt_irrefl i)) hM (fun M9 hM9 => ?_)
    exact g_sm hM9
theorem g_X4_operand (n : Nat) (rv : Nat → Int32 → m_M → Option m_M) (k0 : Nat) (x1 : Int32) (M : m_M) (hrv : ∀ (a0 : Nat) (a1 : Int32) (M : m_M), q_H (rv a0 a1 M) (fun a => g_fr (w_6 a0) (w_5 a0) M a)) : q_H (f_X4_operand n rv k0 x1 M) (fun a => g_fr (w_6 k0) (w_5 k0) M a) := by
  have hM : g_fr (w_6 k0) (w_5 k0) M M := g_rf
  unfold f_X4_operand
  refine g_o2 (g_X4_peek n k0 M) (fun i j h => (h.elim (fun h => Or.inr (Or.inl (by omega))) (fun h => absurd h (Nat.lt_irrefl i)))) (fun i j h => absurd h (Nat.lt_irrefl i)) hM (fun r1 M2 hM2 => ?_)
  refine g_bv (fun r3 => ?_)
  refine g_if (fun _ => ?_) (fun _ => ?_)
  · skip
    refine g_if (fun _ => ?_) (fun _ => ?_)
    · skip
      refine g_oM (g_X4_opened n rv k0 x1 M2 hrv) g_id g_id hM2 (fun M15 hM15 => ?_)
      exact g_sm hM15
    · skip
      refine g_if (fun _ => ?_) (fun _ => ?_)
      · skip
        refine g_bT (g_X4_blame k0 (M2.1 k0 6) 1 M2) (fun i j h => (h.elim (fun h => Or.inr (Or.inr (Or.inl (by omega)))) (fun h => absurd h (Nat.lt_irrefl i)))) (fun i j h => absurd h (Nat.lt_irrefl i)) hM2 (fun M8 hM8 => ?_)
        exact g_sm hM8
      · skip
        refine g_ov (fun r9 => ?_)
        refine g_if (fun _ => ?_) (fun _ => ?_)
        · skip
          refine g_bT (g_X4_blame k0 (M2.1 k0 6) 1 M2) (fun i j h => (h.elim (fun h => Or.inr (Or.inr (Or.inl (by omega)))) (fun h => absurd h (Nat.lt_irrefl i)))) (fun i j h => absurd h (Nat.lt_irrefl i)) hM2 (fun M11 hM11 => ?_)
          exact g_sm hM11
        · skip
          refine g_bI hM2 (Or.inr (Or.inl (by omega))) (fun M12 hM12 => ?_)
          refine g_ov (fun r13 => ?_)
          refine g_oM (g_X4_step k0 118 r13.toInt64 M12) (fun i j h => (h.elim (fun h => Or.inl (by omega)) (fun h => (h.elim (fun h => Or.inr (Or.inr (Or.inr (Or.inl (by omega))))) (fun h => absurd h (Nat.lt_irrefl i)))))) g_id hM12 (fun M14 hM14 => ?_)
          exact g_sm hM14
  · skip
    refine g_oM (g_X4_digits n k0 M2) g_id g_id hM2 (fun M16 hM16 => ?_)
    exact g_sm hM16
theorem g_X4_unit_b87 (n : Nat) (rv : Nat → Int32 → m_M → Option m_M) (k0 : Nat) (x1 : Int32) (q62 : Int32 → Int32 → m_M → Option m_M) (x2 : Int32) (x4 : Int32) (M : m_M) (hrv : ∀ (a0 : Nat) (a1 : Int32) (M : m_M), q_H (rv a0 a1 M) (fun a => g_fr (w_6 a0) (w_5 a0) M a)) (hq62 : ∀ (a0 : Int32) (a1 : Int32) (M : m_M), q_H (q62 a0 a1 M) (fun a => g_fr (w_6 k0) (w_5 k0) M a)) : q_H (f_X4_unit_b87 n rv k0 x1 q62 x2 x4 M) (fun a => g_fr (w_6 k0) (w_5 k0) M a) := by
  have hM : g_fr (w_6 k0) (w_5 k0) M M := g_rf
  unfold f_X4_unit_b87
  refine g_gd (fun z1 => ?_)
  have y1 := g_lt z1
  refine g_if (fun _ => ?_) (fun _ => ?_)
  · skip
    refine g_oM (g_X4_step k0 126 0 M) (fun i j h => (h.elim (fun h => Or.inl (by omega)) (fun h => (h.elim (fun h => Or.inr (Or.inr (Or.inr (Or.inl (by omega))))) (fun h => absurd h (Nat.lt_irrefl i)))))) g_id hM (fun M3 hM3 => ?_)
    exact g_tM (hq62 x2 (x4 + (-1)) M3) g_id g_id hM3
  · skip
    exact g_tM (hq62 x2 (x4 + (-1)) M) g_id g_id hM
theorem g_X4_unit_b62 (n : Nat) (rv : Nat → Int32 → m_M → Option m_M) (k0 : Nat) (x1 : Int32) (hrv : ∀ (a0 : Nat) (a1 : Int32) (M : m_M), q_H (rv a0 a1 M) (fun a => g_fr (w_6 a0) (w_5 a0) M a)) : ∀ (u : Nat) (x2 : Int32) (x4 : Int32) (M : m_M), q_H (f_X4_unit_b62 n rv k0 x1 u x2 x4 M) (fun a => g_fr (w_6 k0) (w_5 k0) M a) := by
  intro u
  induction u with
  | zero => exact fun _ _ _ _ h => nomatch h
  | succ u ih =>
    intro x2 x4 M
    have hM : g_fr (w_6 k0) (w_5 k0) M M := g_rf
    rw [f_X4_unit_b62]
    refine g_if (fun _ => ?_) (fun _ => ?_)
    · skip
      exact g_sm hM
    · skip
      refine g_gd (fun z1 => ?_)
      have y1 := g_lt z1
      refine g_if (fun _ => ?_) (fun _ => ?_)
      · skip
        refine g_oM (g_X4_step k0 33 0 M) (fun i j h => (h.elim (fun h => Or.inl (by omega)) (fun h => (h.elim (fun h => Or.inr (Or.inr (Or.inr (Or.inl (by omega))))) (fun h => absurd h (Nat.lt_irrefl i)))))) g_id hM (fun M7 hM7 => ?_)
        exact g_tM (g_X4_unit_b87 n rv k0 x1 (f_X4_unit_b62 n rv k0 x1 u) x2 x4 M7 hrv ih) g_id g_id hM7
      · skip
        exact g_tM (g_X4_unit_b87 n rv k0 x1 (f_X4_unit_b62 n rv k0 x1 u) x2 x4 M hrv ih) g_id g_id hM
theorem g_X4_unit_b47 (n : Nat) (rv : Nat → Int32 → m_M → Option m_M) (k0 : Nat) (x1 : Int32) (x2 : Int32) (M : m_M) (hrv : ∀ (a0 : Nat) (a1 : Int32) (M : m_M), q_H (rv a0 a1 M) (fun a => g_fr (w_6 a0) (w_5 a0) M a)) : q_H (f_X4_unit_b47 n rv k0 x1 x2 M) (fun a => g_fr (w_6 k0) (w_5 k0) M a) := by
  have hM : g_fr (w_6 k0) (w_5 k0) M M := g_rf
  unfold f_X4_unit_b47
  refine g_oM (g_X4_operand n rv k0 x1 M hrv) g_id g_id hM (fun M8 hM8 => ?_)
  exact g_tM (g_X4_unit_b62 n rv k0 x1 hrv n x2 ((M.1 k0 6) - (1 : Int32)) M8) g_id g_id hM8
theorem g_X4_unit_b31 (n : Nat) (rv : Nat → Int32 → m_M → Option m_M) (k0 : Nat) (x1 : Int32) (q7 : Int32 → Int32 → m_M → Option m_M) (x2 : Int32) (x3 : Int32) (M : m_M) (hrv : ∀ (a0 : Nat) (a1 : Int32) (M : m_M), q_H (rv a0 a1 M) (fun a => g_fr (w_6 a0) (w_5 a0) M a)) (hq7 : ∀ (a0 : Int32) (a1 : Int32) (M : m_M), q_H (q7 a0 a1 M) (fun a => g_fr (w_6 k0) (w_5 k0) M a)) : q_H (f_X4_unit_b31 n rv k0 x1 q7 x2 x3 M) (fun a => g_fr (w_6 k0) (w_5 k0) M a) := by
  have hM : g_fr (w_6 k0) (w_5 k0) M M := g_rf
  unfold f_X4_unit_b31
  refine g_bI hM (Or.inr (Or.inl (by omega))) (fun M9 hM9 => ?_)
  exact g_tM (hq7 x2 (x3 + 1) M9) g_id g_id hM9
theorem g_X4_unit_b7 (n : Nat) (rv : Nat → Int32 → m_M → Option m_M) (k0 : Nat) (x1 : Int32) (hrv : ∀ (a0 : Nat) (a1 : Int32) (M : m_M), q_H (rv a0 a1 M) (fun a => g_fr (w_6 a0) (w_5 a0) M a)) : ∀ (u : Nat) (x2 : Int32) (x3 : Int32) (M : m_M), q_H (f_X4_unit_b7 n rv k0 x1 u x2 x3 M) (fun a => g_fr (w_6 k0) (w_5 k0) M a) := by
  intro u
  induction u with
  | zero => exact fun _ _ _ _ h => nomatch h
  | succ u ih =>
    intro x2 x3 M
    have hM : g_fr (w_6 k0) (w_5 k0) M M := g_rf
    rw [f_X4_unit_b7]
    refine g_if (fun _ => ?_) (fun _ => ?_)
    · skip
      exact g_tM (g_X4_unit_b47 n rv k0 x1 x2 M hrv) g_id g_id hM
    · skip
      refine g_o2 (g_X4_peek n k0 M) (fun i j h => (h.elim (fun h => Or.inr (Or.inl (by omega))) (fun h => absurd h (Nat.lt_irrefl i)))) (fun i j h => absurd h (Nat.lt_irrefl i)) hM (fun r11 M12 hM12 => ?_)
      refine g_if (fun _ => ?_) (fun _ => ?_)
      · skip
        exact g_tM (g_X4_unit_b31 n rv k0 x1 (f_X4_unit_b7 n rv k0 x1 u) x2 x3 M12 hrv ih) g_id g_id hM12
      · skip
        refine g_o2 (g_X4_peek n k0 M12) (fun i j h => (h.elim (fun h => Or.inr (Or.inl (by omega))) (fun h => absurd h (Nat.lt_irrefl i)))) (fun i j h => absurd h (Nat.lt_irrefl i)) hM12 (fun r14 M15 hM15 => ?_)
        refine g_if (fun _ => ?_) (fun _ => ?_)
        · skip
          exact g_tM (g_X4_unit_b31 n rv k0 x1 (f_X4_unit_b7 n rv k0 x1 u) x2 x3 M15 hrv ih) g_id g_id hM15
        · skip
          exact g_tM (g_X4_unit_b47 n rv k0 x1 x2 M15 hrv) g_id g_id hM15
theorem g_X4_unit (n : Nat) (rv : Nat → Int32 → m_M → Option m_M) (k0 : Nat) (x1 : Int32) (M : m_M) (hrv : ∀ (a0 : Nat) (a1 : Int32) (M : m_M), q_H (rv a0 a1 M) (fun a => g_fr (w_6 a0) (w_5 a0) M a)) : q_H (f_X4_unit n rv k0 x1 M) (fun a => g_fr (w_6 k0) (w_5 k0) M a) := by
  have hM : g_fr (w_6 k0) (w_5 k0) M M := g_rf
  unfold f_X4_unit
  exact g_tM (g_X4_unit_b7 n rv k0 x1 hrv n (M.1 k0 6) 0 M) g_id g_id hM
theorem g_X4_term_b31 (n : Nat) (rv : Nat → Int32 → m_M → Option m_M) (k0 : Nat) (x1 : Int32) (q7 : Int32 → m_M → Option m_M) (x2 : Int32) (x3 : Int32) (M : m_M) (hrv : ∀ (a0 : Nat) (a1 : Int32) (M : m_M), q_H (rv a0 a1 M) (fun a => g_fr (w_6 a0) (w_5 a0) M a)) (hq7 : ∀ (a0 : Int32) (M : m_M), q_H (q7 a0 M) (fun a => g_fr (w_6 k0) (w_5 k0) M a)) : q_H (f_X4_term_b31 n rv k0 x1 q7 x2 x3 M) (fun a => g_fr (w_6 k0) (w_5 k0) M a) := by
  have hM : g_fr (w_6 k0) (w_5 k0) M M := g_rf
  unfold f_X4_term_b31
  refine g_bI hM (Or.inr (Or.inl (by omega))) (fun M1 hM1 => ?_)
  refine g_oM (g_X4_unit n rv k0 x1 M1 hrv) g_id g_id hM1 (fun M2 hM2 => ?_)
  refine g_oM (g_X4_step k0 x3 0 M2) (fun i j h => (h.elim (fun h => Or.inl (by omega)) (fun h => (h.elim (fun h => Or.inr (Or.inr (Or.inr (Or.inl (by omega))))) (fun h => absurd h (Nat.lt_irrefl i)))))) g_id hM2 (fun M3 hM3 => ?_)
  exact g_tM (hq7 (x2 + 1) M3) g_id g_id hM3
theorem g_X4_term_b7 (n : Nat) (rv : Nat → Int32 → m_M → Option m_M) (k0 : Nat) (x1 : Int32) (hrv : ∀ (a0 : Nat) (a1 : Int32) (M : m_M), q_H (rv a0 a1 M) (fun a => g_fr (w_6 a0) (w_5 a0) M a)) : ∀ (u : Nat) (x2 : Int32) (M : m_M), q_H (f_X4_term_b7 n rv k0 x1 u x2 M) (fun a => g_fr (w_6 k0) (w_5 k0) M a) := by
  intro u
  induction u with
  | zero => exact fun _ _ _ h => nomatch h
  | succ u ih =>
    intro x2 M
    have hM : g_fr (w_6 k0) (w_5 k0) M M := g_rf
    rw [f_X4_term_b7]
    refine g_if (fun _ => ?_) (fun _ => ?_)
    · skip
      exact g_sm hM
    · skip
      refine g_o2 (g_X4_peek n k0 M) (fun i j h => (h.elim (fun h => Or.inr (Or.inl (by omega))) (fun h => absurd h (Nat.lt_irrefl i)))) (fun i j h => absurd h (Nat.lt_irrefl i)) hM (fun r5 M6 hM6 => ?_)
      refine g_if (fun _ => ?_) (fun _ => ?_)
      · skip
        exact g_tM (g_X4_term_b31 n rv k0 x1 (f_X4_term_b7 n rv k0 x1 u) x2 r5 M6 hrv ih) g_id g_id hM6
      · skip
        refine g_if (fun _ => ?_) (fun _ => ?_)
        · skip
          exact g_tM (g_X4_term_b31 n rv k0 x1 (f_X4_term_b7 n rv k0 x1 u) x2 r5 M6 hrv ih) g_id g_id hM6
        · skip
          exact g_sm hM6
theorem g_X4_term (n : Nat) (rv : Nat → Int32 → m_M → Option m_M) (k0 : Nat) (x1 : Int32) (M : m_M) (hrv : ∀ (a0 : Nat) (a1 : Int32) (M : m_M), q_H (rv a0 a1 M) (fun a => g_fr (w_6 a0) (w_5 a0) M a)) : q_H (f_X4_term n rv k0 x1 M) (fun a => g_fr (w_6 k0) (w_5 k0) M a) := by
  have hM : g_fr (w_6 k0) (w_5 k0) M M := g_rf
  unfold f_X4_term
  refine g_oM (g_X4_unit n rv k0 x1 M hrv) g_id g_id hM (fun M9 hM9 => ?_)
  exact g_tM (g_X4_term_b7 n rv k0 x1 hrv n 0 M9) g_id g_id hM9
theorem g_X4_sum_b31 (n : Nat) (rv : Nat → Int32 → m_M → Option m_M) (k0 : Nat) (x1 : Int32) (q7 : Int32 → m_M → Option m_M) (x2 : Int32) (x3 : Int32) (M : m_M) (hrv : ∀ (a0 : Nat) (a1 : Int32) (M : m_M), q_H (rv a0 a1 M) (fun a => g_fr (w_6 a0) (w_5 a0) M a)) (hq7 : ∀ (a0 : Int32) (M : m_M), q_H (q7 a0 M) (fun a => g_fr (w_6 k0) (w_5 k0) M a)) : q_H (f_X4_sum_b31 n rv k0 x1 q7 x2 x3 M) (fun a => g_fr (w_6 k0) (w_5 k0) M a) := by
  have hM : g_fr (w_6 k0) (w_5 k0) M M := g_rf
  unfold f_X4_sum_b31
  refine g_bI hM (Or.inr (Or.inl (by omega))) (fun M1 hM1 => ?_)
  refine g_oM (g_X4_term n rv k0 x1 M1 hrv) g_id g_id hM1 (fun M2 hM2 => ?_)
  refine g_oM (g_X4_step k0 x3 0 M2) (fun i j h => (h.elim (fun h => Or.inl (by omega)) (fun h => (h.elim (fun h => Or.inr (Or.inr (Or.inr (Or.inl (by omega))))) (fun h => absurd h (Nat.lt_irrefl i)))))) g_id hM2 (fun M3 hM3 => ?_)
  exact g_tM (hq7 (x2 + 1) M3) g_id g_id hM3
theorem g_X4_sum_b7 (n : Nat) (rv : Nat → Int32 → m_M → Option m_M) (k0 : Nat) (x1 : Int32) (hrv : ∀ (a0 : Nat) (a1 : Int32) (M : m_M), q_H (rv a0 a1 M) (fun a => g_fr (w_6 a0) (w_5 a0) M a)) : ∀ (u : Nat) (x2 : Int32) (M : m_M), q_H (f_X4_sum_b7 n rv k0 x1 u x2 M) (fun a => g_fr (w_6 k0) (w_5 k0) M a) := by
  intro u
  induction u with
  | zero => exact fun _ _ _ h => nomatch h
  | succ u ih =>
    intro x2 M
    have hM : g_fr (w_6 k0) (w_5 k0) M M := g_rf
    rw [f_X4_sum_b7]
    refine g_if (fun _ => ?_) (fun _ => ?_)
    · skip
      exact g_sm hM
    · skip
      refine g_o2 (g_X4_peek n k0 M) (fun i j h => (h.elim (fun h => Or.inr (Or.inl (by omega))) (fun h => absurd h (Nat.lt_irrefl i)))) (fun i j h => absurd h (Nat.lt_irrefl i)) hM (fun r5 M6 hM6 => ?_)
      refine g_if (fun _ => ?_) (fun _ => ?_)
      · skip
        exact g_tM (g_X4_sum_b31 n rv k0 x1 (f_X4_sum_b7 n rv k0 x1 u) x2 r5 M6 hrv ih) g_id g_id hM6
      · skip
        refine g_if (fun _ => ?_) (fun _ => ?_)
        · skip
          exact g_tM (g_X4_sum_b31 n rv k0 x1 (f_X4_sum_b7 n rv k0 x1 u) x2 r5 M6 hrv ih) g_id g_id hM6
        · skip
          exact g_sm hM6
theorem g_X4_sum (n : Nat) (rv : Nat → Int32 → m_M → Option m_M) (k0 : Nat) (x1 : Int32) (M : m_M) (hrv : ∀ (a0 : Nat) (a1 : Int32) (M : m_M), q_H (rv a0 a1 M) (fun a => g_fr (w_6 a0) (w_5 a0) M a)) : q_H (f_X4_sum n rv k0 x1 M) (fun a => g_fr (w_6 k0) (w_5 k0) M a) := by
  have hM : g_fr (w_6 k0) (w_5 k0) M M := g_rf
  unfold f_X4_sum
  refine g_oM (g_X4_term n rv k0 x1 M hrv) g_id g_id hM (fun M9 hM9 => ?_)
  exact g_tM (g_X4_sum_b7 n rv k0 x1 hrv n 0 M9) g_id g_id hM9
theorem g_X4_held_b29 (n : Nat) (rv : Nat → Int32 → m_M → Option m_M) (k0 : Nat) (x1 : Int32) (x2 : Int32) (M : m_M) (hrv : ∀ (a0 : Nat) (a1 : Int32) (M : m_M), q_H (rv a0 a1 M) (fun a => g_fr (w_6 a0) (w_5 a0) M a)) : q_H (f_X4_held_b29 n rv k0 x1 x2 M) (fun a => g_fr (w_6 k0) (w_5 k0) M a) := by
  have hM : g_fr (w_6 k0) (w_5 k0) M M := g_rf
  unfold f_X4_held_b29
  refine g_bI hM (Or.inr (Or.inl (by omega))) (fun M1 hM1 => ?_)
  refine g_oM (g_X4_sum n rv k0 x1 M1 hrv) g_id g_id hM1 (fun M2 hM2 => ?_)
  refine g_oM (g_X4_step k0 x2 0 M2) (fun i j h => (h.elim (fun h => Or.inl (by omega)) (fun h => (h.elim (fun h => Or.inr (Or.inr (Or.inr (Or.inl (by omega))))) (fun h => absurd h (Nat.lt_irrefl i)))))) g_id hM2 (fun M3 hM3 => ?_)
  exact g_sm hM3
theorem g_X4_held (n : Nat) (rv : Nat → Int32 → m_M → Option m_M) (k0 : Nat) (x1 : Int32) (M : m_M) (hrv : ∀ (a0 : Nat) (a1 : Int32) (M : m_M), q_H (rv a0 a1 M) (fun a => g_fr (w_6 a0) (w_5 a0) M a)) : q_H (f_X4_held n rv k0 x1 M) (fun a => g_fr (w_6 k0) (w_5 k0) M a) := by
  have hM : g_fr (w_6 k0) (w_5 k0) M M := g_rf
  unfold f_X4_held
  refine g_oM (g_X4_sum n rv k0 x1 M hrv) g_id g_id hM (fun M4 hM4 => ?_)
  refine g_o2 (g_X4_peek n k0 M4) (fun i j h => (h.elim (fun h => Or.inr (Or.inl (by omega))) (fun h => absurd h (Nat.lt_irrefl i)))) (fun i j h => absurd h (Nat.lt_irrefl i)) hM4 (fun r5 M6 hM6 => ?_)
  refine g_if (fun _ => ?_) (fun _ => ?_)
  · skip
    exact g_tM (g_X4_held_b29 n rv k0 x1 r5 M6 hrv) g_id g_id hM6
  · skip
    refine g_if (fun _ => ?_) (fun _ => ?_)
    · skip
      exact g_tM (g_X4_held_b29 n rv k0 x1 r5 M6 hrv) g_id g_id hM6
    · skip
      refine g_if (fun _ => ?_) (fun _ => ?_)
      · skip
        exact g_tM (g_X4_held_b29 n rv k0 x1 r5 M6 hrv) g_id g_id hM6
      · skip
        exact g_sm hM6
theorem g_X4_both_b7 (n : Nat) (rv : Nat → Int32 → m_M → Option m_M) (k0 : Nat) (x1 : Int32) (hrv : ∀ (a0 : Nat) (a1 : Int32) (M : m_M), q_H (rv a0 a1 M) (fun a => g_fr (w_6 a0) (w_5 a0) M a)) : ∀ (u : Nat) (x2 : Int32) (M : m_M), q_H (f_X4_both_b7 n rv k0 x1 u x2 M) (fun a => g_fr (w_6 k0) (w_5 k0) M a) := by
  intro u
  induction u with
  | zero => exact fun _ _ _ h => nomatch h
  | succ u ih =>
    intro x2 M
    have hM : g_fr (w_6 k0) (w_5 k0) M M := g_rf
    rw [f_X4_both_b7]
    refine g_if (fun _ => ?_) (fun _ => ?_)
    · skip
      exact g_sm hM
    · skip
      refine g_o2 (g_X4_peek n k0 M) (fun i j h => (h.elim (fun h => Or.inr (Or.inl (by omega))) (fun h => absurd h (Nat.lt_irrefl i)))) (fun i j h => absurd h (Nat.lt_irrefl i)) hM (fun r2 M3 hM3 => ?_)
      refine g_if (fun _ => ?_) (fun _ => ?_)
      · skip
        refine g_bI hM3 (Or.inr (Or.inl (by omega))) (fun M5 hM5 => ?_)
        refine g_oM (g_X4_held n rv k0 x1 M5 hrv) g_id g_id hM5 (fun M6 hM6 => ?_)
        refine g_oM (g_X4_step k0 38 0 M6) (fun i j h => (h.elim (fun h => Or.inl (by omega)) (fun h => (h.elim (fun h => Or.inr (Or.inr (Or.inr (Or.inl (by omega))))) (fun h => absurd h (Nat.lt_irrefl i)))))) g_id hM6 (fun M7 hM7 => ?_)
        exact g_tM (ih (x2 + 1) M7) g_id g_id hM7
      · skip
        exact g_sm hM3
theorem g_X4_both (n : Nat) (rv : Nat → Int32 → m_M → Option m_M) (k0 : Nat) (x1 : Int32) (M : m_M) (hrv : ∀ (a0 : Nat) (a1 : Int32) (M : m_M), q_H (rv a0 a1 M) (fun a => g_fr (w_6 a0) (w_5 a0) M a)) : q_H (f_X4_both n rv k0 x1 M) (fun a => g_fr (w_6 k0) (w_5 k0) M a) := by
  have hM : g_fr (w_6 k0) (w_5 k0) M M := g_rf
  unfold f_X4_both
  refine g_oM (g_X4_held n rv k0 x1 M hrv) g_id g_id hM (fun M8 hM8 => ?_)
  exact g_tM (g_X4_both_b7 n rv k0 x1 hrv n 0 M8) g_id g_id hM8
theorem g_X4_value_b7 (n : Nat) (rv : Nat → Int32 → m_M → Option m_M) (k0 : Nat) (x1 : Int32) (hrv : ∀ (a0 : Nat) (a1 : Int32) (M : m_M), q_H (rv a0 a1 M) (fun a => g_fr (w_6 a0) (w_5 a0) M a)) : ∀ (u : Nat) (x2 : Int32) (M : m_M), q_H (f_X4_value_b7 n rv k0 x1 u x2 M) (fun a => g_fr (w_6 k0) (w_5 k0) M a) := by
  intro u
  induction u with
  | zero => exact fun _ _ _ h => nomatch h
  | succ u ih =>
    intro x2 M
    have hM : g_fr (w_6 k0) (w_5 k0) M M := g_rf
    rw [f_X4_value_b7]
    refine g_if (fun _ => ?_) (fun _ => ?_)
    · skip
      exact g_sm hM
    · skip
      refine g_o2 (g_X4_peek n k0 M) (fun i j h => (h.elim (fun h => Or.inr (Or.inl (by omega))) (fun h => absurd h (Nat.lt_irrefl i)))) (fun i j h => absurd h (Nat.lt_irrefl i)) hM (fun r2 M3 hM3 => ?_)
      refine g_if (fun _ => ?_) (fun _ => ?_)
      · skip
        refine g_bI hM3 (Or.inr (Or.inl (by omega))) (fun M5 hM5 => ?_)
        refine g_oM (g_X4_both n rv k0 x1 M5 hrv) g_id g_id hM5 (fun M6 hM6 => ?_)
        refine g_oM (g_X4_step k0 124 0 M6) (fun i j h => (h.elim (fun h => Or.inl (by omega)) (fun h => (h.elim (fun h => Or.inr (Or.inr (Or.inr (Or.inl (by omega))))) (fun h => absurd h (Nat.lt_irrefl i)))))) g_id hM6 (fun M7 hM7 => ?_)
        exact g_tM (ih (x2 + 1) M7) g_id g_id hM7
      · skip
        exact g_sm hM3
theorem g_fb_X4_value (n : Nat) (rv : Nat → Int32 → m_M → Option m_M) (k0 : Nat) (x1 : Int32) (M : m_M) (hrv : ∀ (a0 : Nat) (a1 : Int32) (M : m_M), q_H (rv a0 a1 M) (fun a => g_fr (w_6 a0) (w_5 a0) M a)) : q_H (fb_X4_value n rv k0 x1 M) (fun a => g_fr (w_6 k0) (w_5 k0) M a) := by
  have hM : g_fr (w_6 k0) (w_5 k0) M M := g_rf
  unfold fb_X4_value
  refine g_oM (g_X4_both n rv k0 x1 M hrv) g_id g_id hM (fun M8 hM8 => ?_)
  exact g_tM (g_X4_value_b7 n rv k0 x1 hrv n 0 M8) g_id g_id hM8
theorem g_X4_value (n : Nat) : ∀ (u : Nat) (k0 : Nat) (x1 : Int32) (M : m_M), q_H (f_X4_value n u k0 x1 M) (fun a => g_fr (w_6 k0) (w_5 k0) M a) := by
  intro u
  induction u with
  | zero => exact fun _ _ _ _ h => nomatch h
  | succ d ih =>
    intro k0 x1 M
    have hM : g_fr (w_6 k0) (w_5 k0) M M := g_rf
    rw [f_X4_value]
    exact g_tM (g_fb_X4_value n (f_X4_value n d) k0 x1 M ih) g_id g_id hM
theorem g_X5_restart_b58 (n : Nat) (k0 : Nat) : ∀ (u : Nat) (x1 : Int32) (M : m_M), q_H (f_X5_restart_b58 n k0 u x1 M) (fun a => g_fr (w_7 k0) w_1 M a) := by
  intro u
  induction u with
  | zero => exact fun _ _ _ h => nomatch h
  | succ u ih =>
    intro x1 M
    have hM : g_fr (w_7 k0) w_1 M M := g_rf
    rw [f_X5_restart_b58]
    refine g_if (fun _ => ?_) (fun _ => ?_)
    · skip
      exact g_sm hM
    · skip
      refine g_gd (fun z1 => ?_)
      have y1 := g_lt z1
      refine g_bI hM (Or.inr (Or.inr (Or.inr (Or.inr (Or.inr (Or.inr (Or.inr (Or.inl (by omega))))))))) (fun M3 hM3 => ?_)
      refine g_bI hM3 (Or.inr (Or.inr (Or.inr (Or.inr (Or.inr (Or.inr (Or.inr (Or.inr (Or.inr (Or.inl (by omega))))))))))) (fun M4 hM4 => ?_)
      refine g_bI hM4 (Or.inr (Or.inr (Or.inr (Or.inr (Or.inr (Or.inr (Or.inr (Or.inr (Or.inr (Or.inr (Or.inl (by omega)))))))))))) (fun M5 hM5 => ?_)
      exact g_tM (ih (x1 + 1) M5) g_id g_id hM5
theorem g_X5_restart_b37 (n : Nat) (k0 : Nat) : ∀ (u : Nat) (x1 : Int32) (M : m_M), q_H (f_X5_restart_b37 n k0 u x1 M) (fun a => g_fr (w_7 k0) w_1 M a) := by
  intro u
  induction u with
  | zero => exact fun _ _ _ h => nomatch h
  | succ u ih =>
    intro x1 M
    have hM : g_fr (w_7 k0) w_1 M M := g_rf
    rw [f_X5_restart_b37]
    refine g_if (fun _ => ?_) (fun _ => ?_)
    · skip
      exact g_tM (g_X5_restart_b58 n k0 n 0 M) g_id g_id hM
    · skip
      refine g_gd (fun z1 => ?_)
      have y1 := g_lt z1
      refine g_bI hM (Or.inr (Or.inr (Or.inr (Or.inr (Or.inr (Or.inr (Or.inr (Or.inr (Or.inl (by omega)))))))))) (fun M8 hM8 => ?_)
      exact g_tM (ih (x1 + 1) M8) g_id g_id hM8
theorem g_X5_restart (n : Nat) (k0 : Nat) (M : m_M) : q_H (f_X5_restart n k0 M) (fun a => g_fr (w_7 k0) w_1 M a) := by
  have hM : g_fr (w_7 k0) w_1 M M := g_rf
  unfold f_X5_restart
  refine g_bI hM (Or.inl (by omega)) (fun M9 hM9 => ?_)
  refine g_bI hM9 (Or.inr (Or.inl (by omega))) (fun M10 hM10 => ?_)
  refine g_bI hM10 (Or.inr (Or.inr (Or.inl (by omega)))) (fun M11 hM11 => ?_)
  refine g_bI hM11 (Or.inr (Or.inr (Or.inr (Or.inl (by omega))))) (fun M12 hM12 => ?_)
  refine g_bI hM12 (Or.inr (Or.inr (Or.inr (Or.inr (Or.inl (by omega)))))) (fun M13 hM13 => ?_)
  refine g_bI hM13 (Or.inr (Or.inr (Or.inr (Or.inr (Or.inr (Or.inl (by omega))))))) (fun M14 hM14 => ?_)
  refine g_bI hM14 (Or.inr (Or.inr (Or.inr (Or.inr (Or.inr (Or.inr (Or.inl (by omega)))))))) (fun M15 hM15 => ?_)
  exact g_tM (g_X5_restart_b37 n k0 n 0 M15) g_id g_id hM15
theorem g_X1_changeDeal (x0 : Int32) (k1 : Nat) (x2 : Int32) (M : m_M) : g_fr (w_8 k1) w_1 M (f_X1_changeDeal x0 k1 x2 M) := by
  unfold f_X1_changeDeal
  simp only [m_bd, f_X8_persons, f_X8_lined]
  repeat' split
  all_goals (repeat' (first | exact g_rf | refine g_sI ?_ (by first | exact Or.inl (by omega) | exact Or.inr (Or.inl (by omega)) | exact Or.inr (Or.inr (Or.inl (by omega))) | exact Or.inr (Or.inr (Or.inr (Or.inl (by omega)))))))
theorem g_X5_end (k0 : Nat) (x1 : Int32) (x2 : Int32) (M : m_M) : g_fr (w_9 k0) w_1 M (f_X5_end k0 x1 x2 M) := by
  unfold f_X5_end
  simp only [m_bd, f_X8_persons, f_X8_lined]
  repeat' split
  all_goals (repeat' (first | exact g_rf | refine g_sI ?_ (by first | exact Or.inl (by omega) | exact Or.inr (Or.inl (by omega)) | exact Or.inr (Or.inr (Or.inl (by omega))) | exact Or.inr (Or.inr (Or.inr (Or.inl (by omega)))))))
theorem g_X5_goInto (k0 : Nat) (x1 : Int32) (M : m_M) : g_fr (w_10 k0) w_1 M (f_X5_goInto k0 x1 M) := by
  unfold f_X5_goInto
  simp only [m_bd, f_X8_persons, f_X8_lined]
  repeat' split
  all_goals (repeat' (first | exact g_rf | refine g_sI ?_ (by first | exact Or.inl (by omega) | exact Or.inr (Or.inl (by omega)))))
theorem g_X1_changePerson (x0 : Int32) (k1 : Nat) (x2 : Int32) (x3 : Int32) (M : m_M) : q_H (f_X1_changePerson x0 k1 x2 x3 M) (fun a => g_fr (w_11 k1) w_1 M a) := by
  have hM : g_fr (w_11 k1) w_1 M M := g_rf
  unfold f_X1_changePerson
  refine g_if (fun _ => ?_) (fun _ => ?_)
  · skip
    refine g_bT (g_X5_goInto k1 x2 M) (fun i j h => (h.elim (fun h => Or.inl (by omega)) (fun h => (h.elim (fun h => Or.inr (Or.inl (by omega))) (fun h => absurd h (Nat.lt_irrefl i)))))) g_id hM (fun M2 hM2 => ?_)
    exact g_sm hM2
  · skip
    refine g_if (fun _ => ?_) (fun _ => ?_)
    · skip
      refine g_gd (fun z1 => ?_)
      have y1 := g_lt z1
      refine g_bI hM (Or.inr (Or.inr (Or.inr (Or.inl (by omega))))) (fun M5 hM5 => ?_)
      exact g_sm hM5
    · skip
      refine g_if (fun _ => ?_) (fun _ => ?_)
      · skip
        refine g_gd (fun z2 => ?_)
        have y2 := g_lt z2
        refine g_bI hM (Or.inr (Or.inr (Or.inr (Or.inl (by omega))))) (fun M8 hM8 => ?_)
        exact g_sm hM8
      · skip
        refine g_if (fun _ => ?_) (fun _ => ?_)
        · skip
          refine g_gd (fun z3 => ?_)
          have y3 := g_lt z3
          refine g_bI hM (Or.inr (Or.inr (Or.inr (Or.inl (by omega))))) (fun M11 hM11 => ?_)
          refine g_bI hM11 (Or.inr (Or.inr (Or.inl (by omega)))) (fun M12 hM12 => ?_)
          exact g_sm hM12
        · skip
          refine g_if (fun _ => ?_) (fun _ => ?_)
          · skip
            refine g_gd (fun z4 => ?_)
            have y4 := g_lt z4
            refine g_bI hM (Or.inr (Or.inr (Or.inr (Or.inr (Or.inr (Or.inl (by omega))))))) (fun M15 hM15 => ?_)
            exact g_sm hM15
          · skip
            refine g_if (fun _ => ?_) (fun _ => ?_)
            · skip
              refine g_gd (fun z5 => ?_)
              have y5 := g_lt z5
              refine g_bI hM (Or.inr (Or.inr (Or.inr (Or.inr (Or.inr (Or.inl (by omega))))))) (fun M18 hM18 => ?_)
              exact g_sm hM18
            · skip
              refine g_if (fun _ => ?_) (fun _ => ?_)
              · skip
                refine g_gd (fun z6 => ?_)
                have y6 := g_lt z6
                refine g_bI hM (Or.inr (Or.inr (Or.inr (Or.inr (Or.inr (Or.inr (Or.inl (by omega)))))))) (fun M21 hM21 => ?_)
                exact g_sm hM21
              · skip
                refine g_if (fun _ => ?_) (fun _ => ?_)
                · skip
                  refine g_gd (fun z7 => ?_)
                  have y7 := g_lt z7
                  refine g_bI hM (Or.inr (Or.inr (Or.inr (Or.inr (Or.inl (by omega)))))) (fun M24 hM24 => ?_)
                  exact g_sm hM24
                · skip
                  refine g_gd (fun z8 => ?_)
                  have y8 := g_lt z8
                  refine g_bI hM (Or.inr (Or.inr (Or.inr (Or.inr (Or.inl (by omega)))))) (fun M26 hM26 => ?_)
                  exact g_sm hM26
theorem g_X1_apply (x1 : Int32) (M : m_M) : q_H (f_X1_apply x1 M) (fun a => g_fr w_12 w_1 M a) := by
  have hM : g_fr w_12 w_1 M M := g_rf
  unfold f_X1_apply
  refine g_gd (fun z1 => ?_)
  have y1 := g_lt z1
  refine g_bv (fun t2 => ?_)
  refine g_gd (fun z2 => ?_)
  have y2 := g_lt z2
  refine g_bv (fun t4 => ?_)
  refine g_gd (fun z3 => ?_)
  have y3 := g_lt z3
  refine g_bv (fun t6 => ?_)
  refine g_gd (fun z4 => ?_)
  have y4 := g_lt z4
  refine g_bv (fun t8 => ?_)
  refine g_ov (fun r9 => ?_)
  refine g_if (fun _ => ?_) (fun _ => ?_)
  · skip
    refine g_gd (fun z5 => ?_)
    have y5 := g_lt z5
    refine g_bT (g_X1_changeDeal t2 (99 + t4.toNatClampNeg) t8 M) (fun i j h => (h.elim (fun h => Or.inr (Or.inr (Or.inr (Or.inr (Or.inr (Or.inr (Or.inr (Or.inr (Or.inr (Or.inr (Or.inr (Or.inr (Or.inr (Or.inl (by omega))))))))))))))) (fun h => (h.elim (fun h => Or.inr (Or.inr (Or.inr (Or.inr (Or.inr (Or.inr (Or.inr (Or.inr (Or.inr (Or.inr (Or.inr (Or.inr (Or.inr (Or.inr (Or.inl (by omega)))))))))))))))) (fun h => (h.elim (fun h => Or.inr (Or.inr (Or.inr (Or.inr (Or.inr (Or.inr (Or.inr (Or.inr (Or.inr (Or.inr (Or.inr (Or.inr (Or.inr (Or.inr (Or.inr (Or.inl (by omega))))))))))))))))) (fun h => (h.elim (fun h => Or.inr (Or.inr (Or.inr (Or.inr (Or.inr (Or.inr (Or.inr (Or.inr (Or.inr (Or.inr (Or.inr (Or.inr (Or.inr (Or.inr (Or.inr (Or.inr (Or.inr (Or.inl (by omega))))))))))))))))))) (fun h => absurd h (Nat.lt_irrefl i)))))))))) g_id hM (fun M24 hM24 => ?_)
    exact g_sm hM24
  · skip
    refine g_if (fun _ => ?_) (fun _ => ?_)
    · skip
      refine g_gd (fun z6 => ?_)
      have y6 := g_lt z6
      refine g_gd (fun z7 => ?_)
      have y7 := g_lt z7
      refine g_oM (g_X0_start (99 + ((M.1 45 4).toNatClampNeg)) t4 t6 t8 (49 + 5 * t4.toNatClampNeg) M) (fun i j h => (h.elim (fun h => Or.inr (Or.inr (Or.inr (Or.inr (Or.inr (Or.inr (Or.inr (Or.inr (Or.inr (Or.inr (Or.inl (by omega)))))))))))) (fun h => (h.elim (fun h => Or.inr (Or.inr (Or.inr (Or.inr (Or.inr (Or.inr (Or.inr (Or.inr (Or.inr (Or.inr (Or.inr (Or.inl (by omega))))))))))))) (fun h => (h.elim (fun h => Or.inr (Or.inr (Or.inr (Or.inr (Or.inr (Or.inr (Or.inr (Or.inr (Or.inr (Or.inr (Or.inr (Or.inr (Or.inl (by omega)))))))))))))) (fun h => (h.elim (fun h => Or.inr (Or.inr (Or.inr (Or.inr (Or.inr (Or.inr (Or.inr (Or.inr (Or.inr (Or.inr (Or.inr (Or.inr (Or.inr (Or.inl (by omega))))))))))))))) (fun h => (h.elim (fun h => Or.inr (Or.inr (Or.inr (Or.inr (Or.inr (Or.inr (Or.inr (Or.inr (Or.inr (Or.inr (Or.inr (Or.inr (Or.inr (Or.inr (Or.inl (by omega)))))))))))))))) (fun h => (h.elim (fun h => Or.inr (Or.inr (Or.inr (Or.inr (Or.inr (Or.inr (Or.inr (Or.inr (Or.inr (Or.inr (Or.inr (Or.inr (Or.inr (Or.inr (Or.inr (Or.inl (by omega))))))))))))))))) (fun h => (h.elim (fun h => Or.inr (Or.inr (Or.inr (Or.inr (Or.inr (Or.inr (Or.inr (Or.inr (Or.inr (Or.inr (Or.inr (Or.inr (Or.inr (Or.inr (Or.inr (Or.inr (Or.inl (by omega)))))))))))))))))) (fun h => (h.elim (fun h => Or.inr (Or.inr (Or.inr (Or.inr (Or.inr (Or.inr (Or.inr (Or.inr (Or.inr (Or.inr (Or.inr (Or.inr (Or.inr (Or.inr (Or.inr (Or.inr (Or.inr (Or.inl (by omega))))))))))))))))))) (fun h => (h.elim (fun h => Or.inr (Or.inr (Or.inr (Or.inr (Or.inr (Or.inr (Or.inr (Or.inr (Or.inr (Or.inr (Or.inr (Or.inr (Or.inr (Or.inr (Or.inr (Or.inr (Or.inr (Or.inr (Or.inl (by omega)))))))))))))))))))) (fun h => (h.elim (fun h => Or.inr (Or.inr (Or.inr (Or.inr (Or.inr (Or.inr (Or.inr (Or.inr (Or.inr (Or.inr (Or.inr (Or.inr (Or.inr (Or.inr (Or.inr (Or.inr (Or.inr (Or.inr (Or.inr (Or.inl (by omega))))))))))))))))))))) (fun h => absurd h (Nat.lt_irrefl i)))))))))))))))))))))) g_id hM (fun M21 hM21 => ?_)
      refine g_bI hM21 (Or.inl (by omega)) (fun M22 hM22 => ?_)
      exact g_sm hM22
    · skip
      refine g_if (fun _ => ?_) (fun _ => ?_)
      · skip
        refine g_gd (fun z8 => ?_)
        have y8 := g_lt z8
        refine g_gd (fun z9 => ?_)
        have y9 := g_lt z9
        refine g_bT (g_X5_end (49 + 5 * t4.toNatClampNeg) (M.1 (1 + 1) ((x1 + (0 : Int32)).toNatClampNeg)) t6 M) (fun i j h => (h.elim (fun h => Or.inr (Or.inl (by omega))) (fun h => (h.elim (fun h => Or.inr (Or.inr (Or.inl (by omega)))) (fun h => (h.elim (fun h => Or.inr (Or.inr (Or.inr (Or.inl (by omega))))) (fun h => (h.elim (fun h => Or.inr (Or.inr (Or.inr (Or.inr (Or.inl (by omega)))))) (fun h => absurd h (Nat.lt_irrefl i)))))))))) g_id hM (fun M18 hM18 => ?_)
        exact g_sm hM18
      · skip
        refine g_gd (fun z10 => ?_)
        have y10 := g_lt z10
        refine g_oM (g_X1_changePerson t2 (49 + 5 * t4.toNatClampNeg) t6 t8 M) (fun i j h => (h.elim (fun h => Or.inr (Or.inl (by omega))) (fun h => (h.elim (fun h => Or.inr (Or.inr (Or.inl (by omega)))) (fun h => (h.elim (fun h => Or.inr (Or.inr (Or.inr (Or.inr (Or.inr (Or.inl (by omega))))))) (fun h => (h.elim (fun h => Or.inr (Or.inr (Or.inr (Or.inr (Or.inr (Or.inr (Or.inl (by omega)))))))) (fun h => (h.elim (fun h => Or.inr (Or.inr (Or.inr (Or.inr (Or.inr (Or.inr (Or.inr (Or.inl (by omega))))))))) (fun h => (h.elim (fun h => Or.inr (Or.inr (Or.inr (Or.inr (Or.inr (Or.inr (Or.inr (Or.inr (Or.inl (by omega)))))))))) (fun h => (h.elim (fun h => Or.inr (Or.inr (Or.inr (Or.inr (Or.inr (Or.inr (Or.inr (Or.inr (Or.inr (Or.inl (by omega))))))))))) (fun h => absurd h (Nat.lt_irrefl i)))))))))))))))) g_id hM (fun M15 hM15 => ?_)
        exact g_sm hM15
theorem g_X1_replay_b102 (n : Nat) (x1 : Int32) (x2 : Int32) (q38 : Int32 → Int32 → m_M → Option m_M) (x3 : Int32) (x4 : Int32) (x5 : Int32) (M : m_M) (hq38 : ∀ (a0 : Int32) (a1 : Int32) (M : m_M), q_H (q38 a0 a1 M) (fun a => g_fr w_13 w_1 M a)) : q_H (f_X1_replay_b102 n x1 x2 q38 x3 x4 x5 M) (fun a => g_fr w_13 w_1 M a) := by
  have hM : g_fr w_13 w_1 M M := g_rf
  unfold f_X1_replay_b102
  refine g_if (fun _ => ?_) (fun _ => ?_)
  · skip
    exact g_tM (hq38 x3 (x4 + 1) M) g_id g_id hM
  · skip
    refine g_oM (g_X1_apply ((6 : Int32) * x4) M) (fun i j h => (h.elim (fun h => Or.inl (h)) (fun h => (h.elim (fun h => Or.inr (Or.inr (Or.inl (h)))) (fun h => (h.elim (fun h => Or.inr (Or.inr (Or.inr (Or.inl (h))))) (fun h => (h.elim (fun h => Or.inr (Or.inr (Or.inr (Or.inr (Or.inl (h)))))) (fun h => (h.elim (fun h => Or.inr (Or.inr (Or.inr (Or.inr (Or.inr (Or.inl (h))))))) (fun h => (h.elim (fun h => Or.inr (Or.inr (Or.inr (Or.inr (Or.inr (Or.inr (Or.inl (h)))))))) (fun h => (h.elim (fun h => Or.inr (Or.inr (Or.inr (Or.inr (Or.inr (Or.inr (Or.inr (Or.inr (Or.inr (Or.inl (h))))))))))) (fun h => (h.elim (fun h => Or.inr (Or.inr (Or.inr (Or.inr (Or.inr (Or.inr (Or.inr (Or.inr (Or.inr (Or.inr (Or.inl (h)))))))))))) (fun h => (h.elim (fun h => Or.inr (Or.inr (Or.inr (Or.inr (Or.inr (Or.inr (Or.inr (Or.inr (Or.inr (Or.inr (Or.inr (Or.inl (h))))))))))))) (fun h => (h.elim (fun h => Or.inr (Or.inr (Or.inr (Or.inr (Or.inr (Or.inr (Or.inr (Or.inr (Or.inr (Or.inr (Or.inr (Or.inr (Or.inl (h)))))))))))))) (fun h => (h.elim (fun h => Or.inr (Or.inr (Or.inr (Or.inr (Or.inr (Or.inr (Or.inr (Or.inr (Or.inr (Or.inr (Or.inr (Or.inr (Or.inr (Or.inl (h))))))))))))))) (fun h => (h.elim (fun h => Or.inr (Or.inr (Or.inr (Or.inr (Or.inr (Or.inr (Or.inr (Or.inr (Or.inr (Or.inr (Or.inr (Or.inr (Or.inr (Or.inr (Or.inl (h)))))))))))))))) (fun h => (h.elim (fun h => Or.inr (Or.inr (Or.inr (Or.inr (Or.inr (Or.inr (Or.inr (Or.inr (Or.inr (Or.inr (Or.inr (Or.inr (Or.inr (Or.inr (Or.inr (Or.inl (h))))))))))))))))) (fun h => (h.elim (fun h => Or.inr (Or.inr (Or.inr (Or.inr (Or.inr (Or.inr (Or.inr (Or.inr (Or.inr (Or.inr (Or.inr (Or.inr (Or.inr (Or.inr (Or.inr (Or.inr (Or.inl (h)))))))))))))))))) (fun h => (h.elim (fun h => Or.inr (Or.inr (Or.inr (Or.inr (Or.inr (Or.inr (Or.inr (Or.inr (Or.inr (Or.inr (Or.inr (Or.inr (Or.inr (Or.inr (Or.inr (Or.inr (Or.inr (Or.inl (h))))))))))))))))))) (fun h => (h.elim (fun h => Or.inr (Or.inr (Or.inr (Or.inr (Or.inr (Or.inr (Or.inr (Or.inr (Or.inr (Or.inr (Or.inr (Or.inr (Or.inr (Or.inr (Or.inr (Or.inr (Or.inr (Or.inr (Or.inl (h)))))))))))))))))))) (fun h => (h.elim (fun h => Or.inr (Or.inr (Or.inr (Or.inr (Or.inr (Or.inr (Or.inr (Or.inr (Or.inr (Or.inr (Or.inr (Or.inr (Or.inr (Or.inr (Or.inr (Or.inr (Or.inr (Or.inr (Or.inr (Or.inl (h))))))))))))))))))))) (fun h => (h.elim (fun h => Or.inr (Or.inr (Or.inr (Or.inr (Or.inr (Or.inr (Or.inr (Or.inr (Or.inr (Or.inr (Or.inr (Or.inr (Or.inr (Or.inr (Or.inr (Or.inr (Or.inr (Or.inr (Or.inr (Or.inr (Or.inl (h)))))))))))))))))))))) (fun h => (h.elim (fun h => Or.inr (Or.inr (Or.inr (Or.inr (Or.inr (Or.inr (Or.inr (Or.inr (Or.inr (Or.inr (Or.inr (Or.inr (Or.inr (Or.inr (Or.inr (Or.inr (Or.inr (Or.inr (Or.inr (Or.inr (Or.inr (Or.inl (h))))))))))))))))))))))) (fun h => (h.elim (fun h => Or.inr (Or.inr (Or.inr (Or.inr (Or.inr (Or.inr (Or.inr (Or.inr (Or.inr (Or.inr (Or.inr (Or.inr (Or.inr (Or.inr (Or.inr (Or.inr (Or.inr (Or.inr (Or.inr (Or.inr (Or.inr (Or.inr (Or.inl (h)))))))))))))))))))))))) (fun h => absurd h (Nat.lt_irrefl i)))))))))))))))))))))))))))))))))))))))))) g_id hM (fun M2 hM2 => ?_)
    exact g_tM (hq38 x3 (x4 + 1) M2) g_id g_id hM2
theorem g_X1_replay_b38 (n : Nat) (x1 : Int32) (x2 : Int32) : ∀ (u : Nat) (x3 : Int32) (x4 : Int32) (M : m_M), q_H (f_X1_replay_b38 n x1 x2 u x3 x4 M) (fun a => g_fr w_13 w_1 M a) := by
  intro u
  induction u with
  | zero => exact fun _ _ _ _ h => nomatch h
  | succ u ih =>
    intro x3 x4 M
    have hM : g_fr w_13 w_1 M M := g_rf
    rw [f_X1_replay_b38]
    refine g_if (fun _ => ?_) (fun _ => ?_)
    · skip
      exact g_sm hM
    · skip
      refine g_gd (fun z1 => ?_)
      have y1 := g_lt z1
      refine g_if (fun _ => ?_) (fun _ => ?_)
      · skip
        exact g_sm hM
      · skip
        refine g_ov (fun r6 => ?_)
        refine g_if (fun _ => ?_) (fun _ => ?_)
        · skip
          exact g_tM (g_X1_replay_b102 n x1 x2 (f_X1_replay_b38 n x1 x2 u) x3 x4 1 M ih) g_id g_id hM
        · skip
          refine g_if (fun _ => ?_) (fun _ => ?_)
          · skip
            exact g_tM (g_X1_replay_b102 n x1 x2 (f_X1_replay_b38 n x1 x2 u) (x3 + 1) x4 1 M ih) g_id g_id hM
          · skip
            exact g_tM (g_X1_replay_b102 n x1 x2 (f_X1_replay_b38 n x1 x2 u) (x3 + 1) x4 0 M ih) g_id g_id hM
theorem g_X1_replay_b12 (n : Nat) (x1 : Int32) (x2 : Int32) : ∀ (u : Nat) (x3 : Int32) (M : m_M), q_H (f_X1_replay_b12 n x1 x2 u x3 M) (fun a => g_fr w_13 w_1 M a) := by
  intro u
  induction u with
  | zero => exact fun _ _ _ h => nomatch h
  | succ u ih =>
    intro x3 M
    have hM : g_fr w_13 w_1 M M := g_rf
    rw [f_X1_replay_b12]
    refine g_if (fun _ => ?_) (fun _ => ?_)
    · skip
      exact g_tM (g_X1_replay_b38 n x1 x2 n 0 0 M) g_id g_id hM
    · skip
      refine g_gd (fun z1 => ?_)
      have y1 := g_lt z1
      refine g_oM (g_X5_restart n (49 + 5 * x3.toNatClampNeg) M) (fun i j h => (h.elim (fun h => Or.inr (Or.inr (Or.inl (by omega)))) (fun h => (h.elim (fun h => Or.inr (Or.inr (Or.inr (Or.inl (by omega))))) (fun h => (h.elim (fun h => Or.inr (Or.inr (Or.inr (Or.inr (Or.inl (by omega)))))) (fun h => (h.elim (fun h => Or.inr (Or.inr (Or.inr (Or.inr (Or.inr (Or.inl (by omega))))))) (fun h => (h.elim (fun h => Or.inr (Or.inr (Or.inr (Or.inr (Or.inr (Or.inr (Or.inl (by omega)))))))) (fun h => (h.elim (fun h => Or.inr (Or.inr (Or.inr (Or.inr (Or.inr (Or.inr (Or.inr (Or.inl (by omega))))))))) (fun h => (h.elim (fun h => Or.inr (Or.inr (Or.inr (Or.inr (Or.inr (Or.inr (Or.inr (Or.inr (Or.inl (by omega)))))))))) (fun h => (h.elim (fun h => Or.inr (Or.inr (Or.inr (Or.inr (Or.inr (Or.inr (Or.inr (Or.inr (Or.inr (Or.inl (by omega))))))))))) (fun h => (h.elim (fun h => Or.inr (Or.inr (Or.inr (Or.inr (Or.inr (Or.inr (Or.inr (Or.inr (Or.inr (Or.inr (Or.inl (by omega)))))))))))) (fun h => (h.elim (fun h => Or.inr (Or.inr (Or.inr (Or.inr (Or.inr (Or.inr (Or.inr (Or.inr (Or.inr (Or.inr (Or.inr (Or.inl (by omega))))))))))))) (fun h => (h.elim (fun h => Or.inr (Or.inr (Or.inr (Or.inr (Or.inr (Or.inr (Or.inr (Or.inr (Or.inr (Or.inr (Or.inr (Or.inr (Or.inl (by omega)))))))))))))) (fun h => absurd h (Nat.lt_irrefl i)))))))))))))))))))))))) g_id hM (fun M12 hM12 => ?_)
      exact g_tM (ih (x3 + 1) M12) g_id g_id hM12
theorem g_X1_replay (n : Nat) (x1 : Int32) (x2 : Int32) (M : m_M) : q_H (f_X1_replay n x1 x2 M) (fun a => g_fr w_13 w_1 M a) := by
  have hM : g_fr w_13 w_1 M M := g_rf
  unfold f_X1_replay
  refine g_bI hM (Or.inr (Or.inl (by omega))) (fun M13 hM13 => ?_)
  refine g_bI hM13 (Or.inl (by omega)) (fun M14 hM14 => ?_)
  exact g_tM (g_X1_replay_b12 n x1 x2 n 0 M14) g_id g_id hM14
theorem g_X7_answers (n : Nat) (x1 : Int32) (x2 : Int32) (M : m_M) : q_H (f_X7_answers n x1 x2 M) (fun a => g_fr w_13 w_1 M a.2) := by
  have hM : g_fr w_13 w_1 M M := g_rf
  unfold f_X7_answers
  refine g_bv (fun r1 => ?_)
  refine g_if (fun _ => ?_) (fun _ => ?_)
  · skip
    exact g_sp hM
  · skip
    refine g_bv (fun r4 => ?_)
    refine g_if (fun _ => ?_) (fun _ => ?_)
    · skip
      exact g_sp hM
    · skip
      refine g_oM (g_X1_replay n x2 0 M) g_id g_id hM (fun M7 hM7 => ?_)
      refine g_bv (fun r8 => ?_)
      refine g_if (fun _ => ?_) (fun _ => ?_)
      · skip
        exact g_sp hM7
      · skip
        refine g_ov (fun r11 => ?_)
        exact g_sp hM7
theorem g_X4_work_b34 (n : Nat) (k0 : Nat) (q4 : Int32 → Int32 → m_M → Option (Int64 × m_M)) (x2 : Int32) (x3 : Int32) (x4 : Int32) (M : m_M) (hq4 : ∀ (a0 : Int32) (a1 : Int32) (M : m_M), q_H (q4 a0 a1 M) (fun a => g_fr w_1 (w_14 k0) M a.2)) : q_H (f_X4_work_b34 n k0 q4 x2 x3 x4 M) (fun a => g_fr w_1 (w_14 k0) M a.2) := by
  have hM : g_fr w_1 (w_14 k0) M M := g_rf
  unfold f_X4_work_b34
  refine g_if (fun _ => ?_) (fun _ => ?_)
  · skip
    refine g_if (fun _ => ?_) (fun _ => ?_)
    · skip
      refine g_gd (fun z1 => ?_)
      have y1 := g_lt z1
      refine g_gd (fun z2 => ?_)
      have y2 := g_lt z2
      refine g_bL hM (Or.inl (by omega)) (fun M9 hM9 => ?_)
      exact g_tP (hq4 (x2 + 1) (x3 + 1) M9) g_id g_id hM9
    · skip
      refine g_gd (fun z3 => ?_)
      have y3 := g_lt z3
      refine g_gd (fun z4 => ?_)
      have y4 := g_lt z4
      refine g_gd (fun z5 => ?_)
      have y5 := g_lt z5
      refine g_bL hM (Or.inl (by omega)) (fun M6 hM6 => ?_)
      exact g_tP (hq4 (x2 + 1) (x3 + 1) M6) g_id g_id hM6
  · skip
    exact g_sp hM
theorem g_X4_work_b93 (n : Nat) (k0 : Nat) (q4 : Int32 → Int32 → m_M → Option (Int64 × m_M)) (x2 : Int32) (x3 : Int32) (x4 : Int32) (M : m_M) (hq4 : ∀ (a0 : Int32) (a1 : Int32) (M : m_M), q_H (q4 a0 a1 M) (fun a => g_fr w_1 (w_14 k0) M a.2)) : q_H (f_X4_work_b93 n k0 q4 x2 x3 x4 M) (fun a => g_fr w_1 (w_14 k0) M a.2) := by
  have hM : g_fr w_1 (w_14 k0) M M := g_rf
  unfold f_X4_work_b93
  refine g_if (fun _ => ?_) (fun _ => ?_)
  · skip
    refine g_if (fun _ => ?_) (fun _ => ?_)
    · skip
      refine g_gd (fun z1 => ?_)
      have y1 := g_lt z1
      refine g_bL hM (Or.inl (by omega)) (fun M17 hM17 => ?_)
      exact g_tP (hq4 x2 (x3 + 1) M17) g_id g_id hM17
    · skip
      refine g_gd (fun z2 => ?_)
      have y2 := g_lt z2
      refine g_if (fun _ => ?_) (fun _ => ?_)
      · skip
        refine g_bL hM (Or.inl (by omega)) (fun M15 hM15 => ?_)
        exact g_tP (hq4 x2 (x3 + 1) M15) g_id g_id hM15
      · skip
        refine g_bL hM (Or.inl (by omega)) (fun M14 hM14 => ?_)
        exact g_tP (hq4 x2 (x3 + 1) M14) g_id g_id hM14
  · skip
    exact g_sp hM
theorem g_X4_work_b4 (n : Nat) (k0 : Nat) : ∀ (u : Nat) (x2 : Int32) (x3 : Int32) (M : m_M), q_H (f_X4_work_b4 n k0 u x2 x3 M) (fun a => g_fr w_1 (w_14 k0) M a.2) := by
  intro u
  induction u with
  | zero => exact fun _ _ _ _ h => nomatch h
  | succ u ih =>
    intro x2 x3 M
    have hM : g_fr w_1 (w_14 k0) M M := g_rf
    rw [f_X4_work_b4]
    refine g_if (fun _ => ?_) (fun _ => ?_)
    · skip
      refine g_if (fun _ => ?_) (fun _ => ?_)
      · skip
        exact g_sp hM
      · skip
        exact g_sp hM
    · skip
      refine g_gd (fun z1 => ?_)
      have y1 := g_lt z1
      refine g_if (fun _ => ?_) (fun _ => ?_)
      · skip
        exact g_tP (g_X4_work_b34 n k0 (f_X4_work_b4 n k0 u) x2 x3 (M.1 (k0 + 2) x3.toNatClampNeg) M ih) g_id g_id hM
      · skip
        refine g_if (fun _ => ?_) (fun _ => ?_)
        · skip
          exact g_tP (g_X4_work_b34 n k0 (f_X4_work_b4 n k0 u) x2 x3 (M.1 (k0 + 2) x3.toNatClampNeg) M ih) g_id g_id hM
        · skip
          refine g_if (fun _ => ?_) (fun _ => ?_)
          · skip
            exact g_tP (g_X4_work_b93 n k0 (f_X4_work_b4 n k0 u) x2 x3 (M.1 (k0 + 2) x3.toNatClampNeg) M ih) g_id g_id hM
          · skip
            refine g_if (fun _ => ?_) (fun _ => ?_)
            · skip
              exact g_tP (g_X4_work_b93 n k0 (f_X4_work_b4 n k0 u) x2 x3 (M.1 (k0 + 2) x3.toNatClampNeg) M ih) g_id g_id hM
            · skip
              refine g_if (fun _ => ?_) (fun _ => ?_)
              · skip
                refine g_gd (fun z2 => ?_)
                have y2 := g_lt z2
                refine g_gd (fun z3 => ?_)
                have y3 := g_lt z3
                refine g_ov (fun r28 => ?_)
                refine g_bL hM (Or.inl (by omega)) (fun M29 hM29 => ?_)
                exact g_tP (ih (x2 + (-1)) (x3 + 1) M29) g_id g_id hM29
              · skip
                exact g_sp hM
theorem g_X4_work (n : Nat) (k0 : Nat) (M : m_M) : q_H (f_X4_work n k0 M) (fun a => g_fr w_1 (w_14 k0) M a.2) := by
  have hM : g_fr w_1 (w_14 k0) M M := g_rf
  unfold f_X4_work
  exact g_tP (g_X4_work_b4 n k0 n 0 0 M) g_id g_id hM
theorem g_X4_brought_b35 (n : Nat) (k0 : Nat) (s0 : Int64) (M : m_M) : q_H (f_X4_brought_b35 n k0 s0 M) (fun a => g_fr w_1 (w_14 k0) M a.2) := by
  have hM : g_fr w_1 (w_14 k0) M M := g_rf
  unfold f_X4_brought_b35
  refine g_bv (fun r1 => ?_)
  refine g_bv (fun r2 => ?_)
  exact g_sp hM
theorem g_X4_brought (n : Nat) (k0 : Nat) (M : m_M) : q_H (f_X4_brought n k0 M) (fun a => g_fr w_1 (w_14 k0) M a.2) := by
  have hM : g_fr w_1 (w_14 k0) M M := g_rf
  unfold f_X4_brought
  refine g_if (fun _ => ?_) (fun _ => ?_)
  · skip
    refine g_o2 (g_X4_work n k0 M) g_id g_id hM (fun r4 M5 hM5 => ?_)
    exact g_tP (g_X4_brought_b35 n k0 r4 M5) g_id g_id hM5
  · skip
    exact g_tP (g_X4_brought_b35 n k0 (((((M.2 48 0) + (M.2 48 1)) - (M.2 48 2)) - (M.2 48 3)) + (M.2 48 4)) M) g_id g_id hM
theorem g_X1_netOf (n : Nat) (x1 : Int32) (x2 : Int32) (x3 : Int64) (x5 : Int64) (M : m_M) : q_H (f_X1_netOf n x1 x2 x3 x5 M) (fun a => g_fr w_1 w_15 M a.2) := by
  have hM : g_fr w_1 w_15 M M := g_rf
  unfold f_X1_netOf
  refine g_gd (fun z1 => ?_)
  have y1 := g_lt z1
  refine g_ov (fun r2 => ?_)
  refine g_bL hM (Or.inr (Or.inl (by omega))) (fun M3 hM3 => ?_)
  refine g_bL hM3 (Or.inr (Or.inr (Or.inl (by omega)))) (fun M4 hM4 => ?_)
  refine g_ov (fun r5 => ?_)
  refine g_bL hM4 (Or.inr (Or.inr (Or.inr (Or.inl (by omega))))) (fun M6 hM6 => ?_)
  refine g_ov (fun r7 => ?_)
  refine g_bL hM6 (Or.inr (Or.inr (Or.inr (Or.inr (Or.inl (by omega)))))) (fun M8 hM8 => ?_)
  refine g_bL hM8 (Or.inr (Or.inr (Or.inr (Or.inr (Or.inr (Or.inl (by omega))))))) (fun M9 hM9 => ?_)
  refine g_gd (fun z2 => ?_)
  have y2 := g_lt z2
  refine g_o2 (g_X4_brought n ((1 + 3) + 1 + 5 * x2.toNatClampNeg) M9) g_id (fun i j h => (h.elim (fun h => Or.inl (by omega)) (fun h => absurd h (Nat.lt_irrefl i)))) hM9 (fun r11 M12 hM12 => ?_)
  exact g_sp hM12
theorem g_X1_addSeconds_b42 (n : Nat) (q36 : Int32 → m_M → Option m_M) (hq36 : ∀ (a0 : Int32) (M : m_M), q_H (q36 a0 M) (fun a => g_fr w_16 w_15 M a)) : ∀ (u : Nat) (x1 : Int32) (x2 : Int32) (M : m_M), q_H (f_X1_addSeconds_b42 n q36 u x1 x2 M) (fun a => g_fr w_16 w_15 M a) := by
  intro u
  induction u with
  | zero => exact fun _ _ _ _ h => nomatch h
  | succ u ih =>
    intro x1 x2 M
    have hM : g_fr w_16 w_15 M M := g_rf
    rw [f_X1_addSeconds_b42]
    refine g_if (fun _ => ?_) (fun _ => ?_)
    · skip
      exact g_tM (hq36 (x1 + (-1)) M) g_id g_id hM
    · skip
      refine g_gd (fun z1 => ?_)
      have y1 := g_lt z1
      refine g_if (fun _ => ?_) (fun _ => ?_)
      · skip
        refine g_gd (fun z2 => ?_)
        have y2 := g_lt z2
        refine g_o2 (g_X1_netOf n x2 0 0 0 M) (fun i j h => absurd h (Nat.lt_irrefl i)) g_id hM (fun r5 M6 hM6 => ?_)
        refine g_bI hM6 (Or.inl (by omega)) (fun M7 hM7 => ?_)
        exact g_tM (ih x1 (x2 + 1) M7) g_id g_id hM7
      · skip
        exact g_tM (ih x1 (x2 + 1) M) g_id g_id hM
theorem g_X1_addSeconds_b36 (n : Nat) : ∀ (u : Nat) (x1 : Int32) (M : m_M), q_H (f_X1_addSeconds_b36 n u x1 M) (fun a => g_fr w_16 w_15 M a) := by
  intro u
  induction u with
  | zero => exact fun _ _ _ h => nomatch h
  | succ u ih =>
    intro x1 M
    have hM : g_fr w_16 w_15 M M := g_rf
    rw [f_X1_addSeconds_b36]
    refine g_if (fun _ => ?_) (fun _ => ?_)
    · skip
      exact g_sm hM
    · skip
      exact g_tM (g_X1_addSeconds_b42 n (f_X1_addSeconds_b36 n u) ih n x1 0 M) g_id g_id hM
theorem g_X1_addSeconds_b2 (n : Nat) : ∀ (u : Nat) (x1 : Int32) (M : m_M), q_H (f_X1_addSeconds_b2 n u x1 M) (fun a => g_fr w_16 w_15 M a) := by
  intro u
  induction u with
  | zero => exact fun _ _ _ h => nomatch h
  | succ u ih =>
    intro x1 M
    have hM : g_fr w_16 w_15 M M := g_rf
    rw [f_X1_addSeconds_b2]
    refine g_if (fun _ => ?_) (fun _ => ?_)
    · skip
      exact g_tM (g_X1_addSeconds_b36 n n 10 M) g_id g_id hM
    · skip
      refine g_gd (fun z1 => ?_)
      have y1 := g_lt z1
      refine g_ov (fun r11 => ?_)
      refine g_bI hM (Or.inr (Or.inl (by omega))) (fun M12 hM12 => ?_)
      exact g_tM (ih (x1 + 1) M12) g_id g_id hM12
theorem g_X1_addSeconds (n : Nat) (M : m_M) : q_H (f_X1_addSeconds n M) (fun a => g_fr w_16 w_15 M a) := by
  have hM : g_fr w_16 w_15 M M := g_rf
  unfold f_X1_addSeconds
  exact g_tM (g_X1_addSeconds_b2 n n 0 M) g_id g_id hM
theorem g_X1_reckon (n : Nat) (x1 : Int32) (x2 : Int32) (M : m_M) : q_H (f_X1_reckon n x1 x2 M) (fun a => g_fr w_13 w_15 M a) := by
  have hM : g_fr w_13 w_15 M M := g_rf
  unfold f_X1_reckon
  refine g_oM (g_X1_replay n x1 x2 M) g_id (fun i j h => absurd h (Nat.lt_irrefl i)) hM (fun M1 hM1 => ?_)
  refine g_oM (g_X1_addSeconds n M1) (fun i j h => (h.elim (fun h => Or.inr (Or.inr (Or.inr (Or.inr (Or.inr (Or.inr (Or.inr (Or.inl (h))))))))) (fun h => (h.elim (fun h => Or.inr (Or.inr (Or.inr (Or.inr (Or.inr (Or.inr (Or.inr (Or.inr (Or.inl (h)))))))))) (fun h => absurd h (Nat.lt_irrefl i)))))) g_id hM1 (fun M2 hM2 => ?_)
  exact g_sm hM2
theorem g_X1_purseAsk (n : Nat) (x1 : Int32) (x2 : Int32) (M : m_M) : q_H (f_X1_purseAsk n x1 x2 M) (fun a => g_fr w_1 w_15 M a.2) := by
  have hM : g_fr w_1 w_15 M M := g_rf
  unfold f_X1_purseAsk
  refine g_ov (fun r1 => ?_)
  refine g_if (fun _ => ?_) (fun _ => ?_)
  · skip
    exact g_sp hM
  · skip
    refine g_gd (fun z1 => ?_)
    have y1 := g_lt z1
    refine g_bv (fun r5 => ?_)
    refine g_ov (fun r6 => ?_)
    refine g_o2 (g_X1_netOf n (M.1 (99 + x1.toNatClampNeg) 0) x2 r6.toInt64 0 M) g_id g_id hM (fun r7 M8 hM8 => ?_)
    refine g_bv (fun r9 => ?_)
    exact g_sp hM8
theorem g_X1_askAbove (n : Nat) (x1 : Int32) (x2 : Int32) (M : m_M) : q_H (f_X1_askAbove n x1 x2 M) (fun a => g_fr w_1 w_15 M a.2) := by
  have hM : g_fr w_1 w_15 M M := g_rf
  unfold f_X1_askAbove
  refine g_ov (fun r1 => ?_)
  refine g_if (fun _ => ?_) (fun _ => ?_)
  · skip
    exact g_sp hM
  · skip
    refine g_gd (fun z1 => ?_)
    have y1 := g_lt z1
    refine g_if (fun _ => ?_) (fun _ => ?_)
    · skip
      refine g_if (fun _ => ?_) (fun _ => ?_)
      · skip
        refine g_if (fun _ => ?_) (fun _ => ?_)
        · skip
          exact g_sp hM
        · skip
          refine g_bv (fun r8 => ?_)
          exact g_sp hM
      · skip
        refine g_bv (fun r6 => ?_)
        exact g_sp hM
    · skip
      refine g_if (fun _ => ?_) (fun _ => ?_)
      · skip
        refine g_bv (fun r10 => ?_)
        refine g_bv (fun r11 => ?_)
        refine g_bv (fun r12 => ?_)
        exact g_sp hM
      · skip
        refine g_if (fun _ => ?_) (fun _ => ?_)
        · skip
          refine g_o2 (g_X1_purseAsk n x1 0 M) g_id g_id hM (fun r14 M15 hM15 => ?_)
          exact g_sp hM15
        · skip
          refine g_if (fun _ => ?_) (fun _ => ?_)
          · skip
            exact g_sp hM
          · skip
            refine g_ov (fun r17 => ?_)
            exact g_sp hM
theorem g_X7_setFraction (n : Nat) (x1 : Int64) (x3 : Int64) (M : m_M) : q_H (f_X7_setFraction n x1 x3 M) (fun a => g_fr w_1 w_17 M a) := by
  have hM : g_fr w_1 w_17 M M := g_rf
  unfold f_X7_setFraction
  refine g_ov (fun r1 => ?_)
  refine g_if (fun _ => ?_) (fun _ => ?_)
  · skip
    exact g_sm hM
  · skip
    refine g_gd (fun _ => ?_)
    refine g_bL hM (Or.inl (by omega)) (fun M4 hM4 => ?_)
    refine g_gd (fun _ => ?_)
    refine g_bL hM4 (Or.inr (Or.inl (by omega))) (fun M6 hM6 => ?_)
    exact g_sm hM6
theorem g_X7_ask (n : Nat) (x1 : Int32) (x2 : Int32) (x3 : Int32) (M : m_M) : q_H (f_X7_ask n x1 x2 x3 M) (fun a => g_fr w_13 w_18 M a.2) := by
  have hM : g_fr w_13 w_18 M M := g_rf
  unfold f_X7_ask
  refine g_bv (fun r1 => ?_)
  refine g_if (fun _ => ?_) (fun _ => ?_)
  · skip
    exact g_sp hM
  · skip
    refine g_bv (fun r4 => ?_)
    refine g_if (fun _ => ?_) (fun _ => ?_)
    · skip
      exact g_sp hM
    · skip
      refine g_bv (fun r7 => ?_)
      refine g_if (fun _ => ?_) (fun _ => ?_)
      · skip
        exact g_sp hM
      · skip
        refine g_oM (g_X1_reckon n x3 0 M) g_id (fun i j h => (h.elim (fun h => Or.inr (Or.inr (Or.inl (h)))) (fun h => (h.elim (fun h => Or.inr (Or.inr (Or.inr (Or.inl (h))))) (fun h => (h.elim (fun h => Or.inr (Or.inr (Or.inr (Or.inr (Or.inl (h)))))) (fun h => (h.elim (fun h => Or.inr (Or.inr (Or.inr (Or.inr (Or.inr (Or.inl (h))))))) (fun h => (h.elim (fun h => Or.inr (Or.inr (Or.inr (Or.inr (Or.inr (Or.inr (Or.inl (h)))))))) (fun h => (h.elim (fun h => Or.inr (Or.inr (Or.inr (Or.inr (Or.inr (Or.inr (Or.inr (Or.inl (h))))))))) (fun h => absurd h (Nat.lt_irrefl i)))))))))))))) hM (fun M10 hM10 => ?_)
        refine g_bv (fun r11 => ?_)
        refine g_if (fun _ => ?_) (fun _ => ?_)
        · skip
          exact g_sp hM10
        · skip
          refine g_o2 (g_X1_askAbove n x1 x2 M10) (fun i j h => absurd h (Nat.lt_irrefl i)) (fun i j h => (h.elim (fun h => Or.inr (Or.inr (Or.inl (h)))) (fun h => (h.elim (fun h => Or.inr (Or.inr (Or.inr (Or.inl (h))))) (fun h => (h.elim (fun h => Or.inr (Or.inr (Or.inr (Or.inr (Or.inl (h)))))) (fun h => (h.elim (fun h => Or.inr (Or.inr (Or.inr (Or.inr (Or.inr (Or.inl (h))))))) (fun h => (h.elim (fun h => Or.inr (Or.inr (Or.inr (Or.inr (Or.inr (Or.inr (Or.inl (h)))))))) (fun h => (h.elim (fun h => Or.inr (Or.inr (Or.inr (Or.inr (Or.inr (Or.inr (Or.inr (Or.inl (h))))))))) (fun h => absurd h (Nat.lt_irrefl i)))))))))))))) hM10 (fun r14 M15 hM15 => ?_)
          refine g_ov (fun r16 => ?_)
          refine g_oM (g_X7_setFraction n r14 r16 M15) (fun i j h => absurd h (Nat.lt_irrefl i)) (fun i j h => (h.elim (fun h => Or.inl (h)) (fun h => (h.elim (fun h => Or.inr (Or.inl (h))) (fun h => absurd h (Nat.lt_irrefl i)))))) hM15 (fun M17 hM17 => ?_)
          exact g_sp hM17
