/-! FRAMES 3 -/
theorem g_X2_number_b78 (n : Nat) (q11 : Int32 → Int32 → m_M → Option (Int32 × m_M)) (x1 : Int32) (x2 : Int32) (M : m_M) (hq11 : ∀ (a0 : Int32) (a1 : Int32) (M : m_M), q_H (q11 a0 a1 M) (fun a => g_fr w_41 w_1 M a.2)) : q_H (f_X2_number_b78 n q11 x1 x2 M) (fun a => g_fr w_41 w_1 M a.2) := by
  have hM : g_fr w_41 w_1 M M := g_rf
  unfold f_X2_number_b78
  refine g_bI hM (Or.inl (by omega)) (fun M5 hM5 => ?_)
  exact g_tP (hq11 x1 x2 M5) g_id g_id hM5
theorem g_X2_number_b11 (n : Nat) : ∀ (u : Nat) (x1 : Int32) (x2 : Int32) (M : m_M), q_H (f_X2_number_b11 n u x1 x2 M) (fun a => g_fr w_41 w_1 M a.2) := by
  intro u
  induction u with
  | zero => exact fun _ _ _ _ h => nomatch h
  | succ u ih =>
    intro x1 x2 M
    have hM : g_fr w_41 w_1 M M := g_rf
    rw [f_X2_number_b11]
    refine g_if (fun _ => ?_) (fun _ => ?_)
    · skip
      exact g_tP (g_X2_number_b91 n x1 x2 M) g_id g_id hM
    · skip
      refine g_gd (fun z1 => ?_)
      have y1 := g_lt z1
      refine g_if (fun _ => ?_) (fun _ => ?_)
      · skip
        exact g_tP (g_X2_number_b91 n x1 x2 M) g_id g_id hM
      · skip
        refine g_if (fun _ => ?_) (fun _ => ?_)
        · skip
          exact g_tP (g_X2_number_b91 n x1 x2 M) g_id g_id hM
        · skip
          refine g_if (fun _ => ?_) (fun _ => ?_)
          · skip
            exact g_tP (g_X2_number_b78 n (f_X2_number_b11 n u) x1 x2 M ih) g_id g_id hM
          · skip
            refine g_bv (fun t11 => ?_)
            exact g_tP (g_X2_number_b78 n (f_X2_number_b11 n u) x1 t11 M ih) g_id g_id hM
theorem g_X2_number (n : Nat) (M : m_M) : q_H (f_X2_number n M) (fun a => g_fr w_41 w_1 M a.2) := by
  have hM : g_fr w_41 w_1 M M := g_rf
  unfold f_X2_number
  refine g_oM (g_X2_skipBlanks n M) (fun i j h => (h.elim (fun h => Or.inl (h)) (fun h => absurd h (Nat.lt_irrefl i)))) g_id hM (fun M12 hM12 => ?_)
  exact g_tP (g_X2_number_b11 n n (M12.1 168 2) 0 M12) g_id g_id hM12
theorem g_X2_verb_b61 (n : Nat) (x1 : Int32) (M : m_M) : q_H (f_X2_verb_b61 n x1 M) (fun a => g_fr w_41 w_1 M a.2) := by
  have hM : g_fr w_41 w_1 M M := g_rf
  unfold f_X2_verb_b61
  refine g_ov (fun r1 => ?_)
  refine g_if (fun _ => ?_) (fun _ => ?_)
  · skip
    refine g_bT (g_X2_blame x1 M) (fun i j h => (h.elim (fun h => Or.inr (Or.inl (h))) (fun h => absurd h (Nat.lt_irrefl i)))) g_id hM (fun M3 hM3 => ?_)
    exact g_sp hM3
  · skip
    exact g_sp hM
theorem g_X2_verb_b9 (n : Nat) : ∀ (u : Nat) (x1 : Int32) (M : m_M), q_H (f_X2_verb_b9 n u x1 M) (fun a => g_fr w_41 w_1 M a.2) := by
  intro u
  induction u with
  | zero => exact fun _ _ _ h => nomatch h
  | succ u ih =>
    intro x1 M
    have hM : g_fr w_41 w_1 M M := g_rf
    rw [f_X2_verb_b9]
    refine g_if (fun _ => ?_) (fun _ => ?_)
    · skip
      exact g_tP (g_X2_verb_b61 n x1 M) g_id g_id hM
    · skip
      refine g_gd (fun z1 => ?_)
      have y1 := g_lt z1
      refine g_if (fun _ => ?_) (fun _ => ?_)
      · skip
        exact g_tP (g_X2_verb_b61 n x1 M) g_id g_id hM
      · skip
        refine g_if (fun _ => ?_) (fun _ => ?_)
        · skip
          exact g_tP (g_X2_verb_b61 n x1 M) g_id g_id hM
        · skip
          refine g_bI hM (Or.inl (by omega)) (fun M8 hM8 => ?_)
          exact g_tP (ih x1 M8) g_id g_id hM8
theorem g_X2_verb (n : Nat) (M : m_M) : q_H (f_X2_verb n M) (fun a => g_fr w_41 w_1 M a.2) := by
  have hM : g_fr w_41 w_1 M M := g_rf
  unfold f_X2_verb
  refine g_oM (g_X2_skipBlanks n M) (fun i j h => (h.elim (fun h => Or.inl (h)) (fun h => absurd h (Nat.lt_irrefl i)))) g_id hM (fun M9 hM9 => ?_)
  exact g_tP (g_X2_verb_b9 n n (M9.1 168 2) M9) g_id g_id hM9
theorem g_X2_sign (n : Nat) (x1 : Int32) (M : m_M) : q_H (f_X2_sign n x1 M) (fun a => g_fr w_41 w_1 M a) := by
  have hM : g_fr w_41 w_1 M M := g_rf
  unfold f_X2_sign
  refine g_oM (g_X2_skipBlanks n M) (fun i j h => (h.elim (fun h => Or.inl (h)) (fun h => absurd h (Nat.lt_irrefl i)))) g_id hM (fun M1 hM1 => ?_)
  refine g_if (fun _ => ?_) (fun _ => ?_)
  · skip
    refine g_bT (g_X2_blame (M1.1 168 2) M1) (fun i j h => (h.elim (fun h => Or.inr (Or.inl (h))) (fun h => absurd h (Nat.lt_irrefl i)))) g_id hM1 (fun M3 hM3 => ?_)
    exact g_sm hM3
  · skip
    refine g_gd (fun z1 => ?_)
    have y1 := g_lt z1
    refine g_if (fun _ => ?_) (fun _ => ?_)
    · skip
      refine g_bI hM1 (Or.inl (by omega)) (fun M7 hM7 => ?_)
      exact g_sm hM7
    · skip
      refine g_bT (g_X2_blame (M1.1 168 2) M1) (fun i j h => (h.elim (fun h => Or.inr (Or.inl (h))) (fun h => absurd h (Nat.lt_irrefl i)))) g_id hM1 (fun M6 hM6 => ?_)
      exact g_sm hM6
theorem g_X2_second (n : Nat) (x1 : Int32) (M : m_M) : q_H (f_X2_second n x1 M) (fun a => g_fr w_41 w_1 M a.2) := by
  have hM : g_fr w_41 w_1 M M := g_rf
  unfold f_X2_second
  refine g_oM (g_X2_skipBlanks n M) (fun i j h => (h.elim (fun h => Or.inl (h)) (fun h => absurd h (Nat.lt_irrefl i)))) g_id hM (fun M1 hM1 => ?_)
  refine g_if (fun _ => ?_) (fun _ => ?_)
  · skip
    refine g_if (fun _ => ?_) (fun _ => ?_)
    · skip
      refine g_o2 (g_X2_number n M1) g_id g_id hM1 (fun r6 M7 hM7 => ?_)
      exact g_sp hM7
    · skip
      refine g_gd (fun z1 => ?_)
      have y1 := g_lt z1
      refine g_if (fun _ => ?_) (fun _ => ?_)
      · skip
        refine g_oM (g_X2_sign n 45 M1) g_id g_id hM1 (fun M10 hM10 => ?_)
        exact g_sp hM10
      · skip
        refine g_o2 (g_X2_number n M1) g_id g_id hM1 (fun r11 M12 hM12 => ?_)
        exact g_sp hM12
  · skip
    refine g_o2 (g_X2_number n M1) g_id g_id hM1 (fun r3 M4 hM4 => ?_)
    exact g_sp hM4
theorem g_X2_next_b109 (n : Nat) (s1 : Int32) (M : m_M) : q_H (f_X2_next_b109 n s1 M) (fun a => g_fr w_44 w_1 M a.2) := by
  have hM : g_fr w_44 w_1 M M := g_rf
  unfold f_X2_next_b109
  refine g_bI hM (Or.inr (Or.inr (Or.inr (Or.inr (Or.inr (Or.inr (Or.inl (by omega)))))))) (fun M1 hM1 => ?_)
  refine g_oM (g_X2_sign n 59 M1) (fun i j h => (h.elim (fun h => Or.inl (h)) (fun h => (h.elim (fun h => Or.inr (Or.inl (h))) (fun h => absurd h (Nat.lt_irrefl i)))))) g_id hM1 (fun M2 hM2 => ?_)
  refine g_if (fun _ => ?_) (fun _ => ?_)
  · skip
    exact g_sp hM2
  · skip
    exact g_sp hM2
theorem g_X2_next_b83 (n : Nat) (s1 : Int32) (M : m_M) : q_H (f_X2_next_b83 n s1 M) (fun a => g_fr w_44 w_1 M a.2) := by
  have hM : g_fr w_44 w_1 M M := g_rf
  unfold f_X2_next_b83
  refine g_bI hM (Or.inr (Or.inr (Or.inr (Or.inr (Or.inr (Or.inl (by omega))))))) (fun M4 hM4 => ?_)
  refine g_ov (fun r5 => ?_)
  refine g_if (fun _ => ?_) (fun _ => ?_)
  · skip
    exact g_tP (g_X2_next_b109 n 0 M4) g_id g_id hM4
  · skip
    refine g_o2 (g_X2_number n M4) (fun i j h => (h.elim (fun h => Or.inl (h)) (fun h => (h.elim (fun h => Or.inr (Or.inl (h))) (fun h => absurd h (Nat.lt_irrefl i)))))) g_id hM4 (fun r8 M9 hM9 => ?_)
    exact g_tP (g_X2_next_b109 n r8 M9) g_id g_id hM9
theorem g_X2_next (n : Nat) (M : m_M) : q_H (f_X2_next n M) (fun a => g_fr w_44 w_1 M a.2) := by
  have hM : g_fr w_44 w_1 M M := g_rf
  unfold f_X2_next
  refine g_oM (g_X2_skipBlanks n M) (fun i j h => (h.elim (fun h => Or.inl (h)) (fun h => absurd h (Nat.lt_irrefl i)))) g_id hM (fun M10 hM10 => ?_)
  refine g_if (fun _ => ?_) (fun _ => ?_)
  · skip
    refine g_o2 (g_X2_number n M10) (fun i j h => (h.elim (fun h => Or.inl (h)) (fun h => (h.elim (fun h => Or.inr (Or.inl (h))) (fun h => absurd h (Nat.lt_irrefl i)))))) g_id hM10 (fun r12 M13 hM13 => ?_)
    refine g_bI hM13 (Or.inr (Or.inr (Or.inl (by omega)))) (fun M14 hM14 => ?_)
    refine g_o2 (g_X2_verb n M14) (fun i j h => (h.elim (fun h => Or.inl (h)) (fun h => (h.elim (fun h => Or.inr (Or.inl (h))) (fun h => absurd h (Nat.lt_irrefl i)))))) g_id hM14 (fun r15 M16 hM16 => ?_)
    refine g_bI hM16 (Or.inr (Or.inr (Or.inr (Or.inl (by omega))))) (fun M17 hM17 => ?_)
    refine g_if (fun _ => ?_) (fun _ => ?_)
    · skip
      exact g_sp hM17
    · skip
      refine g_o2 (g_X2_number n M17) (fun i j h => (h.elim (fun h => Or.inl (h)) (fun h => (h.elim (fun h => Or.inr (Or.inl (h))) (fun h => absurd h (Nat.lt_irrefl i)))))) g_id hM17 (fun r19 M20 hM20 => ?_)
      refine g_bI hM20 (Or.inr (Or.inr (Or.inr (Or.inr (Or.inl (by omega)))))) (fun M21 hM21 => ?_)
      refine g_ov (fun r22 => ?_)
      refine g_if (fun _ => ?_) (fun _ => ?_)
      · skip
        exact g_tP (g_X2_next_b83 n 0 M21) g_id g_id hM21
      · skip
        refine g_ov (fun r25 => ?_)
        refine g_o2 (g_X2_second n r25 M21) (fun i j h => (h.elim (fun h => Or.inl (h)) (fun h => (h.elim (fun h => Or.inr (Or.inl (h))) (fun h => absurd h (Nat.lt_irrefl i)))))) g_id hM21 (fun r27 M28 hM28 => ?_)
        exact g_tP (g_X2_next_b83 n r27 M28) g_id g_id hM28
  · skip
    exact g_sp hM10
theorem g_X2_flawOfAll_b6 (n : Nat) : ∀ (u : Nat) (x1 : Int32) (M : m_M), q_H (f_X2_flawOfAll_b6 n u x1 M) (fun a => g_fr w_44 w_1 M a.2) := by
  intro u
  induction u with
  | zero => exact fun _ _ _ h => nomatch h
  | succ u ih =>
    intro x1 M
    have hM : g_fr w_44 w_1 M M := g_rf
    rw [f_X2_flawOfAll_b6]
    refine g_if (fun _ => ?_) (fun _ => ?_)
    · skip
      exact g_sp hM
    · skip
      refine g_o2 (g_X2_next n M) g_id g_id hM (fun r2 M3 hM3 => ?_)
      refine g_if (fun _ => ?_) (fun _ => ?_)
      · skip
        exact g_sp hM3
      · skip
        exact g_tP (ih (x1 + 1) M3) g_id g_id hM3
theorem g_X2_flawOfAll (n : Nat) (M : m_M) : q_H (f_X2_flawOfAll n M) (fun a => g_fr w_44 w_1 M a.2) := by
  have hM : g_fr w_44 w_1 M M := g_rf
  unfold f_X2_flawOfAll
  refine g_bT (g_X2_goToStart M) (fun i j h => (h.elim (fun h => Or.inl (h)) (fun h => (h.elim (fun h => Or.inr (Or.inl (h))) (fun h => absurd h (Nat.lt_irrefl i)))))) g_id hM (fun M6 hM6 => ?_)
  exact g_tP (g_X2_flawOfAll_b6 n n 0 M6) g_id g_id hM6
theorem g_X7_read_b44 (n : Nat) : ∀ (u : Nat) (x2 : Int32) (x3 : Int32) (x4 : Int32) (M : m_M), q_H (f_X7_read_b44 n u x2 x3 x4 M) (fun a => g_fr w_45 w_1 M a.2) := by
  intro u
  induction u with
  | zero => exact fun _ _ _ _ _ h => nomatch h
  | succ u ih =>
    intro x2 x3 x4 M
    have hM : g_fr w_45 w_1 M M := g_rf
    rw [f_X7_read_b44]
    refine g_if (fun _ => ?_) (fun _ => ?_)
    · skip
      refine g_bI hM (Or.inr (Or.inr (Or.inr (Or.inr (Or.inr (Or.inr (Or.inr (Or.inr (Or.inr (Or.inr (Or.inr (Or.inr (Or.inr (Or.inr (Or.inr (Or.inr (Or.inr (Or.inr (Or.inr (Or.inr (Or.inr (Or.inr (Or.inr (Or.inr (Or.inr (Or.inr (Or.inl (by omega)))))))))))))))))))))))))))) (fun M2 hM2 => ?_)
      exact g_sp hM2
    · skip
      refine g_o2 (g_X2_next n M) (fun i j h => (h.elim (fun h => Or.inr (Or.inr (Or.inr (Or.inr (Or.inr (Or.inr (Or.inr (Or.inr (Or.inr (Or.inr (Or.inr (Or.inr (Or.inr (Or.inr (Or.inr (Or.inr (Or.inr (Or.inr (Or.inr (Or.inr (Or.inr (Or.inr (Or.inr (Or.inr (Or.inr (Or.inr (Or.inr (Or.inl (h))))))))))))))))))))))))))))) (fun h => (h.elim (fun h => Or.inr (Or.inr (Or.inr (Or.inr (Or.inr (Or.inr (Or.inr (Or.inr (Or.inr (Or.inr (Or.inr (Or.inr (Or.inr (Or.inr (Or.inr (Or.inr (Or.inr (Or.inr (Or.inr (Or.inr (Or.inr (Or.inr (Or.inr (Or.inr (Or.inr (Or.inr (Or.inr (Or.inr (Or.inl (h)))))))))))))))))))))))))))))) (fun h => (h.elim (fun h => Or.inr (Or.inr (Or.inr (Or.inr (Or.inr (Or.inr (Or.inr (Or.inr (Or.inr (Or.inr (Or.inr (Or.inr (Or.inr (Or.inr (Or.inr (Or.inr (Or.inr (Or.inr (Or.inr (Or.inr (Or.inr (Or.inr (Or.inr (Or.inr (Or.inr (Or.inr (Or.inr (Or.inr (Or.inr (Or.inl (h))))))))))))))))))))))))))))))) (fun h => (h.elim (fun h => Or.inr (Or.inr (Or.inr (Or.inr (Or.inr (Or.inr (Or.inr (Or.inr (Or.inr (Or.inr (Or.inr (Or.inr (Or.inr (Or.inr (Or.inr (Or.inr (Or.inr (Or.inr (Or.inr (Or.inr (Or.inr (Or.inr (Or.inr (Or.inr (Or.inr (Or.inr (Or.inr (Or.inr (Or.inr (Or.inr (Or.inl (h)))))))))))))))))))))))))))))))) (fun h => (h.elim (fun h => Or.inr (Or.inr (Or.inr (Or.inr (Or.inr (Or.inr (Or.inr (Or.inr (Or.inr (Or.inr (Or.inr (Or.inr (Or.inr (Or.inr (Or.inr (Or.inr (Or.inr (Or.inr (Or.inr (Or.inr (Or.inr (Or.inr (Or.inr (Or.inr (Or.inr (Or.inr (Or.inr (Or.inr (Or.inr (Or.inr (Or.inr (Or.inl (h))))))))))))))))))))))))))))))))) (fun h => (h.elim (fun h => Or.inr (Or.inr (Or.inr (Or.inr (Or.inr (Or.inr (Or.inr (Or.inr (Or.inr (Or.inr (Or.inr (Or.inr (Or.inr (Or.inr (Or.inr (Or.inr (Or.inr (Or.inr (Or.inr (Or.inr (Or.inr (Or.inr (Or.inr (Or.inr (Or.inr (Or.inr (Or.inr (Or.inr (Or.inr (Or.inr (Or.inr (Or.inr (Or.inl (h)))))))))))))))))))))))))))))))))) (fun h => (h.elim (fun h => Or.inr (Or.inr (Or.inr (Or.inr (Or.inr (Or.inr (Or.inr (Or.inr (Or.inr (Or.inr (Or.inr (Or.inr (Or.inr (Or.inr (Or.inr (Or.inr (Or.inr (Or.inr (Or.inr (Or.inr (Or.inr (Or.inr (Or.inr (Or.inr (Or.inr (Or.inr (Or.inr (Or.inr (Or.inr (Or.inr (Or.inr (Or.inr (Or.inr (Or.inl (h))))))))))))))))))))))))))))))))))) (fun h => absurd h (Nat.lt_irrefl i)))))))))))))))) g_id hM (fun r3 M4 hM4 => ?_)
      refine g_if (fun _ => ?_) (fun _ => ?_)
      · skip
        refine g_bI hM4 (Or.inr (Or.inr (Or.inr (Or.inr (Or.inr (Or.inr (Or.inr (Or.inr (Or.inr (Or.inr (Or.inr (Or.inr (Or.inr (Or.inr (Or.inr (Or.inr (Or.inr (Or.inr (Or.inr (Or.inr (Or.inr (Or.inr (Or.inr (Or.inr (Or.inr (Or.inr (Or.inl (by omega)))))))))))))))))))))))))))) (fun M7 hM7 => ?_)
        exact g_sp hM7
      · skip
        refine g_o2 (g_X7_bring n (M4.1 168 4) (M4.1 168 5) (M4.1 168 6) (M4.1 168 7) (M4.1 168 8) M4) (fun i j h => (h.elim (fun h => Or.inl (h)) (fun h => (h.elim (fun h => Or.inr (Or.inl (h))) (fun h => (h.elim (fun h => Or.inr (Or.inr (Or.inl (h)))) (fun h => (h.elim (fun h => Or.inr (Or.inr (Or.inr (Or.inl (h))))) (fun h => (h.elim (fun h => Or.inr (Or.inr (Or.inr (Or.inr (Or.inl (h)))))) (fun h => (h.elim (fun h => Or.inr (Or.inr (Or.inr (Or.inr (Or.inr (Or.inl (h))))))) (fun h => (h.elim (fun h => Or.inr (Or.inr (Or.inr (Or.inr (Or.inr (Or.inr (Or.inl (h)))))))) (fun h => (h.elim (fun h => Or.inr (Or.inr (Or.inr (Or.inr (Or.inr (Or.inr (Or.inr (Or.inl (h))))))))) (fun h => (h.elim (fun h => Or.inr (Or.inr (Or.inr (Or.inr (Or.inr (Or.inr (Or.inr (Or.inr (Or.inl (h)))))))))) (fun h => (h.elim (fun h => Or.inr (Or.inr (Or.inr (Or.inr (Or.inr (Or.inr (Or.inr (Or.inr (Or.inr (Or.inl (h))))))))))) (fun h => (h.elim (fun h => Or.inr (Or.inr (Or.inr (Or.inr (Or.inr (Or.inr (Or.inr (Or.inr (Or.inr (Or.inr (Or.inl (h)))))))))))) (fun h => (h.elim (fun h => Or.inr (Or.inr (Or.inr (Or.inr (Or.inr (Or.inr (Or.inr (Or.inr (Or.inr (Or.inr (Or.inr (Or.inl (h))))))))))))) (fun h => (h.elim (fun h => Or.inr (Or.inr (Or.inr (Or.inr (Or.inr (Or.inr (Or.inr (Or.inr (Or.inr (Or.inr (Or.inr (Or.inr (Or.inl (h)))))))))))))) (fun h => (h.elim (fun h => Or.inr (Or.inr (Or.inr (Or.inr (Or.inr (Or.inr (Or.inr (Or.inr (Or.inr (Or.inr (Or.inr (Or.inr (Or.inr (Or.inl (h))))))))))))))) (fun h => (h.elim (fun h => Or.inr (Or.inr (Or.inr (Or.inr (Or.inr (Or.inr (Or.inr (Or.inr (Or.inr (Or.inr (Or.inr (Or.inr (Or.inr (Or.inr (Or.inl (h)))))))))))))))) (fun h => (h.elim (fun h => Or.inr (Or.inr (Or.inr (Or.inr (Or.inr (Or.inr (Or.inr (Or.inr (Or.inr (Or.inr (Or.inr (Or.inr (Or.inr (Or.inr (Or.inr (Or.inl (h))))))))))))))))) (fun h => (h.elim (fun h => Or.inr (Or.inr (Or.inr (Or.inr (Or.inr (Or.inr (Or.inr (Or.inr (Or.inr (Or.inr (Or.inr (Or.inr (Or.inr (Or.inr (Or.inr (Or.inr (Or.inl (h)))))))))))))))))) (fun h => (h.elim (fun h => Or.inr (Or.inr (Or.inr (Or.inr (Or.inr (Or.inr (Or.inr (Or.inr (Or.inr (Or.inr (Or.inr (Or.inr (Or.inr (Or.inr (Or.inr (Or.inr (Or.inr (Or.inl (h))))))))))))))))))) (fun h => (h.elim (fun h => Or.inr (Or.inr (Or.inr (Or.inr (Or.inr (Or.inr (Or.inr (Or.inr (Or.inr (Or.inr (Or.inr (Or.inr (Or.inr (Or.inr (Or.inr (Or.inr (Or.inr (Or.inr (Or.inl (h)))))))))))))))))))) (fun h => (h.elim (fun h => Or.inr (Or.inr (Or.inr (Or.inr (Or.inr (Or.inr (Or.inr (Or.inr (Or.inr (Or.inr (Or.inr (Or.inr (Or.inr (Or.inr (Or.inr (Or.inr (Or.inr (Or.inr (Or.inr (Or.inl (h))))))))))))))))))))) (fun h => (h.elim (fun h => Or.inr (Or.inr (Or.inr (Or.inr (Or.inr (Or.inr (Or.inr (Or.inr (Or.inr (Or.inr (Or.inr (Or.inr (Or.inr (Or.inr (Or.inr (Or.inr (Or.inr (Or.inr (Or.inr (Or.inr (Or.inl (h)))))))))))))))))))))) (fun h => (h.elim (fun h => Or.inr (Or.inr (Or.inr (Or.inr (Or.inr (Or.inr (Or.inr (Or.inr (Or.inr (Or.inr (Or.inr (Or.inr (Or.inr (Or.inr (Or.inr (Or.inr (Or.inr (Or.inr (Or.inr (Or.inr (Or.inr (Or.inl (h))))))))))))))))))))))) (fun h => (h.elim (fun h => Or.inr (Or.inr (Or.inr (Or.inr (Or.inr (Or.inr (Or.inr (Or.inr (Or.inr (Or.inr (Or.inr (Or.inr (Or.inr (Or.inr (Or.inr (Or.inr (Or.inr (Or.inr (Or.inr (Or.inr (Or.inr (Or.inr (Or.inl (h)))))))))))))))))))))))) (fun h => (h.elim (fun h => Or.inr (Or.inr (Or.inr (Or.inr (Or.inr (Or.inr (Or.inr (Or.inr (Or.inr (Or.inr (Or.inr (Or.inr (Or.inr (Or.inr (Or.inr (Or.inr (Or.inr (Or.inr (Or.inr (Or.inr (Or.inr (Or.inr (Or.inr (Or.inl (h))))))))))))))))))))))))) (fun h => (h.elim (fun h => Or.inr (Or.inr (Or.inr (Or.inr (Or.inr (Or.inr (Or.inr (Or.inr (Or.inr (Or.inr (Or.inr (Or.inr (Or.inr (Or.inr (Or.inr (Or.inr (Or.inr (Or.inr (Or.inr (Or.inr (Or.inr (Or.inr (Or.inr (Or.inr (Or.inl (h)))))))))))))))))))))))))) (fun h => (h.elim (fun h => Or.inr (Or.inr (Or.inr (Or.inr (Or.inr (Or.inr (Or.inr (Or.inr (Or.inr (Or.inr (Or.inr (Or.inr (Or.inr (Or.inr (Or.inr (Or.inr (Or.inr (Or.inr (Or.inr (Or.inr (Or.inr (Or.inr (Or.inr (Or.inr (Or.inr (Or.inl (h))))))))))))))))))))))))))) (fun h => absurd h (Nat.lt_irrefl i)))))))))))))))))))))))))))))))))))))))))))))))))))))) g_id hM4 (fun r8 M9 hM9 => ?_)
        refine g_if (fun _ => ?_) (fun _ => ?_)
        · skip
          exact g_tP (ih x2 x3 (x4 + 1) M9) g_id g_id hM9
        · skip
          refine g_bI hM9 (Or.inl (by omega)) (fun M11 hM11 => ?_)
          refine g_bI hM11 (Or.inr (Or.inl (by omega))) (fun M12 hM12 => ?_)
          exact g_sp hM12
theorem g_X7_read (n : Nat) (M : m_M) : q_H (f_X7_read n M) (fun a => g_fr w_45 w_1 M a.2) := by
  have hM : g_fr w_45 w_1 M M := g_rf
  unfold f_X7_read
  refine g_o2 (g_X2_flawOfAll n M) (fun i j h => (h.elim (fun h => Or.inr (Or.inr (Or.inr (Or.inr (Or.inr (Or.inr (Or.inr (Or.inr (Or.inr (Or.inr (Or.inr (Or.inr (Or.inr (Or.inr (Or.inr (Or.inr (Or.inr (Or.inr (Or.inr (Or.inr (Or.inr (Or.inr (Or.inr (Or.inr (Or.inr (Or.inr (Or.inr (Or.inl (h))))))))))))))))))))))))))))) (fun h => (h.elim (fun h => Or.inr (Or.inr (Or.inr (Or.inr (Or.inr (Or.inr (Or.inr (Or.inr (Or.inr (Or.inr (Or.inr (Or.inr (Or.inr (Or.inr (Or.inr (Or.inr (Or.inr (Or.inr (Or.inr (Or.inr (Or.inr (Or.inr (Or.inr (Or.inr (Or.inr (Or.inr (Or.inr (Or.inr (Or.inl (h)))))))))))))))))))))))))))))) (fun h => (h.elim (fun h => Or.inr (Or.inr (Or.inr (Or.inr (Or.inr (Or.inr (Or.inr (Or.inr (Or.inr (Or.inr (Or.inr (Or.inr (Or.inr (Or.inr (Or.inr (Or.inr (Or.inr (Or.inr (Or.inr (Or.inr (Or.inr (Or.inr (Or.inr (Or.inr (Or.inr (Or.inr (Or.inr (Or.inr (Or.inr (Or.inl (h))))))))))))))))))))))))))))))) (fun h => (h.elim (fun h => Or.inr (Or.inr (Or.inr (Or.inr (Or.inr (Or.inr (Or.inr (Or.inr (Or.inr (Or.inr (Or.inr (Or.inr (Or.inr (Or.inr (Or.inr (Or.inr (Or.inr (Or.inr (Or.inr (Or.inr (Or.inr (Or.inr (Or.inr (Or.inr (Or.inr (Or.inr (Or.inr (Or.inr (Or.inr (Or.inr (Or.inl (h)))))))))))))))))))))))))))))))) (fun h => (h.elim (fun h => Or.inr (Or.inr (Or.inr (Or.inr (Or.inr (Or.inr (Or.inr (Or.inr (Or.inr (Or.inr (Or.inr (Or.inr (Or.inr (Or.inr (Or.inr (Or.inr (Or.inr (Or.inr (Or.inr (Or.inr (Or.inr (Or.inr (Or.inr (Or.inr (Or.inr (Or.inr (Or.inr (Or.inr (Or.inr (Or.inr (Or.inr (Or.inl (h))))))))))))))))))))))))))))))))) (fun h => (h.elim (fun h => Or.inr (Or.inr (Or.inr (Or.inr (Or.inr (Or.inr (Or.inr (Or.inr (Or.inr (Or.inr (Or.inr (Or.inr (Or.inr (Or.inr (Or.inr (Or.inr (Or.inr (Or.inr (Or.inr (Or.inr (Or.inr (Or.inr (Or.inr (Or.inr (Or.inr (Or.inr (Or.inr (Or.inr (Or.inr (Or.inr (Or.inr (Or.inr (Or.inl (h)))))))))))))))))))))))))))))))))) (fun h => (h.elim (fun h => Or.inr (Or.inr (Or.inr (Or.inr (Or.inr (Or.inr (Or.inr (Or.inr (Or.inr (Or.inr (Or.inr (Or.inr (Or.inr (Or.inr (Or.inr (Or.inr (Or.inr (Or.inr (Or.inr (Or.inr (Or.inr (Or.inr (Or.inr (Or.inr (Or.inr (Or.inr (Or.inr (Or.inr (Or.inr (Or.inr (Or.inr (Or.inr (Or.inr (Or.inl (h))))))))))))))))))))))))))))))))))) (fun h => absurd h (Nat.lt_irrefl i)))))))))))))))) g_id hM (fun r13 M14 hM14 => ?_)
  refine g_if (fun _ => ?_) (fun _ => ?_)
  · skip
    refine g_bT (g_X2_goToStart M14) (fun i j h => (h.elim (fun h => Or.inr (Or.inr (Or.inr (Or.inr (Or.inr (Or.inr (Or.inr (Or.inr (Or.inr (Or.inr (Or.inr (Or.inr (Or.inr (Or.inr (Or.inr (Or.inr (Or.inr (Or.inr (Or.inr (Or.inr (Or.inr (Or.inr (Or.inr (Or.inr (Or.inr (Or.inr (Or.inr (Or.inl (h))))))))))))))))))))))))))))) (fun h => (h.elim (fun h => Or.inr (Or.inr (Or.inr (Or.inr (Or.inr (Or.inr (Or.inr (Or.inr (Or.inr (Or.inr (Or.inr (Or.inr (Or.inr (Or.inr (Or.inr (Or.inr (Or.inr (Or.inr (Or.inr (Or.inr (Or.inr (Or.inr (Or.inr (Or.inr (Or.inr (Or.inr (Or.inr (Or.inr (Or.inl (h)))))))))))))))))))))))))))))) (fun h => absurd h (Nat.lt_irrefl i)))))) g_id hM14 (fun M16 hM16 => ?_)
    exact g_tP (g_X7_read_b44 n n (M14.1 1 1) (M14.1 1 2) 0 M16) g_id g_id hM16
  · skip
    exact g_sp hM14
theorem g_X7_rests_b25 (n : Nat) (x1 : Int32) (x2 : Int32) : ∀ (u : Nat) (x3 : Int32) (x4 : Int32) (M : m_M), q_H (f_X7_rests_b25 n x1 x2 u x3 x4 M) (fun a => g_fr w_37 w_15 M a.2) := by
  intro u
  induction u with
  | zero => exact fun _ _ _ _ h => nomatch h
  | succ u ih =>
    intro x3 x4 M
    have hM : g_fr w_37 w_15 M M := g_rf
    rw [f_X7_rests_b25]
    refine g_if (fun _ => ?_) (fun _ => ?_)
    · skip
      refine g_if (fun _ => ?_) (fun _ => ?_)
      · skip
        exact g_sp hM
      · skip
        exact g_sp hM
    · skip
      refine g_ov (fun r3 => ?_)
      refine g_if (fun _ => ?_) (fun _ => ?_)
      · skip
        exact g_tP (ih x3 (x4 + 1) M) g_id g_id hM
      · skip
        refine g_if (fun _ => ?_) (fun _ => ?_)
        · skip
          exact g_sp hM
        · skip
          exact g_tP (ih (x3 + 1) (x4 + 1) M) g_id g_id hM
theorem g_X7_rests (n : Nat) (x1 : Int32) (x2 : Int32) (M : m_M) : q_H (f_X7_rests n x1 x2 M) (fun a => g_fr w_37 w_15 M a.2) := by
  have hM : g_fr w_37 w_15 M M := g_rf
  unfold f_X7_rests
  refine g_if (fun _ => ?_) (fun _ => ?_)
  · skip
    exact g_sp hM
  · skip
    refine g_bv (fun r8 => ?_)
    refine g_if (fun _ => ?_) (fun _ => ?_)
    · skip
      exact g_sp hM
    · skip
      refine g_oM (g_X7_lineUp n x2 M) g_id g_id hM (fun M11 hM11 => ?_)
      exact g_tP (g_X7_rests_b25 n x1 x2 n 0 0 M11) g_id g_id hM11
theorem g_X7_served (n : Nat) (x1 : Int32) (x2 : Int32) (M : m_M) : q_H (f_X7_served n x1 x2 M) (fun a => g_fr w_37 w_15 M a.2) := by
  have hM : g_fr w_37 w_15 M M := g_rf
  unfold f_X7_served
  refine g_bv (fun r1 => ?_)
  refine g_if (fun _ => ?_) (fun _ => ?_)
  · skip
    exact g_sp hM
  · skip
    refine g_bv (fun r4 => ?_)
    refine g_if (fun _ => ?_) (fun _ => ?_)
    · skip
      exact g_sp hM
    · skip
      refine g_oM (g_X7_lineUp n x2 M) g_id g_id hM (fun M7 hM7 => ?_)
      refine g_ov (fun r8 => ?_)
      exact g_sp hM7
theorem g_X7_sure_b73 (n : Nat) (x1 : Int32) (x2 : Int32) (x3 : Int32) (x4 : Int32) : ∀ (u : Nat) (x5 : Int32) (x6 : Int32) (x7 : Int32) (M : m_M), q_H (f_X7_sure_b73 n x1 x2 x3 x4 u x5 x6 x7 M) (fun a => g_fr w_13 w_46 M a.2) := by
  intro u
  induction u with
  | zero => exact fun _ _ _ _ _ h => nomatch h
  | succ u ih =>
    intro x5 x6 x7 M
    have hM : g_fr w_13 w_46 M M := g_rf
    rw [f_X7_sure_b73]
    refine g_bv (fun r1 => ?_)
    refine g_if (fun _ => ?_) (fun _ => ?_)
    · skip
      refine g_gd (fun z1 => ?_)
      have y1 := g_lt z1
      refine g_oM (g_X7_setFraction n (M.2 170 x5.toNatClampNeg) (M.2 171 x5.toNatClampNeg) M) (fun i j h => absurd h (Nat.lt_irrefl i)) (fun i j h => (h.elim (fun h => Or.inl (h)) (fun h => (h.elim (fun h => Or.inr (Or.inl (h))) (fun h => absurd h (Nat.lt_irrefl i)))))) hM (fun M4 hM4 => ?_)
      exact g_sp hM4
    · skip
      refine g_ov (fun r5 => ?_)
      refine g_if (fun _ => ?_) (fun _ => ?_)
      · skip
        exact g_tP (ih x7 x6 (x7 + 1) M) g_id g_id hM
      · skip
        exact g_tP (ih x5 x6 (x7 + 1) M) g_id g_id hM
theorem g_X7_sure (n : Nat) (x1 : Int32) (x2 : Int32) (x3 : Int32) (x4 : Int32) (M : m_M) : q_H (f_X7_sure n x1 x2 x3 x4 M) (fun a => g_fr w_13 w_46 M a.2) := by
  have hM : g_fr w_13 w_46 M M := g_rf
  unfold f_X7_sure
  refine g_bv (fun r7 => ?_)
  refine g_if (fun _ => ?_) (fun _ => ?_)
  · skip
    exact g_sp hM
  · skip
    refine g_bv (fun r10 => ?_)
    refine g_if (fun _ => ?_) (fun _ => ?_)
    · skip
      exact g_sp hM
    · skip
      refine g_if (fun _ => ?_) (fun _ => ?_)
      · skip
        exact g_sp hM
      · skip
        refine g_if (fun _ => ?_) (fun _ => ?_)
        · skip
          exact g_sp hM
        · skip
          refine g_bv (fun r15 => ?_)
          refine g_if (fun _ => ?_) (fun _ => ?_)
          · skip
            exact g_sp hM
          · skip
            refine g_o2 (g_X7_isTooEarly n x1 x4 M) g_id (fun i j h => absurd h (Nat.lt_irrefl i)) hM (fun r18 M19 hM19 => ?_)
            refine g_if (fun _ => ?_) (fun _ => ?_)
            · skip
              refine g_oM (g_X7_askInAllWays n x1 x2 x4 M19) g_id (fun i j h => (h.elim (fun h => Or.inr (Or.inr (Or.inl (h)))) (fun h => (h.elim (fun h => Or.inr (Or.inr (Or.inr (Or.inl (h))))) (fun h => (h.elim (fun h => Or.inr (Or.inr (Or.inr (Or.inr (Or.inl (h)))))) (fun h => (h.elim (fun h => Or.inr (Or.inr (Or.inr (Or.inr (Or.inr (Or.inl (h))))))) (fun h => (h.elim (fun h => Or.inr (Or.inr (Or.inr (Or.inr (Or.inr (Or.inr (Or.inl (h)))))))) (fun h => (h.elim (fun h => Or.inr (Or.inr (Or.inr (Or.inr (Or.inr (Or.inr (Or.inr (Or.inl (h))))))))) (fun h => (h.elim (fun h => Or.inr (Or.inr (Or.inr (Or.inr (Or.inr (Or.inr (Or.inr (Or.inr (Or.inl (h)))))))))) (fun h => absurd h (Nat.lt_irrefl i)))))))))))))))) hM19 (fun M22 hM22 => ?_)
              refine g_if (fun _ => ?_) (fun _ => ?_)
              · skip
                exact g_tP (g_X7_sure_b73 n x1 x2 x3 x4 n 0 (-1) 1 M22) g_id g_id hM22
              · skip
                exact g_tP (g_X7_sure_b73 n x1 x2 x3 x4 n 0 1 1 M22) g_id g_id hM22
            · skip
              exact g_sp hM19
theorem g_X2_add (x1 : Int32) (M : m_M) : q_H (f_X2_add x1 M) (fun a => g_fr w_47 w_1 M a) := by
  have hM : g_fr w_47 w_1 M M := g_rf
  unfold f_X2_add
  refine g_if (fun _ => ?_) (fun _ => ?_)
  · skip
    refine g_gd (fun z1 => ?_)
    have y1 := g_lt z1
    refine g_bI hM (Or.inr (Or.inl (by omega))) (fun M3 hM3 => ?_)
    refine g_bI hM3 (Or.inl (by omega)) (fun M4 hM4 => ?_)
    exact g_sm hM4
  · skip
    exact g_sm hM
theorem g_X7_type_b37 (n : Nat) (x1 : Int64) (x3 : Int32) : ∀ (u : Nat) (x4 : Int32) (M : m_M), q_H (f_X7_type_b37 n x1 x3 u x4 M) (fun a => g_fr w_47 w_1 M a.2) := by
  intro u
  induction u with
  | zero => exact fun _ _ _ h => nomatch h
  | succ u ih =>
    intro x4 M
    have hM : g_fr w_47 w_1 M M := g_rf
    rw [f_X7_type_b37]
    refine g_if (fun _ => ?_) (fun _ => ?_)
    · skip
      exact g_sp hM
    · skip
      refine g_oM (g_X2_add (((x1 >>> (((8 : Int32) * x4).toInt64 &&& 63)).toInt32) &&& (255 : Int32)) M) g_id g_id hM (fun M2 hM2 => ?_)
      exact g_tP (ih (x4 + (-1)) M2) g_id g_id hM2
theorem g_X7_type (n : Nat) (x1 : Int64) (x3 : Int32) (M : m_M) : q_H (f_X7_type n x1 x3 M) (fun a => g_fr w_47 w_1 M a.2) := by
  have hM : g_fr w_47 w_1 M M := g_rf
  unfold f_X7_type
  refine g_if (fun _ => ?_) (fun _ => ?_)
  · skip
    exact g_sp hM
  · skip
    refine g_if (fun _ => ?_) (fun _ => ?_)
    · skip
      refine g_if (fun _ => ?_) (fun _ => ?_)
      · skip
        exact g_tP (g_X7_type_b37 n x1 x3 n (x3 - (1 : Int32)) M) g_id g_id hM
      · skip
        exact g_sp hM
    · skip
      exact g_sp hM
theorem g_X7_unline (M : m_M) : g_fr w_48 w_1 M (f_X7_unline M).2 := by
  unfold f_X7_unline
  simp only [m_bd, f_X8_persons, f_X8_lined]
  repeat' split
  all_goals (repeat' (first | exact g_rf | refine g_sI ?_ (by first | exact Or.inl (by omega))))
theorem g_X7_wise_b41 (n : Nat) (x1 : Int32) (x2 : Int32) (x3 : Int32) : ∀ (u : Nat) (x4 : Int32) (M : m_M), q_H (f_X7_wise_b41 n x1 x2 x3 u x4 M) (fun a => g_fr w_13 w_15 M a.2) := by
  intro u
  induction u with
  | zero => exact fun _ _ _ h => nomatch h
  | succ u ih =>
    intro x4 M
    have hM : g_fr w_13 w_15 M M := g_rf
    rw [f_X7_wise_b41]
    refine g_if (fun _ => ?_) (fun _ => ?_)
    · skip
      exact g_sp hM
    · skip
      refine g_o2 (g_X1_netOf n x1 0 0 x4.toInt64 M) (fun i j h => absurd h (Nat.lt_irrefl i)) g_id hM (fun r2 M3 hM3 => ?_)
      refine g_if (fun _ => ?_) (fun _ => ?_)
      · skip
        exact g_tP (ih (x4 + 1) M3) g_id g_id hM3
      · skip
        exact g_sp hM3
theorem g_X7_wise (n : Nat) (x1 : Int32) (x2 : Int32) (x3 : Int32) (M : m_M) : q_H (f_X7_wise n x1 x2 x3 M) (fun a => g_fr w_13 w_15 M a.2) := by
  have hM : g_fr w_13 w_15 M M := g_rf
  unfold f_X7_wise
  refine g_bv (fun r5 => ?_)
  refine g_if (fun _ => ?_) (fun _ => ?_)
  · skip
    exact g_sp hM
  · skip
    refine g_if (fun _ => ?_) (fun _ => ?_)
    · skip
      exact g_sp hM
    · skip
      refine g_if (fun _ => ?_) (fun _ => ?_)
      · skip
        exact g_sp hM
      · skip
        refine g_bv (fun r10 => ?_)
        refine g_if (fun _ => ?_) (fun _ => ?_)
        · skip
          exact g_sp hM
        · skip
          refine g_oM (g_X1_reckon n x3 0 M) g_id g_id hM (fun M13 hM13 => ?_)
          exact g_tP (g_X7_wise_b41 n x1 x2 x3 n 0 M13) g_id g_id hM13
theorem g_X4_add (n : Nat) (k0 : Nat) (x1 : Int32) (M : m_M) : q_H (f_X4_add n k0 x1 M) (fun a => g_fr (w_28 k0) (w_5 k0) M a) := by
  have hM : g_fr (w_28 k0) (w_5 k0) M M := g_rf
  unfold f_X4_add
  refine g_if (fun _ => ?_) (fun _ => ?_)
  · skip
    refine g_gd (fun z1 => ?_)
    have y1 := g_lt z1
    refine g_bI hM (Or.inr (Or.inr (Or.inr (Or.inr (Or.inl (by omega)))))) (fun M3 hM3 => ?_)
    refine g_bI hM3 (Or.inl (by omega)) (fun M4 hM4 => ?_)
    refine g_oM (g_X4_parse n k0 M4) (fun i j h => (h.elim (fun h => Or.inr (Or.inl (by omega))) (fun h => (h.elim (fun h => Or.inr (Or.inr (Or.inl (by omega)))) (fun h => (h.elim (fun h => Or.inr (Or.inr (Or.inr (Or.inl (by omega))))) (fun h => (h.elim (fun h => Or.inr (Or.inr (Or.inr (Or.inr (Or.inr (Or.inl (by omega))))))) (fun h => absurd h (Nat.lt_irrefl i)))))))))) g_id hM4 (fun M5 hM5 => ?_)
    exact g_sm hM5
  · skip
    exact g_sm hM
theorem g_X7_write (n : Nat) (x1 : Int32) (x2 : Int32) (M : m_M) : q_H (f_X7_write n x1 x2 M) (fun a => g_fr w_49 w_27 M a.2) := by
  have hM : g_fr w_49 w_27 M M := g_rf
  unfold f_X7_write
  refine g_bv (fun r1 => ?_)
  refine g_if (fun _ => ?_) (fun _ => ?_)
  · skip
    exact g_sp hM
  · skip
    refine g_if (fun _ => ?_) (fun _ => ?_)
    · skip
      exact g_sp hM
    · skip
      refine g_if (fun _ => ?_) (fun _ => ?_)
      · skip
        refine g_gd (fun z1 => ?_)
        have y1 := g_lt z1
        refine g_if (fun _ => ?_) (fun _ => ?_)
        · skip
          refine g_oM (g_X4_add n ((1 + 3) + 1 + 5 * x1.toNatClampNeg) x2 M) (fun i j h => (h.elim (fun h => Or.inl (by omega)) (fun h => (h.elim (fun h => Or.inr (Or.inl (by omega))) (fun h => (h.elim (fun h => Or.inr (Or.inr (Or.inl (by omega)))) (fun h => (h.elim (fun h => Or.inr (Or.inr (Or.inr (Or.inl (by omega))))) (fun h => (h.elim (fun h => Or.inr (Or.inr (Or.inr (Or.inr (Or.inl (by omega)))))) (fun h => (h.elim (fun h => Or.inr (Or.inr (Or.inr (Or.inr (Or.inr (Or.inl (by omega))))))) (fun h => absurd h (Nat.lt_irrefl i)))))))))))))) (fun i j h => (h.elim (fun h => Or.inl (by omega)) (fun h => absurd h (Nat.lt_irrefl i)))) hM (fun M8 hM8 => ?_)
          exact g_sp hM8
        · skip
          exact g_sp hM
      · skip
        exact g_sp hM
theorem g_X8_ahead_b37 (n : Nat) (M : m_M) : q_H (f_X8_ahead_b37 n M) (fun a => g_fr w_50 w_1 M a.2) := by
  have hM : g_fr w_50 w_1 M M := g_rf
  unfold f_X8_ahead_b37
  refine g_ov (fun r1 => ?_)
  refine g_if (fun _ => ?_) (fun _ => ?_)
  · skip
    exact g_sp hM
  · skip
    refine g_ov (fun r3 => ?_)
    exact g_sp hM
theorem g_X8_ahead_b0 (n : Nat) : ∀ (u : Nat) (M : m_M), q_H (f_X8_ahead_b0 n u M) (fun a => g_fr w_50 w_1 M a.2) := by
  intro u
  induction u with
  | zero => exact fun _ _ h => nomatch h
  | succ u ih =>
    intro M
    have hM : g_fr w_50 w_1 M M := g_rf
    rw [f_X8_ahead_b0]
    refine g_ov (fun r4 => ?_)
    refine g_if (fun _ => ?_) (fun _ => ?_)
    · skip
      exact g_tP (g_X8_ahead_b37 n M) g_id g_id hM
    · skip
      refine g_ov (fun r6 => ?_)
      refine g_if (fun _ => ?_) (fun _ => ?_)
      · skip
        refine g_bI hM (Or.inl (by omega)) (fun M8 hM8 => ?_)
        exact g_tP (ih M8) g_id g_id hM8
      · skip
        exact g_tP (g_X8_ahead_b37 n M) g_id g_id hM
theorem g_X8_ahead (n : Nat) (M : m_M) : q_H (f_X8_ahead n M) (fun a => g_fr w_50 w_1 M a.2) := by
  have hM : g_fr w_50 w_1 M M := g_rf
  unfold f_X8_ahead
  refine g_ov (fun r9 => ?_)
  refine g_if (fun _ => ?_) (fun _ => ?_)
  · skip
    exact g_tP (g_X8_ahead_b37 n M) g_id g_id hM
  · skip
    refine g_ov (fun r11 => ?_)
    refine g_if (fun _ => ?_) (fun _ => ?_)
    · skip
      refine g_bI hM (Or.inl (by omega)) (fun M13 hM13 => ?_)
      exact g_tP (g_X8_ahead_b0 n n M13) g_id g_id hM13
    · skip
      exact g_tP (g_X8_ahead_b37 n M) g_id g_id hM
theorem g_X8_layDeal (x1 : Int32) (x2 : Int32) (M : m_M) : q_H (f_X8_layDeal x1 x2 M) (fun a => g_fr w_51 w_1 M a) := by
  have hM : g_fr w_51 w_1 M M := g_rf
  unfold f_X8_layDeal
  refine g_gd (fun z1 => ?_)
  have y1 := g_lt z1
  refine g_bI hM (Or.inr (Or.inl (by omega))) (fun M2 hM2 => ?_)
  refine g_bI hM2 (Or.inr (Or.inl (by omega))) (fun M3 hM3 => ?_)
  refine g_bI hM3 (Or.inr (Or.inl (by omega))) (fun M4 hM4 => ?_)
  refine g_bI hM4 (Or.inr (Or.inl (by omega))) (fun M5 hM5 => ?_)
  refine g_gd (fun z2 => ?_)
  have y2 := g_lt z2
  refine g_gd (fun _ => ?_)
  refine g_bI hM5 (Or.inr (Or.inl (by omega))) (fun M7 hM7 => ?_)
  refine g_gd (fun _ => ?_)
  refine g_bI hM7 (Or.inr (Or.inl (by omega))) (fun M9 hM9 => ?_)
  refine g_bI hM9 (Or.inl (by omega)) (fun M11 hM11 => ?_)
  exact g_sm hM11
theorem g_X8_lay (x1 : Int32) (x2 : Int32) (x3 : Int32) (x4 : Int32) (x5 : Int32) (M : m_M) : q_H (f_X8_lay x1 x2 x3 x4 x5 M) (fun a => g_fr w_52 w_1 M a) := by
  have hM : g_fr w_52 w_1 M M := g_rf
  unfold f_X8_lay
  refine g_if (fun _ => ?_) (fun _ => ?_)
  · skip
    refine g_gd (fun z1 => ?_)
    have y1 := g_lt z1
    refine g_bI hM (Or.inr (Or.inl (by omega))) (fun M3 hM3 => ?_)
    refine g_bI hM3 (Or.inr (Or.inl (by omega))) (fun M4 hM4 => ?_)
    exact g_sm hM4
  · skip
    refine g_if (fun _ => ?_) (fun _ => ?_)
    · skip
      refine g_gd (fun z2 => ?_)
      have y2 := g_lt z2
      refine g_bI hM (Or.inr (Or.inl (by omega))) (fun M7 hM7 => ?_)
      exact g_sm hM7
    · skip
      refine g_if (fun _ => ?_) (fun _ => ?_)
      · skip
        refine g_gd (fun z3 => ?_)
        have y3 := g_lt z3
        refine g_bI hM (Or.inr (Or.inl (by omega))) (fun M10 hM10 => ?_)
        exact g_sm hM10
      · skip
        refine g_if (fun _ => ?_) (fun _ => ?_)
        · skip
          refine g_oM (g_X8_layDeal x3 x4 M) (fun i j h => (h.elim (fun h => Or.inl (h)) (fun h => (h.elim (fun h => Or.inr (Or.inr (Or.inl (h)))) (fun h => absurd h (Nat.lt_irrefl i)))))) g_id hM (fun M12 hM12 => ?_)
          exact g_sm hM12
        · skip
          refine g_if (fun _ => ?_) (fun _ => ?_)
          · skip
            refine g_gd (fun z4 => ?_)
            have y4 := g_lt z4
            refine g_bI hM (Or.inr (Or.inr (Or.inl (by omega)))) (fun M15 hM15 => ?_)
            exact g_sm hM15
          · skip
            refine g_if (fun _ => ?_) (fun _ => ?_)
            · skip
              refine g_gd (fun z5 => ?_)
              have y5 := g_lt z5
              refine g_bI hM (Or.inr (Or.inl (by omega))) (fun M18 hM18 => ?_)
              exact g_sm hM18
            · skip
              refine g_if (fun _ => ?_) (fun _ => ?_)
              · skip
                refine g_gd (fun z6 => ?_)
                have y6 := g_lt z6
                refine g_bI hM (Or.inr (Or.inl (by omega))) (fun M21 hM21 => ?_)
                exact g_sm hM21
              · skip
                refine g_if (fun _ => ?_) (fun _ => ?_)
                · skip
                  refine g_gd (fun z7 => ?_)
                  have y7 := g_lt z7
                  refine g_bI hM (Or.inr (Or.inl (by omega))) (fun M24 hM24 => ?_)
                  exact g_sm hM24
                · skip
                  refine g_if (fun _ => ?_) (fun _ => ?_)
                  · skip
                    refine g_gd (fun z8 => ?_)
                    have y8 := g_lt z8
                    refine g_bI hM (Or.inr (Or.inr (Or.inl (by omega)))) (fun M27 hM27 => ?_)
                    exact g_sm hM27
                  · skip
                    refine g_if (fun _ => ?_) (fun _ => ?_)
                    · skip
                      refine g_gd (fun z9 => ?_)
                      have y9 := g_lt z9
                      refine g_bI hM (Or.inr (Or.inr (Or.inl (by omega)))) (fun M30 hM30 => ?_)
                      exact g_sm hM30
                    · skip
                      refine g_if (fun _ => ?_) (fun _ => ?_)
                      · skip
                        refine g_gd (fun z10 => ?_)
                        have y10 := g_lt z10
                        refine g_bI hM (Or.inr (Or.inl (by omega))) (fun M33 hM33 => ?_)
                        exact g_sm hM33
                      · skip
                        refine g_if (fun _ => ?_) (fun _ => ?_)
                        · skip
                          refine g_gd (fun z11 => ?_)
                          have y11 := g_lt z11
                          refine g_bI hM (Or.inr (Or.inl (by omega))) (fun M36 hM36 => ?_)
                          exact g_sm hM36
                        · skip
                          refine g_if (fun _ => ?_) (fun _ => ?_)
                          · skip
                            refine g_gd (fun z12 => ?_)
                            have y12 := g_lt z12
                            refine g_bI hM (Or.inr (Or.inr (Or.inl (by omega)))) (fun M39 hM39 => ?_)
                            exact g_sm hM39
                          · skip
                            refine g_gd (fun z13 => ?_)
                            have y13 := g_lt z13
                            refine g_bI hM (Or.inr (Or.inl (by omega))) (fun M41 hM41 => ?_)
                            refine g_ov (fun r42 => ?_)
                            refine g_bI hM41 (Or.inr (Or.inl (by omega))) (fun M43 hM43 => ?_)
                            refine g_bI hM43 (Or.inr (Or.inl (by omega))) (fun M44 hM44 => ?_)
                            refine g_bI hM44 (Or.inr (Or.inl (by omega))) (fun M45 hM45 => ?_)
                            exact g_sm hM45
theorem g_X8_layDay_b305 (n : Nat) (x1 : Int32) : ∀ (u : Nat) (x2 : Int32) (M : m_M), q_H (f_X8_layDay_b305 n x1 u x2 M) (fun a => g_fr w_53 w_1 M a) := by
  intro u
  induction u with
  | zero => exact fun _ _ _ h => nomatch h
  | succ u ih =>
    intro x2 M
    have hM : g_fr w_53 w_1 M M := g_rf
    rw [f_X8_layDay_b305]
    refine g_if (fun _ => ?_) (fun _ => ?_)
    · skip
      exact g_sm hM
    · skip
      refine g_gd (fun z1 => ?_)
      have y1 := g_lt z1
      refine g_if (fun _ => ?_) (fun _ => ?_)
      · skip
        refine g_bI hM (Or.inr (Or.inr (Or.inr (Or.inr (Or.inl (by omega)))))) (fun M4 hM4 => ?_)
        exact g_tM (ih (x2 + 1) M4) g_id g_id hM4
      · skip
        refine g_bI hM (Or.inr (Or.inr (Or.inr (Or.inr (Or.inl (by omega)))))) (fun M5 hM5 => ?_)
        exact g_tM (ih (x2 + 1) M5) g_id g_id hM5
theorem g_X8_layDay_b266 (n : Nat) (x1 : Int32) : ∀ (u : Nat) (x2 : Int32) (M : m_M), q_H (f_X8_layDay_b266 n x1 u x2 M) (fun a => g_fr w_53 w_1 M a) := by
  intro u
  induction u with
  | zero => exact fun _ _ _ h => nomatch h
  | succ u ih =>
    intro x2 M
    have hM : g_fr w_53 w_1 M M := g_rf
    rw [f_X8_layDay_b266]
    refine g_if (fun _ => ?_) (fun _ => ?_)
    · skip
      exact g_tM (g_X8_layDay_b305 n x1 n 0 M) g_id g_id hM
    · skip
      refine g_gd (fun z1 => ?_)
      have y1 := g_lt z1
      refine g_if (fun _ => ?_) (fun _ => ?_)
      · skip
        refine g_bI hM (Or.inr (Or.inr (Or.inr (Or.inr (Or.inl (by omega)))))) (fun M9 hM9 => ?_)
        exact g_tM (ih (x2 + 1) M9) g_id g_id hM9
      · skip
        refine g_bI hM (Or.inr (Or.inr (Or.inr (Or.inr (Or.inl (by omega)))))) (fun M10 hM10 => ?_)
        exact g_tM (ih (x2 + 1) M10) g_id g_id hM10
theorem g_X8_layDay_b220 (n : Nat) (x1 : Int32) (q122 : Int32 → m_M → Option m_M) (x2 : Int32) (x3 : Int32) (x4 : Int32) (M : m_M) (hq122 : ∀ (a0 : Int32) (M : m_M), q_H (q122 a0 M) (fun a => g_fr w_53 w_1 M a)) : q_H (f_X8_layDay_b220 n x1 q122 x2 x3 x4 M) (fun a => g_fr w_53 w_1 M a) := by
  have hM : g_fr w_53 w_1 M M := g_rf
  unfold f_X8_layDay_b220
  refine g_if (fun _ => ?_) (fun _ => ?_)
  · skip
    exact g_tM (hq122 (x2 + 1) M) g_id g_id hM
  · skip
    refine g_if (fun _ => ?_) (fun _ => ?_)
    · skip
      exact g_tM (hq122 (x2 + 1) M) g_id g_id hM
    · skip
      refine g_ov (fun r13 => ?_)
      refine g_ov (fun r14 => ?_)
      refine g_ov (fun r15 => ?_)
      refine g_ov (fun r16 => ?_)
      refine g_oM (g_X8_lay x2 r13 r14 r15 r16 M) (fun i j h => (h.elim (fun h => Or.inr (Or.inl (h))) (fun h => (h.elim (fun h => Or.inr (Or.inr (Or.inr (Or.inr (Or.inl (by omega)))))) (fun h => (h.elim (fun h => Or.inr (Or.inr (Or.inr (Or.inr (Or.inl (by omega)))))) (fun h => absurd h (Nat.lt_irrefl i)))))))) g_id hM (fun M17 hM17 => ?_)
      exact g_tM (hq122 (x2 + 1) M17) g_id g_id hM17
theorem g_X8_layDay_b188 (n : Nat) (x1 : Int32) (q122 : Int32 → m_M → Option m_M) (x2 : Int32) (x3 : Int32) (s0 : Int32) (M : m_M) (hq122 : ∀ (a0 : Int32) (M : m_M), q_H (q122 a0 M) (fun a => g_fr w_53 w_1 M a)) : q_H (f_X8_layDay_b188 n x1 q122 x2 x3 s0 M) (fun a => g_fr w_53 w_1 M a) := by
  have hM : g_fr w_53 w_1 M M := g_rf
  unfold f_X8_layDay_b188
  refine g_ov (fun r18 => ?_)
  refine g_if (fun _ => ?_) (fun _ => ?_)
  · skip
    refine g_gd (fun z1 => ?_)
    have y1 := g_lt z1
    refine g_bI hM (Or.inr (Or.inr (Or.inr (Or.inr (Or.inl (by omega)))))) (fun M21 hM21 => ?_)
    refine g_bI hM21 (Or.inl (by omega)) (fun M22 hM22 => ?_)
    exact g_tM (g_X8_layDay_b220 n x1 q122 x2 x3 s0 M22 hq122) g_id g_id hM22
  · skip
    exact g_tM (g_X8_layDay_b220 n x1 q122 x2 x3 s0 M hq122) g_id g_id hM
theorem g_X8_layDay_b173 (n : Nat) (x1 : Int32) (q122 : Int32 → m_M → Option m_M) (x2 : Int32) (x3 : Int32) (M : m_M) (hq122 : ∀ (a0 : Int32) (M : m_M), q_H (q122 a0 M) (fun a => g_fr w_53 w_1 M a)) : q_H (f_X8_layDay_b173 n x1 q122 x2 x3 M) (fun a => g_fr w_53 w_1 M a) := by
  have hM : g_fr w_53 w_1 M M := g_rf
  unfold f_X8_layDay_b173
  refine g_ov (fun r23 => ?_)
  refine g_if (fun _ => ?_) (fun _ => ?_)
  · skip
    exact g_tM (g_X8_layDay_b188 n x1 q122 x2 x3 0 M hq122) g_id g_id hM
  · skip
    exact g_tM (g_X8_layDay_b188 n x1 q122 x2 x3 1 M hq122) g_id g_id hM
theorem g_X8_layDay_b162 (n : Nat) (x1 : Int32) (q122 : Int32 → m_M → Option m_M) (x2 : Int32) (s0 : Int32) (M : m_M) (hq122 : ∀ (a0 : Int32) (M : m_M), q_H (q122 a0 M) (fun a => g_fr w_53 w_1 M a)) : q_H (f_X8_layDay_b162 n x1 q122 x2 s0 M) (fun a => g_fr w_53 w_1 M a) := by
  have hM : g_fr w_53 w_1 M M := g_rf
  unfold f_X8_layDay_b162
  refine g_bI hM (Or.inr (Or.inr (Or.inl (by omega)))) (fun M25 hM25 => ?_)
  exact g_tM (g_X8_layDay_b173 n x1 q122 x2 s0 M25 hq122) g_id g_id hM25
theorem g_X8_layDay_b122 (n : Nat) (x1 : Int32) : ∀ (u : Nat) (x2 : Int32) (M : m_M), q_H (f_X8_layDay_b122 n x1 u x2 M) (fun a => g_fr w_53 w_1 M a) := by
  intro u
  induction u with
  | zero => exact fun _ _ _ h => nomatch h
  | succ u ih =>
    intro x2 M
    have hM : g_fr w_53 w_1 M M := g_rf
    rw [f_X8_layDay_b122]
    refine g_bv (fun r26 => ?_)
    refine g_if (fun _ => ?_) (fun _ => ?_)
    · skip
      exact g_tM (g_X8_layDay_b266 n x1 n 0 M) g_id g_id hM
    · skip
      refine g_ov (fun r28 => ?_)
      refine g_if (fun _ => ?_) (fun _ => ?_)
      · skip
        refine g_if (fun _ => ?_) (fun _ => ?_)
        · skip
          exact g_tM (g_X8_layDay_b162 n x1 (f_X8_layDay_b122 n x1 u) x2 1 M ih) g_id g_id hM
        · skip
          exact g_tM (g_X8_layDay_b162 n x1 (f_X8_layDay_b122 n x1 u) x2 0 M ih) g_id g_id hM
      · skip
        exact g_tM (g_X8_layDay_b173 n x1 (f_X8_layDay_b122 n x1 u) x2 1 M ih) g_id g_id hM
theorem g_X8_layDay_b75 (n : Nat) (x1 : Int32) (q7 : Int32 → m_M → Option m_M) (hq7 : ∀ (a0 : Int32) (M : m_M), q_H (q7 a0 M) (fun a => g_fr w_53 w_1 M a)) : ∀ (u : Nat) (x2 : Int32) (x3 : Int32) (M : m_M), q_H (f_X8_layDay_b75 n x1 q7 u x2 x3 M) (fun a => g_fr w_53 w_1 M a) := by
  intro u
  induction u with
  | zero => exact fun _ _ _ _ h => nomatch h
  | succ u ih =>
    intro x2 x3 M
    have hM : g_fr w_53 w_1 M M := g_rf
    rw [f_X8_layDay_b75]
    refine g_if (fun _ => ?_) (fun _ => ?_)
    · skip
      exact g_tM (hq7 (x2 + 1) M) g_id g_id hM
    · skip
      refine g_gd (fun z1 => ?_)
      have y1 := g_lt z1
      refine g_bI hM (Or.inr (Or.inr (Or.inr (Or.inr (Or.inl (by omega)))))) (fun M33 hM33 => ?_)
      exact g_tM (ih x2 (x3 + 1) M33) g_id g_id hM33
theorem g_X8_layDay_b29 (n : Nat) (x1 : Int32) (q7 : Int32 → m_M → Option m_M) (hq7 : ∀ (a0 : Int32) (M : m_M), q_H (q7 a0 M) (fun a => g_fr w_53 w_1 M a)) : ∀ (u : Nat) (x2 : Int32) (x3 : Int32) (M : m_M), q_H (f_X8_layDay_b29 n x1 q7 u x2 x3 M) (fun a => g_fr w_53 w_1 M a) := by
  intro u
  induction u with
  | zero => exact fun _ _ _ _ h => nomatch h
  | succ u ih =>
    intro x2 x3 M
    have hM : g_fr w_53 w_1 M M := g_rf
    rw [f_X8_layDay_b29]
    refine g_if (fun _ => ?_) (fun _ => ?_)
    · skip
      exact g_tM (g_X8_layDay_b75 n x1 q7 hq7 n x2 0 M) g_id g_id hM
    · skip
      refine g_gd (fun z1 => ?_)
      have y1 := g_lt z1
      refine g_bI hM (Or.inr (Or.inr (Or.inr (Or.inr (Or.inl (by omega)))))) (fun M36 hM36 => ?_)
      refine g_bI hM36 (Or.inr (Or.inr (Or.inr (Or.inr (Or.inl (by omega)))))) (fun M37 hM37 => ?_)
      refine g_bI hM37 (Or.inr (Or.inr (Or.inr (Or.inr (Or.inl (by omega)))))) (fun M38 hM38 => ?_)
      exact g_tM (ih x2 (x3 + 1) M38) g_id g_id hM38
theorem g_X8_layDay_b7 (n : Nat) (x1 : Int32) : ∀ (u : Nat) (x2 : Int32) (M : m_M), q_H (f_X8_layDay_b7 n x1 u x2 M) (fun a => g_fr w_53 w_1 M a) := by
  intro u
  induction u with
  | zero => exact fun _ _ _ h => nomatch h
  | succ u ih =>
    intro x2 M
    have hM : g_fr w_53 w_1 M M := g_rf
    rw [f_X8_layDay_b7]
    refine g_if (fun _ => ?_) (fun _ => ?_)
    · skip
      refine g_bI hM (Or.inl (by omega)) (fun M40 hM40 => ?_)
      refine g_bI hM40 (Or.inr (Or.inl (by omega))) (fun M41 hM41 => ?_)
      refine g_bI hM41 (Or.inr (Or.inr (Or.inl (by omega)))) (fun M42 hM42 => ?_)
      exact g_tM (g_X8_layDay_b122 n x1 n 0 M42) g_id g_id hM42
    · skip
      refine g_gd (fun z1 => ?_)
      have y1 := g_lt z1
      refine g_bI hM (Or.inr (Or.inr (Or.inr (Or.inr (Or.inl (by omega)))))) (fun M44 hM44 => ?_)
      refine g_bI hM44 (Or.inr (Or.inr (Or.inr (Or.inr (Or.inl (by omega)))))) (fun M45 hM45 => ?_)
      exact g_tM (g_X8_layDay_b29 n x1 (f_X8_layDay_b7 n x1 u) ih n x2 0 M45) g_id g_id hM45
theorem g_X8_layDay (n : Nat) (x1 : Int32) (M : m_M) : q_H (f_X8_layDay n x1 M) (fun a => g_fr w_53 w_1 M a) := by
  have hM : g_fr w_53 w_1 M M := g_rf
  unfold f_X8_layDay
  refine g_bI hM (Or.inr (Or.inr (Or.inr (Or.inl (by omega))))) (fun M46 hM46 => ?_)
  exact g_tM (g_X8_layDay_b7 n x1 n 0 M46) g_id g_id hM46
theorem g_X8_isAsked (n : Nat) (x1 : Int32) (x2 : Int32) (M : m_M) : q_H (f_X8_isAsked n x1 x2 M) (fun a => g_fr w_54 w_1 M a.2) := by
  have hM : g_fr w_54 w_1 M M := g_rf
  unfold f_X8_isAsked
  refine g_bI hM (Or.inr (Or.inr (Or.inl (by omega)))) (fun M1 hM1 => ?_)
  refine g_oM (g_X8_layDay n 999 M1) (fun i j h => (h.elim (fun h => Or.inl (h)) (fun h => (h.elim (fun h => Or.inr (Or.inl (h))) (fun h => (h.elim (fun h => Or.inr (Or.inr (Or.inr (Or.inl (h))))) (fun h => (h.elim (fun h => Or.inr (Or.inr (Or.inr (Or.inr (Or.inl (h)))))) (fun h => (h.elim (fun h => Or.inr (Or.inr (Or.inr (Or.inr (Or.inr (Or.inl (h))))))) (fun h => absurd h (Nat.lt_irrefl i)))))))))))) g_id hM1 (fun M2 hM2 => ?_)
  refine g_bv (fun r3 => ?_)
  refine g_if (fun _ => ?_) (fun _ => ?_)
  · skip
    exact g_sp hM2
  · skip
    refine g_bv (fun r6 => ?_)
    refine g_if (fun _ => ?_) (fun _ => ?_)
    · skip
      exact g_sp hM2
    · skip
      exact g_sp hM2
theorem g_X8_digits_b7 (n : Nat) : ∀ (u : Nat) (x1 : Int32) (x2 : Int64) (M : m_M), q_H (f_X8_digits_b7 n u x1 x2 M) (fun a => g_fr w_55 w_1 M a.2) := by
  intro u
  induction u with
  | zero => exact fun _ _ _ _ h => nomatch h
  | succ u ih =>
    intro x1 x2 M
    have hM : g_fr w_55 w_1 M M := g_rf
    rw [f_X8_digits_b7]
    refine g_ov (fun r1 => ?_)
    refine g_if (fun _ => ?_) (fun _ => ?_)
    · skip
      exact g_sp hM
    · skip
      refine g_ov (fun r3 => ?_)
      refine g_bv (fun r4 => ?_)
      refine g_if (fun _ => ?_) (fun _ => ?_)
      · skip
        exact g_sp hM
      · skip
        refine g_if (fun _ => ?_) (fun _ => ?_)
        · skip
          refine g_bI hM (Or.inr (Or.inl (by omega))) (fun M11 hM11 => ?_)
          exact g_sp hM11
        · skip
          refine g_ov (fun r8 => ?_)
          refine g_bv (fun t9 => ?_)
          refine g_bI hM (Or.inl (by omega)) (fun M10 hM10 => ?_)
          exact g_tP (ih x1 t9 M10) g_id g_id hM10
theorem g_X8_digits (n : Nat) (M : m_M) : q_H (f_X8_digits n M) (fun a => g_fr w_55 w_1 M a.2) := by
  have hM : g_fr w_55 w_1 M M := g_rf
  unfold f_X8_digits
  exact g_tP (g_X8_digits_b7 n n (M.1 172 37) 0 M) g_id g_id hM
theorem g_X8_stands_b73 (n : Nat) (x1 : Int64) (x3 : Int64) (M : m_M) : q_H (f_X8_stands_b73 n x1 x3 M) (fun a => g_fr w_56 w_57 M a) := by
  have hM : g_fr w_56 w_57 M M := g_rf
  unfold f_X8_stands_b73
  refine g_gd (fun z1 => ?_)
  have y1 := g_lt z1
  refine g_bL hM (Or.inl (by omega)) (fun M2 hM2 => ?_)
  refine g_bI hM2 (Or.inl (by omega)) (fun M3 hM3 => ?_)
  exact g_sm hM3
theorem g_X8_stands_b59 (n : Nat) (x1 : Int64) (q2 : Int64 → m_M → Option m_M) (s0 : Int64) (M : m_M) (hq2 : ∀ (a0 : Int64) (M : m_M), q_H (q2 a0 M) (fun a => g_fr w_56 w_57 M a)) : q_H (f_X8_stands_b59 n x1 q2 s0 M) (fun a => g_fr w_56 w_57 M a) := by
  have hM : g_fr w_56 w_57 M M := g_rf
  unfold f_X8_stands_b59
  refine g_bI hM (Or.inr (Or.inl (by omega))) (fun M4 hM4 => ?_)
  exact g_tM (hq2 s0 M4) g_id g_id hM4
theorem g_X8_stands_b2 (n : Nat) (x1 : Int64) : ∀ (u : Nat) (x3 : Int64) (M : m_M), q_H (f_X8_stands_b2 n x1 u x3 M) (fun a => g_fr w_56 w_57 M a) := by
  intro u
  induction u with
  | zero => exact fun _ _ _ h => nomatch h
  | succ u ih =>
    intro x3 M
    have hM : g_fr w_56 w_57 M M := g_rf
    rw [f_X8_stands_b2]
    refine g_if (fun _ => ?_) (fun _ => ?_)
    · skip
      exact g_tM (g_X8_stands_b73 n x1 x3 M) g_id g_id hM
    · skip
      refine g_gd (fun z1 => ?_)
      have y1 := g_lt z1
      refine g_if (fun _ => ?_) (fun _ => ?_)
      · skip
        exact g_tM (g_X8_stands_b73 n x1 x3 M) g_id g_id hM
      · skip
        refine g_if (fun _ => ?_) (fun _ => ?_)
        · skip
          refine g_if (fun _ => ?_) (fun _ => ?_)
          · skip
            exact g_tM (g_X8_stands_b59 n x1 (f_X8_stands_b2 n x1 u) 1 M ih) g_id g_id hM
          · skip
            exact g_tM (g_X8_stands_b59 n x1 (f_X8_stands_b2 n x1 u) 0 M ih) g_id g_id hM
        · skip
          exact g_tM (g_X8_stands_b59 n x1 (f_X8_stands_b2 n x1 u) (-x3) M ih) g_id g_id hM
theorem g_X8_stands (n : Nat) (x1 : Int64) (M : m_M) : q_H (f_X8_stands n x1 M) (fun a => g_fr w_56 w_57 M a) := by
  have hM : g_fr w_56 w_57 M M := g_rf
  unfold f_X8_stands
  exact g_tM (g_X8_stands_b2 n x1 n x1 M) g_id g_id hM
theorem g_X8_workOut_b259 (x5 : Int64) (M : m_M) : q_H (f_X8_workOut_b259 x5 M) (fun a => g_fr w_56 w_57 M a) := by
  have hM : g_fr w_56 w_57 M M := g_rf
  unfold f_X8_workOut_b259
  refine g_gd (fun z1 => ?_)
  have y1 := g_lt z1
  refine g_bL hM (Or.inl (by omega)) (fun M2 hM2 => ?_)
  exact g_sm hM2
theorem g_X8_workOut (M : m_M) : q_H (f_X8_workOut M) (fun a => g_fr w_56 w_57 M a) := by
  have hM : g_fr w_56 w_57 M M := g_rf
  unfold f_X8_workOut
  refine g_bI hM (Or.inr (Or.inl (by omega))) (fun M3 hM3 => ?_)
  refine g_bI hM3 (Or.inl (by omega)) (fun M4 hM4 => ?_)
  refine g_gd (fun z1 => ?_)
  have y1 := g_lt z1
  refine g_bv (fun t6 => ?_)
  refine g_gd (fun z2 => ?_)
  have y2 := g_lt z2
  refine g_bv (fun t8 => ?_)
  refine g_gd (fun z3 => ?_)
  have y3 := g_lt z3
  refine g_if (fun _ => ?_) (fun _ => ?_)
  · skip
    refine g_if (fun _ => ?_) (fun _ => ?_)
    · skip
      exact g_tM (g_X8_workOut_b259 0 M4) g_id g_id hM4
    · skip
      refine g_if (fun _ => ?_) (fun _ => ?_)
      · skip
        exact g_tM (g_X8_workOut_b259 0 M4) g_id g_id hM4
      · skip
        exact g_tM (g_X8_workOut_b259 1 M4) g_id g_id hM4
  · skip
    refine g_if (fun _ => ?_) (fun _ => ?_)
    · skip
      exact g_tM (g_X8_workOut_b259 (t6 * t8) M4) g_id g_id hM4
    · skip
      refine g_if (fun _ => ?_) (fun _ => ?_)
      · skip
        exact g_tM (g_X8_workOut_b259 (t6 + t8) M4) g_id g_id hM4
      · skip
        refine g_if (fun _ => ?_) (fun _ => ?_)
        · skip
          exact g_tM (g_X8_workOut_b259 (t6 - t8) M4) g_id g_id hM4
        · skip
          refine g_if (fun _ => ?_) (fun _ => ?_)
          · skip
            refine g_if (fun _ => ?_) (fun _ => ?_)
            · skip
              exact g_tM (g_X8_workOut_b259 0 M4) g_id g_id hM4
            · skip
              exact g_tM (g_X8_workOut_b259 1 M4) g_id g_id hM4
          · skip
            refine g_if (fun _ => ?_) (fun _ => ?_)
            · skip
              refine g_if (fun _ => ?_) (fun _ => ?_)
              · skip
                exact g_tM (g_X8_workOut_b259 1 M4) g_id g_id hM4
              · skip
                exact g_tM (g_X8_workOut_b259 0 M4) g_id g_id hM4
            · skip
              refine g_if (fun _ => ?_) (fun _ => ?_)
              · skip
                refine g_if (fun _ => ?_) (fun _ => ?_)
                · skip
                  exact g_tM (g_X8_workOut_b259 0 M4) g_id g_id hM4
                · skip
                  exact g_tM (g_X8_workOut_b259 1 M4) g_id g_id hM4
              · skip
                refine g_if (fun _ => ?_) (fun _ => ?_)
                · skip
                  refine g_if (fun _ => ?_) (fun _ => ?_)
                  · skip
                    refine g_if (fun _ => ?_) (fun _ => ?_)
                    · skip
                      exact g_tM (g_X8_workOut_b259 0 M4) g_id g_id hM4
                    · skip
                      exact g_tM (g_X8_workOut_b259 1 M4) g_id g_id hM4
                  · skip
                    exact g_tM (g_X8_workOut_b259 1 M4) g_id g_id hM4
                · skip
                  refine g_if (fun _ => ?_) (fun _ => ?_)
                  · skip
                    exact g_tM (g_X8_workOut_b259 0 M4) g_id g_id hM4
                  · skip
                    refine g_gd (fun _ => ?_)
                    exact g_tM (g_X8_workOut_b259 (t6 / t8) M4) g_id g_id hM4
theorem g_X8_workDown_b0 (n : Nat) (x1 : Int32) : ∀ (u : Nat) (M : m_M), q_H (f_X8_workDown_b0 n x1 u M) (fun a => g_fr w_56 w_57 M a) := by
  intro u
  induction u with
  | zero => exact fun _ _ h => nomatch h
  | succ u ih =>
    intro M
    have hM : g_fr w_56 w_57 M M := g_rf
    rw [f_X8_workDown_b0]
    refine g_if (fun _ => ?_) (fun _ => ?_)
    · skip
      exact g_sm hM
    · skip
      refine g_gd (fun z1 => ?_)
      have y1 := g_lt z1
      refine g_if (fun _ => ?_) (fun _ => ?_)
      · skip
        exact g_sm hM
      · skip
        refine g_bv (fun r4 => ?_)
        refine g_if (fun _ => ?_) (fun _ => ?_)
        · skip
          exact g_sm hM
        · skip
          refine g_oM (g_X8_workOut M) g_id g_id hM (fun M6 hM6 => ?_)
          exact g_tM (ih M6) g_id g_id hM6
theorem g_X8_workDown (n : Nat) (x1 : Int32) (M : m_M) : q_H (f_X8_workDown n x1 M) (fun a => g_fr w_56 w_57 M a) := by
  have hM : g_fr w_56 w_57 M M := g_rf
  unfold f_X8_workDown
  refine g_if (fun _ => ?_) (fun _ => ?_)
  · skip
    exact g_sm hM
  · skip
    refine g_gd (fun z1 => ?_)
    have y1 := g_lt z1
    refine g_if (fun _ => ?_) (fun _ => ?_)
    · skip
      exact g_sm hM
    · skip
      refine g_bv (fun r10 => ?_)
      refine g_if (fun _ => ?_) (fun _ => ?_)
      · skip
        exact g_sm hM
      · skip
        refine g_oM (g_X8_workOut M) g_id g_id hM (fun M12 hM12 => ?_)
        exact g_tM (g_X8_workDown_b0 n x1 n M12) g_id g_id hM12
theorem g_X8_reads_b500 (n : Nat) (s1 : Int64) (M : m_M) : q_H (f_X8_reads_b500 n s1 M) (fun a => g_fr w_58 w_59 M a.2) := by
  have hM : g_fr w_58 w_59 M M := g_rf
  unfold f_X8_reads_b500
  refine g_bL hM (Or.inl (by omega)) (fun M1 hM1 => ?_)
  refine g_if (fun _ => ?_) (fun _ => ?_)
  · skip
    exact g_sp hM1
  · skip
    exact g_sp hM1
theorem g_X8_reads_b481 (n : Nat) (M : m_M) : q_H (f_X8_reads_b481 n M) (fun a => g_fr w_58 w_59 M a.2) := by
  have hM : g_fr w_58 w_59 M M := g_rf
  unfold f_X8_reads_b481
  refine g_if (fun _ => ?_) (fun _ => ?_)
  · skip
    exact g_tP (g_X8_reads_b500 n (M.2 192 0) M) g_id g_id hM
  · skip
    exact g_tP (g_X8_reads_b500 n 0 M) g_id g_id hM
theorem g_X8_reads_b465 (n : Nat) (q26 : Int32 → Int32 → Int32 → m_M → Option (Int32 × m_M)) (x1 : Int32) (x2 : Int32) (x3 : Int32) (M : m_M) (hq26 : ∀ (a0 : Int32) (a1 : Int32) (a2 : Int32) (M : m_M), q_H (q26 a0 a1 a2 M) (fun a => g_fr w_58 w_59 M a.2)) : q_H (f_X8_reads_b465 n q26 x1 x2 x3 M) (fun a => g_fr w_58 w_59 M a.2) := by
  have hM : g_fr w_58 w_59 M M := g_rf
  unfold f_X8_reads_b465
  refine g_bI hM (Or.inr (Or.inl (by omega))) (fun M4 hM4 => ?_)
  exact g_tP (hq26 x1 x2 x3 M4) g_id g_id hM4
theorem g_X8_reads_b409 (n : Nat) (q26 : Int32 → Int32 → Int32 → m_M → Option (Int32 × m_M)) (x1 : Int32) (x3 : Int32) (x4 : Int32) (M : m_M) (hq26 : ∀ (a0 : Int32) (a1 : Int32) (a2 : Int32) (M : m_M), q_H (q26 a0 a1 a2 M) (fun a => g_fr w_58 w_59 M a.2)) : q_H (f_X8_reads_b409 n q26 x1 x3 x4 M) (fun a => g_fr w_58 w_59 M a.2) := by
  have hM : g_fr w_58 w_59 M M := g_rf
  unfold f_X8_reads_b409
  refine g_bI hM (Or.inl (by omega)) (fun M5 hM5 => ?_)
  refine g_gd (fun z1 => ?_)
  have y1 := g_lt z1
  refine g_bI hM5 (Or.inr (Or.inr (Or.inr (Or.inr (Or.inl (by omega)))))) (fun M7 hM7 => ?_)
  refine g_bI hM7 (Or.inr (Or.inr (Or.inr (Or.inl (by omega))))) (fun M8 hM8 => ?_)
  exact g_tP (hq26 x1 1 x3 M8) g_id g_id hM8
theorem g_X8_reads_b339 (n : Nat) (q26 : Int32 → Int32 → Int32 → m_M → Option (Int32 × m_M)) (x1 : Int32) (x2 : Int32) (x3 : Int32) (x4 : Int32) (s1 : Int32) (M : m_M) (hq26 : ∀ (a0 : Int32) (a1 : Int32) (a2 : Int32) (M : m_M), q_H (q26 a0 a1 a2 M) (fun a => g_fr w_58 w_59 M a.2)) : q_H (f_X8_reads_b339 n q26 x1 x2 x3 x4 s1 M) (fun a => g_fr w_58 w_59 M a.2) := by
  have hM : g_fr w_58 w_59 M M := g_rf
  unfold f_X8_reads_b339
  refine g_oM (g_X8_workDown n s1 M) (fun i j h => (h.elim (fun h => Or.inr (Or.inr (Or.inl (h)))) (fun h => (h.elim (fun h => Or.inr (Or.inr (Or.inr (Or.inl (h))))) (fun h => absurd h (Nat.lt_irrefl i)))))) (fun i j h => (h.elim (fun h => Or.inr (Or.inl (h))) (fun h => absurd h (Nat.lt_irrefl i)))) hM (fun M9 hM9 => ?_)
  refine g_bv (fun r10 => ?_)
  refine g_if (fun _ => ?_) (fun _ => ?_)
  · skip
    refine g_if (fun _ => ?_) (fun _ => ?_)
    · skip
      exact g_tP (g_X8_reads_b409 n q26 x1 x3 x4 M9 hq26) g_id g_id hM9
    · skip
      refine g_gd (fun z1 => ?_)
      have y1 := g_lt z1
      refine g_if (fun _ => ?_) (fun _ => ?_)
      · skip
        exact g_tP (g_X8_reads_b409 n q26 x1 x3 x4 M9 hq26) g_id g_id hM9
      · skip
        refine g_bv (fun r15 => ?_)
        refine g_if (fun _ => ?_) (fun _ => ?_)
        · skip
          refine g_bI hM9 (Or.inr (Or.inl (by omega))) (fun M17 hM17 => ?_)
          exact g_tP (hq26 x1 x2 x3 M17) g_id g_id hM17
        · skip
          exact g_tP (g_X8_reads_b409 n q26 x1 x3 x4 M9 hq26) g_id g_id hM9
  · skip
    exact g_tP (g_X8_reads_b409 n q26 x1 x3 x4 M9 hq26) g_id g_id hM9
