/-! FRAMES 5 -/
theorem g_X8_isRest_b2 (n : Nat) (x1 : Int32) : ∀ (u : Nat) (x2 : Int32) (M : m_M), q_H (f_X8_isRest_b2 n x1 u x2 M) (fun a => g_fr w_71 w_65 M a.2) := by
  intro u
  induction u with
  | zero => exact fun _ _ _ h => nomatch h
  | succ u ih =>
    intro x2 M
    have hM : g_fr w_71 w_65 M M := g_rf
    rw [f_X8_isRest_b2]
    refine g_bv (fun r9 => ?_)
    refine g_if (fun _ => ?_) (fun _ => ?_)
    · skip
      exact g_tP (g_X8_isRest_b37 n x1 n 0 M) g_id g_id hM
    · skip
      refine g_if (fun _ => ?_) (fun _ => ?_)
      · skip
        refine g_ov (fun r12 => ?_)
        refine g_if (fun _ => ?_) (fun _ => ?_)
        · skip
          exact g_sp hM
        · skip
          exact g_tP (ih (x2 + 1) M) g_id g_id hM
      · skip
        exact g_tP (ih (x2 + 1) M) g_id g_id hM
theorem g_X8_isRest (n : Nat) (x1 : Int32) (M : m_M) : q_H (f_X8_isRest n x1 M) (fun a => g_fr w_71 w_65 M a.2) := by
  have hM : g_fr w_71 w_65 M M := g_rf
  unfold f_X8_isRest
  exact g_tP (g_X8_isRest_b2 n x1 n 0 M) g_id g_id hM
theorem g_X8_layLine_b99 (n : Nat) (x1 : Int32) (q7 : Int32 → m_M → Option m_M) (x2 : Int32) (s1 : Int32) (s2 : Int32) (M : m_M) (hq7 : ∀ (a0 : Int32) (M : m_M), q_H (q7 a0 M) (fun a => g_fr w_74 w_61 M a)) : q_H (f_X8_layLine_b99 n x1 q7 x2 s1 s2 M) (fun a => g_fr w_74 w_61 M a) := by
  have hM : g_fr w_74 w_61 M M := g_rf
  unfold f_X8_layLine_b99
  refine g_gd (fun z1 => ?_)
  have y1 := g_lt z1
  refine g_bI hM (Or.inr (Or.inr (Or.inr (Or.inr (Or.inr (Or.inr (Or.inr (Or.inr (Or.inr (Or.inr (Or.inr (Or.inr (Or.inl (by omega)))))))))))))) (fun M2 hM2 => ?_)
  refine g_gd (fun z2 => ?_)
  have y2 := g_lt z2
  refine g_bI hM2 (Or.inr (Or.inr (Or.inr (Or.inr (Or.inr (Or.inr (Or.inr (Or.inr (Or.inr (Or.inr (Or.inr (Or.inr (Or.inr (Or.inl (by omega))))))))))))))) (fun M4 hM4 => ?_)
  exact g_tM (hq7 (x2 + 1) M4) g_id g_id hM4
theorem g_X8_layLine_b79 (n : Nat) (x1 : Int32) (q7 : Int32 → m_M → Option m_M) (x2 : Int32) (x3 : Int32) (x4 : Int32) (s1 : Int32) (s2 : Int32) (M : m_M) (hq7 : ∀ (a0 : Int32) (M : m_M), q_H (q7 a0 M) (fun a => g_fr w_74 w_61 M a)) : q_H (f_X8_layLine_b79 n x1 q7 x2 x3 x4 s1 s2 M) (fun a => g_fr w_74 w_61 M a) := by
  have hM : g_fr w_74 w_61 M M := g_rf
  unfold f_X8_layLine_b79
  refine g_gd (fun z1 => ?_)
  have y1 := g_lt z1
  refine g_bI hM (Or.inr (Or.inr (Or.inr (Or.inr (Or.inr (Or.inr (Or.inr (Or.inr (Or.inr (Or.inr (Or.inr (Or.inr (Or.inl (by omega)))))))))))))) (fun M6 hM6 => ?_)
  refine g_if (fun _ => ?_) (fun _ => ?_)
  · skip
    exact g_tM (g_X8_layLine_b99 n x1 q7 x2 x2 0 M6 hq7) g_id g_id hM6
  · skip
    refine g_ov (fun r8 => ?_)
    exact g_tM (g_X8_layLine_b99 n x1 q7 x2 x2 r8 M6 hq7) g_id g_id hM6
theorem g_X8_layLine_b47 (n : Nat) (x1 : Int32) (q7 : Int32 → m_M → Option m_M) (x2 : Int32) (x3 : Int32) (s0 : Int32) (M : m_M) (hq7 : ∀ (a0 : Int32) (M : m_M), q_H (q7 a0 M) (fun a => g_fr w_74 w_61 M a)) : q_H (f_X8_layLine_b47 n x1 q7 x2 x3 s0 M) (fun a => g_fr w_74 w_61 M a) := by
  have hM : g_fr w_74 w_61 M M := g_rf
  unfold f_X8_layLine_b47
  refine g_if (fun _ => ?_) (fun _ => ?_)
  · skip
    exact g_tM (g_X8_layLine_b79 n x1 q7 x2 x3 s0 x2 0 M hq7) g_id g_id hM
  · skip
    refine g_ov (fun r10 => ?_)
    refine g_ov (fun r11 => ?_)
    refine g_o2 (g_X8_netOf n r10 0 0 r11 M) (fun i j h => (h.elim (fun h => Or.inr (Or.inr (Or.inr (Or.inr (Or.inr (Or.inl (h))))))) (fun h => (h.elim (fun h => Or.inr (Or.inr (Or.inr (Or.inr (Or.inr (Or.inr (Or.inl (h)))))))) (fun h => (h.elim (fun h => Or.inr (Or.inr (Or.inr (Or.inr (Or.inr (Or.inr (Or.inr (Or.inl (h))))))))) (fun h => (h.elim (fun h => Or.inr (Or.inr (Or.inr (Or.inr (Or.inr (Or.inr (Or.inr (Or.inr (Or.inl (h)))))))))) (fun h => (h.elim (fun h => Or.inr (Or.inr (Or.inr (Or.inr (Or.inr (Or.inr (Or.inr (Or.inr (Or.inr (Or.inl (h))))))))))) (fun h => (h.elim (fun h => Or.inr (Or.inr (Or.inr (Or.inr (Or.inr (Or.inr (Or.inr (Or.inr (Or.inr (Or.inr (Or.inr (Or.inl (h))))))))))))) (fun h => absurd h (Nat.lt_irrefl i)))))))))))))) g_id hM (fun r12 M13 hM13 => ?_)
    exact g_tM (g_X8_layLine_b79 n x1 q7 x2 x3 s0 x2 r12 M13 hq7) g_id g_id hM13
theorem g_X8_layLine_b7 (n : Nat) (x1 : Int32) : ∀ (u : Nat) (x2 : Int32) (M : m_M), q_H (f_X8_layLine_b7 n x1 u x2 M) (fun a => g_fr w_74 w_61 M a) := by
  intro u
  induction u with
  | zero => exact fun _ _ _ h => nomatch h
  | succ u ih =>
    intro x2 M
    have hM : g_fr w_74 w_61 M M := g_rf
    rw [f_X8_layLine_b7]
    refine g_bv (fun r14 => ?_)
    refine g_if (fun _ => ?_) (fun _ => ?_)
    · skip
      exact g_sm hM
    · skip
      refine g_gd (fun z1 => ?_)
      have y1 := g_lt z1
      refine g_bv (fun t17 => ?_)
      refine g_ov (fun r18 => ?_)
      refine g_if (fun _ => ?_) (fun _ => ?_)
      · skip
        exact g_tM (g_X8_layLine_b47 n x1 (f_X8_layLine_b7 n x1 u) x2 t17 0 M ih) g_id g_id hM
      · skip
        refine g_ov (fun r21 => ?_)
        refine g_if (fun _ => ?_) (fun _ => ?_)
        · skip
          exact g_tM (g_X8_layLine_b47 n x1 (f_X8_layLine_b7 n x1 u) x2 t17 0 M ih) g_id g_id hM
        · skip
          exact g_tM (g_X8_layLine_b47 n x1 (f_X8_layLine_b7 n x1 u) x2 t17 1 M ih) g_id g_id hM
theorem g_X8_layLine (n : Nat) (x1 : Int32) (M : m_M) : q_H (f_X8_layLine n x1 M) (fun a => g_fr w_74 w_61 M a) := by
  have hM : g_fr w_74 w_61 M M := g_rf
  unfold f_X8_layLine
  refine g_oM (g_X8_layToday n x1 M) (fun i j h => (h.elim (fun h => Or.inl (h)) (fun h => (h.elim (fun h => Or.inr (Or.inl (h))) (fun h => (h.elim (fun h => Or.inr (Or.inr (Or.inl (h)))) (fun h => (h.elim (fun h => Or.inr (Or.inr (Or.inr (Or.inl (h))))) (fun h => (h.elim (fun h => Or.inr (Or.inr (Or.inr (Or.inr (Or.inl (h)))))) (fun h => (h.elim (fun h => Or.inr (Or.inr (Or.inr (Or.inr (Or.inr (Or.inl (h))))))) (fun h => (h.elim (fun h => Or.inr (Or.inr (Or.inr (Or.inr (Or.inr (Or.inr (Or.inl (h)))))))) (fun h => (h.elim (fun h => Or.inr (Or.inr (Or.inr (Or.inr (Or.inr (Or.inr (Or.inr (Or.inl (h))))))))) (fun h => (h.elim (fun h => Or.inr (Or.inr (Or.inr (Or.inr (Or.inr (Or.inr (Or.inr (Or.inr (Or.inl (h)))))))))) (fun h => (h.elim (fun h => Or.inr (Or.inr (Or.inr (Or.inr (Or.inr (Or.inr (Or.inr (Or.inr (Or.inr (Or.inl (h))))))))))) (fun h => (h.elim (fun h => Or.inr (Or.inr (Or.inr (Or.inr (Or.inr (Or.inr (Or.inr (Or.inr (Or.inr (Or.inr (Or.inl (h)))))))))))) (fun h => (h.elim (fun h => Or.inr (Or.inr (Or.inr (Or.inr (Or.inr (Or.inr (Or.inr (Or.inr (Or.inr (Or.inr (Or.inr (Or.inl (h))))))))))))) (fun h => (h.elim (fun h => Or.inr (Or.inr (Or.inr (Or.inr (Or.inr (Or.inr (Or.inr (Or.inr (Or.inr (Or.inr (Or.inr (Or.inr (Or.inl (by omega)))))))))))))) (fun h => absurd h (Nat.lt_irrefl i)))))))))))))))))))))))))))) g_id hM (fun M24 hM24 => ?_)
  exact g_tM (g_X8_layLine_b7 n x1 n 0 M24) g_id g_id hM24
theorem g_X8_line_b26 (n : Nat) (x1 : Int32) : ∀ (u : Nat) (x2 : Int32) (M : m_M), q_H (f_X8_line_b26 n x1 u x2 M) (fun a => g_fr w_75 w_1 M a.2) := by
  intro u
  induction u with
  | zero => exact fun _ _ _ h => nomatch h
  | succ u ih =>
    intro x2 M
    have hM : g_fr w_75 w_1 M M := g_rf
    rw [f_X8_line_b26]
    refine g_bv (fun r1 => ?_)
    refine g_if (fun _ => ?_) (fun _ => ?_)
    · skip
      refine g_bv (fun r3 => ?_)
      refine g_if (fun _ => ?_) (fun _ => ?_)
      · skip
        exact g_sp hM
      · skip
        refine g_bv (fun r5 => ?_)
        refine g_gd (fun z1 => ?_)
        have y1 := g_lt z1
        refine g_bI hM (Or.inr (Or.inr (Or.inr (Or.inr (Or.inr (Or.inl (by omega))))))) (fun M7 hM7 => ?_)
        refine g_bI hM7 (Or.inr (Or.inr (Or.inr (Or.inr (Or.inr (Or.inl (by omega))))))) (fun M8 hM8 => ?_)
        refine g_bv (fun r9 => ?_)
        exact g_sp hM8
    · skip
      refine g_gd (fun z2 => ?_)
      have y2 := g_lt z2
      refine g_if (fun _ => ?_) (fun _ => ?_)
      · skip
        exact g_sp hM
      · skip
        exact g_tP (ih (x2 + 1) M) g_id g_id hM
theorem g_X8_line (n : Nat) (x1 : Int32) (M : m_M) : q_H (f_X8_line n x1 M) (fun a => g_fr w_75 w_1 M a.2) := by
  have hM : g_fr w_75 w_1 M M := g_rf
  unfold f_X8_line
  refine g_bI hM (Or.inr (Or.inr (Or.inl (by omega)))) (fun M12 hM12 => ?_)
  refine g_oM (g_X8_layDay n 999 M12) (fun i j h => (h.elim (fun h => Or.inl (h)) (fun h => (h.elim (fun h => Or.inr (Or.inl (h))) (fun h => (h.elim (fun h => Or.inr (Or.inr (Or.inr (Or.inl (h))))) (fun h => (h.elim (fun h => Or.inr (Or.inr (Or.inr (Or.inr (Or.inl (h)))))) (fun h => (h.elim (fun h => Or.inr (Or.inr (Or.inr (Or.inr (Or.inr (Or.inr (Or.inl (h)))))))) (fun h => absurd h (Nat.lt_irrefl i)))))))))))) g_id hM12 (fun M13 hM13 => ?_)
  refine g_bv (fun r14 => ?_)
  refine g_if (fun _ => ?_) (fun _ => ?_)
  · skip
    exact g_sp hM13
  · skip
    exact g_tP (g_X8_line_b26 n x1 n 0 M13) g_id g_id hM13
theorem g_X8_look_b282 (n : Nat) (x1 : Int32) (M : m_M) : q_H (f_X8_look_b282 n x1 M) (fun a => g_fr w_76 w_1 M a) := by
  have hM : g_fr w_76 w_1 M M := g_rf
  unfold f_X8_look_b282
  refine g_if (fun _ => ?_) (fun _ => ?_)
  · skip
    refine g_if (fun _ => ?_) (fun _ => ?_)
    · skip
      refine g_bI hM (Or.inr (Or.inr (Or.inl (by omega)))) (fun M4 hM4 => ?_)
      exact g_sm hM4
    · skip
      refine g_bI hM (Or.inr (Or.inr (Or.inl (by omega)))) (fun M5 hM5 => ?_)
      exact g_sm hM5
  · skip
    refine g_bI hM (Or.inr (Or.inr (Or.inl (by omega)))) (fun M2 hM2 => ?_)
    exact g_sm hM2
theorem g_X8_look_b222 (n : Nat) (x1 : Int32) : ∀ (u : Nat) (x3 : Int32) (M : m_M), q_H (f_X8_look_b222 n x1 u x3 M) (fun a => g_fr w_76 w_1 M a) := by
  intro u
  induction u with
  | zero => exact fun _ _ _ h => nomatch h
  | succ u ih =>
    intro x3 M
    have hM : g_fr w_76 w_1 M M := g_rf
    rw [f_X8_look_b222]
    refine g_if (fun _ => ?_) (fun _ => ?_)
    · skip
      exact g_tM (g_X8_look_b282 n x1 M) g_id g_id hM
    · skip
      refine g_if (fun _ => ?_) (fun _ => ?_)
      · skip
        refine g_if (fun _ => ?_) (fun _ => ?_)
        · skip
          refine g_bI hM (Or.inr (Or.inr (Or.inr (Or.inl (by omega))))) (fun M9 hM9 => ?_)
          exact g_tM (ih (x3 + 1) M9) g_id g_id hM9
        · skip
          refine g_gd (fun z1 => ?_)
          have y1 := g_lt z1
          refine g_bI hM (Or.inr (Or.inr (Or.inr (Or.inl (by omega))))) (fun M11 hM11 => ?_)
          exact g_tM (ih (x3 + 1) M11) g_id g_id hM11
      · skip
        exact g_tM (g_X8_look_b282 n x1 M) g_id g_id hM
theorem g_X8_look_b207 (n : Nat) (x1 : Int32) (q132 : m_M → Option m_M) (M : m_M) (hq132 : ∀ (M : m_M), q_H (q132 M) (fun a => g_fr w_76 w_1 M a)) : q_H (f_X8_look_b207 n x1 q132 M) (fun a => g_fr w_76 w_1 M a) := by
  have hM : g_fr w_76 w_1 M M := g_rf
  unfold f_X8_look_b207
  refine g_bI hM (Or.inr (Or.inl (by omega))) (fun M12 hM12 => ?_)
  exact g_tM (hq132 M12) g_id g_id hM12
theorem g_X8_look_b132 (n : Nat) (x1 : Int32) : ∀ (u : Nat) (M : m_M), q_H (f_X8_look_b132 n x1 u M) (fun a => g_fr w_76 w_1 M a) := by
  intro u
  induction u with
  | zero => exact fun _ _ h => nomatch h
  | succ u ih =>
    intro M
    have hM : g_fr w_76 w_1 M M := g_rf
    rw [f_X8_look_b132]
    refine g_if (fun _ => ?_) (fun _ => ?_)
    · skip
      exact g_tM (g_X8_look_b222 n x1 n 0 M) g_id g_id hM
    · skip
      refine g_if (fun _ => ?_) (fun _ => ?_)
      · skip
        exact g_tM (g_X8_look_b222 n x1 n 0 M) g_id g_id hM
      · skip
        refine g_if (fun _ => ?_) (fun _ => ?_)
        · skip
          refine g_gd (fun z1 => ?_)
          have y1 := g_lt z1
          refine g_bv (fun r21 => ?_)
          refine g_if (fun _ => ?_) (fun _ => ?_)
          · skip
            exact g_tM (g_X8_look_b222 n x1 n 0 M) g_id g_id hM
          · skip
            exact g_tM (g_X8_look_b207 n x1 (f_X8_look_b132 n x1 u) M ih) g_id g_id hM
        · skip
          refine g_gd (fun z2 => ?_)
          have y2 := g_lt z2
          refine g_bv (fun r17 => ?_)
          refine g_if (fun _ => ?_) (fun _ => ?_)
          · skip
            exact g_tM (g_X8_look_b222 n x1 n 0 M) g_id g_id hM
          · skip
            exact g_tM (g_X8_look_b207 n x1 (f_X8_look_b132 n x1 u) M ih) g_id g_id hM
theorem g_X8_look_b43 (n : Nat) (x1 : Int32) (M : m_M) : q_H (f_X8_look_b43 n x1 M) (fun a => g_fr w_76 w_1 M a) := by
  have hM : g_fr w_76 w_1 M M := g_rf
  unfold f_X8_look_b43
  refine g_bI hM (Or.inr (Or.inl (by omega))) (fun M24 hM24 => ?_)
  refine g_bI hM24 (Or.inr (Or.inr (Or.inr (Or.inl (by omega))))) (fun M25 hM25 => ?_)
  refine g_if (fun _ => ?_) (fun _ => ?_)
  · skip
    refine g_bI hM25 (Or.inr (Or.inr (Or.inl (by omega)))) (fun M43 hM43 => ?_)
    exact g_sm hM43
  · skip
    refine g_gd (fun z1 => ?_)
    have y1 := g_lt z1
    refine g_bv (fun t28 => ?_)
    refine g_bI hM25 (Or.inr (Or.inl (by omega))) (fun M29 hM29 => ?_)
    refine g_bv (fun r30 => ?_)
    refine g_if (fun _ => ?_) (fun _ => ?_)
    · skip
      refine g_bv (fun r33 => ?_)
      refine g_if (fun _ => ?_) (fun _ => ?_)
      · skip
        refine g_if (fun _ => ?_) (fun _ => ?_)
        · skip
          refine g_bI hM29 (Or.inr (Or.inr (Or.inl (by omega)))) (fun M40 hM40 => ?_)
          exact g_tM (g_X8_look_b132 n x1 n M40) g_id g_id hM40
        · skip
          refine g_if (fun _ => ?_) (fun _ => ?_)
          · skip
            refine g_bI hM29 (Or.inr (Or.inr (Or.inl (by omega)))) (fun M39 hM39 => ?_)
            exact g_tM (g_X8_look_b132 n x1 n M39) g_id g_id hM39
          · skip
            refine g_bI hM29 (Or.inr (Or.inr (Or.inl (by omega)))) (fun M38 hM38 => ?_)
            exact g_tM (g_X8_look_b132 n x1 n M38) g_id g_id hM38
      · skip
        refine g_bI hM29 (Or.inr (Or.inr (Or.inl (by omega)))) (fun M41 hM41 => ?_)
        exact g_tM (g_X8_look_b132 n x1 n M41) g_id g_id hM41
    · skip
      refine g_bI hM29 (Or.inr (Or.inr (Or.inl (by omega)))) (fun M42 hM42 => ?_)
      exact g_tM (g_X8_look_b132 n x1 n M42) g_id g_id hM42
theorem g_X8_look_b5 (n : Nat) (x1 : Int32) : ∀ (u : Nat) (M : m_M), q_H (f_X8_look_b5 n x1 u M) (fun a => g_fr w_76 w_1 M a) := by
  intro u
  induction u with
  | zero => exact fun _ _ h => nomatch h
  | succ u ih =>
    intro M
    have hM : g_fr w_76 w_1 M M := g_rf
    rw [f_X8_look_b5]
    refine g_if (fun _ => ?_) (fun _ => ?_)
    · skip
      exact g_tM (g_X8_look_b43 n x1 M) g_id g_id hM
    · skip
      refine g_gd (fun z1 => ?_)
      have y1 := g_lt z1
      refine g_if (fun _ => ?_) (fun _ => ?_)
      · skip
        refine g_bI hM (Or.inl (by omega)) (fun M47 hM47 => ?_)
        exact g_tM (ih M47) g_id g_id hM47
      · skip
        exact g_tM (g_X8_look_b43 n x1 M) g_id g_id hM
theorem g_X8_look (n : Nat) (x1 : Int32) (M : m_M) : q_H (f_X8_look n x1 M) (fun a => g_fr w_76 w_1 M a) := by
  have hM : g_fr w_76 w_1 M M := g_rf
  unfold f_X8_look
  refine g_bI hM (Or.inl (by omega)) (fun M48 hM48 => ?_)
  exact g_tM (g_X8_look_b5 n x1 n M48) g_id g_id hM48
theorem g_X8_net (n : Nat) (x1 : Int32) (x2 : Int32) (x3 : Int32) (M : m_M) : q_H (f_X8_net n x1 x2 x3 M) (fun a => g_fr w_64 w_61 M a.2) := by
  have hM : g_fr w_64 w_61 M M := g_rf
  unfold f_X8_net
  refine g_bv (fun r1 => ?_)
  refine g_if (fun _ => ?_) (fun _ => ?_)
  · skip
    exact g_sp hM
  · skip
    refine g_bv (fun r4 => ?_)
    refine g_if (fun _ => ?_) (fun _ => ?_)
    · skip
      exact g_sp hM
    · skip
      refine g_bv (fun r7 => ?_)
      refine g_if (fun _ => ?_) (fun _ => ?_)
      · skip
        exact g_sp hM
      · skip
        refine g_oM (g_X8_layToday n x3 M) g_id g_id hM (fun M10 hM10 => ?_)
        refine g_o2 (g_X8_netOf n x1 x2 0 0 M10) (fun i j h => (h.elim (fun h => Or.inr (Or.inr (Or.inr (Or.inr (Or.inr (Or.inl (h))))))) (fun h => (h.elim (fun h => Or.inr (Or.inr (Or.inr (Or.inr (Or.inr (Or.inr (Or.inl (h)))))))) (fun h => (h.elim (fun h => Or.inr (Or.inr (Or.inr (Or.inr (Or.inr (Or.inr (Or.inr (Or.inl (h))))))))) (fun h => (h.elim (fun h => Or.inr (Or.inr (Or.inr (Or.inr (Or.inr (Or.inr (Or.inr (Or.inr (Or.inl (h)))))))))) (fun h => (h.elim (fun h => Or.inr (Or.inr (Or.inr (Or.inr (Or.inr (Or.inr (Or.inr (Or.inr (Or.inr (Or.inl (h))))))))))) (fun h => (h.elim (fun h => Or.inr (Or.inr (Or.inr (Or.inr (Or.inr (Or.inr (Or.inr (Or.inr (Or.inr (Or.inr (Or.inr (Or.inl (h))))))))))))) (fun h => absurd h (Nat.lt_irrefl i)))))))))))))) g_id hM10 (fun r11 M12 hM12 => ?_)
        exact g_sp hM12
theorem g_X8_next (n : Nat) (M : m_M) : q_H (f_X8_next n M) (fun a => g_fr w_76 w_1 M a) := by
  have hM : g_fr w_76 w_1 M M := g_rf
  unfold f_X8_next
  refine g_oM (g_X8_look n ((M.1 172 27) + (M.1 172 28)) M) g_id g_id hM (fun M1 hM1 => ?_)
  exact g_sm hM1
theorem g_X8_swap (x1 : Int32) (x2 : Int32) (M : m_M) : q_H (f_X8_swap x1 x2 M) (fun a => g_fr w_77 w_1 M a) := by
  have hM : g_fr w_77 w_1 M M := g_rf
  unfold f_X8_swap
  refine g_gd (fun z1 => ?_)
  have y1 := g_lt z1
  refine g_gd (fun z2 => ?_)
  have y2 := g_lt z2
  refine g_bI hM (Or.inl (by omega)) (fun M3 hM3 => ?_)
  refine g_bI hM3 (Or.inl (by omega)) (fun M4 hM4 => ?_)
  exact g_sm hM4
theorem g_X8_nextOrder_b86 (n : Nat) : ∀ (u : Nat) (x3 : Int32) (x4 : Int32) (M : m_M), q_H (f_X8_nextOrder_b86 n u x3 x4 M) (fun a => g_fr w_77 w_1 M a.2) := by
  intro u
  induction u with
  | zero => exact fun _ _ _ _ h => nomatch h
  | succ u ih =>
    intro x3 x4 M
    have hM : g_fr w_77 w_1 M M := g_rf
    rw [f_X8_nextOrder_b86]
    refine g_if (fun _ => ?_) (fun _ => ?_)
    · skip
      exact g_sp hM
    · skip
      refine g_oM (g_X8_swap x3 x4 M) g_id g_id hM (fun M2 hM2 => ?_)
      exact g_tP (ih (x3 + 1) (x4 + (-1)) M2) g_id g_id hM2
theorem g_X8_nextOrder_b47 (n : Nat) : ∀ (u : Nat) (x1 : Int32) (x2 : Int32) (M : m_M), q_H (f_X8_nextOrder_b47 n u x1 x2 M) (fun a => g_fr w_77 w_1 M a.2) := by
  intro u
  induction u with
  | zero => exact fun _ _ _ _ h => nomatch h
  | succ u ih =>
    intro x1 x2 M
    have hM : g_fr w_77 w_1 M M := g_rf
    rw [f_X8_nextOrder_b47]
    refine g_gd (fun z1 => ?_)
    have y1 := g_lt z1
    refine g_gd (fun z2 => ?_)
    have y2 := g_lt z2
    refine g_if (fun _ => ?_) (fun _ => ?_)
    · skip
      refine g_oM (g_X8_swap x1 x2 M) g_id g_id hM (fun M6 hM6 => ?_)
      refine g_bv (fun r7 => ?_)
      exact g_tP (g_X8_nextOrder_b86 n n (x1 + (1 : Int32)) (r7 - (1 : Int32)) M6) g_id g_id hM6
    · skip
      exact g_tP (ih x1 (x2 + (-1)) M) g_id g_id hM
theorem g_X8_nextOrder_b34 (n : Nat) (x1 : Int32) (M : m_M) : q_H (f_X8_nextOrder_b34 n x1 M) (fun a => g_fr w_77 w_1 M a.2) := by
  have hM : g_fr w_77 w_1 M M := g_rf
  unfold f_X8_nextOrder_b34
  refine g_if (fun _ => ?_) (fun _ => ?_)
  · skip
    refine g_bv (fun r9 => ?_)
    exact g_tP (g_X8_nextOrder_b47 n n x1 (r9 - (1 : Int32)) M) g_id g_id hM
  · skip
    exact g_sp hM
theorem g_X8_nextOrder_b7 (n : Nat) : ∀ (u : Nat) (x1 : Int32) (M : m_M), q_H (f_X8_nextOrder_b7 n u x1 M) (fun a => g_fr w_77 w_1 M a.2) := by
  intro u
  induction u with
  | zero => exact fun _ _ _ h => nomatch h
  | succ u ih =>
    intro x1 M
    have hM : g_fr w_77 w_1 M M := g_rf
    rw [f_X8_nextOrder_b7]
    refine g_if (fun _ => ?_) (fun _ => ?_)
    · skip
      exact g_tP (g_X8_nextOrder_b34 n x1 M) g_id g_id hM
    · skip
      refine g_gd (fun z1 => ?_)
      have y1 := g_lt z1
      refine g_gd (fun z2 => ?_)
      have y2 := g_lt z2
      refine g_if (fun _ => ?_) (fun _ => ?_)
      · skip
        exact g_tP (g_X8_nextOrder_b34 n x1 M) g_id g_id hM
      · skip
        exact g_tP (ih (x1 + (-1)) M) g_id g_id hM
theorem g_X8_nextOrder (n : Nat) (M : m_M) : q_H (f_X8_nextOrder n M) (fun a => g_fr w_77 w_1 M a.2) := by
  have hM : g_fr w_77 w_1 M M := g_rf
  unfold f_X8_nextOrder
  refine g_bv (fun r14 => ?_)
  exact g_tP (g_X8_nextOrder_b7 n n (r14 - (2 : Int32)) M) g_id g_id hM
theorem g_X8_note_b179 (n : Nat) (x1 : Int32) (x2 : Int32) (x3 : Int32) (x4 : Int32) (x5 : Int32) (x7 : Int32) (s1 : Int32) (s2 : Int32) (M : m_M) : q_H (f_X8_note_b179 n x1 x2 x3 x4 x5 x7 s1 s2 M) (fun a => g_fr w_75 w_1 M a.2) := by
  have hM : g_fr w_75 w_1 M M := g_rf
  unfold f_X8_note_b179
  refine g_gd (fun z1 => ?_)
  have y1 := g_lt z1
  refine g_bI hM (Or.inr (Or.inr (Or.inr (Or.inr (Or.inr (Or.inl (by omega))))))) (fun M2 hM2 => ?_)
  refine g_gd (fun z2 => ?_)
  have y2 := g_lt z2
  refine g_bI hM2 (Or.inr (Or.inr (Or.inr (Or.inr (Or.inr (Or.inl (by omega))))))) (fun M4 hM4 => ?_)
  refine g_bI hM4 (Or.inr (Or.inr (Or.inr (Or.inr (Or.inr (Or.inl (by omega))))))) (fun M5 hM5 => ?_)
  refine g_bv (fun r6 => ?_)
  exact g_sp hM5
theorem g_X8_note_b157 (n : Nat) (x1 : Int32) (x2 : Int32) (x3 : Int32) (x4 : Int32) (x5 : Int32) (x7 : Int32) (s1 : Int32) (s2 : Int32) (M : m_M) : q_H (f_X8_note_b157 n x1 x2 x3 x4 x5 x7 s1 s2 M) (fun a => g_fr w_75 w_1 M a.2) := by
  have hM : g_fr w_75 w_1 M M := g_rf
  unfold f_X8_note_b157
  refine g_gd (fun z1 => ?_)
  have y1 := g_lt z1
  refine g_bI hM (Or.inr (Or.inr (Or.inr (Or.inr (Or.inr (Or.inl (by omega))))))) (fun M8 hM8 => ?_)
  refine g_bv (fun r9 => ?_)
  refine g_if (fun _ => ?_) (fun _ => ?_)
  · skip
    exact g_tP (g_X8_note_b179 n x1 x2 x3 x4 x5 x7 (x7 + (4 : Int32)) 0 M8) g_id g_id hM8
  · skip
    exact g_tP (g_X8_note_b179 n x1 x2 x3 x4 x5 x7 (x7 + (4 : Int32)) x5 M8) g_id g_id hM8
theorem g_X8_note_b22 (n : Nat) (x1 : Int32) (x2 : Int32) (x3 : Int32) (x4 : Int32) (x5 : Int32) (s0 : Int32) (M : m_M) : q_H (f_X8_note_b22 n x1 x2 x3 x4 x5 s0 M) (fun a => g_fr w_75 w_1 M a.2) := by
  have hM : g_fr w_75 w_1 M M := g_rf
  unfold f_X8_note_b22
  refine g_bI hM (Or.inr (Or.inr (Or.inl (by omega)))) (fun M12 hM12 => ?_)
  refine g_oM (g_X8_layDay n 999 M12) (fun i j h => (h.elim (fun h => Or.inl (h)) (fun h => (h.elim (fun h => Or.inr (Or.inl (h))) (fun h => (h.elim (fun h => Or.inr (Or.inr (Or.inr (Or.inl (h))))) (fun h => (h.elim (fun h => Or.inr (Or.inr (Or.inr (Or.inr (Or.inl (h)))))) (fun h => (h.elim (fun h => Or.inr (Or.inr (Or.inr (Or.inr (Or.inr (Or.inr (Or.inl (h)))))))) (fun h => absurd h (Nat.lt_irrefl i)))))))))))) g_id hM12 (fun M13 hM13 => ?_)
  refine g_bv (fun r14 => ?_)
  refine g_if (fun _ => ?_) (fun _ => ?_)
  · skip
    exact g_sp hM13
  · skip
    refine g_bv (fun r17 => ?_)
    refine g_if (fun _ => ?_) (fun _ => ?_)
    · skip
      exact g_sp hM13
    · skip
      refine g_ov (fun r20 => ?_)
      refine g_if (fun _ => ?_) (fun _ => ?_)
      · skip
        exact g_sp hM13
      · skip
        refine g_bv (fun r23 => ?_)
        refine g_if (fun _ => ?_) (fun _ => ?_)
        · skip
          exact g_sp hM13
        · skip
          refine g_bv (fun r25 => ?_)
          refine g_bv (fun t26 => ?_)
          refine g_gd (fun z1 => ?_)
          have y1 := g_lt z1
          refine g_bI hM13 (Or.inr (Or.inr (Or.inr (Or.inr (Or.inr (Or.inl (by omega))))))) (fun M28 hM28 => ?_)
          refine g_gd (fun z2 => ?_)
          have y2 := g_lt z2
          refine g_bI hM28 (Or.inr (Or.inr (Or.inr (Or.inr (Or.inr (Or.inl (by omega))))))) (fun M30 hM30 => ?_)
          refine g_gd (fun z3 => ?_)
          have y3 := g_lt z3
          refine g_bI hM30 (Or.inr (Or.inr (Or.inr (Or.inr (Or.inr (Or.inl (by omega))))))) (fun M32 hM32 => ?_)
          refine g_bv (fun r33 => ?_)
          refine g_if (fun _ => ?_) (fun _ => ?_)
          · skip
            exact g_tP (g_X8_note_b157 n x1 x2 x3 x4 x5 t26 (t26 + (3 : Int32)) 0 M32) g_id g_id hM32
          · skip
            exact g_tP (g_X8_note_b157 n x1 x2 x3 x4 x5 t26 (t26 + (3 : Int32)) x4 M32) g_id g_id hM32
theorem g_X8_note (n : Nat) (x1 : Int32) (x2 : Int32) (x3 : Int32) (x4 : Int32) (x5 : Int32) (M : m_M) : q_H (f_X8_note n x1 x2 x3 x4 x5 M) (fun a => g_fr w_75 w_1 M a.2) := by
  have hM : g_fr w_75 w_1 M M := g_rf
  unfold f_X8_note
  refine g_bv (fun r36 => ?_)
  refine g_if (fun _ => ?_) (fun _ => ?_)
  · skip
    exact g_tP (g_X8_note_b22 n x1 x2 x3 x4 x5 0 M) g_id g_id hM
  · skip
    refine g_bv (fun r38 => ?_)
    refine g_ov (fun r39 => ?_)
    exact g_tP (g_X8_note_b22 n x1 x2 x3 x4 x5 r39 M) g_id g_id hM
theorem g_X8_orders_b80 (n : Nat) (x1 : Int32) (x2 : Int32) (x3 : Int32) (q42 : Int32 → Int32 → Int32 → m_M → Option (Int32 × m_M)) (x5 : Int32) (s0 : Int32) (M : m_M) (hq42 : ∀ (a0 : Int32) (a1 : Int32) (a2 : Int32) (M : m_M), q_H (q42 a0 a1 a2 M) (fun a => g_fr w_78 w_61 M a.2)) : q_H (f_X8_orders_b80 n x1 x2 x3 q42 x5 s0 M) (fun a => g_fr w_78 w_61 M a.2) := by
  have hM : g_fr w_78 w_61 M M := g_rf
  unfold f_X8_orders_b80
  refine g_gd (fun z1 => ?_)
  have y1 := g_lt z1
  refine g_if (fun _ => ?_) (fun _ => ?_)
  · skip
    refine g_o2 (g_X8_nextOrder n M) (fun i j h => (h.elim (fun h => Or.inr (Or.inr (Or.inr (Or.inr (Or.inr (Or.inr (Or.inr (Or.inr (Or.inr (Or.inr (Or.inr (Or.inr (Or.inl (by omega)))))))))))))) (fun h => absurd h (Nat.lt_irrefl i)))) (fun i j h => absurd h (Nat.lt_irrefl i)) hM (fun r3 M4 hM4 => ?_)
    exact g_tP (hq42 s0 x5 r3 M4) g_id g_id hM4
  · skip
    refine g_o2 (g_X8_nextOrder n M) (fun i j h => (h.elim (fun h => Or.inr (Or.inr (Or.inr (Or.inr (Or.inr (Or.inr (Or.inr (Or.inr (Or.inr (Or.inr (Or.inr (Or.inr (Or.inl (by omega)))))))))))))) (fun h => absurd h (Nat.lt_irrefl i)))) (fun i j h => absurd h (Nat.lt_irrefl i)) hM (fun r6 M7 hM7 => ?_)
    exact g_tP (hq42 s0 (M.1 198 x1.toNatClampNeg) r6 M7) g_id g_id hM7
theorem g_X8_orders_b42 (n : Nat) (x1 : Int32) (x2 : Int32) (x3 : Int32) : ∀ (u : Nat) (x4 : Int32) (x5 : Int32) (x6 : Int32) (M : m_M), q_H (f_X8_orders_b42 n x1 x2 x3 u x4 x5 x6 M) (fun a => g_fr w_78 w_61 M a.2) := by
  intro u
  induction u with
  | zero => exact fun _ _ _ _ _ h => nomatch h
  | succ u ih =>
    intro x4 x5 x6 M
    have hM : g_fr w_78 w_61 M M := g_rf
    rw [f_X8_orders_b42]
    refine g_if (fun _ => ?_) (fun _ => ?_)
    · skip
      refine g_if (fun _ => ?_) (fun _ => ?_)
      · skip
        exact g_sp hM
      · skip
        exact g_sp hM
    · skip
      refine g_oM (g_X8_serve n 0 M) (fun i j h => (h.elim (fun h => Or.inr (Or.inr (Or.inr (Or.inr (Or.inr (Or.inr (Or.inr (Or.inr (Or.inr (Or.inr (Or.inr (Or.inr (Or.inl (by omega)))))))))))))) (fun h => absurd h (Nat.lt_irrefl i)))) (fun i j h => absurd h (Nat.lt_irrefl i)) hM (fun M11 hM11 => ?_)
      refine g_if (fun _ => ?_) (fun _ => ?_)
      · skip
        refine g_gd (fun z1 => ?_)
        have y1 := g_lt z1
        exact g_tP (g_X8_orders_b80 n x1 x2 x3 (f_X8_orders_b42 n x1 x2 x3 u) x5 (M11.1 198 x1.toNatClampNeg) M11 ih) g_id g_id hM11
      · skip
        refine g_gd (fun z2 => ?_)
        have y2 := g_lt z2
        refine g_if (fun _ => ?_) (fun _ => ?_)
        · skip
          exact g_tP (g_X8_orders_b80 n x1 x2 x3 (f_X8_orders_b42 n x1 x2 x3 u) x5 x4 M11 ih) g_id g_id hM11
        · skip
          exact g_tP (g_X8_orders_b80 n x1 x2 x3 (f_X8_orders_b42 n x1 x2 x3 u) x5 (M11.1 198 x1.toNatClampNeg) M11 ih) g_id g_id hM11
theorem g_X8_orders (n : Nat) (x1 : Int32) (x2 : Int32) (x3 : Int32) (M : m_M) : q_H (f_X8_orders n x1 x2 x3 M) (fun a => g_fr w_78 w_61 M a.2) := by
  have hM : g_fr w_78 w_61 M M := g_rf
  unfold f_X8_orders
  refine g_bv (fun r16 => ?_)
  refine g_if (fun _ => ?_) (fun _ => ?_)
  · skip
    exact g_sp hM
  · skip
    refine g_bv (fun r19 => ?_)
    refine g_if (fun _ => ?_) (fun _ => ?_)
    · skip
      exact g_sp hM
    · skip
      refine g_bv (fun r22 => ?_)
      refine g_if (fun _ => ?_) (fun _ => ?_)
      · skip
        exact g_sp hM
      · skip
        refine g_oM (g_X8_layLine n x3 M) (fun i j h => (h.elim (fun h => Or.inl (h)) (fun h => (h.elim (fun h => Or.inr (Or.inl (h))) (fun h => (h.elim (fun h => Or.inr (Or.inr (Or.inl (h)))) (fun h => (h.elim (fun h => Or.inr (Or.inr (Or.inr (Or.inl (h))))) (fun h => (h.elim (fun h => Or.inr (Or.inr (Or.inr (Or.inr (Or.inl (h)))))) (fun h => (h.elim (fun h => Or.inr (Or.inr (Or.inr (Or.inr (Or.inr (Or.inl (h))))))) (fun h => (h.elim (fun h => Or.inr (Or.inr (Or.inr (Or.inr (Or.inr (Or.inr (Or.inl (h)))))))) (fun h => (h.elim (fun h => Or.inr (Or.inr (Or.inr (Or.inr (Or.inr (Or.inr (Or.inr (Or.inl (h))))))))) (fun h => (h.elim (fun h => Or.inr (Or.inr (Or.inr (Or.inr (Or.inr (Or.inr (Or.inr (Or.inr (Or.inl (h)))))))))) (fun h => (h.elim (fun h => Or.inr (Or.inr (Or.inr (Or.inr (Or.inr (Or.inr (Or.inr (Or.inr (Or.inr (Or.inl (h))))))))))) (fun h => (h.elim (fun h => Or.inr (Or.inr (Or.inr (Or.inr (Or.inr (Or.inr (Or.inr (Or.inr (Or.inr (Or.inr (Or.inl (h)))))))))))) (fun h => (h.elim (fun h => Or.inr (Or.inr (Or.inr (Or.inr (Or.inr (Or.inr (Or.inr (Or.inr (Or.inr (Or.inr (Or.inr (Or.inl (h))))))))))))) (fun h => (h.elim (fun h => Or.inr (Or.inr (Or.inr (Or.inr (Or.inr (Or.inr (Or.inr (Or.inr (Or.inr (Or.inr (Or.inr (Or.inr (Or.inl (by omega)))))))))))))) (fun h => (h.elim (fun h => Or.inr (Or.inr (Or.inr (Or.inr (Or.inr (Or.inr (Or.inr (Or.inr (Or.inr (Or.inr (Or.inr (Or.inr (Or.inl (by omega)))))))))))))) (fun h => absurd h (Nat.lt_irrefl i)))))))))))))))))))))))))))))) g_id hM (fun M25 hM25 => ?_)
        exact g_tP (g_X8_orders_b42 n x1 x2 x3 n (-1) 0 1 M25) g_id g_id hM25
theorem g_X8_owed (n : Nat) (x1 : Int32) (x2 : Int32) (M : m_M) : q_H (f_X8_owed n x1 x2 M) (fun a => g_fr w_64 w_61 M a.2) := by
  have hM : g_fr w_64 w_61 M M := g_rf
  unfold f_X8_owed
  refine g_o2 (g_X8_isAsked n x1 x2 M) (fun i j h => (h.elim (fun h => Or.inl (h)) (fun h => (h.elim (fun h => Or.inr (Or.inl (h))) (fun h => (h.elim (fun h => Or.inr (Or.inr (Or.inl (h)))) (fun h => (h.elim (fun h => Or.inr (Or.inr (Or.inr (Or.inl (h))))) (fun h => (h.elim (fun h => Or.inr (Or.inr (Or.inr (Or.inr (Or.inl (h)))))) (fun h => (h.elim (fun h => Or.inr (Or.inr (Or.inr (Or.inr (Or.inr (Or.inr (Or.inr (Or.inr (Or.inr (Or.inr (Or.inl (h)))))))))))) (fun h => absurd h (Nat.lt_irrefl i)))))))))))))) (fun i j h => absurd h (Nat.lt_irrefl i)) hM (fun r1 M2 hM2 => ?_)
  refine g_if (fun _ => ?_) (fun _ => ?_)
  · skip
    exact g_sp hM2
  · skip
    refine g_ov (fun r5 => ?_)
    refine g_if (fun _ => ?_) (fun _ => ?_)
    · skip
      refine g_oM (g_X8_layToday n x2 M2) g_id g_id hM2 (fun M8 hM8 => ?_)
      refine g_ov (fun r9 => ?_)
      exact g_sp hM8
    · skip
      exact g_sp hM2
theorem g_X8_own (n : Nat) (x1 : Int32) (x2 : Int32) (x3 : Int32) (M : m_M) : q_H (f_X8_own n x1 x2 x3 M) (fun a => g_fr w_64 w_61 M a.2) := by
  have hM : g_fr w_64 w_61 M M := g_rf
  unfold f_X8_own
  refine g_bv (fun r1 => ?_)
  refine g_if (fun _ => ?_) (fun _ => ?_)
  · skip
    exact g_sp hM
  · skip
    refine g_bv (fun r4 => ?_)
    refine g_if (fun _ => ?_) (fun _ => ?_)
    · skip
      exact g_sp hM
    · skip
      refine g_bv (fun r7 => ?_)
      refine g_if (fun _ => ?_) (fun _ => ?_)
      · skip
        exact g_sp hM
      · skip
        refine g_oM (g_X8_layToday n x3 M) g_id g_id hM (fun M10 hM10 => ?_)
        refine g_if (fun _ => ?_) (fun _ => ?_)
        · skip
          refine g_ov (fun r13 => ?_)
          exact g_sp hM10
        · skip
          refine g_ov (fun r12 => ?_)
          exact g_sp hM10
theorem g_X8_parted_b17 (n : Nat) (x1 : Int32) : ∀ (u : Nat) (x2 : Int32) (M : m_M), q_H (f_X8_parted_b17 n x1 u x2 M) (fun a => g_fr w_64 w_66 M a.2) := by
  intro u
  induction u with
  | zero => exact fun _ _ _ h => nomatch h
  | succ u ih =>
    intro x2 M
    have hM : g_fr w_64 w_66 M M := g_rf
    rw [f_X8_parted_b17]
    refine g_if (fun _ => ?_) (fun _ => ?_)
    · skip
      exact g_sp hM
    · skip
      refine g_oM (g_X8_askOf n x2 2 0 M) (fun i j h => (h.elim (fun h => Or.inr (Or.inr (Or.inr (Or.inr (Or.inr (Or.inl (h))))))) (fun h => (h.elim (fun h => Or.inr (Or.inr (Or.inr (Or.inr (Or.inr (Or.inr (Or.inl (h)))))))) (fun h => (h.elim (fun h => Or.inr (Or.inr (Or.inr (Or.inr (Or.inr (Or.inr (Or.inr (Or.inl (h))))))))) (fun h => (h.elim (fun h => Or.inr (Or.inr (Or.inr (Or.inr (Or.inr (Or.inr (Or.inr (Or.inr (Or.inl (h)))))))))) (fun h => (h.elim (fun h => Or.inr (Or.inr (Or.inr (Or.inr (Or.inr (Or.inr (Or.inr (Or.inr (Or.inr (Or.inl (h))))))))))) (fun h => (h.elim (fun h => Or.inr (Or.inr (Or.inr (Or.inr (Or.inr (Or.inr (Or.inr (Or.inr (Or.inr (Or.inr (Or.inr (Or.inl (h))))))))))))) (fun h => absurd h (Nat.lt_irrefl i)))))))))))))) g_id hM (fun M2 hM2 => ?_)
      refine g_oM (g_X8_askOf n x2 2 1 M2) (fun i j h => (h.elim (fun h => Or.inr (Or.inr (Or.inr (Or.inr (Or.inr (Or.inl (h))))))) (fun h => (h.elim (fun h => Or.inr (Or.inr (Or.inr (Or.inr (Or.inr (Or.inr (Or.inl (h)))))))) (fun h => (h.elim (fun h => Or.inr (Or.inr (Or.inr (Or.inr (Or.inr (Or.inr (Or.inr (Or.inl (h))))))))) (fun h => (h.elim (fun h => Or.inr (Or.inr (Or.inr (Or.inr (Or.inr (Or.inr (Or.inr (Or.inr (Or.inl (h)))))))))) (fun h => (h.elim (fun h => Or.inr (Or.inr (Or.inr (Or.inr (Or.inr (Or.inr (Or.inr (Or.inr (Or.inr (Or.inl (h))))))))))) (fun h => (h.elim (fun h => Or.inr (Or.inr (Or.inr (Or.inr (Or.inr (Or.inr (Or.inr (Or.inr (Or.inr (Or.inr (Or.inr (Or.inl (h))))))))))))) (fun h => absurd h (Nat.lt_irrefl i)))))))))))))) g_id hM2 (fun M3 hM3 => ?_)
      refine g_if (fun _ => ?_) (fun _ => ?_)
      · skip
        exact g_tP (ih (x2 + 1) M3) g_id g_id hM3
      · skip
        exact g_sp hM3
theorem g_X8_parted (n : Nat) (x1 : Int32) (M : m_M) : q_H (f_X8_parted n x1 M) (fun a => g_fr w_64 w_66 M a.2) := by
  have hM : g_fr w_64 w_66 M M := g_rf
  unfold f_X8_parted
  refine g_bv (fun r5 => ?_)
  refine g_if (fun _ => ?_) (fun _ => ?_)
  · skip
    exact g_sp hM
  · skip
    refine g_oM (g_X8_layToday n x1 M) g_id (fun i j h => (h.elim (fun h => Or.inl (h)) (fun h => (h.elim (fun h => Or.inr (Or.inr (Or.inr (Or.inl (h))))) (fun h => (h.elim (fun h => Or.inr (Or.inr (Or.inr (Or.inr (Or.inl (h)))))) (fun h => (h.elim (fun h => Or.inr (Or.inr (Or.inr (Or.inr (Or.inr (Or.inl (h))))))) (fun h => (h.elim (fun h => Or.inr (Or.inr (Or.inr (Or.inr (Or.inr (Or.inr (Or.inl (h)))))))) (fun h => (h.elim (fun h => Or.inr (Or.inr (Or.inr (Or.inr (Or.inr (Or.inr (Or.inr (Or.inl (h))))))))) (fun h => (h.elim (fun h => Or.inr (Or.inr (Or.inr (Or.inr (Or.inr (Or.inr (Or.inr (Or.inr (Or.inl (h)))))))))) (fun h => absurd h (Nat.lt_irrefl i)))))))))))))))) hM (fun M8 hM8 => ?_)
    exact g_tP (g_X8_parted_b17 n x1 n 0 M8) g_id g_id hM8
theorem g_X8_person (M : m_M) : g_fr w_79 w_1 M (f_X8_person M).2 := by
  unfold f_X8_person
  unfold f_X8_persons
  simp only [m_bd]
  by_cases hc : M.1 173 468 = 10
  · rw [if_pos hc]
    exact g_rf
  · rw [if_neg hc]
    exact g_sI g_rf (Or.inl (by omega))
theorem g_X8_readItem_b167 (n : Nat) (M : m_M) : q_H (f_X8_readItem_b167 n M) (fun a => g_fr w_80 w_1 M a.2) := by
  have hM : g_fr w_80 w_1 M M := g_rf
  unfold f_X8_readItem_b167
  refine g_if (fun _ => ?_) (fun _ => ?_)
  · skip
    refine g_oM (g_X8_next n M) (fun i j h => (h.elim (fun h => Or.inl (h)) (fun h => (h.elim (fun h => Or.inr (Or.inl (h))) (fun h => (h.elim (fun h => Or.inr (Or.inr (Or.inl (h)))) (fun h => (h.elim (fun h => Or.inr (Or.inr (Or.inr (Or.inl (h))))) (fun h => absurd h (Nat.lt_irrefl i)))))))))) g_id hM (fun M2 hM2 => ?_)
    exact g_sp hM2
  · skip
    exact g_sp hM
theorem g_X8_readItem_b135 (n : Nat) (M : m_M) : q_H (f_X8_readItem_b135 n M) (fun a => g_fr w_80 w_1 M a.2) := by
  have hM : g_fr w_80 w_1 M M := g_rf
  unfold f_X8_readItem_b135
  refine g_bv (fun r3 => ?_)
  refine g_if (fun _ => ?_) (fun _ => ?_)
  · skip
    exact g_tP (g_X8_readItem_b167 n M) g_id g_id hM
  · skip
    refine g_if (fun _ => ?_) (fun _ => ?_)
    · skip
      refine g_bI hM (Or.inr (Or.inr (Or.inr (Or.inr (Or.inr (Or.inr (Or.inr (Or.inr (Or.inl (by omega)))))))))) (fun M7 hM7 => ?_)
      refine g_oM (g_X8_next n M7) (fun i j h => (h.elim (fun h => Or.inl (h)) (fun h => (h.elim (fun h => Or.inr (Or.inl (h))) (fun h => (h.elim (fun h => Or.inr (Or.inr (Or.inl (h)))) (fun h => (h.elim (fun h => Or.inr (Or.inr (Or.inr (Or.inl (h))))) (fun h => absurd h (Nat.lt_irrefl i)))))))))) g_id hM7 (fun M8 hM8 => ?_)
      exact g_tP (g_X8_readItem_b167 n M8) g_id g_id hM8
    · skip
      exact g_sp hM
theorem g_X8_readItem_b111 (n : Nat) (M : m_M) : q_H (f_X8_readItem_b111 n M) (fun a => g_fr w_80 w_1 M a.2) := by
  have hM : g_fr w_80 w_1 M M := g_rf
  unfold f_X8_readItem_b111
  refine g_if (fun _ => ?_) (fun _ => ?_)
  · skip
    refine g_bI hM (Or.inr (Or.inr (Or.inr (Or.inr (Or.inr (Or.inr (Or.inr (Or.inl (by omega))))))))) (fun M12 hM12 => ?_)
    refine g_oM (g_X8_next n M12) (fun i j h => (h.elim (fun h => Or.inl (h)) (fun h => (h.elim (fun h => Or.inr (Or.inl (h))) (fun h => (h.elim (fun h => Or.inr (Or.inr (Or.inl (h)))) (fun h => (h.elim (fun h => Or.inr (Or.inr (Or.inr (Or.inl (h))))) (fun h => absurd h (Nat.lt_irrefl i)))))))))) g_id hM12 (fun M13 hM13 => ?_)
    exact g_tP (g_X8_readItem_b135 n M13) g_id g_id hM13
  · skip
    refine g_bI hM (Or.inr (Or.inr (Or.inr (Or.inr (Or.inr (Or.inr (Or.inr (Or.inl (by omega))))))))) (fun M10 hM10 => ?_)
    refine g_oM (g_X8_next n M10) (fun i j h => (h.elim (fun h => Or.inl (h)) (fun h => (h.elim (fun h => Or.inr (Or.inl (h))) (fun h => (h.elim (fun h => Or.inr (Or.inr (Or.inl (h)))) (fun h => (h.elim (fun h => Or.inr (Or.inr (Or.inr (Or.inl (h))))) (fun h => absurd h (Nat.lt_irrefl i)))))))))) g_id hM10 (fun M11 hM11 => ?_)
    exact g_tP (g_X8_readItem_b135 n M11) g_id g_id hM11
theorem g_X8_readItem (n : Nat) (M : m_M) : q_H (f_X8_readItem n M) (fun a => g_fr w_80 w_1 M a.2) := by
  have hM : g_fr w_80 w_1 M M := g_rf
  unfold f_X8_readItem
  refine g_if (fun _ => ?_) (fun _ => ?_)
  · skip
    refine g_bI hM (Or.inr (Or.inr (Or.inr (Or.inr (Or.inl (by omega)))))) (fun M15 hM15 => ?_)
    refine g_oM (g_X8_next n M15) (fun i j h => (h.elim (fun h => Or.inl (h)) (fun h => (h.elim (fun h => Or.inr (Or.inl (h))) (fun h => (h.elim (fun h => Or.inr (Or.inr (Or.inl (h)))) (fun h => (h.elim (fun h => Or.inr (Or.inr (Or.inr (Or.inl (h))))) (fun h => absurd h (Nat.lt_irrefl i)))))))))) g_id hM15 (fun M16 hM16 => ?_)
    refine g_ov (fun r17 => ?_)
    refine g_bI hM16 (Or.inr (Or.inr (Or.inr (Or.inr (Or.inr (Or.inl (by omega))))))) (fun M18 hM18 => ?_)
    refine g_if (fun _ => ?_) (fun _ => ?_)
    · skip
      exact g_sp hM18
    · skip
      refine g_oM (g_X8_next n M18) (fun i j h => (h.elim (fun h => Or.inl (h)) (fun h => (h.elim (fun h => Or.inr (Or.inl (h))) (fun h => (h.elim (fun h => Or.inr (Or.inr (Or.inl (h)))) (fun h => (h.elim (fun h => Or.inr (Or.inr (Or.inr (Or.inl (h))))) (fun h => absurd h (Nat.lt_irrefl i)))))))))) g_id hM18 (fun M20 hM20 => ?_)
      refine g_if (fun _ => ?_) (fun _ => ?_)
      · skip
        refine g_bI hM20 (Or.inr (Or.inr (Or.inr (Or.inr (Or.inr (Or.inr (Or.inl (by omega)))))))) (fun M22 hM22 => ?_)
        refine g_oM (g_X8_next n M22) (fun i j h => (h.elim (fun h => Or.inl (h)) (fun h => (h.elim (fun h => Or.inr (Or.inl (h))) (fun h => (h.elim (fun h => Or.inr (Or.inr (Or.inl (h)))) (fun h => (h.elim (fun h => Or.inr (Or.inr (Or.inr (Or.inl (h))))) (fun h => absurd h (Nat.lt_irrefl i)))))))))) g_id hM22 (fun M23 hM23 => ?_)
        refine g_bI hM23 (Or.inr (Or.inr (Or.inr (Or.inr (Or.inr (Or.inr (Or.inr (Or.inl (by omega))))))))) (fun M24 hM24 => ?_)
        refine g_bI hM24 (Or.inr (Or.inr (Or.inr (Or.inr (Or.inr (Or.inr (Or.inr (Or.inr (Or.inl (by omega)))))))))) (fun M25 hM25 => ?_)
        refine g_bv (fun r26 => ?_)
        refine g_if (fun _ => ?_) (fun _ => ?_)
        · skip
          exact g_tP (g_X8_readItem_b135 n M25) g_id g_id hM25
        · skip
          refine g_if (fun _ => ?_) (fun _ => ?_)
          · skip
            exact g_tP (g_X8_readItem_b111 n M25) g_id g_id hM25
          · skip
            refine g_if (fun _ => ?_) (fun _ => ?_)
            · skip
              refine g_if (fun _ => ?_) (fun _ => ?_)
              · skip
                exact g_tP (g_X8_readItem_b111 n M25) g_id g_id hM25
              · skip
                exact g_sp hM25
            · skip
              exact g_sp hM25
      · skip
        exact g_sp hM20
  · skip
    exact g_sp hM
theorem g_X8_read_b39 (n : Nat) : ∀ (u : Nat) (x1 : Int32) (x2 : Int32) (M : m_M), q_H (f_X8_read_b39 n u x1 x2 M) (fun a => g_fr w_81 w_1 M a.2) := by
  intro u
  induction u with
  | zero => exact fun _ _ _ _ h => nomatch h
  | succ u ih =>
    intro x1 x2 M
    have hM : g_fr w_81 w_1 M M := g_rf
    rw [f_X8_read_b39]
    refine g_if (fun _ => ?_) (fun _ => ?_)
    · skip
      refine g_bI hM (Or.inl (by omega)) (fun M2 hM2 => ?_)
      exact g_sp hM2
    · skip
      refine g_o2 (g_X8_readItem n M) (fun i j h => (h.elim (fun h => Or.inr (Or.inr (Or.inr (Or.inr (Or.inr (Or.inr (Or.inl (h)))))))) (fun h => (h.elim (fun h => Or.inr (Or.inr (Or.inr (Or.inr (Or.inr (Or.inr (Or.inr (Or.inl (h))))))))) (fun h => (h.elim (fun h => Or.inr (Or.inr (Or.inr (Or.inr (Or.inr (Or.inr (Or.inr (Or.inr (Or.inl (h)))))))))) (fun h => (h.elim (fun h => Or.inr (Or.inr (Or.inr (Or.inr (Or.inr (Or.inr (Or.inr (Or.inr (Or.inr (Or.inl (h))))))))))) (fun h => (h.elim (fun h => Or.inr (Or.inr (Or.inr (Or.inr (Or.inr (Or.inr (Or.inr (Or.inr (Or.inr (Or.inr (Or.inl (h)))))))))))) (fun h => (h.elim (fun h => Or.inr (Or.inr (Or.inr (Or.inr (Or.inr (Or.inr (Or.inr (Or.inr (Or.inr (Or.inr (Or.inr (Or.inl (h))))))))))))) (fun h => (h.elim (fun h => Or.inr (Or.inr (Or.inr (Or.inr (Or.inr (Or.inr (Or.inr (Or.inr (Or.inr (Or.inr (Or.inr (Or.inr (Or.inl (h)))))))))))))) (fun h => (h.elim (fun h => Or.inr (Or.inr (Or.inr (Or.inr (Or.inr (Or.inr (Or.inr (Or.inr (Or.inr (Or.inr (Or.inr (Or.inr (Or.inr (Or.inl (h))))))))))))))) (fun h => (h.elim (fun h => Or.inr (Or.inr (Or.inr (Or.inr (Or.inr (Or.inr (Or.inr (Or.inr (Or.inr (Or.inr (Or.inr (Or.inr (Or.inr (Or.inr (Or.inl (h)))))))))))))))) (fun h => absurd h (Nat.lt_irrefl i)))))))))))))))))))) g_id hM (fun r3 M4 hM4 => ?_)
      refine g_o2 (g_X8_note n (M4.1 172 31) (M4.1 172 32) (M4.1 172 33) (M4.1 172 34) (M4.1 172 35) M4) (fun i j h => (h.elim (fun h => Or.inr (Or.inl (h))) (fun h => (h.elim (fun h => Or.inr (Or.inr (Or.inl (h)))) (fun h => (h.elim (fun h => Or.inr (Or.inr (Or.inr (Or.inl (h))))) (fun h => (h.elim (fun h => Or.inr (Or.inr (Or.inr (Or.inr (Or.inl (h)))))) (fun h => (h.elim (fun h => Or.inr (Or.inr (Or.inr (Or.inr (Or.inr (Or.inl (h))))))) (fun h => (h.elim (fun h => Or.inr (Or.inr (Or.inr (Or.inr (Or.inr (Or.inr (Or.inr (Or.inr (Or.inr (Or.inr (Or.inr (Or.inr (Or.inr (Or.inr (Or.inr (Or.inl (h))))))))))))))))) (fun h => (h.elim (fun h => Or.inr (Or.inr (Or.inr (Or.inr (Or.inr (Or.inr (Or.inr (Or.inr (Or.inr (Or.inr (Or.inr (Or.inr (Or.inr (Or.inr (Or.inr (Or.inr (Or.inl (h)))))))))))))))))) (fun h => absurd h (Nat.lt_irrefl i)))))))))))))))) g_id hM4 (fun r6 M7 hM7 => ?_)
      refine g_if (fun _ => ?_) (fun _ => ?_)
      · skip
        exact g_tP (ih x1 (x2 + 1) M7) g_id g_id hM7
      · skip
        refine g_bI hM7 (Or.inr (Or.inr (Or.inr (Or.inr (Or.inr (Or.inr (Or.inr (Or.inr (Or.inr (Or.inr (Or.inr (Or.inr (Or.inr (Or.inr (Or.inr (Or.inl (by omega))))))))))))))))) (fun M9 hM9 => ?_)
        exact g_sp hM9
theorem g_X8_read_b5 (n : Nat) : ∀ (u : Nat) (M : m_M), q_H (f_X8_read_b5 n u M) (fun a => g_fr w_81 w_1 M a.2) := by
  intro u
  induction u with
  | zero => exact fun _ _ h => nomatch h
  | succ u ih =>
    intro M
    have hM : g_fr w_81 w_1 M M := g_rf
    rw [f_X8_read_b5]
    refine g_if (fun _ => ?_) (fun _ => ?_)
    · skip
      refine g_bv (fun r11 => ?_)
      refine g_oM (g_X8_look n 0 M) (fun i j h => (h.elim (fun h => Or.inr (Or.inr (Or.inr (Or.inr (Or.inr (Or.inr (Or.inl (h)))))))) (fun h => (h.elim (fun h => Or.inr (Or.inr (Or.inr (Or.inr (Or.inr (Or.inr (Or.inr (Or.inl (h))))))))) (fun h => (h.elim (fun h => Or.inr (Or.inr (Or.inr (Or.inr (Or.inr (Or.inr (Or.inr (Or.inr (Or.inl (h)))))))))) (fun h => (h.elim (fun h => Or.inr (Or.inr (Or.inr (Or.inr (Or.inr (Or.inr (Or.inr (Or.inr (Or.inr (Or.inl (h))))))))))) (fun h => absurd h (Nat.lt_irrefl i)))))))))) g_id hM (fun M12 hM12 => ?_)
      exact g_tP (g_X8_read_b39 n n r11 0 M12) g_id g_id hM12
    · skip
      refine g_o2 (g_X8_readItem n M) (fun i j h => (h.elim (fun h => Or.inr (Or.inr (Or.inr (Or.inr (Or.inr (Or.inr (Or.inl (h)))))))) (fun h => (h.elim (fun h => Or.inr (Or.inr (Or.inr (Or.inr (Or.inr (Or.inr (Or.inr (Or.inl (h))))))))) (fun h => (h.elim (fun h => Or.inr (Or.inr (Or.inr (Or.inr (Or.inr (Or.inr (Or.inr (Or.inr (Or.inl (h)))))))))) (fun h => (h.elim (fun h => Or.inr (Or.inr (Or.inr (Or.inr (Or.inr (Or.inr (Or.inr (Or.inr (Or.inr (Or.inl (h))))))))))) (fun h => (h.elim (fun h => Or.inr (Or.inr (Or.inr (Or.inr (Or.inr (Or.inr (Or.inr (Or.inr (Or.inr (Or.inr (Or.inl (h)))))))))))) (fun h => (h.elim (fun h => Or.inr (Or.inr (Or.inr (Or.inr (Or.inr (Or.inr (Or.inr (Or.inr (Or.inr (Or.inr (Or.inr (Or.inl (h))))))))))))) (fun h => (h.elim (fun h => Or.inr (Or.inr (Or.inr (Or.inr (Or.inr (Or.inr (Or.inr (Or.inr (Or.inr (Or.inr (Or.inr (Or.inr (Or.inl (h)))))))))))))) (fun h => (h.elim (fun h => Or.inr (Or.inr (Or.inr (Or.inr (Or.inr (Or.inr (Or.inr (Or.inr (Or.inr (Or.inr (Or.inr (Or.inr (Or.inr (Or.inl (h))))))))))))))) (fun h => (h.elim (fun h => Or.inr (Or.inr (Or.inr (Or.inr (Or.inr (Or.inr (Or.inr (Or.inr (Or.inr (Or.inr (Or.inr (Or.inr (Or.inr (Or.inr (Or.inl (h)))))))))))))))) (fun h => absurd h (Nat.lt_irrefl i)))))))))))))))))))) g_id hM (fun r13 M14 hM14 => ?_)
      refine g_if (fun _ => ?_) (fun _ => ?_)
      · skip
        exact g_sp hM14
      · skip
        exact g_tP (ih M14) g_id g_id hM14
theorem g_X8_read (n : Nat) (M : m_M) : q_H (f_X8_read n M) (fun a => g_fr w_81 w_1 M a.2) := by
  have hM : g_fr w_81 w_1 M M := g_rf
  unfold f_X8_read
  refine g_oM (g_X8_look n 0 M) (fun i j h => (h.elim (fun h => Or.inr (Or.inr (Or.inr (Or.inr (Or.inr (Or.inr (Or.inl (h)))))))) (fun h => (h.elim (fun h => Or.inr (Or.inr (Or.inr (Or.inr (Or.inr (Or.inr (Or.inr (Or.inl (h))))))))) (fun h => (h.elim (fun h => Or.inr (Or.inr (Or.inr (Or.inr (Or.inr (Or.inr (Or.inr (Or.inr (Or.inl (h)))))))))) (fun h => (h.elim (fun h => Or.inr (Or.inr (Or.inr (Or.inr (Or.inr (Or.inr (Or.inr (Or.inr (Or.inr (Or.inl (h))))))))))) (fun h => absurd h (Nat.lt_irrefl i)))))))))) g_id hM (fun M17 hM17 => ?_)
  exact g_tP (g_X8_read_b5 n n M17) g_id g_id hM17
theorem g_X8_rests_b25 (n : Nat) (x1 : Int32) (x2 : Int32) : ∀ (u : Nat) (x3 : Int32) (x4 : Int32) (M : m_M), q_H (f_X8_rests_b25 n x1 x2 u x3 x4 M) (fun a => g_fr w_78 w_66 M a.2) := by
  intro u
  induction u with
  | zero => exact fun _ _ _ _ h => nomatch h
  | succ u ih =>
    intro x3 x4 M
    have hM : g_fr w_78 w_66 M M := g_rf
    rw [f_X8_rests_b25]
    refine g_bv (fun r1 => ?_)
    refine g_if (fun _ => ?_) (fun _ => ?_)
    · skip
      refine g_if (fun _ => ?_) (fun _ => ?_)
      · skip
        exact g_sp hM
      · skip
        exact g_sp hM
    · skip
      refine g_o2 (g_X8_isRest n x4 M) (fun i j h => (h.elim (fun h => Or.inr (Or.inr (Or.inr (Or.inr (Or.inr (Or.inr (Or.inr (Or.inr (Or.inr (Or.inr (Or.inr (Or.inr (Or.inl (by omega)))))))))))))) (fun h => absurd h (Nat.lt_irrefl i)))) (fun i j h => (h.elim (fun h => Or.inr (Or.inl (h))) (fun h => (h.elim (fun h => Or.inr (Or.inr (Or.inl (h)))) (fun h => absurd h (Nat.lt_irrefl i)))))) hM (fun r4 M5 hM5 => ?_)
      refine g_if (fun _ => ?_) (fun _ => ?_)
      · skip
        exact g_tP (ih x3 (x4 + 1) M5) g_id g_id hM5
      · skip
        refine g_if (fun _ => ?_) (fun _ => ?_)
        · skip
          exact g_sp hM5
        · skip
          exact g_tP (ih (x3 + 1) (x4 + 1) M5) g_id g_id hM5
theorem g_X8_rests (n : Nat) (x1 : Int32) (x2 : Int32) (M : m_M) : q_H (f_X8_rests n x1 x2 M) (fun a => g_fr w_78 w_66 M a.2) := by
  have hM : g_fr w_78 w_66 M M := g_rf
  unfold f_X8_rests
  refine g_if (fun _ => ?_) (fun _ => ?_)
  · skip
    exact g_sp hM
  · skip
    refine g_bv (fun r10 => ?_)
    refine g_if (fun _ => ?_) (fun _ => ?_)
    · skip
      exact g_sp hM
    · skip
      refine g_oM (g_X8_layLine n x2 M) (fun i j h => (h.elim (fun h => Or.inl (h)) (fun h => (h.elim (fun h => Or.inr (Or.inl (h))) (fun h => (h.elim (fun h => Or.inr (Or.inr (Or.inl (h)))) (fun h => (h.elim (fun h => Or.inr (Or.inr (Or.inr (Or.inl (h))))) (fun h => (h.elim (fun h => Or.inr (Or.inr (Or.inr (Or.inr (Or.inl (h)))))) (fun h => (h.elim (fun h => Or.inr (Or.inr (Or.inr (Or.inr (Or.inr (Or.inl (h))))))) (fun h => (h.elim (fun h => Or.inr (Or.inr (Or.inr (Or.inr (Or.inr (Or.inr (Or.inl (h)))))))) (fun h => (h.elim (fun h => Or.inr (Or.inr (Or.inr (Or.inr (Or.inr (Or.inr (Or.inr (Or.inl (h))))))))) (fun h => (h.elim (fun h => Or.inr (Or.inr (Or.inr (Or.inr (Or.inr (Or.inr (Or.inr (Or.inr (Or.inl (h)))))))))) (fun h => (h.elim (fun h => Or.inr (Or.inr (Or.inr (Or.inr (Or.inr (Or.inr (Or.inr (Or.inr (Or.inr (Or.inl (h))))))))))) (fun h => (h.elim (fun h => Or.inr (Or.inr (Or.inr (Or.inr (Or.inr (Or.inr (Or.inr (Or.inr (Or.inr (Or.inr (Or.inl (h)))))))))))) (fun h => (h.elim (fun h => Or.inr (Or.inr (Or.inr (Or.inr (Or.inr (Or.inr (Or.inr (Or.inr (Or.inr (Or.inr (Or.inr (Or.inl (h))))))))))))) (fun h => (h.elim (fun h => Or.inr (Or.inr (Or.inr (Or.inr (Or.inr (Or.inr (Or.inr (Or.inr (Or.inr (Or.inr (Or.inr (Or.inr (Or.inl (by omega)))))))))))))) (fun h => (h.elim (fun h => Or.inr (Or.inr (Or.inr (Or.inr (Or.inr (Or.inr (Or.inr (Or.inr (Or.inr (Or.inr (Or.inr (Or.inr (Or.inl (by omega)))))))))))))) (fun h => absurd h (Nat.lt_irrefl i)))))))))))))))))))))))))))))) (fun i j h => (h.elim (fun h => Or.inl (h)) (fun h => (h.elim (fun h => Or.inr (Or.inr (Or.inr (Or.inl (h))))) (fun h => (h.elim (fun h => Or.inr (Or.inr (Or.inr (Or.inr (Or.inl (h)))))) (fun h => (h.elim (fun h => Or.inr (Or.inr (Or.inr (Or.inr (Or.inr (Or.inl (h))))))) (fun h => (h.elim (fun h => Or.inr (Or.inr (Or.inr (Or.inr (Or.inr (Or.inr (Or.inl (h)))))))) (fun h => (h.elim (fun h => Or.inr (Or.inr (Or.inr (Or.inr (Or.inr (Or.inr (Or.inr (Or.inl (h))))))))) (fun h => (h.elim (fun h => Or.inr (Or.inr (Or.inr (Or.inr (Or.inr (Or.inr (Or.inr (Or.inr (Or.inl (h)))))))))) (fun h => absurd h (Nat.lt_irrefl i)))))))))))))))) hM (fun M13 hM13 => ?_)
      exact g_tP (g_X8_rests_b25 n x1 x2 n 0 0 M13) g_id g_id hM13
theorem g_X8_served (n : Nat) (x1 : Int32) (x2 : Int32) (M : m_M) : q_H (f_X8_served n x1 x2 M) (fun a => g_fr w_78 w_61 M a.2) := by
  have hM : g_fr w_78 w_61 M M := g_rf
  unfold f_X8_served
  refine g_bv (fun r1 => ?_)
  refine g_if (fun _ => ?_) (fun _ => ?_)
  · skip
    exact g_sp hM
  · skip
    refine g_bv (fun r4 => ?_)
    refine g_if (fun _ => ?_) (fun _ => ?_)
    · skip
      exact g_sp hM
    · skip
      refine g_oM (g_X8_layLine n x2 M) (fun i j h => (h.elim (fun h => Or.inl (h)) (fun h => (h.elim (fun h => Or.inr (Or.inl (h))) (fun h => (h.elim (fun h => Or.inr (Or.inr (Or.inl (h)))) (fun h => (h.elim (fun h => Or.inr (Or.inr (Or.inr (Or.inl (h))))) (fun h => (h.elim (fun h => Or.inr (Or.inr (Or.inr (Or.inr (Or.inl (h)))))) (fun h => (h.elim (fun h => Or.inr (Or.inr (Or.inr (Or.inr (Or.inr (Or.inl (h))))))) (fun h => (h.elim (fun h => Or.inr (Or.inr (Or.inr (Or.inr (Or.inr (Or.inr (Or.inl (h)))))))) (fun h => (h.elim (fun h => Or.inr (Or.inr (Or.inr (Or.inr (Or.inr (Or.inr (Or.inr (Or.inl (h))))))))) (fun h => (h.elim (fun h => Or.inr (Or.inr (Or.inr (Or.inr (Or.inr (Or.inr (Or.inr (Or.inr (Or.inl (h)))))))))) (fun h => (h.elim (fun h => Or.inr (Or.inr (Or.inr (Or.inr (Or.inr (Or.inr (Or.inr (Or.inr (Or.inr (Or.inl (h))))))))))) (fun h => (h.elim (fun h => Or.inr (Or.inr (Or.inr (Or.inr (Or.inr (Or.inr (Or.inr (Or.inr (Or.inr (Or.inr (Or.inl (h)))))))))))) (fun h => (h.elim (fun h => Or.inr (Or.inr (Or.inr (Or.inr (Or.inr (Or.inr (Or.inr (Or.inr (Or.inr (Or.inr (Or.inr (Or.inl (h))))))))))))) (fun h => (h.elim (fun h => Or.inr (Or.inr (Or.inr (Or.inr (Or.inr (Or.inr (Or.inr (Or.inr (Or.inr (Or.inr (Or.inr (Or.inr (Or.inl (by omega)))))))))))))) (fun h => (h.elim (fun h => Or.inr (Or.inr (Or.inr (Or.inr (Or.inr (Or.inr (Or.inr (Or.inr (Or.inr (Or.inr (Or.inr (Or.inr (Or.inl (by omega)))))))))))))) (fun h => absurd h (Nat.lt_irrefl i)))))))))))))))))))))))))))))) g_id hM (fun M7 hM7 => ?_)
      refine g_oM (g_X8_serve n 0 M7) (fun i j h => (h.elim (fun h => Or.inr (Or.inr (Or.inr (Or.inr (Or.inr (Or.inr (Or.inr (Or.inr (Or.inr (Or.inr (Or.inr (Or.inr (Or.inl (by omega)))))))))))))) (fun h => absurd h (Nat.lt_irrefl i)))) (fun i j h => absurd h (Nat.lt_irrefl i)) hM7 (fun M8 hM8 => ?_)
      refine g_gd (fun z1 => ?_)
      have y1 := g_lt z1
      exact g_sp hM8
theorem g_X8_sure_b110 (n : Nat) (x1 : Int32) (x2 : Int32) (x3 : Int32) (x4 : Int32) (q59 : Int32 → Int32 → Int32 → m_M → Option (Int32 × m_M)) (x5 : Int32) (x6 : Int32) (x7 : Int32) (x8 : Int64) (M : m_M) (hq59 : ∀ (a0 : Int32) (a1 : Int32) (a2 : Int32) (M : m_M), q_H (q59 a0 a1 a2 M) (fun a => g_fr w_64 w_82 M a.2)) : q_H (f_X8_sure_b110 n x1 x2 x3 x4 q59 x5 x6 x7 x8 M) (fun a => g_fr w_64 w_82 M a.2) := by
  have hM : g_fr w_64 w_82 M M := g_rf
  unfold f_X8_sure_b110
  refine g_if (fun _ => ?_) (fun _ => ?_)
  · skip
    refine g_if (fun _ => ?_) (fun _ => ?_)
    · skip
      exact g_tP (hq59 x5 x6 (x7 + 1) M) g_id g_id hM
    · skip
      exact g_tP (hq59 x5 x7 (x7 + 1) M) g_id g_id hM
  · skip
    exact g_tP (hq59 x5 x6 (x7 + 1) M) g_id g_id hM
theorem g_X8_sure_b59 (n : Nat) (x1 : Int32) (x2 : Int32) (x3 : Int32) (x4 : Int32) : ∀ (u : Nat) (x5 : Int32) (x6 : Int32) (x7 : Int32) (M : m_M), q_H (f_X8_sure_b59 n x1 x2 x3 x4 u x5 x6 x7 M) (fun a => g_fr w_64 w_82 M a.2) := by
  intro u
  induction u with
  | zero => exact fun _ _ _ _ _ h => nomatch h
  | succ u ih =>
    intro x5 x6 x7 M
    have hM : g_fr w_64 w_82 M M := g_rf
    rw [f_X8_sure_b59]
    refine g_if (fun _ => ?_) (fun _ => ?_)
    · skip
      refine g_gd (fun z1 => ?_)
      have y1 := g_lt z1
      refine g_oM (g_X8_tell n (M.2 200 x6.toNatClampNeg) (M.2 201 x6.toNatClampNeg) M) (fun i j h => absurd h (Nat.lt_irrefl i)) (fun i j h => (h.elim (fun h => Or.inl (h)) (fun h => (h.elim (fun h => Or.inr (Or.inl (h))) (fun h => absurd h (Nat.lt_irrefl i)))))) hM (fun M5 hM5 => ?_)
      exact g_sp hM5
    · skip
      refine g_gd (fun z2 => ?_)
      have y2 := g_lt z2
      refine g_gd (fun z3 => ?_)
      have y3 := g_lt z3
      refine g_bv (fun t8 => ?_)
      refine g_if (fun _ => ?_) (fun _ => ?_)
      · skip
        refine g_if (fun _ => ?_) (fun _ => ?_)
        · skip
          exact g_tP (ih x5 x7 (x7 + 1) M) g_id g_id hM
        · skip
          exact g_tP (g_X8_sure_b110 n x1 x2 x3 x4 (f_X8_sure_b59 n x1 x2 x3 x4 u) x5 x6 x7 t8 M ih) g_id g_id hM
      · skip
        exact g_tP (g_X8_sure_b110 n x1 x2 x3 x4 (f_X8_sure_b59 n x1 x2 x3 x4 u) x5 x6 x7 t8 M ih) g_id g_id hM
theorem g_X8_sure (n : Nat) (x1 : Int32) (x2 : Int32) (x3 : Int32) (x4 : Int32) (M : m_M) : q_H (f_X8_sure n x1 x2 x3 x4 M) (fun a => g_fr w_64 w_82 M a.2) := by
  have hM : g_fr w_64 w_82 M M := g_rf
  unfold f_X8_sure
  refine g_o2 (g_X8_isAsked n x1 x4 M) (fun i j h => (h.elim (fun h => Or.inl (h)) (fun h => (h.elim (fun h => Or.inr (Or.inl (h))) (fun h => (h.elim (fun h => Or.inr (Or.inr (Or.inl (h)))) (fun h => (h.elim (fun h => Or.inr (Or.inr (Or.inr (Or.inl (h))))) (fun h => (h.elim (fun h => Or.inr (Or.inr (Or.inr (Or.inr (Or.inl (h)))))) (fun h => (h.elim (fun h => Or.inr (Or.inr (Or.inr (Or.inr (Or.inr (Or.inr (Or.inr (Or.inr (Or.inr (Or.inr (Or.inl (h)))))))))))) (fun h => absurd h (Nat.lt_irrefl i)))))))))))))) (fun i j h => absurd h (Nat.lt_irrefl i)) hM (fun r11 M12 hM12 => ?_)
  refine g_if (fun _ => ?_) (fun _ => ?_)
  · skip
    exact g_sp hM12
  · skip
    refine g_bv (fun r15 => ?_)
    refine g_if (fun _ => ?_) (fun _ => ?_)
    · skip
      exact g_sp hM12
    · skip
      refine g_bv (fun r18 => ?_)
      refine g_if (fun _ => ?_) (fun _ => ?_)
      · skip
        exact g_sp hM12
      · skip
        refine g_ov (fun r21 => ?_)
        refine g_if (fun _ => ?_) (fun _ => ?_)
        · skip
          refine g_o2 (g_X8_layWays n x1 x2 x4 M12) g_id (fun i j h => (h.elim (fun h => Or.inr (Or.inr (Or.inl (h)))) (fun h => (h.elim (fun h => Or.inr (Or.inr (Or.inr (Or.inl (h))))) (fun h => (h.elim (fun h => Or.inr (Or.inr (Or.inr (Or.inr (Or.inl (h)))))) (fun h => (h.elim (fun h => Or.inr (Or.inr (Or.inr (Or.inr (Or.inr (Or.inl (h))))))) (fun h => (h.elim (fun h => Or.inr (Or.inr (Or.inr (Or.inr (Or.inr (Or.inr (Or.inl (h)))))))) (fun h => (h.elim (fun h => Or.inr (Or.inr (Or.inr (Or.inr (Or.inr (Or.inr (Or.inr (Or.inl (h))))))))) (fun h => (h.elim (fun h => Or.inr (Or.inr (Or.inr (Or.inr (Or.inr (Or.inr (Or.inr (Or.inr (Or.inl (h)))))))))) (fun h => (h.elim (fun h => Or.inr (Or.inr (Or.inr (Or.inr (Or.inr (Or.inr (Or.inr (Or.inr (Or.inr (Or.inl (h))))))))))) (fun h => (h.elim (fun h => Or.inr (Or.inr (Or.inr (Or.inr (Or.inr (Or.inr (Or.inr (Or.inr (Or.inr (Or.inr (Or.inl (h)))))))))))) (fun h => (h.elim (fun h => Or.inr (Or.inr (Or.inr (Or.inr (Or.inr (Or.inr (Or.inr (Or.inr (Or.inr (Or.inr (Or.inr (Or.inl (h))))))))))))) (fun h => absurd h (Nat.lt_irrefl i)))))))))))))))))))))) hM12 (fun r24 M25 hM25 => ?_)
          exact g_tP (g_X8_sure_b59 n x1 x2 x3 x4 n r24 0 1 M25) g_id g_id hM25
        · skip
          exact g_sp hM12
theorem g_X8_type_b35 (n : Nat) (x1 : Int64) (x3 : Int32) : ∀ (u : Nat) (x4 : Int32) (M : m_M), q_H (f_X8_type_b35 n x1 x3 u x4 M) (fun a => g_fr w_83 w_1 M a.2) := by
  intro u
  induction u with
  | zero => exact fun _ _ _ h => nomatch h
  | succ u ih =>
    intro x4 M
    have hM : g_fr w_83 w_1 M M := g_rf
    rw [f_X8_type_b35]
    refine g_if (fun _ => ?_) (fun _ => ?_)
    · skip
      exact g_sp hM
    · skip
      refine g_gd (fun z1 => ?_)
      have y1 := g_lt z1
      refine g_bI hM (Or.inr (Or.inl (by omega))) (fun M3 hM3 => ?_)
      refine g_bI hM3 (Or.inl (by omega)) (fun M4 hM4 => ?_)
      exact g_tP (ih (x4 + (-1)) M4) g_id g_id hM4
theorem g_X8_type (n : Nat) (x1 : Int64) (x3 : Int32) (M : m_M) : q_H (f_X8_type n x1 x3 M) (fun a => g_fr w_83 w_1 M a.2) := by
  have hM : g_fr w_83 w_1 M M := g_rf
  unfold f_X8_type
  refine g_bv (fun r5 => ?_)
  refine g_if (fun _ => ?_) (fun _ => ?_)
  · skip
    exact g_sp hM
  · skip
    refine g_if (fun _ => ?_) (fun _ => ?_)
    · skip
      exact g_tP (g_X8_type_b35 n x1 x3 n (x3 - (1 : Int32)) M) g_id g_id hM
    · skip
      exact g_sp hM
theorem g_X8_unline (M : m_M) : g_fr w_84 w_1 M (f_X8_unline M).2 := by
  unfold f_X8_unline
  simp only [m_bd, f_X8_persons, f_X8_lined]
  repeat' split
  all_goals (repeat' (first | exact g_rf | refine g_sI ?_ (by first | exact Or.inl (by omega))))
theorem g_X8_wise_b38 (n : Nat) (x1 : Int32) (x2 : Int32) (x3 : Int32) : ∀ (u : Nat) (x4 : Int32) (M : m_M), q_H (f_X8_wise_b38 n x1 x2 x3 u x4 M) (fun a => g_fr w_64 w_61 M a.2) := by
  intro u
  induction u with
  | zero => exact fun _ _ _ h => nomatch h
  | succ u ih =>
    intro x4 M
    have hM : g_fr w_64 w_61 M M := g_rf
    rw [f_X8_wise_b38]
    refine g_if (fun _ => ?_) (fun _ => ?_)
    · skip
      exact g_sp hM
    · skip
      refine g_o2 (g_X8_netOf n x1 0 x4 0 M) (fun i j h => (h.elim (fun h => Or.inr (Or.inr (Or.inr (Or.inr (Or.inr (Or.inl (h))))))) (fun h => (h.elim (fun h => Or.inr (Or.inr (Or.inr (Or.inr (Or.inr (Or.inr (Or.inl (h)))))))) (fun h => (h.elim (fun h => Or.inr (Or.inr (Or.inr (Or.inr (Or.inr (Or.inr (Or.inr (Or.inl (h))))))))) (fun h => (h.elim (fun h => Or.inr (Or.inr (Or.inr (Or.inr (Or.inr (Or.inr (Or.inr (Or.inr (Or.inl (h)))))))))) (fun h => (h.elim (fun h => Or.inr (Or.inr (Or.inr (Or.inr (Or.inr (Or.inr (Or.inr (Or.inr (Or.inr (Or.inl (h))))))))))) (fun h => (h.elim (fun h => Or.inr (Or.inr (Or.inr (Or.inr (Or.inr (Or.inr (Or.inr (Or.inr (Or.inr (Or.inr (Or.inr (Or.inl (h))))))))))))) (fun h => absurd h (Nat.lt_irrefl i)))))))))))))) g_id hM (fun r2 M3 hM3 => ?_)
      refine g_if (fun _ => ?_) (fun _ => ?_)
      · skip
        exact g_tP (ih (x4 + 1) M3) g_id g_id hM3
      · skip
        exact g_sp hM3
theorem g_X8_wise (n : Nat) (x1 : Int32) (x2 : Int32) (x3 : Int32) (M : m_M) : q_H (f_X8_wise n x1 x2 x3 M) (fun a => g_fr w_64 w_61 M a.2) := by
  have hM : g_fr w_64 w_61 M M := g_rf
  unfold f_X8_wise
  refine g_bv (fun r5 => ?_)
  refine g_if (fun _ => ?_) (fun _ => ?_)
  · skip
    exact g_sp hM
  · skip
    refine g_bv (fun r8 => ?_)
    refine g_if (fun _ => ?_) (fun _ => ?_)
    · skip
      exact g_sp hM
    · skip
      refine g_bv (fun r11 => ?_)
      refine g_if (fun _ => ?_) (fun _ => ?_)
      · skip
        exact g_sp hM
      · skip
        refine g_oM (g_X8_layToday n x3 M) g_id g_id hM (fun M14 hM14 => ?_)
        exact g_tP (g_X8_wise_b38 n x1 x2 x3 n 0 M14) g_id g_id hM14
theorem g_X8_write (x1 : Int32) (x2 : Int32) (M : m_M) : q_H (f_X8_write x1 x2 M) (fun a => g_fr w_70 w_1 M a.2) := by
  have hM : g_fr w_70 w_1 M M := g_rf
  unfold f_X8_write
  refine g_bv (fun r1 => ?_)
  refine g_if (fun _ => ?_) (fun _ => ?_)
  · skip
    exact g_sp hM
  · skip
    refine g_bv (fun r4 => ?_)
    refine g_if (fun _ => ?_) (fun _ => ?_)
    · skip
      exact g_sp hM
    · skip
      refine g_gd (fun z1 => ?_)
      have y1 := g_lt z1
      refine g_bv (fun t8 => ?_)
      refine g_if (fun _ => ?_) (fun _ => ?_)
      · skip
        exact g_sp hM
      · skip
        refine g_gd (fun z2 => ?_)
        have y2 := g_lt z2
        refine g_bI hM (Or.inl (by omega)) (fun M11 hM11 => ?_)
        refine g_bI hM11 (Or.inl (by omega)) (fun M12 hM12 => ?_)
        exact g_sp hM12
