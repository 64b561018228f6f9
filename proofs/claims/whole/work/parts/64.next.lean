/-! THE TEXT: the class's next item */ -/
def j_kp (M M' : m_M) : Prop := ∀ j, 4 ≤ j → j < 8 → M'.1 168 j = M.1 168 j
theorem j_n109 {n T p : Nat} {t : Nat → Nat} {x : Int32} {M : m_M} (hn : 400 < n) (h : j_C T t p (-1) M) : q_T (f_X2_next_b109 n x M) (fun a => (j_K T t p = 4 → a.1 = 1 ∧ j_C T t (j_E T t p) (-1) a.2 ∧ a.2.1 168 8 = x ∧ j_kp M a.2) ∧ (j_K T t p ≠ 4 → a.1 = 0 ∧ a.2.1 168 3 = nI (j_S T t p))) := by
  have h5 := h.2.2.2.2.1
  have hs := (j_S_b t h.2.2.2.1).2.1
  unfold f_X2_next_b109
  have h' : j_C T t p (-1) (m_sI M 168 8 x) := j_C_fr h (fun i j' q => by rw [q_r, if_neg (by omega)])
  refine q_bd (q_ob (q_mono (q_TH (j_sign (x := 59) (κ := 4) hn h' (Or.inr ⟨rfl, rfl⟩)) (g_X2_sign n _ _)) (fun a ha => ?_)))
  obtain ⟨⟨a1, a2⟩, g⟩ := ha
  by_cases c : j_K T t p = 4
  · have q := a1 c
    refine q_it q.2.2.1 (q_some ⟨fun _ => ⟨rfl, q, ?_, fun j j1 j2 => ?_⟩, fun w => absurd c w⟩)
    · rw [g.1 168 8 (by unfold w_41; omega), q_r, if_pos ⟨rfl, rfl⟩]
    · rw [g.1 168 j (by unfold w_41; omega), q_r, if_neg (by omega)]
  · obtain ⟨b1, p', q⟩ := j_X_bl (by omega) (a2 c)
    exact q_if (by rw [q.2.2.1]; exact b1) (q_some ⟨fun w => absurd w c, fun _ => ⟨rfl, q.2.2.1⟩⟩)
theorem j_n83 {n T p p4 k : Nat} {t : Nat → Nat} {x : Int32} {M : m_M} (hn : 400 < n) (hk : k < 15) (hkk : k = j_k T t p) (hp : p4 = j_p4 T t p) (h : j_C T t p4 (-1) M) (h5 : M.1 168 5 = nI k) : q_T (f_X2_next_b83 n x M) (fun a => (j_f4 T t p = -1 → a.1 = 1 ∧ j_C T t (j_p6 T t p) (-1) a.2 ∧ a.2.1 168 8 = j_v T t p ∧ a.2.1 168 7 = x ∧ a.2.1 168 4 = M.1 168 4 ∧ a.2.1 168 5 = M.1 168 5 ∧ a.2.1 168 6 = M.1 168 6) ∧ (j_f4 T t p ≠ -1 → a.1 = 0 ∧ a.2.1 168 3 = j_f4 T t p)) := by
  have hT := h.2.2.2.2.1
  have hp4 := h.2.2.2.1
  have hs := (j_S_b t hp4).2.1
  unfold f_X2_next_b83
  have h' : j_C T t p4 (-1) (m_sI M 168 7 x) := j_C_fr h (fun i j' q => by rw [q_r, if_neg (by omega)])
  have e5 : (m_sI M 168 7 x).1 168 5 = nI k := by rw [q_r, if_neg (by omega), h5]
  have f7 : (m_sI M 168 7 x).1 168 7 = x := by rw [q_r, if_pos ⟨rfl, rfl⟩]
  have fo : ∀ j, 4 ≤ j → j < 7 → (m_sI M 168 7 x).1 168 j = M.1 168 j := fun j j1 j2 => by rw [q_r, if_neg (by omega)]
  refine q_bd ?_
  rw [e5]
  generalize m_sI M 168 7 x = M1 at *
  refine q_ob (q_of (j_ch7 k hk) ?_)
  have tail : ∀ (M2 : m_M) (y : Int32), j_C T t (j_p5 T t p) (-1) M2 → y = j_v T t p → (∀ j, 4 ≤ j → j < 8 → M2.1 168 j = M1.1 168 j) → j_f4 T t p = j_f5 T t p → q_T (f_X2_next_b109 n y M2) (fun a => (j_f4 T t p = -1 → a.1 = 1 ∧ j_C T t (j_p6 T t p) (-1) a.2 ∧ a.2.1 168 8 = j_v T t p ∧ a.2.1 168 7 = x ∧ a.2.1 168 4 = M.1 168 4 ∧ a.2.1 168 5 = M.1 168 5 ∧ a.2.1 168 6 = M.1 168 6) ∧ (j_f4 T t p ≠ -1 → a.1 = 0 ∧ a.2.1 168 3 = j_f4 T t p)) := by
    intro M2 y h2 hy e2 ef
    subst hy
    have hs5 := (j_S_b t h2.2.2.2.1).2.1
    refine q_mono (j_n109 hn h2) (fun a ha => ?_)
    obtain ⟨a1, a2⟩ := ha
    rw [ef]
    unfold j_f5
    by_cases c : j_K T t (j_p5 T t p) = 4
    · obtain ⟨b1, b2, b3, b4⟩ := a1 c
      rw [if_pos c]
      exact ⟨fun _ => ⟨b1, b2, b3, (b4 7 (by omega) (by omega)).trans ((e2 7 (by omega) (by omega)).trans f7), (b4 4 (by omega) (by omega)).trans ((e2 4 (by omega) (by omega)).trans (fo 4 (by omega) (by omega))), (b4 5 (by omega) (by omega)).trans ((e2 5 (by omega) (by omega)).trans (fo 5 (by omega) (by omega))), (b4 6 (by omega) (by omega)).trans ((e2 6 (by omega) (by omega)).trans (fo 6 (by omega) (by omega)))⟩, fun w => absurd rfl w⟩
    · rw [if_neg c]
      exact ⟨fun w => absurd w (q_m1 (by omega)), fun _ => a2 c⟩
  by_cases c : j_nv (j_k T t p)
  · have c' : (1 ≤ k ∧ k ≤ 4) ∨ (9 ≤ k ∧ k ≤ 13) := by rw [hkk]; exact c
    rw [if_pos c']
    refine q_if (by decide) (q_o2 (q_mono (q_TH (j_num hn h') (g_X2_number n M1)) (fun a ha => ?_)))
    obtain ⟨⟨a1, a2, a3⟩, g⟩ := ha
    by_cases c2 : j_K T t p4 = 2
    · have e : j_p5 T t p = j_E T t p4 := by
        rw [hp]
        exact if_pos c
      have ef : j_f4 T t p = j_f5 T t p := if_neg (fun q => q.2 (by rw [← hp]; exact c2))
      refine tail a.2 a.1 (by rw [e]; exact a2 c2) ?_ (fun j j1 j2 => g.1 168 j (by unfold w_41; omega)) ef
      rw [a1, hp]
      exact (if_pos c).symm
    · have ef : j_f4 T t p = nI (j_S T t p4) := by
        rw [hp]
        exact if_pos ⟨c, by rw [← hp]; exact c2⟩
      rw [ef]
      have hx := j_X_bl (by omega) (a3 c2)
      refine q_mono (j_X109 (x := a.1) hn hx) (fun a ha => ⟨fun w => absurd w (q_m1 (by omega)), fun _ => ha⟩)
  · have c' : ¬ ((1 ≤ k ∧ k ≤ 4) ∨ (9 ≤ k ∧ k ≤ 13)) := by rw [hkk]; exact c
    rw [if_neg c']
    have e : j_p5 T t p = p4 := by
      rw [hp]
      exact if_neg c
    have ef : j_f4 T t p = j_f5 T t p := if_neg (fun q => c q.1)
    exact q_it rfl (tail M1 0 (by rw [e]; exact h') (if_neg c).symm (fun _ _ _ => rfl) ef)
theorem j_next {n T p : Nat} {t : Nat → Nat} {M : m_M} (hn : 1600 < n) (h : j_C T t p (-1) M) : q_T (f_X2_next n M) (fun a => (j_S T t p = T → a.1 = 0 ∧ a.2.1 168 3 = -1) ∧ (j_S T t p ≠ T → (j_fl T t p = -1 → a.1 = 1 ∧ j_C T t (j_p6 T t p) (-1) a.2 ∧ a.2.1 168 4 = nI (j_V T t p) ∧ a.2.1 168 5 = nI (j_k T t p) ∧ j_k T t p < 15 ∧ a.2.1 168 6 = nI (j_V T t (j_p2 T t p)) ∧ a.2.1 168 7 = j_b T t p ∧ a.2.1 168 8 = j_v T t p) ∧ (j_fl T t p ≠ -1 → a.1 = 0 ∧ a.2.1 168 3 = j_fl T t p))) := by
  have hT := h.2.2.2.2.1
  have hp := h.2.2.2.1
  obtain ⟨o1, o2, o3, o4, o5, o6, o7⟩ := j_pb t hp
  have sb : ∀ q, q ≤ T → j_S T t q < 2 ^ 31 := fun q hq => by
    have := (j_S_b t hq).2.1
    omega
  obtain ⟨s1, s2, s3⟩ := j_S_b t hp
  obtain ⟨t1, t2, t3, t4, t5⟩ := j_tok_S t hp
  unfold f_X2_next
  refine q_ob (q_mono (j_skip (by omega) h) (fun M1 h1 => ?_))
  rw [h1.1, h1.2.1]
  by_cases c0 : j_S T t p = T
  · exact q_if (fun q => absurd ((q_lt (by omega) (by omega)).mp q) (by omega)) (q_some ⟨fun _ => ⟨rfl, h1.2.2.1⟩, fun q => absurd c0 q⟩)
  refine q_it ((q_lt (by omega) (by omega)).mpr (by omega)) ?_
  -- failing from here on is failing at b
  have F83 : ∀ (b : Int32) (M2 : m_M) (k : Nat) (y : Int32), j_X T t b M2 → k < 15 → M2.1 168 5 = nI k → j_fl T t p = b → q_T (f_X2_next_b83 n y M2) (fun a => (j_S T t p = T → a.1 = 0 ∧ a.2.1 168 3 = -1) ∧ (j_S T t p ≠ T → (j_fl T t p = -1 → a.1 = 1 ∧ j_C T t (j_p6 T t p) (-1) a.2 ∧ a.2.1 168 4 = nI (j_V T t p) ∧ a.2.1 168 5 = nI (j_k T t p) ∧ j_k T t p < 15 ∧ a.2.1 168 6 = nI (j_V T t (j_p2 T t p)) ∧ a.2.1 168 7 = j_b T t p ∧ a.2.1 168 8 = j_v T t p) ∧ (j_fl T t p ≠ -1 → a.1 = 0 ∧ a.2.1 168 3 = j_fl T t p))) := by
    intro b M2 k y hx hk e5 ef
    refine q_mono (j_X83 (x := y) (by omega) hk hx e5) (fun a ha => ⟨fun q => absurd q c0, fun _ => ?_⟩)
    rw [ef]
    exact ⟨fun q => absurd q hx.1, fun _ => ha⟩
  refine q_o2 (q_mono (q_TH (j_num (by omega) h1) (g_X2_number n M1)) (fun a ha => ?_))
  obtain ⟨⟨a1, a2, a3⟩, g⟩ := ha
  rw [t3, t4] at a2
  rw [t3, j_S_id t hp] at a3
  rw [t5] at a1
  refine q_bd ?_
  -- what follows the first number, failing at b
  have F1 : ∀ (b : Int32) (M2 : m_M), j_X T t b M2 → j_fl T t p = b → q_T (m_o2 (f_X2_verb n M2) fun r15 M16 => m_bd (m_sI M16 168 5 r15) fun M17 => if (M17.1 168 5) = (-1) then some (0, M17) else m_o2 (f_X2_number n M17) fun r19 M20 => m_bd (m_sI M20 168 6 r19) fun M21 => m_ob (f_J0_charAt_5068e 6 (M21.1 168 5)) fun r22 => if r22 = 45 then f_X2_next_b83 n 0 M21 else m_ob (f_J0_charAt_5068e 6 (M21.1 168 5)) fun r25 => m_o2 (f_X2_second n r25 M21) fun r27 M28 => f_X2_next_b83 n r27 M28) (fun a => (j_S T t p = T → a.1 = 0 ∧ a.2.1 168 3 = -1) ∧ (j_S T t p ≠ T → (j_fl T t p = -1 → a.1 = 1 ∧ j_C T t (j_p6 T t p) (-1) a.2 ∧ a.2.1 168 4 = nI (j_V T t p) ∧ a.2.1 168 5 = nI (j_k T t p) ∧ j_k T t p < 15 ∧ a.2.1 168 6 = nI (j_V T t (j_p2 T t p)) ∧ a.2.1 168 7 = j_b T t p ∧ a.2.1 168 8 = j_v T t p) ∧ (j_fl T t p ≠ -1 → a.1 = 0 ∧ a.2.1 168 3 = j_fl T t p))) := by
    intro b M2 hx ef
    obtain ⟨hb, p', hx'⟩ := hx
    refine q_o2 (q_mono (j_verb (by omega) hx') (fun r hr => q_bd ?_))
    obtain ⟨r1, r2, r3⟩ := hr
    have hX : j_X T t b r.2 := by
      refine ⟨hb, ?_⟩
      by_cases c : j_vb T t p' = -1
      · have e : j_bl b (j_S T t p') = b := if_neg hb
        rw [e] at r3
        exact r3 c
      · exact ⟨_, r2 c⟩
    have hX' := j_X_sI (j := 5) (x := r.1) (by omega) hX
    have e5 : (m_sI r.2 168 5 r.1).1 168 5 = r.1 := by rw [q_r, if_pos ⟨rfl, rfl⟩]
    rw [e5]
    by_cases c : r.1 = -1
    · obtain ⟨_, p2, hx2⟩ := hX'
      refine q_it c (q_some ⟨fun q => absurd q c0, fun _ => ?_⟩)
      rw [ef]
      exact ⟨fun q => absurd q hb, fun _ => ⟨rfl, hx2.2.2.1⟩⟩
    · obtain ⟨k, hk, ek⟩ := (j_vb_of (by rw [← r1]; exact c)).2
      rw [r1, ek]
      refine q_if (q_m1 (by omega)) (q_o2 (q_mono (q_TH (j_X_num (by omega) (by rw [← ek, ← r1]; exact hX')) (g_X2_number n _)) (fun y hy => q_bd ?_)))
      obtain ⟨y1, y2⟩ := hy
      have hX2 := j_X_sI (j := 6) (x := y.1) (by omega) y1
      have f5 : (m_sI y.2 168 6 y.1).1 168 5 = nI k := by rw [q_r, if_neg (by omega), y2.1 168 5 (by unfold w_41; omega), q_r, if_pos ⟨rfl, rfl⟩]
      rw [f5]
      refine q_ob (q_of (j_ch6 k hk) (q_ite (fun _ => F83 b _ k 0 hX2 hk f5 ef) (fun _ => q_ob (q_of (j_ch6 k hk) (q_o2 (q_mono (q_TH (j_X_sec (by omega) hX2) (g_X2_second n _ _)) (fun z hz => ?_)))))))
      exact F83 b z.2 k z.1 hz.1 hk ((hz.2.1 168 5 (by unfold w_41; omega)).trans f5) ef
  by_cases c1 : ¬ j_K T t p = 2
  · have ef : j_fl T t p = nI (j_S T t p) := if_neg c1
    exact F1 _ _ (j_X_sI (j := 4) (by omega) (j_X_bl (sb p hp) (a3 c1))) ef
  replace c1 := Classical.not_not.mp c1
  have ef1 : j_fl T t p = j_f1 T t p := if_pos c1
  have h2 : j_C T t (j_p1 T t p) (-1) (m_sI a.2 168 4 a.1) := j_C_fr (a2 c1) (fun i j' q => by rw [q_r, if_neg (by omega)])
  have k4 : (m_sI a.2 168 4 a.1).1 168 4 = nI (j_V T t p) := by rw [q_r, if_pos ⟨rfl, rfl⟩, a1]
  generalize m_sI a.2 168 4 a.1 = M2 at *
  refine q_o2 (q_mono (q_TH (j_verb (by omega) h2) (g_X2_verb n M2)) (fun r hr => q_bd ?_))
  obtain ⟨⟨r1, r2, r3⟩, g2⟩ := hr
  have e5 : (m_sI r.2 168 5 r.1).1 168 5 = r.1 := by rw [q_r, if_pos ⟨rfl, rfl⟩]
  have e4 : (m_sI r.2 168 5 r.1).1 168 4 = nI (j_V T t p) := by rw [q_r, if_neg (by omega), g2.1 168 4 (by unfold w_41; omega), k4]
  rw [e5]
  by_cases c2 : j_vb T t (j_p1 T t p) = -1
  · have ef2 : j_f1 T t p = nI (j_S T t (j_p1 T t p)) := if_pos c2
    have hx := j_X_sI (j := 5) (x := r.1) (by omega) (j_X_bl (sb _ (by omega)) (r3 c2))
    obtain ⟨hb, p2, hx2⟩ := hx
    refine q_it (r1.trans c2) (q_some ⟨fun q => absurd q c0, fun _ => ?_⟩)
    rw [ef1, ef2]
    exact ⟨fun q => absurd q hb, fun _ => ⟨rfl, hx2.2.2.1⟩⟩
  have ef2 : j_f1 T t p = j_f2 T t p := if_neg c2
  obtain ⟨k, hk, ek⟩ := (j_vb_of c2).2
  have ekk : k = j_k T t p := by
    unfold j_k
    rw [ek, q_cl (by omega)]
  have h3 : j_C T t (j_p2 T t p) (-1) (m_sI r.2 168 5 r.1) := j_C_fr (r2 c2) (fun i j' q => by rw [q_r, if_neg (by omega)])
  rw [r1, ek] at e5 e4 h3 ⊢
  generalize m_sI r.2 168 5 (nI k) = M3 at *
  refine q_if (q_m1 (by omega)) (q_o2 (q_mono (q_TH (j_num (by omega) h3) (g_X2_number n M3)) (fun y hy => q_bd ?_)))
  obtain ⟨⟨y1, y2, y3⟩, g3⟩ := hy
  have f5 : (m_sI y.2 168 6 y.1).1 168 5 = nI k := by rw [q_r, if_neg (by omega), g3.1 168 5 (by unfold w_41; omega), e5]
  have f4 : (m_sI y.2 168 6 y.1).1 168 4 = nI (j_V T t p) := by rw [q_r, if_neg (by omega), g3.1 168 4 (by unfold w_41; omega), e4]
  have f6 : (m_sI y.2 168 6 y.1).1 168 6 = nI (j_V T t (j_p2 T t p)) := by rw [q_r, if_pos ⟨rfl, rfl⟩, y1]
  rw [f5]
  have hcc : ∀ (b : Int32), j_fl T t p = b → j_X T t b (m_sI y.2 168 6 y.1) → q_T (m_ob (f_J0_charAt_5068e 6 (nI k)) fun r22 => if r22 = 45 then f_X2_next_b83 n 0 (m_sI y.2 168 6 y.1) else m_ob (f_J0_charAt_5068e 6 (nI k)) fun r25 => m_o2 (f_X2_second n r25 (m_sI y.2 168 6 y.1)) fun r27 M28 => f_X2_next_b83 n r27 M28) (fun a => (j_S T t p = T → a.1 = 0 ∧ a.2.1 168 3 = -1) ∧ (j_S T t p ≠ T → (j_fl T t p = -1 → a.1 = 1 ∧ j_C T t (j_p6 T t p) (-1) a.2 ∧ a.2.1 168 4 = nI (j_V T t p) ∧ a.2.1 168 5 = nI (j_k T t p) ∧ j_k T t p < 15 ∧ a.2.1 168 6 = nI (j_V T t (j_p2 T t p)) ∧ a.2.1 168 7 = j_b T t p ∧ a.2.1 168 8 = j_v T t p) ∧ (j_fl T t p ≠ -1 → a.1 = 0 ∧ a.2.1 168 3 = j_fl T t p))) := by
    intro b ef hx
    refine q_ob (q_of (j_ch6 k hk) (q_ite (fun _ => F83 b _ k 0 hx hk f5 ef) (fun _ => q_ob (q_of (j_ch6 k hk) (q_o2 (q_mono (q_TH (j_X_sec (by omega) hx) (g_X2_second n _ _)) (fun z hz => ?_)))))))
    exact F83 b z.2 k z.1 hz.1 hk ((hz.2.1 168 5 (by unfold w_41; omega)).trans f5) ef
  by_cases c3 : ¬ j_K T t (j_p2 T t p) = 2
  · have ef3 : j_f2 T t p = nI (j_S T t (j_p2 T t p)) := if_neg c3
    exact hcc _ (ef1.trans (ef2.trans ef3)) (j_X_sI (j := 6) (by omega) (j_X_bl (sb _ (by omega)) (y3 c3)))
  replace c3 := Classical.not_not.mp c3
  have ef3 : j_f2 T t p = j_f3 T t p := if_pos c3
  have h4 : j_C T t (j_p3 T t p) (-1) (m_sI y.2 168 6 y.1) := j_C_fr (y2 c3) (fun i j' q => by rw [q_r, if_neg (by omega)])
  clear hcc
  generalize m_sI y.2 168 6 y.1 = M4 at *
  have fin : ∀ (M5 : m_M) (z : Int32), j_C T t (j_p4 T t p) (-1) M5 → z = j_b T t p → (∀ j, 4 ≤ j → j < 7 → M5.1 168 j = M4.1 168 j) → j_f3 T t p = j_f4 T t p → q_T (f_X2_next_b83 n z M5) (fun a => (j_S T t p = T → a.1 = 0 ∧ a.2.1 168 3 = -1) ∧ (j_S T t p ≠ T → (j_fl T t p = -1 → a.1 = 1 ∧ j_C T t (j_p6 T t p) (-1) a.2 ∧ a.2.1 168 4 = nI (j_V T t p) ∧ a.2.1 168 5 = nI (j_k T t p) ∧ j_k T t p < 15 ∧ a.2.1 168 6 = nI (j_V T t (j_p2 T t p)) ∧ a.2.1 168 7 = j_b T t p ∧ a.2.1 168 8 = j_v T t p) ∧ (j_fl T t p ≠ -1 → a.1 = 0 ∧ a.2.1 168 3 = j_fl T t p))) := by
    intro M5 z h5 hz e5 ef4
    subst hz
    refine q_mono (j_n83 (x := j_b T t p) (by omega) hk ekk rfl h5 ((e5 5 (by omega) (by omega)).trans f5)) (fun a ha => ⟨fun q => absurd q c0, fun _ => ?_⟩)
    rw [ef1, ef2, ef3, ef4]
    refine ⟨fun q => ?_, ha.2⟩
    obtain ⟨b1, b2, b3, b4, b5, b6, b7⟩ := ha.1 q
    rw [← ekk]
    exact ⟨b1, b2, b5.trans ((e5 4 (by omega) (by omega)).trans f4), b6.trans ((e5 5 (by omega) (by omega)).trans f5), hk, b7.trans ((e5 6 (by omega) (by omega)).trans f6), b4, b3⟩
  refine q_ob (q_of (j_ch6 k hk) ?_)
  by_cases cb : j_nb (j_k T t p)
  · have cb' : ¬ (k = 5 ∨ k = 9 ∨ k = 10 ∨ k = 13) := by rw [ekk]; exact cb
    refine q_if ?_ (q_ob (q_of (j_ch6 k hk) (q_o2 (q_mono (q_TH (j_second (k := k) (by omega) h4 ?_) (g_X2_second n _ M4)) (fun z hz => ?_)))))
    · rw [if_neg cb']
      repeat' split
      all_goals decide
    · rw [if_neg cb']
      by_cases q : k = 0
      · rw [if_pos q]
        exact ⟨fun _ => q, fun _ => rfl⟩
      · rw [if_neg q]
        refine ⟨fun w => ?_, fun w => absurd w q⟩
        revert w
        repeat' split
        all_goals exact fun w => absurd w (by decide)
    · obtain ⟨⟨z1, z2⟩, g4⟩ := hz
      by_cases ck : j_okb T t k (j_p3 T t p)
      · have ef4 : j_f3 T t p = j_f4 T t p := if_neg (fun q => q.2 (by rw [← ekk]; exact ck))
        have e4 : j_p4 T t p = j_E T t (j_p3 T t p) := if_pos cb
        refine fin z.2 z.1 (by rw [e4]; exact (z1 ck).2) ?_ (fun j j1 j2 => g4.1 168 j (by unfold w_41; omega)) ef4
        rw [(z1 ck).1]
        exact (if_pos cb).symm
      · have ef4 : j_f3 T t p = nI (j_S T t (j_p3 T t p)) := if_pos ⟨cb, by rw [← ekk]; exact ck⟩
        exact F83 _ z.2 k z.1 (j_X_bl (sb _ (by omega)) (z2 ck)) hk ((g4.1 168 5 (by unfold w_41; omega)).trans f5) (ef1.trans (ef2.trans (ef3.trans ef4)))
  · have cb' : k = 5 ∨ k = 9 ∨ k = 10 ∨ k = 13 := by
      rw [ekk]
      exact Classical.not_not.mp cb
    have ef4 : j_f3 T t p = j_f4 T t p := if_neg (fun q => cb q.1)
    have e4 : j_p4 T t p = j_p3 T t p := if_neg cb
    refine q_it ?_ (fin M4 0 (by rw [e4]; exact h4) (if_neg cb).symm (fun _ _ _ => rfl) ef4)
    rw [if_neg (by omega), if_pos cb']
