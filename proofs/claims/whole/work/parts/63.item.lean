/-! THE TEXT: the class reads an item -/
theorem j_K3 {T p : Nat} {t : Nat → Nat} (hp : p ≤ T) : (j_K T t p = 3 ↔ j_S T t p < T ∧ t (j_S T t p) = 45) ∧ (j_K T t p = 4 ↔ j_S T t p < T ∧ t (j_S T t p) = 59) ∧ ((j_K T t p = 3 ∨ j_K T t p = 4) → j_E T t p = j_S T t p + 1) := by
  have hs := (j_S_b t hp).2.1
  unfold j_K j_E j_L
  by_cases c0 : j_S T t p = T
  · rw [if_pos c0, if_pos c0]
    exact ⟨⟨fun q => by omega, fun q => by omega⟩, ⟨fun q => by omega, fun q => by omega⟩, fun q => by omega⟩
  rw [if_neg c0, if_neg c0]
  by_cases c1 : j_sm (t (j_S T t p)) = true
  · have := of_decide_eq_true c1
    rw [if_pos c1, if_pos c1]
    exact ⟨⟨fun q => by omega, fun q => by omega⟩, ⟨fun q => by omega, fun q => by omega⟩, fun q => by omega⟩
  rw [if_neg c1, if_neg c1]
  by_cases c2 : j_fi (t (j_S T t p)) = true
  · have := of_decide_eq_true c2
    rw [if_pos c2, if_pos c2]
    refine ⟨⟨fun q => ?_, fun q => by omega⟩, ⟨fun q => ?_, fun q => by omega⟩, fun q => ?_⟩
    · split at q <;> omega
    · split at q <;> omega
    · split at q <;> omega
  rw [if_neg c2, if_neg c2]
  by_cases c3 : t (j_S T t p) = 45
  · rw [if_pos c3]
    exact ⟨⟨fun q => ⟨by omega, c3⟩, fun q => rfl⟩, ⟨fun q => by omega, fun q => by omega⟩, fun _ => rfl⟩
  rw [if_neg c3]
  by_cases c4 : t (j_S T t p) = 59
  · rw [if_pos c4]
    exact ⟨⟨fun q => by omega, fun q => by omega⟩, ⟨fun q => ⟨by omega, c4⟩, fun q => rfl⟩, fun _ => rfl⟩
  · rw [if_neg c4]
    exact ⟨⟨fun q => by omega, fun q => by omega⟩, ⟨fun q => by omega, fun q => by omega⟩, fun q => by omega⟩
theorem j_sign {n T p x κ : Nat} {t : Nat → Nat} {b : Int32} {M : m_M} (hn : 400 < n) (h : j_C T t p b M) (hx : x = 45 ∧ κ = 3 ∨ x = 59 ∧ κ = 4) : q_T (f_X2_sign n (nI x) M) (fun a => (j_K T t p = κ → j_C T t (j_E T t p) b a) ∧ (j_K T t p ≠ κ → ∃ p', j_C T t p' (j_bl b (j_S T t p)) a)) := by
  have h5 := h.2.2.2.2.1
  have h4 := h.2.2.2.1
  obtain ⟨s1, s2, s3⟩ := j_S_b t h4
  obtain ⟨k3, k4, kE⟩ := j_K3 (t := t) h4
  have kk : j_K T t p = κ ↔ j_S T t p < T ∧ t (j_S T t p) = x := by
    rcases hx with ⟨q1, q2⟩ | ⟨q1, q2⟩
    · subst q1 q2
      exact k3
    · subst q1 q2
      exact k4
  unfold f_X2_sign
  refine q_ob (q_mono (j_skip (by omega) h) (fun M1 h1 => ?_))
  rw [h1.1, h1.2.1]
  by_cases c : j_S T t p = T
  · refine q_it ((q_le (by omega) (by omega)).mpr (by omega)) (q_bd (q_some ⟨fun q => ?_, fun _ => ⟨_, j_C_bl h1⟩⟩))
    have := (kk.mp q).1
    omega
  · refine q_if (fun q => absurd ((q_le (by omega) (by omega)).mp q) (by omega)) (q_gd (q_in (by omega) (by decide)) ?_)
    rw [q_cl (by omega), h1.2.2.2.2.2.2 _ (by omega)]
    by_cases c2 : t (j_S T t p) = x
    · refine q_it (congrArg nI c2) (q_bd (q_some ⟨fun q => ?_, fun q => absurd (kk.mpr ⟨by omega, c2⟩) q⟩))
      rw [kE (by omega), q_up]
      exact j_C_mv h1 (by omega)
    · refine q_if (fun q => c2 ((nI_eq (by have := h.2.2.2.2.2.1 (j_S T t p); omega) (by omega)).mp q)) (q_bd (q_some ⟨fun q => absurd (kk.mp q).2 c2, fun _ => ⟨_, j_C_bl h1⟩⟩))
abbrev j_nb (k : Nat) : Prop := ¬ (k = 5 ∨ k = 9 ∨ k = 10 ∨ k = 13)
abbrev j_nv (k : Nat) : Prop := (1 ≤ k ∧ k ≤ 4) ∨ (9 ≤ k ∧ k ≤ 13)
abbrev j_okb (T : Nat) (t : Nat → Nat) (k p : Nat) : Prop := j_K T t p = 2 ∨ (j_K T t p = 3 ∧ k = 0)
theorem j_ch6 : ∀ kd, kd < 15 → f_J0_charAt_5068e 6 (nI kd) = some (if kd = 0 then 104 else if kd = 5 ∨ kd = 9 ∨ kd = 10 ∨ kd = 13 then 45 else if kd = 11 ∨ kd = 12 then 111 else if kd = 14 then 119 else 116) := by decide +kernel
theorem j_ch7 : ∀ kd, kd < 15 → f_J0_charAt_5068e 7 (nI kd) = some (if (1 ≤ kd ∧ kd ≤ 4) ∨ (9 ≤ kd ∧ kd ≤ 13) then 115 else 45) := by decide +kernel
theorem j_second {n T p k : Nat} {t : Nat → Nat} {b c : Int32} {M : m_M} (hn : 400 < n) (h : j_C T t p b M) (hc : c = 104 ↔ k = 0) : q_T (f_X2_second n c M) (fun a => (j_okb T t k p → a.1 = (if j_K T t p = 3 then -1 else nI (j_V T t p)) ∧ j_C T t (j_E T t p) b a.2) ∧ (¬ j_okb T t k p → ∃ p', j_C T t p' (j_bl b (j_S T t p)) a.2)) := by
  have h5 := h.2.2.2.2.1
  have h4 := h.2.2.2.1
  obtain ⟨s1, s2, s3⟩ := j_S_b t h4
  obtain ⟨k3, k4, kE⟩ := j_K3 (t := t) h4
  obtain ⟨t1, t2, t3, t4, t5⟩ := j_tok_S t h4
  have num : ∀ M1, j_C T t (j_S T t p) b M1 → ¬ (j_K T t p = 3 ∧ k = 0) → q_T (f_X2_number n M1) (fun a => (j_okb T t k p → a.1 = (if j_K T t p = 3 then -1 else nI (j_V T t p)) ∧ j_C T t (j_E T t p) b a.2) ∧ (¬ j_okb T t k p → ∃ p', j_C T t p' (j_bl b (j_S T t p)) a.2)) := by
    intro M1 h1 hk
    refine q_mono (j_num hn h1) (fun a ha => ?_)
    obtain ⟨a1, a2, a3⟩ := ha
    rw [t3, t4] at a2
    rw [t3, j_S_id t h4] at a3
    rw [t5] at a1
    refine ⟨fun q => ?_, fun q => a3 (fun w => q (Or.inl w))⟩
    have q2 : j_K T t p = 2 := by
      rcases q with q | q
      · exact q
      · exact absurd q hk
    rw [if_neg (by omega)]
    exact ⟨a1, a2 q2⟩
  unfold f_X2_second
  refine q_ob (q_mono (j_skip (by omega) h) (fun M1 h1 => ?_))
  by_cases c0 : k = 0
  · refine q_it (hc.mpr c0) ?_
    rw [h1.1, h1.2.1]
    by_cases c1 : j_S T t p = T
    · exact q_it ((q_le (by omega) (by omega)).mpr (by omega)) (q_o2 (q_mono (num M1 h1 (fun q => by have := (k3.mp q.1).1; omega)) (fun a ha => q_some ha)))
    · refine q_if (fun q => absurd ((q_le (by omega) (by omega)).mp q) (by omega)) (q_gd (q_in (by omega) (by decide)) ?_)
      rw [q_cl (by omega), h1.2.2.2.2.2.2 _ (by omega)]
      by_cases c2 : t (j_S T t p) = 45
      · have q3 := k3.mpr ⟨by omega, c2⟩
        refine q_it (by rw [c2]; rfl) (q_ob (q_mono (j_sign (x := 45) (κ := 3) (by omega) h1 (Or.inl ⟨rfl, rfl⟩)) (fun a ha => q_some ?_)))
        rw [t3, t4] at ha
        exact ⟨fun _ => ⟨(if_pos q3).symm, ha.1 q3⟩, fun q => absurd (Or.inr ⟨q3, c0⟩) q⟩
      · refine q_if (fun q => c2 ((nI_eq (b := 45) (by have := h.2.2.2.2.2.1 (j_S T t p); omega) (by omega)).mp q)) (q_o2 (q_mono (num M1 h1 (fun q => c2 (k3.mp q.1).2)) (fun a ha => q_some ha)))
  · exact q_if (fun q => c0 (hc.mp q)) (q_o2 (q_mono (num M1 h1 (fun q => c0 q.2)) (fun a ha => q_some ha)))
/-- an item -/
def j_p1 (T : Nat) (t : Nat → Nat) (p : Nat) : Nat := j_E T t p
def j_k (T : Nat) (t : Nat → Nat) (p : Nat) : Nat := (j_vb T t (j_p1 T t p)).toNatClampNeg
def j_p2 (T : Nat) (t : Nat → Nat) (p : Nat) : Nat := j_E T t (j_p1 T t p)
def j_p3 (T : Nat) (t : Nat → Nat) (p : Nat) : Nat := j_E T t (j_p2 T t p)
def j_p4 (T : Nat) (t : Nat → Nat) (p : Nat) : Nat := if j_nb (j_k T t p) then j_E T t (j_p3 T t p) else j_p3 T t p
def j_p5 (T : Nat) (t : Nat → Nat) (p : Nat) : Nat := if j_nv (j_k T t p) then j_E T t (j_p4 T t p) else j_p4 T t p
def j_p6 (T : Nat) (t : Nat → Nat) (p : Nat) : Nat := j_E T t (j_p5 T t p)
def j_b (T : Nat) (t : Nat → Nat) (p : Nat) : Int32 := if j_nb (j_k T t p) then (if j_K T t (j_p3 T t p) = 3 then -1 else nI (j_V T t (j_p3 T t p))) else 0
def j_v (T : Nat) (t : Nat → Nat) (p : Nat) : Int32 := if j_nv (j_k T t p) then nI (j_V T t (j_p4 T t p)) else 0
/-- the flaw, by its places -/
def j_f5 (T : Nat) (t : Nat → Nat) (p : Nat) : Int32 := if j_K T t (j_p5 T t p) = 4 then -1 else nI (j_S T t (j_p5 T t p))
def j_f4 (T : Nat) (t : Nat → Nat) (p : Nat) : Int32 := if j_nv (j_k T t p) ∧ j_K T t (j_p4 T t p) ≠ 2 then nI (j_S T t (j_p4 T t p)) else j_f5 T t p
def j_f3 (T : Nat) (t : Nat → Nat) (p : Nat) : Int32 := if j_nb (j_k T t p) ∧ ¬ j_okb T t (j_k T t p) (j_p3 T t p) then nI (j_S T t (j_p3 T t p)) else j_f4 T t p
def j_f2 (T : Nat) (t : Nat → Nat) (p : Nat) : Int32 := if j_K T t (j_p2 T t p) = 2 then j_f3 T t p else nI (j_S T t (j_p2 T t p))
def j_f1 (T : Nat) (t : Nat → Nat) (p : Nat) : Int32 := if j_vb T t (j_p1 T t p) = -1 then nI (j_S T t (j_p1 T t p)) else j_f2 T t p
def j_fl (T : Nat) (t : Nat → Nat) (p : Nat) : Int32 := if j_K T t p = 2 then j_f1 T t p else nI (j_S T t p)
theorem j_pb {T p : Nat} (t : Nat → Nat) (hp : p ≤ T) : p ≤ j_p1 T t p ∧ j_p1 T t p ≤ j_p2 T t p ∧ j_p2 T t p ≤ j_p3 T t p ∧ j_p3 T t p ≤ j_p4 T t p ∧ j_p4 T t p ≤ j_p5 T t p ∧ j_p5 T t p ≤ j_p6 T t p ∧ j_p6 T t p ≤ T := by
  obtain ⟨a1, b1, _⟩ := j_E_b t hp
  obtain ⟨a2, b2, _⟩ := j_E_b t (show j_p1 T t p ≤ T from b1)
  obtain ⟨a3, b3, _⟩ := j_E_b t (show j_p2 T t p ≤ T from b2)
  obtain ⟨a4, b4, _⟩ := j_E_b t (show j_p3 T t p ≤ T from b3)
  have h4 : j_p3 T t p ≤ j_p4 T t p ∧ j_p4 T t p ≤ T := by
    unfold j_p4
    split
    · exact ⟨a4, b4⟩
    · exact ⟨Nat.le_refl _, b3⟩
  obtain ⟨a5, b5, _⟩ := j_E_b t h4.2
  have h5 : j_p4 T t p ≤ j_p5 T t p ∧ j_p5 T t p ≤ T := by
    unfold j_p5
    split
    · exact ⟨a5, b5⟩
    · exact ⟨Nat.le_refl _, h4.2⟩
  obtain ⟨a6, b6, _⟩ := j_E_b t h5.2
  exact ⟨a1, a2, a3, h4.1, h5.1, a6, b6⟩
def j_X (T : Nat) (t : Nat → Nat) (b : Int32) (M : m_M) : Prop := b ≠ -1 ∧ ∃ p, j_C T t p b M
theorem j_X_bl {T s : Nat} {t : Nat → Nat} {M : m_M} (hs : s < 2 ^ 31) (h : ∃ p', j_C T t p' (j_bl (-1) s) M) : j_X T t (nI s) M := by
  have e : j_bl (-1) s = nI s := if_pos rfl
  rw [e] at h
  exact ⟨q_m1 hs, h⟩
theorem j_X_num {n T : Nat} {t : Nat → Nat} {b : Int32} {M : m_M} (hn : 400 < n) (h : j_X T t b M) : q_T (f_X2_number n M) (fun a => j_X T t b a.2) := by
  obtain ⟨hb, p, h⟩ := h
  refine q_mono (j_num hn h) (fun a ha => ⟨hb, ?_⟩)
  obtain ⟨a1, a2, a3⟩ := ha
  by_cases c : j_K T t p = 2
  · exact ⟨_, a2 c⟩
  · have e : j_bl b (j_S T t p) = b := if_neg hb
    rw [e] at a3
    exact a3 c
theorem j_X_sec {n T : Nat} {t : Nat → Nat} {b c : Int32} {M : m_M} (hn : 400 < n) (h : j_X T t b M) : q_T (f_X2_second n c M) (fun a => j_X T t b a.2) := by
  obtain ⟨hb, p, h⟩ := h
  refine q_mono (j_second (k := if c = 104 then 0 else 1) hn h ?_) (fun a ha => ⟨hb, ?_⟩)
  · by_cases q : c = 104
    · rw [if_pos q]
      exact ⟨fun _ => rfl, fun _ => q⟩
    · rw [if_neg q]
      exact ⟨fun w => absurd w q, fun w => absurd w (by omega)⟩
  · obtain ⟨a2, a3⟩ := ha
    by_cases q : j_okb T t (if c = 104 then 0 else 1) p
    · exact ⟨_, (a2 q).2⟩
    · have e : j_bl b (j_S T t p) = b := if_neg hb
      rw [e] at a3
      exact a3 q
theorem j_X_sI {T : Nat} {t : Nat → Nat} {b x : Int32} {M : m_M} {j : Nat} (hj : 4 ≤ j) (h : j_X T t b M) : j_X T t b (m_sI M 168 j x) := by
  obtain ⟨hb, p, h⟩ := h
  exact ⟨hb, p, j_C_fr h (fun i j' q => by rw [q_r, if_neg (by omega)])⟩
theorem j_X109 {n T : Nat} {t : Nat → Nat} {b x : Int32} {M : m_M} (hn : 400 < n) (h : j_X T t b M) : q_T (f_X2_next_b109 n x M) (fun a => a.1 = 0 ∧ a.2.1 168 3 = b) := by
  unfold f_X2_next_b109
  obtain ⟨hb, p, h⟩ := j_X_sI (j := 8) (x := x) (by omega) h
  refine q_bd (q_ob (q_mono (j_sign (x := 59) (κ := 4) hn h (Or.inr ⟨rfl, rfl⟩)) (fun a ha => ?_)))
  have e : j_bl b (j_S T t p) = b := if_neg hb
  rw [e] at ha
  have e3 : a.1 168 3 = b := by
    by_cases c : j_K T t p = 4
    · exact (ha.1 c).2.2.1
    · obtain ⟨p', q⟩ := ha.2 c
      exact q.2.2.1
  rw [e3]
  exact q_if hb (q_some ⟨rfl, e3⟩)
theorem j_X83 {n T k : Nat} {t : Nat → Nat} {b x : Int32} {M : m_M} (hn : 400 < n) (hk : k < 15) (h : j_X T t b M) (h5 : M.1 168 5 = nI k) : q_T (f_X2_next_b83 n x M) (fun a => a.1 = 0 ∧ a.2.1 168 3 = b) := by
  unfold f_X2_next_b83
  refine q_bd ?_
  have h' := j_X_sI (j := 7) (x := x) (by omega) h
  have e5 : (m_sI M 168 7 x).1 168 5 = nI k := by rw [q_r, if_neg (by omega), h5]
  rw [e5]
  refine q_ob (q_of (j_ch7 k hk) (q_ite (fun _ => j_X109 hn h') (fun _ => q_o2 (q_mono (j_X_num hn h') (fun a ha => j_X109 hn ha)))))
