/-! a day as all say, on both sides -/
theorem h_S_cg {r : Nat → Int32} {N : Nat} (hW : h_W r N) {so so' : Nat → Bool} (h : ∀ j, j < h_B r N → so j = so' j) : ∀ k, k ≤ N → h_S r so k = h_S r so' k
  | 0, _ => rfl
  | k + 1, hk => by
    have ih := h_S_cg hW h k (by omega)
    have e2 := (h_SD (so := so') hW k (by omega)).2
    rw [h_S, h_S, ih]
    by_cases c : r (6 * k + 5) ≠ 0
    · have hlt : h_B r k < h_B r N := by
        have h1 : h_B r (k + 1) = h_B r k + 1 := by rw [h_B, if_pos c]
        have h2 := h_B_mono r (k + 1) (N - (k + 1))
        rw [show k + 1 + (N - (k + 1)) = N by omega] at h2
        omega
      have hs : so (h_S r so' k).2.2 = so' (h_S r so' k).2.2 := by rw [e2]; exact h _ hlt
      rw [hs]
    · have n1 : ¬ (r (6 * k + 5) ≠ 0 ∧ so (h_S r so' k).2.2 = false) := fun q => c q.1
      have n2 : ¬ (r (6 * k + 5) ≠ 0 ∧ so' (h_S r so' k).2.2 = false) := fun q => c q.1
      rw [if_neg n1, if_neg n2]
theorem h_ns0 (j : Nat) : h_ns 0 j = true := by
  unfold h_ns
  rw [decide_eq_true_iff, Int32.zero_shiftRight, Int32.zero_and]
theorem h_sb31 : ∀ j, j < 5 → h_sb 31 j = true := by decide +kernel
theorem k_ns0 {C : k_C} (hV : k_V C) {K : Nat} (hK : K ≤ k_N C) : h_S (k_r C) (h_ns 0) K = h_S (k_r C) h_all K := h_S_cg hV.2.1 (fun j _ => h_ns0 j) K hK
theorem k_sb31 {C : k_C} (hV : k_V C) {K : Nat} (hK : K ≤ k_N C) : h_S (k_r C) (h_sb 31) K = h_S (k_r C) h_all K := h_S_cg hV.2.1 (fun j hj => h_sb31 j (by have := hV.1.2.2.2; omega)) K hK
theorem k_fr_h {M M' : m_M} (h : h_fr M M') : k_fr M M' := ⟨fun i j q => h.2 i j (by unfold h_cell; omega), fun i j _ => by rw [h.1]⟩
theorem k_M_h {C C0 C1 : k_C} {M M' : m_M} (h : k_M C C0 C1 M) (e : h_fr M M') : k_M C C0 C1 M' := k_M_fr2 h (k_fr_h e) (fun _ _ _ => by rw [e.1])
/-- what the law 0 tells, both ways -/
theorem k_law {C : k_C} {M : m_M} (hA : k_A C 1 M) {l : Nat} (hl : l < 2) : ∃ fl val, k_YC (5 + 5 * l) M fl val ∧ k_YR (k_t C l) (k_x C l) fl val := by
  have := (hA.2.2.2.2.2.2.2 l hl).2.2
  exact this
theorem k_isday {C : k_C} (hV : k_V C) (day : Int32) : ∃ K, h_day (k_r C) (k_N C) day K := e_isday _ hV.2.2.2.1
/-- the reference's day of today -/
theorem k_today {n K : Nat} {C C0 C1 : k_C} {M : m_M} {day fl : Int32} {val : (Nat → Int64) → Int64} (hn : 200 < n) (hM : k_M C C0 C1 M) (hY : k_YR (k_t C 0) (k_x C 0) fl val) (hd : h_day (k_r C) (k_N C) day K) : q_T (f_X8_layToday n day M) (fun M' => (h_L (k_r C) (k_N C) K 31 day M' ∧ h_Q (h_S (k_r C) h_all K).1 (h_D (k_r C) K) M' ∧ ∀ p, p < k_P C → M'.1 195 p = k_gn C (h_S (k_r C) h_all K).1 fl val p) ∧ k_M C C0 C1 M') := by
  have hV := hM.1.1
  unfold f_X8_layToday
  refine q_bd ?_
  have k1 : k_fr M (m_sI M 172 24 31) := ⟨fun i j q => by rw [q_r, if_neg (by omega)], fun i j q => rfl⟩
  have hM1 : k_M C C0 C1 (m_sI M 172 24 31) := k_M_fr2 hM k1 (fun _ _ _ => rfl)
  refine q_ob (q_mono (q_TH (k_layAll (n := n) hn hV hM1.1.2.2 hY (by rw [q_r, if_pos ⟨rfl, rfl⟩]) hd) (g_X8_layAll n day _)) (fun M2 h2 => q_some ?_))
  obtain ⟨⟨a, b⟩, g⟩ := h2
  rw [k_sb31 hV hd.1] at b
  refine ⟨⟨a, ?_, b⟩, k_M_fr2 hM1 ⟨fun i j q => g.1 i j (by unfold w_63; omega), fun i j q => g.2 i j (by unfold w_61; omega)⟩ (fun i j q => g.2 i j (by unfold w_61; omega))⟩
  have := a.1
  rw [k_sb31 hV hd.1] at this
  exact this
