/-! CALLS on a deal: is it asked well, is it early -/
theorem h_D_ex (r : Nat → Int32) : ∀ N d, d < h_D r N → ∃ k, k < N ∧ h_kd r k = 4 ∧ h_D r k = d
  | 0, d, h => absurd h (Nat.not_lt_zero _)
  | N + 1, d, h => by
    by_cases c : d < h_D r N
    · obtain ⟨k, a, b, e⟩ := h_D_ex r N d c
      exact ⟨k, by omega, b, e⟩
    · rw [h_D] at h
      by_cases c4 : h_kd r N = 4
      · rw [if_pos c4] at h
        exact ⟨N, by omega, c4, by omega⟩
      · rw [if_neg c4] at h
        exact absurd h c
theorem h_D_lt_iff {r : Nat → Int32} {k K : Nat} (e : h_kd r k = 4) : h_D r k < h_D r K ↔ k < K := by
  constructor
  · intro h
    by_cases c : k < K
    · exact c
    · have := h_D_mono r K (k - K)
      rw [show K + (k - K) = k by omega] at this
      omega
  · intro h
    exact h_D_lt h e
theorem k_asked {n : Nat} {C C0 C1 : k_C} {M : m_M} (hn : 200 < n) (hM : k_M C C0 C1 M) (x1 x2 : Int32) : q_T (f_X8_isAsked n x1 x2 M) (fun a => (a.1 = if e_in x1 (h_D (k_r C) (k_N C)) = 0 then 0 else if e_in x2 1000 = 0 then 0 else 1) ∧ k_M C C0 C1 a.2 ∧ ∀ k, k < k_N C → h_kd (k_r C) k = 4 → a.2.1 185 (h_D (k_r C) k) = nI k) := by
  have hV := hM.1.1
  obtain ⟨K, hK⟩ := k_isday hV 999
  have hD : h_D (k_r C) (k_N C) < 2 ^ 31 := by
    have := h_D_le (k_r C) (k_N C)
    have := hV.1.2.1
    omega
  refine q_mono (q_TH (P := fun a => (a.1 = if e_in x1 (h_D (k_r C) (k_N C)) = 0 then 0 else if e_in x2 1000 = 0 then 0 else 1) ∧ ∀ k, k < k_N C → h_kd (k_r C) k = 4 → a.2.1 185 (h_D (k_r C) k) = nI k) ?_ (g_X8_isAsked n x1 x2 M)) (fun a ha => ⟨ha.1.1, k_M_fr2 hM ⟨fun i j q => ha.2.1 i j (by unfold w_54; omega), fun i j q => ha.2.2 i j (by unfold w_1; omega)⟩ (fun i j q => ha.2.2 i j (by unfold w_1; omega)), ha.1.2⟩)
  unfold f_X8_isAsked
  refine q_bd ?_
  have hM1 : k_M C C0 C1 (m_sI M 172 24 31) := k_M_fr2 hM ⟨fun i j q => by rw [q_r, if_neg (by omega)], fun i j q => rfl⟩ (fun _ _ _ => rfl)
  refine q_ob (q_mono (k_layDay (n := n) hn hV hM1.1.2.2 (by rw [q_r, if_pos ⟨rfl, rfl⟩]) hK) (fun M2 h2 => q_bd ?_))
  rw [e_dl8 hD h2.2.1]
  by_cases c1 : e_in x1 (h_D (k_r C) (k_N C)) = 0
  · refine q_it c1 (q_some ⟨?_, h2.2.2.2.2.1⟩)
    rw [if_pos c1]
  · refine q_if c1 (q_bd ?_)
    rw [e_day8, if_neg c1]
    by_cases c2 : e_in x2 1000 = 0
    · refine q_it c2 (q_some ⟨?_, h2.2.2.2.2.1⟩)
      rw [if_pos c2]
    · refine q_if c2 (q_some ⟨?_, h2.2.2.2.2.1⟩)
      rw [if_neg c2]
theorem k_early {C : k_C} {M : m_M} {day : Int32} {K d : Nat} (hV : k_V C) (hE : k_E C 173 0 M) (h185 : ∀ k, k < k_N C → h_kd (k_r C) k = 4 → M.1 185 (h_D (k_r C) k) = nI k) (hK : h_day (k_r C) (k_N C) day K) (hd : d < h_D (k_r C) (k_N C)) : f_X8_isEarly (nI d) day M = some (if d < h_D (k_r C) K then 0 else 1) := by
  obtain ⟨k, k1, k2, rfl⟩ := h_D_ex _ _ _ hd
  have hN := hV.1.2.1
  have := h_D_le (k_r C) (k_N C)
  have hof := h_of (j := 0) (M := M) (r := k_r C) (N := k_N C) (fun j hj => by have := hE.2.2.2.1 j hj; rw [Nat.zero_add] at this; exact this) k1 hN (by omega)
  rw [Nat.add_zero] at hof
  unfold f_X8_isEarly m_gd
  rw [if_pos (q_in (by omega) (by decide)), q_cl (by omega), h185 k k1 k2]
  have h2 : f_X8_of (nI k) 0 M = some (k_r C (6 * k)) := hof
  rw [h2]
  show (if k_r C (6 * k) ≤ day then some 0 else some 1) = _
  by_cases c : k < K
  · rw [if_pos (hK.2.1 k c), if_pos ((h_D_lt_iff k2).mpr c)]
  · rw [if_neg (Int32.not_le.mpr (hK.2.2 k (by omega) k1)), if_neg (fun q => c ((h_D_lt_iff k2).mp q))]
