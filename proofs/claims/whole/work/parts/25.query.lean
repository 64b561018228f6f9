/-! QUERIES: what every query finds laid, on both sides -/
def k_fr (M M' : m_M) : Prop := (∀ i j, (i < 45 ∨ (i = 168 ∧ j = 1) ∨ i = 169 ∨ (173 ≤ i ∧ i ≤ 176) ∨ (i = 172 ∧ j = 4)) → M'.1 i j = M.1 i j) ∧ ∀ i j, (i = 8 ∨ i = 13 ∨ i = 23 ∨ i = 28 ∨ i = 37 ∨ i = 42) → M'.2 i j = M.2 i j
theorem k_fr_rf {M : m_M} : k_fr M M := ⟨fun _ _ _ => rfl, fun _ _ _ => rfl⟩
theorem k_fr_tr {M M1 M2 : m_M} (h : k_fr M M1) (h2 : k_fr M1 M2) : k_fr M M2 := ⟨fun i j q => (h2.1 i j q).trans (h.1 i j q), fun i j q => (h2.2 i j q).trans (h.2 i j q)⟩
theorem k_Z_fr {k tl : Nat} {tx : Nat → Int32} {M M' : m_M} (h : k_Z k M tl tx) (e : k_fr M M') (hk : k = 5 ∨ k = 10 ∨ k = 20 ∨ k = 25 ∨ k = 34 ∨ k = 39) : k_Z k M' tl tx := by
  obtain ⟨fl, val, h1, h2⟩ := h
  exact ⟨fl, val, e_YC_fr h1 (fun j => e.1 _ _ (by omega)) (fun j => e.1 _ _ (by omega)) (fun j => e.2 _ _ (by omega)), h2⟩
theorem k_A_fr {C : k_C} {k : Nat} {M M' : m_M} (h : k_A C k M) (e : k_fr M M') (hk : k = 1 ∨ k = 16 ∨ k = 30) : k_A C k M' := by
  obtain ⟨h0, h1, h2, h3, h4, h5, h6, h7⟩ := h
  refine ⟨(e.1 _ _ (by omega)).trans h0, (e.1 _ _ (by omega)).trans h1, (e.1 _ _ (by omega)).trans h2, (e.1 _ _ (by omega)).trans h3, (e.1 _ _ (by omega)).trans h4, fun j hj => (e.1 _ _ (by omega)).trans (h5 j hj), fun j hj => (e.1 _ _ (by omega)).trans (h6 j hj), fun l hl => ?_⟩
  obtain ⟨a, b, c⟩ := h7 l hl
  exact ⟨(e.1 _ _ (by omega)).trans a, fun j hj => (e.1 _ _ (by omega)).trans (b j hj), k_Z_fr c e (by omega)⟩
theorem k_E_fr {C : k_C} {c o : Nat} {M M' : m_M} (h : k_E C c o M) (e : k_fr M M') (hc : c = 173 ∨ c = 174) : k_E C c o M' := by
  obtain ⟨h0, h1, h2, h5, h6, h7⟩ := h
  refine ⟨(e.1 _ _ (by omega)).trans h0, (e.1 _ _ (by omega)).trans h1, (e.1 _ _ (by omega)).trans h2, fun j hj => (e.1 _ _ (by omega)).trans (h5 j hj), fun j hj => (e.1 _ _ (by omega)).trans (h6 j hj), fun l hl => ?_⟩
  obtain ⟨a, b⟩ := h7 l hl
  exact ⟨(e.1 _ _ (by omega)).trans a, fun j hj => (e.1 _ _ (by omega)).trans (b j hj)⟩
theorem k_I_fr {C : k_C} {i : Nat} {M M' : m_M} (h : k_I C i M) (e : k_fr M M') (hi : i < 2) : k_I C i M' := by
  obtain ⟨h0, h1, h2⟩ := h
  have a := e.1 44 i (by omega)
  have b := e.1 175 i (by omega)
  refine ⟨by rw [a, b, h0], by rw [a]; exact h1, fun c => ?_⟩
  rw [a] at c
  obtain ⟨x, y, z⟩ := h2 c
  exact ⟨x, k_A_fr y e (by omega), k_E_fr z e (by omega)⟩
theorem k_T_fr {M M' : m_M} (h : k_T M) (e : k_fr M M') : k_T M' := by
  obtain ⟨T, h0, h1, h2, h3⟩ := h
  refine ⟨T, h0, (e.1 _ _ (by omega)).trans h1, (e.1 _ _ (by omega)).trans h2, fun j hj => ?_⟩
  rw [e.1 169 j (by omega), e.1 176 j (by omega)]
  exact h3 j hj
theorem k_M_fr {C C0 C1 : k_C} {M M' : m_M} (h : k_M C C0 C1 M) (e : k_fr M M') (f : M'.2 0 8 = M'.2 172 5 ∧ M'.2 0 9 = M'.2 172 6) : k_M C C0 C1 M' := by
  obtain ⟨⟨a, b, c⟩, ⟨d, d'⟩, t, _⟩ := h
  exact ⟨⟨a, k_A_fr b e (by omega), k_E_fr c e (by omega)⟩, ⟨k_I_fr d e (by omega), k_I_fr d' e (by omega)⟩, k_T_fr t e, f⟩
theorem k_M_fr2 {C C0 C1 : k_C} {M M' : m_M} (h : k_M C C0 C1 M) (e : k_fr M M') (f : ∀ i j, (i = 0 ∧ (j = 8 ∨ j = 9)) ∨ (i = 172 ∧ (j = 5 ∨ j = 6)) → M'.2 i j = M.2 i j) : k_M C C0 C1 M' :=
  k_M_fr h e ⟨by rw [f _ _ (by omega), f _ _ (by omega)]; exact h.2.2.2.1, by rw [f _ _ (by omega), f _ _ (by omega)]; exact h.2.2.2.2⟩
/-! hands do not hang on what is doubted -/
theorem e_st0 {S : Nat → Nat → Int32} {D kd a : Nat} {day b v : Int32} {p : Nat} (h0 : kd ≠ 0) (h14 : kd < 14) : h_st S D kd a day b v 0 p = S 0 p := by
  have hc : kd = 1 ∨ kd = 2 ∨ kd = 3 ∨ kd = 4 ∨ kd = 5 ∨ kd = 6 ∨ kd = 7 ∨ kd = 8 ∨ kd = 9 ∨ kd = 10 ∨ kd = 11 ∨ kd = 12 ∨ kd = 13 := by omega
  rcases hc with e | e | e | e | e | e | e | e | e | e | e | e | e <;> subst e <;> simp [h_st, h_up]
theorem e_st0' {S S' : Nat → Nat → Int32} {D D' kd a : Nat} {day b v : Int32} (h : ∀ p, S 0 p = S' 0 p) (hk : kd < 15) (p : Nat) : h_st S D kd a day b v 0 p = h_st S' D' kd a day b v 0 p := by
  by_cases c : kd ≠ 0 ∧ kd < 14
  · rw [e_st0 c.1 c.2, e_st0 c.1 c.2, h]
  · have : kd = 0 ∨ kd = 14 := by omega
    rcases this with e | e <;> subst e <;> simp [h_st, h_up, h]
theorem e_hands {r : Nat → Int32} {N : Nat} (hW : h_W r N) (so so' : Nat → Bool) : ∀ k, k ≤ N → ∀ p, (h_S r so k).1 0 p = (h_S r so' k).1 0 p
  | 0, _, p => rfl
  | k + 1, hk, p => by
    have ih := e_hands hW so so' k (by omega)
    obtain ⟨hv, hd⟩ := hW k (by omega)
    have key : ∀ so'', (∀ p, (h_S r so'' k).1 0 p = (h_S r so' k).1 0 p) → (h_S r so'' (k + 1)).1 0 p = h_st (h_S r so' k).1 0 (h_kd r k) (h_a r k) (r (6 * k)) (r (6 * k + 3)) (r (6 * k + 4)) 0 p := by
      intro so'' e
      rw [h_S]
      by_cases c : r (6 * k + 5) ≠ 0 ∧ so'' (h_S r so'' k).2.2 = false
      · rw [if_pos c]
        have := hd.2 c.1
        rw [e_st0 (by omega) (by have := hv.2.1; omega)]
        exact e p
      · rw [if_neg c]
        exact e_st0' e hv.2.1 p
    rw [key so ih, key so' (fun _ => rfl)]
theorem e_ac_cg {S S' : Nat → Nat → Int32} {P : Nat} (h : e_ac S P) (e : ∀ p, S' 0 p = S 0 p) : e_ac S' P := by
  obtain ⟨h1, ρ, h2, h3⟩ := h
  exact ⟨fun p hp => by rw [e]; exact h1 p hp, ρ, h2, fun p q hp hq c => h3 p q hp hq (by rw [← e]; exact c)⟩
theorem k_ac {C : k_C} (hV : k_V C) (so : Nat → Bool) {k : Nat} (hk : k ≤ k_N C) : e_ac (h_S (k_r C) so k).1 (k_P C) := e_ac_cg (hV.2.2.2.2.1 k hk) (e_hands hV.2.1 so h_all k hk)
/-! the class -/
theorem k_replay {n K : Nat} {C : k_C} {M : m_M} {day ns : Int32} (hn : 200 < n) (hV : k_V C) (hA : k_A C 1 M) (hd : h_day (k_r C) (k_N C) day K) : q_T (f_X1_replay n day ns M) (fun M' => (h_R (h_S (k_r C) (h_ns ns) K).1 (h_D (k_r C) K) M' ∧ M'.1 45 5 = day ∧ ∀ p j, p < 10 → 5 ≤ j → j < 7 → M'.1 (49 + 5 * p) j = 0) ∧ h_fr M M') :=
  h_replay (by omega) hV.1.2.1 hV.2.1 hd hA.2.1 hA.2.2.2.2.2.1
def k_gn (C : k_C) (S : Nat → Nat → Int32) (fl : Int32) (val : (Nat → Int64) → Int64) : Nat → Int32 := e_N S (k_P C) (e_gn S (k_P C) fl val)
theorem k_reckon {n K : Nat} {C : k_C} {M : m_M} {day ns fl : Int32} {val : (Nat → Int64) → Int64} (hn : 200 < n) (hV : k_V C) (hA : k_A C 1 M) (hY : k_YC 5 M fl val) (hd : h_day (k_r C) (k_N C) day K) : q_T (f_X1_reckon n day ns M) (fun M' => (h_R (h_S (k_r C) (h_ns ns) K).1 (h_D (k_r C) K) M' ∧ M'.1 45 5 = day ∧ ∀ p, p < k_P C → M'.1 (49 + 5 * p) 5 = e_sec (h_S (k_r C) (h_ns ns) K).1 (k_gn C (h_S (k_r C) (h_ns ns) K).1 fl val) p (k_P C)) ∧ (∀ i j, ¬ h_cell i → M'.1 i j = M.1 i j) ∧ ∀ i j, i ≠ 9 → i ≠ 14 → i ≠ 48 → M'.2 i j = M.2 i j) := by
  unfold f_X1_reckon
  refine q_ob (q_mono (k_replay (ns := ns) hn hV hA hd) (fun M1 h1 => ?_))
  obtain ⟨⟨a1, a2, a3⟩, a4⟩ := h1
  have hD : h_D (k_r C) K ≤ 60 := by
    have := h_D_le (k_r C) K
    have := hd.1
    have := hV.1.2.1
    omega
  have hY1 : k_YC 5 M1 fl val := e_YC_fr hY (fun j => a4.2 _ _ (h_cell1 (by omega))) (fun j => a4.2 _ _ (h_cell1 (by omega))) (fun j => by rw [a4.1])
  refine q_ob (q_mono (q_TH (e_addSeconds (n := n) hn hV.1.1 hD (k_ac hV (h_ns ns) hd.1) a1 ((a4.2 1 0 (h_cell1 (by omega))).trans hA.1) hY1 (fun p hp => a3 p 5 hp (by omega) (by omega))) (g_X1_addSeconds n M1)) (fun M2 h2 => q_some ?_))
  obtain ⟨⟨b1, b2⟩, g⟩ := h2
  refine ⟨⟨b1, (g.1 45 5 (by unfold w_16; omega)).trans a2, b2⟩, fun i j hi => (g.1 i j ?_).trans (a4.2 i j hi), fun i j h9 h14 h48 => (g.2 i j ?_).trans (by rw [a4.1])⟩
  · unfold h_cell at hi
    unfold w_16
    omega
  · unfold w_15
    omega
/-! the reference -/
theorem k_EG {S : Nat → Nat → Int32} {D : Nat} {C : k_C} {M : m_M} (hQ : h_Q S D M) (hE : k_E C 173 0 M) : e_G S D (k_P C) (k_t C) (k_x C) M := by
  obtain ⟨h0, h1, h2, h5, h6, h7⟩ := hE
  refine ⟨hQ, h0, fun l hl => ?_⟩
  have := h7 l hl
  rw [Nat.zero_add, Nat.zero_add] at this
  exact this
theorem k_layDay {n K : Nat} {C : k_C} {M : m_M} {day so : Int32} (hn : 200 < n) (hV : k_V C) (hE : k_E C 173 0 M) (h24 : M.1 172 24 = so) (hd : h_day (k_r C) (k_N C) day K) : q_T (f_X8_layDay n day M) (h_L (k_r C) (k_N C) K so day) :=
  h_layDay (by omega) hV.1.2.1 hV.2.1 hd h24 hE.2.1 (fun j hj => by have := hE.2.2.2.1 j hj; rw [Nat.zero_add] at this; exact this)
theorem h_L_fr {r : Nat → Int32} {N K : Nat} {so day : Int32} {M M' : m_M} (h : h_L r N K so day M) (e : ∀ i j, i = 173 ∨ (177 ≤ i ∧ i ≤ 191) ∨ (i = 172 ∧ 22 ≤ j ∧ j ≤ 26) → M'.1 i j = M.1 i j) : h_L r N K so day M' := by
  obtain ⟨a1, a2, a3, a4, a5, a6, a7⟩ := h
  exact ⟨e_Q_fr a1 (fun i j p q => e i j (by omega)), (e _ _ (by omega)).trans a2, (e _ _ (by omega)).trans a3, ⟨(e _ _ (by omega)).trans a4.1, (e _ _ (by omega)).trans a4.2⟩, fun k hk e4 => (e _ _ (by omega)).trans (a5 k hk e4), (e _ _ (by omega)).trans a6, fun j hj => (e _ _ (by omega)).trans (a7 j hj)⟩
theorem k_layAll {n K : Nat} {C : k_C} {M : m_M} {day so fl : Int32} {val : (Nat → Int64) → Int64} (hn : 200 < n) (hV : k_V C) (hE : k_E C 173 0 M) (hY : k_YR (k_t C 0) (k_x C 0) fl val) (h24 : M.1 172 24 = so) (hd : h_day (k_r C) (k_N C) day K) : q_T (f_X8_layAll n day M) (fun M' => h_L (k_r C) (k_N C) K so day M' ∧ ∀ p, p < k_P C → M'.1 195 p = k_gn C (h_S (k_r C) (h_sb so) K).1 fl val p) := by
  unfold f_X8_layAll
  refine q_ob (q_mono (q_TH (k_layDay hn hV hE h24 hd) (g_X8_layDay n day M)) (fun M1 h1 => ?_))
  obtain ⟨a, g⟩ := h1
  have hE1 : k_E C 173 0 M1 := by
    obtain ⟨h0, h1, h2, h5, h6, h7⟩ := hE
    have gg : ∀ j, M1.1 173 j = M.1 173 j := fun j => g.1 173 j (by unfold w_53; omega)
    refine ⟨(gg _).trans h0, (gg _).trans h1, (gg _).trans h2, fun j hj => (gg _).trans (h5 j hj), fun j hj => (gg _).trans (h6 j hj), fun l hl => ⟨(gg _).trans (h7 l hl).1, fun j hj => (gg _).trans ((h7 l hl).2 j hj)⟩⟩
  refine q_ob (q_mono (q_TH (e_findNets (n := n) hn hV.1.1 (k_ac hV (h_sb so) hd.1) hY (k_EG a.1 hE1)) (g_X8_findNets n M1)) (fun M2 h2 => q_some ⟨?_, h2.1⟩))
  exact h_L_fr a (fun i j hij => h2.2.1 i j (by unfold w_62; omega))
