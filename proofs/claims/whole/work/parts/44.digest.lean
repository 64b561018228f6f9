/-! CALLS: digest -/
def d_fo (f : Nat → Int32) : Nat → Nat → Int64 → Int64
  | 0, _, h => h
  | e + 1, x, h => d_fo f e (x + 1) ((31 : Int64) * h + (f x).toInt64)
def d_ct (C : k_C) (k : Nat) : Int32 := if k = 0 then nI (k_P C) else if k = 1 then nI (k_N C) else if k = 2 then nI (h_D (k_r C) (k_N C)) else if k = 3 then nI (h_B (k_r C) (k_N C)) else nI (k_n C)
def d_ls (C : k_C) (l : Nat) (h : Int64) : Int64 := d_fo (k_x C l) (k_t C l) 0 ((31 : Int64) * h + (nI (k_t C l)).toInt64)
def d_h3 (C : k_C) : Int64 := d_ls C 1 (d_ls C 0 (d_fo (k_r C) (6 * k_N C) 0 (d_fo (d_ct C) 5 0 491)))
def d_h4 (C : k_C) : Int64 := d_fo (k_l C) (k_n C) 0 (d_h3 C)
def d_pf (C : k_C) (S : Nat → Nat → Int32) (gn : Nat → Int32) (fl : Int32) (val : (Nat → Int64) → Int64) (fl1 : Int32) (val1 : (Nat → Int64) → Int64) : Nat → Nat → Int64 → Int64
  | 0, _, h => h
  | e + 1, p, h => d_pf C S gn fl val fl1 val1 e (p + 1) ((31 : Int64) * ((31 : Int64) * ((31 : Int64) * ((31 : Int64) * h + (S 0 p).toInt64) + (e_all S p).toInt64) + (nI (x_nn S (k_P C) gn fl val p 0)).toInt64) + (nI (x_nn S (k_P C) gn fl1 val1 p 0)).toInt64)
/-! the class -/
theorem b_d101 {n : Nat} {C : k_C} {M : m_M} (hV : k_V C) (hA : k_A C 1 M) : ∀ (e x u : Nat) (h : Int64), x + e = k_n C → e < u → f_X7_digest_b101 n u h (nI x) M = m_o2 (f_X7_digestOfPersons n (d_fo (k_l C) e x h) M) fun r2 M3 => some ((((31 : Int64) * (((31 : Int64) * r2) + (M3.2 0 8))) + (M3.2 0 9)), M3) := by
  have hn6 : k_n C ≤ 6 := hV.1.2.2.1
  intro e
  induction e with
  | zero =>
    intro x u h hx hu
    obtain ⟨u, rfl⟩ : ∃ v, u = v + 1 := ⟨u - 1, by omega⟩
    rw [f_X7_digest_b101, hA.2.2.2.2.1, if_pos ((q_le (by omega) (by omega)).mpr (by omega)), d_fo]
  | succ e ih =>
    intro x u h hx hu
    obtain ⟨u, rfl⟩ : ∃ v, u = v + 1 := ⟨u - 1, by omega⟩
    have hl : M.1 (1 + 2) x = k_l C x := hA.2.2.2.2.2.2.1 x (by omega)
    rw [f_X7_digest_b101, hA.2.2.2.2.1, if_neg (fun q => absurd ((q_le (by omega) (by omega)).mp q) (by omega))]
    unfold m_gd m_bd
    rw [if_pos (q_in (by omega) (by decide)), q_cl (by omega), hl, q_up, d_fo]
    exact ih (x + 1) u _ (by omega) (by omega)
theorem b_d15 {n k0 t : Nat} {f : Nat → Int32} {x1 : Int64} {M : m_M} (ht : t ≤ 50) (h1 : M.1 k0 1 = nI t) (hf : ∀ j, j < t → M.1 (k0 + 1) j = f j) : ∀ (e x u : Nat) (h : Int64), x + e = t → e < u → f_X4_digestFrom_b15 n k0 x1 M u h (nI x) = some (d_fo f e x h) := by
  intro e
  induction e with
  | zero =>
    intro x u h hx hu
    obtain ⟨u, rfl⟩ : ∃ v, u = v + 1 := ⟨u - 1, by omega⟩
    rw [f_X4_digestFrom_b15, h1, if_pos ((q_le (by omega) (by omega)).mpr (by omega)), d_fo]
  | succ e ih =>
    intro x u h hx hu
    obtain ⟨u, rfl⟩ : ∃ v, u = v + 1 := ⟨u - 1, by omega⟩
    rw [f_X4_digestFrom_b15, h1, if_neg (fun q => absurd ((q_le (by omega) (by omega)).mp q) (by omega))]
    unfold m_gd m_bd
    rw [if_pos (q_in (by omega) (by decide)), q_cl (by omega), hf x (by omega), q_up, d_fo]
    exact ih (x + 1) u _ (by omega) (by omega)
theorem b_dfrom {n l : Nat} {C : k_C} {M : m_M} {h : Int64} (hn : 200 < n) (hV : k_V C) (hA : k_A C 1 M) (hl : l < 2) : f_X4_digestFrom n (5 + 5 * l) h M = some (d_ls C l h) := by
  obtain ⟨a, b, _⟩ := hA.2.2.2.2.2.2.2 l hl
  have a' : M.1 (5 + 5 * l) 1 = nI (k_t C l) := a
  have ht := k_ht hV l hl
  unfold f_X4_digestFrom m_bd
  rw [a']
  exact b_d15 (n := n) ht a' (fun j hj => by have := b j hj; rw [show 5 + 5 * l + 1 = 1 + 5 + 5 * l by omega]; exact this) (k_t C l) 0 n _ (by omega) (by omega)
theorem b_d74 {n : Nat} {C : k_C} {M : m_M} (hn : 200 < n) (hV : k_V C) (hA : k_A C 1 M) (h : Int64) : f_X7_digest_b74 n n h 0 M = f_X7_digest_b101 n n (d_ls C 1 (d_ls C 0 h)) 0 M := by
  obtain ⟨m, rfl⟩ : ∃ m, n = m + 3 := ⟨n - 3, by omega⟩
  rw [f_X7_digest_b74, if_neg (by decide)]
  unfold m_gd
  rw [if_pos (show m_in (0 : Int32) 2 from q_in (i := 0) (by omega) (by decide)), show (1 + 3 + 1 + 5 * (0 : Int32).toNatClampNeg) = 5 + 5 * 0 from rfl, b_dfrom hn hV hA (by omega)]
  show f_X7_digest_b74 (m + 3) (m + 2) (d_ls C 0 h) 1 M = _
  rw [f_X7_digest_b74, if_neg (by decide)]
  unfold m_gd
  rw [if_pos (show m_in (1 : Int32) 2 from q_in (i := 1) (by omega) (by decide)), show (1 + 3 + 1 + 5 * (1 : Int32).toNatClampNeg) = 5 + 5 * 1 from rfl, b_dfrom hn hV hA (by omega)]
  show f_X7_digest_b74 (m + 3) (m + 1) (d_ls C 1 (d_ls C 0 h)) 2 M = _
  rw [f_X7_digest_b74, if_pos (by decide)]
theorem b_d35 {n : Nat} {C : k_C} {M : m_M} (hV : k_V C) (hA : k_A C 1 M) : ∀ (e x u : Nat) (h : Int64), x + e = 6 * k_N C → e < u → f_X7_digest_b35 n u h (nI x) M = f_X7_digest_b74 n n (d_fo (k_r C) e x h) 0 M := by
  have hN : k_N C ≤ 60 := hV.1.2.1
  intro e
  induction e with
  | zero =>
    intro x u h hx hu
    obtain ⟨u, rfl⟩ : ∃ v, u = v + 1 := ⟨u - 1, by omega⟩
    rw [f_X7_digest_b35, hA.2.1, q_x6, if_pos ((q_le (by omega) (by omega)).mpr (by omega)), d_fo]
  | succ e ih =>
    intro x u h hx hu
    obtain ⟨u, rfl⟩ : ∃ v, u = v + 1 := ⟨u - 1, by omega⟩
    have hr : M.1 (1 + 1) x = k_r C x := hA.2.2.2.2.2.1 x (by omega)
    rw [f_X7_digest_b35, hA.2.1, q_x6, if_neg (fun q => absurd ((q_le (by omega) (by omega)).mp q) (by omega))]
    unfold m_gd m_bd
    rw [if_pos (q_in (by omega) (by decide)), q_cl (by omega), hr, q_up, d_fo]
    exact ih (x + 1) u _ (by omega) (by omega)
theorem b_dct {C : k_C} {M : m_M} (hA : k_A C 1 M) {x : Nat} (hx : x < 5) : f_X3_howMany 1 (nI x) M = d_ct C x := by
  unfold f_X3_howMany d_ct
  rw [hA.1, hA.2.1, hA.2.2.1, hA.2.2.2.1, hA.2.2.2.2.1]
  have : x = 0 ∨ x = 1 ∨ x = 2 ∨ x = 3 ∨ x = 4 := by omega
  rcases this with q | q | q | q | q <;> subst q <;> rfl
theorem b_d6 {n : Nat} {C : k_C} {M : m_M} (hA : k_A C 1 M) : ∀ (e x u : Nat) (h : Int64), x + e = 5 → e < u → f_X7_digest_b6 n u h (nI x) M = f_X7_digest_b35 n n (d_fo (d_ct C) e x h) 0 M := by
  intro e
  induction e with
  | zero =>
    intro x u h hx hu
    obtain ⟨u, rfl⟩ : ∃ v, u = v + 1 := ⟨u - 1, by omega⟩
    have g : (5 : Int32) ≤ nI x := (q_le (a := 5) (by decide) (by omega)).mpr (by omega)
    rw [f_X7_digest_b6, if_pos g, d_fo]
  | succ e ih =>
    intro x u h hx hu
    obtain ⟨u, rfl⟩ : ∃ v, u = v + 1 := ⟨u - 1, by omega⟩
    have g : ¬ (5 : Int32) ≤ nI x := fun q => absurd ((q_le (a := 5) (by decide) (by omega)).mp q) (by omega)
    rw [f_X7_digest_b6, if_neg g]
    unfold m_bd
    rw [b_dct hA (by omega), q_up, d_fo]
    exact ih (x + 1) u _ (by omega) (by omega)
theorem b_d16 {n : Nat} {C : k_C} {so : Nat → Bool} {day : Int32} {K : Nat} {gn : Nat → Int32} {x1 : Int64} {fl fl1 : Int32} {val val1 : (Nat → Int64) → Int64} (hn : 200 < n) (hV : k_V C) (hK : K ≤ k_N C) : ∀ (e p u : Nat) (h : Int64) (M : m_M), p + e = k_P C → e < u → k_H C (h_S (k_r C) so K).1 day K gn M → k_YC 5 M fl val → k_YC 10 M fl1 val1 → q_T (f_X7_digestOfPersons_b16 n x1 u h (nI p) M) (fun a => a.1 = d_pf C (h_S (k_r C) so K).1 gn fl val fl1 val1 e p h ∧ (∀ i j, a.2.1 i j = M.1 i j) ∧ ∀ i j, ¬ w_15 i j → a.2.2 i j = M.2 i j) := by
  have hP := hV.1.1
  intro e
  induction e with
  | zero =>
    intro p u h M hx hu hH hY hY1
    obtain ⟨u, rfl⟩ : ∃ v, u = v + 1 := ⟨u - 1, by omega⟩
    rw [f_X7_digestOfPersons_b16, hH.2.1]
    exact q_it ((q_le (by omega) (by omega)).mpr (by omega)) (q_some ⟨rfl, fun _ _ => rfl, fun _ _ _ => rfl⟩)
  | succ e ih =>
    intro p u h M hx hu hH hY hY1
    obtain ⟨u, rfl⟩ : ∃ v, u = v + 1 := ⟨u - 1, by omega⟩
    rw [f_X7_digestOfPersons_b16, hH.2.1]
    refine q_if (fun q => absurd ((q_le (by omega) (by omega)).mp q) (by omega)) (q_gd (q_in (by omega) (by decide)) (q_bd ?_))
    rw [q_cl (by omega), e_hand hH.1.1 (by omega)]
    refine q_ob (q_of (e_allC (by omega) hH.1.1 (by omega)) ?_)
    refine q_o2 (q_mono (q_TH (b_net (l := 0) hn hV hK hH (by omega) hY (show p < k_P C by omega) 0) (g_X1_netOf n _ _ _ _ M)) (fun a ha => q_bd ?_))
    obtain ⟨a1, g⟩ := ha
    have ga : ∀ i j, a.2.1 i j = M.1 i j := fun i j => g.1 i j (by unfold w_1; omega)
    have hH2 := k_H_e hH ga
    have hY2 : k_YC 10 a.2 fl1 val1 := e_YC_fr hY1 (fun j => ga _ _) (fun j => ga _ _) (fun j => g.2 _ _ (by unfold w_15; omega))
    refine q_o2 (q_mono (q_TH (b_net (l := 1) hn hV hK hH2 (by omega) hY2 (show p < k_P C by omega) 0) (g_X1_netOf n _ _ _ _ a.2)) (fun b hb => ?_))
    obtain ⟨b1, g'⟩ := hb
    have gb : ∀ i j, b.2.1 i j = M.1 i j := fun i j => (g'.1 i j (by unfold w_1; omega)).trans (ga i j)
    have gl : ∀ i j, ¬ w_15 i j → b.2.2 i j = M.2 i j := fun i j q => (g'.2 i j q).trans (g.2 i j q)
    rw [a1, b1, q_up, d_pf]
    refine q_mono (ih (p + 1) u _ b.2 (by omega) (by omega) (k_H_e hH gb) (e_YC_fr hY (fun j => gb _ _) (fun j => gb _ _) (fun j => gl _ _ (by unfold w_15; omega))) (e_YC_fr hY1 (fun j => gb _ _) (fun j => gb _ _) (fun j => gl _ _ (by unfold w_15; omega)))) (fun r hr => ⟨hr.1, fun i j => (hr.2.1 i j).trans (gb i j), fun i j q => (hr.2.2 i j q).trans (gl i j q)⟩)
/-! the reference -/
theorem a_ct {n : Nat} {C C0 C1 : k_C} {M : m_M} (hn : 200 < n) (hM : k_M C C0 C1 M) {x : Nat} (hx : x < 5) : q_T (f_X8_count n (nI x) M) (fun b => b.1 = d_ct C x ∧ k_M C C0 C1 b.2 ∧ ∀ i j, b.2.2 i j = M.2 i j) := by
  obtain ⟨⟨hV, hA, hE⟩, hI⟩ := id hM
  have hE0 : M.1 173 468 = nI (k_P C) := hE.1
  have hE1 : M.1 173 469 = nI (k_N C) := hE.2.1
  have hE2 : M.1 173 470 = nI (k_n C) := hE.2.2.1
  unfold f_X8_count f_X8_persons f_X8_notes f_X8_lined d_ct
  have : x = 0 ∨ x = 1 ∨ x = 2 ∨ x = 3 ∨ x = 4 := by omega
  rcases this with q | q | q | q | q <;> subst q
  · exact q_it rfl (q_bd (q_some ⟨hE0, hM, fun _ _ => rfl⟩))
  · exact q_if (by decide) (q_it rfl (q_bd (q_some ⟨hE1, hM, fun _ _ => rfl⟩)))
  · refine q_if (by decide) (q_if (by decide) (q_it rfl (q_bd ?_)))
    obtain ⟨K, hK⟩ := k_isday hV 999
    have hM1 : k_M C C0 C1 (m_sI M 172 24 31) := k_M_fr2 hM ⟨fun i j q => by rw [q_r, if_neg (by omega)], fun i j q => rfl⟩ (fun _ _ _ => rfl)
    refine q_ob (q_mono (q_TH (k_layDay (n := n) hn hV hM1.1.2.2 (by rw [q_r, if_pos ⟨rfl, rfl⟩]) hK) (g_X8_layDay n 999 _)) (fun M2 h2 => q_some ⟨?_, k_M_fr2 hM1 ⟨fun i j q => h2.2.1 i j (by unfold w_53; omega), fun i j q => h2.2.2 i j (by unfold w_1; omega)⟩ (fun i j q => h2.2.2 i j (by unfold w_1; omega)), fun i j => h2.2.2 i j (by unfold w_1; omega)⟩))
    exact h2.1.2.1
  · exact q_if (by decide) (q_if (by decide) (q_if (by decide) (q_it rfl (q_ob (q_of (e_dm hn hV hE) (q_some ⟨rfl, hM, fun _ _ => rfl⟩))))))
  · exact q_if (by decide) (q_if (by decide) (q_if (by decide) (q_if (by decide) (q_it rfl (q_bd (q_some ⟨hE2, hM, fun _ _ => rfl⟩))))))
theorem a_d172 {n : Nat} {C C0 C1 : k_C} {so day : Int32} {K : Nat} {gn : Nat → Int32} {fl fl1 : Int32} {val val1 : (Nat → Int64) → Int64} (hn : 200 < n) (hV : k_V C) (hK : K ≤ k_N C) (hY : k_YR (k_t C 0) (k_x C 0) fl val) (hY1 : k_YR (k_t C 1) (k_x C 1) fl1 val1) : ∀ (e p u : Nat) (h : Int64) (M : m_M), p + e = k_P C → e < u → k_g C so day K gn M → k_M C C0 C1 M → q_T (f_X8_digest_b172 n u h (nI p) M) (fun a => a.1 = (31 : Int64) * ((31 : Int64) * d_pf C (h_S (k_r C) (h_sb so) K).1 gn fl val fl1 val1 e p h + M.2 172 5) + M.2 172 6 ∧ k_M C C0 C1 a.2) := by
  have hP := hV.1.1
  intro e
  induction e with
  | zero =>
    intro p u h M hx hu hg hM
    obtain ⟨u, rfl⟩ : ∃ v, u = v + 1 := ⟨u - 1, by omega⟩
    have h0 : M.1 173 468 = nI (k_P C) := hg.1.2.1
    rw [f_X8_digest_b172]
    unfold f_X8_persons
    refine q_bd ?_
    rw [h0]
    exact q_it ((q_le (by omega) (by omega)).mpr (by omega)) (q_some ⟨rfl, hM⟩)
  | succ e ih =>
    intro p u h M hx hu hg hM
    obtain ⟨u, rfl⟩ : ∃ v, u = v + 1 := ⟨u - 1, by omega⟩
    have h0 : M.1 173 468 = nI (k_P C) := hg.1.2.1
    rw [f_X8_digest_b172]
    unfold f_X8_persons
    refine q_bd ?_
    rw [h0]
    refine q_if (fun q => absurd ((q_le (by omega) (by omega)).mp q) (by omega)) (q_gd (q_in (by omega) (by decide)) (q_ob (q_of (e_inAll hg.1.1.1 (by omega)) (q_bd ?_))))
    rw [q_cl (by omega), e_Q0 hg.1.1.1 (by omega)]
    refine q_o2 (q_mono (q_TH (a_net (l := 0) hn hV hK hg (by omega) hY (show p < k_P C by omega) 0) (g_X8_netOf n _ _ _ _ M)) (fun a ha => ?_))
    obtain ⟨a1, g⟩ := ha
    have hg2 := k_g_fr hg (M' := a.2) (fun i j q => g.1 i j (by unfold w_60; omega))
    refine q_o2 (q_mono (q_TH (a_net (l := 1) hn hV hK hg2 (by omega) hY1 (show p < k_P C by omega) 0) (g_X8_netOf n _ _ _ _ a.2)) (fun b hb => q_bd ?_))
    obtain ⟨b1, g'⟩ := hb
    have hg3 := k_g_fr hg2 (M' := b.2) (fun i j q => g'.1 i j (by unfold w_60; omega))
    have gl : ∀ i j, ¬ w_61 i j → b.2.2 i j = M.2 i j := fun i j q => (g'.2 i j q).trans (g.2 i j q)
    have hM3 : k_M C C0 C1 b.2 := k_M_fr2 hM ⟨fun i j q => (g'.1 i j (by unfold w_60; omega)).trans (g.1 i j (by unfold w_60; omega)), fun i j q => gl i j (by unfold w_61; omega)⟩ (fun i j q => gl i j (by unfold w_61; omega))
    rw [a1, b1, q_up, d_pf]
    refine q_mono (ih (p + 1) u _ b.2 (by omega) (by omega) hg3 hM3) (fun r hr => ⟨?_, hr.2⟩)
    rw [hr.1, gl 172 5 (by unfold w_61; omega), gl 172 6 (by unfold w_61; omega)]
theorem a_d131 {n : Nat} {C : k_C} {M : m_M} (hV : k_V C) (hE : k_E C 173 0 M) : ∀ (e x u : Nat) (h : Int64), x + e = k_n C → e < u → f_X8_digest_b131 n u h (nI x) M = m_ob (f_X8_layToday n 999 M) fun M13 => f_X8_digest_b172 n n (d_fo (k_l C) e x h) 0 M13 := by
  have hn6 : k_n C ≤ 6 := hV.1.2.2.1
  have h4 : M.1 173 470 = nI (k_n C) := hE.2.2.1
  have e462 : ∀ x : Nat, (462 : Int32) + nI x = nI (462 + x) := fun x => q_add 462 x
  intro e
  induction e with
  | zero =>
    intro x u h hx hu
    obtain ⟨u, rfl⟩ : ∃ v, u = v + 1 := ⟨u - 1, by omega⟩
    rw [f_X8_digest_b131]
    unfold f_X8_lined m_bd
    simp only []
    rw [h4, if_pos ((q_le (by omega) (by omega)).mpr (by omega)), d_fo]
  | succ e ih =>
    intro x u h hx hu
    obtain ⟨u, rfl⟩ : ∃ v, u = v + 1 := ⟨u - 1, by omega⟩
    have hl : M.1 173 (462 + x) = k_l C x := by
      have := hE.2.2.2.2.1 x (by omega)
      rw [Nat.zero_add] at this
      exact this
    rw [f_X8_digest_b131]
    unfold f_X8_lined m_bd
    simp only []
    rw [h4, if_neg (fun q => absurd ((q_le (by omega) (by omega)).mp q) (by omega)), e462]
    unfold m_gd
    rw [if_pos (q_in (by omega) (by decide)), q_cl (by omega), hl, q_up, d_fo]
    exact ih (x + 1) u _ (by omega) (by omega)
theorem a_d75 {n l : Nat} {C : k_C} {M : m_M} {q : Int64 → Int32 → m_M → Option (Int64 × m_M)} (hV : k_V C) (hE : k_E C 173 0 M) (hl : l < 2) : ∀ (e x u : Nat) (h : Int64), x + e = k_t C l → e < u → f_X8_digest_b75 n q u h (nI l) (nI (x + 1)) M = q (d_fo (k_x C l) e x h) (nI (l + 1)) M := by
  have ht := k_ht hV l hl
  obtain ⟨e0, e1⟩ := hE.2.2.2.2.2 l hl
  rw [Nat.zero_add] at e0
  have ix : (360 : Int32) + (51 : Int32) * nI l = nI (360 + 51 * l) := by
    rw [show (51 : Int32) * nI l = nI (51 * l) from q_mul 51 l]
    exact q_add 360 _
  intro e
  induction e with
  | zero =>
    intro x u h hx hu
    obtain ⟨u, rfl⟩ : ∃ v, u = v + 1 := ⟨u - 1, by omega⟩
    rw [f_X8_digest_b75, ix]
    unfold m_gd
    rw [if_pos (q_in (by omega) (by decide)), q_cl (by omega), e0, if_pos ((q_lt (by omega) (by omega)).mpr (by omega)), d_fo, q_up]
  | succ e ih =>
    intro x u h hx hu
    obtain ⟨u, rfl⟩ : ∃ v, u = v + 1 := ⟨u - 1, by omega⟩
    have hc := e1 x (by omega)
    rw [Nat.zero_add] at hc
    rw [f_X8_digest_b75, ix]
    unfold m_gd
    rw [if_pos (q_in (by omega) (by decide)), q_cl (i := 360 + 51 * l) (by omega), e0, if_neg (fun q => absurd ((q_lt (by omega) (by omega)).mp q) (by omega)), q_add, if_pos (q_in (by omega) (by decide)), q_cl (by omega), show 360 + 51 * l + (x + 1) = 361 + 51 * l + x by omega, hc, d_fo]
    unfold m_bd
    rw [q_up]
    exact ih (x + 1) u _ (by omega) (by omega)
theorem a_d75' {n l : Nat} {C : k_C} {M : m_M} {q : Int64 → Int32 → m_M → Option (Int64 × m_M)} {h : Int64} (hn : 200 < n) (hV : k_V C) (hE : k_E C 173 0 M) (hl : l < 2) : f_X8_digest_b75 n q n h (nI l) 0 M = q (d_ls C l h) (nI (l + 1)) M := by
  have ht := k_ht hV l hl
  obtain ⟨e0, e1⟩ := hE.2.2.2.2.2 l hl
  rw [Nat.zero_add] at e0
  have ix : (360 : Int32) + (51 : Int32) * nI l = nI (360 + 51 * l) := by
    rw [show (51 : Int32) * nI l = nI (51 * l) from q_mul 51 l]
    exact q_add 360 _
  obtain ⟨m, hm⟩ : ∃ m, n = m + 1 := ⟨n - 1, by omega⟩
  have st : ∀ u, f_X8_digest_b75 n q (u + 1) h (nI l) 0 M = f_X8_digest_b75 n q u ((31 : Int64) * h + (nI (k_t C l)).toInt64) (nI l) (nI (0 + 1)) M := by
    intro u
    rw [f_X8_digest_b75, ix]
    unfold m_gd
    rw [if_pos (q_in (by omega) (by decide)), q_cl (i := 360 + 51 * l) (by omega), e0, if_neg (nI_pos (by omega)), show nI (360 + 51 * l) + 0 = nI (360 + 51 * l) from q_p0 _, if_pos (q_in (by omega) (by decide)), q_cl (by omega), e0]
    rfl
  have h2 := a_d75 (n := n) (q := q) hV hE hl (k_t C l) 0 m ((31 : Int64) * h + (nI (k_t C l)).toInt64) (by omega) (by omega)
  have h3 := st m
  rw [← hm] at h3
  rw [h3, h2]
  rfl
theorem a_d67 {n : Nat} {C : k_C} {M : m_M} (hn : 200 < n) (hV : k_V C) (hE : k_E C 173 0 M) (h : Int64) : f_X8_digest_b67 n n h 0 M = f_X8_digest_b131 n n (d_ls C 1 (d_ls C 0 h)) 0 M := by
  have s0 : ∀ u, f_X8_digest_b67 n (u + 1) h 0 M = f_X8_digest_b67 n u (d_ls C 0 h) 1 M := fun u => by
    rw [f_X8_digest_b67, if_neg (by decide)]
    exact a_d75' (l := 0) hn hV hE (by omega)
  have s1 : ∀ u h, f_X8_digest_b67 n (u + 1) h 1 M = f_X8_digest_b67 n u (d_ls C 1 h) 2 M := fun u h => by
    rw [f_X8_digest_b67, if_neg (by decide)]
    exact a_d75' (l := 1) hn hV hE (by omega)
  have s2 : ∀ u h, f_X8_digest_b67 n (u + 1) h 2 M = f_X8_digest_b131 n n h 0 M := fun u h => by
    rw [f_X8_digest_b67, if_pos (by decide)]
  obtain ⟨m, hm⟩ : ∃ m, n = m + 1 + 1 + 1 := ⟨n - 3, by omega⟩
  have e : f_X8_digest_b67 n n h 0 M = f_X8_digest_b67 n (m + 1 + 1 + 1) h 0 M := by rw [← hm]
  rw [e, s0, s1, s2]
theorem a_d32 {n : Nat} {C : k_C} {M : m_M} (hV : k_V C) (hE : k_E C 173 0 M) : ∀ (e x u : Nat) (h : Int64), x + e = 6 * k_N C → e < u → f_X8_digest_b32 n u h (nI x) M = f_X8_digest_b67 n n (d_fo (k_r C) e x h) 0 M := by
  have hN : k_N C ≤ 60 := hV.1.2.1
  have h1 : M.1 173 469 = nI (k_N C) := hE.2.1
  intro e
  induction e with
  | zero =>
    intro x u h hx hu
    obtain ⟨u, rfl⟩ : ∃ v, u = v + 1 := ⟨u - 1, by omega⟩
    rw [f_X8_digest_b32]
    unfold f_X8_notes m_bd
    simp only []
    rw [h1, q_x6, if_pos ((q_le (by omega) (by omega)).mpr (by omega)), d_fo]
  | succ e ih =>
    intro x u h hx hu
    obtain ⟨u, rfl⟩ : ∃ v, u = v + 1 := ⟨u - 1, by omega⟩
    have hr : M.1 173 x = k_r C x := by
      have := hE.2.2.2.1 x (by omega)
      rw [Nat.zero_add] at this
      exact this
    rw [f_X8_digest_b32]
    unfold f_X8_notes m_bd
    simp only []
    rw [h1, q_x6, if_neg (fun q => absurd ((q_le (by omega) (by omega)).mp q) (by omega)), q_zp]
    unfold m_gd
    rw [if_pos (q_in (by omega) (by decide)), q_cl (by omega), hr, q_up, d_fo]
    exact ih (x + 1) u _ (by omega) (by omega)
theorem a_d6 {n : Nat} {C C0 C1 : k_C} {Q : Int64 × m_M → Prop} (hn : 200 < n) {h0 : Int64} {L : Nat → Nat → Int64} (hQ : ∀ M1 : m_M, k_M C C0 C1 M1 → (∀ i j, M1.2 i j = L i j) → q_T (f_X8_digest_b32 n n h0 0 M1) Q) : ∀ (e x u : Nat) (h : Int64) (M : m_M), x + e = 5 → e < u → d_fo (d_ct C) e x h = h0 → k_M C C0 C1 M → (∀ i j, M.2 i j = L i j) → q_T (f_X8_digest_b6 n u h (nI x) M) Q := by
  intro e
  induction e with
  | zero =>
    intro x u h M hx hu hh hM hL
    obtain ⟨u, rfl⟩ : ∃ v, u = v + 1 := ⟨u - 1, by omega⟩
    have g : (5 : Int32) ≤ nI x := (q_le (a := 5) (by decide) (by omega)).mpr (by omega)
    rw [f_X8_digest_b6]
    rw [d_fo] at hh
    subst hh
    exact q_it g (hQ M hM hL)
  | succ e ih =>
    intro x u h M hx hu hh hM hL
    obtain ⟨u, rfl⟩ : ∃ v, u = v + 1 := ⟨u - 1, by omega⟩
    have g : ¬ (5 : Int32) ≤ nI x := fun q => absurd ((q_le (a := 5) (by decide) (by omega)).mp q) (by omega)
    rw [f_X8_digest_b6]
    refine q_if g (q_o2 (q_mono (a_ct hn hM (show x < 5 by omega)) (fun b hb => q_bd ?_)))
    rw [hb.1, q_up]
    rw [d_fo] at hh
    exact ih (x + 1) u _ b.2 (by omega) (by omega) hh hb.2.1 (fun i j => (hb.2.2 i j).trans (hL i j))
theorem z_digest {n : Nat} {M : m_M} (hn : 400 < n) (h : k_Inv M) : q_T (f_X7_digest n M) (fun a => q_T (f_X8_digest n a.2) (fun b => a.1 = b.1 ∧ k_Inv b.2)) := by
  obtain ⟨C, C0, C1, hM⟩ := h
  obtain ⟨⟨hV, hA, hE⟩, hI⟩ := id hM
  have hP := hV.1.1
  have hN := hV.1.2.1
  have hn6 : k_n C ≤ 6 := hV.1.2.2.1
  obtain ⟨K, hK⟩ := k_isday hV 999
  obtain ⟨fl, val, y1, y2⟩ := k_law hA (l := 0) (by omega)
  obtain ⟨fl1, val1, v1, v2⟩ := k_law hA (l := 1) (by omega)
  unfold f_X7_digest
  have e1 := b_d6 (n := n) hA 5 0 n 491 (by omega) (by omega)
  have e2 := b_d35 (n := n) hV hA (6 * k_N C) 0 n (d_fo (d_ct C) 5 0 491) (by omega) (by omega)
  have e3 := b_d74 (n := n) (by omega) hV hA (d_fo (k_r C) (6 * k_N C) 0 (d_fo (d_ct C) 5 0 491))
  have e4 := b_d101 (n := n) hV hA (k_n C) 0 n (d_h3 C) (by omega) (by omega)
  have e5 : f_X7_digest_b6 n n 491 0 M = m_o2 (f_X7_digestOfPersons n (d_h4 C) M) fun r2 M3 => some ((((31 : Int64) * (((31 : Int64) * r2) + (M3.2 0 8))) + (M3.2 0 9)), M3) := e1.trans (e2.trans (e3.trans e4))
  rw [e5]
  unfold f_X7_digestOfPersons
  refine q_o2 (q_ob (q_mono (k_reck (n := n) (ns := 0) (by omega) (n_of hM) y1 hK) (fun M1 h1 => ?_)))
  obtain ⟨hH, hM1n, hY1, hL1⟩ := h1
  have hM1 : k_M C C0 C1 M1 := n_to hM1n ⟨by rw [hL1 0 8 (by omega) (by omega) (by omega), hL1 172 5 (by omega) (by omega) (by omega)]; exact hM.2.2.2.1, by rw [hL1 0 9 (by omega) (by omega) (by omega), hL1 172 6 (by omega) (by omega) (by omega)]; exact hM.2.2.2.2⟩
  refine q_mono (b_d16 (n := n) (x1 := d_h4 C) (fl := fl) (val := val) (fl1 := fl1) (val1 := val1) (by omega) hV hK.1 (k_P C) 0 n (d_h4 C) M1 (by omega) (by omega) hH (hY1 0 fl val (by omega) y1) (hY1 1 fl1 val1 (by omega) v1)) (fun a ha => ?_)
  obtain ⟨a1, a2, a3⟩ := ha
  have hM2 : k_M C C0 C1 a.2 := k_M_fr2 hM1 ⟨fun i j _ => a2 i j, fun i j q => a3 i j (by unfold w_15; omega)⟩ (fun i j q => a3 i j (by unfold w_15; omega))
  refine q_some ?_
  unfold f_X8_digest
  have l8 : a.2.2 0 8 = M.2 172 5 := (a3 0 8 (by unfold w_15; omega)).trans ((hL1 0 8 (by omega) (by omega) (by omega)).trans hM.2.2.2.1)
  have l9 : a.2.2 0 9 = M.2 172 6 := (a3 0 9 (by unfold w_15; omega)).trans ((hL1 0 9 (by omega) (by omega) (by omega)).trans hM.2.2.2.2)
  refine a_d6 (n := n) (C := C) (C0 := C0) (C1 := C1) (h0 := d_fo (d_ct C) 5 0 491) (L := a.2.2) (by omega) (fun M3 hM3 hL3 => ?_) 5 0 n 491 a.2 (by omega) (by omega) rfl hM2 (fun _ _ => rfl)
  have hE3 := hM3.1.2.2
  have f2 := a_d32 (n := n) hV hE3 (6 * k_N C) 0 n (d_fo (d_ct C) 5 0 491) (by omega) (by omega)
  have f3 := a_d67 (n := n) (by omega) hV hE3 (d_fo (k_r C) (6 * k_N C) 0 (d_fo (d_ct C) 5 0 491))
  have f4 := a_d131 (n := n) hV hE3 (k_n C) 0 n (d_h3 C) (by omega) (by omega)
  have f5 : f_X8_digest_b32 n n (d_fo (d_ct C) 5 0 491) 0 M3 = m_ob (f_X8_layToday n 999 M3) fun M13 => f_X8_digest_b172 n n (d_h4 C) 0 M13 := f2.trans (f3.trans f4)
  rw [f5]
  refine q_ob (q_mono (n_today (n := n) (by omega) (n_of hM3) y2 hK) (fun M4 h4 => ?_))
  obtain ⟨c1, c2, c3⟩ := h4
  have c4 : k_M C C0 C1 M4 := n_to c2 ⟨by rw [c3 0 8 (by unfold w_61; omega), c3 172 5 (by unfold w_61; omega)]; exact hM3.2.2.2.1, by rw [c3 0 9 (by unfold w_61; omega), c3 172 6 (by unfold w_61; omega)]; exact hM3.2.2.2.2⟩
  refine q_mono (a_d172 (n := n) (fl := fl) (val := val) (fl1 := fl1) (val1 := val1) (by omega) hV hK.1 y2 v2 (k_P C) 0 n (d_h4 C) M4 (by omega) (by omega) c1 c4) (fun b hb => ⟨?_, C, C0, C1, hb.2⟩)
  rw [hb.1, a1, c3 172 5 (by unfold w_61; omega), c3 172 6 (by unfold w_61; omega), hL3, hL3, k_sb31 hV hK.1, k_ns0 hV hK.1]
  have p8 := hM2.2.2.2.1
  have p9 := hM2.2.2.2.2
  rw [p8, p9]
