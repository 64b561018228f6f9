/-! NETS: what a person's purse comes to; the class's side -/
def e_pt (S : Nat → Nat → Int32) (p t : Nat) : Int32 := m_max 0 (S 5 (4 * p + t))
def e_all (S : Nat → Nat → Int32) (p : Nat) : Int32 := ((e_pt S p 0 + e_pt S p 1) + e_pt S p 2) + e_pt S p 3
def e_db (S : Nat → Nat → Int32) (p q : Nat) : Int32 := m_max 0 (S 6 (10 * p + q))
def e_o (S : Nat → Nat → Int32) (p : Nat) : Int32 := if S 0 p = -1 then 0 else e_db S p (S 0 p).toNatClampNeg
def e_wf (S : Nat → Nat → Int32) (p : Nat) : Nat → Int32
  | 0 => 0
  | k + 1 => if S 0 p ≠ -1 ∧ k ≠ p ∧ S 0 k = S 0 p then e_wf S p k + e_db S p k else e_wf S p k
def e_cl (z : Int64) : Int32 := (m_maxJ 0 (m_minJ 1000000 z)).toInt32
def e_env (g s o w h : Int64) : Nat → Int64
  | 0 => g
  | 1 => s
  | 2 => o
  | 3 => w
  | 4 => h
  | _ => 0
def e_net (fl : Int32) (val : (Nat → Int64) → Int64) (g s o w h : Int64) : Int32 := e_cl (if fl = -1 then val (e_env g s o w h) else (((g + s) - o) - w) + h)
theorem e_five_env {f : Nat → Int64} {g s o w h : Int64} (h0 : f 0 = g) (h1 : f 1 = s) (h2 : f 2 = o) (h3 : f 3 = w) (h4 : f 4 = h) : e_five f = e_env g s o w h := by
  funext i
  unfold e_five
  match i with
  | 0 => exact h0
  | 1 => exact h1
  | 2 => exact h2
  | 3 => exact h3
  | 4 => exact h4
  | k + 5 => exact if_neg (by omega)
theorem e_partC {S : Nat → Nat → Int32} {D p t : Nat} {M : m_M} (h : h_R S D M) (hp : p < 10) (ht : t < 4) : f_X5_partOf (49 + 5 * p) (nI t) M = some (e_pt S p t) := by
  unfold f_X5_partOf m_gd m_bd
  rw [if_pos (q_in ht (by decide)), q_cl (by omega), h_rd h (f := 5) (i := 4 * p + t) (by unfold h_ok; omega) (h_c5 ht).1 (h_c5 ht).2]
  rfl
theorem e_debtC {S : Nat → Nat → Int32} {D p t : Nat} {M : m_M} (h : h_R S D M) (hp : p < 10) (ht : t < 10) : f_X5_debtTo (49 + 5 * p) (nI t) M = some (e_db S p t) := by
  unfold f_X5_debtTo m_gd m_bd
  rw [if_pos (q_in ht (by decide)), q_cl (by omega), h_rd h (f := 6) (i := 10 * p + t) (by unfold h_ok; omega) (h_c6 ht).1 (h_c6 ht).2]
  rfl
theorem q_le4 {t : Nat} (h : t < 2 ^ 31) : (4 : Int32) ≤ nI t ↔ 4 ≤ t := q_le (a := 4) (by decide) h
theorem q_le10 {t : Nat} (h : t < 2 ^ 31) : (10 : Int32) ≤ nI t ↔ 10 ≤ t := q_le (a := 10) (by decide) h
theorem e_allC {S : Nat → Nat → Int32} {D p n : Nat} {M : m_M} (hn : 10 < n) (h : h_R S D M) (hp : p < 10) : f_X5_allParts n (49 + 5 * p) M = some (e_all S p) := by
  obtain ⟨u, rfl⟩ : ∃ u, n = u + 5 := ⟨n - 5, by omega⟩
  unfold f_X5_allParts
  have st2 : ∀ (v : Nat) (t : Nat) (x : Int32), t < 4 → f_X5_allParts_b4 (u + 5) (49 + 5 * p) M (v + 1) x (nI t) = f_X5_allParts_b4 (u + 5) (49 + 5 * p) M v (x + e_pt S p t) (nI (t + 1)) := by
    intro v t x ht
    rw [f_X5_allParts_b4, if_neg (fun q => absurd ((q_le4 (by omega)).mp q) (by omega)), e_partC h hp ht, q_up]
    rfl
  have s0 := st2 (u + 4) 0 0 (by omega)
  have s1 := st2 (u + 3) 1 (0 + e_pt S p 0) (by omega)
  have s2 := st2 (u + 2) 2 ((0 + e_pt S p 0) + e_pt S p 1) (by omega)
  have s3 := st2 (u + 1) 3 (((0 + e_pt S p 0) + e_pt S p 1) + e_pt S p 2) (by omega)
  refine s0.trans (s1.trans (s2.trans (s3.trans ?_)))
  rw [f_X5_allParts_b4, if_pos ((q_le4 (by omega)).mpr (by omega)), Int32.zero_add]
  rfl
/-- what the hands are -/
def e_hd (S : Nat → Nat → Int32) (P : Nat) : Prop := ∀ p, p < P → S 0 p = -1 ∨ ∃ q, q < P ∧ S 0 p = nI q
theorem e_oC {S : Nat → Nat → Int32} {D p P : Nat} {M : m_M} (h : h_R S D M) (hP : P ≤ 10) (hp : p < P) (hh : e_hd S P) : f_X1_debtToHolder (nI p) M = some (e_o S p) := by
  have e0 := h_rd h (f := 0) (i := p) (by unfold h_ok; omega) (h_c1 0 (by omega)).1 (h_c1 0 (by omega)).2
  unfold f_X1_debtToHolder e_o
  simp only [m_bd]
  unfold m_gd
  rw [if_pos (q_in (by omega) (by decide)), q_cl (by omega), e0]
  rcases hh p hp with c | ⟨q, hq, c⟩
  · rw [if_pos c, if_pos c]
  · have hne : ¬ nI q = -1 := q_m1 (by omega)
    rw [c, if_neg hne, if_neg hne, q_cl (by omega), e_debtC h (by omega) (by omega)]
    rfl
theorem e_wC {S : Nat → Nat → Int32} {D p P n : Nat} {M : m_M} (hn : 20 < n) (h : h_R S D M) (h0 : M.1 1 0 = nI P) (hP : P ≤ 10) (hp : p < P) (hh : e_hd S P) : f_X1_debtToFellows n (nI p) M = some (e_wf S p P) := by
  have hnd : ∀ x, x < 10 → M.1 (49 + 5 * x) 0 = S 0 x := fun x hx => h_rd h (f := 0) (i := x) (by unfold h_ok; omega) (h_c1 0 (by omega)).1 (h_c1 0 (by omega)).2
  have e0 := hnd p (by omega)
  unfold f_X1_debtToFellows
  simp only [m_bd]
  unfold m_gd
  rw [if_pos (q_in (by omega) (by decide)), q_cl (by omega), e0]
  rcases hh p hp with c | ⟨q, hq, c⟩
  · obtain ⟨u, rfl⟩ : ∃ u, n = u + 1 := ⟨n - 1, by omega⟩
    rw [f_X1_debtToFellows_b15, if_pos c]
    have : ∀ k, e_wf S p k = 0 := by
      intro k
      induction k with
      | zero => rfl
      | succ k ih => rw [e_wf, if_neg (fun q => q.1 c), ih]
    rw [this]
  · have hne : ¬ nI q = -1 := q_m1 (by omega)
    have lp : ∀ (d k u : Nat), k + d = P → d < u → f_X1_debtToFellows_b15 n (nI p) M u (S 0 p) (e_wf S p k) (nI k) = some (e_wf S p P) := by
      intro d
      induction d with
      | zero =>
        intro k u hk hu
        obtain ⟨u, rfl⟩ : ∃ v, u = v + 1 := ⟨u - 1, by omega⟩
        rw [f_X1_debtToFellows_b15, if_neg (by rw [c]; exact hne), h0, if_pos ((q_le (by omega) (by omega)).mpr (by omega)), show k = P by omega]
      | succ d ih =>
        intro k u hk hu
        obtain ⟨u, rfl⟩ : ∃ v, u = v + 1 := ⟨u - 1, by omega⟩
        rw [f_X1_debtToFellows_b15, if_neg (by rw [c]; exact hne), h0, if_neg (fun q => absurd ((q_le (by omega) (by omega)).mp q) (by omega))]
        have ihk := ih (k + 1) u (by omega) (by omega)
        rw [e_wf] at ihk
        by_cases ek : k = p
        · rw [if_pos (by rw [ek]), q_up]
          rw [if_neg (fun q => q.2.1 ek)] at ihk
          exact ihk
        · rw [if_neg (fun q => ek ((nI_eq (by omega) (by omega)).mp q))]
          unfold m_gd
          rw [if_pos (q_in (by omega) (by decide)), q_cl (i := k) (by omega), hnd k (by omega)]
          by_cases eh : S 0 k = S 0 p
          · rw [if_pos eh, if_pos (q_in (by omega) (by decide)), q_cl (i := p) (by omega), e_debtC h (by omega) (by omega), q_up]
            rw [if_pos ⟨by rw [c]; exact hne, ek, eh⟩] at ihk
            exact ihk
          · rw [if_neg eh, q_up]
            rw [if_neg (fun q => eh q.2.2)] at ihk
            exact ihk
    have := lp P 0 n (by omega) (by omega)
    exact this
