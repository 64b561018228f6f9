/-! NETS: both sides' netOf -/
theorem e_broughtC {n k : Nat} {M : m_M} {fl : Int32} {val : (Nat → Int64) → Int64} {g s o w h : Int64} (hn : 60 < n) (hY : k_YC k M fl val) (h0 : M.2 48 0 = g) (h1 : M.2 48 1 = s) (h2 : M.2 48 2 = o) (h3 : M.2 48 3 = w) (h4 : M.2 48 4 = h) : q_T (f_X4_brought n k M) (fun a => a.1 = e_net fl val g s o w h) := by
  unfold f_X4_brought
  rw [hY.1]
  refine q_ite (fun c => ?_) (fun c => ?_)
  · refine q_o2 (q_mono (hY.2 c n M hn (fun _ => rfl) (fun _ => rfl) (fun _ => rfl)) (fun a ha => ?_))
    unfold f_X4_brought_b35
    refine q_bd (q_bd (q_some ?_))
    rw [ha, e_five_env h0 h1 h2 h3 h4]
    unfold e_net e_cl
    rw [if_pos c]
  · unfold f_X4_brought_b35
    refine q_bd (q_bd (q_some ?_))
    unfold e_net e_cl
    rw [if_neg c, h0, h1, h2, h3, h4]
theorem e_netC {n p l P D : Nat} {S : Nat → Nat → Int32} {M : m_M} {fl : Int32} {val : (Nat → Int64) → Int64} (hn : 60 < n) (hR : h_R S D M) (h0 : M.1 1 0 = nI P) (hP : P ≤ 10) (hp : p < P) (hl : l < 2) (hh : e_hd S P) (hY : k_YC (5 + 5 * l) M fl val) (x3 x5 : Int64) : q_T (f_X1_netOf n (nI p) (nI l) x3 x5 M) (fun a => a.1 = e_net fl val ((e_all S p).toInt64 + x5) (M.1 (49 + 5 * p) 5).toInt64 (e_o S p).toInt64 (e_wf S p P).toInt64 x3) := by
  unfold f_X1_netOf
  refine q_gd (q_in (by omega) (by decide)) ?_
  rw [q_cl (by omega)]
  refine q_ob (q_of (e_allC (by omega) hR (by omega)) (q_bd (q_bd ?_)))
  refine q_ob (q_of (e_oC (D := D) (S := S) hR hP hp hh) (q_bd ?_))
  refine q_ob (q_of (e_wC (D := D) (S := S) (by omega) hR h0 hP hp hh) (q_bd (q_bd (q_gd (q_in (by omega) (by decide)) ?_))))
  rw [q_cl (by omega)]
  refine q_o2 (q_mono (e_broughtC (fl := fl) (val := val) hn ?_ ?_ ?_ ?_ ?_ ?_) (fun a ha => q_some ha))
  · refine ⟨hY.1, fun c n' M2 hn' b1 b2 b3 => hY.2 c n' M2 hn' b1 b2 (fun j => (b3 j).trans ?_)⟩
    simp only [q_l]
    rw [if_neg (by omega), if_neg (by omega), if_neg (by omega), if_neg (by omega), if_neg (by omega)]
  · simp only [q_l]
    (repeat (first | rw [if_pos (by omega)] | rw [if_neg (by omega)]))
    rfl
  · simp only [q_l]
    (repeat (first | rw [if_pos (by omega)] | rw [if_neg (by omega)]))
    rfl
  · simp only [q_l]
    (repeat (first | rw [if_pos (by omega)] | rw [if_neg (by omega)]))
    rfl
  · simp only [q_l]
    (repeat (first | rw [if_pos (by omega)] | rw [if_neg (by omega)]))
    rfl
  · simp only [q_l]
    (repeat (first | rw [if_pos (by omega)] | rw [if_neg (by omega)]))
    rfl
/-! the reference -/
def e_sec (S : Nat → Nat → Int32) (F : Nat → Int32) (p : Nat) : Nat → Int32
  | 0 => 0
  | k + 1 => if S 0 k = nI p then e_sec S F p k + F k else e_sec S F p k
theorem e_Q0 {S : Nat → Nat → Int32} {D x : Nat} {M : m_M} (h : h_Q S D M) (hx : x < 10) : M.1 177 x = S 0 x := by
  have := h.1 0 x (by unfold h_okq; omega)
  rw [if_neg (by omega)] at this
  exact this
theorem e_Q1 {S : Nat → Nat → Int32} {D x : Nat} {M : m_M} (h : h_Q S D M) (hx : x < 10) : M.1 178 x = S 1 x := by
  have := h.1 1 x (by unfold h_okq; omega)
  rw [if_neg (by omega)] at this
  exact this
theorem e_Q5 {S : Nat → Nat → Int32} {D x : Nat} {M : m_M} (h : h_Q S D M) (hx : x < 40) : M.1 181 x = m_max 0 (S 5 x) := by
  have := h.1 5 x (by unfold h_okq; omega)
  rw [if_pos (by omega)] at this
  exact this
theorem e_Q6 {S : Nat → Nat → Int32} {D x : Nat} {M : m_M} (h : h_Q S D M) (hx : x < 100) : M.1 184 x = m_max 0 (S 6 x) := by
  have := h.1 6 x (by unfold h_okq; omega)
  rw [if_pos (by omega)] at this
  exact this
theorem e_inAll {S : Nat → Nat → Int32} {D p : Nat} {M : m_M} (h : h_Q S D M) (hp : p < 10) : f_X8_inAll (nI p) M = some (e_all S p) := by
  unfold f_X8_inAll m_gd
  rw [q_x4, q_p1, q_p2, q_p3, if_pos (q_in (by omega) (by decide)), if_pos (q_in (by omega) (by decide)), if_pos (q_in (by omega) (by decide)), if_pos (q_in (by omega) (by decide)), q_cl (by omega), q_cl (by omega), q_cl (by omega), q_cl (by omega), e_Q5 h (by omega), e_Q5 h (by omega), e_Q5 h (by omega), e_Q5 h (by omega)]
  rfl
theorem e_second {S : Nat → Nat → Int32} {F : Nat → Int32} {D p P n : Nat} {M : m_M} (hn : 20 < n) (h : h_Q S D M) (hP : P ≤ 10) (h0 : M.1 173 468 = nI P) (hF : ∀ k, k < P → M.1 195 k = F k) : f_X8_secondOf n (nI p) M = some (e_sec S F p P) := by
  have lp : ∀ (d k u : Nat), k + d = P → d < u → f_X8_secondOf_b4 n (nI p) M u (e_sec S F p k) (nI k) = some (e_sec S F p P) := by
    intro d
    induction d with
    | zero =>
      intro k u hk hu
      obtain ⟨u, rfl⟩ : ∃ v, u = v + 1 := ⟨u - 1, by omega⟩
      rw [f_X8_secondOf_b4]
      unfold f_X8_persons
      simp only [m_bd]
      rw [h0, if_pos ((q_le (by omega) (by omega)).mpr (by omega)), show k = P by omega]
    | succ d ih =>
      intro k u hk hu
      obtain ⟨u, rfl⟩ : ∃ v, u = v + 1 := ⟨u - 1, by omega⟩
      have ihk := ih (k + 1) u (by omega) (by omega)
      rw [e_sec] at ihk
      rw [f_X8_secondOf_b4]
      unfold f_X8_persons
      simp only [m_bd]
      rw [h0, if_neg (fun q => absurd ((q_le (by omega) (by omega)).mp q) (by omega))]
      unfold m_gd
      rw [if_pos (q_in (by omega) (by decide)), q_cl (by omega), e_Q0 h (by omega), hF k (by omega), q_up]
      by_cases c : S 0 k = nI p
      · rw [if_pos c]
        rw [if_pos c] at ihk
        exact ihk
      · rw [if_neg c, Int32.add_zero]
        rw [if_neg c] at ihk
        exact ihk
  exact lp P 0 n (by omega) (by omega)
theorem e_own0 {S : Nat → Nat → Int32} {D p P n : Nat} {M : m_M} (hn : 20 < n) (h : h_Q S D M) (hP : P ≤ 10) (h0 : M.1 173 468 = nI P) (hp : p < P) (hh : e_hd S P) : f_X8_ownOf n (nI p) 0 M = some (e_o S p) := by
  unfold f_X8_ownOf m_gd e_o
  rw [if_pos (q_in (by omega) (by decide)), q_cl (by omega), e_Q0 h (by omega)]
  rcases hh p hp with c | ⟨q, hq, c⟩
  · rw [if_pos c, if_pos c]
  · have hne : ¬ nI q = -1 := q_m1 (by omega)
    rw [c, if_neg hne, if_neg hne, q_cl (by omega)]
    have lp : ∀ (d k u : Nat), k + d = P → d < u → f_X8_ownOf_b20 n (nI p) 0 M u (nI q) (if q < k then e_db S p q else 0) (nI k) = some (e_db S p q) := by
      intro d
      induction d with
      | zero =>
        intro k u hk hu
        obtain ⟨u, rfl⟩ : ∃ v, u = v + 1 := ⟨u - 1, by omega⟩
        rw [f_X8_ownOf_b20]
        unfold f_X8_persons
        simp only [m_bd]
        rw [h0, if_pos ((q_le (by omega) (by omega)).mpr (by omega)), if_pos (by omega)]
      | succ d ih =>
        intro k u hk hu
        obtain ⟨u, rfl⟩ : ∃ v, u = v + 1 := ⟨u - 1, by omega⟩
        have ihk := ih (k + 1) u (by omega) (by omega)
        rw [f_X8_ownOf_b20]
        unfold f_X8_persons
        simp only [m_bd]
        rw [h0, if_neg (fun q => absurd ((q_le (by omega) (by omega)).mp q) (by omega)), if_pos trivial]
        unfold f_X8_ownOf_b69
        simp only [m_bd]
        by_cases e : k = q
        · subst e
          rw [if_pos rfl, if_neg (by decide)]
          unfold m_gd
          rw [q_x10, q_add, if_pos (q_in (by omega) (by decide)), q_cl (by omega), e_Q6 h (by omega), if_neg (by omega), Int32.zero_add, q_up]
          rw [if_pos (by omega)] at ihk
          exact ihk
        · rw [if_neg (fun z => e ((nI_eq (by omega) (by omega)).mp z)), if_pos trivial, Int32.add_zero, q_up]
          by_cases e2 : q < k
          · rw [if_pos e2]
            rw [if_pos (by omega)] at ihk
            exact ihk
          · rw [if_neg e2]
            rw [if_neg (by omega)] at ihk
            exact ihk
    have := lp P 0 n (by omega) (by omega)
    rw [if_neg (by omega)] at this
    exact this
theorem e_own1 {S : Nat → Nat → Int32} {D p P n : Nat} {M : m_M} (hn : 20 < n) (h : h_Q S D M) (hP : P ≤ 10) (h0 : M.1 173 468 = nI P) (hp : p < P) (hh : e_hd S P) : f_X8_ownOf n (nI p) 1 M = some (e_wf S p P) := by
  unfold f_X8_ownOf m_gd
  rw [if_pos (q_in (by omega) (by decide)), q_cl (by omega), e_Q0 h (by omega)]
  rcases hh p hp with c | ⟨q, hq, c⟩
  · rw [if_pos c]
    have : ∀ k, e_wf S p k = 0 := by
      intro k
      induction k with
      | zero => rfl
      | succ k ih => rw [e_wf, if_neg (fun q => q.1 c), ih]
    rw [this]
  · have hne : ¬ nI q = -1 := q_m1 (by omega)
    have hne' : S 0 p ≠ -1 := by rw [c]; exact hne
    rw [if_neg hne']
    have lp : ∀ (d k u : Nat), k + d = P → d < u → f_X8_ownOf_b20 n (nI p) 1 M u (S 0 p) (e_wf S p k) (nI k) = some (e_wf S p P) := by
      intro d
      induction d with
      | zero =>
        intro k u hk hu
        obtain ⟨u, rfl⟩ : ∃ v, u = v + 1 := ⟨u - 1, by omega⟩
        rw [f_X8_ownOf_b20]
        unfold f_X8_persons
        simp only [m_bd]
        rw [h0, if_pos ((q_le (by omega) (by omega)).mpr (by omega)), show k = P by omega]
      | succ d ih =>
        intro k u hk hu
        obtain ⟨u, rfl⟩ : ∃ v, u = v + 1 := ⟨u - 1, by omega⟩
        have ihk := ih (k + 1) u (by omega) (by omega)
        rw [e_wf] at ihk
        rw [f_X8_ownOf_b20]
        unfold f_X8_persons
        simp only [m_bd]
        rw [h0, if_neg (fun q => absurd ((q_le (by omega) (by omega)).mp q) (by omega)), if_neg (by decide)]
        unfold m_gd
        rw [if_pos (q_in (by omega) (by decide)), q_cl (i := k) (by omega), e_Q0 h (by omega)]
        unfold f_X8_ownOf_b69
        simp only [m_bd]
        by_cases eh : S 0 k = S 0 p
        · rw [if_pos eh]
          by_cases ek : k = p
          · rw [if_pos (by rw [ek]), if_pos trivial, Int32.add_zero, q_up]
            rw [if_neg (fun q => q.2.1 ek)] at ihk
            exact ihk
          · rw [if_neg (fun q => ek ((nI_eq (by omega) (by omega)).mp q)), if_neg (by decide)]
            unfold m_gd
            rw [q_x10, q_add, if_pos (q_in (by omega) (by decide)), q_cl (by omega), e_Q6 h (by omega), q_up]
            rw [if_pos ⟨hne', ek, eh⟩] at ihk
            exact ihk
        · rw [if_neg eh, if_pos trivial, Int32.add_zero, q_up]
          rw [if_neg (fun q => eh q.2.2)] at ihk
          exact ihk
    exact lp P 0 n (by omega) (by omega)
