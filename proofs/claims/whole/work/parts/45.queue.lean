/-! THE LINE on both sides -/
/-- many, laid, man, trade, owed, depth, may share, is answered, parts, debts to holders -/
abbrev l_L : Type := Nat × (Nat → Bool) × (Nat → Nat) × (Nat → Nat) × (Nat → Nat) × (Nat → Nat) × (Nat → Bool) × (Nat → Bool) × (Nat → Nat → Nat) × (Nat → Nat)
abbrev l_n (L : l_L) : Nat := L.1
abbrev l_la (L : l_L) : Nat → Bool := L.2.1
abbrev l_mn (L : l_L) : Nat → Nat := L.2.2.1
abbrev l_tr (L : l_L) : Nat → Nat := L.2.2.2.1
abbrev l_ow (L : l_L) : Nat → Nat := L.2.2.2.2.1
abbrev l_dp (L : l_L) : Nat → Nat := L.2.2.2.2.2.1
abbrev l_ms (L : l_L) : Nat → Bool := L.2.2.2.2.2.2.1
abbrev l_an (L : l_L) : Nat → Bool := L.2.2.2.2.2.2.2.1
abbrev l_PT (L : l_L) : Nat → Nat → Nat := L.2.2.2.2.2.2.2.2.1
abbrev l_OD (L : l_L) : Nat → Nat := L.2.2.2.2.2.2.2.2.2
def l_ok (L : l_L) : Prop := l_n L ≤ 6 ∧ (∀ i, i < l_n L → l_mn L i < 10 ∧ l_tr L i < 4 ∧ l_ow L i ≤ 1000 ∧ l_dp L i ≤ 1000000 ∧ (l_la L i = false → l_ow L i = 0 ∧ l_dp L i = 0 ∧ l_ms L i = false ∧ l_an L i = false) ∧ (l_an L i = false → l_dp L i = 0)) ∧ (∀ p t, l_PT L p t ≤ 60000) ∧ ∀ p, l_OD L p ≤ 60000
def l_mk (C : k_C) (day : Int32) (K : Nat) (kr : Nat → Nat) (fl : Int32) (val : (Nat → Int64) → Int64) : l_L :=
  (k_n C, fun i => decide (kr i < K), fun i => h_a (k_r C) (kr i), fun i => h_b (k_r C) (kr i), fun i => if kr i < K then e_lf (h_S (k_r C) h_all K).1 (h_D (k_r C) (kr i)) else 0, fun i => if kr i < K ∧ e_op (h_S (k_r C) h_all K).1 day (h_a (k_r C) (kr i)) ≠ 0 then y_net C h_all K (kr i) fl val fl val else 0, fun i => decide (kr i < K ∧ (h_S (k_r C) h_all K).1 19 (h_D (k_r C) (kr i)) ≠ 0), fun i => decide (kr i < K ∧ e_who (h_S (k_r C) h_all K).1 (h_a (k_r C) (kr i)) ≠ -1), x_pt (h_S (k_r C) h_all K).1, x_on (h_S (k_r C) h_all K).1)
/-- the deals in the line are those rows -/
def l_kr (C : k_C) (kr : Nat → Nat) : Prop := ∀ i, i < k_n C → kr i < k_N C ∧ h_kd (k_r C) (kr i) = 4 ∧ k_l C i = nI (h_D (k_r C) (kr i))
theorem l_ex {C : k_C} (hV : k_V C) : ∃ kr, l_kr C kr := by
  have h : ∀ i, ∃ k, i < k_n C → k < k_N C ∧ h_kd (k_r C) k = 4 ∧ k_l C i = nI (h_D (k_r C) k) := by
    intro i
    by_cases c : i < k_n C
    · obtain ⟨d, hd, e⟩ := hV.2.2.2.2.2.2.1 i c
      obtain ⟨k, k1, k2, k3⟩ := h_D_ex _ _ _ hd
      exact ⟨k, fun _ => ⟨k1, k2, by rw [k3]; exact e⟩⟩
    · exact ⟨0, fun q => absurd q c⟩
  exact ⟨fun i => Classical.choose (h i), fun i hi => Classical.choose_spec (h i) hi⟩
theorem l_mk_ok {C : k_C} (hV : k_V C) {K : Nat} (hK : K ≤ k_N C) {kr : Nat → Nat} (hkr : l_kr C kr) (day fl : Int32) (val : (Nat → Int64) → Int64) : l_ok (l_mk C day K kr fl val) := by
  refine ⟨hV.1.2.2.1, fun i hi => ?_, fun p t => (x_ptN hV h_all hK p t).2, fun p => (x_onN hV h_all hK p).2⟩
  obtain ⟨k1, k2, k3⟩ := hkr i hi
  obtain ⟨d1, d2, d3, d4, d5, d6⟩ := a_dl hV k1 k2
  refine ⟨d3, d5, ?_, ?_, fun q => ?_, fun q => ?_⟩
  · show (if kr i < K then e_lf (h_S (k_r C) h_all K).1 (h_D (k_r C) (kr i)) else 0) ≤ 1000
    split
    · next c => exact (k_lf hV h_all hK c k2).2
    · omega
  · show (if kr i < K ∧ e_op (h_S (k_r C) h_all K).1 day (h_a (k_r C) (kr i)) ≠ 0 then y_net C h_all K (kr i) fl val fl val else 0) ≤ 1000000
    split
    · exact (x_ntN _ _ _ _ _ _ _).2
    · omega
  · have q' : ¬ kr i < K := by
      have : decide (kr i < K) = false := q
      exact of_decide_eq_false this
    refine ⟨if_neg q', if_neg (fun z => q' z.1), decide_eq_false (fun z => q' z.1), decide_eq_false (fun z => q' z.1)⟩
  · have q' : ¬ (kr i < K ∧ e_who (h_S (k_r C) h_all K).1 (h_a (k_r C) (kr i)) ≠ -1) := of_decide_eq_false q
    show (if kr i < K ∧ e_op (h_S (k_r C) h_all K).1 day (h_a (k_r C) (kr i)) ≠ 0 then y_net C h_all K (kr i) fl val fl val else 0) = 0
    rw [if_neg]
    rintro ⟨z1, z2⟩
    apply z2
    refine e_op_who ?_ (Classical.em _)
    by_cases z : e_who (h_S (k_r C) h_all K).1 (h_a (k_r C) (kr i)) = -1
    · exact z
    · exact absurd ⟨z1, z⟩ q'
def l_b (b : Bool) : Int32 := if b then 1 else 0
/-- the class's queue -/
def l_C1 (L : l_L) (i : Nat) (M : m_M) : Prop := M.1 160 i = (if l_la L i then nI (l_mn L i) else -1) ∧ M.1 161 i = (if l_la L i then nI (l_tr L i) else -1) ∧ M.1 162 i = nI (l_ow L i) ∧ M.1 163 i = nI (l_dp L i) ∧ M.1 164 i = (if l_la L i then nI (l_PT L (l_mn L i) (l_tr L i)) else 0) ∧ M.1 165 i = (if l_la L i then nI (l_OD L (l_mn L i)) else 0) ∧ M.1 166 i = l_b (l_ms L i) ∧ M.1 167 i = l_b (l_an L i)
def l_C (L : l_L) (M : m_M) : Prop := M.1 159 0 = nI (l_n L) ∧ ∀ i, i < l_n L → l_C1 L i M
theorem h_st19 {S : Nat → Nat → Int32} {D kd a i : Nat} {day b v : Int32} (hk : kd < 15) : h_st S D kd a day b v 19 i = if kd = 4 ∧ i = D then S 8 (4 * a + b.toNatClampNeg) else S 19 i := by
  have hc : kd = 0 ∨ kd = 1 ∨ kd = 2 ∨ kd = 3 ∨ kd = 4 ∨ kd = 5 ∨ kd = 6 ∨ kd = 7 ∨ kd = 8 ∨ kd = 9 ∨ kd = 10 ∨ kd = 11 ∨ kd = 12 ∨ kd = 13 ∨ kd = 14 := by omega
  rcases hc with e | e | e | e | e | e | e | e | e | e | e | e | e | e | e <;> subst e <;> simp [h_st, h_up, h_dl]
theorem h_k19 {r : Nat → Int32} {N : Nat} (hW : h_W r N) (so : Nat → Bool) {k : Nat} (h4 : h_kd r k = 4) : ∀ K, K ≤ N → k < K → m_B ((h_S r so K).1 19 (h_D r k))
  | 0, _, h => absurd h (Nat.not_lt_zero _)
  | K + 1, hK, h => by
    have hkd := (hW K (by omega)).1.2.1
    by_cases c : k = K
    · subst c
      rcases h_ind (so := so) hW (show k < N by omega) with ⟨_, e2⟩ | e1
      · exact absurd h4 e2.2.1
      · rw [e1, h_st19 hkd, if_pos ⟨h4, rfl⟩]
        exact (h_bo_S r so k _).2
    · have ih := h_k19 hW so h4 K (by omega) (by omega)
      have hlt := h_D_lt (show k < K by omega) h4
      rcases h_ind (so := so) hW (show K < N by omega) with ⟨e1, _⟩ | e1
      · rw [e1]
        exact ih
      · rw [e1, h_st19 hkd, if_neg (by omega)]
        exact ih
theorem k_H_q {C : k_C} {S : Nat → Nat → Int32} {day : Int32} {K : Nat} {gn : Nat → Int32} {M M' : m_M} (h : k_H C S day K gn M) (hP : k_P C ≤ 10) (hD : h_D (k_r C) K ≤ 60) (e : ∀ i j, i < 159 → M'.1 i j = M.1 i j) : k_H C S day K gn M' := by
  refine ⟨⟨⟨(e _ _ (by omega)).trans h.1.1.1, fun f i q => (e _ _ ?_).trans (h.1.1.2 f i q)⟩, (e _ _ (by omega)).trans h.1.2⟩, (e _ _ (by omega)).trans h.2.1, fun p hp => (e _ _ (by omega)).trans (h.2.2 p hp)⟩
  have := h_cc_in q hD
  omega
theorem b_leave {i : Nat} {M : m_M} (hi : i < 6) : q_T (f_X6_leaveOut (nI i) M) (fun M' => M'.2 = M.2 ∧ (∀ a b, a < 160 ∨ 167 < a ∨ b ≠ i → M'.1 a b = M.1 a b) ∧ M'.1 160 i = -1 ∧ M'.1 161 i = -1 ∧ ∀ a, 162 ≤ a → a ≤ 167 → M'.1 a i = 0) := by
  unfold f_X6_leaveOut
  refine q_gd (q_in hi (by decide)) (q_bd (q_bd (q_bd (q_bd (q_bd (q_bd (q_bd (q_bd (q_some ⟨rfl, fun a b q => ?_, ?_, ?_, fun a h1 h2 => ?_⟩)))))))))
  · rw [q_cl (by omega)]
    simp only [q_r]
    (repeat (first | rw [if_pos (by omega)] | rw [if_neg (by omega)]))
  · rw [q_cl (by omega)]
    simp only [q_r]
    simp
  · rw [q_cl (by omega)]
    simp only [q_r]
    simp
  · rw [q_cl (by omega)]
    simp only [q_r]
    have hs : a = 162 ∨ a = 163 ∨ a = 164 ∨ a = 165 ∨ a = 166 ∨ a = 167 := by omega
    rcases hs with q | q | q | q | q | q <;> subst q <;> simp
theorem b_stand72 {n : Nat} {C : k_C} {day : Int32} {K k i : Nat} {gn : Nat → Int32} {M : m_M} (hV : k_V C) (hK : K ≤ k_N C) (hk : k < K) (h4 : h_kd (k_r C) k = 4) (hi : i < 6) (hH : k_H C (h_S (k_r C) h_all K).1 day K gn M) : q_T (f_X6_stand_b72 n (nI i) (nI (h_D (k_r C) k)) (99 + h_D (k_r C) k) M) (fun M' => M'.2 = M.2 ∧ (∀ a b, a < 164 ∨ 167 < a ∨ b ≠ i → M'.1 a b = M.1 a b) ∧ M'.1 164 i = nI (x_pt (h_S (k_r C) h_all K).1 (h_a (k_r C) k) (h_b (k_r C) k)) ∧ M'.1 165 i = nI (x_on (h_S (k_r C) h_all K).1 (h_a (k_r C) k)) ∧ M'.1 166 i = l_b (decide ((h_S (k_r C) h_all K).1 19 (h_D (k_r C) k) ≠ 0)) ∧ M'.1 167 i = l_b (decide (e_who (h_S (k_r C) h_all K).1 (h_a (k_r C) k) ≠ -1))) := by
  obtain ⟨d1, d2, d3, d4, d5, d6⟩ := a_dl hV (show k < k_N C by omega) h4
  have hP := hV.1.1
  have hD := k_D60 hV hK
  have b0 := b_dl hV hH.1 hK hk h4
  have ho := x_onN hV h_all hK (h_a (k_r C) k)
  have hp := x_ptN hV h_all hK (h_a (k_r C) k) (h_b (k_r C) k)
  have h19 := h_k19 hV.2.1 h_all h4 K hK hk
  have e19 : M.1 (99 + h_D (k_r C) k) 9 = (h_S (k_r C) h_all K).1 19 (h_D (k_r C) k) := b0.2.2 19 (by omega) (by omega)
  unfold f_X6_stand_b72
  rw [b0.1, b0.2.1]
  refine q_gd (q_in d3 (by decide)) ?_
  rw [q_cl (by omega)]
  refine q_ob (q_of (e_partC hH.1.1 d3 d5) (q_gd (q_in hi (by decide)) (q_bd ?_)))
  rw [q_cl (i := i) (by omega)]
  have hH4 : k_H C (h_S (k_r C) h_all K).1 day K gn (m_sI M 164 i (e_pt (h_S (k_r C) h_all K).1 (h_a (k_r C) k) (h_b (k_r C) k))) := k_H_q hH hP hD (fun a b q => by rw [q_r, if_neg (by omega)])
  have b4 := b_dl hV hH4.1 hK hk h4
  rw [b4.1]
  refine q_ob (q_of (e_oC hH4.1.1 hP d2 (k_ac hV h_all hK).1) (q_bd ?_))
  have g19 : (m_sI (m_sI M 164 i (e_pt (h_S (k_r C) h_all K).1 (h_a (k_r C) k) (h_b (k_r C) k))) 165 i (e_o (h_S (k_r C) h_all K).1 (h_a (k_r C) k))).1 (99 + h_D (k_r C) k) 9 = (h_S (k_r C) h_all K).1 19 (h_D (k_r C) k) := by
    rw [q_r, if_neg (by omega), q_r, if_neg (by omega), e19]
  rw [g19]
  refine q_gd h19 (q_bd ?_)
  have eM : ∀ a b, (m_sI (m_sI (m_sI M 164 i (e_pt (h_S (k_r C) h_all K).1 (h_a (k_r C) k) (h_b (k_r C) k))) 165 i (e_o (h_S (k_r C) h_all K).1 (h_a (k_r C) k))) 166 i ((h_S (k_r C) h_all K).1 19 (h_D (k_r C) k))).1 a b = if a = 166 ∧ b = i then (h_S (k_r C) h_all K).1 19 (h_D (k_r C) k) else if a = 165 ∧ b = i then e_o (h_S (k_r C) h_all K).1 (h_a (k_r C) k) else if a = 164 ∧ b = i then e_pt (h_S (k_r C) h_all K).1 (h_a (k_r C) k) (h_b (k_r C) k) else M.1 a b := fun a b => by rw [q_r, q_r, q_r]
  have eL : (m_sI (m_sI (m_sI M 164 i (e_pt (h_S (k_r C) h_all K).1 (h_a (k_r C) k) (h_b (k_r C) k))) 165 i (e_o (h_S (k_r C) h_all K).1 (h_a (k_r C) k))) 166 i ((h_S (k_r C) h_all K).1 19 (h_D (k_r C) k))).2 = M.2 := rfl
  generalize m_sI (m_sI (m_sI M 164 i (e_pt (h_S (k_r C) h_all K).1 (h_a (k_r C) k) (h_b (k_r C) k))) 165 i (e_o (h_S (k_r C) h_all K).1 (h_a (k_r C) k))) 166 i ((h_S (k_r C) h_all K).1 19 (h_D (k_r C) k)) = M7 at *
  have hH7 : k_H C (h_S (k_r C) h_all K).1 day K gn M7 := k_H_q hH hP hD (fun a b q => by rw [eM, if_neg (by omega), if_neg (by omega), if_neg (by omega)])
  refine q_ob (q_of (b_who hV hH7.1 hK hk h4) ?_)
  have fin : ∀ x : Int32, x = l_b (decide (e_who (h_S (k_r C) h_all K).1 (h_a (k_r C) k) ≠ -1)) → (m_sI M7 167 i x).2 = M.2 ∧ (∀ a b, a < 164 ∨ 167 < a ∨ b ≠ i → (m_sI M7 167 i x).1 a b = M.1 a b) ∧ (m_sI M7 167 i x).1 164 i = nI (x_pt (h_S (k_r C) h_all K).1 (h_a (k_r C) k) (h_b (k_r C) k)) ∧ (m_sI M7 167 i x).1 165 i = nI (x_on (h_S (k_r C) h_all K).1 (h_a (k_r C) k)) ∧ (m_sI M7 167 i x).1 166 i = l_b (decide ((h_S (k_r C) h_all K).1 19 (h_D (k_r C) k) ≠ 0)) ∧ (m_sI M7 167 i x).1 167 i = l_b (decide (e_who (h_S (k_r C) h_all K).1 (h_a (k_r C) k) ≠ -1)) := by
    intro x hx
    refine ⟨eL, fun a b q => ?_, ?_, ?_, ?_, ?_⟩
    · rw [q_r, if_neg (by omega), eM, if_neg (by omega), if_neg (by omega), if_neg (by omega)]
    · rw [q_r, if_neg (by omega), eM, if_neg (by omega), if_neg (by omega), if_pos ⟨rfl, rfl⟩, hp.1]
    · rw [q_r, if_neg (by omega), eM, if_neg (by omega), if_pos ⟨rfl, rfl⟩, ho.1]
    · rw [q_r, if_neg (by omega), eM, if_pos ⟨rfl, rfl⟩]
      rcases h19 with q | q
      · rw [q]
        decide
      · rw [q]
        decide
    · rw [q_r, if_pos ⟨rfl, rfl⟩, hx]
  refine q_ite (fun c => q_bd (q_some (fin 0 ?_))) (fun c => q_bd (q_some (fin 1 ?_)))
  · rw [decide_eq_false (fun q => q c)]
    rfl
  · rw [decide_eq_true c]
    rfl
theorem b_stand {n : Nat} {C : k_C} {day : Int32} {K k i : Nat} {M : m_M} {fl : Int32} {val : (Nat → Int64) → Int64} (hn : 200 < n) (hV : k_V C) (hK : K ≤ k_N C) (hk : k < K) (h4 : h_kd (k_r C) k = 4) (hi : i < 6) (hH : k_H C (h_S (k_r C) h_all K).1 day K (k_gn C (h_S (k_r C) h_all K).1 fl val) M) (hY : k_YC 5 M fl val) (h0 : M.1 163 i = 0) : q_T (f_X6_stand n (nI i) (nI (h_D (k_r C) k)) M) (fun M' => (∀ a b, ¬ w_15 a b → M'.2 a b = M.2 a b) ∧ (∀ a b, a < 160 ∨ 167 < a ∨ b ≠ i → M'.1 a b = M.1 a b) ∧ M'.1 160 i = nI (h_a (k_r C) k) ∧ M'.1 161 i = nI (h_b (k_r C) k) ∧ M'.1 162 i = nI (e_lf (h_S (k_r C) h_all K).1 (h_D (k_r C) k)) ∧ M'.1 163 i = nI (if e_op (h_S (k_r C) h_all K).1 day (h_a (k_r C) k) ≠ 0 then y_net C h_all K k fl val fl val else 0) ∧ M'.1 164 i = nI (x_pt (h_S (k_r C) h_all K).1 (h_a (k_r C) k) (h_b (k_r C) k)) ∧ M'.1 165 i = nI (x_on (h_S (k_r C) h_all K).1 (h_a (k_r C) k)) ∧ M'.1 166 i = l_b (decide ((h_S (k_r C) h_all K).1 19 (h_D (k_r C) k) ≠ 0)) ∧ M'.1 167 i = l_b (decide (e_who (h_S (k_r C) h_all K).1 (h_a (k_r C) k) ≠ -1))) := by
  obtain ⟨d1, d2, d3, d4, d5, d6⟩ := a_dl hV (show k < k_N C by omega) h4
  have hP := hV.1.1
  have hD := k_D60 hV hK
  have b0 := b_dl hV hH.1 hK hk h4
  unfold f_X6_stand
  refine q_gd (q_in d6 (by decide)) (q_gd (q_in hi (by decide)) (q_bd (q_bd ?_)))
  rw [q_cl (by omega), q_cl (i := i) (by omega), b0.1]
  have x1 : (m_sI M 160 i (nI (h_a (k_r C) k))).1 (99 + h_D (k_r C) k) 1 = nI (h_b (k_r C) k) := by rw [q_r, if_neg (by omega), b0.2.1]
  rw [x1]
  have hH2 : k_H C (h_S (k_r C) h_all K).1 day K (k_gn C (h_S (k_r C) h_all K).1 fl val) (m_sI (m_sI M 160 i (nI (h_a (k_r C) k))) 161 i (nI (h_b (k_r C) k))) := k_H_q hH hP hD (fun a b q => by rw [q_r, if_neg (by omega), q_r, if_neg (by omega)])
  refine q_bd (q_bd ?_)
  rw [b_left hV hH2.1 hK hk h4]
  have eM : ∀ a b, (m_sI (m_sI (m_sI M 160 i (nI (h_a (k_r C) k))) 161 i (nI (h_b (k_r C) k))) 162 i (nI (e_lf (h_S (k_r C) h_all K).1 (h_D (k_r C) k)))).1 a b = if a = 162 ∧ b = i then nI (e_lf (h_S (k_r C) h_all K).1 (h_D (k_r C) k)) else if a = 161 ∧ b = i then nI (h_b (k_r C) k) else if a = 160 ∧ b = i then nI (h_a (k_r C) k) else M.1 a b := fun a b => by rw [q_r, q_r, q_r]
  have eL : (m_sI (m_sI (m_sI M 160 i (nI (h_a (k_r C) k))) 161 i (nI (h_b (k_r C) k))) 162 i (nI (e_lf (h_S (k_r C) h_all K).1 (h_D (k_r C) k)))).2 = M.2 := rfl
  generalize m_sI (m_sI (m_sI M 160 i (nI (h_a (k_r C) k))) 161 i (nI (h_b (k_r C) k))) 162 i (nI (e_lf (h_S (k_r C) h_all K).1 (h_D (k_r C) k))) = M3 at *
  have hH3 : k_H C (h_S (k_r C) h_all K).1 day K (k_gn C (h_S (k_r C) h_all K).1 fl val) M3 := k_H_q hH hP hD (fun a b q => by rw [eM, if_neg (by omega), if_neg (by omega), if_neg (by omega)])
  have hY3 : k_YC 5 M3 fl val := e_YC_fr hY (fun j => by rw [eM, if_neg (by omega), if_neg (by omega), if_neg (by omega)]) (fun j => by rw [eM, if_neg (by omega), if_neg (by omega), if_neg (by omega)]) (fun j => by rw [eL])
  refine q_ob (q_of (b_open hV hH3.1 hK hk h4) ?_)
  by_cases c : e_op (h_S (k_r C) h_all K).1 day (h_a (k_r C) k) = 0
  · have e0 : (if e_op (h_S (k_r C) h_all K).1 day (h_a (k_r C) k) ≠ 0 then y_net C h_all K k fl val fl val else 0) = 0 := if_neg (fun q => q c)
    rw [e0]
    refine q_it c (q_mono (b_stand72 (n := n) hV hK hk h4 hi hH3) (fun M' h => ?_))
    obtain ⟨a1, a2, a3, a4, a5, a6⟩ := h
    refine ⟨fun a b _ => by rw [a1, eL], fun a b q => ?_, ?_, ?_, ?_, ?_, a3, a4, a5, a6⟩
    · rw [a2 a b (by omega), eM, if_neg (by omega), if_neg (by omega), if_neg (by omega)]
    · rw [a2 _ _ (by omega), eM, if_neg (by omega), if_neg (by omega), if_pos ⟨rfl, rfl⟩]
    · rw [a2 _ _ (by omega), eM, if_neg (by omega), if_pos ⟨rfl, rfl⟩]
    · rw [a2 _ _ (by omega), eM, if_pos ⟨rfl, rfl⟩]
    · rw [a2 _ _ (by omega), eM, if_neg (by omega), if_neg (by omega), if_neg (by omega), h0]
      rfl
  · have e0 : (if e_op (h_S (k_r C) h_all K).1 day (h_a (k_r C) k) ≠ 0 then y_net C h_all K k fl val fl val else 0) = y_net C h_all K k fl val fl val := if_pos c
    rw [e0]
    refine q_if c (q_ob (q_of (b_hid hV hH3.1 hK hk h4) ?_))
    rw [(b_dl hV hH3.1 hK hk h4).1]
    refine q_o2 (q_mono (q_TH (b_net (l := 0) hn hV hK hH3 (by omega) hY3 d2 _) (g_X1_netOf n _ _ _ _ M3)) (fun a ha => q_bd ?_))
    obtain ⟨a1, g⟩ := ha
    have ga : ∀ i j, a.2.1 i j = M3.1 i j := fun i j => g.1 i j (by unfold w_1; omega)
    rw [a1]
    have hH4 : k_H C (h_S (k_r C) h_all K).1 day K (k_gn C (h_S (k_r C) h_all K).1 fl val) (m_sI a.2 163 i (nI (x_nn (h_S (k_r C) h_all K).1 (k_P C) (k_gn C (h_S (k_r C) h_all K).1 fl val) fl val (h_a (k_r C) k) ((h_S (k_r C) h_all K).1 4 (h_a (k_r C) k) - (h_S (k_r C) h_all k).1 4 (h_a (k_r C) k))))) := k_H_q hH3 hP hD (fun a' b q => by rw [q_r, if_neg (by omega)]; exact ga _ _)
    refine q_mono (b_stand72 (n := n) hV hK hk h4 hi hH4) (fun M' h => ?_)
    obtain ⟨z1, z2, z3, z4, z5, z6⟩ := h
    refine ⟨fun a' b q => ?_, fun a' b q => ?_, ?_, ?_, ?_, ?_, z3, z4, z5, z6⟩
    · rw [z1]
      exact (g.2 a' b q).trans (by rw [eL])
    · rw [z2 a' b (by omega), q_r, if_neg (by omega), ga, eM, if_neg (by omega), if_neg (by omega), if_neg (by omega)]
    · rw [z2 _ _ (by omega), q_r, if_neg (by omega), ga, eM, if_neg (by omega), if_neg (by omega), if_pos ⟨rfl, rfl⟩]
    · rw [z2 _ _ (by omega), q_r, if_neg (by omega), ga, eM, if_neg (by omega), if_pos ⟨rfl, rfl⟩]
    · rw [z2 _ _ (by omega), q_r, if_neg (by omega), ga, eM, if_pos ⟨rfl, rfl⟩]
    · rw [z2 _ _ (by omega), q_r, if_pos ⟨rfl, rfl⟩]
      rfl
theorem b_lu10 {n : Nat} {C : k_C} {day : Int32} {K : Nat} {kr : Nat → Nat} {fl : Int32} {val : (Nat → Int64) → Int64} (hn : 200 < n) (hV : k_V C) (hK : K ≤ k_N C) (hkr : l_kr C kr) : ∀ (e x u : Nat) (M : m_M), x + e = k_n C → e < u → k_H C (h_S (k_r C) h_all K).1 day K (k_gn C (h_S (k_r C) h_all K).1 fl val) M → k_YC 5 M fl val → (∀ j, j < k_n C → M.1 3 j = k_l C j) → M.1 159 0 = nI (k_n C) → (∀ j, j < x → l_C1 (l_mk C day K kr fl val) j M) → q_T (f_X6_lineUp_b10 n 1 u (nI x) M) (fun M' => (∀ j, j < k_n C → l_C1 (l_mk C day K kr fl val) j M') ∧ (∀ a b, a < 160 → M'.1 a b = M.1 a b) ∧ ∀ a b, ¬ w_15 a b → M'.2 a b = M.2 a b) := by
  have hP := hV.1.1
  have hD := k_D60 hV hK
  have hn6 : k_n C ≤ 6 := hV.1.2.2.1
  intro e
  induction e with
  | zero =>
    intro x u M hx hu hH hY hl h0 hj
    obtain ⟨u, rfl⟩ : ∃ v, u = v + 1 := ⟨u - 1, by omega⟩
    rw [f_X6_lineUp_b10, h0]
    exact q_it ((q_le (by omega) (by omega)).mpr (by omega)) (q_some ⟨fun j q => hj j (by omega), fun _ _ _ => rfl, fun _ _ _ => rfl⟩)
  | succ e ih =>
    intro x u M hx hu hH hY hl h0 hj
    obtain ⟨u, rfl⟩ : ∃ v, u = v + 1 := ⟨u - 1, by omega⟩
    obtain ⟨k1, k2, k3⟩ := hkr x (by omega)
    obtain ⟨d1, d2, d3, d4, d5, d6⟩ := a_dl hV k1 k2
    rw [f_X6_lineUp_b10, h0]
    refine q_if (fun q => absurd ((q_le (by omega) (by omega)).mp q) (by omega)) (q_ob (q_mono (b_leave (i := x) (by omega)) (fun M2 h2 => ?_)))
    obtain ⟨a1, a2, a3, a4, a5⟩ := h2
    have hH2 : k_H C (h_S (k_r C) h_all K).1 day K (k_gn C (h_S (k_r C) h_all K).1 fl val) M2 := k_H_q hH hP hD (fun a b q => a2 a b (by omega))
    have hY2 : k_YC 5 M2 fl val := e_YC_fr hY (fun j => a2 _ _ (by omega)) (fun j => a2 _ _ (by omega)) (fun j => by rw [a1])
    refine q_gd (q_in (by omega) (by decide)) (q_bd ?_)
    have hlx : M2.1 (1 + 2) x = nI (h_D (k_r C) (kr x)) := (a2 3 x (by omega)).trans ((hl x (by omega)).trans k3)
    rw [q_cl (i := x) (by omega), hlx, k_there (day := 0) hH2.1.1, e_inN (by omega) (by omega), q_up]
    have old : ∀ M3 : m_M, (∀ a b, b ≠ x → M3.1 a b = M2.1 a b) → ∀ j, j < x → l_C1 (l_mk C day K kr fl val) j M3 := fun M3 e3 j q => by
      have e4 : ∀ a, M3.1 a j = M.1 a j := fun a => (e3 a j (by omega)).trans (a2 a j (by omega))
      have := hj j q
      unfold l_C1 at *
      rw [e4, e4, e4, e4, e4, e4, e4, e4]
      exact this
    by_cases c : kr x < K
    · rw [if_pos (h_D_lt c k2)]
      refine q_if (by decide) (q_ob (q_mono (b_stand (fl := fl) (val := val) hn hV hK c k2 (show x < 6 by omega) hH2 hY2 (a5 163 (by omega) (by omega))) (fun M3 h3 => ?_)))
      obtain ⟨s0, s1, s2, s3, s4, s5, s6, s7, s8, s9⟩ := h3
      refine q_mono (ih (x + 1) u M3 (by omega) (by omega) (k_H_q hH2 hP hD (fun a b q => s1 a b (by omega))) (e_YC_fr hY2 (fun j => s1 _ _ (by omega)) (fun j => s1 _ _ (by omega)) (fun j => s0 _ _ (by unfold w_15; omega))) (fun j q => (s1 3 j (by omega)).trans ((a2 3 j (by omega)).trans (hl j q))) ((s1 159 0 (by omega)).trans ((a2 159 0 (by omega)).trans h0)) (fun j q => ?_)) (fun M4 h4 => ⟨h4.1, fun a b q => (h4.2.1 a b q).trans ((s1 a b (by omega)).trans (a2 a b (by omega))), fun a b q => (h4.2.2 a b q).trans ((s0 a b q).trans (by rw [a1]))⟩)
      by_cases z : j = x
      · subst z
        have hla : l_la (l_mk C day K kr fl val) j = true := decide_eq_true c
        refine ⟨?_, ?_, ?_, ?_, ?_, ?_, ?_, ?_⟩
        · rw [if_pos hla]; exact s2
        · rw [if_pos hla]; exact s3
        · rw [s4]; exact congrArg nI (if_pos c).symm
        · rw [s5]
          refine congrArg nI ?_
          show _ = (if kr j < K ∧ e_op (h_S (k_r C) h_all K).1 day (h_a (k_r C) (kr j)) ≠ 0 then y_net C h_all K (kr j) fl val fl val else 0)
          by_cases z : e_op (h_S (k_r C) h_all K).1 day (h_a (k_r C) (kr j)) ≠ 0
          · rw [if_pos z, if_pos ⟨c, z⟩]
          · rw [if_neg z, if_neg (fun w => z w.2)]
        · rw [if_pos hla]; exact s6
        · rw [if_pos hla]; exact s7
        · rw [s8]
          refine congrArg l_b ?_
          show _ = decide (kr j < K ∧ (h_S (k_r C) h_all K).1 19 (h_D (k_r C) (kr j)) ≠ 0)
          rw [decide_eq_decide]
          exact ⟨fun w => ⟨c, w⟩, fun w => w.2⟩
        · rw [s9]
          refine congrArg l_b ?_
          show _ = decide (kr j < K ∧ e_who (h_S (k_r C) h_all K).1 (h_a (k_r C) (kr j)) ≠ -1)
          rw [decide_eq_decide]
          exact ⟨fun w => ⟨c, w⟩, fun w => w.2⟩
      · exact old M3 (fun a b q => s1 a b (by omega)) j (by omega)
    · rw [if_neg (fun q => c ((h_D_lt_iff k2).mp q))]
      refine q_it rfl (q_mono (ih (x + 1) u M2 (by omega) (by omega) hH2 hY2 (fun j q => (a2 3 j (by omega)).trans (hl j q)) ((a2 159 0 (by omega)).trans h0) (fun j q => ?_)) (fun M4 h4 => ⟨h4.1, fun a b q => (h4.2.1 a b q).trans (a2 a b (by omega)), fun a b q => (h4.2.2 a b q).trans (by rw [a1])⟩))
      by_cases z : j = x
      · subst z
        have hla : ¬ l_la (l_mk C day K kr fl val) j = true := fun w => c (of_decide_eq_true w)
        refine ⟨?_, ?_, ?_, ?_, ?_, ?_, ?_, ?_⟩
        · rw [if_neg hla]; exact a3
        · rw [if_neg hla]; exact a4
        · rw [a5 162 (by omega) (by omega)]
          exact congrArg nI (if_neg c).symm
        · rw [a5 163 (by omega) (by omega)]
          exact congrArg nI (if_neg (fun w => c w.1)).symm
        · rw [if_neg hla]; exact a5 164 (by omega) (by omega)
        · rw [if_neg hla]; exact a5 165 (by omega) (by omega)
        · rw [a5 166 (by omega) (by omega), show l_ms (l_mk C day K kr fl val) j = false from decide_eq_false (fun w => c w.1)]
          rfl
        · rw [a5 167 (by omega) (by omega), show l_an (l_mk C day K kr fl val) j = false from decide_eq_false (fun w => c w.1)]
          rfl
      · exact old M2 (fun a b q => rfl) j (by omega)
theorem b_lineUp {n K : Nat} {C C0 C1 : k_C} {M : m_M} {day fl : Int32} {val : (Nat → Int64) → Int64} {kr : Nat → Nat} (hn : 200 < n) (hM : k_M C C0 C1 M) (hY : k_YC 5 M fl val) (hkr : l_kr C kr) (hd : h_day (k_r C) (k_N C) day K) : q_T (f_X7_lineUp n day M) (fun M' => l_C (l_mk C day K kr fl val) M' ∧ k_M C C0 C1 M') := by
  have hV := hM.1.1
  have hn6 : k_n C ≤ 6 := hV.1.2.2.1
  refine q_mono (q_TH (P := fun M' => l_C (l_mk C day K kr fl val) M') ?_ (g_X7_lineUp n day M)) (fun M' h => ⟨h.1, k_M_fr2 hM ⟨fun i j q => h.2.1 i j (by unfold w_37; omega), fun i j q => h.2.2 i j (by unfold w_15; omega)⟩ (fun i j q => h.2.2 i j (by unfold w_15; omega))⟩)
  unfold f_X7_lineUp
  refine q_ob (q_mono (k_reck (n := n) (ns := 0) hn (n_of hM) hY hd) (fun M1 h1 => ?_))
  obtain ⟨hH, hM1, hY1, hL1⟩ := h1
  have y1 := hY1 0 fl val (by omega) hY
  rw [k_ns0 hV hd.1] at hH
  obtain ⟨v1, v2, v3, v4, v5, v6, v7, v8⟩ := hM1.1.2.1
  unfold f_X6_lineUp
  refine q_ob (q_bd ?_)
  rw [v5]
  refine q_mono (b_lu10 (n := n) (fl := fl) (val := val) hn hV hd.1 hkr (k_n C) 0 n (m_sI M1 159 0 (nI (k_n C))) (by omega) (by omega) (k_H_q hH hV.1.1 (k_D60 hV hd.1) (fun a b q => by rw [q_r, if_neg (by omega)])) (e_YC_fr y1 (fun j => by rw [q_r, if_neg (by omega)]) (fun j => by rw [q_r, if_neg (by omega)]) (fun j => rfl)) (fun j q => by rw [q_r, if_neg (by omega)]; exact v7 j q) (by rw [q_r, if_pos ⟨rfl, rfl⟩]) (fun j q => absurd q (Nat.not_lt_zero _))) (fun M' h => q_some ⟨?_, h.1⟩)
  rw [h.2.1 159 0 (by omega), q_r, if_pos ⟨rfl, rfl⟩]
  rfl
