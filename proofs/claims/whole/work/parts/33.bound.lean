/-! BOUNDS: how large the sums of the house are -/
theorem q_ia {x y : Int32} (h1 : -2147483648 ≤ x.toInt + y.toInt) (h2 : x.toInt + y.toInt < 2147483648) : (x + y).toInt = x.toInt + y.toInt := by
  rw [Int32.toInt_add]
  exact Int.bmod_eq_of_le (by omega) (by omega)
theorem q_is {x y : Int32} (h1 : -2147483648 ≤ x.toInt - y.toInt) (h2 : x.toInt - y.toInt < 2147483648) : (x - y).toInt = x.toInt - y.toInt := by
  rw [Int32.toInt_sub]
  exact Int.bmod_eq_of_le (by omega) (by omega)
theorem q_it0 : (0 : Int32).toInt = 0 := rfl
def h_bf (f : Nat) : Prop := f = 4 ∨ f = 5 ∨ f = 6 ∨ f = 13 ∨ f = 14 ∨ f = 15
def h_bx (m f : Nat) (x : Int32) : Prop := -(1000 * (m : Int)) ≤ x.toInt ∧ x.toInt ≤ 1000 * (m : Int) ∧ (f ≠ 5 → f ≠ 6 → 0 ≤ x.toInt)
def h_bd (S : Nat → Nat → Int32) (m : Nat) : Prop := ∀ f i, h_bf f → h_bx m f (S f i)
theorem h_bd_w {S : Nat → Nat → Int32} {m : Nat} (h : h_bd S m) : h_bd S (m + 1) := fun f i q => by
  obtain ⟨a, b, c⟩ := h f i q
  exact ⟨by omega, by omega, c⟩
theorem h_bd_up {S : Nat → Nat → Int32} {m f0 i0 : Nat} {x : Int32} (h : h_bd S m) (hx : h_bf f0 → h_bx m f0 x) : h_bd (h_up S f0 i0 x) m := fun f i q => by
  unfold h_up
  by_cases c : f = f0 ∧ i = i0
  · rw [if_pos c]
    rw [c.1] at q ⊢
    exact hx q
  · rw [if_neg c]
    exact h f i q
theorem h_bx_add {m f : Nat} {x v : Int32} (h : h_bx m f x) (hm : m ≤ 60) (hv : ∃ w, 1 ≤ w ∧ w ≤ 1000 ∧ v = nI w) : h_bx (m + 1) f (x + v) := by
  obtain ⟨w, w1, w2, rfl⟩ := hv
  obtain ⟨a, b, c⟩ := h
  have e := nI_toInt (n := w) (by omega)
  have := q_ia (x := x) (y := nI w) (by omega) (by omega)
  refine ⟨by omega, by omega, fun q1 q2 => ?_⟩
  have := c q1 q2
  omega
theorem h_bx_sub {m f : Nat} {x v : Int32} (h : h_bx m f x) (hm : m ≤ 60) (hf : f = 5 ∨ f = 6) (hv : ∃ w, 1 ≤ w ∧ w ≤ 1000 ∧ v = nI w) : h_bx (m + 1) f (x - v) := by
  obtain ⟨w, w1, w2, rfl⟩ := hv
  obtain ⟨a, b, c⟩ := h
  have e := nI_toInt (n := w) (by omega)
  have := q_is (x := x) (y := nI w) (by omega) (by omega)
  refine ⟨by omega, by omega, fun q1 q2 => ?_⟩
  omega
theorem h_bd_st {S : Nat → Nat → Int32} {m D kd a : Nat} {day b v : Int32} (h : h_bd S m) (hm : m ≤ 60) (hk : kd < 15) (hv : (1 ≤ kd ∧ kd ≤ 4 ∨ 9 ≤ kd ∧ kd ≤ 13) → ∃ w, 1 ≤ w ∧ w ≤ 1000 ∧ v = nI w) : h_bd (h_st S D kd a day b v) (m + 1) := by
  have h' := h_bd_w h
  have hc : kd = 0 ∨ kd = 1 ∨ kd = 2 ∨ kd = 3 ∨ kd = 4 ∨ kd = 5 ∨ kd = 6 ∨ kd = 7 ∨ kd = 8 ∨ kd = 9 ∨ kd = 10 ∨ kd = 11 ∨ kd = 12 ∨ kd = 13 ∨ kd = 14 := by omega
  have nb : ∀ (f : Nat) (x : Int32), ¬ h_bf f → h_bf f → h_bx (m + 1) f x := fun f x q1 q2 => absurd q2 q1
  rcases hc with e | e | e | e | e | e | e | e | e | e | e | e | e | e | e <;> subst e
  · exact h_bd_up (h_bd_up h' (nb _ _ (by unfold h_bf; omega))) (nb _ _ (by unfold h_bf; omega))
  · exact h_bd_up h' (fun q => h_bx_add (h _ _ q) hm (hv (by omega)))
  · exact h_bd_up h' (fun q => h_bx_sub (h _ _ q) hm (by omega) (hv (by omega)))
  · exact h_bd_up (h_bd_up h' (fun q => h_bx_sub (h _ _ q) hm (by omega) (hv (by omega)))) (fun q => h_bx_add (h _ _ q) hm (hv (by omega)))
  · intro f i q
    simp only [h_st]
    by_cases c : i = D ∧ 10 ≤ f
    · rw [if_pos c]
      have hz : ∀ f, h_bx (m + 1) f 0 := fun f => ⟨by rw [q_it0]; omega, by rw [q_it0]; omega, fun _ _ => by rw [q_it0]; omega⟩
      have : f = 13 ∨ f = 14 ∨ f = 15 := by unfold h_bf at q; omega
      rcases this with e | e | e <;> subst e <;> exact hz _
    · rw [if_neg c]
      exact h' f i q
  · exact h_bd_up h' (nb _ _ (by unfold h_bf; omega))
  · exact h_bd_up h' (nb _ _ (by unfold h_bf; omega))
  · exact h_bd_up h' (nb _ _ (by unfold h_bf; omega))
  · exact h_bd_up h' (nb _ _ (by unfold h_bf; omega))
  · exact h_bd_up h' (fun q => h_bx_add (h _ _ q) hm (hv (by omega)))
  · exact h_bd_up h' (fun q => h_bx_add (h _ _ q) hm (hv (by omega)))
  · exact h_bd_up h' (fun q => h_bx_add (h _ _ q) hm (hv (by omega)))
  · exact h_bd_up h' (fun q => h_bx_sub (h _ _ q) hm (by omega) (hv (by omega)))
  · exact h_bd_up h' (fun q => h_bx_add (h _ _ q) hm (hv (by omega)))
  · exact h_bd_up (h_bd_up (h_bd_up (h_bd_up h' (nb _ _ (by unfold h_bf; omega))) (nb _ _ (by unfold h_bf; omega))) (nb _ _ (by unfold h_bf; omega))) (nb _ _ (by unfold h_bf; omega))
theorem h_bd_S {r : Nat → Int32} {P N : Nat} (hN : N ≤ 60) (hW : h_W r N) (hr : ∀ k, k < N → k_row r P k) (so : Nat → Bool) : ∀ k, k ≤ N → h_bd (h_S r so k).1 k
  | 0, _ => fun f i q => by
    show h_bx 0 f (if f < 2 then -1 else 0)
    rw [if_neg (by unfold h_bf at q; omega)]
    exact ⟨by rw [q_it0]; omega, by rw [q_it0]; omega, fun _ _ => by rw [q_it0]; omega⟩
  | k + 1, hk => by
    have ih := h_bd_S hN hW hr so k (by omega)
    rw [h_S]
    split
    · exact h_bd_w ih
    · exact h_bd_st ih (by omega) (hW k (by omega)).1.2.1 (hr k (by omega)).2.2.2.2.2
theorem k_bd {C : k_C} (hV : k_V C) (so : Nat → Bool) {K : Nat} (hK : K ≤ k_N C) : h_bd (h_S (k_r C) so K).1 60 := by
  have h := h_bd_S hV.1.2.1 hV.2.1 hV.2.2.1 so K hK
  have hN := hV.1.2.1
  intro f i q
  obtain ⟨a, b, c⟩ := h f i q
  exact ⟨by omega, by omega, c⟩
/-! single fields after a row -/
theorem h_st13 {S : Nat → Nat → Int32} {D kd a i : Nat} {day b v : Int32} (hk : kd < 15) : h_st S D kd a day b v 13 i = if kd = 13 ∧ i = a then S 13 a + v else if kd = 4 ∧ i = D then 0 else S 13 i := by
  have hc : kd = 0 ∨ kd = 1 ∨ kd = 2 ∨ kd = 3 ∨ kd = 4 ∨ kd = 5 ∨ kd = 6 ∨ kd = 7 ∨ kd = 8 ∨ kd = 9 ∨ kd = 10 ∨ kd = 11 ∨ kd = 12 ∨ kd = 13 ∨ kd = 14 := by omega
  rcases hc with e | e | e | e | e | e | e | e | e | e | e | e | e | e | e <;> subst e <;> simp [h_st, h_up, h_dl]
theorem h_st4 {S : Nat → Nat → Int32} {D kd a i : Nat} {day b v : Int32} (hk : kd < 15) : h_st S D kd a day b v 4 i = if kd = 3 ∧ i = a then S 4 a + v else S 4 i := by
  have hc : kd = 0 ∨ kd = 1 ∨ kd = 2 ∨ kd = 3 ∨ kd = 4 ∨ kd = 5 ∨ kd = 6 ∨ kd = 7 ∨ kd = 8 ∨ kd = 9 ∨ kd = 10 ∨ kd = 11 ∨ kd = 12 ∨ kd = 13 ∨ kd = 14 := by omega
  rcases hc with e | e | e | e | e | e | e | e | e | e | e | e | e | e | e <;> subst e <;> simp [h_st, h_up, h_dl]
theorem h_st16 {S : Nat → Nat → Int32} {D kd a i : Nat} {day b v : Int32} (hk : kd < 15) : h_st S D kd a day b v 16 i = if kd = 4 ∧ i = D then S 4 a else S 16 i := by
  have hc : kd = 0 ∨ kd = 1 ∨ kd = 2 ∨ kd = 3 ∨ kd = 4 ∨ kd = 5 ∨ kd = 6 ∨ kd = 7 ∨ kd = 8 ∨ kd = 9 ∨ kd = 10 ∨ kd = 11 ∨ kd = 12 ∨ kd = 13 ∨ kd = 14 := by omega
  rcases hc with e | e | e | e | e | e | e | e | e | e | e | e | e | e | e <;> subst e <;> simp [h_st, h_up, h_dl]
theorem h_S_so {r : Nat → Int32} {so : Nat → Bool} {N k : Nat} (hW : h_W r N) (hk : k < N) (h : r (6 * k + 5) = 0 ∨ so (h_B r k) = true) : (h_S r so (k + 1)).1 = h_st (h_S r so k).1 (h_D r k) (h_kd r k) (h_a r k) (r (6 * k)) (r (6 * k + 3)) (r (6 * k + 4)) := by
  have hs := h_SD (so := so) hW k (by omega)
  rw [h_S, hs.1, hs.2]
  rw [if_neg]
  rintro ⟨c1, c2⟩
  rcases h with q | q
  · exact c1 q
  · rw [q] at c2
    cases c2
theorem h_S_no {r : Nat → Int32} {so : Nat → Bool} {N k : Nat} (hW : h_W r N) (hk : k < N) (h : r (6 * k + 5) ≠ 0) (h2 : so (h_B r k) = false) : (h_S r so (k + 1)).1 = (h_S r so k).1 := by
  have hs := h_SD (so := so) hW k (by omega)
  rw [h_S, hs.1, hs.2]
  rw [if_pos ⟨h, h2⟩]
theorem h_ind {r : Nat → Int32} {so : Nat → Bool} {N k : Nat} (hW : h_W r N) (hk : k < N) : (h_S r so (k + 1)).1 = (h_S r so k).1 ∧ h_kd r k ≠ 0 ∧ h_kd r k ≠ 4 ∧ h_kd r k ≠ 14 ∨ (h_S r so (k + 1)).1 = h_st (h_S r so k).1 (h_D r k) (h_kd r k) (h_a r k) (r (6 * k)) (r (6 * k + 3)) (r (6 * k + 4)) := by
  by_cases c : r (6 * k + 5) = 0
  · exact Or.inr (h_S_so hW hk (Or.inl c))
  · cases e : so (h_B r k) with
    | true => exact Or.inr (h_S_so hW hk (Or.inr e))
    | false => exact Or.inl ⟨h_S_no hW hk c e, (hW k hk).2.2 c⟩
theorem h_all_st {r : Nat → Int32} {N k : Nat} (hW : h_W r N) (hk : k < N) : (h_S r h_all (k + 1)).1 = h_st (h_S r h_all k).1 (h_D r k) (h_kd r k) (h_a r k) (r (6 * k)) (r (6 * k + 3)) (r (6 * k + 4)) := h_S_so hW hk (Or.inr rfl)
/-- what is paid where some say not so is no more -/
theorem h_paid {r : Nat → Int32} {P N : Nat} (hN : N ≤ 60) (hW : h_W r N) (hr : ∀ k, k < N → k_row r P k) (so : Nat → Bool) : ∀ k, k ≤ N → ∀ d, ((h_S r so k).1 13 d).toInt ≤ ((h_S r h_all k).1 13 d).toInt
  | 0, _, d => Int.le_refl _
  | k + 1, hk, d => by
    have ih := h_paid hN hW hr so k (by omega)
    have hkd := (hW k (by omega)).1.2.1
    have b1 := h_bd_S hN hW hr so k (by omega) 13 (h_a r k) (by unfold h_bf; omega)
    have b2 := h_bd_S hN hW hr h_all k (by omega) 13 (h_a r k) (by unfold h_bf; omega)
    rw [h_all_st hW (by omega), h_st13 hkd]
    have ihd := ih d
    have iha := ih (h_a r k)
    by_cases c : h_kd r k = 13 ∧ d = h_a r k
    · obtain ⟨w, w1, w2, w3⟩ := (hr k (by omega)).2.2.2.2.2 (by omega)
      have e := nI_toInt (n := w) (by omega)
      rw [if_pos c, w3]
      have b3 := b2.2.2 (by omega) (by omega)
      have q2 := q_ia (x := (h_S r h_all k).1 13 (h_a r k)) (y := nI w) (by omega) (by have := b2.2.1; omega)
      have b4 := b1.2.2 (by omega) (by omega)
      have q1 := q_ia (x := (h_S r so k).1 13 (h_a r k)) (y := nI w) (by omega) (by have := b1.2.1; omega)
      rcases h_ind (so := so) hW (show k < N by omega) with ⟨e1, _⟩ | e1
      · rw [e1, c.2]
        omega
      · rw [e1, h_st13 hkd, if_pos c, w3]
        omega
    · rw [if_neg c]
      rcases h_ind (so := so) hW (show k < N by omega) with ⟨e1, e2⟩ | e1
      · rw [e1, if_neg (fun q => e2.2.1 q.1)]
        exact ihd
      · rw [e1, h_st13 hkd, if_neg c]
        split
        · exact Int.le_refl _
        · exact ihd
theorem h_pm {r : Nat → Int32} {P N : Nat} (hN : N ≤ 60) (hW : h_W r N) (hr : ∀ k, k < N → k_row r P k) {k d : Nat} (hd : d < h_D r k) : ∀ e, k + e ≤ N → ((h_S r h_all k).1 13 d).toInt ≤ ((h_S r h_all (k + e)).1 13 d).toInt
  | 0, _ => Int.le_refl _
  | e + 1, hk => by
    have ih := h_pm hN hW hr hd e (by omega)
    have hkd := (hW (k + e) (by omega)).1.2.1
    have b2 := h_bd_S hN hW hr h_all (k + e) (by omega) 13 (h_a r (k + e)) (by unfold h_bf; omega)
    have hm := h_D_mono r k e
    rw [show k + (e + 1) = (k + e) + 1 from rfl, h_all_st hW (by omega), h_st13 hkd]
    by_cases c : h_kd r (k + e) = 13 ∧ d = h_a r (k + e)
    · obtain ⟨w, w1, w2, w3⟩ := (hr (k + e) (by omega)).2.2.2.2.2 (by omega)
      have e' := nI_toInt (n := w) (by omega)
      rw [if_pos c, w3]
      have b3 := b2.2.2 (by omega) (by omega)
      have q2 := q_ia (x := (h_S r h_all (k + e)).1 13 (h_a r (k + e))) (y := nI w) (by omega) (by have := b2.2.1; omega)
      have := c.2
      subst this
      omega
    · rw [if_neg c, if_neg (by omega)]
      exact ih
/-- what is owed of the deal of row k -/
def e_lf (S : Nat → Nat → Int32) (d : Nat) : Nat := (S 12 d - S 13 d).toNatClampNeg
theorem k_lf {C : k_C} (hV : k_V C) (so : Nat → Bool) {K k : Nat} (hK : K ≤ k_N C) (hk : k < K) (h4 : h_kd (k_r C) k = 4) : (h_S (k_r C) so K).1 12 (h_D (k_r C) k) - (h_S (k_r C) so K).1 13 (h_D (k_r C) k) = nI (e_lf (h_S (k_r C) so K).1 (h_D (k_r C) k)) ∧ e_lf (h_S (k_r C) so K).1 (h_D (k_r C) k) ≤ 1000 := by
  have hN := hV.1.2.1
  have hd := h_D_lt hk h4
  have hdN : h_D (k_r C) k < h_D (k_r C) (k_N C) := h_D_lt (by omega) h4
  have p1 := h_paid hN hV.2.1 hV.2.2.1 so K hK (h_D (k_r C) k)
  have p2 := h_pm hN hV.2.1 hV.2.2.1 hd (k_N C - K) (by omega)
  rw [show K + (k_N C - K) = k_N C by omega] at p2
  have p3 := hV.2.2.2.2.2.1 _ hdN
  rw [Int32.le_iff_toInt_le] at p3
  have m1 := (h_made_S hV.2.1 so h4 K hK hk).2.2
  have m2 := (h_made_S hV.2.1 h_all h4 (k_N C) (Nat.le_refl _) (by omega)).2.2
  obtain ⟨w, w1, w2, w3⟩ := (hV.2.2.1 k (by omega)).2.2.2.2.2 (by omega)
  have b := (k_bd hV so hK) 13 (h_D (k_r C) k) (by unfold h_bf; omega)
  have b3 := b.2.2 (by omega) (by omega)
  rw [m2, w3, nI_toInt (by omega)] at p3
  obtain ⟨x, hx, ex⟩ := nI_of (x := (h_S (k_r C) so K).1 13 (h_D (k_r C) k)) (by rw [q_il0]; omega)
  have hxw : x ≤ w := by
    rw [ex, nI_toInt hx] at p1
    omega
  have e : (h_S (k_r C) so K).1 12 (h_D (k_r C) k) - (h_S (k_r C) so K).1 13 (h_D (k_r C) k) = nI (w - x) := by
    rw [m1, w3, ex, pk_sub hxw]
  unfold e_lf
  rw [e, q_cl (by omega)]
  exact ⟨rfl, by omega⟩
theorem q_mx {x : Int32} {B : Nat} (h : x.toInt ≤ B) (hB : B < 2147483648) : ∃ w, w ≤ B ∧ m_max 0 x = nI w := by
  unfold m_max
  by_cases c : 0 < x
  · rw [if_pos c]
    rw [Int32.lt_iff_toInt_lt] at c
    have c0 : (0 : Int32).toInt = 0 := rfl
    obtain ⟨j, hj, rfl⟩ := nI_of (x := x) (by rw [q_il0]; omega)
    rw [nI_toInt hj] at h
    exact ⟨j, by omega, rfl⟩
  · rw [if_neg c]
    exact ⟨0, by omega, rfl⟩
theorem k_pt {C : k_C} (hV : k_V C) (so : Nat → Bool) {K : Nat} (hK : K ≤ k_N C) (p t : Nat) : ∃ w, w ≤ 60000 ∧ e_pt (h_S (k_r C) so K).1 p t = nI w := by
  have b := (k_bd hV so hK) 5 (4 * p + t) (by unfold h_bf; omega)
  exact q_mx (B := 60000) (by have := b.2.1; omega) (by omega)
theorem k_db {C : k_C} (hV : k_V C) (so : Nat → Bool) {K : Nat} (hK : K ≤ k_N C) (p t : Nat) : ∃ w, w ≤ 60000 ∧ e_db (h_S (k_r C) so K).1 p t = nI w := by
  have b := (k_bd hV so hK) 6 (10 * p + t) (by unfold h_bf; omega)
  exact q_mx (B := 60000) (by have := b.2.1; omega) (by omega)
theorem k_o {C : k_C} (hV : k_V C) (so : Nat → Bool) {K : Nat} (hK : K ≤ k_N C) (p : Nat) : ∃ w, w ≤ 60000 ∧ e_o (h_S (k_r C) so K).1 p = nI w := by
  unfold e_o
  split
  · exact ⟨0, by omega, rfl⟩
  · exact k_db hV so hK p _
theorem k_th {C : k_C} (hV : k_V C) (so : Nat → Bool) {K : Nat} (hK : K ≤ k_N C) (d : Nat) : ∃ w, w ≤ 60000 ∧ m_max 0 ((h_S (k_r C) so K).1 14 d - (h_S (k_r C) so K).1 15 d) = nI w := by
  have b := (k_bd hV so hK) 14 d (by unfold h_bf; omega)
  have b' := (k_bd hV so hK) 15 d (by unfold h_bf; omega)
  have c := b.2.2 (by omega) (by omega)
  have c' := b'.2.2 (by omega) (by omega)
  refine q_mx (B := 60000) ?_ (by omega)
  rw [q_is (by have := b'.2.1; omega) (by have := b.2.1; omega)]
  have := b.2.1
  omega
/-- what was hidden ahead of a deal -/
theorem h_hid {r : Nat → Int32} {N : Nat} (hW : h_W r N) (so : Nat → Bool) {k : Nat} (h4 : h_kd r k = 4) : ∀ K, K ≤ N → k < K → (h_S r so K).1 16 (h_D r k) = (h_S r so k).1 4 (h_a r k)
  | 0, _, h => absurd h (Nat.not_lt_zero _)
  | K + 1, hK, h => by
    have hkd := (hW K (by omega)).1.2.1
    by_cases c : k = K
    · subst c
      rcases h_ind (so := so) hW (show k < N by omega) with ⟨_, e2⟩ | e1
      · exact absurd h4 e2.2.1
      · rw [e1, h_st16 hkd, if_pos ⟨h4, rfl⟩]
    · have ih := h_hid hW so h4 K (by omega) (by omega)
      have hlt := h_D_lt (show k < K by omega) h4
      rcases h_ind (so := so) hW (show K < N by omega) with ⟨e1, _⟩ | e1
      · rw [e1]
        exact ih
      · rw [e1, h_st16 hkd, if_neg (by omega)]
        exact ih
