/-! HOUSE: what the notes make, as a fold; the class's replay makes it -/
theorem q_p0 (a : Nat) : nI a + (0 : Int32) = nI a := by rw [show (0 : Int32) = nI 0 from rfl, q_add]; rfl
theorem q_p1 (a : Nat) : nI a + (1 : Int32) = nI (a + 1) := q_add a 1
theorem q_p2 (a : Nat) : nI a + (2 : Int32) = nI (a + 2) := q_add a 2
theorem q_p3 (a : Nat) : nI a + (3 : Int32) = nI (a + 3) := q_add a 3
theorem q_p4 (a : Nat) : nI a + (4 : Int32) = nI (a + 4) := q_add a 4
theorem q_p5 (a : Nat) : nI a + (5 : Int32) = nI (a + 5) := q_add a 5
theorem q_x6 (a : Nat) : (6 : Int32) * nI a = nI (6 * a) := q_mul 6 a
theorem q_x4 (a : Nat) : (4 : Int32) * nI a = nI (4 * a) := q_mul 4 a
theorem q_x10 (a : Nat) : (10 : Int32) * nI a = nI (10 * a) := q_mul 10 a
theorem q_zp (a : Nat) : (0 : Int32) + nI a = nI a := by rw [show (0 : Int32) = nI 0 from rfl, q_add]; congr 1; omega
def h_up (S : Nat → Nat → Int32) (f i : Nat) (x : Int32) : Nat → Nat → Int32 := fun f' i' => if f' = f ∧ i' = i then x else S f' i'
def h_cc (f i : Nat) : Nat := if f < 5 then 49 + 5 * i else if f = 5 then 50 + 5 * (i / 4) else if f = 6 then 51 + 5 * (i / 10) else if f = 7 then 52 + 5 * (i / 4) else if f = 8 then 53 + 5 * (i / 4) else 99 + i
def h_cs (f i : Nat) : Nat := if f < 5 then f else if f = 5 then i % 4 else if f = 6 then i % 10 else if f = 7 then i % 4 else if f = 8 then i % 4 else f - 10
def h_ok (D f i : Nat) : Prop := (f < 5 ∧ i < 10) ∨ (f = 5 ∧ i < 40) ∨ (f = 6 ∧ i < 100) ∨ (f = 7 ∧ i < 40) ∨ (f = 8 ∧ i < 40) ∨ (10 ≤ f ∧ f < 20 ∧ i < D)
theorem h_inj {D f i f' i' : Nat} (h : h_ok D f i) (h' : h_ok D f' i') (e1 : h_cc f i = h_cc f' i') (e2 : h_cs f i = h_cs f' i') : f = f' ∧ i = i' := by
  unfold h_cc at e1
  unfold h_cs at e2
  rcases h with h | h | h | h | h | h <;> rcases h' with h' | h' | h' | h' | h' | h' <;> ((repeat (first | rw [if_pos (by omega)] at e1 | rw [if_neg (by omega)] at e1)); (repeat (first | rw [if_pos (by omega)] at e2 | rw [if_neg (by omega)] at e2)); omega)
/-- cells of the house -/
def h_cell (i : Nat) : Prop := i = 45 ∨ (49 ≤ i ∧ i < 159)
theorem h_cc_in {D f i : Nat} (h : h_ok D f i) (hD : D ≤ 60) : 49 ≤ h_cc f i ∧ h_cc f i < 159 := by
  unfold h_cc
  rcases h with h | h | h | h | h | h <;> ((repeat (first | rw [if_pos (by omega)] | rw [if_neg (by omega)])); omega)
def h_fr (M M' : m_M) : Prop := M'.2 = M.2 ∧ ∀ i j, ¬ h_cell i → M'.1 i j = M.1 i j
theorem h_fr_rf {M : m_M} : h_fr M M := ⟨rfl, fun _ _ _ => rfl⟩
theorem h_fr_tr {M M1 M2 : m_M} (h : h_fr M M1) (h2 : h_fr M1 M2) : h_fr M M2 := ⟨h2.1.trans h.1, fun i j q => (h2.2 i j q).trans (h.2 i j q)⟩
theorem h_fr_sI {M : m_M} {k j : Nat} {x : Int32} (h : h_cell k) : h_fr M (m_sI M k j x) := ⟨rfl, fun i j' q => by
  rw [q_r]
  exact if_neg (fun e => q (by rw [e.1]; exact h))⟩
def h_R (S : Nat → Nat → Int32) (D : Nat) (M : m_M) : Prop := M.1 45 4 = nI D ∧ ∀ f i, h_ok D f i → M.1 (h_cc f i) (h_cs f i) = S f i
theorem h_R_up {S : Nat → Nat → Int32} {D : Nat} {M : m_M} {f i k j : Nat} {x : Int32} (h : h_R S D M) (hD : D ≤ 60) (hok : h_ok D f i) (hk : h_cc f i = k) (hj : h_cs f i = j) : h_R (h_up S f i x) D (m_sI M k j x) := by
  subst hk
  subst hj
  refine ⟨?_, fun f' i' hok' => ?_⟩
  · have h1 := h_cc_in hok hD
    rw [q_r, if_neg (by omega)]
    exact h.1
  · rw [q_r]
    unfold h_up
    by_cases e : f' = f ∧ i' = i
    · rw [if_pos e, if_pos ⟨by rw [e.1, e.2], by rw [e.1, e.2]⟩]
    · rw [if_neg e, if_neg (fun q => e (h_inj hok' hok q.1 q.2)), h.2 f' i' hok']
theorem h_c1 (f : Nat) {a : Nat} (h : f < 5) : h_cc f a = 49 + 5 * a ∧ h_cs f a = f := by
  unfold h_cc h_cs
  rw [if_pos h, if_pos h]
  exact ⟨rfl, rfl⟩
theorem h_c5 {a b : Nat} (h : b < 4) : h_cc 5 (4 * a + b) = 49 + 5 * a + 1 ∧ h_cs 5 (4 * a + b) = b := by
  unfold h_cc h_cs
  constructor <;> ((repeat (first | rw [if_pos (by omega)] | rw [if_neg (by omega)])); omega)
theorem h_c6 {a b : Nat} (h : b < 10) : h_cc 6 (10 * a + b) = 49 + 5 * a + 2 ∧ h_cs 6 (10 * a + b) = b := by
  unfold h_cc h_cs
  constructor <;> ((repeat (first | rw [if_pos (by omega)] | rw [if_neg (by omega)])); omega)
theorem h_c7 {a b : Nat} (h : b < 4) : h_cc 7 (4 * a + b) = 49 + 5 * a + 3 ∧ h_cs 7 (4 * a + b) = b := by
  unfold h_cc h_cs
  constructor <;> ((repeat (first | rw [if_pos (by omega)] | rw [if_neg (by omega)])); omega)
theorem h_c8 {a b : Nat} (h : b < 4) : h_cc 8 (4 * a + b) = 49 + 5 * a + 4 ∧ h_cs 8 (4 * a + b) = b := by
  unfold h_cc h_cs
  constructor <;> ((repeat (first | rw [if_pos (by omega)] | rw [if_neg (by omega)])); omega)
theorem h_c10 (f : Nat) {a : Nat} (h : 10 ≤ f) : h_cc f a = 99 + a ∧ h_cs f a = f - 10 := by
  unfold h_cc h_cs
  constructor <;> ((repeat (first | rw [if_pos (by omega)] | rw [if_neg (by omega)])))
/-! the fold -/
def h_dl (S : Nat → Nat → Int32) (D a : Nat) (b v : Int32) : Nat → Int32
  | 0 => nI a
  | 1 => b
  | 2 => v
  | 3 => 0
  | 4 => 0
  | 5 => 0
  | 6 => S 4 a
  | 7 => 0
  | 8 => S 7 (4 * a + b.toNatClampNeg)
  | _ => S 8 (4 * a + b.toNatClampNeg)
def h_st (S : Nat → Nat → Int32) (D kd a : Nat) (day b v : Int32) : Nat → Nat → Int32 := match kd with
  | 0 => h_up (h_up S 0 a b) 1 a (-1)
  | 1 => h_up S 5 (4 * a + b.toNatClampNeg) (S 5 (4 * a + b.toNatClampNeg) + v)
  | 2 => h_up S 5 (4 * a + b.toNatClampNeg) (S 5 (4 * a + b.toNatClampNeg) - v)
  | 3 => h_up (h_up S 5 (4 * a + b.toNatClampNeg) (S 5 (4 * a + b.toNatClampNeg) - v)) 4 a (S 4 a + v)
  | 4 => fun f i => if i = D ∧ 10 ≤ f then h_dl S D a b v (f - 10) else S f i
  | 5 => h_up S 17 a 1
  | 6 => h_up S 7 (4 * a + b.toNatClampNeg) 1
  | 7 => h_up S 7 (4 * a + b.toNatClampNeg) 0
  | 8 => h_up S 8 (4 * a + b.toNatClampNeg) 1
  | 9 => h_up S 14 a (S 14 a + v)
  | 10 => h_up S 15 a (S 15 a + v)
  | 11 => h_up S 6 (10 * a + b.toNatClampNeg) (S 6 (10 * a + b.toNatClampNeg) + v)
  | 12 => h_up S 6 (10 * a + b.toNatClampNeg) (S 6 (10 * a + b.toNatClampNeg) - v)
  | 13 => h_up S 13 a (S 13 a + v)
  | _ => h_up (h_up (h_up (h_up S 1 a (S 0 a)) 2 a day) 3 a b) 0 a (-1)
def h_isd (kd : Nat) : Prop := kd = 5 ∨ kd = 9 ∨ kd = 10 ∨ kd = 13
def h_kd (r : Nat → Int32) (k : Nat) : Nat := (r (6 * k + 1)).toNatClampNeg
def h_a (r : Nat → Int32) (k : Nat) : Nat := (r (6 * k + 2)).toNatClampNeg
def h_b (r : Nat → Int32) (k : Nat) : Nat := (r (6 * k + 3)).toNatClampNeg
/-- a row of notes that is well told, with D deals ahead of it -/
def h_v (r : Nat → Int32) (D k : Nat) : Prop := r (6 * k + 1) = nI (h_kd r k) ∧ h_kd r k < 15 ∧ r (6 * k + 2) = nI (h_a r k) ∧ (h_isd (h_kd r k) → h_a r k < D) ∧ (¬ h_isd (h_kd r k) → h_a r k < 10) ∧ ((1 ≤ h_kd r k ∧ h_kd r k ≤ 4 ∨ 6 ≤ h_kd r k ∧ h_kd r k ≤ 8) → r (6 * k + 3) = nI (h_b r k) ∧ h_b r k < 4) ∧ ((h_kd r k = 11 ∨ h_kd r k = 12) → r (6 * k + 3) = nI (h_b r k) ∧ h_b r k < 10)
def h_S0 : Nat → Nat → Int32 := fun f _ => if f < 2 then -1 else 0
def h_S (r : Nat → Int32) (so : Nat → Bool) : Nat → (Nat → Nat → Int32) × Nat × Nat
  | 0 => (h_S0, 0, 0)
  | k + 1 =>
    let q := h_S r so k
    if r (6 * k + 5) ≠ 0 ∧ so q.2.2 = false then (q.1, q.2.1, q.2.2 + 1)
    else (h_st q.1 q.2.1 (h_kd r k) (h_a r k) (r (6 * k)) (r (6 * k + 3)) (r (6 * k + 4)), if h_kd r k = 4 then q.2.1 + 1 else q.2.1, if r (6 * k + 5) ≠ 0 then q.2.2 + 1 else q.2.2)
def h_bo (S : Nat → Nat → Int32) : Prop := ∀ i, m_B (S 7 i) ∧ m_B (S 8 i)
theorem h_bo_st {S : Nat → Nat → Int32} (h : h_bo S) (D kd a : Nat) (day b v : Int32) : h_bo (h_st S D kd a day b v) := by
  intro i
  have hi := h i
  match kd with
  | 0 => simpa [h_st, h_up] using hi
  | 1 => simpa [h_st, h_up] using hi
  | 2 => simpa [h_st, h_up] using hi
  | 3 => simpa [h_st, h_up] using hi
  | 4 => simpa [h_st] using hi
  | 5 => simpa [h_st, h_up] using hi
  | 6 => 
    simp only [h_st, h_up]
    refine ⟨?_, by simpa using hi.2⟩
    split
    · exact Or.inr rfl
    · exact hi.1
  | 7 => 
    simp only [h_st, h_up]
    refine ⟨?_, by simpa using hi.2⟩
    split
    · exact Or.inl rfl
    · exact hi.1
  | 8 => 
    simp only [h_st, h_up]
    refine ⟨by simpa using hi.1, ?_⟩
    split
    · exact Or.inr rfl
    · exact hi.2
  | 9 => simpa [h_st, h_up] using hi
  | 10 => simpa [h_st, h_up] using hi
  | 11 => simpa [h_st, h_up] using hi
  | 12 => simpa [h_st, h_up] using hi
  | 13 => simpa [h_st, h_up] using hi
  | k + 14 => simpa [h_st, h_up] using hi
theorem h_bo_S (r : Nat → Int32) (so : Nat → Bool) : ∀ k, h_bo (h_S r so k).1
  | 0 => fun i => ⟨Or.inl rfl, Or.inl rfl⟩
  | k + 1 => by
    have ih := h_bo_S r so k
    unfold h_S
    simp only []
    split
    · exact ih
    · exact h_bo_st ih _ _ _ _ _ _
theorem h_chA : ∀ kd, kd < 15 → f_J0_charAt_5068e 4 (nI kd) = some (if kd = 5 ∨ kd = 9 ∨ kd = 10 ∨ kd = 13 then 100 else 112) := by decide +kernel
