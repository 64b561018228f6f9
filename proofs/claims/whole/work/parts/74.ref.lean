/-! LAWS: the reference's stacks -/
def w_st {α : Type} (c : Nat → α) : List α → Prop
  | [] => True
  | o :: σ => c σ.length = o ∧ w_st c σ
theorem w_st_cg {α : Type} {c c' : Nat → α} : ∀ (σ : List α), (∀ j, j < σ.length → c' j = c j) → w_st c σ → w_st c' σ
  | [], _, _ => trivial
  | o :: σ, e, h => ⟨(e σ.length (Nat.lt_succ_self _)).trans h.1, w_st_cg σ (fun j hj => e j (Nat.lt_succ_of_lt hj)) h.2⟩
def w_rk (o : Int32) : Nat := (f_X8_rank o).toNatClampNeg
def w_wd (l : Nat) : List Int32 → List Int64 → List Int32 × List Int64
  | [], ν => ([], ν)
  | o :: σ, ν => if (1000 : Int32) ≤ o then (o :: σ, ν) else if w_rk o < l then (o :: σ, ν) else w_wd l σ (v_jn o (ν.tail.headD 0) (ν.headD 0) :: ν.tail.tail)
def w_vs : List Int32 → Prop
  | [] => True
  | o :: σ => (v_op o ∨ o = 1000 ∨ o = 1001 ∨ o = 1002) ∧ w_vs σ
def w_bn : List Int32 → Nat
  | [] => 0
  | o :: σ => if (1000 : Int32) ≤ o then w_bn σ else w_bn σ + 1
theorem w_rk_o {o : Int32} (h : v_op o) : f_X8_rank o = nI (w_rk o) ∧ 1 ≤ w_rk o ∧ w_rk o ≤ 5 ∧ ¬ (1000 : Int32) ≤ o := by
  rcases h with q | q | q | q | q | q | q | q | q <;> subst q <;> decide +kernel
/-- the reference at place p of a law -/
def w_S (l T : Nat) (t : Nat → Nat) (g : Nat → Int64) (p : Nat) (σ : List Int32) (ν : List Int64) (M : m_M) : Prop := (l < 2 ∧ M.1 172 36 = nI l ∧ M.1 173 (360 + 51 * l) = nI T ∧ (∀ j, j < T → M.1 173 (361 + 51 * l + j) = nI (t j))) ∧ M.1 172 37 = nI p ∧ M.1 172 38 = -1 ∧ M.1 172 40 = nI ν.length ∧ M.1 172 42 = nI σ.length ∧ w_st (M.1 193) σ ∧ w_st (M.2 192) ν ∧ (∀ i, i < 5 → M.2 194 i = g i) ∧ p ≤ T ∧ T ≤ 50 ∧ (∀ j, t j < 128) ∧ ν.length ≤ p ∧ σ.length ≤ p ∧ w_vs σ
theorem w_long {l T p : Nat} {t : Nat → Nat} {g : Nat → Int64} {σ : List Int32} {ν : List Int64} {M : m_M} (h : w_S l T t g p σ ν M) : f_X8_lawLong M = some (nI T) := by
  obtain ⟨⟨a0, a1, a2, a3⟩, _⟩ := h
  unfold f_X8_lawLong m_gd
  rw [a1, show (51 : Int32) * nI l = nI (51 * l) from q_mul 51 l, show (360 : Int32) + nI (51 * l) = nI (360 + 51 * l) from q_add 360 _, if_pos (q_in (by omega) (by decide)), q_cl (by omega), a2]
theorem w_char {l T p : Nat} {t : Nat → Nat} {g : Nat → Int64} {σ : List Int32} {ν : List Int64} {M : m_M} (h : w_S l T t g p σ ν M) {q : Nat} (hq : q < T) : f_X8_charAt (nI q) M = some (nI (t q)) := by
  obtain ⟨⟨a0, a1, a2, a3⟩, b1, b2, b3, b4, b5, b6, b7, b8, b9, _⟩ := h
  unfold f_X8_charAt m_gd
  rw [a1, show (51 : Int32) * nI l = nI (51 * l) from q_mul 51 l, show (360 : Int32) + nI (51 * l) = nI (360 + 51 * l) from q_add 360 _, q_up, q_add, show 360 + 51 * l + 1 + q = 361 + 51 * l + q by omega, if_pos (q_in (by omega) (by decide)), q_cl (by omega), a3 q hq]
theorem w_mv {l T p p' : Nat} {t : Nat → Nat} {g : Nat → Int64} {σ : List Int32} {ν : List Int64} {M : m_M} (h : w_S l T t g p σ ν M) (h1 : p ≤ p') (h2 : p' ≤ T) : w_S l T t g p' σ ν (m_sI M 172 37 (nI p')) := by
  obtain ⟨⟨a0, a1, a2, a3⟩, b1, b2, b3, b4, b5, b6, b7, b8, b9, b10, b11, b12, b13⟩ := h
  exact ⟨⟨a0, by rw [q_r, if_neg (by omega), a1], by rw [q_r, if_neg (by omega), a2], fun j hj => by rw [q_r, if_neg (by omega), a3 j hj]⟩, by rw [q_r, if_pos ⟨rfl, rfl⟩], by rw [q_r, if_neg (by omega), b2], by rw [q_r, if_neg (by omega), b3], by rw [q_r, if_neg (by omega), b4], w_st_cg σ (fun j _ => by rw [q_r, if_neg (by omega)]) b5, b6, b7, h2, b9, b10, by omega, by omega, b13⟩
theorem w_pop {l T p : Nat} {t : Nat → Nat} {g : Nat → Int64} {o : Int32} {σ : List Int32} {ν : List Int64} {M : m_M} (h : w_S l T t g p (o :: σ) ν M) : w_S l T t g p σ ν (m_sI M 172 42 (nI σ.length)) := by
  obtain ⟨⟨a0, a1, a2, a3⟩, b1, b2, b3, b4, b5, b6, b7, b8, b9, b10, b11, b12, b13⟩ := h
  have b12' : σ.length + 1 ≤ p := b12
  exact ⟨⟨a0, by rw [q_r, if_neg (by omega), a1], by rw [q_r, if_neg (by omega), a2], fun j hj => by rw [q_r, if_neg (by omega), a3 j hj]⟩, by rw [q_r, if_neg (by omega), b1], by rw [q_r, if_neg (by omega), b2], by rw [q_r, if_neg (by omega), b3], by rw [q_r, if_pos ⟨rfl, rfl⟩], w_st_cg σ (fun j _ => by rw [q_r, if_neg (by omega)]) b5.2, b6, b7, b8, b9, b10, b11, by omega, b13.2⟩
theorem w_push {l T p : Nat} {t : Nat → Nat} {g : Nat → Int64} {o : Int32} {σ : List Int32} {ν : List Int64} {M : m_M} (h : w_S l T t g p σ ν M) (ho : v_op o ∨ o = 1000 ∨ o = 1001 ∨ o = 1002) (hp : σ.length < p) : w_S l T t g p (o :: σ) ν (m_sI (m_sI M 193 σ.length o) 172 42 (nI (σ.length + 1))) := by
  obtain ⟨⟨a0, a1, a2, a3⟩, b1, b2, b3, b4, b5, b6, b7, b8, b9, b10, b11, b12, b13⟩ := h
  have e : ∀ i j, ¬ (i = 172 ∧ j = 42) → ¬ (i = 193 ∧ j = σ.length) → (m_sI (m_sI M 193 σ.length o) 172 42 (nI (σ.length + 1))).1 i j = M.1 i j := fun i j q1 q2 => by rw [q_r, if_neg q1, q_r, if_neg q2]
  refine ⟨⟨a0, (e _ _ (by omega) (by omega)).trans a1, (e _ _ (by omega) (by omega)).trans a2, fun j hj => (e _ _ (by omega) (by omega)).trans (a3 j hj)⟩, (e _ _ (by omega) (by omega)).trans b1, (e _ _ (by omega) (by omega)).trans b2, (e _ _ (by omega) (by omega)).trans b3, by rw [q_r, if_pos ⟨rfl, rfl⟩]; rfl, ⟨?_, w_st_cg σ (fun j hj => e _ _ (by omega) (by omega)) b5⟩, b6, b7, b8, b9, b10, b11, hp, ho, b13⟩
  rw [q_r, if_neg (by omega), q_r, if_pos ⟨rfl, rfl⟩]
theorem w_val {n : Nat} {x0 : Int64} {l T p : Nat} {t : Nat → Nat} {g : Nat → Int64} {σ : List Int32} {ν : List Int64} {x : Int64} {M : m_M} (h : w_S l T t g p σ ν M) (hp : ν.length < p) : q_T (f_X8_stands_b73 n x0 x M) (w_S l T t g p σ (x :: ν)) := by
  obtain ⟨⟨a0, a1, a2, a3⟩, b1, b2, b3, b4, b5, b6, b7, b8, b9, b10, b11, b12, b13⟩ := h
  unfold f_X8_stands_b73
  rw [b3]
  refine q_gd (q_in (by omega) (by decide)) (q_bd (q_bd (q_some ?_)))
  have e3 : (m_sL M 192 (nI ν.length).toNatClampNeg x).1 172 40 = nI ν.length := b3
  rw [e3, q_cl (by omega), q_up]
  have e : ∀ i j, ¬ (i = 172 ∧ j = 40) → (m_sI (m_sL M 192 ν.length x) 172 40 (nI (ν.length + 1))).1 i j = M.1 i j := fun i j q1 => by rw [q_r, if_neg q1]; rfl
  have e2 : ∀ i j, ¬ (i = 192 ∧ j = ν.length) → (m_sI (m_sL M 192 ν.length x) 172 40 (nI (ν.length + 1))).2 i j = M.2 i j := fun i j q1 => by
    show (m_sL M 192 ν.length x).2 i j = _
    rw [q_l, if_neg q1]
  refine ⟨⟨a0, (e _ _ (by omega)).trans a1, (e _ _ (by omega)).trans a2, fun j hj => (e _ _ (by omega)).trans (a3 j hj)⟩, (e _ _ (by omega)).trans b1, (e _ _ (by omega)).trans b2, by rw [q_r, if_pos ⟨rfl, rfl⟩]; rfl, (e _ _ (by omega)).trans b4, w_st_cg σ (fun j hj => e _ _ (by omega)) b5, ⟨?_, w_st_cg ν (fun j hj => e2 _ _ (by omega)) b6⟩, fun i hi => (e2 _ _ (by omega)).trans (b7 i hi), b8, b9, b10, hp, b12, b13⟩
  show (m_sL M 192 ν.length x).2 192 ν.length = x
  rw [q_l, if_pos ⟨rfl, rfl⟩]
def w_un : List Int32 → Int64 → List Int32 × Int64
  | [], x => ([], x)
  | o :: σ, x => if o = 1001 then w_un σ (v_nt x) else if o = 1002 then w_un σ (-x) else (o :: σ, x)
theorem w_b2 {n : Nat} {x0 : Int64} {l T p : Nat} {t : Nat → Nat} {g : Nat → Int64} {ν : List Int64} : ∀ (σ : List Int32) (x : Int64) (u : Nat) (M : m_M), σ.length < u → w_S l T t g p σ ν M → ν.length < p → q_T (f_X8_stands_b2 n x0 u x M) (w_S l T t g p (w_un σ x).1 ((w_un σ x).2 :: ν))
  | [], x, u, M, hu, h, hp => by
    obtain ⟨u, rfl⟩ : ∃ v, u = v + 1 := ⟨u - 1, by omega⟩
    have h4 : M.1 172 42 = 0 := h.2.2.2.2.1
    rw [f_X8_stands_b2, h4]
    exact q_it (by decide) (w_val h hp)
  | o :: σ, x, u, M, hu, h, hp => by
    obtain ⟨u, rfl⟩ : ∃ v, u = v + 1 := ⟨u - 1, by omega⟩
    have h4 : M.1 172 42 = nI (σ.length + 1) := h.2.2.2.2.1
    have hl : σ.length + 1 ≤ p := h.2.2.2.2.2.2.2.2.2.2.2.2.1
    have hpT : p ≤ T := h.2.2.2.2.2.2.2.2.1
    have hT : T ≤ 50 := h.2.2.2.2.2.2.2.2.2.1
    have ho : v_op o ∨ o = 1000 ∨ o = 1001 ∨ o = 1002 := h.2.2.2.2.2.2.2.2.2.2.2.2.2.1
    have hc : M.1 193 σ.length = o := h.2.2.2.2.2.1.1
    rw [f_X8_stands_b2, h4, nI_pred]
    refine q_if (fun q => absurd ((q_le (b := 0) (by omega) (by decide)).mp q) (by omega)) (q_gd (q_in (by have : (o :: σ).length = σ.length + 1 := rfl; omega) (by decide)) ?_)
    rw [q_cl (by omega), hc]
    have go : ∀ y, q_T (f_X8_stands_b59 n x0 (f_X8_stands_b2 n x0 u) y M) (w_S l T t g p (w_un σ y).1 ((w_un σ y).2 :: ν)) := by
      intro y
      unfold f_X8_stands_b59
      rw [h4, nI_pred]
      exact q_bd (w_b2 σ y u _ (by have : (o :: σ).length = σ.length + 1 := rfl; omega) (w_pop h) hp)
    by_cases c1 : o = 1001
    · have eu : w_un (o :: σ) x = w_un σ (v_nt x) := by rw [w_un, if_pos c1]
      rw [eu]
      refine q_if (by rw [c1]; decide) (q_it c1 ?_)
      by_cases c : x = 0
      · have ev : v_nt x = 1 := if_pos c
        rw [ev]
        exact q_it c (go 1)
      · have ev : v_nt x = 0 := if_neg c
        rw [ev]
        exact q_if c (go 0)
    · by_cases c2 : o = 1002
      · have eu : w_un (o :: σ) x = w_un σ (-x) := by rw [w_un, if_neg c1, if_pos c2]
        rw [eu]
        exact q_if (by rw [c2]; decide) (q_if c1 (go (-x)))
      · have eu : w_un (o :: σ) x = (o :: σ, x) := by rw [w_un, if_neg c1, if_neg c2]
        rw [eu]
        refine q_it ?_ (w_val h hp)
        rcases ho with q | q | q | q
        · rcases q with q | q | q | q | q | q | q | q | q <;> subst q <;> decide
        · rw [q]
          decide
        · exact absurd q c1
        · exact absurd q c2
/-! working out -/
theorem w_out {l T p : Nat} {t : Nat → Nat} {g : Nat → Int64} {o : Int32} {a b : Int64} {σ : List Int32} {ν : List Int64} {M : m_M} (ho : v_op o) (h : w_S l T t g p (o :: σ) (b :: a :: ν) M) : q_T (f_X8_workOut M) (w_S l T t g p σ (v_jn o a b :: ν)) := by
  have hσ := h.2.2.2.2.1
  have hν := h.2.2.2.1
  have b11 : ν.length + 1 + 1 ≤ p := h.2.2.2.2.2.2.2.2.2.2.2.1
  have b12 : σ.length + 1 ≤ p := h.2.2.2.2.2.2.2.2.2.2.2.2.1
  have hpT : p ≤ T := h.2.2.2.2.2.2.2.2.1
  have hT : T ≤ 50 := h.2.2.2.2.2.2.2.2.2.1
  have h1 := w_pop h
  have e42 : M.1 172 42 - (1 : Int32) = nI σ.length := by rw [hσ]; exact nI_pred _
  have e40 : M.1 172 40 - (1 : Int32) = nI (ν.length + 1) := by rw [hν]; exact nI_pred _
  unfold f_X8_workOut
  rw [e42]
  refine q_bd (q_bd ?_)
  have f40 : (m_sI M 172 42 (nI σ.length)).1 172 40 - (1 : Int32) = nI (ν.length + 1) := by rw [q_r, if_neg (by omega), e40]
  rw [f40]
  have g40 : (m_sI (m_sI M 172 42 (nI σ.length)) 172 40 (nI (ν.length + 1))).1 172 40 = nI (ν.length + 1) := by rw [q_r, if_pos ⟨rfl, rfl⟩]
  have g42 : (m_sI (m_sI M 172 42 (nI σ.length)) 172 40 (nI (ν.length + 1))).1 172 42 = nI σ.length := by rw [q_r, if_neg (by omega), q_r, if_pos ⟨rfl, rfl⟩]
  have g193 : (m_sI (m_sI M 172 42 (nI σ.length)) 172 40 (nI (ν.length + 1))).1 193 σ.length = o := by
    rw [q_r, if_neg (by omega), q_r, if_neg (by omega)]
    exact h.2.2.2.2.2.1.1
  have ga : (m_sI (m_sI M 172 42 (nI σ.length)) 172 40 (nI (ν.length + 1))).2 192 ν.length = a := h.2.2.2.2.2.2.1.2.1
  have gb : (m_sI (m_sI M 172 42 (nI σ.length)) 172 40 (nI (ν.length + 1))).2 192 (ν.length + 1) = b := h.2.2.2.2.2.2.1.1
  have fin : ∀ y, q_T (f_X8_workOut_b259 y (m_sI (m_sI M 172 42 (nI σ.length)) 172 40 (nI (ν.length + 1)))) (w_S l T t g p σ (y :: ν)) := by
    intro y
    unfold f_X8_workOut_b259
    rw [g40, nI_pred]
    refine q_gd (q_in (by omega) (by decide)) (q_bd (q_some ?_))
    rw [q_cl (by omega)]
    obtain ⟨⟨a0, a1, a2, a3⟩, b1, b2, b3, b4, b5, b6, b7, b8, b9, b10, b11, b12, b13⟩ := h1
    have e : ∀ i j, ¬ (i = 172 ∧ j = 40) → (m_sL (m_sI (m_sI M 172 42 (nI σ.length)) 172 40 (nI (ν.length + 1))) 192 ν.length y).1 i j = (m_sI M 172 42 (nI σ.length)).1 i j := fun i j q1 => by
      show (m_sI (m_sI M 172 42 (nI σ.length)) 172 40 (nI (ν.length + 1))).1 i j = _
      rw [q_r, if_neg q1]
    have e2 : ∀ i j, ¬ (i = 192 ∧ j = ν.length) → (m_sL (m_sI (m_sI M 172 42 (nI σ.length)) 172 40 (nI (ν.length + 1))) 192 ν.length y).2 i j = M.2 i j := fun i j q1 => by
      rw [q_l, if_neg q1]
      rfl
    refine ⟨⟨a0, (e _ _ (by omega)).trans a1, (e _ _ (by omega)).trans a2, fun j hj => (e _ _ (by omega)).trans (a3 j hj)⟩, (e _ _ (by omega)).trans b1, (e _ _ (by omega)).trans b2, ?_, (e _ _ (by omega)).trans b4, w_st_cg σ (fun j hj => e _ _ (by omega)) b5, ⟨?_, w_st_cg ν (fun j hj => e2 _ _ (by omega)) b6.2.2⟩, fun i hi => (e2 _ _ (by omega)).trans (b7 i hi), b8, b9, b10, ?_, b12, b13⟩
    · exact g40
    · rw [q_l, if_pos ⟨rfl, rfl⟩]
    · show ν.length + 1 ≤ p
      omega
  rw [g40, g42, nI_pred]
  refine q_gd (q_in (by omega) (by decide)) (q_bd (q_gd (q_in (by omega) (by decide)) (q_bd (q_gd (q_in (by omega) (by decide)) ?_))))
  rw [q_cl (by omega), q_cl (by omega), q_cl (by omega), g193, ga, gb]
  have fin' : ∀ y, y = v_jn o a b → q_T (f_X8_workOut_b259 y (m_sI (m_sI M 172 42 (nI σ.length)) 172 40 (nI (ν.length + 1)))) (w_S l T t g p σ (v_jn o a b :: ν)) := fun y hy => by
    rw [← hy]
    exact fin y
  generalize m_sI (m_sI M 172 42 (nI σ.length)) 172 40 (nI (ν.length + 1)) = M4 at *
  clear fin
  rcases ho with q | q | q | q | q | q | q | q | q <;> subst q
  · refine q_it rfl (q_ite (fun c => fin' 0 ?_) (fun c => q_ite (fun c2 => fin' 0 ?_) (fun c2 => fin' 1 ?_)))
    · simp [v_jn, c]
    · simp [v_jn, c, c2]
    · simp [v_jn, c, c2]
  · exact q_if (by decide) (q_it rfl (fin' _ rfl))
  · exact q_if (by decide) (q_if (by decide) (q_it rfl (fin' _ rfl)))
  · exact q_if (by decide) (q_if (by decide) (q_if (by decide) (q_it rfl (fin' _ rfl))))
  · refine q_if (by decide) (q_if (by decide) (q_if (by decide) (q_if (by decide) (q_if (by decide) (q_if (by decide) (q_if (by decide) (q_if (by decide) (q_ite (fun c => fin' 0 ?_) (fun c => q_gd c (fin' _ ?_))))))))))
    · simp [v_jn, c]
    · simp [v_jn, c]
  · refine q_if (by decide) (q_if (by decide) (q_if (by decide) (q_if (by decide) (q_it rfl (q_ite (fun c => fin' 0 ?_) (fun c => fin' 1 ?_))))))
    · simp [v_jn, c]
    · simp [v_jn, c]
  · refine q_if (by decide) (q_if (by decide) (q_if (by decide) (q_if (by decide) (q_if (by decide) (q_it rfl (q_ite (fun c => fin' 1 ?_) (fun c => fin' 0 ?_)))))))
    · simp [v_jn, c]
    · simp [v_jn, c]
  · refine q_if (by decide) (q_if (by decide) (q_if (by decide) (q_if (by decide) (q_if (by decide) (q_if (by decide) (q_it rfl (q_ite (fun c => fin' 0 ?_) (fun c => fin' 1 ?_))))))))
    · simp [v_jn, c]
    · simp [v_jn, c]
  · refine q_if (by decide) (q_if (by decide) (q_if (by decide) (q_if (by decide) (q_if (by decide) (q_if (by decide) (q_if (by decide) (q_it rfl (q_ite (fun c => q_ite (fun c2 => fin' 0 ?_) (fun c2 => fin' 1 ?_)) (fun c => fin' 1 ?_)))))))))
    · simp [v_jn, c, c2]
    · simp [v_jn, c, c2]
    · simp [v_jn, c]
