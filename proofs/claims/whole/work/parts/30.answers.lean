/-! CALLS: answers -/
/-- the fields of a deal, out of its note -/
def h_made (S : Nat → Nat → Int32) (r : Nat → Int32) (k : Nat) : Prop := S 10 (h_D r k) = nI (h_a r k) ∧ S 11 (h_D r k) = r (6 * k + 3) ∧ S 12 (h_D r k) = r (6 * k + 4)
theorem h_made_st {S : Nat → Nat → Int32} {D kd a d f : Nat} {day b v : Int32} (hd : d ≠ D) (hf : f = 10 ∨ f = 11 ∨ f = 12) : h_st S D kd a day b v f d = S f d := by
  match kd with
  | 0 => unfold h_st h_up; simp only []; repeat (rw [if_neg (by omega)])
  | 1 => unfold h_st h_up; simp only []; rw [if_neg (by omega)]
  | 2 => unfold h_st h_up; simp only []; rw [if_neg (by omega)]
  | 3 => unfold h_st h_up; simp only []; repeat (rw [if_neg (by omega)])
  | 4 => unfold h_st; simp only []; rw [if_neg (by omega)]
  | 5 => unfold h_st h_up; simp only []; rw [if_neg (by omega)]
  | 6 => unfold h_st h_up; simp only []; rw [if_neg (by omega)]
  | 7 => unfold h_st h_up; simp only []; rw [if_neg (by omega)]
  | 8 => unfold h_st h_up; simp only []; rw [if_neg (by omega)]
  | 9 => unfold h_st h_up; simp only []; rw [if_neg (by omega)]
  | 10 => unfold h_st h_up; simp only []; rw [if_neg (by omega)]
  | 11 => unfold h_st h_up; simp only []; rw [if_neg (by omega)]
  | 12 => unfold h_st h_up; simp only []; rw [if_neg (by omega)]
  | 13 => unfold h_st h_up; simp only []; rw [if_neg (by omega)]
  | k + 14 => unfold h_st h_up; simp only []; repeat (rw [if_neg (by omega)])
theorem h_made_S {r : Nat → Int32} {N : Nat} (hW : h_W r N) (so : Nat → Bool) {k : Nat} (e4 : h_kd r k = 4) : ∀ K, K ≤ N → k < K → h_made (h_S r so K).1 r k
  | 0, _, h => absurd h (Nat.not_lt_zero _)
  | K + 1, hK, h => by
    have hs := h_SD (so := so) hW K (by omega)
    rw [h_S]
    by_cases c : k = K
    · subst c
      have hd := (hW k (by omega)).2
      rw [if_neg (fun q => (hd.2 q.1).2.1 e4)]
      unfold h_made
      rw [hs.1, e4]
      simp [h_st, h_dl]
    · have ih := h_made_S hW so e4 K (by omega) (by omega)
      have hlt := h_D_lt (show k < K by omega) e4
      unfold h_made at ih ⊢
      split
      · exact ih
      · simp only []
        rw [h_made_st (by omega) (by omega), h_made_st (by omega) (by omega), h_made_st (by omega) (by omega)]
        exact ih
