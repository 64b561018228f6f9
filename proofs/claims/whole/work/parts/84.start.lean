/-! THE START -/
theorem k_start : k_Inv y_M := by
  have Z : ∀ k, k = 5 ∨ k = 10 → k_Z k y_M 0 (fun _ => 0) := by
    intro k hk
    have h7 : y_M.1 k 7 = 1 := by rcases hk with q | q <;> subst q <;> decide +kernel
    have hlaw : v_law 0 (fun _ => 0) = .inl 1 := by rfl
    refine ⟨1, fun _ => 0, ⟨h7, fun q => absurd q (by decide)⟩, fun n l M2 q1 q2 q3 q4 q5 => ?_⟩
    have h := w_reads (n := n) (l := l) (T := 0) (t := fun _ => 0) (M := M2) q1 q2 (by omega) (fun _ => by show 0 < 128; omega) q3 q4 (fun j hj => absurd hj (Nat.not_lt_zero _))
    rw [hlaw] at h
    refine q_mono h (fun b hb => ?_)
    have hb' : b.1 = 0 ∧ b.2.1 172 38 = 1 := hb
    exact ⟨by rw [if_neg (by decide)]; exact hb'.1, hb'.2, fun q => absurd q (by decide)⟩
  let C : k_C := (0, 0, fun _ => 0, 0, fun _ => 0, fun _ => 0, fun _ _ => 0)
  have nz : ∀ {P : Nat → Prop} (j : Nat), j < 0 → P j := fun j hj => absurd hj (Nat.not_lt_zero _)
  have hV : k_V C := by
    refine ⟨⟨Nat.zero_le _, Nat.zero_le _, Nat.zero_le _, Nat.zero_le _⟩, fun k hk => absurd hk (Nat.not_lt_zero _), fun k hk => absurd hk (Nat.not_lt_zero _), fun a b _ hb => absurd hb (Nat.not_lt_zero _), fun k hk => ⟨fun p hp => absurd hp (Nat.not_lt_zero _), fun _ => 0, fun p hp => absurd hp (Nat.not_lt_zero _), fun p q hp => absurd hp (Nat.not_lt_zero _)⟩, fun d hd => absurd hd (Nat.not_lt_zero _), fun i hi => absurd hi (Nat.not_lt_zero _), fun i j _ hj => absurd hj (Nat.not_lt_zero _), fun l hl => ⟨Nat.zero_le _, fun j hj => absurd hj (Nat.not_lt_zero _)⟩⟩
  have hA : k_A C 1 y_M := by
    refine ⟨by decide +kernel, by decide +kernel, by decide +kernel, by decide +kernel, by decide +kernel, fun j hj => absurd hj (Nat.not_lt_zero _), fun j hj => absurd hj (Nat.not_lt_zero _), fun l hl => ?_⟩
    have hc : l = 0 ∨ l = 1 := by omega
    rcases hc with q | q <;> subst q
    · exact ⟨by decide +kernel, fun j hj => absurd hj (Nat.not_lt_zero _), Z 5 (Or.inl rfl)⟩
    · exact ⟨by decide +kernel, fun j hj => absurd hj (Nat.not_lt_zero _), Z 10 (Or.inr rfl)⟩
  have hE : k_E C 173 0 y_M := by
    refine ⟨by decide +kernel, by decide +kernel, by decide +kernel, fun j hj => absurd hj (Nat.not_lt_zero _), fun j hj => absurd hj (Nat.not_lt_zero _), fun l hl => ?_⟩
    have hc : l = 0 ∨ l = 1 := by omega
    rcases hc with q | q <;> subst q
    · exact ⟨by decide +kernel, fun j hj => absurd hj (Nat.not_lt_zero _)⟩
    · exact ⟨by decide +kernel, fun j hj => absurd hj (Nat.not_lt_zero _)⟩
  have hI : ∀ i, i < 2 → k_I C i y_M := fun i hi => by
    have h44 : y_M.1 44 i = 0 := by
      have hc : i = 0 ∨ i = 1 := by omega
      rcases hc with q | q <;> subst q <;> decide +kernel
    have h175 : y_M.1 175 i = 0 := by
      have hc : i = 0 ∨ i = 1 := by omega
      rcases hc with q | q <;> subst q <;> decide +kernel
    exact ⟨h44.trans h175.symm, Or.inl h44, fun q => by rw [h44] at q; exact absurd q (by decide)⟩
  exact ⟨C, C, C, ⟨hV, hA, hE⟩, ⟨hI 0 (by omega), hI 1 (by omega)⟩, ⟨0, by omega, by decide +kernel, by decide +kernel, fun j hj => absurd hj (Nat.not_lt_zero _)⟩, by decide +kernel, by decide +kernel⟩
