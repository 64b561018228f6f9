/-! LAWS: the class reads an operand -/
theorem v_lmul (a b : Nat) : lN a * lN b = lN (a * b) := (Int64.ofNat_mul a b).symm
theorem v_ladd (a b : Nat) : lN a + lN b = lN (a + b) := (Int64.ofNat_add a b).symm
theorem v_isd {c : Nat} (hc : c < 128) : f_X4_isDigit (nI c) = l_b (j_fi c) := by
  have h : ∀ c, c < 128 → f_X4_isDigit (nI c) = l_b (j_fi c) := by decide +kernel
  exact h c hc
theorem v_nmx {c : Nat} (hc : c < 128) : f_X8_nameOf (nI c) = if v_nm c < 5 then nI (v_nm c) else -1 := by
  have h : ∀ c, c < 128 → f_X8_nameOf (nI c) = if v_nm c < 5 then nI (v_nm c) else -1 := by decide +kernel
  exact h c hc
theorem v_ix {n c : Nat} (hn : 10 < n) (hc : c < 128) : f_J0_indexOf_0f7a4 n 8 (((nI c).toUInt32 % 65536).toInt32) = some (if v_nm c < 5 then nI (v_nm c) else -1) := by
  have e1 : ∀ c, c < 128 → ((nI c).toUInt32 % 65536).toInt32 = nI c := by decide +kernel
  have e2 : ∀ c, c < 128 → (nI c).toInt8.toInt32 = nI c := by decide +kernel
  have e3 : ∀ c, c < 128 → f_J1_canEncode_9a6ad (nI c) = 1 := by decide +kernel
  obtain ⟨n', rfl⟩ : ∃ m, n = m + 6 := ⟨n - 6, by omega⟩
  have hl : m_len 8 = 5 := by decide +kernel
  have hlen : f_J0_length_8abf5 8 = nI 5 := by decide +kernel
  have c0 : m_ch 8 0 = nI 103 := by decide +kernel
  have c1 : m_ch 8 1 = nI 115 := by decide +kernel
  have c2 : m_ch 8 2 = nI 111 := by decide +kernel
  have c3 : m_ch 8 3 = nI 119 := by decide +kernel
  have c4 : m_ch 8 4 = nI 104 := by decide +kernel
  have loop : f_J1_indexOfChar_4cfef_b7 (n' + 6) 8 (nI c) 0 (nI 5) (n' + 6) (nI c) (nI 0) = some (if v_nm c < 5 then nI (v_nm c) else -1) := by
    have st : ∀ (u i : Nat), i < 5 → f_J1_indexOfChar_4cfef_b7 (n' + 6) 8 (nI c) 0 (nI 5) (u + 1) (nI c) (nI i) = if m_ch 8 i = nI c then some (nI i) else f_J1_indexOfChar_4cfef_b7 (n' + 6) 8 (nI c) 0 (nI 5) u (nI c) (nI (i + 1)) := by
      intro u i hi
      rw [f_J1_indexOfChar_4cfef_b7, if_neg (fun q => absurd ((q_le (by omega) (by omega)).mp q) (by omega))]
      unfold m_gd
      rw [hl, if_pos (q_in hi (by decide)), q_cl (by omega), q_up]
    have eq : ∀ a, a < 128 → (nI a = nI c ↔ c = a) := fun a ha => by
      rw [nI_eq (by omega) (by omega)]
      exact eq_comm
    rw [st _ 0 (by omega), c0, st _ 1 (by omega), c1, st _ 2 (by omega), c2, st _ 3 (by omega), c3, st _ 4 (by omega), c4, f_J1_indexOfChar_4cfef_b7, if_pos (show nI 5 ≤ nI (4 + 1) from (q_le (by omega) (by omega)).mpr (by omega))]
    unfold v_nm
    by_cases d0 : c = 103
    · rw [if_pos ((eq 103 (by omega)).mpr d0), if_pos d0, if_pos (by omega)]
    rw [if_neg (fun q => d0 ((eq 103 (by omega)).mp q)), if_neg d0]
    by_cases d1 : c = 115
    · rw [if_pos ((eq 115 (by omega)).mpr d1), if_pos d1, if_pos (by omega)]
    rw [if_neg (fun q => d1 ((eq 115 (by omega)).mp q)), if_neg d1]
    by_cases d2 : c = 111
    · rw [if_pos ((eq 111 (by omega)).mpr d2), if_pos d2, if_pos (by omega)]
    rw [if_neg (fun q => d2 ((eq 111 (by omega)).mp q)), if_neg d2]
    by_cases d3 : c = 119
    · rw [if_pos ((eq 119 (by omega)).mpr d3), if_pos d3, if_pos (by omega)]
    rw [if_neg (fun q => d3 ((eq 119 (by omega)).mp q)), if_neg d3]
    by_cases d4 : c = 104
    · rw [if_pos ((eq 104 (by omega)).mpr d4), if_pos d4, if_pos (by omega)]
    rw [if_neg (fun q => d4 ((eq 104 (by omega)).mp q)), if_neg d4, if_neg (by omega)]
  rw [e1 c hc]
  have m1 : m_max (0 : Int32) 0 = 0 := by decide
  have m2 : m_min (nI 5) (nI 5) = nI 5 := by decide
  have k : f_J1_indexOf_4cfef (n' + 6) 8 (nI c) 0 (nI 5) = some (if v_nm c < 5 then nI (v_nm c) else -1) := by
    unfold f_J1_indexOf_4cfef
    simp only [m_bd]
    rw [e3 c hc, hl, m1, m2, if_neg (show ¬ (1 : Int32) = 0 by decide), if_pos (show (0 : Int32) < nI 5 by decide)]
    unfold f_J1_indexOfChar_4cfef
    rw [e2 c hc]
    have loop' : f_J1_indexOfChar_4cfef_b7 (n' + 6) 8 (nI c) 0 (nI 5) (n' + 6) (nI c) 0 = some (if v_nm c < 5 then nI (v_nm c) else -1) := loop
    rw [loop']
    rfl
  unfold f_J0_indexOf_0f7a4 f_J0_indexOf_7cf53
  simp only [m_bd]
  rw [hlen, k]
  rfl
/-- digits -/
theorem v_d7 {n k T s : Nat} {t : Nat → Nat} {S : v_L} : ∀ (d i u : Nat) (x : Int64) (M : m_M), s + i + d = T → d < u → S.length ≤ s → (i ≤ 6 → x = lN (v_dv t s i)) → v_C k T t (s + i) S M → (0 < i ∨ 0 < j_rn j_fi t d (s + i)) → q_T (f_X4_digits_b7 n k u (nI s) x M) (v_A k T t S (if i + j_rn j_fi t d (s + i) ≤ 6 then .inr (s + (i + j_rn j_fi t d (s + i)), [(110, lN (v_dv t s (i + j_rn j_fi t d (s + i))))], fun _ => lN (v_dv t s (i + j_rn j_fi t d (s + i)))) else .inl (nI (10 * s + 2)))) := by
  have stop : ∀ (i : Nat) (x : Int64) (M : m_M), S.length ≤ s → 0 < i → (i ≤ 6 → x = lN (v_dv t s i)) → v_C k T t (s + i) S M → q_T (f_X4_digits_b77 n k (nI s) x M) (v_A k T t S (if i ≤ 6 then .inr (s + i, [(110, lN (v_dv t s i))], fun _ => lN (v_dv t s i)) else .inl (nI (10 * s + 2)))) := by
    intro i x M hS hi hx h
    have hT := h.2.2.2.2.2.2.2.1
    have hp := h.2.2.2.2.2.2.1
    unfold f_X4_digits_b77
    rw [h.2.1, j_sub (by omega), show s + i - s = i by omega]
    by_cases c : i ≤ 6
    · have e : (if i ≤ 6 then (Sum.inr (s + i, [(110, lN (v_dv t s i))], fun _ => lN (v_dv t s i)) : v_R) else .inl (nI (10 * s + 2))) = .inr (s + i, [(110, lN (v_dv t s i))], fun _ => lN (v_dv t s i)) := if_pos c
      rw [e]
      refine q_it ((q_le (b := 6) (by omega) (by decide)).mpr c) (q_ob (q_mono (v_step h (by omega)) (fun a ha => q_some ?_)))
      rw [hx c] at ha
      exact ha
    · have e : (if i ≤ 6 then (Sum.inr (s + i, [(110, lN (v_dv t s i))], fun _ => lN (v_dv t s i)) : v_R) else .inl (nI (10 * s + 2))) = .inl (nI (10 * s + 2)) := if_neg c
      rw [e]
      exact q_if (fun q => c ((q_le (b := 6) (by omega) (by decide)).mp q)) (q_bd (q_ob (q_mono (v_stX (v_bl h (x := s) (c := 2) (by omega) (by omega))) (fun a ha => q_some ha))))
  intro d
  induction d with
  | zero =>
    intro i u x M hp hu hS hx h hi
    have hT := h.2.2.2.2.2.2.2.1
    obtain ⟨u, rfl⟩ : ∃ v, u = v + 1 := ⟨u - 1, by omega⟩
    rw [f_X4_digits_b7, h.1, h.2.1]
    rw [j_rn] at hi ⊢
    rw [Nat.add_zero]
    exact q_it ((q_le (by omega) (by omega)).mpr (by omega)) (stop i x M hS (by omega) hx h)
  | succ d ih =>
    intro i u x M hp hu hS hx h hi
    have hT := h.2.2.2.2.2.2.2.1
    have hb := h.2.2.2.2.2.2.2.2.1 (s + i)
    obtain ⟨u, rfl⟩ : ∃ v, u = v + 1 := ⟨u - 1, by omega⟩
    rw [f_X4_digits_b7, h.1, h.2.1]
    refine q_if (fun q => absurd ((q_le (by omega) (by omega)).mp q) (by omega)) (q_gd (q_in (by omega) (by decide)) (q_bd ?_))
    rw [q_cl (by omega), h.2.2.2.2.2.2.2.2.2 (s + i) (by omega), v_isd hb]
    rw [j_rn] at hi ⊢
    by_cases c : j_fi (t (s + i)) = true
    · have c' := of_decide_eq_true c
      rw [if_pos c] at hi ⊢
      rw [c]
      refine q_if (by decide) ?_
      rw [j_sub (by omega), show s + i - s = i by omega]
      have key : ∀ y, (i + 1 ≤ 6 → y = lN (v_dv t s (i + 1))) → q_T (f_X4_digits_b64 n k (f_X4_digits_b7 n k u) (nI s) y M) (v_A k T t S (if i + (j_rn j_fi t d (s + i + 1) + 1) ≤ 6 then .inr (s + (i + (j_rn j_fi t d (s + i + 1) + 1)), [(110, lN (v_dv t s (i + (j_rn j_fi t d (s + i + 1) + 1))))], fun _ => lN (v_dv t s (i + (j_rn j_fi t d (s + i + 1) + 1)))) else .inl (nI (10 * s + 2)))) := by
        intro y hy
        unfold f_X4_digits_b64
        refine q_bd ?_
        rw [h.2.1, q_up]
        have k2 := ih (i + 1) u y _ (by omega) (by omega) hS hy (v_C_mv h (p' := s + (i + 1)) (by omega) (by omega)) (Or.inl (by omega))
        rw [show s + (i + 1) = s + i + 1 by omega] at k2
        rw [show i + (j_rn j_fi t d (s + i + 1) + 1) = i + 1 + j_rn j_fi t d (s + i + 1) by omega]
        exact k2
      have l6 : (6 : Int32) ≤ nI i ↔ 6 ≤ i := q_le (a := 6) (by decide) (by omega)
      by_cases c6 : i < 6
      · refine q_if (fun q => absurd (l6.mp q) (by omega)) (q_bd ?_)
        rw [show nI (t (s + i)) - (48 : Int32) = nI (t (s + i) - 48) from j_sub (b := 48) (by omega), nI_l (by omega), hx (by omega), show (10 : Int64) * lN (v_dv t s i) = lN (10 * v_dv t s i) from v_lmul 10 _, v_ladd]
        exact key _ (fun _ => rfl)
      · exact q_it (l6.mpr (by omega)) (key x (fun q => absurd q (by omega)))
    · rw [if_neg c] at hi ⊢
      rw [Bool.eq_false_iff.mpr c, Nat.add_zero]
      exact q_it rfl (stop i x M hS (by omega) hx h)
/-- an operand -/
def v_H (k T : Nat) (t : Nat → Nat) (f : m_M → Option m_M) (P : Nat → v_R) : Prop := (∀ p S M, v_C k T t p S M → q_T (f M) (v_A k T t S (P p))) ∧ ∀ φ M, v_X k T t φ M → q_T (f M) (v_X k T t φ)
theorem v_cS {T p : Nat} (t : Nat → Nat) (hp : p ≤ T) : v_c T t (j_S T t p) = v_c T t p := by
  unfold v_c
  rw [j_S_id t hp]
theorem v_oS {T p : Nat} (t : Nat → Nat) {rv : Nat → Nat → v_R} {d : Nat} (hp : p ≤ T) : v_opd T t rv d (j_S T t p) = v_opd T t rv d p := by
  unfold v_opd
  rw [j_S_id t hp, (j_tok_S t hp).1]
theorem v_cm {T p : Nat} {t : Nat → Nat} (ht : ∀ j, t j < 128) (hp : p ≤ T) : (v_c T t p = -1 ↔ j_S T t p = T) ∧ ∀ a : Nat, a < 128 → (v_c T t p = nI a ↔ j_S T t p ≠ T ∧ t (j_S T t p) = a) := by
  have hb := ht (j_S T t p)
  unfold v_c
  by_cases c : j_S T t p = T
  · rw [if_pos c]
    exact ⟨⟨fun _ => c, fun _ => rfl⟩, fun a ha => ⟨fun q => absurd q.symm (q_m1 (by omega)), fun q => absurd c q.1⟩⟩
  · rw [if_neg c]
    exact ⟨⟨fun q => absurd q (q_m1 (by omega)), fun q => absurd q c⟩, fun a ha => ⟨fun q => ⟨c, (nI_eq (by omega) (by omega)).mp q⟩, fun q => congrArg nI q.2⟩⟩
theorem v_opdC {n k T d : Nat} {t : Nat → Nat} {rv : Nat → Int32 → m_M → Option m_M} {P : Nat → Nat → v_R} (hn : 1600 < n) (hd : d ≤ 8) (hrv : d < 8 → v_H k T t (rv k (nI (d + 1))) (P (d + 1))) : v_H k T t (f_X4_operand n rv k (nI d)) (v_opd T t P d) := by
  refine ⟨fun p S M h => ?_, fun φ M h => ?_⟩
  · have hT := h.2.2.2.2.2.2.2.1
    have hp := h.2.2.2.2.2.2.1
    have ht := h.2.2.2.2.2.2.2.2.1
    obtain ⟨s1, s2, s3⟩ := j_S_b t hp
    unfold f_X4_operand
    refine q_o2 (q_mono (v_peek (by omega) h) (fun a ha => q_bd ?_))
    obtain ⟨a1, a2⟩ := ha
    have hb := ht (j_S T t p)
    rw [a1]
    unfold v_opd
    by_cases c0 : j_S T t p = T
    · have e : v_c T t p = -1 := if_pos c0
      rw [if_pos c0, e, a2.2.1]
      exact q_it (by decide) (q_if (by decide) (q_it rfl (q_bd (q_some (v_bl a2 (c := 1) (by omega) (by omega))))))
    have e : v_c T t p = nI (t (j_S T t p)) := if_neg c0
    rw [if_neg c0, e, v_isd hb]
    by_cases c1 : j_fi (t (j_S T t p)) = true
    · rw [if_pos c1, c1]
      refine q_if (by decide) ?_
      unfold f_X4_digits
      rw [a2.2.1]
      have k7 := v_d7 (n := n) (s := j_S T t p) (T - j_S T t p) 0 n 0 a.2 (by omega) (by omega) a2.2.2.2.2.2.1 (fun _ => rfl) a2 (Or.inr ((j_rn0 (by omega)).mp c1))
      rw [Nat.zero_add, Nat.add_zero] at k7
      exact q_ob (q_mono k7 (fun a ha => q_some ha))
    rw [if_neg c1, Bool.eq_false_iff.mpr c1]
    refine q_it rfl ?_
    have l40 : nI (t (j_S T t p)) = (40 : Int32) ↔ t (j_S T t p) = 40 := nI_eq (b := 40) (by omega) (by decide)
    by_cases c2 : t (j_S T t p) = 40
    · rw [if_pos c2]
      refine q_it (l40.mpr c2) ?_
      unfold f_X4_opened
      by_cases c3 : d < 8
      · rw [if_pos c3]
        refine q_ob (q_it ((q_lt (b := 8) (by omega) (by decide)).mpr c3) (q_bd ?_))
        rw [a2.2.1, q_up, q_up]
        refine q_ob (q_mono ((hrv c3).1 _ S _ (v_C_mv a2 (p' := j_S T t p + 1) (by omega) (by omega))) (fun M3 h3 => ?_))
        cases hr : P (d + 1) (j_S T t p + 1) with
        | inl φ =>
          rw [hr] at h3
          have h3' : v_X k T t φ M3 := h3
          refine q_o2 (q_mono (v_pkX (by omega) h3') (fun b hb => ?_))
          rw [hb.1]
          exact q_if (by decide) (q_bd (q_some (q_some (v_blX hb.2))))
        | inr r =>
          obtain ⟨p', S', v'⟩ := r
          rw [hr] at h3
          have h3' : v_C k T t p' (S ++ S') M3 := h3
          refine q_o2 (q_mono (v_peek (by omega) h3') (fun b hb => ?_))
          obtain ⟨b1, b2⟩ := hb
          have hp' := h3'.2.2.2.2.2.2.1
          have hs' := (j_S_b t hp').2.1
          rw [b1]
          show q_T _ (fun a => q_T (some a) (v_A k T t S (if v_c T t p' = 41 then Sum.inr (j_S T t p' + 1, S', v') else .inl (nI (10 * j_S T t p' + 1)))))
          by_cases c4 : v_c T t p' = 41
          · have e4 : (if v_c T t p' = 41 then (Sum.inr (j_S T t p' + 1, S', v') : v_R) else .inl (nI (10 * j_S T t p' + 1))) = .inr (j_S T t p' + 1, S', v') := if_pos c4
            have hne := (((v_cm ht hp').2 41 (by omega)).mp c4).1
            rw [e4]
            refine q_it c4 (q_bd (q_some (q_some ?_)))
            rw [b2.2.1, q_up]
            exact v_C_mv b2 (by omega) (by omega)
          · have e4 : (if v_c T t p' = 41 then (Sum.inr (j_S T t p' + 1, S', v') : v_R) else .inl (nI (10 * j_S T t p' + 1))) = .inl (nI (10 * j_S T t p' + 1)) := if_neg c4
            rw [e4]
            refine q_if c4 (q_bd (q_some (q_some ?_)))
            rw [b2.2.1]
            exact v_bl b2 (c := 1) (by omega) (by omega)
      · rw [if_neg c3]
        refine q_ob (q_if (fun q => c3 ((q_lt (b := 8) (by omega) (by decide)).mp q)) (q_bd (q_some (q_some ?_))))
        rw [a2.2.1]
        exact v_bl a2 (c := 3) (by omega) (by omega)
    rw [if_neg c2]
    refine q_if (fun q => c2 (l40.mp q)) (q_if (q_m1 (by omega)) ?_)
    rw [v_ix (by omega) hb]
    by_cases c3 : v_nm (t (j_S T t p)) < 5
    · rw [if_pos c3, if_pos c3, a2.2.1, q_up]
      refine q_ob (q_some (q_if (q_neg (by omega)) (q_bd (q_ob (q_some ?_)))))
      rw [nI_l (by omega)]
      exact q_ob (q_mono (v_step (v_C_mv a2 (p' := j_S T t p + 1) (by omega) (by omega)) (by have := a2.2.2.2.2.2.1; omega)) (fun b hb => q_some hb))
    · rw [if_neg c3, if_neg c3, a2.2.1]
      exact q_ob (q_some (q_it (by decide) (q_bd (q_some (v_bl a2 (c := 1) (by omega) (by omega))))))
  · unfold f_X4_operand
    refine q_o2 (q_mono (v_pkX (by omega) h) (fun a ha => q_bd ?_))
    rw [ha.1]
    exact q_it (by decide) (q_if (by decide) (q_it rfl (q_bd (q_some (v_blX ha.2)))))
