/-! LAWS: both read alike -/
theorem w_reads {n l T : Nat} {t : Nat → Nat} {M : m_M} (hn : 200 < n) (hl : l < 2) (hT : T ≤ 50) (ht : ∀ j, t j < 128) (h36 : M.1 172 36 = nI l) (h360 : M.1 173 (360 + 51 * l) = nI T) (hx : ∀ j, j < T → M.1 173 (361 + 51 * l + j) = nI (t j)) : q_T (f_X8_reads n M) (fun a => match v_law T t with
    | .inl φ => a.1 = 0 ∧ a.2.1 172 38 = φ
    | .inr (_, v) => a.1 = 1 ∧ a.2.1 172 38 = -1 ∧ a.2.2 172 44 = v (e_five (M.2 194))) := by
  unfold f_X8_reads v_law
  refine q_bd (q_bd (q_bd (q_bd ?_)))
  have h0 : w_S l T t (e_five (M.2 194)) 0 [] [] (m_sI (m_sI (m_sI (m_sI M 172 37 0) 172 38 (-1)) 172 40 0) 172 42 0) := by
    have e : ∀ i j, ¬ (i = 172 ∧ (j = 37 ∨ j = 38 ∨ j = 40 ∨ j = 42)) → (m_sI (m_sI (m_sI (m_sI M 172 37 0) 172 38 (-1)) 172 40 0) 172 42 0).1 i j = M.1 i j := fun i j q => by
      rw [q_r, if_neg (by omega), q_r, if_neg (by omega), q_r, if_neg (by omega), q_r, if_neg (by omega)]
    refine ⟨⟨hl, (e _ _ (by omega)).trans h36, (e _ _ (by omega)).trans h360, fun j hj => (e _ _ (by omega)).trans (hx j hj)⟩, ?_, ?_, ?_, ?_, trivial, trivial, fun i hi => ?_, Nat.zero_le _, hT, ht, Nat.le_refl _, Nat.le_refl _, trivial⟩
    · rw [q_r, if_neg (by omega), q_r, if_neg (by omega), q_r, if_neg (by omega), q_r, if_pos ⟨rfl, rfl⟩]
      rfl
    · rw [q_r, if_neg (by omega), q_r, if_neg (by omega), q_r, if_pos ⟨rfl, rfl⟩]
    · rw [q_r, if_neg (by omega), q_r, if_pos ⟨rfl, rfl⟩]
      rfl
    · rw [q_r, if_pos ⟨rfl, rfl⟩]
      rfl
    · show M.2 194 i = e_five (M.2 194) i
      unfold e_five
      rw [if_pos hi]
  refine w_val1 (n := n) (l := l) (T := T) (t := t) (g := e_five (M.2 194)) hn 12 0 rfl (by omega) 0 [] [] n _ _ h0 rfl trivial (by omega) (fun φ e a q1 q2 => ?_) (fun p' S v p2 σ2 ν2 u2 M2 e hM2 hS2 hlt2 hb2 hwd2 hF2 hu2 => ?_)
  · rw [e]
    exact ⟨q1, q2⟩
  · rw [e]
    have ec := w_cS hS2
    have hp2T : p2 ≤ T := hM2.2.2.2.2.2.2.2.2.1
    show q_T _ (fun (a : Int32 × m_M) => match (if v_c T t p' = -1 then (Sum.inr (S, v) : Sum Int32 (v_L × v_F)) else .inl (nI (10 * j_S T t p' + 1))) with
      | .inl φ => a.1 = 0 ∧ a.2.1 172 38 = φ
      | .inr (_, v) => a.1 = 1 ∧ a.2.1 172 38 = -1 ∧ a.2.2 172 44 = v (e_five (M.2 194)))
    by_cases c : v_c T t p' = -1
    · have e4 : (if v_c T t p' = -1 then (Sum.inr (S, v) : Sum Int32 (v_L × v_F)) else .inl (nI (10 * j_S T t p' + 1))) = .inr (S, v) := if_pos c
      rw [e4]
      obtain ⟨u, rfl⟩ : ∃ w, u2 = w + 2 := ⟨u2 - 2, by omega⟩
      rw [f_X8_reads_b26, hM2.2.2.1]
      refine q_if (by decide) (q_it rfl (q_o2 (q_mono (w_ahead (by omega) hM2) (fun b hb => q_it rfl ?_))))
      obtain ⟨b1, b2⟩ := hb
      rw [b1, ec, c]
      refine q_if (by decide) ?_
      unfold f_X8_reads_b312
      refine q_bd (q_it (by decide) (q_it rfl (q_it rfl (q_ob (q_mono (w_down (L := 1) hn (by omega) hb2 b2) (fun M3 h3 => ?_))))))
      rw [hwd2] at h3
      rw [f_X8_reads_b26]
      refine q_it rfl ?_
      unfold f_X8_reads_b481 f_X8_reads_b500
      have e38 : M3.1 172 38 = -1 := h3.2.2.1
      have ev : M3.2 192 0 = v (e_five (M.2 194)) := h3.2.2.2.2.2.2.1.1
      rw [e38, ev]
      refine q_it rfl (q_bd ?_)
      have e38' : (m_sL M3 172 44 (v (e_five (M.2 194)))).1 172 38 = -1 := e38
      rw [e38']
      exact q_it rfl (q_some ⟨rfl, e38', by rw [q_l, if_pos ⟨rfl, rfl⟩]⟩)
    · have e4 : (if v_c T t p' = -1 then (Sum.inr (S, v) : Sum Int32 (v_L × v_F)) else .inl (nI (10 * j_S T t p' + 1))) = .inl (nI (10 * j_S T t p' + 1)) := if_neg c
      rw [e4]
      refine w_bad hn hM2 hb2 hF2 (Or.inl rfl) (by omega) (Or.inr (by rw [ec]; exact c)) (by omega) (fun a q1 q2 => ?_)
      rw [hS2] at q2
      exact ⟨q1, q2⟩
/-- a law that the class parsed -/
theorem v_Z {n k T : Nat} {t : Nat → Nat} {tx : Nat → Int32} {M : m_M} (hn : 1600 < n) (hk : k < 44) (hT : T ≤ 50) (ht : ∀ j, t j < 128) (h1 : M.1 k 1 = nI T) (hx : ∀ j, j < T → M.1 (k + 1) j = nI (t j)) (htx : ∀ j, j < T → tx j = nI (t j)) : q_T (f_X4_parse n k M) (fun a => k_Z k a T tx) := by
  refine q_mono (v_parse hn hT ht h1 hx) (fun a ha => ?_)
  have hR : ∀ (n l : Nat) (M2 : m_M), 200 < n → l < 2 → M2.1 172 36 = nI l → M2.1 173 (360 + 51 * l) = nI T → (∀ j, j < T → M2.1 173 (361 + 51 * l + j) = tx j) → _ := fun n l M2 q1 q2 q3 q4 q5 => w_reads (n := n) (l := l) (T := T) (t := t) (M := M2) q1 q2 hT ht q3 q4 (fun j hj => (q5 j hj).trans (htx j hj))
  cases hlaw : v_law T t with
  | inl φ =>
    rw [hlaw] at ha
    have ha' : a.1 k 7 = φ ∧ φ ≠ -1 := ha
    refine ⟨φ, fun _ => 0, ⟨ha'.1, fun q => absurd q ha'.2⟩, fun n l M2 q1 q2 q3 q4 q5 => ?_⟩
    have h := hR n l M2 q1 q2 q3 q4 q5
    rw [hlaw] at h
    refine q_mono h (fun b hb => ?_)
    have hb' : b.1 = 0 ∧ b.2.1 172 38 = φ := hb
    exact ⟨by rw [if_neg ha'.2]; exact hb'.1, hb'.2, fun q => absurd q ha'.2⟩
  | inr r =>
    obtain ⟨S, v⟩ := r
    rw [hlaw] at ha
    have ha' : a.1 k 7 = -1 ∧ a.1 k 5 = nI S.length ∧ v_has (a.1 (k + 2)) (a.2 (k + 3)) 0 S ∧ S.length ≤ 50 := ha
    have hTv : v_T S v := by
      unfold v_law at hlaw
      cases hr : v_pv T t 12 0 0 with
      | inl φ =>
        rw [hr] at hlaw
        exact absurd hlaw (by simp)
      | inr r =>
        obtain ⟨p, S', v'⟩ := r
        have g4 := (v_Gv (T := T) (t := t) 12 0 0 p S' v' (Nat.zero_le _) hr).2.2.2
        rw [hr] at hlaw
        have e0 : (if v_c T t p = -1 then (Sum.inr (S', v') : Sum Int32 (v_L × v_F)) else .inl (nI (10 * j_S T t p + 1))) = .inr (S, v) := hlaw
        by_cases c : v_c T t p = -1
        · rw [if_pos c] at e0
          have e' := Sum.inr.inj e0
          have e2 := congrArg Prod.fst e'
          have e3 := congrArg Prod.snd e'
          subst e2 e3
          exact g4
        · rw [if_neg c] at e0
          exact absurd e0 (by simp)
    refine ⟨-1, v, ⟨ha'.1, fun _ n M2 hn2 c1 c2 c3 => ?_⟩, fun n l M2 q1 q2 q3 q4 q5 => ?_⟩
    · refine v_work hn2 hk hTv ha'.2.2.2 ((c1 5).trans ha'.2.1) ?_
      exact v_has_cg (N := S.length) (fun j _ => c2 j) (fun j _ => c3 j) S 0 (by omega) ha'.2.2.1
    · have h := hR n l M2 q1 q2 q3 q4 q5
      rw [hlaw] at h
      refine q_mono h (fun b hb => ?_)
      have hb' : b.1 = 1 ∧ b.2.1 172 38 = -1 ∧ b.2.2 172 44 = v (e_five (M2.2 194)) := hb
      exact ⟨by rw [if_pos rfl]; exact hb'.1, hb'.2.1, fun _ => hb'.2.2⟩
