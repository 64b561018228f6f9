/-! SERVED: the reference serves by an order -/
def l_G (L : l_L) (s : Nat → Nat) (w k : Nat) : Nat := if w.testBit (s k) then 0 else l_tk L (s k) (l_gn L s w (l_mn L (s k)) k)
theorem a_b170 {n : Nat} {L : l_L} {x1 : Int32} {q : Int32 → m_M → Option m_M} {k i g : Nat} {s0 : Int32} {M : m_M} {Q : m_M → Prop} (hL : l_ok L) (hi : i < l_n L) (hg : g < 2 ^ 30) (h1 : l_Q1 L i M) (hs : s0 = nI (l_dp L i - g)) (h : q_T (q (nI (k + 1)) (m_sI M 198 i (nI (l_tk L i g)))) Q) : q_T (f_X8_serve_b170 n x1 q (nI k) (nI i) s0 M) Q := by
  have n6 := hL.1
  have hdp := (hL.2.1 i hi).2.2.2.1
  obtain ⟨p1, v, p2, p3, p4⟩ := h1
  have hg4 := p4 g
  unfold f_X8_serve_b170
  refine q_gd (q_in (by omega) (by decide)) ?_
  rw [q_cl (by omega), p3, hs, q_up]
  by_cases c : l_dp L i - g ≤ v
  · refine q_it ((q_le (by omega) (by omega)).mpr c) (q_bd ?_)
    rw [Nat.min_eq_right c] at hg4
    rw [hg4]
    exact h
  · refine q_if (fun z => c ((q_le (by omega) (by omega)).mp z)) (q_bd ?_)
    rw [Nat.min_eq_left (by omega)] at hg4
    rw [hg4]
    exact h
theorem q_ls (a b c : Nat) : nI a - nI b - nI c = nI a - nI (b + c) := by rw [Int32.sub_sub, q_add]
theorem a_b63 {n : Nat} {C : k_C} {day : Int32} {K w k : Nat} {kr s : Nat → Nat} {fl : Int32} {val : (Nat → Int64) → Int64} {q : Int32 → m_M → Option m_M} {M : m_M} {Q : m_M → Prop} (hV : k_V C) (hK : K ≤ k_N C) (hkr : l_kr C kr) (hR : l_R C day K kr (l_mk C day K kr fl val) M) (hw : w < 64) (hs : ∀ j, j < k_n C → s j < k_n C) (ho : ∀ j, j < k_n C → M.1 199 j = nI (s j)) (hk : k < k_n C) (hb : w.testBit (s k) = false) (hG : ∀ j, j < k → M.1 198 (s j) = nI (l_G (l_mk C day K kr fl val) s w j)) (h : q_T (q (nI (k + 1)) (m_sI M 198 (s k) (nI (l_G (l_mk C day K kr fl val) s w k)))) Q) : ∀ (e j u : Nat), j + e = k → e < u → q_T (f_X8_serve_b63 n (nI w) q u (nI k) (nI (s k)) (nI (l_dp (l_mk C day K kr fl val) (s k)) - nI (l_gn (l_mk C day K kr fl val) s w (l_mn (l_mk C day K kr fl val) (s k)) j)) (nI j) M) Q := by
  have hL := l_mk_ok hV hK hkr day fl val
  have n6 : k_n C ≤ 6 := hV.1.2.2.1
  have hsk := hs k hk
  have hle := l_gn_le hL (s := s) hs w (l_mn (l_mk C day K kr fl val) (s k))
  have hdp := (hL.2.1 (s k) hsk).2.2.2.1
  obtain ⟨sk1, sk2, sk3⟩ := hkr (s k) hsk
  intro e
  induction e with
  | zero =>
    intro j u hj hu
    obtain ⟨u, rfl⟩ : ∃ v, u = v + 1 := ⟨u - 1, by omega⟩
    obtain rfl : j = k := by omega
    have hg := hle j (by show j ≤ k_n C; omega)
    have hGk : l_G (l_mk C day K kr fl val) s w j = l_tk (l_mk C day K kr fl val) (s j) (l_gn (l_mk C day K kr fl val) s w (l_mn (l_mk C day K kr fl val) (s j)) j) := by
      unfold l_G
      rw [hb, if_neg (by decide)]
    rw [f_X8_serve_b63]
    refine q_it ((q_le (by omega) (by omega)).mpr (by omega)) ?_
    have hsub := pk_sub_toInt (a := l_dp (l_mk C day K kr fl val) (s j)) (b := l_gn (l_mk C day K kr fl val) s w (l_mn (l_mk C day K kr fl val) (s j)) j) (by omega) (by omega)
    have h0 : (0 : Int32).toInt = 0 := rfl
    by_cases c : l_gn (l_mk C day K kr fl val) s w (l_mn (l_mk C day K kr fl val) (s j)) j ≤ l_dp (l_mk C day K kr fl val) (s j)
    · refine q_it (Int32.le_iff_toInt_le.mpr (by rw [hsub, h0]; omega)) ?_
      exact a_b170 hL hsk (by omega) (hR.2 _ hsk) (pk_sub c) (by rw [← hGk]; exact h)
    · refine q_if (fun z => by have := Int32.le_iff_toInt_le.mp z; rw [hsub, h0] at this; omega) ?_
      have hz : l_dp (l_mk C day K kr fl val) (s j) - l_gn (l_mk C day K kr fl val) s w (l_mn (l_mk C day K kr fl val) (s j)) j = 0 := by omega
      exact a_b170 (g := l_gn (l_mk C day K kr fl val) s w (l_mn (l_mk C day K kr fl val) (s j)) j) hL hsk (by omega) (hR.2 _ hsk) (by rw [hz]; rfl) (by rw [← hGk]; exact h)
  | succ e ih =>
    intro j u hj hu
    obtain ⟨u, rfl⟩ : ∃ v, u = v + 1 := ⟨u - 1, by omega⟩
    have hsj := hs j (by omega)
    obtain ⟨sj1, sj2, sj3⟩ := hkr (s j) hsj
    have ih' := ih (j + 1) u (by omega) (by omega)
    rw [l_gn] at ih'
    rw [f_X8_serve_b63]
    refine q_if (fun z => absurd ((q_le (by omega) (by omega)).mp z) (by omega)) (q_gd (q_in (by omega) (by decide)) ?_)
    rw [q_cl (by omega), ho j (by omega), q_462, q_462]
    refine q_gd (q_in (by omega) (by decide)) ?_
    rw [q_cl (by omega), l_cell hR.1.2 hkr hsj]
    refine q_ob (q_of (a_man hV hR.1 sj1 sj2) (q_gd (q_in (by omega) (by decide)) ?_))
    rw [q_cl (by omega), l_cell hR.1.2 hkr hsk]
    refine q_ob (q_of (a_man hV hR.1 sk1 sk2) ?_)
    have hmj : l_mn (l_mk C day K kr fl val) (s j) = h_a (k_r C) (kr (s j)) := rfl
    have hmk : l_mn (l_mk C day K kr fl val) (s k) = h_a (k_r C) (kr (s k)) := rfl
    have dj := (a_dl hV sj1 sj2).2.2.1
    have dk := (a_dl hV sk1 sk2).2.2.1
    by_cases cm : h_a (k_r C) (kr (s j)) = h_a (k_r C) (kr (s k))
    · refine q_it (by rw [cm]) ?_
      unfold f_X8_serve_b111
      refine q_if (by decide) (q_gd (q_in (by omega) (by decide)) ?_)
      rw [q_cl (by omega), ho j (by omega), l_bit w hw _ (by omega), q_up]
      by_cases cb : w.testBit (s j) = false
      · refine q_it ((l_b0 _).mpr cb) (q_gd (q_in (by omega) (by decide)) (q_bd ?_))
        rw [q_cl (by omega), hG j (by omega), q_ls]
        rw [if_pos ⟨by rw [hmj, hmk]; exact cm, cb⟩] at ih'
        have hGj : l_G (l_mk C day K kr fl val) s w j = l_tk (l_mk C day K kr fl val) (s j) (l_gn (l_mk C day K kr fl val) s w (l_mn (l_mk C day K kr fl val) (s k)) j) := by
          unfold l_G
          rw [cb, if_neg (by decide), hmj, hmk, cm]
        rw [hGj]
        exact ih'
      · refine q_if (fun z => cb ((l_b0 _).mp z)) ?_
        rw [if_neg (fun z => cb z.2)] at ih'
        rw [Int32.sub_zero]
        exact ih'
    · refine q_if (fun z => cm ((nI_eq (by omega) (by omega)).mp z)) ?_
      unfold f_X8_serve_b111
      refine q_it rfl ?_
      rw [if_neg (fun z => cm (by rw [← hmj, ← hmk]; exact z.1))] at ih'
      rw [Int32.sub_zero, q_up]
      exact ih'
theorem a_sv2 {n : Nat} {C : k_C} {day : Int32} {K w : Nat} {kr s : Nat → Nat} {fl : Int32} {val : (Nat → Int64) → Int64} (hn : 200 < n) (hV : k_V C) (hd : h_day (k_r C) (k_N C) day K) (hkr : l_kr C kr) (hw : w < 64) (hs : ∀ j, j < k_n C → s j < k_n C) (hi : ∀ i j, i < k_n C → j < k_n C → s i = s j → i = j) : ∀ (e k u : Nat) (M : m_M), k + e = k_n C → e < u → l_R C day K kr (l_mk C day K kr fl val) M → (∀ j, j < k_n C → M.1 199 j = nI (s j)) → (∀ j, j < k → M.1 198 (s j) = nI (l_G (l_mk C day K kr fl val) s w j)) → q_T (f_X8_serve_b2 n (nI w) u (nI k) M) (fun M' => ∀ j, j < k_n C → M'.1 198 (s j) = nI (l_G (l_mk C day K kr fl val) s w j)) := by
  have hK := hd.1
  have n6 : k_n C ≤ 6 := hV.1.2.2.1
  intro e
  induction e with
  | zero =>
    intro k u M hk hu hR ho hG
    obtain ⟨u, rfl⟩ : ∃ v, u = v + 1 := ⟨u - 1, by omega⟩
    have h4 : M.1 173 470 = nI (k_n C) := hR.1.2.2.2.1
    rw [f_X8_serve_b2]
    unfold f_X8_lined
    refine q_bd ?_
    rw [h4]
    exact q_it ((q_le (by omega) (by omega)).mpr (by omega)) (q_some (fun j q => hG j (by omega)))
  | succ e ih =>
    intro k u M hk hu hR ho hG
    obtain ⟨u, rfl⟩ : ∃ v, u = v + 1 := ⟨u - 1, by omega⟩
    have h4 : M.1 173 470 = nI (k_n C) := hR.1.2.2.2.1
    have hsk := hs k (by omega)
    obtain ⟨sk1, sk2, sk3⟩ := hkr (s k) hsk
    have dk := (a_dl hV sk1 sk2).2.2.1
    rw [f_X8_serve_b2]
    unfold f_X8_lined
    refine q_bd ?_
    rw [h4]
    refine q_if (fun z => absurd ((q_le (by omega) (by omega)).mp z) (by omega)) (q_gd (q_in (by omega) (by decide)) ?_)
    rw [q_cl (by omega), ho k (by omega)]
    refine q_gd (q_in (by omega) (by decide)) (q_bd ?_)
    rw [q_cl (by omega), l_bit w hw _ (by omega)]
    have e2 : ∀ a b, a ≠ 198 → (m_sI M 198 (s k) 0).1 a b = M.1 a b := fun a b q => by rw [q_r, if_neg (by omega)]
    have hR2 : l_R C day K kr (l_mk C day K kr fl val) (m_sI M 198 (s k) 0) := l_R_fr hR (fun a b q => e2 a b (by omega))
    have ho2 : ∀ j, j < k_n C → (m_sI M 198 (s k) 0).1 199 j = nI (s j) := fun j q => (e2 _ _ (by omega)).trans (ho j q)
    have hne : ∀ j, j < k → s j ≠ s k := fun j q z => by
      have := hi j k (by omega) (by omega) z
      omega
    have hG2 : ∀ j, j < k → (m_sI M 198 (s k) 0).1 198 (s j) = nI (l_G (l_mk C day K kr fl val) s w j) := fun j q => by
      rw [q_r, if_neg (fun z => hne j q z.2)]
      exact hG j q
    by_cases cb : w.testBit (s k) = false
    · refine q_it ((l_b0 _).mpr cb) ?_
      rw [q_462]
      refine q_gd (q_in (by omega) (by decide)) ?_
      rw [q_cl (by omega), l_cell hR2.1.2 hkr hsk]
      refine q_ob (q_of (a_man hV hR2.1 sk1 sk2) (q_ob (q_of (a_so (fl := fl) (val := val) hn hV hd hkr hR2.1 dk hw) (q_bd ?_))))
      have h196 : (m_sI M 198 (s k) 0).1 196 (s k) = nI (l_dp (l_mk C day K kr fl val) (s k)) := (hR2.2 _ hsk).1
      rw [h196]
      refine a_b63 (n := n) (fl := fl) (val := val) hV hK hkr hR2 hw hs ho2 (show k < k_n C by omega) cb hG2 ?_ k 0 n (by omega) (by omega)
      refine ih (k + 1) u _ (by omega) (by omega) (l_R_fr hR2 (fun a b q => by rw [q_r, if_neg (by omega)])) (fun j q => by rw [q_r, if_neg (by omega)]; exact ho2 j q) (fun j q => ?_)
      by_cases z : j = k
      · subst z
        rw [q_r, if_pos ⟨rfl, rfl⟩]
      · rw [q_r, if_neg (fun y => hne j (by omega) y.2)]
        exact hG2 j (by omega)
    · have cb' : w.testBit (s k) = true := by
        cases h : w.testBit (s k) with
        | true => rfl
        | false => exact absurd h cb
      refine q_if (fun z => cb ((l_b0 _).mp z)) ?_
      rw [q_up]
      refine ih (k + 1) u _ (by omega) (by omega) hR2 ho2 (fun j q => ?_)
      by_cases z : j = k
      · subst z
        rw [q_r, if_pos ⟨rfl, rfl⟩]
        unfold l_G
        rw [cb', if_pos rfl]
        rfl
      · exact hG2 j (by omega)
theorem a_serve {n : Nat} {C : k_C} {day : Int32} {K w : Nat} {kr s : Nat → Nat} {fl : Int32} {val : (Nat → Int64) → Int64} {M : m_M} (hn : 200 < n) (hV : k_V C) (hd : h_day (k_r C) (k_N C) day K) (hkr : l_kr C kr) (hw : w < 64) (hs : ∀ j, j < k_n C → s j < k_n C) (hi : ∀ i j, i < k_n C → j < k_n C → s i = s j → i = j) (hR : l_R C day K kr (l_mk C day K kr fl val) M) (ho : ∀ j, j < k_n C → M.1 199 j = nI (s j)) : q_T (f_X8_serve n (nI w) M) (fun M' => (∀ j, j < k_n C → M'.1 198 (s j) = nI (l_G (l_mk C day K kr fl val) s w j)) ∧ g_fr w_71 w_1 M M') :=
  q_TH (a_sv2 (n := n) hn hV hd hkr hw hs hi (k_n C) 0 n M (by omega) (by have := hV.1.2.2.1; omega) hR ho (fun j q => absurd q (Nat.not_lt_zero _))) (g_X8_serve n (nI w) M)
theorem z_served {n : Nat} {x1 x2 : Int32} {M : m_M} (hn : 200 < n) (h : k_Inv M) : q_T (f_X7_served n x1 x2 M) (fun a => z_eq a (f_X8_served n x1 x2 a.2)) := by
  obtain ⟨C, C0, C1, hM⟩ := h
  obtain ⟨⟨hV, hA, hE⟩, hI⟩ := id hM
  have n6 : k_n C ≤ 6 := hV.1.2.2.1
  have ref : e_in x1 (k_n C) = 0 ∨ e_in x2 1000 = 0 → z_eq (-2, M) (f_X8_served n x1 x2 M) := by
    intro hc
    unfold z_eq f_X8_served
    refine q_bd ?_
    rw [e_li8 (by omega) hE.2.2.1]
    refine q_ite (fun _ => q_some ⟨rfl, C, C0, C1, hM⟩) (fun c => q_bd ?_)
    rw [e_day8]
    refine q_it ?_ (q_some ⟨rfl, C, C0, C1, hM⟩)
    rcases hc with q | q
    · exact absurd q c
    · exact q
  unfold f_X7_served
  refine q_bd ?_
  rw [e_li7 hA.2.2.2.2.1]
  rcases e_in_of (x := x1) (n := k_n C) (by omega) with ⟨e1, _⟩ | ⟨e1, i, hi, rfl⟩
  · exact q_it e1 (q_some (ref (Or.inl e1)))
  refine q_if (by rw [e1]; decide) (q_bd ?_)
  rw [e_day7]
  rcases e_in_of (x := x2) (n := 1000) (by omega) with ⟨e2, _⟩ | ⟨e2, dy, hdy, rfl⟩
  · exact q_it e2 (q_some (ref (Or.inr e2)))
  refine q_if (by rw [e2]; decide) ?_
  obtain ⟨K, hK⟩ := k_isday hV (nI dy)
  obtain ⟨fl, val, y1, y2⟩ := k_law hA (l := 0) (by omega)
  obtain ⟨kr, hkr⟩ := l_ex hV
  have hL := l_mk_ok hV hK.1 hkr (nI dy) fl val
  refine q_ob (q_mono (b_lineUp (n := n) (fl := fl) (val := val) hn hM y1 hkr hK) (fun M1 h1 => ?_))
  obtain ⟨hC1, hM1⟩ := h1
  have fp := b_fp (n := n) (w := 0) hn hL hC1 (by omega) hi
  refine q_ob (q_of fp (q_some ?_))
  have tk := l_tk_le hL hi (l_gn (l_mk C (nI dy) K kr fl val) l_id 0 (l_mn (l_mk C (nI dy) K kr fl val) i) i)
  rw [lN_i]
  unfold z_eq f_X8_served
  refine q_bd ?_
  rw [e_li8 (P := k_n C) (by omega) hM1.1.2.2.2.2.1]
  refine q_if (by rw [e1]; decide) (q_bd ?_)
  rw [e_day8]
  refine q_if (by rw [e2]; decide) (q_ob (q_mono (a_layLine (n := n) (fl := fl) (val := val) hn hM1 y2 hkr hK) (fun M2 h2 => ?_)))
  obtain ⟨⟨g2, q2⟩, hM2⟩ := h2
  refine q_ob (q_mono (a_serve (n := n) (w := 0) (s := l_id) (fl := fl) (val := val) hn hV hK hkr (by omega) (fun j q => q) (fun i j _ _ z => z) ⟨g2.1, fun j q => (q2 j q).1⟩ (fun j q => (q2 j q).2)) (fun M3 h3 => q_gd (q_in (by omega) (by decide)) (q_some ⟨?_, C, C0, C1, ?_⟩)))
  · rw [q_cl (by omega)]
    have := h3.1 i hi
    have e : M3.1 198 i = nI (l_G (l_mk C (nI dy) K kr fl val) l_id 0 i) := this
    show nI _ = M3.1 198 i
    rw [e]
    unfold l_G
    rw [Nat.zero_testBit, if_neg (by decide)]
    rfl
  · exact k_M_fr2 hM2 ⟨fun i j q => h3.2.1 i j (by unfold w_71; omega), fun i j q => h3.2.2 i j (by unfold w_1; omega)⟩ (fun i j q => h3.2.2 i j (by unfold w_1; omega))
