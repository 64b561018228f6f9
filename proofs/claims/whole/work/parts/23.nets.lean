/-! NETS: the true nets, and the reference's rounds -/
theorem e_clQ (z : Int64) : (if 0 ≤ z then (if z ≤ 1000000 then z.toInt32 else 1000000) else 0) = e_cl z := by
  have h0 : (0 : Int64).toInt = 0 := rfl
  have h1 : (1000000 : Int64).toInt = 1000000 := by decide +kernel
  unfold e_cl m_minJ m_maxJ
  by_cases a : 0 ≤ z
  · rw [if_pos a]
    have a' := Int64.le_iff_toInt_le.mp a
    by_cases b : z ≤ 1000000
    · rw [if_pos b]
      have b' := Int64.le_iff_toInt_le.mp b
      by_cases c : z < 1000000
      · rw [if_pos c, if_neg (fun q => by have := Int64.lt_iff_toInt_lt.mp q; omega)]
      · rw [if_neg c]
        have c' : ¬ z.toInt < (1000000 : Int64).toInt := fun q => c (Int64.lt_iff_toInt_lt.mpr q)
        have : z = 1000000 := Int64.toInt_inj.mp (by omega)
        rw [this]
        decide +kernel
    · rw [if_neg b]
      have b' : ¬ z.toInt ≤ (1000000 : Int64).toInt := fun q => b (Int64.le_iff_toInt_le.mpr q)
      rw [if_neg (c := z < 1000000) (fun q => by have := Int64.lt_iff_toInt_lt.mp q; omega)]
      decide +kernel
  · rw [if_neg a]
    have a' : ¬ (0 : Int64).toInt ≤ z.toInt := fun q => a (Int64.le_iff_toInt_le.mpr q)
    rw [if_pos (c := z < 1000000) (Int64.lt_iff_toInt_lt.mpr (by omega)), if_pos (Int64.lt_iff_toInt_lt.mpr (by omega))]
    decide +kernel
/-- the reference stands so that nets can be found -/
def e_G (S : Nat → Nat → Int32) (D P : Nat) (tl : Nat → Nat) (tx : Nat → Nat → Int32) (M : m_M) : Prop := h_Q S D M ∧ M.1 173 468 = nI P ∧ ∀ l, l < 2 → M.1 173 (360 + 51 * l) = nI (tl l) ∧ ∀ j, j < tl l → M.1 173 (361 + 51 * l + j) = tx l j
theorem e_Q_fr {S : Nat → Nat → Int32} {D : Nat} {M M' : m_M} (h : h_Q S D M) (e : ∀ i j, 177 ≤ i → i ≤ 191 → M'.1 i j = M.1 i j) : h_Q S D M' := by
  refine ⟨fun f i hok => ?_, fun i hi h1 => ?_⟩
  · rw [e _ _ ?_ ?_, h.1 f i hok]
    · unfold h_okq at hok
      unfold h_rc
      repeat' split
      all_goals omega
    · unfold h_okq at hok
      unfold h_rc
      repeat' split
      all_goals omega
  · rw [e _ _ (by omega) (by omega), e _ _ (by omega) (by omega)]
    exact h.2 i hi h1
theorem e_G_fr {S : Nat → Nat → Int32} {D P : Nat} {tl : Nat → Nat} {tx : Nat → Nat → Int32} {M M' : m_M} (h : e_G S D P tl tx M) (e : ∀ i j, i = 173 ∨ 177 ≤ i ∧ i ≤ 191 → M'.1 i j = M.1 i j) : e_G S D P tl tx M' := by
  obtain ⟨h1, h2, h3⟩ := h
  refine ⟨e_Q_fr h1 (fun i j a b => e i j (by omega)), by rw [e _ _ (by omega)]; exact h2, fun l hl => ⟨by rw [e _ _ (by omega)]; exact (h3 l hl).1, fun j hj => by rw [e _ _ (by omega)]; exact (h3 l hl).2 j hj⟩⟩
theorem e_netQ {n p l P D : Nat} {S : Nat → Nat → Int32} {tl : Nat → Nat} {tx : Nat → Nat → Int32} {F : Nat → Int32} {M : m_M} {fl : Int32} {val : (Nat → Int64) → Int64} (hn : 200 < n) (h : e_G S D P tl tx M) (hP : P ≤ 10) (hp : p < P) (hl : l < 2) (hh : e_hd S P) (hY : k_YR (tl l) (tx l) fl val) (hF : ∀ k, k < P → M.1 195 k = F k) (x3 x4 : Int32) : q_T (f_X8_netOf n (nI p) (nI l) x3 x4 M) (fun a => a.1 = e_net fl val (e_all S p + x3).toInt64 (e_sec S F p P).toInt64 (e_o S p).toInt64 (e_wf S p P).toInt64 x4.toInt64) := by
  obtain ⟨h1, h2, h3⟩ := h
  unfold f_X8_netOf
  refine q_ob (q_of (e_inAll h1 (by omega)) (q_bd ?_))
  refine q_ob (q_of (e_second (F := F) (D := D) (S := S) (by omega) h1 hP h2 hF) (q_bd ?_))
  refine q_ob (q_of (e_own0 (D := D) (S := S) (by omega) h1 hP h2 hp hh) (q_bd ?_))
  refine q_ob (q_of (e_own1 (D := D) (S := S) (by omega) h1 hP h2 hp hh) (q_bd (q_bd (q_bd ?_))))
  have hr := hY n l (m_sI (m_sL (m_sL (m_sL (m_sL (m_sL M 194 0 (e_all S p + x3).toInt64) 194 1 (e_sec S F p P).toInt64) 194 2 (e_o S p).toInt64) 194 3 (e_wf S p P).toInt64) 194 4 x4.toInt64) 172 36 (nI l)) hn hl (by rw [q_r, if_pos ⟨rfl, rfl⟩]) (by rw [q_r, if_neg (by omega)]; exact (h3 l hl).1) (fun j hj => by rw [q_r, if_neg (by omega)]; exact (h3 l hl).2 j hj)
  refine q_o2 (q_mono (q_TH hr (g_X8_reads n _)) (fun a ha => ?_))
  obtain ⟨⟨a1, a2, a3⟩, g⟩ := ha
  have gL : ∀ j, j < 5 → a.2.2 194 j = (m_sI (m_sL (m_sL (m_sL (m_sL (m_sL M 194 0 (e_all S p + x3).toInt64) 194 1 (e_sec S F p P).toInt64) 194 2 (e_o S p).toInt64) 194 3 (e_wf S p P).toInt64) 194 4 x4.toInt64) 172 36 (nI l)).2 194 j := fun j hj => g.2 194 j (by unfold w_59; omega)
  rw [a1]
  have b114 : ∀ (z : Int64) (M' : m_M), q_T (f_X8_netOf_b114 n (nI p) (nI l) x3 x4 z M') (fun a => a.1 = e_cl z) := by
    intro z M'
    unfold f_X8_netOf_b114
    rw [← e_clQ]
    by_cases c : 0 ≤ z
    · rw [if_pos c, if_pos c]
      by_cases c2 : z ≤ 1000000
      · rw [if_pos c2, if_pos c2]
        exact q_some rfl
      · rw [if_neg c2, if_neg c2]
        exact q_some rfl
    · rw [if_neg c, if_neg c]
      exact q_some rfl
  unfold e_net
  by_cases c : fl = -1
  · rw [if_pos c, if_pos c]
    refine q_if (by decide) ?_
    rw [a3 c, e_five_env (g := (e_all S p + x3).toInt64) (s := (e_sec S F p P).toInt64) (o := (e_o S p).toInt64) (w := (e_wf S p P).toInt64) (h := x4.toInt64)]
    · exact b114 _ _
    · rw [q_r2]
      simp only [q_l]
      (repeat (first | rw [if_pos (by omega)] | rw [if_neg (by omega)]))
      rfl
    · rw [q_r2]
      simp only [q_l]
      (repeat (first | rw [if_pos (by omega)] | rw [if_neg (by omega)]))
      rfl
    · rw [q_r2]
      simp only [q_l]
      (repeat (first | rw [if_pos (by omega)] | rw [if_neg (by omega)]))
      rfl
    · rw [q_r2]
      simp only [q_l]
      (repeat (first | rw [if_pos (by omega)] | rw [if_neg (by omega)]))
      rfl
    · rw [q_r2]
      simp only [q_l]
      (repeat (first | rw [if_pos (by omega)] | rw [if_neg (by omega)]))
      rfl
  · rw [if_neg c, if_neg c]
    refine q_it rfl ?_
    rw [gL 0 (by omega), gL 1 (by omega), gL 2 (by omega), gL 3 (by omega), gL 4 (by omega), q_r2]
    simp only [q_l]
    (repeat (first | rw [if_pos (by omega)] | rw [if_neg (by omega)]))
    exact b114 _ _
/-! the true nets -/
theorem e_sec_cg {S : Nat → Nat → Int32} {F F' : Nat → Int32} {p : Nat} : ∀ k, (∀ c, c < k → S 0 c = nI p → F c = F' c) → e_sec S F p k = e_sec S F' p k
  | 0, _ => rfl
  | k + 1, h => by
    rw [e_sec, e_sec, e_sec_cg k (fun c hc e => h c (by omega) e)]
    by_cases e : S 0 k = nI p
    · rw [if_pos e, if_pos e, h k (by omega) e]
    · rw [if_neg e, if_neg e]
def e_nf (S : Nat → Nat → Int32) (P : Nat) (G : Nat → Int32 → Int32) : Nat → Nat → Int32
  | 0, _ => 0
  | u + 1, p => G p (e_sec S (e_nf S P G u) p P)
def e_rk (S : Nat → Nat → Int32) (P : Nat) (ρ : Nat → Nat) : Prop := (∀ p, p < P → ρ p < P) ∧ ∀ p q, p < P → q < P → S 0 p = nI q → ρ q < ρ p
theorem e_nf_st {S : Nat → Nat → Int32} {P : Nat} {G : Nat → Int32 → Int32} {ρ : Nat → Nat} (h : e_rk S P ρ) : ∀ m p, p < P → P ≤ ρ p + m → ∀ u, m ≤ u → e_nf S P G u p = e_nf S P G m p := by
  intro m
  induction m with
  | zero =>
    intro p hp hm
    have := h.1 p hp
    omega
  | succ m ih =>
    intro p hp hm u hu
    obtain ⟨u, rfl⟩ : ∃ v, u = v + 1 := ⟨u - 1, by omega⟩
    rw [e_nf, e_nf]
    congr 1
    refine e_sec_cg P (fun c hc e => ih c hc ?_ u (by omega))
    have := h.2 c p hc hp e
    omega
def e_N (S : Nat → Nat → Int32) (P : Nat) (G : Nat → Int32 → Int32) : Nat → Int32 := e_nf S P G P
theorem e_N_fix {S : Nat → Nat → Int32} {P : Nat} {G : Nat → Int32 → Int32} {ρ : Nat → Nat} (h : e_rk S P ρ) {p : Nat} (hp : p < P) : G p (e_sec S (e_N S P G) p P) = e_N S P G p := by
  have := e_nf_st (G := G) h P p hp (by omega) (P + 1) (by omega)
  rw [e_nf] at this
  exact this
/-- the net of a person, his second given (h 0) -/
def e_gn (S : Nat → Nat → Int32) (P : Nat) (fl : Int32) (val : (Nat → Int64) → Int64) (p : Nat) (s : Int32) : Int32 := e_net fl val (e_all S p).toInt64 s.toInt64 (e_o S p).toInt64 (e_wf S p P).toInt64 0
theorem e_fn33 {n P D : Nat} {S : Nat → Nat → Int32} {tl : Nat → Nat} {tx : Nat → Nat → Int32} {fl : Int32} {val : (Nat → Int64) → Int64} {ρ : Nat → Nat} {q23 : Int32 → m_M → Option m_M} {Q : m_M → Prop} {t : Nat} (hn : 200 < n) (hP : P ≤ 10) (hh : e_hd S P) (hρ : e_rk S P ρ) (hY : k_YR (tl 0) (tx 0) fl val) (ht : t < P) (hq : ∀ M1, e_G S D P tl tx M1 → (∀ p, p < P → P ≤ ρ p + (t + 1) → M1.1 195 p = e_N S P (e_gn S P fl val) p) → q_T (q23 (nI (t + 1)) M1) Q) : ∀ (d k u : Nat) (M : m_M), k + d = P → d < u → e_G S D P tl tx M → (∀ p, p < P → P ≤ ρ p + t ∨ p < k ∧ P ≤ ρ p + (t + 1) → M.1 195 p = e_N S P (e_gn S P fl val) p) → q_T (f_X8_findNets_b33 n q23 u (nI t) (nI k) M) Q := by
  intro d
  induction d with
  | zero =>
    intro k u M hk hu hG hN
    obtain ⟨u, rfl⟩ : ∃ v, u = v + 1 := ⟨u - 1, by omega⟩
    rw [f_X8_findNets_b33]
    refine q_bd ?_
    unfold f_X8_persons
    rw [hG.2.1]
    refine q_it ((q_le (by omega) (by omega)).mpr (by omega)) ?_
    rw [q_up]
    exact hq M hG (fun p hp hr => hN p hp (Or.inr ⟨by omega, hr⟩))
  | succ d ih =>
    intro k u M hk hu hG hN
    obtain ⟨u, rfl⟩ : ∃ v, u = v + 1 := ⟨u - 1, by omega⟩
    rw [f_X8_findNets_b33]
    refine q_bd ?_
    unfold f_X8_persons
    rw [hG.2.1]
    refine q_if (fun q => absurd ((q_le (by omega) (by omega)).mp q) (by omega)) ?_
    have hnet := e_netQ (n := n) (l := 0) hn hG hP (show k < P by omega) (by omega) hh hY (F := fun k => M.1 195 k) (fun _ _ => rfl) 0 0
    refine q_o2 (q_mono (q_TH hnet (g_X8_netOf n _ _ _ _ M)) (fun a ha => ?_))
    obtain ⟨a1, g⟩ := ha
    refine q_gd (q_in (by omega) (by decide)) (q_bd ?_)
    rw [q_cl (by omega), q_up]
    have gI : ∀ i j, i ≠ 172 → i ≠ 193 → a.2.1 i j = M.1 i j := fun i j h1 h2 => g.1 i j (by unfold w_60; omega)
    refine ih (k + 1) u _ (by omega) (by omega) (e_G_fr hG (fun i j hij => by rw [q_r, if_neg (by omega)]; exact gI i j (by omega) (by omega))) (fun p hp hr => ?_)
    rw [q_r]
    by_cases e : p = k
    · rw [if_pos ⟨rfl, e⟩, a1, ← e, Int32.add_zero]
      have : e_sec S (fun k => M.1 195 k) p P = e_sec S (e_N S P (e_gn S P fl val)) p P := by
        refine e_sec_cg P (fun c hc ec => hN c hc (Or.inl ?_))
        have := hρ.2 c p hc hp ec
        omega
      rw [this]
      exact e_N_fix (G := e_gn S P fl val) hρ hp
    · rw [if_neg (fun q => e q.2), gI _ _ (by omega) (by omega)]
      exact hN p hp (by omega)
theorem e_fn23 {n P D : Nat} {S : Nat → Nat → Int32} {tl : Nat → Nat} {tx : Nat → Nat → Int32} {fl : Int32} {val : (Nat → Int64) → Int64} {ρ : Nat → Nat} (hn : 200 < n) (hP : P ≤ 10) (hh : e_hd S P) (hρ : e_rk S P ρ) (hY : k_YR (tl 0) (tx 0) fl val) : ∀ (d t u : Nat) (M : m_M), t + d = P → d < u → e_G S D P tl tx M → (∀ p, p < P → P ≤ ρ p + t → M.1 195 p = e_N S P (e_gn S P fl val) p) → q_T (f_X8_findNets_b23 n u (nI t) M) (fun M' => ∀ p, p < P → M'.1 195 p = e_N S P (e_gn S P fl val) p) := by
  intro d
  induction d with
  | zero =>
    intro t u M ht hu hG hN
    obtain ⟨u, rfl⟩ : ∃ v, u = v + 1 := ⟨u - 1, by omega⟩
    rw [f_X8_findNets_b23]
    refine q_bd ?_
    unfold f_X8_persons
    rw [hG.2.1]
    exact q_it ((q_le (by omega) (by omega)).mpr (by omega)) (q_some (fun p hp => hN p hp (by omega)))
  | succ d ih =>
    intro t u M ht hu hG hN
    obtain ⟨u, rfl⟩ : ∃ v, u = v + 1 := ⟨u - 1, by omega⟩
    rw [f_X8_findNets_b23]
    refine q_bd ?_
    unfold f_X8_persons
    rw [hG.2.1]
    refine q_if (fun q => absurd ((q_le (by omega) (by omega)).mp q) (by omega)) ?_
    exact e_fn33 hn hP hh hρ hY (show t < P by omega) (fun M1 h1 h2 => ih (t + 1) u M1 (by omega) (by omega) h1 h2) P 0 n M (by omega) (by omega) hG (fun p hp hr => hN p hp (by omega))
theorem e_findNets {n P D : Nat} {S : Nat → Nat → Int32} {tl : Nat → Nat} {tx : Nat → Nat → Int32} {fl : Int32} {val : (Nat → Int64) → Int64} {M : m_M} (hn : 200 < n) (hP : P ≤ 10) (hA : e_ac S P) (hY : k_YR (tl 0) (tx 0) fl val) (hG : e_G S D P tl tx M) : q_T (f_X8_findNets n M) (fun M' => ∀ p, p < P → M'.1 195 p = e_N S P (e_gn S P fl val) p) := by
  obtain ⟨hh, ρ, hρ⟩ := hA
  have lp : ∀ (d x u : Nat) (M : m_M), x + d = 10 → d < u → e_G S D P tl tx M → q_T (f_X8_findNets_b2 n u (nI x) M) (fun M' => ∀ p, p < P → M'.1 195 p = e_N S P (e_gn S P fl val) p) := by
    intro d
    induction d with
    | zero =>
      intro x u M hx hu hG
      obtain ⟨u, rfl⟩ : ∃ v, u = v + 1 := ⟨u - 1, by omega⟩
      rw [f_X8_findNets_b2]
      exact q_it ((q_le10 (by omega)).mpr (by omega)) (e_fn23 hn hP hh hρ hY P 0 n M (by omega) (by omega) hG (fun p hp hr => by have := hρ.1 p hp; omega))
    | succ d ih =>
      intro x u M hx hu hG
      obtain ⟨u, rfl⟩ : ∃ v, u = v + 1 := ⟨u - 1, by omega⟩
      rw [f_X8_findNets_b2]
      refine q_if (fun h => absurd ((q_le10 (by omega)).mp h) (by omega)) (q_gd (q_in (by omega) (by decide)) (q_bd ?_))
      rw [q_cl (by omega), q_up]
      exact ih (x + 1) u _ (by omega) (by omega) (e_G_fr hG (fun i j hij => by rw [q_r, if_neg (by omega)]))
  exact lp 10 0 n M (by omega) (by omega) hG
