/-! FRAMES: what each function leaves as it was -/
def q_H {α : Type} (o : Option α) (P : α → Prop) : Prop := ∀ a, o = some a → P a
def g_fr (W V : Nat → Nat → Prop) (M M' : m_M) : Prop := (∀ i j, ¬ W i j → M'.1 i j = M.1 i j) ∧ (∀ i j, ¬ V i j → M'.2 i j = M.2 i j)
theorem g_lt {x : Int32} {n : Nat} (h : m_in x n) : x.toNatClampNeg < n := by
  have := not_or.mp h
  omega
theorem g_id {W : Nat → Nat → Prop} (i j : Nat) (h : W i j) : W i j := h
theorem g_rf {W V : Nat → Nat → Prop} {M : m_M} : g_fr W V M M := ⟨fun _ _ _ => rfl, fun _ _ _ => rfl⟩
theorem g_sI {W V : Nat → Nat → Prop} {M0 Mx : m_M} {k j : Nat} {x : Int32} (h : g_fr W V M0 Mx) (hw : W k j) : g_fr W V M0 (m_sI Mx k j x) := ⟨fun i' j' q => by
  rw [← h.1 i' j' q]
  unfold m_sI va_up upd
  by_cases e : i' = k
  · subst e
    by_cases e2 : j' = j
    · subst e2
      exact absurd hw q
    · simp [e2]
  · simp [e], h.2⟩
theorem g_sL {W V : Nat → Nat → Prop} {M0 Mx : m_M} {k j : Nat} {x : Int64} (h : g_fr W V M0 Mx) (hw : V k j) : g_fr W V M0 (m_sL Mx k j x) := ⟨h.1, fun i' j' q => by
  rw [← h.2 i' j' q]
  unfold m_sL va_up vp_updL
  by_cases e : i' = k
  · subst e
    by_cases e2 : j' = j
    · subst e2
      exact absurd hw q
    · simp [e2]
  · simp [e]⟩
theorem g_sC {W V : Nat → Nat → Prop} {M0 Mx : m_M} {k : Nat} {x : Nat → Int32} (h : g_fr W V M0 Mx) (hw : ∀ j, W k j) : g_fr W V M0 (m_sC Mx k x) := ⟨fun i' j' q => by
  rw [← h.1 i' j' q]
  unfold m_sC va_up
  by_cases e : i' = k
  · subst e
    exact absurd (hw j') q
  · simp [e], h.2⟩
theorem g_mn {W V W' V' : Nat → Nat → Prop} {M0 Mx My : m_M} (h : g_fr W V M0 Mx) (hc : g_fr W' V' Mx My) (hs : ∀ i j, W' i j → W i j) (hs2 : ∀ i j, V' i j → V i j) : g_fr W V M0 My := ⟨fun i j q => (hc.1 i j (fun e => q (hs i j e))).trans (h.1 i j q), fun i j q => (hc.2 i j (fun e => q (hs2 i j e))).trans (h.2 i j q)⟩
theorem g_bI {β : Type} {W V : Nat → Nat → Prop} {M0 Mx : m_M} {k j : Nat} {x : Int32} {f : m_M → Option β} {P : β → Prop} (h : g_fr W V M0 Mx) (hw : W k j) (hf : ∀ My, g_fr W V M0 My → q_H (f My) P) : q_H (m_bd (m_sI Mx k j x) f) P := hf _ (g_sI h hw)
theorem g_bL {β : Type} {W V : Nat → Nat → Prop} {M0 Mx : m_M} {k j : Nat} {x : Int64} {f : m_M → Option β} {P : β → Prop} (h : g_fr W V M0 Mx) (hw : V k j) (hf : ∀ My, g_fr W V M0 My → q_H (f My) P) : q_H (m_bd (m_sL Mx k j x) f) P := hf _ (g_sL h hw)
theorem g_bC {β : Type} {W V : Nat → Nat → Prop} {M0 Mx : m_M} {k : Nat} {x : Nat → Int32} {f : m_M → Option β} {P : β → Prop} (h : g_fr W V M0 Mx) (hw : ∀ j, W k j) (hf : ∀ My, g_fr W V M0 My → q_H (f My) P) : q_H (m_bd (m_sC Mx k x) f) P := hf _ (g_sC h hw)
theorem g_bv {α β : Type} {e : α} {f : α → Option β} {P : β → Prop} (hf : ∀ v, q_H (f v) P) : q_H (m_bd e f) P := hf e
theorem g_bT {β : Type} {W V W' V' : Nat → Nat → Prop} {M0 Mx My : m_M} {f : m_M → Option β} {P : β → Prop} (hc : g_fr W' V' Mx My) (hs : ∀ i j, W' i j → W i j) (hs2 : ∀ i j, V' i j → V i j) (h : g_fr W V M0 Mx) (hf : ∀ My, g_fr W V M0 My → q_H (f My) P) : q_H (m_bd My f) P := hf _ (g_mn h hc hs hs2)
theorem g_ov {α β : Type} {o : Option α} {f : α → Option β} {P : β → Prop} (hf : ∀ v, q_H (f v) P) : q_H (m_ob o f) P := fun a h => by
  obtain ⟨v, _, h2⟩ := m_ob_e h
  exact hf v a h2
theorem g_oM {β : Type} {W V W' V' : Nat → Nat → Prop} {M0 Mx : m_M} {o : Option m_M} {f : m_M → Option β} {P : β → Prop} (hc : q_H o (fun a => g_fr W' V' Mx a)) (hs : ∀ i j, W' i j → W i j) (hs2 : ∀ i j, V' i j → V i j) (h : g_fr W V M0 Mx) (hf : ∀ My, g_fr W V M0 My → q_H (f My) P) : q_H (m_ob o f) P := fun a h' => by
  obtain ⟨v, h1, h2⟩ := m_ob_e h'
  exact hf v (g_mn h (hc v h1) hs hs2) a h2
theorem g_o2 {γ β : Type} {W V W' V' : Nat → Nat → Prop} {M0 Mx : m_M} {o : Option (γ × m_M)} {f : γ → m_M → Option β} {P : β → Prop} (hc : q_H o (fun a => g_fr W' V' Mx a.2)) (hs : ∀ i j, W' i j → W i j) (hs2 : ∀ i j, V' i j → V i j) (h : g_fr W V M0 Mx) (hf : ∀ r My, g_fr W V M0 My → q_H (f r My) P) : q_H (m_o2 o f) P := fun a h' => by
  obtain ⟨v, w, h1, h2⟩ := m_o2_e h'
  exact hf v w (g_mn h (hc (v, w) h1) hs hs2) a h2
theorem g_gd {α : Type} {c : Prop} [Decidable c] {x : Option α} {P : α → Prop} (hf : c → q_H x P) : q_H (m_gd c x) P := fun a h => by
  obtain ⟨h1, h2⟩ := m_gd_e h
  exact hf h1 a h2
theorem g_if {α : Type} {c : Prop} [Decidable c] {x y : Option α} {P : α → Prop} (h1 : c → q_H x P) (h2 : ¬ c → q_H y P) : q_H (if c then x else y) P := fun a h => by
  by_cases hc : c
  · rw [if_pos hc] at h
    exact h1 hc a h
  · rw [if_neg hc] at h
    exact h2 hc a h
theorem g_sm {W V : Nat → Nat → Prop} {M0 Mx : m_M} (h : g_fr W V M0 Mx) : q_H (some Mx) (fun a => g_fr W V M0 a) := fun a e => by
  cases e
  exact h
theorem g_sp {γ : Type} {r : γ} {W V : Nat → Nat → Prop} {M0 Mx : m_M} (h : g_fr W V M0 Mx) : q_H (some (r, Mx)) (fun a => g_fr W V M0 a.2) := fun a e => by
  cases e
  exact h
theorem g_tM {W V W' V' : Nat → Nat → Prop} {M0 Mx : m_M} {o : Option m_M} (hc : q_H o (fun a => g_fr W' V' Mx a)) (hs : ∀ i j, W' i j → W i j) (hs2 : ∀ i j, V' i j → V i j) (h : g_fr W V M0 Mx) : q_H o (fun a => g_fr W V M0 a) := fun a e => g_mn h (hc a e) hs hs2
theorem g_tP {γ : Type} {W V W' V' : Nat → Nat → Prop} {M0 Mx : m_M} {o : Option (γ × m_M)} (hc : q_H o (fun a => g_fr W' V' Mx a.2)) (hs : ∀ i j, W' i j → W i j) (hs2 : ∀ i j, V' i j → V i j) (h : g_fr W V M0 Mx) : q_H o (fun a => g_fr W V M0 a.2) := fun a e => g_mn h (hc a e) hs hs2
def w_0 (k0 : Nat) (i j : Nat) : Prop := (i = k0 ∧ j = 0) ∨ (i = k0 ∧ j = 1) ∨ (i = k0 ∧ j = 2) ∨ (i = k0 ∧ j = 3) ∨ (i = k0 ∧ j = 4) ∨ (i = k0 ∧ j = 5) ∨ (i = k0 ∧ j = 6) ∨ (i = k0 ∧ j = 7) ∨ (i = k0 ∧ j = 8) ∨ (i = k0 ∧ j = 9) ∨ i < i
def w_1 (i j : Nat) : Prop := i < i
def w_2 (k0 : Nat) (i j : Nat) : Prop := (i = k0 ∧ j = 6) ∨ i < i
def w_3 (k0 : Nat) (i j : Nat) : Prop := (i = k0 ∧ j = 7) ∨ i < i
def w_4 (k0 : Nat) (i j : Nat) : Prop := (i = k0 ∧ j = 5) ∨ (i = k0 + 2) ∨ i < i
def w_5 (k0 : Nat) (i j : Nat) : Prop := (i = k0 + 3) ∨ i < i
def w_6 (k0 : Nat) (i j : Nat) : Prop := (i = k0 ∧ j = 5) ∨ (i = k0 ∧ j = 6) ∨ (i = k0 ∧ j = 7) ∨ (i = k0 + 2) ∨ i < i
def w_7 (k0 : Nat) (i j : Nat) : Prop := (i = k0 ∧ j = 0) ∨ (i = k0 ∧ j = 1) ∨ (i = k0 ∧ j = 2) ∨ (i = k0 ∧ j = 3) ∨ (i = k0 ∧ j = 4) ∨ (i = k0 ∧ j = 5) ∨ (i = k0 ∧ j = 6) ∨ (i = k0 + 1) ∨ (i = k0 + 2) ∨ (i = k0 + 3) ∨ (i = k0 + 4) ∨ i < i
def w_8 (k1 : Nat) (i j : Nat) : Prop := (i = k1 ∧ j = 3) ∨ (i = k1 ∧ j = 4) ∨ (i = k1 ∧ j = 5) ∨ (i = k1 ∧ j = 7) ∨ i < i
def w_9 (k0 : Nat) (i j : Nat) : Prop := (i = k0 ∧ j = 0) ∨ (i = k0 ∧ j = 1) ∨ (i = k0 ∧ j = 2) ∨ (i = k0 ∧ j = 3) ∨ i < i
def w_10 (k0 : Nat) (i j : Nat) : Prop := (i = k0 ∧ j = 0) ∨ (i = k0 ∧ j = 1) ∨ i < i
def w_11 (k1 : Nat) (i j : Nat) : Prop := (i = k1 ∧ j = 0) ∨ (i = k1 ∧ j = 1) ∨ (i = k1 ∧ j = 4) ∨ (i = k1 + 1) ∨ (i = k1 + 2) ∨ (i = k1 + 3) ∨ (i = k1 + 4) ∨ i < i
def w_12 (i j : Nat) : Prop := (i = 45 ∧ j = 4) ∨ (49 ≤ i ∧ i ≤ 94 ∧ (i - 49) % 5 = 0 ∧ j = 0) ∨ (49 ≤ i ∧ i ≤ 94 ∧ (i - 49) % 5 = 0 ∧ j = 1) ∨ (49 ≤ i ∧ i ≤ 94 ∧ (i - 49) % 5 = 0 ∧ j = 2) ∨ (49 ≤ i ∧ i ≤ 94 ∧ (i - 49) % 5 = 0 ∧ j = 3) ∨ (49 ≤ i ∧ i ≤ 94 ∧ (i - 49) % 5 = 0 ∧ j = 4) ∨ (50 ≤ i ∧ i ≤ 95 ∧ (i - 50) % 5 = 0) ∨ (51 ≤ i ∧ i ≤ 96 ∧ (i - 51) % 5 = 0) ∨ (52 ≤ i ∧ i ≤ 97 ∧ (i - 52) % 5 = 0) ∨ (53 ≤ i ∧ i ≤ 98 ∧ (i - 53) % 5 = 0) ∨ (99 ≤ i ∧ i ≤ 158 ∧ j = 0) ∨ (99 ≤ i ∧ i ≤ 158 ∧ j = 1) ∨ (99 ≤ i ∧ i ≤ 158 ∧ j = 2) ∨ (99 ≤ i ∧ i ≤ 158 ∧ j = 3) ∨ (99 ≤ i ∧ i ≤ 158 ∧ j = 4) ∨ (99 ≤ i ∧ i ≤ 158 ∧ j = 5) ∨ (99 ≤ i ∧ i ≤ 158 ∧ j = 6) ∨ (99 ≤ i ∧ i ≤ 158 ∧ j = 7) ∨ (99 ≤ i ∧ i ≤ 158 ∧ j = 8) ∨ (99 ≤ i ∧ i ≤ 158 ∧ j = 9) ∨ i < i
def w_13 (i j : Nat) : Prop := (i = 45 ∧ j = 4) ∨ (i = 45 ∧ j = 5) ∨ (49 ≤ i ∧ i ≤ 94 ∧ (i - 49) % 5 = 0 ∧ j = 0) ∨ (49 ≤ i ∧ i ≤ 94 ∧ (i - 49) % 5 = 0 ∧ j = 1) ∨ (49 ≤ i ∧ i ≤ 94 ∧ (i - 49) % 5 = 0 ∧ j = 2) ∨ (49 ≤ i ∧ i ≤ 94 ∧ (i - 49) % 5 = 0 ∧ j = 3) ∨ (49 ≤ i ∧ i ≤ 94 ∧ (i - 49) % 5 = 0 ∧ j = 4) ∨ (49 ≤ i ∧ i ≤ 94 ∧ (i - 49) % 5 = 0 ∧ j = 5) ∨ (49 ≤ i ∧ i ≤ 94 ∧ (i - 49) % 5 = 0 ∧ j = 6) ∨ (50 ≤ i ∧ i ≤ 95 ∧ (i - 50) % 5 = 0) ∨ (51 ≤ i ∧ i ≤ 96 ∧ (i - 51) % 5 = 0) ∨ (52 ≤ i ∧ i ≤ 97 ∧ (i - 52) % 5 = 0) ∨ (53 ≤ i ∧ i ≤ 98 ∧ (i - 53) % 5 = 0) ∨ (99 ≤ i ∧ i ≤ 158 ∧ j = 0) ∨ (99 ≤ i ∧ i ≤ 158 ∧ j = 1) ∨ (99 ≤ i ∧ i ≤ 158 ∧ j = 2) ∨ (99 ≤ i ∧ i ≤ 158 ∧ j = 3) ∨ (99 ≤ i ∧ i ≤ 158 ∧ j = 4) ∨ (99 ≤ i ∧ i ≤ 158 ∧ j = 5) ∨ (99 ≤ i ∧ i ≤ 158 ∧ j = 6) ∨ (99 ≤ i ∧ i ≤ 158 ∧ j = 7) ∨ (99 ≤ i ∧ i ≤ 158 ∧ j = 8) ∨ (99 ≤ i ∧ i ≤ 158 ∧ j = 9) ∨ i < i
def w_14 (k0 : Nat) (i j : Nat) : Prop := (i = k0 + 4) ∨ i < i
def w_15 (i j : Nat) : Prop := (9 ≤ i ∧ i ≤ 14 ∧ (i - 9) % 5 = 0) ∨ (i = 48 ∧ j = 0) ∨ (i = 48 ∧ j = 1) ∨ (i = 48 ∧ j = 2) ∨ (i = 48 ∧ j = 3) ∨ (i = 48 ∧ j = 4) ∨ i < i
def w_16 (i j : Nat) : Prop := (49 ≤ i ∧ i ≤ 94 ∧ (i - 49) % 5 = 0 ∧ j = 5) ∨ (49 ≤ i ∧ i ≤ 94 ∧ (i - 49) % 5 = 0 ∧ j = 6) ∨ i < i
def w_17 (i j : Nat) : Prop := (i = 0 ∧ j = 8) ∨ (i = 0 ∧ j = 9) ∨ i < i
def w_18 (i j : Nat) : Prop := (i = 0 ∧ j = 8) ∨ (i = 0 ∧ j = 9) ∨ (9 ≤ i ∧ i ≤ 14 ∧ (i - 9) % 5 = 0) ∨ (i = 48 ∧ j = 0) ∨ (i = 48 ∧ j = 1) ∨ (i = 48 ∧ j = 2) ∨ (i = 48 ∧ j = 3) ∨ (i = 48 ∧ j = 4) ∨ i < i
def w_19 (i j : Nat) : Prop := (9 ≤ i ∧ i ≤ 14 ∧ (i - 9) % 5 = 0) ∨ (i = 48 ∧ j = 0) ∨ (i = 48 ∧ j = 1) ∨ (i = 48 ∧ j = 2) ∨ (i = 48 ∧ j = 3) ∨ (i = 48 ∧ j = 4) ∨ (170 ≤ i ∧ i ≤ 171) ∨ i < i
def w_20 (k0 : Nat) (i j : Nat) : Prop := (i = k0 ∧ j = 1) ∨ (i = k0 ∧ j = 2) ∨ (i = k0 + 1) ∨ i < i
def w_21 (i j : Nat) : Prop := (i = 1 ∧ j = 1) ∨ (i = 1 ∧ j = 2) ∨ (i = 2) ∨ (i = 45 ∧ j = 4) ∨ (i = 45 ∧ j = 5) ∨ (49 ≤ i ∧ i ≤ 94 ∧ (i - 49) % 5 = 0 ∧ j = 0) ∨ (49 ≤ i ∧ i ≤ 94 ∧ (i - 49) % 5 = 0 ∧ j = 1) ∨ (49 ≤ i ∧ i ≤ 94 ∧ (i - 49) % 5 = 0 ∧ j = 2) ∨ (49 ≤ i ∧ i ≤ 94 ∧ (i - 49) % 5 = 0 ∧ j = 3) ∨ (49 ≤ i ∧ i ≤ 94 ∧ (i - 49) % 5 = 0 ∧ j = 4) ∨ (49 ≤ i ∧ i ≤ 94 ∧ (i - 49) % 5 = 0 ∧ j = 5) ∨ (49 ≤ i ∧ i ≤ 94 ∧ (i - 49) % 5 = 0 ∧ j = 6) ∨ (50 ≤ i ∧ i ≤ 95 ∧ (i - 50) % 5 = 0) ∨ (51 ≤ i ∧ i ≤ 96 ∧ (i - 51) % 5 = 0) ∨ (52 ≤ i ∧ i ≤ 97 ∧ (i - 52) % 5 = 0) ∨ (53 ≤ i ∧ i ≤ 98 ∧ (i - 53) % 5 = 0) ∨ (99 ≤ i ∧ i ≤ 158 ∧ j = 0) ∨ (99 ≤ i ∧ i ≤ 158 ∧ j = 1) ∨ (99 ≤ i ∧ i ≤ 158 ∧ j = 2) ∨ (99 ≤ i ∧ i ≤ 158 ∧ j = 3) ∨ (99 ≤ i ∧ i ≤ 158 ∧ j = 4) ∨ (99 ≤ i ∧ i ≤ 158 ∧ j = 5) ∨ (99 ≤ i ∧ i ≤ 158 ∧ j = 6) ∨ (99 ≤ i ∧ i ≤ 158 ∧ j = 7) ∨ (99 ≤ i ∧ i ≤ 158 ∧ j = 8) ∨ (99 ≤ i ∧ i ≤ 158 ∧ j = 9) ∨ i < i
def w_22 (i j : Nat) : Prop := (i = 168 ∧ j = 1) ∨ i < i
def w_23 (k0 : Nat) (i j : Nat) : Prop := (i = k0 ∧ j = 3) ∨ (i = k0 + 1) ∨ i < i
def w_24 (i j : Nat) : Prop := (i = 1 ∧ j = 3) ∨ (i = 2) ∨ i < i
def w_25 (k0 : Nat) (i j : Nat) : Prop := (i = k0 ∧ j = 1) ∨ (i = k0 ∧ j = 5) ∨ (i = k0 ∧ j = 6) ∨ (i = k0 ∧ j = 7) ∨ (i = k0 + 2) ∨ i < i
def w_26 (i j : Nat) : Prop := (5 ≤ i ∧ i ≤ 10 ∧ (i - 5) % 5 = 0 ∧ j = 1) ∨ (5 ≤ i ∧ i ≤ 10 ∧ (i - 5) % 5 = 0 ∧ j = 5) ∨ (5 ≤ i ∧ i ≤ 10 ∧ (i - 5) % 5 = 0 ∧ j = 6) ∨ (5 ≤ i ∧ i ≤ 10 ∧ (i - 5) % 5 = 0 ∧ j = 7) ∨ (7 ≤ i ∧ i ≤ 12 ∧ (i - 7) % 5 = 0) ∨ i < i
def w_27 (i j : Nat) : Prop := (8 ≤ i ∧ i ≤ 13 ∧ (i - 8) % 5 = 0) ∨ i < i
def w_28 (k0 : Nat) (i j : Nat) : Prop := (i = k0 ∧ j = 1) ∨ (i = k0 ∧ j = 5) ∨ (i = k0 ∧ j = 6) ∨ (i = k0 ∧ j = 7) ∨ (i = k0 + 1) ∨ (i = k0 + 2) ∨ i < i
def w_29 (k0 : Nat) (i j : Nat) : Prop := (i = k0 ∧ j = 0) ∨ (i = k0 ∧ j = 1) ∨ (i = k0 ∧ j = 2) ∨ (i = k0 ∧ j = 3) ∨ (i = k0 ∧ j = 4) ∨ (i = k0 + 1) ∨ (i = k0 + 2) ∨ (k0 + 4 ≤ i ∧ i ≤ k0 + 9 ∧ (i - (k0 + 4)) % 5 = 0 ∧ j = 1) ∨ (k0 + 4 ≤ i ∧ i ≤ k0 + 9 ∧ (i - (k0 + 4)) % 5 = 0 ∧ j = 5) ∨ (k0 + 4 ≤ i ∧ i ≤ k0 + 9 ∧ (i - (k0 + 4)) % 5 = 0 ∧ j = 6) ∨ (k0 + 4 ≤ i ∧ i ≤ k0 + 9 ∧ (i - (k0 + 4)) % 5 = 0 ∧ j = 7) ∨ (k0 + 5 ≤ i ∧ i ≤ k0 + 10 ∧ (i - (k0 + 5)) % 5 = 0) ∨ (k0 + 6 ≤ i ∧ i ≤ k0 + 11 ∧ (i - (k0 + 6)) % 5 = 0) ∨ i < i
def w_30 (k0 : Nat) (i j : Nat) : Prop := (k0 + 7 ≤ i ∧ i ≤ k0 + 12 ∧ (i - (k0 + 7)) % 5 = 0) ∨ i < i
def w_31 (i j : Nat) : Prop := (i = 1 ∧ j = 0) ∨ (i = 1 ∧ j = 1) ∨ (i = 1 ∧ j = 2) ∨ (i = 1 ∧ j = 3) ∨ (i = 1 ∧ j = 4) ∨ (2 ≤ i ∧ i ≤ 3) ∨ (5 ≤ i ∧ i ≤ 10 ∧ (i - 5) % 5 = 0 ∧ j = 1) ∨ (5 ≤ i ∧ i ≤ 10 ∧ (i - 5) % 5 = 0 ∧ j = 5) ∨ (5 ≤ i ∧ i ≤ 10 ∧ (i - 5) % 5 = 0 ∧ j = 6) ∨ (5 ≤ i ∧ i ≤ 10 ∧ (i - 5) % 5 = 0 ∧ j = 7) ∨ (6 ≤ i ∧ i ≤ 11 ∧ (i - 6) % 5 = 0) ∨ (7 ≤ i ∧ i ≤ 12 ∧ (i - 7) % 5 = 0) ∨ i < i
def w_32 (i j : Nat) : Prop := (16 ≤ i ∧ i ≤ 30 ∧ (i - 16) % 14 = 0 ∧ j = 0) ∨ (16 ≤ i ∧ i ≤ 30 ∧ (i - 16) % 14 = 0 ∧ j = 1) ∨ (16 ≤ i ∧ i ≤ 30 ∧ (i - 16) % 14 = 0 ∧ j = 2) ∨ (16 ≤ i ∧ i ≤ 30 ∧ (i - 16) % 14 = 0 ∧ j = 3) ∨ (16 ≤ i ∧ i ≤ 30 ∧ (i - 16) % 14 = 0 ∧ j = 4) ∨ (17 ≤ i ∧ i ≤ 31 ∧ (i - 17) % 14 = 0) ∨ (18 ≤ i ∧ i ≤ 32 ∧ (i - 18) % 14 = 0) ∨ (20 ≤ i ∧ i ≤ 39 ∧ j = 1) ∨ (20 ≤ i ∧ i ≤ 39 ∧ j = 5) ∨ (20 ≤ i ∧ i ≤ 39 ∧ j = 6) ∨ (20 ≤ i ∧ i ≤ 39 ∧ j = 7) ∨ (21 ≤ i ∧ i ≤ 41) ∨ (i = 44) ∨ i < i
def w_33 (i j : Nat) : Prop := (23 ≤ i ∧ i ≤ 42) ∨ i < i
def w_34 (i j : Nat) : Prop := (i = 1 ∧ j = 4) ∨ (i = 3) ∨ i < i
def w_35 (i j : Nat) : Prop := (160 ≤ i ∧ i ≤ 167) ∨ i < i
def w_36 (i j : Nat) : Prop := (i = 159 ∧ j = 0) ∨ (160 ≤ i ∧ i ≤ 167) ∨ i < i
def w_37 (i j : Nat) : Prop := (i = 45 ∧ j = 4) ∨ (i = 45 ∧ j = 5) ∨ (49 ≤ i ∧ i ≤ 94 ∧ (i - 49) % 5 = 0 ∧ j = 0) ∨ (49 ≤ i ∧ i ≤ 94 ∧ (i - 49) % 5 = 0 ∧ j = 1) ∨ (49 ≤ i ∧ i ≤ 94 ∧ (i - 49) % 5 = 0 ∧ j = 2) ∨ (49 ≤ i ∧ i ≤ 94 ∧ (i - 49) % 5 = 0 ∧ j = 3) ∨ (49 ≤ i ∧ i ≤ 94 ∧ (i - 49) % 5 = 0 ∧ j = 4) ∨ (49 ≤ i ∧ i ≤ 94 ∧ (i - 49) % 5 = 0 ∧ j = 5) ∨ (49 ≤ i ∧ i ≤ 94 ∧ (i - 49) % 5 = 0 ∧ j = 6) ∨ (50 ≤ i ∧ i ≤ 95 ∧ (i - 50) % 5 = 0) ∨ (51 ≤ i ∧ i ≤ 96 ∧ (i - 51) % 5 = 0) ∨ (52 ≤ i ∧ i ≤ 97 ∧ (i - 52) % 5 = 0) ∨ (53 ≤ i ∧ i ≤ 98 ∧ (i - 53) % 5 = 0) ∨ (99 ≤ i ∧ i ≤ 158 ∧ j = 0) ∨ (99 ≤ i ∧ i ≤ 158 ∧ j = 1) ∨ (99 ≤ i ∧ i ≤ 158 ∧ j = 2) ∨ (99 ≤ i ∧ i ≤ 158 ∧ j = 3) ∨ (99 ≤ i ∧ i ≤ 158 ∧ j = 4) ∨ (99 ≤ i ∧ i ≤ 158 ∧ j = 5) ∨ (99 ≤ i ∧ i ≤ 158 ∧ j = 6) ∨ (99 ≤ i ∧ i ≤ 158 ∧ j = 7) ∨ (99 ≤ i ∧ i ≤ 158 ∧ j = 8) ∨ (99 ≤ i ∧ i ≤ 158 ∧ j = 9) ∨ (i = 159 ∧ j = 0) ∨ (160 ≤ i ∧ i ≤ 167) ∨ i < i
def w_38 (i j : Nat) : Prop := (i = 159 ∧ j = 9) ∨ (i = 159 ∧ j = 10) ∨ i < i
def w_39 (i j : Nat) : Prop := (9 ≤ i ∧ i ≤ 14 ∧ (i - 9) % 5 = 0) ∨ (i = 48 ∧ j = 0) ∨ (i = 48 ∧ j = 1) ∨ (i = 48 ∧ j = 2) ∨ (i = 48 ∧ j = 3) ∨ (i = 48 ∧ j = 4) ∨ (i = 159 ∧ j = 9) ∨ (i = 159 ∧ j = 10) ∨ i < i
def w_40 (i j : Nat) : Prop := (i = 1 ∧ j = 0) ∨ i < i
def w_41 (i j : Nat) : Prop := (i = 168 ∧ j = 2) ∨ (i = 168 ∧ j = 3) ∨ i < i
def w_42 (i j : Nat) : Prop := (i = 168 ∧ j = 2) ∨ i < i
def w_43 (i j : Nat) : Prop := (i = 168 ∧ j = 3) ∨ i < i
def w_44 (i j : Nat) : Prop := (i = 168 ∧ j = 2) ∨ (i = 168 ∧ j = 3) ∨ (i = 168 ∧ j = 4) ∨ (i = 168 ∧ j = 5) ∨ (i = 168 ∧ j = 6) ∨ (i = 168 ∧ j = 7) ∨ (i = 168 ∧ j = 8) ∨ i < i
def w_45 (i j : Nat) : Prop := (i = 1 ∧ j = 1) ∨ (i = 1 ∧ j = 2) ∨ (i = 2) ∨ (i = 45 ∧ j = 4) ∨ (i = 45 ∧ j = 5) ∨ (49 ≤ i ∧ i ≤ 94 ∧ (i - 49) % 5 = 0 ∧ j = 0) ∨ (49 ≤ i ∧ i ≤ 94 ∧ (i - 49) % 5 = 0 ∧ j = 1) ∨ (49 ≤ i ∧ i ≤ 94 ∧ (i - 49) % 5 = 0 ∧ j = 2) ∨ (49 ≤ i ∧ i ≤ 94 ∧ (i - 49) % 5 = 0 ∧ j = 3) ∨ (49 ≤ i ∧ i ≤ 94 ∧ (i - 49) % 5 = 0 ∧ j = 4) ∨ (49 ≤ i ∧ i ≤ 94 ∧ (i - 49) % 5 = 0 ∧ j = 5) ∨ (49 ≤ i ∧ i ≤ 94 ∧ (i - 49) % 5 = 0 ∧ j = 6) ∨ (50 ≤ i ∧ i ≤ 95 ∧ (i - 50) % 5 = 0) ∨ (51 ≤ i ∧ i ≤ 96 ∧ (i - 51) % 5 = 0) ∨ (52 ≤ i ∧ i ≤ 97 ∧ (i - 52) % 5 = 0) ∨ (53 ≤ i ∧ i ≤ 98 ∧ (i - 53) % 5 = 0) ∨ (99 ≤ i ∧ i ≤ 158 ∧ j = 0) ∨ (99 ≤ i ∧ i ≤ 158 ∧ j = 1) ∨ (99 ≤ i ∧ i ≤ 158 ∧ j = 2) ∨ (99 ≤ i ∧ i ≤ 158 ∧ j = 3) ∨ (99 ≤ i ∧ i ≤ 158 ∧ j = 4) ∨ (99 ≤ i ∧ i ≤ 158 ∧ j = 5) ∨ (99 ≤ i ∧ i ≤ 158 ∧ j = 6) ∨ (99 ≤ i ∧ i ≤ 158 ∧ j = 7) ∨ (99 ≤ i ∧ i ≤ 158 ∧ j = 8) ∨ (99 ≤ i ∧ i ≤ 158 ∧ j = 9) ∨ (i = 168 ∧ j = 1) ∨ (i = 168 ∧ j = 2) ∨ (i = 168 ∧ j = 3) ∨ (i = 168 ∧ j = 4) ∨ (i = 168 ∧ j = 5) ∨ (i = 168 ∧ j = 6) ∨ (i = 168 ∧ j = 7) ∨ (i = 168 ∧ j = 8) ∨ i < i
def w_46 (i j : Nat) : Prop := (i = 0 ∧ j = 8) ∨ (i = 0 ∧ j = 9) ∨ (9 ≤ i ∧ i ≤ 14 ∧ (i - 9) % 5 = 0) ∨ (i = 48 ∧ j = 0) ∨ (i = 48 ∧ j = 1) ∨ (i = 48 ∧ j = 2) ∨ (i = 48 ∧ j = 3) ∨ (i = 48 ∧ j = 4) ∨ (170 ≤ i ∧ i ≤ 171) ∨ i < i
def w_47 (i j : Nat) : Prop := (i = 168 ∧ j = 1) ∨ (i = 169) ∨ i < i
def w_48 (i j : Nat) : Prop := (i = 1 ∧ j = 4) ∨ i < i
def w_49 (i j : Nat) : Prop := (5 ≤ i ∧ i ≤ 10 ∧ (i - 5) % 5 = 0 ∧ j = 1) ∨ (5 ≤ i ∧ i ≤ 10 ∧ (i - 5) % 5 = 0 ∧ j = 5) ∨ (5 ≤ i ∧ i ≤ 10 ∧ (i - 5) % 5 = 0 ∧ j = 6) ∨ (5 ≤ i ∧ i ≤ 10 ∧ (i - 5) % 5 = 0 ∧ j = 7) ∨ (6 ≤ i ∧ i ≤ 11 ∧ (i - 6) % 5 = 0) ∨ (7 ≤ i ∧ i ≤ 12 ∧ (i - 7) % 5 = 0) ∨ i < i
def w_50 (i j : Nat) : Prop := (i = 172 ∧ j = 37) ∨ i < i
def w_51 (i j : Nat) : Prop := (i = 172 ∧ j = 23) ∨ (186 ≤ i ∧ i ≤ 191) ∨ i < i
def w_52 (i j : Nat) : Prop := (i = 172 ∧ j = 23) ∨ (177 ≤ i ∧ i ≤ 184) ∨ (186 ≤ i ∧ i ≤ 191) ∨ i < i
def w_53 (i j : Nat) : Prop := (i = 172 ∧ j = 22) ∨ (i = 172 ∧ j = 23) ∨ (i = 172 ∧ j = 25) ∨ (i = 172 ∧ j = 26) ∨ (177 ≤ i ∧ i ≤ 191) ∨ i < i
def w_54 (i j : Nat) : Prop := (i = 172 ∧ j = 22) ∨ (i = 172 ∧ j = 23) ∨ (i = 172 ∧ j = 24) ∨ (i = 172 ∧ j = 25) ∨ (i = 172 ∧ j = 26) ∨ (177 ≤ i ∧ i ≤ 191) ∨ i < i
def w_55 (i j : Nat) : Prop := (i = 172 ∧ j = 37) ∨ (i = 172 ∧ j = 38) ∨ i < i
def w_56 (i j : Nat) : Prop := (i = 172 ∧ j = 40) ∨ (i = 172 ∧ j = 42) ∨ i < i
def w_57 (i j : Nat) : Prop := (i = 192) ∨ i < i
def w_58 (i j : Nat) : Prop := (i = 172 ∧ j = 37) ∨ (i = 172 ∧ j = 38) ∨ (i = 172 ∧ j = 40) ∨ (i = 172 ∧ j = 42) ∨ (i = 193) ∨ i < i
def w_59 (i j : Nat) : Prop := (i = 172 ∧ j = 44) ∨ (i = 192) ∨ i < i
def w_60 (i j : Nat) : Prop := (i = 172 ∧ j = 36) ∨ (i = 172 ∧ j = 37) ∨ (i = 172 ∧ j = 38) ∨ (i = 172 ∧ j = 40) ∨ (i = 172 ∧ j = 42) ∨ (i = 193) ∨ i < i
def w_61 (i j : Nat) : Prop := (i = 172 ∧ j = 44) ∨ (i = 192) ∨ (i = 194 ∧ j = 0) ∨ (i = 194 ∧ j = 1) ∨ (i = 194 ∧ j = 2) ∨ (i = 194 ∧ j = 3) ∨ (i = 194 ∧ j = 4) ∨ i < i
def w_62 (i j : Nat) : Prop := (i = 172 ∧ j = 36) ∨ (i = 172 ∧ j = 37) ∨ (i = 172 ∧ j = 38) ∨ (i = 172 ∧ j = 40) ∨ (i = 172 ∧ j = 42) ∨ (i = 193) ∨ (i = 195) ∨ i < i
def w_63 (i j : Nat) : Prop := (i = 172 ∧ j = 22) ∨ (i = 172 ∧ j = 23) ∨ (i = 172 ∧ j = 25) ∨ (i = 172 ∧ j = 26) ∨ (i = 172 ∧ j = 36) ∨ (i = 172 ∧ j = 37) ∨ (i = 172 ∧ j = 38) ∨ (i = 172 ∧ j = 40) ∨ (i = 172 ∧ j = 42) ∨ (177 ≤ i ∧ i ≤ 191) ∨ (i = 193) ∨ (i = 195) ∨ i < i
def w_64 (i j : Nat) : Prop := (i = 172 ∧ j = 22) ∨ (i = 172 ∧ j = 23) ∨ (i = 172 ∧ j = 24) ∨ (i = 172 ∧ j = 25) ∨ (i = 172 ∧ j = 26) ∨ (i = 172 ∧ j = 36) ∨ (i = 172 ∧ j = 37) ∨ (i = 172 ∧ j = 38) ∨ (i = 172 ∧ j = 40) ∨ (i = 172 ∧ j = 42) ∨ (177 ≤ i ∧ i ≤ 191) ∨ (i = 193) ∨ (i = 195) ∨ i < i
def w_65 (i j : Nat) : Prop := (i = 172 ∧ j = 46) ∨ (i = 172 ∧ j = 47) ∨ i < i
def w_66 (i j : Nat) : Prop := (i = 172 ∧ j = 44) ∨ (i = 172 ∧ j = 46) ∨ (i = 172 ∧ j = 47) ∨ (i = 192) ∨ (i = 194 ∧ j = 0) ∨ (i = 194 ∧ j = 1) ∨ (i = 194 ∧ j = 2) ∨ (i = 194 ∧ j = 3) ∨ (i = 194 ∧ j = 4) ∨ i < i
def w_67 (i j : Nat) : Prop := (i = 172 ∧ j = 5) ∨ (i = 172 ∧ j = 6) ∨ i < i
def w_68 (i j : Nat) : Prop := (i = 172 ∧ j = 5) ∨ (i = 172 ∧ j = 6) ∨ (i = 172 ∧ j = 44) ∨ (i = 172 ∧ j = 46) ∨ (i = 172 ∧ j = 47) ∨ (i = 192) ∨ (i = 194 ∧ j = 0) ∨ (i = 194 ∧ j = 1) ∨ (i = 194 ∧ j = 2) ∨ (i = 194 ∧ j = 3) ∨ (i = 194 ∧ j = 4) ∨ i < i
def w_69 (i j : Nat) : Prop := (i = 172 ∧ j = 4) ∨ i < i
def w_70 (i j : Nat) : Prop := (i = 173) ∨ i < i
def w_71 (i j : Nat) : Prop := (i = 198) ∨ i < i
def w_72 (i j : Nat) : Prop := (i = 172 ∧ j = 44) ∨ (i = 172 ∧ j = 46) ∨ (i = 172 ∧ j = 47) ∨ (i = 192) ∨ (i = 194 ∧ j = 0) ∨ (i = 194 ∧ j = 1) ∨ (i = 194 ∧ j = 2) ∨ (i = 194 ∧ j = 3) ∨ (i = 194 ∧ j = 4) ∨ (200 ≤ i ∧ i ≤ 201) ∨ i < i
def w_73 (i j : Nat) : Prop := (174 ≤ i ∧ i ≤ 175) ∨ i < i
def w_74 (i j : Nat) : Prop := (i = 172 ∧ j = 22) ∨ (i = 172 ∧ j = 23) ∨ (i = 172 ∧ j = 24) ∨ (i = 172 ∧ j = 25) ∨ (i = 172 ∧ j = 26) ∨ (i = 172 ∧ j = 36) ∨ (i = 172 ∧ j = 37) ∨ (i = 172 ∧ j = 38) ∨ (i = 172 ∧ j = 40) ∨ (i = 172 ∧ j = 42) ∨ (177 ≤ i ∧ i ≤ 191) ∨ (i = 193) ∨ (195 ≤ i ∧ i ≤ 197) ∨ (i = 199) ∨ i < i
def w_75 (i j : Nat) : Prop := (i = 172 ∧ j = 22) ∨ (i = 172 ∧ j = 23) ∨ (i = 172 ∧ j = 24) ∨ (i = 172 ∧ j = 25) ∨ (i = 172 ∧ j = 26) ∨ (i = 173) ∨ (177 ≤ i ∧ i ≤ 191) ∨ i < i
def w_76 (i j : Nat) : Prop := (i = 172 ∧ j = 27) ∨ (i = 172 ∧ j = 28) ∨ (i = 172 ∧ j = 29) ∨ (i = 172 ∧ j = 30) ∨ i < i
def w_77 (i j : Nat) : Prop := (i = 199) ∨ i < i
def w_78 (i j : Nat) : Prop := (i = 172 ∧ j = 22) ∨ (i = 172 ∧ j = 23) ∨ (i = 172 ∧ j = 24) ∨ (i = 172 ∧ j = 25) ∨ (i = 172 ∧ j = 26) ∨ (i = 172 ∧ j = 36) ∨ (i = 172 ∧ j = 37) ∨ (i = 172 ∧ j = 38) ∨ (i = 172 ∧ j = 40) ∨ (i = 172 ∧ j = 42) ∨ (177 ≤ i ∧ i ≤ 191) ∨ (i = 193) ∨ (195 ≤ i ∧ i ≤ 199) ∨ i < i
def w_79 (i j : Nat) : Prop := (i = 173 ∧ j = 468) ∨ i < i
def w_80 (i j : Nat) : Prop := (i = 172 ∧ j = 27) ∨ (i = 172 ∧ j = 28) ∨ (i = 172 ∧ j = 29) ∨ (i = 172 ∧ j = 30) ∨ (i = 172 ∧ j = 31) ∨ (i = 172 ∧ j = 32) ∨ (i = 172 ∧ j = 33) ∨ (i = 172 ∧ j = 34) ∨ (i = 172 ∧ j = 35) ∨ i < i
def w_81 (i j : Nat) : Prop := (i = 172 ∧ j = 4) ∨ (i = 172 ∧ j = 22) ∨ (i = 172 ∧ j = 23) ∨ (i = 172 ∧ j = 24) ∨ (i = 172 ∧ j = 25) ∨ (i = 172 ∧ j = 26) ∨ (i = 172 ∧ j = 27) ∨ (i = 172 ∧ j = 28) ∨ (i = 172 ∧ j = 29) ∨ (i = 172 ∧ j = 30) ∨ (i = 172 ∧ j = 31) ∨ (i = 172 ∧ j = 32) ∨ (i = 172 ∧ j = 33) ∨ (i = 172 ∧ j = 34) ∨ (i = 172 ∧ j = 35) ∨ (i = 173) ∨ (177 ≤ i ∧ i ≤ 191) ∨ i < i
def w_82 (i j : Nat) : Prop := (i = 172 ∧ j = 5) ∨ (i = 172 ∧ j = 6) ∨ (i = 172 ∧ j = 44) ∨ (i = 172 ∧ j = 46) ∨ (i = 172 ∧ j = 47) ∨ (i = 192) ∨ (i = 194 ∧ j = 0) ∨ (i = 194 ∧ j = 1) ∨ (i = 194 ∧ j = 2) ∨ (i = 194 ∧ j = 3) ∨ (i = 194 ∧ j = 4) ∨ (200 ≤ i ∧ i ≤ 201) ∨ i < i
def w_83 (i j : Nat) : Prop := (i = 172 ∧ j = 4) ∨ (i = 176) ∨ i < i
def w_84 (i j : Nat) : Prop := (i = 173 ∧ j = 470) ∨ i < i
