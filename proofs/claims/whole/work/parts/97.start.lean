/-! THE START: what the Statement gives of it, the two objects made -/
def s_tm (i : Nat) : Term := match i with
  | 0 => .string RX3 59
  | 1 => .string RX3 67
  | 2 => .string RX3 73
  | 3 => .string RX3 75
  | 4 => .string RX1 67
  | 5 => .string RX2 83
  | 6 => .string RX2 51
  | 7 => .string RX2 66
  | 8 => .string RX4 108
  | _ => .string RX3 59
def s_fl : List Cond := flatC (Jvm.Cond.and given_1 narrow_1)
theorem s_e1 : ∀ i, i < 9 → Cond.exactly (s_tm i) "java/lang/String" ∈ s_fl := fun i hi => match i, hi with
  | 0, _ => List.mem_of_getElem? (i := 45) (by decide +kernel)
  | 1, _ => List.mem_of_getElem? (i := 64) (by decide +kernel)
  | 2, _ => List.mem_of_getElem? (i := 84) (by decide +kernel)
  | 3, _ => List.mem_of_getElem? (i := 127) (by decide +kernel)
  | 4, _ => List.mem_of_getElem? (i := 105) (by decide +kernel)
  | 5, _ => List.mem_of_getElem? (i := 150) (by decide +kernel)
  | 6, _ => List.mem_of_getElem? (i := 235) (by decide +kernel)
  | 7, _ => List.mem_of_getElem? (i := 260) (by decide +kernel)
  | 8, _ => List.mem_of_getElem? (i := 286) (by decide +kernel)
theorem s_e2 : ∀ i, i < 9 → Cond.eq (.field (s_tm i) "java/lang/String" "coder" "B") (.int 0) ∈ s_fl := fun i hi => match i, hi with
  | 0, _ => List.mem_of_getElem? (i := 46) (by decide +kernel)
  | 1, _ => List.mem_of_getElem? (i := 65) (by decide +kernel)
  | 2, _ => List.mem_of_getElem? (i := 85) (by decide +kernel)
  | 3, _ => List.mem_of_getElem? (i := 128) (by decide +kernel)
  | 4, _ => List.mem_of_getElem? (i := 106) (by decide +kernel)
  | 5, _ => List.mem_of_getElem? (i := 151) (by decide +kernel)
  | 6, _ => List.mem_of_getElem? (i := 236) (by decide +kernel)
  | 7, _ => List.mem_of_getElem? (i := 261) (by decide +kernel)
  | 8, _ => List.mem_of_getElem? (i := 287) (by decide +kernel)
theorem s_e3 : ∀ i, i < 9 → Cond.arrayOf (.field (s_tm i) "java/lang/String" "value" "[B") .byte ∈ s_fl := fun i hi => match i, hi with
  | 0, _ => List.mem_of_getElem? (i := 47) (by decide +kernel)
  | 1, _ => List.mem_of_getElem? (i := 66) (by decide +kernel)
  | 2, _ => List.mem_of_getElem? (i := 86) (by decide +kernel)
  | 3, _ => List.mem_of_getElem? (i := 129) (by decide +kernel)
  | 4, _ => List.mem_of_getElem? (i := 107) (by decide +kernel)
  | 5, _ => List.mem_of_getElem? (i := 152) (by decide +kernel)
  | 6, _ => List.mem_of_getElem? (i := 237) (by decide +kernel)
  | 7, _ => List.mem_of_getElem? (i := 262) (by decide +kernel)
  | 8, _ => List.mem_of_getElem? (i := 288) (by decide +kernel)
theorem s_e4 : ∀ i, i < 9 → Cond.eq (.length (.field (s_tm i) "java/lang/String" "value" "[B")) (.int (Int32.ofNat (m_len i))) ∈ s_fl := fun i hi => match i, hi with
  | 0, _ => List.mem_of_getElem? (i := 48) (by decide +kernel)
  | 1, _ => List.mem_of_getElem? (i := 67) (by decide +kernel)
  | 2, _ => List.mem_of_getElem? (i := 87) (by decide +kernel)
  | 3, _ => List.mem_of_getElem? (i := 130) (by decide +kernel)
  | 4, _ => List.mem_of_getElem? (i := 108) (by decide +kernel)
  | 5, _ => List.mem_of_getElem? (i := 153) (by decide +kernel)
  | 6, _ => List.mem_of_getElem? (i := 238) (by decide +kernel)
  | 7, _ => List.mem_of_getElem? (i := 263) (by decide +kernel)
  | 8, _ => List.mem_of_getElem? (i := 289) (by decide +kernel)
theorem s_q0 : ∀ j, j < 15 → s_fl[49 + j]? = some (Cond.eq (.elem (.field (s_tm 0) "java/lang/String" "value" "[B") (.int (Int32.ofNat j))) (.int (m_ch 0 j))) := by decide +kernel
theorem s_q1 : ∀ j, j < 15 → s_fl[68 + j]? = some (Cond.eq (.elem (.field (s_tm 1) "java/lang/String" "value" "[B") (.int (Int32.ofNat j))) (.int (m_ch 1 j))) := by decide +kernel
theorem s_q2 : ∀ j, j < 15 → s_fl[88 + j]? = some (Cond.eq (.elem (.field (s_tm 2) "java/lang/String" "value" "[B") (.int (Int32.ofNat j))) (.int (m_ch 2 j))) := by decide +kernel
theorem s_q3 : ∀ j, j < 15 → s_fl[131 + j]? = some (Cond.eq (.elem (.field (s_tm 3) "java/lang/String" "value" "[B") (.int (Int32.ofNat j))) (.int (m_ch 3 j))) := by decide +kernel
theorem s_q4 : ∀ j, j < 15 → s_fl[109 + j]? = some (Cond.eq (.elem (.field (s_tm 4) "java/lang/String" "value" "[B") (.int (Int32.ofNat j))) (.int (m_ch 4 j))) := by decide +kernel
theorem s_q5 : ∀ j, j < 76 → s_fl[154 + j]? = some (Cond.eq (.elem (.field (s_tm 5) "java/lang/String" "value" "[B") (.int (Int32.ofNat j))) (.int (m_ch 5 j))) := by decide +kernel
theorem s_q6 : ∀ j, j < 15 → s_fl[239 + j]? = some (Cond.eq (.elem (.field (s_tm 6) "java/lang/String" "value" "[B") (.int (Int32.ofNat j))) (.int (m_ch 6 j))) := by decide +kernel
theorem s_q7 : ∀ j, j < 15 → s_fl[264 + j]? = some (Cond.eq (.elem (.field (s_tm 7) "java/lang/String" "value" "[B") (.int (Int32.ofNat j))) (.int (m_ch 7 j))) := by decide +kernel
theorem s_q8 : ∀ j, j < 5 → s_fl[290 + j]? = some (Cond.eq (.elem (.field (s_tm 8) "java/lang/String" "value" "[B") (.int (Int32.ofNat j))) (.int (m_ch 8 j))) := by decide +kernel
theorem s_e5 : ∀ i, i < 9 → ∀ j, j < m_len i → Cond.eq (.elem (.field (s_tm i) "java/lang/String" "value" "[B") (.int (Int32.ofNat j))) (.int (m_ch i j)) ∈ s_fl := fun i hi => match i, hi with
  | 0, _ => fun j hj => List.mem_of_getElem? (s_q0 j hj)
  | 1, _ => fun j hj => List.mem_of_getElem? (s_q1 j hj)
  | 2, _ => fun j hj => List.mem_of_getElem? (s_q2 j hj)
  | 3, _ => fun j hj => List.mem_of_getElem? (s_q3 j hj)
  | 4, _ => fun j hj => List.mem_of_getElem? (s_q4 j hj)
  | 5, _ => fun j hj => List.mem_of_getElem? (s_q5 j hj)
  | 6, _ => fun j hj => List.mem_of_getElem? (s_q6 j hj)
  | 7, _ => fun j hj => List.mem_of_getElem? (s_q7 j hj)
  | 8, _ => fun j hj => List.mem_of_getElem? (s_q8 j hj)
theorem s_c1 : Cond.eq (.static "java/lang/String" "COMPACT_STRINGS" "Z") (.int 1) ∈ s_fl := List.mem_of_getElem? (i := 4) (by decide +kernel)
theorem s_c2 : Cond.isRef (.static "jdk/internal/util/Preconditions" "SIOOBE_FORMATTER" "Ljava/util/function/BiFunction;") ∈ s_fl := List.mem_of_getElem? (i := 5) (by decide +kernel)
theorem s_len : ∀ i, i < 9 → m_len i < 2 ^ 31 := by decide +kernel
theorem s_lit {args : Array Value} {s : State} {A : Nat → Prop} (hn : ∀ c ∈ s_fl, c.before args s = true) (hA : ∀ a : Nat, a < s.heap.size → ¬ A a) :
    ∃ adK adV : Nat → Nat, ∀ i : Nat, i < 9 → (s_tm i).eval args s none [] s = some (.ref (adK i)) ∧ va_O "java/lang/String" (adK i) A s s.heap ∧ va_OF "java/lang/String" "coder" "B" (.int 0) (adK i) A s s.heap ∧ va_OF "java/lang/String" "value" "[B" (.ref (adV i)) (adK i) A s s.heap ∧ va_T .byte (adV i) (m_len i) (fun j => .int (m_ch i j)) A s s.heap := by
  have h0 : ∀ i : Nat, ∃ q : Nat × Nat, i < 9 → (s_tm i).eval args s none [] s = some (.ref q.1) ∧ va_O "java/lang/String" q.1 A s s.heap ∧ va_OF "java/lang/String" "coder" "B" (.int 0) q.1 A s s.heap ∧ va_OF "java/lang/String" "value" "[B" (.ref q.2) q.1 A s s.heap ∧ va_T .byte q.2 (m_len i) (fun j => .int (m_ch i j)) A s s.heap := by
    intro i
    by_cases hi : i < 9
    · obtain ⟨a, c, cA, kA, q1, q2, q3, q4, q5, q6, -⟩ := Cond.exactly_spec (args := args) (first := s) (o := none) (s := s) (idx := []) (t := s_tm i) (cls := "java/lang/String") (hn _ (s_e1 i hi))
      obtain ⟨t, ht, hT⟩ := va_Tof (f := fun j => .int (m_ch i j)) (A := A) (s_len i hi) (hn _ (s_e3 i hi)) (va_eqt (hn _ (s_e4 i hi))) (fun j hj => va_eqt (hn _ (s_e5 i hi j hj))) hA
      exact ⟨(a, t), fun _ => ⟨q1, ⟨cA, q3, q5, by rw [q6]; exact q2, hA a (Array.getElem?_eq_some_iff.mp q3).1⟩, vk_OFof q1 (va_eqt (hn _ (s_e2 i hi))) hA, vk_OFof q1 ht hA, hT⟩⟩
    · exact ⟨(0, 0), fun h => absurd h hi⟩
  obtain ⟨ad, had⟩ := Classical.axiomOfChoice h0
  exact ⟨fun i => (ad i).1, fun i => (ad i).2, had⟩
theorem s_arrP {args : Array Value} {s : State} {ty : FieldType} (h : (Cond.arrayClass ty).before args s = true) (hne : ∀ C, ty ≠ .object C) : ∃ cA : ClassId, ArrOfT s cA ty ∧ va_RA s cA ty := by
  obtain ⟨c, k, comp, h1, h2, h3⟩ := Cond.arrayClass_spec (args := args) (first := s) (o := none) (s := s) (idx := []) h
  refine ⟨c, fun n z => ⟨fun k h => (by cases h), k, h2, comp, h3⟩, ?_⟩
  cases ty with
  | object C => exact absurd rfl (hne C)
  | _ => exact h1
theorem s_arrO {args : Array Value} {s : State} {C : String} (h : (Cond.arrayOver (.object C)).before args s = true) : ∃ cA : ClassId, ArrOfT s cA (.object C) ∧ va_RA s cA (.object C) := by
  obtain ⟨comp, c, k, h1, h2, h3, h4, h5⟩ := Cond.arrayOver_spec (args := args) (first := s) (o := none) (s := s) (idx := []) h
  exact ⟨c, fun n z => ⟨fun k h => (by cases h), k, h3, comp, h4⟩, k, comp, h3, h4, h1, h5⟩
theorem s_S {p : Program} {s : State} {m : MethodId} {meth : Method} {c : Code} {b L : Nat} {xs : Nat → Int32} (C0 : lw_At p s m meth c b L xs) : ∃ G : m_G, G.2.2.1 = s.heap.size ∧ m_S G s ∧ m_ao s := by
  obtain ⟨hx, hb, hr, hml, hown, hts, hX, hbl, hlocks, hgv⟩ := C0
  have hn : ∀ c ∈ s_fl, c.before #[Value.ref b] s = true := flat_of_before _ hgv
  obtain ⟨c0, i0, hk0⟩ := u_known (C := RX0) (T := TX0) (N := 10) (n := 10) hts (fun w hw => m_ws_in w (inlX0 w hw)) (hts _ (m_ws_in _ k_w_X0))
  obtain ⟨c1, i1, hk1⟩ := u_known (C := RX1) (T := TX1) (N := 6) (n := 6) hts (fun w hw => m_ws_in w (inlX1 w hw)) (hts _ (m_ws_in _ k_w_X1))
  obtain ⟨c2, i2, hk2⟩ := u_known (C := RX2) (T := TX2) (N := 9) (n := 9) hts (fun w hw => m_ws_in w (inlX2 w hw)) (hts _ (m_ws_in _ k_w_X2))
  obtain ⟨c3, i3, hk3⟩ := u_known (C := RX3) (T := TX3) (N := 8) (n := 8) hts (fun w hw => m_ws_in w (inlX3 w hw)) (hts _ (m_ws_in _ k_w_X3))
  obtain ⟨c4, i4, hk4⟩ := u_known (C := RX4) (T := TX4) (N := 8) (n := 8) hts (fun w hw => m_ws_in w (inlX4 w hw)) (hts _ (m_ws_in _ k_w_X4))
  obtain ⟨c5, i5, hk5⟩ := u_known (C := RX5) (T := TX5) (N := 11) (n := 11) hts (fun w hw => m_ws_in w (inlX5 w hw)) (hts _ (m_ws_in _ k_w_X5))
  obtain ⟨c6, i6, hk6⟩ := u_known (C := RX6) (T := TX6) (N := 11) (n := 11) hts (fun w hw => m_ws_in w (inlX6 w hw)) (hts _ (m_ws_in _ k_w_X6))
  obtain ⟨c7, i7, hk7⟩ := u_known (C := RX7) (T := TX7) (N := 10) (n := 10) hts (fun w hw => m_ws_in w (inlX7 w hw)) (hts _ (m_ws_in _ k_w_X7))
  obtain ⟨c8, i8, hk8⟩ := u_known (C := RX8) (T := TX8) (N := 54) (n := 54) hts (fun w hw => m_ws_in w (inlX8 w hw)) (hts _ (m_ws_in _ k_w_X8))
  obtain ⟨dC, dI, hKc⟩ : ∃ (dC : Nat → ClassId) (dI : Nat → Nat → Nat), ∀ (k : Nat) (q : vw_C), vwCl[k]? = some q → u_Kn s q.1 q.2.1 q.2.2 (dC k) (dI k) := by
    refine ⟨fun k => match k with | 0 => c0 | 1 => c1 | 2 => c2 | 3 => c3 | 4 => c4 | 5 => c5 | 6 => c6 | 7 => c7 | _ => c8, fun k => match k with | 0 => i0 | 1 => i1 | 2 => i2 | 3 => i3 | 4 => i4 | 5 => i5 | 6 => i6 | 7 => i7 | _ => i8, ?_⟩
    intro k q hq
    match k, hq with
    | 0, hq => cases hq; exact hk0
    | 1, hq => cases hq; exact hk1
    | 2, hq => cases hq; exact hk2
    | 3, hq => cases hq; exact hk3
    | 4, hq => cases hq; exact hk4
    | 5, hq => cases hq; exact hk5
    | 6, hq => cases hq; exact hk6
    | 7, hq => cases hq; exact hk7
    | 8, hq => cases hq; exact hk8
    | k + 9, hq => simp [vwCl] at hq
  obtain ⟨a0, ha0⟩ := s_arrP (ty := .int) (hts _ (m_ws_in _ k_a_int)) (fun C h => by cases h)
  obtain ⟨a1, ha1⟩ := s_arrP (ty := .long) (hts _ (m_ws_in _ k_a_long)) (fun C h => by cases h)
  obtain ⟨a2, ha2⟩ := s_arrP (ty := .boolean) (hts _ (m_ws_in _ k_a_boolean)) (fun C h => by cases h)
  have ho3 : va_AO "SonsPurse$Deal" s := va_AO.of (A := #[Value.ref b]) (hts _ (m_t1 (i := 117) (by decide +kernel)))
  obtain ⟨a3, ha3⟩ := s_arrO (C := "SonsPurse$Deal") (args := #[Value.ref b]) (hts _ (m_t1 (i := 117) (by decide +kernel)))
  have ho4 : va_AO "SonsPurse$Kept" s := va_AO.of (A := #[Value.ref b]) (hts _ (m_t1 (i := 107) (by decide +kernel)))
  obtain ⟨a4, ha4⟩ := s_arrO (C := "SonsPurse$Kept") (args := #[Value.ref b]) (hts _ (m_t1 (i := 107) (by decide +kernel)))
  have ho5 : va_AO "SonsPurse$Law" s := va_AO.of (A := #[Value.ref b]) (hts _ (m_t1 (i := 33) (by decide +kernel)))
  obtain ⟨a5, ha5⟩ := s_arrO (C := "SonsPurse$Law") (args := #[Value.ref b]) (hts _ (m_t1 (i := 33) (by decide +kernel)))
  have ho6 : va_AO "SonsPurse$Person" s := va_AO.of (A := #[Value.ref b]) (hts _ (m_t1 (i := 115) (by decide +kernel)))
  obtain ⟨a6, ha6⟩ := s_arrO (C := "SonsPurse$Person") (args := #[Value.ref b]) (hts _ (m_t1 (i := 115) (by decide +kernel)))
  have hA : ∀ a : Nat, a < s.heap.size → ¬ s.heap.size ≤ a := fun a h => Nat.not_le.mpr h
  obtain ⟨adK, adV, hlit⟩ := s_lit (A := fun q => s.heap.size ≤ q) hn hA
  refine ⟨((dC, dI), fun k => match k with | 0 => a0 | 1 => a1 | 2 => a2 | 3 => a3 | 4 => a4 | 5 => a5 | _ => a6, s.heap.size, adK, adV), rfl, ⟨⟨hKc, ?_⟩, fun i hi => (hlit i hi).2, ?_, ?_, ?_, ?_⟩, ho3, ho4, ho5, ho6⟩
  · intro k q hq
    match k, hq with
    | 0, hq => cases hq; exact ha0
    | 1, hq => cases hq; exact ha1
    | 2, hq => cases hq; exact ha2
    | 3, hq => cases hq; exact ha3
    | 4, hq => cases hq; exact ha4
    | 5, hq => cases hq; exact ha5
    | 6, hq => cases hq; exact ha6
    | k + 7, hq => simp [m_tys] at hq
  · exact ⟨vk_R.of (A := #[Value.ref b]) (hts _ (m_t2 (i := 143) (by decide +kernel))) (hlit 0 (by decide)).1, vk_R.of (A := #[Value.ref b]) (hts _ (m_t2 (i := 184) (by decide +kernel))) (hlit 1 (by decide)).1, vk_R.of (A := #[Value.ref b]) (hts _ (m_t2 (i := 189) (by decide +kernel))) (hlit 2 (by decide)).1, vk_R.of (A := #[Value.ref b]) (hts _ (m_t3 (i := 34) (by decide +kernel))) (hlit 3 (by decide)).1, vk_R.of (A := #[Value.ref b]) (hts _ (m_t2 (i := 206) (by decide +kernel))) (hlit 4 (by decide)).1, vk_R.of (A := #[Value.ref b]) (hts _ (m_t3 (i := 88) (by decide +kernel))) (hlit 5 (by decide)).1, vk_R.of (A := #[Value.ref b]) (hts _ (m_t3 (i := 102) (by decide +kernel))) (hlit 6 (by decide)).1, vk_R.of (A := #[Value.ref b]) (hts _ (m_t3 (i := 111) (by decide +kernel))) (hlit 7 (by decide)).1, vk_R.of (A := #[Value.ref b]) (hts _ (m_t3 (i := 181) (by decide +kernel))) (hlit 8 (by decide)).1⟩
  · exact ⟨va_Nw.of (A := #[Value.ref b]) rfl (hts _ (m_t1 (i := 28) (by decide +kernel))), va_Nw.of (A := #[Value.ref b]) rfl (hts _ (m_t1 (i := 35) (by decide +kernel))), va_Nw.of (A := #[Value.ref b]) rfl (hts _ (m_t1 (i := 119) (by decide +kernel))), va_Nw.of (A := #[Value.ref b]) rfl (hts _ (m_t1 (i := 175) (by decide +kernel))), va_Nw.of (A := #[Value.ref b]) rfl (hts _ (m_t2 (i := 9) (by decide +kernel))), va_Nw.of (A := #[Value.ref b]) rfl (hts _ (m_t2 (i := 51) (by decide +kernel))), va_Nw.of (A := #[Value.ref b]) rfl (hts _ (m_t2 (i := 136) (by decide +kernel)))⟩
  · exact va_Zof (args := #[Value.ref b]) (hts _ (m_t2 (i := 153) (by decide +kernel))) (hts _ (m_ws_in _ k_n_J0)) (va_eqt (hn _ s_c1)) hA
  · exact va_Zqof (args := #[Value.ref b]) (hts _ (m_t2 (i := 161) (by decide +kernel))) (hts _ (m_ws_in _ k_n_J3)) (hn _ s_c2) hA
set_option maxHeartbeats 4000000 in
set_option maxRecDepth 100000 in
theorem whole_start {p : Program} {e : Env} {s : State} {m : MethodId} {below : List Frame} {meth : Method} {c : Code} (l : Launch) (hflags : l.flags = flags0) {b L : Nat} {xs : Nat → Int32} (hL : L ≤ 3072) (C0 : lw_At p s m meth c b L xs) : W p l e room_1 s m #[Value.ref b] below meth c s.heap [] 0 0 (lw_Z below #[Value.ref b] s) (entryFrame m ([Value.ref b] : List Value).toArray 4) := by
  obtain ⟨G, hG, hSt, hAo⟩ := s_S C0
  obtain ⟨hx, hb, hr, hml, hown, hts, hX, hbl, hlocks, hgv⟩ := C0
  have X : CallFix p m c cL_law 4 s #[Value.ref b] m_ws RL := ⟨hx, hb, hml, hown, fun w hw => hts w (m_ws_in w hw)⟩
  have hbA : ¬ m_A G b := by show ¬ G.2.2.1 ≤ b; rw [hG]; exact Nat.not_le.mpr hbl
  have hS : va_S (m_A G) s.heap s.heap [] := va_S.rf
  have hP : y_P G (fun _ => .inr (99, [])) 0 s.heap := ⟨fun k q h => (by rw [y_pl_at, if_neg (Nat.not_lt_zero k)] at h; cases h), (by rw [hG]; rfl)⟩
  have hl := lv_entry ([.ref b]) (n := 4) (Nat.le_of_ble_eq_true rfl)
  rw [lg_entry_eq]
  generalize (lg_sl ([.ref b]) ++ List.replicate (4 - (lg_sl ([.ref b])).length) Slot.unset).toArray = ls at hl ⊢
  have hl : lv_has ls 4 [(0, .ref b)] := hl
  refine y_nw X hSt hP hS (ci := 7) (C := RX7) (T := TX7) (N := 10) (fs := [.null, .null, .null, .null, .null, .null, .null, .null, .long 0, .long 0]) inlX7 tyX7 tyX7_ok k_x_L_7 k_w_X7 k_n_X7 rfl y_df7 (Nat.le_of_ble_eq_true rfl) (Nat.le_of_ble_eq_true rfl) dL_law_0 (fun H hP hS => ?_)
  refine lv_dup X.1 X.2.1 dL_law_3 rfl ?_
  refine y_cj (q := 0) (As := []) (rest := [.ref (m_ad G 0)]) (mc := 171) (ms := 3823) X hSt hAo hP hS hl.1 (c_X7_init l G _ (va_up_self _ _ _)) k_c_yX7_init k_m_L_9 k_i_yX7_init k_n_X7 rfl (by decide +kernel) rfl rfl ⟨Nat.le_of_ble_eq_true rfl, Nat.le_of_ble_eq_true rfl⟩ (Nat.le_of_ble_eq_true rfl) ⟨Nat.le_of_ble_eq_true rfl, Nat.le_of_ble_eq_true rfl⟩ dL_law_4 (fun H locs hP hS => ?_)
  refine lv_astore_n (lv' := [(1, .ref (m_ad G 0)), (0, .ref b)]) X.1 X.2.1 dL_law_7 rfl hl (by decide) rfl (fun ls hl => ?_)
  have hP : y_P G (y_fin G) 172 H := y_congr G hP (fun k hk => by unfold y_m; rw [if_neg (Nat.not_lt_zero k)])
  refine y_nw X hSt hP hS (ci := 8) (C := RX8) (T := TX8) (N := 54) (fs := [.null, .null, .null, .null, .int 0, .long 0, .long 0, .null, .null, .null, .null, .null, .null, .null, .null, .null, .null, .null, .null, .null, .null, .null, .int 0, .int 0, .int 0, .int 0, .int 0, .int 0, .int 0, .int 0, .int 0, .int 0, .int 0, .int 0, .int 0, .int 0, .int 0, .int 0, .int 0, .null, .int 0, .null, .int 0, .null, .long 0, .null, .long 0, .long 0, .null, .null, .null, .null, .null, .null]) inlX8 tyX8 tyX8_ok k_x_L_10 k_w_X8 k_n_X8 rfl y_df8 (Nat.le_of_ble_eq_true rfl) (Nat.le_of_ble_eq_true rfl) dL_law_8 (fun H hP hS => ?_)
  refine lv_dup X.1 X.2.1 dL_law_11 rfl ?_
  refine y_cj (q := 0) (As := []) (rest := [.ref (m_ad G 172)]) (mc := 29) (ms := 2690) X hSt hAo hP hS hl.1 (c_X8_init l G _ (va_up_self _ _ _)) k_c_yX8_init k_m_L_12 k_i_yX8_init k_n_X8 rfl (by decide +kernel) rfl rfl ⟨Nat.le_of_ble_eq_true rfl, Nat.le_of_ble_eq_true rfl⟩ (Nat.le_of_ble_eq_true rfl) ⟨Nat.le_of_ble_eq_true rfl, Nat.le_of_ble_eq_true rfl⟩ dL_law_12 (fun H locs hP hS => ?_)
  refine lv_astore_n (lv' := [(2, .ref (m_ad G 172)), (1, .ref (m_ad G 0)), (0, .ref b)]) X.1 X.2.1 dL_law_15 rfl hl (by decide) rfl (fun ls hl => ?_)
  refine lv_iconst (v := 0) X.1 X.2.1 dL_law_16 (by decide) ?_
  refine lv_istore_n (lv' := [(3, .int 0), (2, .ref (m_ad G 172)), (1, .ref (m_ad G 0)), (0, .ref b)]) X.1 X.2.1 dL_law_17 rfl hl (by decide) rfl (fun ls hl => ?_)
  have hP : y_P G (y_fin G) 202 H := y_congr G hP (fun k hk => by
    unfold y_m
    by_cases h : k < 172
    · rw [if_pos h, va_up_ne _ _ (by omega)]
    · rw [if_neg h])
  have hP : m_P G y_M H := fun k q hq => hP.1 k q (by
    rw [m_pl_at] at hq
    rw [y_pl_at]
    by_cases h : k < m_N
    · rw [if_pos h] at hq
      rw [if_pos (show k < 202 from h)]
      rw [m_w_at] at hq
      exact hq
    · rw [if_neg h] at hq
      cases hq)
  refine W.widen (k := 1000) (n := 10000) (Nat.le_of_ble_eq_true rfl) (Nat.le_of_ble_eq_true rfl) ?_
  obtain ⟨n, u, hu⟩ := z_law hL xs
  exact w_law X hr hlocks hSt hG hX hbl hbA u 0 y_M _ _ _ hP hS (lv_sub hl [3, 2, 1, 0] rfl) hu
set_option maxHeartbeats 4000000 in
theorem lw_walk (l : Launch) (hflags : l.flags = flags0) (b : Addr) (xs : List Int32) : MetFree l x (headSpec (Jvm.Cond.code x code maxLocals ret :: tables_1) room_1) (lw_P b xs) (fun _ _ _ _ _ => True) lw_Q := by
  refine MetFree.of_bodyS (code := code) (maxLocals := maxLocals) (ret := ret) (by decide) ?_ ?_
  · intro args s m h hn
    obtain ⟨meth, c, h1, h2, h3, h4, h5, h6, -, -⟩ := Cond.code_spec hn (atoms_spec (ws := Jvm.Cond.code x code maxLocals ret :: tables_1) h _ List.mem_cons_self)
    exact ⟨meth, c, h1, h2, h3, h4, h5, h6⟩
  · intro p e s m args below meth c s₁ B hml0 hP _
    obtain ⟨rfl, hx, hbd, hgv⟩ := hP
    obtain ⟨scr, harrAt, hlist, hof, hsmall⟩ := hx
    obtain ⟨hcb, hkn, -, -⟩ := State.arrayAt?_spec harrAt
    have hown : s.vm.findClass R_law = some m.cls := findClass_of_methodNamed B.named
    have hts0 : ∀ c ∈ (Jvm.Cond.code x code maxLocals ret :: tables_1), c.before #[Value.ref b] s = true := atoms_spec (ws := Jvm.Cond.code x code maxLocals ret :: tables_1) B.pre
    have hts : ∀ w ∈ lw_tbl, w.before #[Value.ref b] s = true := k2_hts_sels lw_privs (fun w hw => hts0 w (List.mem_cons_of_mem _ hw)) lw_privs_ok
    have hml : c.maxLocals = 4 := B.maxLocals_eq (hts0 _ List.mem_cons_self)
    have X₀ : Stand p l e room_1 s m #[Value.ref b] below meth c s₁ [] 0 0 := Stand.of_body B
    have hh0 : s₁.heap = s.heap := by rw [B.state]; rfl
    have hsz : scr.slots.size = xs.length := by rw [← Array.length_toList, hlist, List.length_map]
    have hval : ∀ j : Nat, j < xs.length → scr.slots[j]? = some (.int (xs.getD j 0)) := fun j hj => by
      rw [← Array.getElem?_toList, hlist]
      simp [hj]
    have hbl : b < s.heap.size := (Array.getElem?_eq_some_iff.mp hcb).1
    have hX : va_X b xs.length (fun j => xs.getD j 0) s s.heap := ⟨scr, hcb, hof, hkn, hsz, hval⟩
    have K : W p l e room_1 s m #[Value.ref b] below meth c s₁.heap [] 0 0 (lw_Z below #[Value.ref b] s) (entryFrame m ([Value.ref b] : List Value).toArray 4) := by
      rw [hh0]
      exact whole_start l hflags hbd ⟨B.exec, B.bytes, B.returns, hml, hown, hts, hX, hbl, B.notSynchronized, hgv⟩
    obtain ⟨t, a1, o, b1, b2, b3⟩ := K s₁ rfl X₀
    exact ⟨t, o, a1, b1, b2, b3⟩
theorem lw_pre_spec {args : Array Value} {s : State} (h : (Jvm.Cond.and given_1 narrow_1).before args s = true) (hr : rest_1_c.before args s = true) : ∃ (b : Addr) (xs : List Int32), lw_P b xs args s := by
  have hs := flat_of_before _ h
  have hq := flat_of_before _ hr
  have hc : (Cond.count 1).before args s = true := hs _ (by decide +kernel)
  have harr : (Cond.arrayOf (.arg 0) .int).before args s = true := hs _ (by decide +kernel)
  have hle : (Cond.le (.length (.arg 0)) (.int 3072)).before args s = true := hs _ (by decide +kernel)
  have hlen : (Cond.isInt (.length (.arg 0))).before args s = true := hq _ (by decide +kernel)
  have hall : (Cond.all (.arg 0) (.isInt (.elem (.arg 0) (.index 0)))).before args s = true := hq _ (by decide +kernel)
  obtain ⟨b, xs, hb, hx⟩ := State.ints_of_pre rfl harr hlen hall
  have hsm : xs.length < 2 ^ 31 := hx.choose_spec.2.2.2
  have hev : (Term.length (.arg 0)).eval args s none [] s = some (.int xs.length.toInt32) := hx.length_eval hb
  have hv := Cond.le_ints hev (show (Term.int 3072).eval args s none [] s = some (.int 3072) from rfl)
  have hd : xs.length.toInt32 ≤ 3072 := by
    simpa [Cond.before, Cond.holds, hv] using hle
  have hN : xs.length ≤ 3072 := (Int32.ofNat_le_ofNat hsm (by decide)).mp (show Int32.ofNat xs.length ≤ Int32.ofNat 3072 from hd)
  exact ⟨b, xs, Cond.one_arg hc (show args[0]? = some (.ref b) from hb), hx, hN, h⟩
theorem lw_comes (l : Launch) (hflags : l.flags = flags0) : Comes l x (Jvm.Cond.code x code maxLocals ret :: tables_1) room_1 (fun tb e args s => Calls_1 tb e args s ∧ rest_1 tb e args s ∧ Pre_1 tb e args s)
    (fun _ _ args s o t => lw_Q args s o t) := by
  intro p e ha hc hk s m args below hf hfit hheap happ hpre
  obtain ⟨b, xs, hP⟩ := lw_pre_spec hpre.2.2 hpre.2.1
  obtain ⟨k, o, h1, h2, h3, hQ⟩ := lw_walk l hflags b xs p e ha hc hk s m args below hf ((Spec.applies_iff_loose hf).mp happ).1 hP trivial
  exact ⟨k, o, h1, h2, h3, hQ⟩
theorem lw_frame {s t : State} {o : Outcome} {args : Array Value} (h : Framed s o t [] 600000 7302250) :
    Framed s o t (fieldLocs frame_1_writes args s ++ arrayLocs frame_1_arrays args s ++ staticLocs frame_1_statics s) 600000 7302250 := h
theorem lw_limb (L : Cond) (hL : ∀ (args : Array Value) (s t : State), L.after args s (.returned (some (.int 1))) t = true) :
    ArmFor flags0 classFile x code maxLocals ret World_1 tables_1 room_1 Calls_1 rest_1 Pre_1
      (fun tb e a s o t => postC L tb e a s o t ∧ Framed s o t (fieldLocs frame_1_writes a s ++ arrayLocs frame_1_arrays a s ++ staticLocs frame_1_statics s) 600000 7302250) := by
  intro l hflags _ _ p e ha hc hk s m args below hf hfit hheap happ hpre
  obtain ⟨k, o, h1, h2, h3, rfl, hF⟩ := lw_comes l hflags p e ha hc hk s m args below hf hfit hheap happ hpre
  exact ⟨k, _, h1, h2, h3, hL args s _, lw_frame hF⟩
theorem i_vc : Claimed_1_1 ∧ Claimed_1_2 := ⟨lw_limb limb_1_1 (fun args s t => by simp [limb_1_1, Cond.after, Cond.holds, Cond.value]), lw_limb limb_1_2 (fun args s t => Cond.after_iff.mpr (by
  first | (rw [show limb_1_2 = Cond.eq .result (.int 1) from rfl, Cond.eq_ints (x := 1) (y := 1) rfl rfl]; simp; done) | (simp [limb_1_2, Cond.value, Term.eval]; done)))⟩

