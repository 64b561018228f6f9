/-! CONSTRUCTORS: a pool of cells at b, b + 1 ..; what each holds is a function of its place -/
def y_w (G : m_G) (f : Nat → va_E) (n : Nat) : va_W := va_pl ((List.range n).map (fun k => m_ad G k)) (fun a => f (a - G.2.2.1))
def y_P (G : m_G) (f : Nat → va_E) (n : Nat) (H : Heap) : Prop := va_P G.1 vwCl (y_w G f n) H ∧ H.size = G.2.2.1 + n
theorem y_pl_at (G : m_G) (f : Nat → va_E) (n i : Nat) : (y_w G f n)[i]? = if i < n then some (m_ad G i, f i) else none := by
  unfold y_w va_pl
  rw [List.getElem?_map, List.getElem?_map]
  by_cases h : i < n
  · rw [if_pos h, List.getElem?_range h]
    show some (m_ad G i, f (m_ad G i - G.2.2.1)) = some (m_ad G i, f i)
    unfold m_ad
    rw [Nat.add_sub_cancel_left]
  · rw [if_neg h, List.getElem?_eq_none (by rw [List.length_range]; exact Nat.le_of_not_lt h)]
    rfl
theorem y_at (G : m_G) {f : Nat → va_E} {n k : Nat} {e : va_E} (hk : k < n) (he : f k = e) : (y_w G f n)[k]? = some (m_ad G k, e) := by
  rw [y_pl_at, if_pos hk, he]
theorem y_D (G : m_G) (f : Nat → va_E) (n : Nat) : va_D (m_A G) (y_w G f n) := by
  refine ⟨fun i j p q hi hj e => ?_, fun k q hk => ?_⟩
  · rw [y_pl_at] at hi hj
    by_cases h1 : i < n
    · by_cases h2 : j < n
      · rw [if_pos h1] at hi
        rw [if_pos h2] at hj
        cases hi
        cases hj
        have e2 : G.2.2.1 + i = G.2.2.1 + j := e
        omega
      · rw [if_neg h2] at hj
        cases hj
    · rw [if_neg h1] at hi
      cases hi
  · rw [y_pl_at] at hk
    by_cases h1 : k < n
    · rw [if_pos h1] at hk
      cases hk
      exact Nat.le_add_right _ _
    · rw [if_neg h1] at hk
      cases hk
theorem y_len (G : m_G) (f : Nat → va_E) (n : Nat) : (y_w G f n).length = n := by
  unfold y_w va_pl
  rw [List.length_map, List.length_map, List.length_range]
theorem y_set (G : m_G) {f : Nat → va_E} {n k : Nat} {e : va_E} : (y_w G f n).set k (m_ad G k, e) = y_w G (va_up f k e) n := by
  apply List.ext_getElem?
  intro i
  rw [List.getElem?_set, y_len]
  by_cases hik : k = i
  · subst hik
    rw [if_pos rfl, y_pl_at]
    by_cases h : k < n
    · rw [if_pos h, if_pos h, va_up_self]
    · rw [if_neg h, if_neg h]
  · rw [if_neg hik, y_pl_at, y_pl_at, va_up_ne _ _ (Ne.symm hik)]
theorem y_congr (G : m_G) {f g : Nat → va_E} {n : Nat} {H : Heap} (h : y_P G f n H) (e : ∀ k, k < n → f k = g k) : y_P G g n H := by
  refine ⟨fun k q hk => h.1 k q ?_, h.2⟩
  rw [y_pl_at] at hk ⊢
  by_cases hl : k < n
  · rw [if_pos hl] at hk ⊢
    rw [e k hl]
    exact hk
  · rw [if_neg hl] at hk
    cases hk
theorem y_push (G : m_G) {f : Nat → va_E} {n : Nat} {e : va_E} {H H1 : Heap} (h : y_P G f n H) (ho : ∀ q, q < H.size → H1[q]? = H[q]?) (hz : H1.size = H.size + 1) (he : va_at G.1 vwCl (m_ad G n, e) H1) : y_P G (va_up f n e) (n + 1) H1 := by
  refine ⟨fun k q hk => ?_, by rw [hz, h.2]; rfl⟩
  rw [y_pl_at] at hk
  by_cases hl : k < n + 1
  · rw [if_pos hl] at hk
    cases hk
    by_cases hn : k = n
    · subst hn
      rw [va_up_self]
      exact he
    · rw [va_up_ne _ _ hn]
      have h1 : (y_w G f n)[k]? = some (m_ad G k, f k) := y_at G (by omega) rfl
      exact (h.1 k _ h1).kept (ho _ ((h.1 k _ h1).lt))
  · rw [if_neg hl] at hk
    cases hk
section YROWS
variable {p : Program} {l : Launch} {e : Env} {R : Room} {s : State} {m : MethodId} {args : Array Value} {below : List Frame} {meth : Method} {c : Code} {H : Heap} {locs : List Loc} {cells slots : Nat} {Q : State → Prop}
variable {cc : ByteArray} {pc nL n : Nat} {ls : Array Slot} {rest st : List Value} {own : String} {G : m_G} {f : Nat → va_E}
/-- an array of numbers is made -/
theorem y_na (X : CallFix p m c cc nL s args m_ws own) (hSt : m_S G s) (hP : y_P G f n H) (hS : va_S (m_A G) s.heap H locs) {atype : ArrayType} (t0 : Nat) {ty : FieldType} (hty : newarray.typeOf atype = ty) (harr : Cond.arrayClass (newarray.typeOf atype) ∈ m_ws) {cA : ClassId} (ht : (m_tys G)[t0]? = some (cA, ty)) (hra : ∀ cB : ClassId, va_RA s cA ty → s.vm.findClass ("[" ++ ty.toString) = some cB → cB = cA) {i : Int32} {N' : Nat} {a0 : vp_A} (ha : vp_cell cA a0 = arrV cA N' (fun _ => defaultValue ty)) (hn : ¬ i < 0) (hN : i.toNatClampNeg = N') (hbytes : N' * componentBytes ty ≤ 536870912) (hcells : cells + 1 ≤ R.cells) (hslots : slots + N' ≤ R.slots) (hdg : decode cc pc = .ok (.newarray atype, 2))
    (kk : ∀ H1 : Heap, y_P G (va_up f n (.inl (cA, a0))) (n + 1) H1 → va_S (m_A G) s.heap H1 locs → W p l e R s m args below meth c H1 locs (cells + 1) (slots + N') Q (F0 m (pc + 2) ls (.ref (m_ad G n) :: rest))) : W p l e R s m args below meth c H locs cells slots Q (F0 m pc ls (.int i :: rest)) := by
  subst hty
  have hh : H.size = m_ad G n := hP.2
  refine va_newaK X.1 X.2.1 (X.2.2.2.2 _ harr) rfl hdg rfl hn hN hbytes hcells hslots hh fun H1 cB e1 z1 o1 hAr hNm => ?_
  have hcB : cB = cA := hra cB (hSt.1.2 t0 _ ht).2 hNm
  subst hcB
  refine kk H1 (y_push G hP (fun q hq => o1 q (by rw [← hh]; exact hq)) (by rw [z1, hh]) ?_) ⟨Nat.le_trans hS.1 (by rw [z1, ← hh]; omega), fun x h1 h2 => (o1 x (by rw [← hh]; exact Nat.lt_of_lt_of_le h1 hS.1)).trans (hS.2.1 x h1 h2), hS.2.2⟩
  show H1[m_ad G n]? = some (vp_cell _ _)
  rw [ha]
  exact e1
/-- an array of references is made -/
theorem y_nq (X : CallFix p m c cc nL s args m_ws own) (hSt : m_S G s) (hP : y_P G f n H) (hS : va_S (m_A G) s.heap H locs) {C : String} (hover : va_AO C s) (t0 : Nat) {idx : Nat} (hlk : Cond.classLink own idx C ∈ m_ws) {cA : ClassId} (ht : (m_tys G)[t0]? = some (cA, .object C)) {i : Int32} {N' : Nat} (hn : ¬ i < 0) (hN : i.toNatClampNeg = N') (hbytes : N' * 4 ≤ 536870912) (hcells : cells + 1 ≤ R.cells) (hslots : slots + N' ≤ R.slots) (hdg : decode cc pc = .ok (.anewarray idx, 3))
    (kk : ∀ H1 : Heap, y_P G (va_up f n (.inl (cA, N', .inr (.inr (.inr (.inr (fun _ => none))))))) (n + 1) H1 → va_S (m_A G) s.heap H1 locs → W p l e R s m args below meth c H1 locs (cells + 1) (slots + N') Q (F0 m (pc + 3) ls (.ref (m_ad G n) :: rest))) : W p l e R s m args below meth c H locs cells slots Q (F0 m pc ls (.int i :: rest)) := by
  subst hN
  refine W.anew X.1 X.2.1 X.2.2.2.1 (X.2.2.2.2 _ hlk) (va_AO.use hover) rfl hdg rfl hn hbytes hcells hslots fun cB kA comp f1 f2 f3 f4 => ?_
  obtain ⟨kA', comp', -, -, -, hN2⟩ := (hSt.1.2 t0 _ ht).2
  have hcB : cB = cA := Option.some.inj (f1.symm.trans hN2)
  subst hcB
  have hh : H.size = m_ad G n := hP.2
  generalize hH1 : H.push ({ cls := cB, slots := Array.replicate i.toNatClampNeg .null, vm := .none } : Cell) = H1
  have z1 : H1.size = H.size + 1 := by rw [← hH1, Array.size_push]
  have e1 : H1[H.size]? = some (arrV cB i.toNatClampNeg (fun _ => .null)) := by rw [← hH1, Array.getElem?_push_size, ← arrV_new]
  have o1 : ∀ q : Nat, q < H.size → H1[q]? = H[q]? := fun q hq => by rw [← hH1, Array.getElem?_push, if_neg (Nat.ne_of_lt hq)]
  rw [hh]
  refine kk H1 (y_push G hP o1 z1 ?_) ⟨Nat.le_trans hS.1 (by omega), fun x h1 h2 => (o1 x (Nat.lt_of_lt_of_le h1 hS.1)).trans (hS.2.1 x h1 h2), hS.2.2⟩
  show H1[m_ad G n]? = some (vp_cell _ _)
  rw [← hh, e1]
  rfl
/-- an object is made -/
theorem y_nw (X : CallFix p m c cc nL s args m_ws own) (hSt : m_S G s) (hP : y_P G f n H) (hS : va_S (m_A G) s.heap H locs) {C : String} {T : u_T} {N ci idx : Nat} (hin : ∀ w ∈ u_ws C T N, w ∈ m_ws) (ty : Nat → FieldType) (hty : ∀ k, k < N → parseFieldDescriptor (T k).2.2.1 = some (ty k)) (hcl : Cond.classLink own idx C ∈ m_ws) (hinst : Cond.instantiable C N ∈ m_ws) (hini : Cond.initialized C ∈ m_ws) (hc : vwCl[ci]? = some (C, T, N)) {fs : List Value} (hfs : ∀ j, j < N → defaultValue (ty j) = vp_V fs j) (hcells : cells + 1 ≤ R.cells) (hslots : slots + N ≤ R.slots) (hdg : decode cc pc = .ok (.new idx, 3))
    (kk : ∀ H1 : Heap, y_P G (va_up f n (.inr (ci, fs))) (n + 1) H1 → va_S (m_A G) s.heap H1 locs → W p l e R s m args below meth c H1 locs (cells + 1) (slots + N) Q (F0 m (pc + 3) ls (.ref (m_ad G n) :: rest))) : W p l e R s m args below meth c H locs cells slots Q (F0 m pc ls rest) := by
  have hKn := hSt.1.1 ci _ hc
  have hh : H.size = m_ad G n := hP.2
  refine W.newcK X.1 X.2.1 X.2.2.2.1 (X.2.2.2.2 _ hcl) (X.2.2.2.2 _ hinst) (X.2.2.2.2 _ hini) rfl hdg hcells hslots hKn.2.1 hh fun H1 kC hkC e1 z1 o1 => ?_
  refine kk H1 (y_push G hP (fun q hq => o1 q (by rw [← hh]; exact hq)) (by rw [z1, hh]) ?_) ⟨Nat.le_trans hS.1 (by rw [z1, ← hh]; omega), fun x h1 h2 => (o1 x (by rw [← hh]; exact Nat.lt_of_lt_of_le h1 hS.1)).trans (hS.2.1 x h1 h2), hS.2.2⟩
  exact ⟨_, hc, (u_born ty X.2.2.2.2 hin hKn hkC e1 hty).to hfs⟩
/-- a field is read, written -/
theorem y_gf (X : CallFix p m c cc nL s args m_ws own) (hSt : m_S G s) (hP : y_P G f n H) {C : String} {T : u_T} {N ci idx k : Nat} (hin : ∀ w ∈ u_ws C T N, w ∈ m_ws) (hc : vwCl[ci]? = some (C, T, N)) (hk : k < n) {fs : List Value} (he : f k = .inr (ci, fs)) (j : Nat) (hj : j < N) {v : Value} (hv : fs[j]? = some v) (hlk : Cond.fieldLink own idx (T j).1 (T j).2.1 (T j).2.2.1 ∈ m_ws) (hdg : decode cc pc = .ok (.getfield idx, 3))
    (kk : W p l e R s m args below meth c H locs cells slots Q (F0 m (pc + 3) ls (v :: rest))) : W p l e R s m args below meth c H locs cells slots Q (F0 m pc ls (.ref (m_ad G k) :: rest)) :=
  va_get (D := G.1) X.1 X.2.1 X.2.2.2.2 hin X.2.2.2.1 hSt.1 hP.1 k (y_at G hk he) hc j hj (X.2.2.2.2 _ hlk) (fun _ h9 => h9) hv hdg kk
theorem y_pf (X : CallFix p m c cc nL s args m_ws own) (hSt : m_S G s) (hP : y_P G f n H) (hS : va_S (m_A G) s.heap H locs) {C : String} {T : u_T} {N ci idx k : Nat} (hin : ∀ w ∈ u_ws C T N, w ∈ m_ws) (ty0 : Nat → FieldType) (hty : ∀ k, k < N → parseFieldDescriptor (T k).2.2.1 = some (ty0 k)) (hnm : ∀ a, a < N → ∀ b, b < N → a ≠ b → (T a).2.1 ≠ (T b).2.1) (hc : vwCl[ci]? = some (C, T, N)) (hk : k < n) {fs : List Value} (he : f k = .inr (ci, fs)) (j : Nat) (hj : j < N) (hin2 : meth.name = "<init>") (hdecl : (T j).1 = own) {ty : FieldType} {v : Value} (hd : parseFieldDescriptor (T j).2.2.1 = some ty) (hnv : narrow ty v = v) (hfit : fits ty v = true) (hl : j < fs.length) (hlk : Cond.fieldLink own idx (T j).1 (T j).2.1 (T j).2.2.1 ∈ m_ws) (hdg : decode cc pc = .ok (.putfield idx, 3))
    (kk : ∀ (H1 : Heap) (locs1 : List Loc), y_P G (va_up f k (.inr (ci, fs.set j v))) n H1 → va_S (m_A G) s.heap H1 locs1 → W p l e R s m args below meth c H1 locs1 cells slots Q (F0 m (pc + 3) ls rest)) : W p l e R s m args below meth c H locs cells slots Q (F0 m pc ls (v :: .ref (m_ad G k) :: rest)) := by
  have hts := X.2.2.2.2
  have hown := X.2.2.2.1
  have he0 := y_at G hk he
  have hap := va_apart (own := own) hts hin ty0 hty hnm hSt.1 hc
  obtain ⟨r, h1, cell, q1, q2, q3, q4⟩ := hP.1 k _ he0
  have hr : r = (C, T, N) := Option.some.inj (h1.symm.trans hc)
  subst hr
  obtain ⟨hSl, hfc, kC, hkC, hkind⟩ := hSt.1.1 ci _ hc
  obtain ⟨cf, kf, fi, fd, hi, hsl⟩ := hSl j hj
  have hlay := hts _ (hin _ (u_in_lay hj))
  have hst := (u_facts hfc hkC (u_lays hts hin hj) hi).1
  have fin : ∀ H' : Heap, H'[m_ad G k]? = some (cell.setSlot fd.slot v) → H'.size = H.size → (∀ q, q ≠ m_ad G k → H'[q]? = H[q]?) → W p l e R s m args below meth c H' (locs ++ [⟨m_ad G k, fd.slot⟩]) cells slots Q (F0 m (pc + 3) ls rest) := by
    intro H' e1 e2 e3
    rw [hsl] at e1 ⊢
    refine kk H' _ ⟨?_, by rw [e2]; exact hP.2⟩ (hS.put e2 e3 ((y_D G f n).2 k _ he0))
    rw [← y_set]
    exact hP.1.set (y_D G f n) he0 ⟨_, hc, t_OB.to (V := updV (vp_V fs) j v) ⟨_, e1, q2, q3, t_set q4 hap hj v⟩ (fun i _ => vp_updV_set hl v i)⟩ e3
  unfold u_lay at hlay
  by_cases hfin : (T j).2.2.2 = true
  · rw [if_pos hfin] at hlay
    have hcf : m.cls = cf := by
      obtain ⟨_, _, c', _, _, _, -, -, hf', -, -, -, hown2, -⟩ := Cond.laysFinal_spec hlay
      have e1 : c' = cf := by have := hi.symm.trans hf'; simp at this; exact this.1.symm
      rw [hdecl] at hown2
      rw [← e1]; exact Option.some.inj (hown.symm.trans hown2)
    have h6 := u_fits hfc hkC hkind (Or.inr hlay) hi hd hnv hfit
    exact W.putFinK X.1 X.2.1 hown (hts _ hlk) hi hst hcf hin2 (by rw [q2]; exact h6) q1 q3 (by rw [hsl]; exact k2_hasslot (q4 j hj)) rfl rfl hdg fin
  · rw [if_neg hfin] at hlay
    have h6 := u_store hfc hkC hkind hlay hi hd hnv hfit
    exact W.putK X.1 X.2.1 (f := fd) ⟨hown, hts _ hlk, ⟨_, _, _, hi⟩, hst⟩ (by rw [q2]; exact h6) q1 q3 (by rw [hsl]; exact k2_hasslot (q4 j hj)) rfl rfl hdg fin
/-- a reference into an array of them -/
theorem y_as (X : CallFix p m c cc nL s args m_ws own) (hSt : m_S G s) (hP : y_P G f n H) (hS : va_S (m_A G) s.heap H locs) (t0 : Nat) {x k ci N : Nat} {cA : ClassId} {r : vw_C} {vs : List Value} {g : Nat → Option Nat} (hx : x < n) (hg : f x = .inl (cA, N, .inr (.inr (.inr (.inr g))))) (ht : (m_tys G)[t0]? = some (cA, .object r.1)) (hk : k < n) (hv : f k = .inr (ci, vs)) (hc : vwCl[ci]? = some r) {i : Int32} {j : Nat} (hin : m_in i N) (hj : i.toNatClampNeg = j) (hdg : decode cc pc = .ok (.aastore, 1))
    (kk : ∀ (H1 : Heap) (locs1 : List Loc), y_P G (va_up f x (.inl (cA, N, .inr (.inr (.inr (.inr (va_up g j (some (m_ad G k)))))))) ) n H1 → va_S (m_A G) s.heap H1 locs1 → W p l e R s m args below meth c H1 locs1 cells slots Q (F0 m (pc + 1) ls rest)) : W p l e R s m args below meth c H locs cells slots Q (F0 m pc ls (.ref (m_ad G k) :: .int i :: .ref (m_ad G x) :: rest)) := by
  subst hj
  have hlt : i.toNatClampNeg < N := Nat.not_le.mp fun q => hin (Or.inr q)
  have h0 : ¬ i < 0 := fun q => hin (Or.inl q)
  have ha0 := y_at G hx hg
  obtain ⟨r', hr', cellV, g1, g2, g3, -⟩ := hP.1 k _ (y_at G hk hv)
  have hcls := (hSt.1.1 ci r hc).2
  obtain ⟨kA, comp, k1, k2, k3, -⟩ := (hSt.1.2 t0 _ ht).2
  have hcomp : comp = G.1.1 ci := Option.some.inj (k3.symm.trans hcls.1)
  subst hcomp
  obtain ⟨kC, hkC, -⟩ := hcls.2
  refine W.aast X.1 X.2.1 (hP.1 x _ ha0) (fun q h => by cases h) (fun h => by cases h) k1 k2 rfl hkC ⟨h0, by show _ < (arrV _ _ _).slots.size; rw [arrV_size]; exact hlt⟩ g1 (fun q h => by rw [g3] at h; cases h) (by rw [g2]; exact hkC) (by rw [g2]; exact va_assign hcls) rfl rfl hdg fun H1 e1 z oq => ?_
  refine kk H1 _ ⟨?_, by rw [z]; exact hP.2⟩ (hS.put z oq ((y_D G f n).2 x _ ha0))
  rw [← y_set]
  refine hP.1.set (y_D G f n) ha0 ?_ oq
  show H1[m_ad G x]? = some (vp_cell _ _)
  rw [e1]
  rw [vp_cell_q, vp_cell_q, arrV_store]
  congr 2
  funext q
  by_cases hq : q = i.toNatClampNeg
  · subst hq
    simp [updV, va_up, va_rf]
  · simp [updV, va_up, hq]
end YROWS
/-! the memory of a new run -/
def y_I (kd : Nat) : Nat → Int32 := match kd with
  | 14 => fun j => if j = 7 then 1 else 0
  | 12 => fun j => if j = 3 then -1 else 0
  | 18 => fun j => if j = 24 then 31 else 0
  | _ => fun _ => 0
def y_L (kd : Nat) : Nat → Int64 := match kd with
  | 17 => fun j => if j = 9 then 1 else 0
  | 18 => fun j => if j = 6 then 1 else 0
  | _ => fun _ => 0
def y_M : m_M := (fun k => y_I (m_lay k).1, fun k => y_L (m_lay k).1)
def y_fin (G : m_G) (k : Nat) : va_E := m_C G (m_lay k) k (y_M.1 k) (y_M.2 k)
theorem y_fin_of (G : m_G) {k : Nat} {q : Nat × Nat} (h : m_lay k = q) : y_fin G k = m_C G q k (y_I q.1) (y_L q.1) := by
  unfold y_fin
  show m_C G (m_lay k) k (y_I (m_lay k).1) (y_L (m_lay k).1) = _
  rw [h]
def y_m (G : m_G) (f0 : Nat → va_E) (k : Nat) : Nat → va_E := fun j => if j < k then f0 j else y_fin G j
def y_n (G : m_G) (f0 : Nat → va_E) (k : Nat) (e : va_E) (x : Nat) (g : va_E) (x2 : Nat) (g2 : va_E) : Nat → va_E := fun j => if j < k then f0 j else if j = k then e else if j = x then g else if j = x2 then g2 else y_fin G j
def y_sim (G : m_G) (k : Nat) (e e' : va_E) : Prop := ∀ H : Heap, va_at G.1 vwCl (m_ad G k, e) H → va_at G.1 vwCl (m_ad G k, e') H
theorem y_sim_rf {G : m_G} {k : Nat} {e : va_E} : y_sim G k e e := fun _ h => h
theorem y_congS (G : m_G) {f g : Nat → va_E} {n : Nat} {H : Heap} (h : y_P G f n H) (e : ∀ k, k < n → y_sim G k (f k) (g k)) : y_P G g n H := by
  refine ⟨fun k q hk => ?_, h.2⟩
  rw [y_pl_at] at hk
  by_cases hl : k < n
  · rw [if_pos hl] at hk
    cases hk
    exact e k hl H (h.1 k _ (y_at G hl rfl))
  · rw [if_neg hl] at hk
    cases hk
theorem y_arr {cA : ClassId} {N : Nat} {f g : Nat → Value} (h : ∀ j, j < N → f j = g j) : arrV cA N f = arrV cA N g := by
  have e : (fun j : Fin N => f j.val) = fun j => g j.val := funext fun j => h j.val j.isLt
  unfold arrV
  rw [e]
theorem y_sim_q {G : m_G} {k N : Nat} {cA : ClassId} {f g : Nat → Option Nat} (h : ∀ j, j < N → f j = g j) : y_sim G k (.inl (cA, N, .inr (.inr (.inr (.inr f))))) (.inl (cA, N, .inr (.inr (.inr (.inr g))))) := by
  intro H hq
  have hq : H[m_ad G k]? = some (vp_cell cA (N, .inr (.inr (.inr (.inr f))))) := hq
  show H[m_ad G k]? = some (vp_cell cA (N, .inr (.inr (.inr (.inr g)))))
  rw [hq, vp_cell_q, vp_cell_q, y_arr (fun j hj => by rw [h j hj])]
theorem y_start (G : m_G) {f : Nat → va_E} {k x x2 : Nat} {e g g2 : va_E} {H : Heap} (h : y_P G f (k + 1) H) (he : f k = e) : y_P G (y_n G f k e x g x2 g2) (k + 1) H := y_congr G h fun j hj => by
  unfold y_n
  by_cases h1 : j < k
  · rw [if_pos h1]
  · have h2 : j = k := by omega
    subst h2
    rw [if_neg h1, if_pos rfl, he]
theorem y_done (G : m_G) {f0 : Nat → va_E} {k n x x2 : Nat} {e g g2 : va_E} {H : Heap} (h : y_P G (y_n G f0 k e x g x2 g2) n H) (he : y_sim G k e (y_fin G k)) (hg : y_sim G x g (y_fin G x)) (hg2 : y_sim G x2 g2 (y_fin G x2)) : y_P G (y_m G f0 k) n H := y_congS G h fun j hj => by
  unfold y_n y_m
  by_cases h1 : j < k
  · rw [if_pos h1, if_pos h1]
    exact y_sim_rf
  · rw [if_neg h1, if_neg h1]
    by_cases h2 : j = k
    · rw [if_pos h2, h2]
      exact he
    · rw [if_neg h2]
      by_cases h3 : j = x
      · rw [if_pos h3, h3]
        exact hg
      · rw [if_neg h3]
        by_cases h4 : j = x2
        · rw [if_pos h4, h4]
          exact hg2
        · rw [if_neg h4]
          exact y_sim_rf
/-- one more final cell -/
theorem y_one (G : m_G) {f0 : Nat → va_E} {k n x x2 : Nat} {e g g2 a : va_E} {H : Heap} (h : y_P G (va_up (y_n G f0 k e x g x2 g2) n a) (n + 1) H) (hk : k < n) (hx : x ≠ n) (hx2 : x2 ≠ n) (ha : a = y_fin G n) : y_P G (y_n G f0 k e x g x2 g2) (n + 1) H := y_congr G h fun j hj => by
  by_cases h1 : j = n
  · subst h1
    rw [va_up_self, ha]
    unfold y_n
    rw [if_neg (by omega), if_neg (by omega), if_neg (Ne.symm hx), if_neg (Ne.symm hx2)]
  · rw [va_up_ne _ _ h1]
theorem y_oneX (G : m_G) {f0 : Nat → va_E} {k n x2 : Nat} {e g g' g2 : va_E} {H : Heap} (h : y_P G (va_up (y_n G f0 k e n g x2 g2) n g') (n + 1) H) (hk : k < n) : y_P G (y_n G f0 k e n g' x2 g2) (n + 1) H := y_congr G h fun j hj => by
  by_cases h1 : j = n
  · subst h1
    rw [va_up_self]
    unfold y_n
    rw [if_neg (by omega), if_neg (by omega), if_pos rfl]
  · rw [va_up_ne _ _ h1]
    unfold y_n
    rw [if_neg h1, if_neg h1]
theorem y_oneX2 (G : m_G) {f0 : Nat → va_E} {k n x : Nat} {e g g2 g' : va_E} {H : Heap} (h : y_P G (va_up (y_n G f0 k e x g n g2) n g') (n + 1) H) (hk : k < n) (hx : x ≠ n) : y_P G (y_n G f0 k e x g n g') (n + 1) H := y_congr G h fun j hj => by
  by_cases h1 : j = n
  · subst h1
    rw [va_up_self]
    unfold y_n
    rw [if_neg (by omega), if_neg (by omega), if_neg (Ne.symm hx), if_pos rfl]
  · rw [va_up_ne _ _ h1]
    unfold y_n
    rw [if_neg h1, if_neg h1]
/-- the object's own cell, the row in flux: written -/
theorem y_own (G : m_G) {f0 : Nat → va_E} {k n x x2 : Nat} {e e' g g2 : va_E} {H : Heap} (h : y_P G (va_up (y_n G f0 k e x g x2 g2) k e') n H) : y_P G (y_n G f0 k e' x g x2 g2) n H := y_congr G h fun j hj => by
  by_cases h1 : j = k
  · subst h1
    rw [va_up_self]
    unfold y_n
    rw [if_neg (Nat.lt_irrefl _), if_pos rfl]
  · rw [va_up_ne _ _ h1]
    unfold y_n
    rw [if_neg h1, if_neg h1]
theorem y_rowX (G : m_G) {f0 : Nat → va_E} {k n x x2 : Nat} {e g g' g2 : va_E} {H : Heap} (h : y_P G (va_up (y_n G f0 k e x g x2 g2) x g') n H) (hk : k < x) : y_P G (y_n G f0 k e x g' x2 g2) n H := y_congr G h fun j hj => by
  by_cases h1 : j = x
  · subst h1
    rw [va_up_self]
    unfold y_n
    rw [if_neg (by omega), if_neg (by omega), if_pos rfl]
  · rw [va_up_ne _ _ h1]
    unfold y_n
    rw [if_neg h1, if_neg h1]
theorem y_rowX2 (G : m_G) {f0 : Nat → va_E} {k n x x2 : Nat} {e g g' g2 : va_E} {H : Heap} (h : y_P G (va_up (y_n G f0 k e x g x2 g2) x2 g') n H) (hk : k < x2) (hx : x ≠ x2) : y_P G (y_n G f0 k e x g x2 g') n H := y_congr G h fun j hj => by
  by_cases h1 : j = x2
  · subst h1
    rw [va_up_self]
    unfold y_n
    rw [if_neg (by omega), if_neg (by omega), if_neg (Ne.symm hx), if_pos rfl]
  · rw [va_up_ne _ _ h1]
    unfold y_n
    rw [if_neg h1, if_neg h1]
/-- a made object, whole -/
theorem y_made (G : m_G) {f0 : Nat → va_E} {k n n' x x2 : Nat} {e g g2 a : va_E} {H : Heap} (h : y_P G (y_m G (va_up (y_n G f0 k e x g x2 g2) n a) n) n' H) (hk : k < n) (hx : x < n ∨ n' ≤ x) (hx2 : x2 < n ∨ n' ≤ x2) : y_P G (y_n G f0 k e x g x2 g2) n' H := y_congr G h fun j hj => by
  unfold y_m
  by_cases h1 : j < n
  · rw [if_pos h1, va_up_ne _ _ (by omega)]
  · rw [if_neg h1]
    unfold y_n
    rw [if_neg (by omega), if_neg (by omega), if_neg (by omega), if_neg (by omega)]
theorem y_n_own {G : m_G} {f0 : Nat → va_E} {k x x2 : Nat} {e g g2 : va_E} : y_n G f0 k e x g x2 g2 k = e := by
  unfold y_n
  rw [if_neg (Nat.lt_irrefl _), if_pos rfl]
theorem y_n_x {G : m_G} {f0 : Nat → va_E} {k x x2 : Nat} {e g g2 : va_E} (h : k < x) : y_n G f0 k e x g x2 g2 x = g := by
  unfold y_n
  rw [if_neg (by omega), if_neg (by omega), if_pos rfl]
theorem y_n_x2 {G : m_G} {f0 : Nat → va_E} {k x x2 : Nat} {e g g2 : va_E} (h : k < x2) (hx : x ≠ x2) : y_n G f0 k e x g x2 g2 x2 = g2 := by
  unfold y_n
  rw [if_neg (by omega), if_neg (by omega), if_neg (Ne.symm hx), if_pos rfl]
theorem y_n_fin {G : m_G} {f0 : Nat → va_E} {k x x2 j : Nat} {e g g2 : va_E} (h : k < j) (hx : j ≠ x) (hx2 : j ≠ x2) : y_n G f0 k e x g x2 g2 j = y_fin G j := by
  unfold y_n
  rw [if_neg (by omega), if_neg (by omega), if_neg hx, if_neg hx2]
/-! contracts of constructors -/
abbrev y_R (fr w mc ms : Nat) : Room := { frames := fr, cells := mc, slots := ms, locals := w }
def m_ao (s : State) : Prop := va_AO "SonsPurse$Deal" s ∧ va_AO "SonsPurse$Kept" s ∧ va_AO "SonsPurse$Law" s ∧ va_AO "SonsPurse$Person" s
theorem m_ao.move {s U : State} (h : m_ao s) (hW : s.vm.Alike U.vm) : m_ao U := ⟨h.1.moved hW, h.2.1.moved hW, h.2.2.1.moved hW, h.2.2.2.moved hW⟩
def y_Pc (G : m_G) (As : List Value) (f : Nat → va_E) (n : Nat) : Array Value → State → Prop := va_Pc As (fun U => m_S G U ∧ m_ao U ∧ y_P G f n U.heap)
abbrev y_Qv (G : m_G) (f : Nat → va_E) (n : Nat) : Array Value → State → Outcome → State → Prop := va_Qv (fun (_ : Unit) => True) (fun _ t => y_P G f n t.heap) (m_A G)
theorem y_blind (G : m_G) (As : List Value) (f : Nat → va_E) (n : Nat) : FrameBlind (y_Pc G As f n) := fun a U g mk h => ⟨h.1, h.2.1.call, h.2.2.1.move (U := U.calling g mk a) (Vm.Alike.refl U.vm), h.2.2.2⟩
theorem y_i0 {l : Launch} {y : MethodName} {cc : ByteArray} {nL : Nat} {G : m_G} {As : List Value} {f : Nat → va_E} {n fr w mc ms : Nat} {Qc : Array Value → State → Outcome → State → Prop} (own : String) (ho : y.cls = own) (hyn : y.name = "<init>") (hy : plainName y.cls = true) (hn : (lg_sl As).length ≤ nL)
    (hb : ∀ (p : Program) (e : Env) (s : State) (m : MethodId) (args : Array Value) (below : List Frame) (meth : Method) (c : Code), CallFix p m c cc nL s args m_ws own → meth.name = "<init>" → meth.sig.returnType = none → meth.locks = false → m_S G s → m_ao s → y_P G f n s.heap → va_S (m_A G) s.heap s.heap [] → ∀ ls : Array Slot, lv_has ls nL (lv_args 0 As) → W p l e (y_R fr w mc ms) s m args below meth c s.heap [] 0 0 (MQ below Qc args s mc ms (m_A G)) (F0 m 0 ls [])) :
    Met l y (m_U y cc nL none) (y_R fr w mc ms) (y_Pc G As f n) Qc mc ms (m_A G) := by
  refine Met.ofW (cc := cc) (maxL := nL) (ret := none) hy rfl ?_
  intro p e s m args below meth c s₁ B hml hv
  obtain ⟨rfl, hSt, hAo, hP⟩ := hv
  have hts := atoms_spec (ws := m_U y cc nL none) B.pre
  have hown : s.vm.findClass own = some m.cls := ho ▸ findClass_of_methodNamed B.named
  have hnm : meth.name = "<init>" := (name_of_methodNamed B.named B.method).1.trans hyn
  rw [lg_entry_eq]
  exact hb p e s m As.toArray below meth c ⟨B.exec, B.bytes, hml, hown, fun w hw => hts w (List.mem_cons_of_mem _ hw)⟩ hnm B.returns B.notSynchronized hSt hAo hP va_S.rf _ (lv_entry As hn)
section YCALLS
variable {p : Program} {l : Launch} {e : Env} {R : Room} {s : State} {m : MethodId} {args : Array Value} {below : List Frame} {meth : Method} {c : Code} {H : Heap} {locs : List Loc} {cells slots : Nat} {Q : State → Prop}
variable {cc : ByteArray} {pc nL n : Nat} {ls : Array Slot} {rest st : List Value} {own : String} {G : m_G} {f : Nat → va_E}
theorem y_rv (X : CallFix p m c cc nL s args m_ws own) (hr : meth.sig.returnType = none) (hlk : meth.locks = false) (hP : y_P G f n H) (hS : va_S (m_A G) s.heap H locs) (hdg : decode cc pc = .ok (.return_, 1)) :
    W p l e R s m args below meth c H locs cells slots (MQ below (y_Qv G f n) args s cells slots (m_A G)) (F0 m pc ls []) :=
  W.vret X.1 X.2.1 hr (fun t ht _ => ⟨⟨(), rfl, trivial, by show y_P G f n t.heap; rw [ht]; exact hP⟩, hS.F ht⟩) hS.2.2 hdg hlk
/-- a constructor is called -/
theorem y_ci (X : CallFix p m c cc nL s args m_ws own) (hSt : m_S G s) (hAo : m_ao s) (hP : y_P G f n H) (hS : va_S (m_A G) s.heap H locs) (hls : ls.size = nL) {y : MethodName} {bytes : ByteArray} {maxL q idx fr w mc ms a n' : Nat} {host : String} {As : List Value} {f' : Nat → va_E}
    (hM : Met l y (m_U y bytes maxL none) (y_R fr w mc ms) (y_Pc G (.ref a :: As) f n) (y_Qv G f' n') mc ms (m_A G))
    (hcode : Cond.code y bytes maxL none ∈ m_ws) (hlk : va_Nw (.methodLinkNest own idx y host) s) (hin : Cond.instanceMethod y ∈ m_ws) (hini : Cond.initialized y.cls ∈ m_ws) (hy1 : y.name = "<init>") (hd : y.cls ≠ "java/lang/invoke/MethodHandle" ∧ y.cls ≠ "java/lang/invoke/VarHandle" ∧ (parseMethodDescriptor y.desc).map (fun d => d.parameters.length) = some q)
    (hn : As.length = q) (hst : st = As.reverse ++ .ref a :: rest) (hR : fr + 1 ≤ R.frames ∧ 8 + (maxL + 11) + w ≤ R.locals) (hrest : (rest.map fun v => v.category).sum ≤ 8) (hf : cells + mc ≤ R.cells ∧ slots + ms ≤ R.slots) (hdg : decode cc pc = .ok (.invokespecial idx, 3))
    (kk : ∀ (H1 : Heap) (locs1 : List Loc), y_P G f' n' H1 → va_S (m_A G) s.heap H1 locs1 → W p l e R s m args below meth c H1 locs1 (cells + mc) (slots + ms) Q (F0 m (pc + 3) ls rest)) : W p l e R s m args below meth c H locs cells slots Q (F0 m pc ls st) := by
  have hX := X.2.2.2.2
  refine va_callv (va_runIN (n := q) (As := As) (rest := rest) (g := F0 m pc ls st) X hM ⟨va_cnB q hX (m_goodU hcode) rfl rfl rfl hlk (hX _ hini) hd hR, hy1, hX _ hin⟩ ⟨y_blind G _ f n, fun U hU hW => ⟨rfl, hSt.move hS hU hW, hAo.move hW.alike, by rw [hU]; exact hP⟩⟩ rfl hn hls hst (lv_room (rest := st) hrest) hdg hf) hS (fun _ _ h => h) (fun _ h => h) (fun _ t H1 locs1 ht _ _ hB _ _ hS1 => kk H1 locs1 (by rw [← ht]; exact hB) hS1)
theorem y_cj (X : CallFix p m c cc nL s args m_ws own) (hSt : m_S G s) (hAo : m_ao s) (hP : y_P G f n H) (hS : va_S (m_A G) s.heap H locs) (hls : ls.size = nL) {y : MethodName} {bytes : ByteArray} {maxL q idx fr w mc ms a n' : Nat} {As : List Value} {f' : Nat → va_E}
    (hM : Met l y (m_U y bytes maxL none) (y_R fr w mc ms) (y_Pc G (.ref a :: As) f n) (y_Qv G f' n') mc ms (m_A G))
    (hcode : Cond.code y bytes maxL none ∈ m_ws) (hlk : Cond.methodLink own idx y ∈ m_ws) (hin : Cond.instanceMethod y ∈ m_ws) (hini : Cond.initialized y.cls ∈ m_ws) (hy1 : y.name = "<init>") (hd : y.cls ≠ "java/lang/invoke/MethodHandle" ∧ y.cls ≠ "java/lang/invoke/VarHandle" ∧ (parseMethodDescriptor y.desc).map (fun d => d.parameters.length) = some q)
    (hn : As.length = q) (hst : st = As.reverse ++ .ref a :: rest) (hR : fr + 1 ≤ R.frames ∧ 8 + (maxL + 11) + w ≤ R.locals) (hrest : (rest.map fun v => v.category).sum ≤ 8) (hf : cells + mc ≤ R.cells ∧ slots + ms ≤ R.slots) (hdg : decode cc pc = .ok (.invokespecial idx, 3))
    (kk : ∀ (H1 : Heap) (locs1 : List Loc), y_P G f' n' H1 → va_S (m_A G) s.heap H1 locs1 → W p l e R s m args below meth c H1 locs1 (cells + mc) (slots + ms) Q (F0 m (pc + 3) ls rest)) : W p l e R s m args below meth c H locs cells slots Q (F0 m pc ls st) := by
  have hX := X.2.2.2.2
  refine va_callv (va_runI (n := q) (As := As) (rest := rest) (g := F0 m pc ls st) X hM (cwI q hX (m_goodU hcode) rfl rfl rfl (hX _ hini) (hX _ hlk) (hX _ hin) hy1 hd hR) ⟨y_blind G _ f n, fun U hU hW => ⟨rfl, hSt.move hS hU hW, hAo.move hW.alike, by rw [hU]; exact hP⟩⟩ rfl hn hls hst (lv_room (rest := st) hrest) hdg hf) hS (fun _ _ h => h) (fun _ h => h) (fun _ t H1 locs1 ht _ _ hB _ _ hS1 => kk H1 locs1 (by rw [← ht]; exact hB) hS1)
end YCALLS

theorem y_df0 : ∀ j, j < 10 → defaultValue (tyX0 j) = vp_V [.int 0, .int 0, .int 0, .int 0, .int 0, .int 0, .int 0, .int 0, .int 0, .int 0] j := by decide +kernel
theorem y_df1 : ∀ j, j < 6 → defaultValue (tyX1 j) = vp_V [.null, .null, .null, .null, .int 0, .int 0] j := by decide +kernel
theorem y_df2 : ∀ j, j < 9 → defaultValue (tyX2 j) = vp_V [.null, .int 0, .int 0, .int 0, .int 0, .int 0, .int 0, .int 0, .int 0] j := by decide +kernel
theorem y_df3 : ∀ j, j < 8 → defaultValue (tyX3 j) = vp_V [.int 0, .int 0, .int 0, .int 0, .int 0, .null, .null, .null] j := by decide +kernel
theorem y_df4 : ∀ j, j < 8 → defaultValue (tyX4 j) = vp_V [.null, .int 0, .null, .null, .null, .int 0, .int 0, .int 0] j := by decide +kernel
theorem y_df5 : ∀ j, j < 11 → defaultValue (tyX5 j) = vp_V [.int 0, .int 0, .int 0, .int 0, .int 0, .int 0, .int 0, .null, .null, .null, .null] j := by decide +kernel
theorem y_df6 : ∀ j, j < 11 → defaultValue (tyX6 j) = vp_V [.int 0, .null, .null, .null, .null, .null, .null, .null, .null, .long 0, .long 0] j := by decide +kernel
theorem y_df7 : ∀ j, j < 10 → defaultValue (tyX7 j) = vp_V [.null, .null, .null, .null, .null, .null, .null, .null, .long 0, .long 0] j := by decide +kernel
theorem y_df8 : ∀ j, j < 54 → defaultValue (tyX8 j) = vp_V [.null, .null, .null, .null, .int 0, .long 0, .long 0, .null, .null, .null, .null, .null, .null, .null, .null, .null, .null, .null, .null, .null, .null, .null, .int 0, .int 0, .int 0, .int 0, .int 0, .int 0, .int 0, .int 0, .int 0, .int 0, .int 0, .int 0, .int 0, .int 0, .int 0, .int 0, .int 0, .null, .int 0, .null, .int 0, .null, .long 0, .null, .long 0, .long 0, .null, .null, .null, .null, .null, .null] j := by decide +kernel
def y_gP (G : m_G) (i : Nat) : Nat → Option Nat := fun j => if j < i then some (m_ad G (49 + 5 * j)) else none
def y_gD (G : m_G) (i : Nat) : Nat → Option Nat := fun j => if j < i then some (m_ad G (99 + j)) else none
theorem y_gP_zero (G : m_G) : y_gP G 0 = fun _ => none := funext fun j => if_neg (Nat.not_lt_zero j)
theorem y_gD_zero (G : m_G) : y_gD G 0 = fun _ => none := funext fun j => if_neg (Nat.not_lt_zero j)
theorem y_gP_succ (G : m_G) (i : Nat) : va_up (y_gP G i) i (some (m_ad G (49 + 5 * i))) = y_gP G (i + 1) := funext fun j => by
  unfold y_gP
  by_cases h : j = i
  · subst h
    rw [va_up_self, if_pos (Nat.lt_succ_self _)]
  · rw [va_up_ne _ _ h]
    by_cases h2 : j < i
    · rw [if_pos h2, if_pos (by omega)]
    · rw [if_neg h2, if_neg (by omega)]
theorem y_gD_succ (G : m_G) (i : Nat) : va_up (y_gD G i) i (some (m_ad G (99 + i))) = y_gD G (i + 1) := funext fun j => by
  unfold y_gD
  by_cases h : j = i
  · subst h
    rw [va_up_self, if_pos (Nat.lt_succ_self _)]
  · rw [va_up_ne _ _ h]
    by_cases h2 : j < i
    · rw [if_pos h2, if_pos (by omega)]
    · rw [if_neg h2, if_neg (by omega)]
theorem y_done0 (G : m_G) {f0 : Nat → va_E} {k n : Nat} {e g g2 : va_E} {H : Heap} (h : y_P G (y_n G f0 k e k g k g2) n H) (he : y_sim G k e (y_fin G k)) : y_P G (y_m G f0 k) n H := y_congS G h fun j hj => by
  unfold y_n y_m
  by_cases h1 : j < k
  · rw [if_pos h1, if_pos h1]
    exact y_sim_rf
  · rw [if_neg h1, if_neg h1]
    by_cases h2 : j = k
    · rw [if_pos h2, h2]
      exact he
    · rw [if_neg h2, if_neg h2, if_neg h2]
      exact y_sim_rf
theorem y_done1 (G : m_G) {f0 : Nat → va_E} {k n x : Nat} {e g g2 : va_E} {H : Heap} (h : y_P G (y_n G f0 k e x g k g2) n H) (he : y_sim G k e (y_fin G k)) (hg : y_sim G x g (y_fin G x)) : y_P G (y_m G f0 k) n H := y_congS G h fun j hj => by
  unfold y_n y_m
  by_cases h1 : j < k
  · rw [if_pos h1, if_pos h1]
    exact y_sim_rf
  · rw [if_neg h1, if_neg h1]
    by_cases h2 : j = k
    · rw [if_pos h2, h2]
      exact he
    · rw [if_neg h2]
      by_cases h3 : j = x
      · rw [if_pos h3, h3]
        exact hg
      · rw [if_neg h3, if_neg h2]
        exact y_sim_rf
theorem dX0_init_0 : decode cX0_init 0 = .ok (.aload_n 0, 1) := by decide +kernel
theorem dX0_init_1 : decode cX0_init 1 = .ok (.invokespecial 1, 3) := by decide +kernel
theorem dX0_init_4 : decode cX0_init 4 = .ok (.return_, 1) := by decide +kernel
set_option maxHeartbeats 4000000 in
set_option maxRecDepth 100000 in
theorem c_X0_init (l : Launch) (G : m_G) (k : Nat) (f0 : Nat → va_E) (hk : m_isDeal k) (hf0 : f0 k = .inr (0, [.int 0, .int 0, .int 0, .int 0, .int 0, .int 0, .int 0, .int 0, .int 0, .int 0])) : Met l yX0_init (m_U yX0_init cX0_init 1 none) (y_R 1 24 0 0) (y_Pc G [.ref (m_ad G k)] f0 ((k + 1))) (y_Qv G (y_m G f0 k) ((k + 1))) 0 0 (m_A G) := by
  refine y_i0 (nL := 1) RX0 rfl rfl (by decide) (Nat.le_of_ble_eq_true rfl) ?_
  intro p e s m args below meth c X hin hr hlk hSt hAo hP hS ls hl
  have hl : lv_has ls 1 [(0, .ref (m_ad G k))] := hl
  have hP := y_start G (x := k) (x2 := k) (g := .inr (99, [])) (g2 := .inr (99, [])) hP hf0
  refine lv_aload_n X.1 X.2.1 dX0_init_0 rfl (lv_at hl 0 rfl) ?_
  refine W.objInit X.1 X.2.1 X.2.2.2.1 (X.2.2.2.2 _ k_m_X0_1) (X.2.2.2.2 _ k_i_objectInit) (X.2.2.2.2 _ k_c_objectInit) rfl (by rw [X.2.2.1]; exact hl.1) rfl dX0_init_1 (Nat.le_of_ble_eq_true rfl) (Nat.le_of_ble_eq_true rfl) ?_
  refine W.eq (g2 := F0 m 4 ls []) rfl ?_
  refine W.widen (k := 0) (n := 0) (Nat.le_of_ble_eq_true rfl) (Nat.le_of_ble_eq_true rfl) ?_
  exact y_rv X hr hlk (y_done0 G hP (by rw [y_fin_of G hk]; exact y_sim_rf)) hS dX0_init_4

theorem dX4_init_0 : decode cX4_init 0 = .ok (.aload_n 0, 1) := by decide +kernel
theorem dX4_init_1 : decode cX4_init 1 = .ok (.invokespecial 3, 3) := by decide +kernel
theorem dX4_init_4 : decode cX4_init 4 = .ok (.aload_n 0, 1) := by decide +kernel
theorem dX4_init_5 : decode cX4_init 5 = .ok (.bipush 50, 2) := by decide +kernel
theorem dX4_init_7 : decode cX4_init 7 = .ok (.newarray .int, 2) := by decide +kernel
theorem dX4_init_9 : decode cX4_init 9 = .ok (.putfield 9, 3) := by decide +kernel
theorem dX4_init_12 : decode cX4_init 12 = .ok (.aload_n 0, 1) := by decide +kernel
theorem dX4_init_13 : decode cX4_init 13 = .ok (.bipush 50, 2) := by decide +kernel
theorem dX4_init_15 : decode cX4_init 15 = .ok (.newarray .int, 2) := by decide +kernel
theorem dX4_init_17 : decode cX4_init 17 = .ok (.putfield 15, 3) := by decide +kernel
theorem dX4_init_20 : decode cX4_init 20 = .ok (.aload_n 0, 1) := by decide +kernel
theorem dX4_init_21 : decode cX4_init 21 = .ok (.bipush 50, 2) := by decide +kernel
theorem dX4_init_23 : decode cX4_init 23 = .ok (.newarray .long, 2) := by decide +kernel
theorem dX4_init_25 : decode cX4_init 25 = .ok (.putfield 18, 3) := by decide +kernel
theorem dX4_init_28 : decode cX4_init 28 = .ok (.aload_n 0, 1) := by decide +kernel
theorem dX4_init_29 : decode cX4_init 29 = .ok (.bipush 50, 2) := by decide +kernel
theorem dX4_init_31 : decode cX4_init 31 = .ok (.newarray .long, 2) := by decide +kernel
theorem dX4_init_33 : decode cX4_init 33 = .ok (.putfield 22, 3) := by decide +kernel
theorem dX4_init_36 : decode cX4_init 36 = .ok (.aload_n 0, 1) := by decide +kernel
theorem dX4_init_37 : decode cX4_init 37 = .ok (.iconst 1, 1) := by decide +kernel
theorem dX4_init_38 : decode cX4_init 38 = .ok (.putfield 25, 3) := by decide +kernel
theorem dX4_init_41 : decode cX4_init 41 = .ok (.return_, 1) := by decide +kernel
set_option maxHeartbeats 4000000 in
set_option maxRecDepth 100000 in
theorem c_X4_init (l : Launch) (G : m_G) (k : Nat) (f0 : Nat → va_E) (hk : m_isLaw k) (hf0 : f0 k = .inr (4, [.null, .int 0, .null, .null, .null, .int 0, .int 0, .int 0])) : Met l yX4_init (m_U yX4_init cX4_init 1 none) (y_R 1 24 4 200) (y_Pc G [.ref (m_ad G k)] f0 ((k + 1))) (y_Qv G (y_m G f0 k) ((k + 5))) 4 200 (m_A G) := by
  refine y_i0 (nL := 1) RX4 rfl rfl (by decide) (Nat.le_of_ble_eq_true rfl) ?_
  intro p e s m args below meth c X hin hr hlk hSt hAo hP hS ls hl
  have hl : lv_has ls 1 [(0, .ref (m_ad G k))] := hl
  have hP := y_start G (x := k) (x2 := k) (g := .inr (99, [])) (g2 := .inr (99, [])) hP hf0
  refine lv_aload_n X.1 X.2.1 dX4_init_0 rfl (lv_at hl 0 rfl) ?_
  refine W.objInit X.1 X.2.1 X.2.2.2.1 (X.2.2.2.2 _ k_m_X4_3) (X.2.2.2.2 _ k_i_objectInit) (X.2.2.2.2 _ k_c_objectInit) rfl (by rw [X.2.2.1]; exact hl.1) rfl dX4_init_1 (Nat.le_of_ble_eq_true rfl) (Nat.le_of_ble_eq_true rfl) ?_
  refine W.eq (g2 := F0 m 4 ls []) rfl ?_
  refine lv_aload_n X.1 X.2.1 dX4_init_4 rfl (lv_at hl 0 rfl) ?_
  refine lv_bipush (v := 50) X.1 X.2.1 dX4_init_5 (by decide) ?_
  refine y_na (atype := .int) X hSt hP hS 0 (ty := .int) rfl k_a_int (cA := G.2.1 0) rfl (fun cB h1 h2 => Option.some.inj (h2.symm.trans h1)) (N' := 50) (a0 := (50, .inl (fun _ => 0))) rfl (by decide) (by decide +kernel) (Nat.le_of_ble_eq_true rfl) (Nat.le_of_ble_eq_true rfl) (Nat.le_of_ble_eq_true rfl) dX4_init_7 (fun H hP hS => ?_)
  have hP := y_one G hP (by omega) (by omega) (by omega) (by rw [y_fin_of G hk.2.1]; rfl)
  have hP : y_P G (y_n G f0 k (.inr (4, [.null, .int 0, .null, .null, .null, .int 0, .int 0, .int 0])) k (.inr (99, [])) k (.inr (99, []))) ((k + 2)) H := hP
  refine y_pf (v := .ref (m_ad G (k + 1))) X hSt hP hS (ci := 4) inlX4 tyX4 tyX4_ok nmX4 rfl (k := k) (by omega) (fs := [.null, .int 0, .null, .null, .null, .int 0, .int 0, .int 0]) y_n_own 0 (by decide) hin rfl (tyX4_ok 0 (by decide)) rfl rfl (Nat.le_of_ble_eq_true rfl) k_f_X4_9 dX4_init_9 (fun H locs hP hS => ?_)
  have hP := y_own G hP
  have hP : y_P G (y_n G f0 k (.inr (4, [.ref (m_ad G (k + 1)), .int 0, .null, .null, .null, .int 0, .int 0, .int 0])) k (.inr (99, [])) k (.inr (99, []))) ((k + 2)) H := hP
  refine lv_aload_n X.1 X.2.1 dX4_init_12 rfl (lv_at hl 0 rfl) ?_
  refine lv_bipush (v := 50) X.1 X.2.1 dX4_init_13 (by decide) ?_
  refine y_na (atype := .int) X hSt hP hS 0 (ty := .int) rfl k_a_int (cA := G.2.1 0) rfl (fun cB h1 h2 => Option.some.inj (h2.symm.trans h1)) (N' := 50) (a0 := (50, .inl (fun _ => 0))) rfl (by decide) (by decide +kernel) (Nat.le_of_ble_eq_true rfl) (Nat.le_of_ble_eq_true rfl) (Nat.le_of_ble_eq_true rfl) dX4_init_15 (fun H hP hS => ?_)
  have hP := y_one G hP (by omega) (by omega) (by omega) (by rw [y_fin_of G hk.2.2.1]; rfl)
  have hP : y_P G (y_n G f0 k (.inr (4, [.ref (m_ad G (k + 1)), .int 0, .null, .null, .null, .int 0, .int 0, .int 0])) k (.inr (99, [])) k (.inr (99, []))) ((k + 3)) H := hP
  refine y_pf (v := .ref (m_ad G (k + 2))) X hSt hP hS (ci := 4) inlX4 tyX4 tyX4_ok nmX4 rfl (k := k) (by omega) (fs := [.ref (m_ad G (k + 1)), .int 0, .null, .null, .null, .int 0, .int 0, .int 0]) y_n_own 2 (by decide) hin rfl (tyX4_ok 2 (by decide)) rfl rfl (Nat.le_of_ble_eq_true rfl) k_f_X4_15 dX4_init_17 (fun H locs hP hS => ?_)
  have hP := y_own G hP
  have hP : y_P G (y_n G f0 k (.inr (4, [.ref (m_ad G (k + 1)), .int 0, .ref (m_ad G (k + 2)), .null, .null, .int 0, .int 0, .int 0])) k (.inr (99, [])) k (.inr (99, []))) ((k + 3)) H := hP
  refine lv_aload_n X.1 X.2.1 dX4_init_20 rfl (lv_at hl 0 rfl) ?_
  refine lv_bipush (v := 50) X.1 X.2.1 dX4_init_21 (by decide) ?_
  refine y_na (atype := .long) X hSt hP hS 1 (ty := .long) rfl k_a_long (cA := G.2.1 1) rfl (fun cB h1 h2 => Option.some.inj (h2.symm.trans h1)) (N' := 50) (a0 := (50, .inr (.inl (fun _ => 0)))) rfl (by decide) (by decide +kernel) (Nat.le_of_ble_eq_true rfl) (Nat.le_of_ble_eq_true rfl) (Nat.le_of_ble_eq_true rfl) dX4_init_23 (fun H hP hS => ?_)
  have hP := y_one G hP (by omega) (by omega) (by omega) (by rw [y_fin_of G hk.2.2.2.1]; rfl)
  have hP : y_P G (y_n G f0 k (.inr (4, [.ref (m_ad G (k + 1)), .int 0, .ref (m_ad G (k + 2)), .null, .null, .int 0, .int 0, .int 0])) k (.inr (99, [])) k (.inr (99, []))) ((k + 4)) H := hP
  refine y_pf (v := .ref (m_ad G (k + 3))) X hSt hP hS (ci := 4) inlX4 tyX4 tyX4_ok nmX4 rfl (k := k) (by omega) (fs := [.ref (m_ad G (k + 1)), .int 0, .ref (m_ad G (k + 2)), .null, .null, .int 0, .int 0, .int 0]) y_n_own 3 (by decide) hin rfl (tyX4_ok 3 (by decide)) rfl rfl (Nat.le_of_ble_eq_true rfl) k_f_X4_18 dX4_init_25 (fun H locs hP hS => ?_)
  have hP := y_own G hP
  have hP : y_P G (y_n G f0 k (.inr (4, [.ref (m_ad G (k + 1)), .int 0, .ref (m_ad G (k + 2)), .ref (m_ad G (k + 3)), .null, .int 0, .int 0, .int 0])) k (.inr (99, [])) k (.inr (99, []))) ((k + 4)) H := hP
  refine lv_aload_n X.1 X.2.1 dX4_init_28 rfl (lv_at hl 0 rfl) ?_
  refine lv_bipush (v := 50) X.1 X.2.1 dX4_init_29 (by decide) ?_
  refine y_na (atype := .long) X hSt hP hS 1 (ty := .long) rfl k_a_long (cA := G.2.1 1) rfl (fun cB h1 h2 => Option.some.inj (h2.symm.trans h1)) (N' := 50) (a0 := (50, .inr (.inl (fun _ => 0)))) rfl (by decide) (by decide +kernel) (Nat.le_of_ble_eq_true rfl) (Nat.le_of_ble_eq_true rfl) (Nat.le_of_ble_eq_true rfl) dX4_init_31 (fun H hP hS => ?_)
  have hP := y_one G hP (by omega) (by omega) (by omega) (by rw [y_fin_of G hk.2.2.2.2]; rfl)
  have hP : y_P G (y_n G f0 k (.inr (4, [.ref (m_ad G (k + 1)), .int 0, .ref (m_ad G (k + 2)), .ref (m_ad G (k + 3)), .null, .int 0, .int 0, .int 0])) k (.inr (99, [])) k (.inr (99, []))) ((k + 5)) H := hP
  refine y_pf (v := .ref (m_ad G (k + 4))) X hSt hP hS (ci := 4) inlX4 tyX4 tyX4_ok nmX4 rfl (k := k) (by omega) (fs := [.ref (m_ad G (k + 1)), .int 0, .ref (m_ad G (k + 2)), .ref (m_ad G (k + 3)), .null, .int 0, .int 0, .int 0]) y_n_own 4 (by decide) hin rfl (tyX4_ok 4 (by decide)) rfl rfl (Nat.le_of_ble_eq_true rfl) k_f_X4_22 dX4_init_33 (fun H locs hP hS => ?_)
  have hP := y_own G hP
  have hP : y_P G (y_n G f0 k (.inr (4, [.ref (m_ad G (k + 1)), .int 0, .ref (m_ad G (k + 2)), .ref (m_ad G (k + 3)), .ref (m_ad G (k + 4)), .int 0, .int 0, .int 0])) k (.inr (99, [])) k (.inr (99, []))) ((k + 5)) H := hP
  refine lv_aload_n X.1 X.2.1 dX4_init_36 rfl (lv_at hl 0 rfl) ?_
  refine lv_iconst (v := 1) X.1 X.2.1 dX4_init_37 (by decide) ?_
  refine y_pf (v := .int 1) X hSt hP hS (ci := 4) inlX4 tyX4 tyX4_ok nmX4 rfl (k := k) (by omega) (fs := [.ref (m_ad G (k + 1)), .int 0, .ref (m_ad G (k + 2)), .ref (m_ad G (k + 3)), .ref (m_ad G (k + 4)), .int 0, .int 0, .int 0]) y_n_own 7 (by decide) hin rfl (tyX4_ok 7 (by decide)) rfl rfl (Nat.le_of_ble_eq_true rfl) k_f_X4_25 dX4_init_38 (fun H locs hP hS => ?_)
  have hP := y_own G hP
  have hP : y_P G (y_n G f0 k (.inr (4, [.ref (m_ad G (k + 1)), .int 0, .ref (m_ad G (k + 2)), .ref (m_ad G (k + 3)), .ref (m_ad G (k + 4)), .int 0, .int 0, .int 1])) k (.inr (99, [])) k (.inr (99, []))) ((k + 5)) H := hP
  refine W.widen (k := 4) (n := 200) (Nat.le_of_ble_eq_true rfl) (Nat.le_of_ble_eq_true rfl) ?_
  exact y_rv X hr hlk (y_done0 G hP (by rw [y_fin_of G hk.1]; exact y_sim_rf)) hS dX4_init_41

theorem dX5_init_0 : decode cX5_init 0 = .ok (.aload_n 0, 1) := by decide +kernel
theorem dX5_init_1 : decode cX5_init 1 = .ok (.invokespecial 3, 3) := by decide +kernel
theorem dX5_init_4 : decode cX5_init 4 = .ok (.aload_n 0, 1) := by decide +kernel
theorem dX5_init_5 : decode cX5_init 5 = .ok (.iconst 4, 1) := by decide +kernel
theorem dX5_init_6 : decode cX5_init 6 = .ok (.newarray .int, 2) := by decide +kernel
theorem dX5_init_8 : decode cX5_init 8 = .ok (.putfield 9, 3) := by decide +kernel
theorem dX5_init_11 : decode cX5_init 11 = .ok (.aload_n 0, 1) := by decide +kernel
theorem dX5_init_12 : decode cX5_init 12 = .ok (.bipush 10, 2) := by decide +kernel
theorem dX5_init_14 : decode cX5_init 14 = .ok (.newarray .int, 2) := by decide +kernel
theorem dX5_init_16 : decode cX5_init 16 = .ok (.putfield 15, 3) := by decide +kernel
theorem dX5_init_19 : decode cX5_init 19 = .ok (.aload_n 0, 1) := by decide +kernel
theorem dX5_init_20 : decode cX5_init 20 = .ok (.iconst 4, 1) := by decide +kernel
theorem dX5_init_21 : decode cX5_init 21 = .ok (.newarray .boolean, 2) := by decide +kernel
theorem dX5_init_23 : decode cX5_init 23 = .ok (.putfield 18, 3) := by decide +kernel
theorem dX5_init_26 : decode cX5_init 26 = .ok (.aload_n 0, 1) := by decide +kernel
theorem dX5_init_27 : decode cX5_init 27 = .ok (.iconst 4, 1) := by decide +kernel
theorem dX5_init_28 : decode cX5_init 28 = .ok (.newarray .boolean, 2) := by decide +kernel
theorem dX5_init_30 : decode cX5_init 30 = .ok (.putfield 22, 3) := by decide +kernel
theorem dX5_init_33 : decode cX5_init 33 = .ok (.return_, 1) := by decide +kernel
set_option maxHeartbeats 4000000 in
set_option maxRecDepth 100000 in
theorem c_X5_init (l : Launch) (G : m_G) (k : Nat) (f0 : Nat → va_E) (hk : m_isPerson k) (hf0 : f0 k = .inr (5, [.int 0, .int 0, .int 0, .int 0, .int 0, .int 0, .int 0, .null, .null, .null, .null])) : Met l yX5_init (m_U yX5_init cX5_init 1 none) (y_R 1 24 4 22) (y_Pc G [.ref (m_ad G k)] f0 ((k + 1))) (y_Qv G (y_m G f0 k) ((k + 5))) 4 22 (m_A G) := by
  refine y_i0 (nL := 1) RX5 rfl rfl (by decide) (Nat.le_of_ble_eq_true rfl) ?_
  intro p e s m args below meth c X hin hr hlk hSt hAo hP hS ls hl
  have hl : lv_has ls 1 [(0, .ref (m_ad G k))] := hl
  have hP := y_start G (x := k) (x2 := k) (g := .inr (99, [])) (g2 := .inr (99, [])) hP hf0
  refine lv_aload_n X.1 X.2.1 dX5_init_0 rfl (lv_at hl 0 rfl) ?_
  refine W.objInit X.1 X.2.1 X.2.2.2.1 (X.2.2.2.2 _ k_m_X5_3) (X.2.2.2.2 _ k_i_objectInit) (X.2.2.2.2 _ k_c_objectInit) rfl (by rw [X.2.2.1]; exact hl.1) rfl dX5_init_1 (Nat.le_of_ble_eq_true rfl) (Nat.le_of_ble_eq_true rfl) ?_
  refine W.eq (g2 := F0 m 4 ls []) rfl ?_
  refine lv_aload_n X.1 X.2.1 dX5_init_4 rfl (lv_at hl 0 rfl) ?_
  refine lv_iconst (v := 4) X.1 X.2.1 dX5_init_5 (by decide) ?_
  refine y_na (atype := .int) X hSt hP hS 0 (ty := .int) rfl k_a_int (cA := G.2.1 0) rfl (fun cB h1 h2 => Option.some.inj (h2.symm.trans h1)) (N' := 4) (a0 := (4, .inl (fun _ => 0))) rfl (by decide) (by decide +kernel) (Nat.le_of_ble_eq_true rfl) (Nat.le_of_ble_eq_true rfl) (Nat.le_of_ble_eq_true rfl) dX5_init_6 (fun H hP hS => ?_)
  have hP := y_one G hP (by omega) (by omega) (by omega) (by rw [y_fin_of G hk.2.1]; rfl)
  have hP : y_P G (y_n G f0 k (.inr (5, [.int 0, .int 0, .int 0, .int 0, .int 0, .int 0, .int 0, .null, .null, .null, .null])) k (.inr (99, [])) k (.inr (99, []))) ((k + 2)) H := hP
  refine y_pf (v := .ref (m_ad G (k + 1))) X hSt hP hS (ci := 5) inlX5 tyX5 tyX5_ok nmX5 rfl (k := k) (by omega) (fs := [.int 0, .int 0, .int 0, .int 0, .int 0, .int 0, .int 0, .null, .null, .null, .null]) y_n_own 7 (by decide) hin rfl (tyX5_ok 7 (by decide)) rfl rfl (Nat.le_of_ble_eq_true rfl) k_f_X5_9 dX5_init_8 (fun H locs hP hS => ?_)
  have hP := y_own G hP
  have hP : y_P G (y_n G f0 k (.inr (5, [.int 0, .int 0, .int 0, .int 0, .int 0, .int 0, .int 0, .ref (m_ad G (k + 1)), .null, .null, .null])) k (.inr (99, [])) k (.inr (99, []))) ((k + 2)) H := hP
  refine lv_aload_n X.1 X.2.1 dX5_init_11 rfl (lv_at hl 0 rfl) ?_
  refine lv_bipush (v := 10) X.1 X.2.1 dX5_init_12 (by decide) ?_
  refine y_na (atype := .int) X hSt hP hS 0 (ty := .int) rfl k_a_int (cA := G.2.1 0) rfl (fun cB h1 h2 => Option.some.inj (h2.symm.trans h1)) (N' := 10) (a0 := (10, .inl (fun _ => 0))) rfl (by decide) (by decide +kernel) (Nat.le_of_ble_eq_true rfl) (Nat.le_of_ble_eq_true rfl) (Nat.le_of_ble_eq_true rfl) dX5_init_14 (fun H hP hS => ?_)
  have hP := y_one G hP (by omega) (by omega) (by omega) (by rw [y_fin_of G hk.2.2.1]; rfl)
  have hP : y_P G (y_n G f0 k (.inr (5, [.int 0, .int 0, .int 0, .int 0, .int 0, .int 0, .int 0, .ref (m_ad G (k + 1)), .null, .null, .null])) k (.inr (99, [])) k (.inr (99, []))) ((k + 3)) H := hP
  refine y_pf (v := .ref (m_ad G (k + 2))) X hSt hP hS (ci := 5) inlX5 tyX5 tyX5_ok nmX5 rfl (k := k) (by omega) (fs := [.int 0, .int 0, .int 0, .int 0, .int 0, .int 0, .int 0, .ref (m_ad G (k + 1)), .null, .null, .null]) y_n_own 8 (by decide) hin rfl (tyX5_ok 8 (by decide)) rfl rfl (Nat.le_of_ble_eq_true rfl) k_f_X5_15 dX5_init_16 (fun H locs hP hS => ?_)
  have hP := y_own G hP
  have hP : y_P G (y_n G f0 k (.inr (5, [.int 0, .int 0, .int 0, .int 0, .int 0, .int 0, .int 0, .ref (m_ad G (k + 1)), .ref (m_ad G (k + 2)), .null, .null])) k (.inr (99, [])) k (.inr (99, []))) ((k + 3)) H := hP
  refine lv_aload_n X.1 X.2.1 dX5_init_19 rfl (lv_at hl 0 rfl) ?_
  refine lv_iconst (v := 4) X.1 X.2.1 dX5_init_20 (by decide) ?_
  refine y_na (atype := .boolean) X hSt hP hS 2 (ty := .boolean) rfl k_a_boolean (cA := G.2.1 2) rfl (fun cB h1 h2 => Option.some.inj (h2.symm.trans h1)) (N' := 4) (a0 := (4, .inl (fun _ => 0))) rfl (by decide) (by decide +kernel) (Nat.le_of_ble_eq_true rfl) (Nat.le_of_ble_eq_true rfl) (Nat.le_of_ble_eq_true rfl) dX5_init_21 (fun H hP hS => ?_)
  have hP := y_one G hP (by omega) (by omega) (by omega) (by rw [y_fin_of G hk.2.2.2.1]; rfl)
  have hP : y_P G (y_n G f0 k (.inr (5, [.int 0, .int 0, .int 0, .int 0, .int 0, .int 0, .int 0, .ref (m_ad G (k + 1)), .ref (m_ad G (k + 2)), .null, .null])) k (.inr (99, [])) k (.inr (99, []))) ((k + 4)) H := hP
  refine y_pf (v := .ref (m_ad G (k + 3))) X hSt hP hS (ci := 5) inlX5 tyX5 tyX5_ok nmX5 rfl (k := k) (by omega) (fs := [.int 0, .int 0, .int 0, .int 0, .int 0, .int 0, .int 0, .ref (m_ad G (k + 1)), .ref (m_ad G (k + 2)), .null, .null]) y_n_own 9 (by decide) hin rfl (tyX5_ok 9 (by decide)) rfl rfl (Nat.le_of_ble_eq_true rfl) k_f_X5_18 dX5_init_23 (fun H locs hP hS => ?_)
  have hP := y_own G hP
  have hP : y_P G (y_n G f0 k (.inr (5, [.int 0, .int 0, .int 0, .int 0, .int 0, .int 0, .int 0, .ref (m_ad G (k + 1)), .ref (m_ad G (k + 2)), .ref (m_ad G (k + 3)), .null])) k (.inr (99, [])) k (.inr (99, []))) ((k + 4)) H := hP
  refine lv_aload_n X.1 X.2.1 dX5_init_26 rfl (lv_at hl 0 rfl) ?_
  refine lv_iconst (v := 4) X.1 X.2.1 dX5_init_27 (by decide) ?_
  refine y_na (atype := .boolean) X hSt hP hS 2 (ty := .boolean) rfl k_a_boolean (cA := G.2.1 2) rfl (fun cB h1 h2 => Option.some.inj (h2.symm.trans h1)) (N' := 4) (a0 := (4, .inl (fun _ => 0))) rfl (by decide) (by decide +kernel) (Nat.le_of_ble_eq_true rfl) (Nat.le_of_ble_eq_true rfl) (Nat.le_of_ble_eq_true rfl) dX5_init_28 (fun H hP hS => ?_)
  have hP := y_one G hP (by omega) (by omega) (by omega) (by rw [y_fin_of G hk.2.2.2.2]; rfl)
  have hP : y_P G (y_n G f0 k (.inr (5, [.int 0, .int 0, .int 0, .int 0, .int 0, .int 0, .int 0, .ref (m_ad G (k + 1)), .ref (m_ad G (k + 2)), .ref (m_ad G (k + 3)), .null])) k (.inr (99, [])) k (.inr (99, []))) ((k + 5)) H := hP
  refine y_pf (v := .ref (m_ad G (k + 4))) X hSt hP hS (ci := 5) inlX5 tyX5 tyX5_ok nmX5 rfl (k := k) (by omega) (fs := [.int 0, .int 0, .int 0, .int 0, .int 0, .int 0, .int 0, .ref (m_ad G (k + 1)), .ref (m_ad G (k + 2)), .ref (m_ad G (k + 3)), .null]) y_n_own 10 (by decide) hin rfl (tyX5_ok 10 (by decide)) rfl rfl (Nat.le_of_ble_eq_true rfl) k_f_X5_22 dX5_init_30 (fun H locs hP hS => ?_)
  have hP := y_own G hP
  have hP : y_P G (y_n G f0 k (.inr (5, [.int 0, .int 0, .int 0, .int 0, .int 0, .int 0, .int 0, .ref (m_ad G (k + 1)), .ref (m_ad G (k + 2)), .ref (m_ad G (k + 3)), .ref (m_ad G (k + 4))])) k (.inr (99, [])) k (.inr (99, []))) ((k + 5)) H := hP
  refine W.widen (k := 4) (n := 22) (Nat.le_of_ble_eq_true rfl) (Nat.le_of_ble_eq_true rfl) ?_
  exact y_rv X hr hlk (y_done0 G hP (by rw [y_fin_of G hk.1]; exact y_sim_rf)) hS dX5_init_33

theorem dX3_init_0 : decode cX3_init 0 = .ok (.aload_n 0, 1) := by decide +kernel
theorem dX3_init_1 : decode cX3_init 1 = .ok (.invokespecial 3, 3) := by decide +kernel
theorem dX3_init_4 : decode cX3_init 4 = .ok (.aload_n 0, 1) := by decide +kernel
theorem dX3_init_5 : decode cX3_init 5 = .ok (.sipush 360, 3) := by decide +kernel
theorem dX3_init_8 : decode cX3_init 8 = .ok (.newarray .int, 2) := by decide +kernel
theorem dX3_init_10 : decode cX3_init 10 = .ok (.putfield 9, 3) := by decide +kernel
theorem dX3_init_13 : decode cX3_init 13 = .ok (.aload_n 0, 1) := by decide +kernel
theorem dX3_init_14 : decode cX3_init 14 = .ok (.bipush 6, 2) := by decide +kernel
theorem dX3_init_16 : decode cX3_init 16 = .ok (.newarray .int, 2) := by decide +kernel
theorem dX3_init_18 : decode cX3_init 18 = .ok (.putfield 15, 3) := by decide +kernel
theorem dX3_init_21 : decode cX3_init 21 = .ok (.aload_n 0, 1) := by decide +kernel
theorem dX3_init_22 : decode cX3_init 22 = .ok (.iconst 2, 1) := by decide +kernel
theorem dX3_init_23 : decode cX3_init 23 = .ok (.anewarray 18, 3) := by decide +kernel
theorem dX3_init_26 : decode cX3_init 26 = .ok (.dup, 1) := by decide +kernel
theorem dX3_init_27 : decode cX3_init 27 = .ok (.iconst 0, 1) := by decide +kernel
theorem dX3_init_28 : decode cX3_init 28 = .ok (.new 18, 3) := by decide +kernel
theorem dX3_init_31 : decode cX3_init 31 = .ok (.dup, 1) := by decide +kernel
theorem dX3_init_32 : decode cX3_init 32 = .ok (.invokespecial 20, 3) := by decide +kernel
theorem dX3_init_35 : decode cX3_init 35 = .ok (.aastore, 1) := by decide +kernel
theorem dX3_init_36 : decode cX3_init 36 = .ok (.dup, 1) := by decide +kernel
theorem dX3_init_37 : decode cX3_init 37 = .ok (.iconst 1, 1) := by decide +kernel
theorem dX3_init_38 : decode cX3_init 38 = .ok (.new 18, 3) := by decide +kernel
theorem dX3_init_41 : decode cX3_init 41 = .ok (.dup, 1) := by decide +kernel
theorem dX3_init_42 : decode cX3_init 42 = .ok (.invokespecial 20, 3) := by decide +kernel
theorem dX3_init_45 : decode cX3_init 45 = .ok (.aastore, 1) := by decide +kernel
theorem dX3_init_46 : decode cX3_init 46 = .ok (.putfield 21, 3) := by decide +kernel
theorem dX3_init_49 : decode cX3_init 49 = .ok (.return_, 1) := by decide +kernel
set_option maxHeartbeats 4000000 in
set_option maxRecDepth 100000 in
theorem c_X3_init (l : Launch) (G : m_G) (k : Nat) (f0 : Nat → va_E) (hk : m_isKept k) (hf0 : f0 k = .inr (3, [.int 0, .int 0, .int 0, .int 0, .int 0, .null, .null, .null])) : Met l yX3_init (m_U yX3_init cX3_init 1 none) (y_R 2 44 13 784) (y_Pc G [.ref (m_ad G k)] f0 ((k + 1))) (y_Qv G (y_m G f0 k) ((k + 14))) 13 784 (m_A G) := by
  refine y_i0 (nL := 1) RX3 rfl rfl (by decide) (Nat.le_of_ble_eq_true rfl) ?_
  intro p e s m args below meth c X hin hr hlk hSt hAo hP hS ls hl
  have hl : lv_has ls 1 [(0, .ref (m_ad G k))] := hl
  have hP := y_start G (x := (k + 3)) (x2 := k) (g := .inr (99, [])) (g2 := .inr (99, [])) hP hf0
  refine lv_aload_n X.1 X.2.1 dX3_init_0 rfl (lv_at hl 0 rfl) ?_
  refine W.objInit X.1 X.2.1 X.2.2.2.1 (X.2.2.2.2 _ k_m_X3_3) (X.2.2.2.2 _ k_i_objectInit) (X.2.2.2.2 _ k_c_objectInit) rfl (by rw [X.2.2.1]; exact hl.1) rfl dX3_init_1 (Nat.le_of_ble_eq_true rfl) (Nat.le_of_ble_eq_true rfl) ?_
  refine W.eq (g2 := F0 m 4 ls []) rfl ?_
  refine lv_aload_n X.1 X.2.1 dX3_init_4 rfl (lv_at hl 0 rfl) ?_
  refine lv_sipush (v := 360) X.1 X.2.1 dX3_init_5 (by decide) ?_
  refine y_na (atype := .int) X hSt hP hS 0 (ty := .int) rfl k_a_int (cA := G.2.1 0) rfl (fun cB h1 h2 => Option.some.inj (h2.symm.trans h1)) (N' := 360) (a0 := (360, .inl (fun _ => 0))) rfl (by decide) (by decide +kernel) (Nat.le_of_ble_eq_true rfl) (Nat.le_of_ble_eq_true rfl) (Nat.le_of_ble_eq_true rfl) dX3_init_8 (fun H hP hS => ?_)
  have hP := y_one G hP (by omega) (by omega) (by omega) (by rw [y_fin_of G hk.2.1]; rfl)
  have hP : y_P G (y_n G f0 k (.inr (3, [.int 0, .int 0, .int 0, .int 0, .int 0, .null, .null, .null])) (k + 3) (.inr (99, [])) k (.inr (99, []))) ((k + 2)) H := hP
  refine y_pf (v := .ref (m_ad G (k + 1))) X hSt hP hS (ci := 3) inlX3 tyX3 tyX3_ok nmX3 rfl (k := k) (by omega) (fs := [.int 0, .int 0, .int 0, .int 0, .int 0, .null, .null, .null]) y_n_own 5 (by decide) hin rfl (tyX3_ok 5 (by decide)) rfl rfl (Nat.le_of_ble_eq_true rfl) k_f_X3_9 dX3_init_10 (fun H locs hP hS => ?_)
  have hP := y_own G hP
  have hP : y_P G (y_n G f0 k (.inr (3, [.int 0, .int 0, .int 0, .int 0, .int 0, .ref (m_ad G (k + 1)), .null, .null])) (k + 3) (.inr (99, [])) k (.inr (99, []))) ((k + 2)) H := hP
  refine lv_aload_n X.1 X.2.1 dX3_init_13 rfl (lv_at hl 0 rfl) ?_
  refine lv_bipush (v := 6) X.1 X.2.1 dX3_init_14 (by decide) ?_
  refine y_na (atype := .int) X hSt hP hS 0 (ty := .int) rfl k_a_int (cA := G.2.1 0) rfl (fun cB h1 h2 => Option.some.inj (h2.symm.trans h1)) (N' := 6) (a0 := (6, .inl (fun _ => 0))) rfl (by decide) (by decide +kernel) (Nat.le_of_ble_eq_true rfl) (Nat.le_of_ble_eq_true rfl) (Nat.le_of_ble_eq_true rfl) dX3_init_16 (fun H hP hS => ?_)
  have hP := y_one G hP (by omega) (by omega) (by omega) (by rw [y_fin_of G hk.2.2.1]; rfl)
  have hP : y_P G (y_n G f0 k (.inr (3, [.int 0, .int 0, .int 0, .int 0, .int 0, .ref (m_ad G (k + 1)), .null, .null])) (k + 3) (.inr (99, [])) k (.inr (99, []))) ((k + 3)) H := hP
  refine y_pf (v := .ref (m_ad G (k + 2))) X hSt hP hS (ci := 3) inlX3 tyX3 tyX3_ok nmX3 rfl (k := k) (by omega) (fs := [.int 0, .int 0, .int 0, .int 0, .int 0, .ref (m_ad G (k + 1)), .null, .null]) y_n_own 6 (by decide) hin rfl (tyX3_ok 6 (by decide)) rfl rfl (Nat.le_of_ble_eq_true rfl) k_f_X3_15 dX3_init_18 (fun H locs hP hS => ?_)
  have hP := y_own G hP
  have hP : y_P G (y_n G f0 k (.inr (3, [.int 0, .int 0, .int 0, .int 0, .int 0, .ref (m_ad G (k + 1)), .ref (m_ad G (k + 2)), .null])) (k + 3) (.inr (99, [])) k (.inr (99, []))) ((k + 3)) H := hP
  refine lv_aload_n X.1 X.2.1 dX3_init_21 rfl (lv_at hl 0 rfl) ?_
  refine lv_iconst (v := 2) X.1 X.2.1 dX3_init_22 (by decide) ?_
  refine y_nq X hSt hP hS hAo.2.2.1 5 k_x_X3_18 (cA := G.2.1 5) rfl (N' := 2) (by decide) (by decide +kernel) (Nat.le_of_ble_eq_true rfl) (Nat.le_of_ble_eq_true rfl) (Nat.le_of_ble_eq_true rfl) dX3_init_23 (fun H hP hS => ?_)
  have hP := y_oneX G hP (by omega)
  have hP : y_P G (y_n G f0 k (.inr (3, [.int 0, .int 0, .int 0, .int 0, .int 0, .ref (m_ad G (k + 1)), .ref (m_ad G (k + 2)), .null])) (k + 3) (.inl (G.2.1 5, 2, .inr (.inr (.inr (.inr (fun _ => none)))))) k (.inr (99, []))) ((k + 4)) H := hP
  refine lv_dup X.1 X.2.1 dX3_init_26 rfl ?_
  refine lv_iconst (v := 0) X.1 X.2.1 dX3_init_27 (by decide) ?_
  refine y_nw X hSt hP hS (ci := 4) (C := RX4) (T := TX4) (N := 8) (fs := [.null, .int 0, .null, .null, .null, .int 0, .int 0, .int 0]) inlX4 tyX4 tyX4_ok k_x_X3_18 k_w_X4 k_n_X4 rfl (y_df4) (Nat.le_of_ble_eq_true rfl) (Nat.le_of_ble_eq_true rfl) dX3_init_28 (fun H hP hS => ?_)
  refine lv_dup X.1 X.2.1 dX3_init_31 rfl ?_
  refine y_ci (q := 0) (As := []) (rest := [.ref (m_ad G (k + 4)), .int 0, .ref (m_ad G (k + 3)), .ref (m_ad G (k + 3)), .ref (m_ad G k)]) (mc := 4) (ms := 200) X hSt hAo hP hS hl.1 (c_X4_init l G (k + 4) _ hk.2.2.2.2.1 (va_up_self _ _ _)) k_c_yX4_init hSt.2.2.2.1.2.1 k_i_yX4_init k_n_X4 rfl (by decide +kernel) rfl rfl ⟨Nat.le_of_ble_eq_true rfl, Nat.le_of_ble_eq_true rfl⟩ (Nat.le_of_ble_eq_true rfl) ⟨Nat.le_of_ble_eq_true rfl, Nat.le_of_ble_eq_true rfl⟩ dX3_init_32 (fun H locs hP hS => ?_)
  have hP := y_made G hP (by omega) (by omega) (by omega)
  have hP : y_P G (y_n G f0 k (.inr (3, [.int 0, .int 0, .int 0, .int 0, .int 0, .ref (m_ad G (k + 1)), .ref (m_ad G (k + 2)), .null])) (k + 3) (.inl (G.2.1 5, 2, .inr (.inr (.inr (.inr (fun _ => none)))))) k (.inr (99, []))) ((k + 9)) H := hP
  refine y_as X hSt hP hS 5 (x := (k + 3)) (k := (k + 4)) (ci := 4) (r := (RX4, TX4, 8)) (j := 0) (by omega) (y_n_x (by omega)) rfl (by omega) ((y_n_fin (by omega) (by omega) (by omega)).trans (by rw [y_fin_of G hk.2.2.2.2.1.1]; rfl)) rfl (by decide +kernel) (by decide +kernel) dX3_init_35 (fun H locs hP hS => ?_)
  have hP := y_rowX G hP (by omega)
  have hP : y_P G (y_n G f0 k (.inr (3, [.int 0, .int 0, .int 0, .int 0, .int 0, .ref (m_ad G (k + 1)), .ref (m_ad G (k + 2)), .null])) (k + 3) (.inl (G.2.1 5, 2, .inr (.inr (.inr (.inr (va_up (fun _ => none) 0 (some (m_ad G (k + 4))))))))) k (.inr (99, []))) ((k + 9)) H := hP
  refine lv_dup X.1 X.2.1 dX3_init_36 rfl ?_
  refine lv_iconst (v := 1) X.1 X.2.1 dX3_init_37 (by decide) ?_
  refine y_nw X hSt hP hS (ci := 4) (C := RX4) (T := TX4) (N := 8) (fs := [.null, .int 0, .null, .null, .null, .int 0, .int 0, .int 0]) inlX4 tyX4 tyX4_ok k_x_X3_18 k_w_X4 k_n_X4 rfl (y_df4) (Nat.le_of_ble_eq_true rfl) (Nat.le_of_ble_eq_true rfl) dX3_init_38 (fun H hP hS => ?_)
  refine lv_dup X.1 X.2.1 dX3_init_41 rfl ?_
  refine y_ci (q := 0) (As := []) (rest := [.ref (m_ad G (k + 9)), .int 1, .ref (m_ad G (k + 3)), .ref (m_ad G (k + 3)), .ref (m_ad G k)]) (mc := 4) (ms := 200) X hSt hAo hP hS hl.1 (c_X4_init l G (k + 9) _ hk.2.2.2.2.2 (va_up_self _ _ _)) k_c_yX4_init hSt.2.2.2.1.2.1 k_i_yX4_init k_n_X4 rfl (by decide +kernel) rfl rfl ⟨Nat.le_of_ble_eq_true rfl, Nat.le_of_ble_eq_true rfl⟩ (Nat.le_of_ble_eq_true rfl) ⟨Nat.le_of_ble_eq_true rfl, Nat.le_of_ble_eq_true rfl⟩ dX3_init_42 (fun H locs hP hS => ?_)
  have hP := y_made G hP (by omega) (by omega) (by omega)
  have hP : y_P G (y_n G f0 k (.inr (3, [.int 0, .int 0, .int 0, .int 0, .int 0, .ref (m_ad G (k + 1)), .ref (m_ad G (k + 2)), .null])) (k + 3) (.inl (G.2.1 5, 2, .inr (.inr (.inr (.inr (va_up (fun _ => none) 0 (some (m_ad G (k + 4))))))))) k (.inr (99, []))) ((k + 14)) H := hP
  refine y_as X hSt hP hS 5 (x := (k + 3)) (k := (k + 9)) (ci := 4) (r := (RX4, TX4, 8)) (j := 1) (by omega) (y_n_x (by omega)) rfl (by omega) ((y_n_fin (by omega) (by omega) (by omega)).trans (by rw [y_fin_of G hk.2.2.2.2.2.1]; rfl)) rfl (by decide +kernel) (by decide +kernel) dX3_init_45 (fun H locs hP hS => ?_)
  have hP := y_rowX G hP (by omega)
  have hP : y_P G (y_n G f0 k (.inr (3, [.int 0, .int 0, .int 0, .int 0, .int 0, .ref (m_ad G (k + 1)), .ref (m_ad G (k + 2)), .null])) (k + 3) (.inl (G.2.1 5, 2, .inr (.inr (.inr (.inr (va_up (va_up (fun _ => none) 0 (some (m_ad G (k + 4)))) 1 (some (m_ad G (k + 9))))))))) k (.inr (99, []))) ((k + 14)) H := hP
  refine y_pf (v := .ref (m_ad G (k + 3))) X hSt hP hS (ci := 3) inlX3 tyX3 tyX3_ok nmX3 rfl (k := k) (by omega) (fs := [.int 0, .int 0, .int 0, .int 0, .int 0, .ref (m_ad G (k + 1)), .ref (m_ad G (k + 2)), .null]) y_n_own 7 (by decide) hin rfl (tyX3_ok 7 (by decide)) rfl rfl (Nat.le_of_ble_eq_true rfl) k_f_X3_21 dX3_init_46 (fun H locs hP hS => ?_)
  have hP := y_own G hP
  have hP : y_P G (y_n G f0 k (.inr (3, [.int 0, .int 0, .int 0, .int 0, .int 0, .ref (m_ad G (k + 1)), .ref (m_ad G (k + 2)), .ref (m_ad G (k + 3))])) (k + 3) (.inl (G.2.1 5, 2, .inr (.inr (.inr (.inr (va_up (va_up (fun _ => none) 0 (some (m_ad G (k + 4)))) 1 (some (m_ad G (k + 9))))))))) k (.inr (99, []))) ((k + 14)) H := hP
  refine W.widen (k := 13) (n := 784) (Nat.le_of_ble_eq_true rfl) (Nat.le_of_ble_eq_true rfl) ?_
  exact y_rv X hr hlk (y_done1 G hP (by rw [y_fin_of G hk.1]; exact y_sim_rf) (by rw [y_fin_of G hk.2.2.2.1]; exact y_sim_q (fun j hj => by
      match j, hj with
      | 0, _ => rfl
      | 1, _ => rfl))) hS dX3_init_49

theorem dX6_init_0 : decode cX6_init 0 = .ok (.aload_n 0, 1) := by decide +kernel
theorem dX6_init_1 : decode cX6_init 1 = .ok (.invokespecial 3, 3) := by decide +kernel
theorem dX6_init_4 : decode cX6_init 4 = .ok (.aload_n 0, 1) := by decide +kernel
theorem dX6_init_5 : decode cX6_init 5 = .ok (.bipush 6, 2) := by decide +kernel
theorem dX6_init_7 : decode cX6_init 7 = .ok (.newarray .int, 2) := by decide +kernel
theorem dX6_init_9 : decode cX6_init 9 = .ok (.putfield 9, 3) := by decide +kernel
theorem dX6_init_12 : decode cX6_init 12 = .ok (.aload_n 0, 1) := by decide +kernel
theorem dX6_init_13 : decode cX6_init 13 = .ok (.bipush 6, 2) := by decide +kernel
theorem dX6_init_15 : decode cX6_init 15 = .ok (.newarray .int, 2) := by decide +kernel
theorem dX6_init_17 : decode cX6_init 17 = .ok (.putfield 15, 3) := by decide +kernel
theorem dX6_init_20 : decode cX6_init 20 = .ok (.aload_n 0, 1) := by decide +kernel
theorem dX6_init_21 : decode cX6_init 21 = .ok (.bipush 6, 2) := by decide +kernel
theorem dX6_init_23 : decode cX6_init 23 = .ok (.newarray .int, 2) := by decide +kernel
theorem dX6_init_25 : decode cX6_init 25 = .ok (.putfield 18, 3) := by decide +kernel
theorem dX6_init_28 : decode cX6_init 28 = .ok (.aload_n 0, 1) := by decide +kernel
theorem dX6_init_29 : decode cX6_init 29 = .ok (.bipush 6, 2) := by decide +kernel
theorem dX6_init_31 : decode cX6_init 31 = .ok (.newarray .int, 2) := by decide +kernel
theorem dX6_init_33 : decode cX6_init 33 = .ok (.putfield 21, 3) := by decide +kernel
theorem dX6_init_36 : decode cX6_init 36 = .ok (.aload_n 0, 1) := by decide +kernel
theorem dX6_init_37 : decode cX6_init 37 = .ok (.bipush 6, 2) := by decide +kernel
theorem dX6_init_39 : decode cX6_init 39 = .ok (.newarray .int, 2) := by decide +kernel
theorem dX6_init_41 : decode cX6_init 41 = .ok (.putfield 24, 3) := by decide +kernel
theorem dX6_init_44 : decode cX6_init 44 = .ok (.aload_n 0, 1) := by decide +kernel
theorem dX6_init_45 : decode cX6_init 45 = .ok (.bipush 6, 2) := by decide +kernel
theorem dX6_init_47 : decode cX6_init 47 = .ok (.newarray .int, 2) := by decide +kernel
theorem dX6_init_49 : decode cX6_init 49 = .ok (.putfield 27, 3) := by decide +kernel
theorem dX6_init_52 : decode cX6_init 52 = .ok (.aload_n 0, 1) := by decide +kernel
theorem dX6_init_53 : decode cX6_init 53 = .ok (.bipush 6, 2) := by decide +kernel
theorem dX6_init_55 : decode cX6_init 55 = .ok (.newarray .boolean, 2) := by decide +kernel
theorem dX6_init_57 : decode cX6_init 57 = .ok (.putfield 30, 3) := by decide +kernel
theorem dX6_init_60 : decode cX6_init 60 = .ok (.aload_n 0, 1) := by decide +kernel
theorem dX6_init_61 : decode cX6_init 61 = .ok (.bipush 6, 2) := by decide +kernel
theorem dX6_init_63 : decode cX6_init 63 = .ok (.newarray .boolean, 2) := by decide +kernel
theorem dX6_init_65 : decode cX6_init 65 = .ok (.putfield 34, 3) := by decide +kernel
theorem dX6_init_68 : decode cX6_init 68 = .ok (.return_, 1) := by decide +kernel
set_option maxHeartbeats 4000000 in
set_option maxRecDepth 100000 in
theorem c_X6_init (l : Launch) (G : m_G) (f0 : Nat → va_E) (hf0 : f0 159 = .inr (6, [.int 0, .null, .null, .null, .null, .null, .null, .null, .null, .long 0, .long 0])) : Met l yX6_init (m_U yX6_init cX6_init 1 none) (y_R 1 24 8 48) (y_Pc G [.ref (m_ad G 159)] f0 (160)) (y_Qv G (y_m G f0 159) (168)) 8 48 (m_A G) := by
  refine y_i0 (nL := 1) RX6 rfl rfl (by decide) (Nat.le_of_ble_eq_true rfl) ?_
  intro p e s m args below meth c X hin hr hlk hSt hAo hP hS ls hl
  have hl : lv_has ls 1 [(0, .ref (m_ad G 159))] := hl
  have hP := y_start G (x := 159) (x2 := 159) (g := .inr (99, [])) (g2 := .inr (99, [])) hP hf0
  refine lv_aload_n X.1 X.2.1 dX6_init_0 rfl (lv_at hl 0 rfl) ?_
  refine W.objInit X.1 X.2.1 X.2.2.2.1 (X.2.2.2.2 _ k_m_X6_3) (X.2.2.2.2 _ k_i_objectInit) (X.2.2.2.2 _ k_c_objectInit) rfl (by rw [X.2.2.1]; exact hl.1) rfl dX6_init_1 (Nat.le_of_ble_eq_true rfl) (Nat.le_of_ble_eq_true rfl) ?_
  refine W.eq (g2 := F0 m 4 ls []) rfl ?_
  refine lv_aload_n X.1 X.2.1 dX6_init_4 rfl (lv_at hl 0 rfl) ?_
  refine lv_bipush (v := 6) X.1 X.2.1 dX6_init_5 (by decide) ?_
  refine y_na (atype := .int) X hSt hP hS 0 (ty := .int) rfl k_a_int (cA := G.2.1 0) rfl (fun cB h1 h2 => Option.some.inj (h2.symm.trans h1)) (N' := 6) (a0 := (6, .inl (fun _ => 0))) rfl (by decide) (by decide +kernel) (Nat.le_of_ble_eq_true rfl) (Nat.le_of_ble_eq_true rfl) (Nat.le_of_ble_eq_true rfl) dX6_init_7 (fun H hP hS => ?_)
  have hP := y_one G hP (by omega) (by omega) (by omega) (by rw [y_fin_of G (by decide +kernel : m_lay 160 = (0, 6))]; rfl)
  have hP : y_P G (y_n G f0 159 (.inr (6, [.int 0, .null, .null, .null, .null, .null, .null, .null, .null, .long 0, .long 0])) 159 (.inr (99, [])) 159 (.inr (99, []))) (161) H := hP
  refine y_pf (v := .ref (m_ad G 160)) X hSt hP hS (ci := 6) inlX6 tyX6 tyX6_ok nmX6 rfl (k := 159) (by omega) (fs := [.int 0, .null, .null, .null, .null, .null, .null, .null, .null, .long 0, .long 0]) y_n_own 1 (by decide) hin rfl (tyX6_ok 1 (by decide)) rfl rfl (Nat.le_of_ble_eq_true rfl) k_f_X6_9 dX6_init_9 (fun H locs hP hS => ?_)
  have hP := y_own G hP
  have hP : y_P G (y_n G f0 159 (.inr (6, [.int 0, .ref (m_ad G 160), .null, .null, .null, .null, .null, .null, .null, .long 0, .long 0])) 159 (.inr (99, [])) 159 (.inr (99, []))) (161) H := hP
  refine lv_aload_n X.1 X.2.1 dX6_init_12 rfl (lv_at hl 0 rfl) ?_
  refine lv_bipush (v := 6) X.1 X.2.1 dX6_init_13 (by decide) ?_
  refine y_na (atype := .int) X hSt hP hS 0 (ty := .int) rfl k_a_int (cA := G.2.1 0) rfl (fun cB h1 h2 => Option.some.inj (h2.symm.trans h1)) (N' := 6) (a0 := (6, .inl (fun _ => 0))) rfl (by decide) (by decide +kernel) (Nat.le_of_ble_eq_true rfl) (Nat.le_of_ble_eq_true rfl) (Nat.le_of_ble_eq_true rfl) dX6_init_15 (fun H hP hS => ?_)
  have hP := y_one G hP (by omega) (by omega) (by omega) (by rw [y_fin_of G (by decide +kernel : m_lay 161 = (0, 6))]; rfl)
  have hP : y_P G (y_n G f0 159 (.inr (6, [.int 0, .ref (m_ad G 160), .null, .null, .null, .null, .null, .null, .null, .long 0, .long 0])) 159 (.inr (99, [])) 159 (.inr (99, []))) (162) H := hP
  refine y_pf (v := .ref (m_ad G 161)) X hSt hP hS (ci := 6) inlX6 tyX6 tyX6_ok nmX6 rfl (k := 159) (by omega) (fs := [.int 0, .ref (m_ad G 160), .null, .null, .null, .null, .null, .null, .null, .long 0, .long 0]) y_n_own 2 (by decide) hin rfl (tyX6_ok 2 (by decide)) rfl rfl (Nat.le_of_ble_eq_true rfl) k_f_X6_15 dX6_init_17 (fun H locs hP hS => ?_)
  have hP := y_own G hP
  have hP : y_P G (y_n G f0 159 (.inr (6, [.int 0, .ref (m_ad G 160), .ref (m_ad G 161), .null, .null, .null, .null, .null, .null, .long 0, .long 0])) 159 (.inr (99, [])) 159 (.inr (99, []))) (162) H := hP
  refine lv_aload_n X.1 X.2.1 dX6_init_20 rfl (lv_at hl 0 rfl) ?_
  refine lv_bipush (v := 6) X.1 X.2.1 dX6_init_21 (by decide) ?_
  refine y_na (atype := .int) X hSt hP hS 0 (ty := .int) rfl k_a_int (cA := G.2.1 0) rfl (fun cB h1 h2 => Option.some.inj (h2.symm.trans h1)) (N' := 6) (a0 := (6, .inl (fun _ => 0))) rfl (by decide) (by decide +kernel) (Nat.le_of_ble_eq_true rfl) (Nat.le_of_ble_eq_true rfl) (Nat.le_of_ble_eq_true rfl) dX6_init_23 (fun H hP hS => ?_)
  have hP := y_one G hP (by omega) (by omega) (by omega) (by rw [y_fin_of G (by decide +kernel : m_lay 162 = (0, 6))]; rfl)
  have hP : y_P G (y_n G f0 159 (.inr (6, [.int 0, .ref (m_ad G 160), .ref (m_ad G 161), .null, .null, .null, .null, .null, .null, .long 0, .long 0])) 159 (.inr (99, [])) 159 (.inr (99, []))) (163) H := hP
  refine y_pf (v := .ref (m_ad G 162)) X hSt hP hS (ci := 6) inlX6 tyX6 tyX6_ok nmX6 rfl (k := 159) (by omega) (fs := [.int 0, .ref (m_ad G 160), .ref (m_ad G 161), .null, .null, .null, .null, .null, .null, .long 0, .long 0]) y_n_own 3 (by decide) hin rfl (tyX6_ok 3 (by decide)) rfl rfl (Nat.le_of_ble_eq_true rfl) k_f_X6_18 dX6_init_25 (fun H locs hP hS => ?_)
  have hP := y_own G hP
  have hP : y_P G (y_n G f0 159 (.inr (6, [.int 0, .ref (m_ad G 160), .ref (m_ad G 161), .ref (m_ad G 162), .null, .null, .null, .null, .null, .long 0, .long 0])) 159 (.inr (99, [])) 159 (.inr (99, []))) (163) H := hP
  refine lv_aload_n X.1 X.2.1 dX6_init_28 rfl (lv_at hl 0 rfl) ?_
  refine lv_bipush (v := 6) X.1 X.2.1 dX6_init_29 (by decide) ?_
  refine y_na (atype := .int) X hSt hP hS 0 (ty := .int) rfl k_a_int (cA := G.2.1 0) rfl (fun cB h1 h2 => Option.some.inj (h2.symm.trans h1)) (N' := 6) (a0 := (6, .inl (fun _ => 0))) rfl (by decide) (by decide +kernel) (Nat.le_of_ble_eq_true rfl) (Nat.le_of_ble_eq_true rfl) (Nat.le_of_ble_eq_true rfl) dX6_init_31 (fun H hP hS => ?_)
  have hP := y_one G hP (by omega) (by omega) (by omega) (by rw [y_fin_of G (by decide +kernel : m_lay 163 = (0, 6))]; rfl)
  have hP : y_P G (y_n G f0 159 (.inr (6, [.int 0, .ref (m_ad G 160), .ref (m_ad G 161), .ref (m_ad G 162), .null, .null, .null, .null, .null, .long 0, .long 0])) 159 (.inr (99, [])) 159 (.inr (99, []))) (164) H := hP
  refine y_pf (v := .ref (m_ad G 163)) X hSt hP hS (ci := 6) inlX6 tyX6 tyX6_ok nmX6 rfl (k := 159) (by omega) (fs := [.int 0, .ref (m_ad G 160), .ref (m_ad G 161), .ref (m_ad G 162), .null, .null, .null, .null, .null, .long 0, .long 0]) y_n_own 4 (by decide) hin rfl (tyX6_ok 4 (by decide)) rfl rfl (Nat.le_of_ble_eq_true rfl) k_f_X6_21 dX6_init_33 (fun H locs hP hS => ?_)
  have hP := y_own G hP
  have hP : y_P G (y_n G f0 159 (.inr (6, [.int 0, .ref (m_ad G 160), .ref (m_ad G 161), .ref (m_ad G 162), .ref (m_ad G 163), .null, .null, .null, .null, .long 0, .long 0])) 159 (.inr (99, [])) 159 (.inr (99, []))) (164) H := hP
  refine lv_aload_n X.1 X.2.1 dX6_init_36 rfl (lv_at hl 0 rfl) ?_
  refine lv_bipush (v := 6) X.1 X.2.1 dX6_init_37 (by decide) ?_
  refine y_na (atype := .int) X hSt hP hS 0 (ty := .int) rfl k_a_int (cA := G.2.1 0) rfl (fun cB h1 h2 => Option.some.inj (h2.symm.trans h1)) (N' := 6) (a0 := (6, .inl (fun _ => 0))) rfl (by decide) (by decide +kernel) (Nat.le_of_ble_eq_true rfl) (Nat.le_of_ble_eq_true rfl) (Nat.le_of_ble_eq_true rfl) dX6_init_39 (fun H hP hS => ?_)
  have hP := y_one G hP (by omega) (by omega) (by omega) (by rw [y_fin_of G (by decide +kernel : m_lay 164 = (0, 6))]; rfl)
  have hP : y_P G (y_n G f0 159 (.inr (6, [.int 0, .ref (m_ad G 160), .ref (m_ad G 161), .ref (m_ad G 162), .ref (m_ad G 163), .null, .null, .null, .null, .long 0, .long 0])) 159 (.inr (99, [])) 159 (.inr (99, []))) (165) H := hP
  refine y_pf (v := .ref (m_ad G 164)) X hSt hP hS (ci := 6) inlX6 tyX6 tyX6_ok nmX6 rfl (k := 159) (by omega) (fs := [.int 0, .ref (m_ad G 160), .ref (m_ad G 161), .ref (m_ad G 162), .ref (m_ad G 163), .null, .null, .null, .null, .long 0, .long 0]) y_n_own 5 (by decide) hin rfl (tyX6_ok 5 (by decide)) rfl rfl (Nat.le_of_ble_eq_true rfl) k_f_X6_24 dX6_init_41 (fun H locs hP hS => ?_)
  have hP := y_own G hP
  have hP : y_P G (y_n G f0 159 (.inr (6, [.int 0, .ref (m_ad G 160), .ref (m_ad G 161), .ref (m_ad G 162), .ref (m_ad G 163), .ref (m_ad G 164), .null, .null, .null, .long 0, .long 0])) 159 (.inr (99, [])) 159 (.inr (99, []))) (165) H := hP
  refine lv_aload_n X.1 X.2.1 dX6_init_44 rfl (lv_at hl 0 rfl) ?_
  refine lv_bipush (v := 6) X.1 X.2.1 dX6_init_45 (by decide) ?_
  refine y_na (atype := .int) X hSt hP hS 0 (ty := .int) rfl k_a_int (cA := G.2.1 0) rfl (fun cB h1 h2 => Option.some.inj (h2.symm.trans h1)) (N' := 6) (a0 := (6, .inl (fun _ => 0))) rfl (by decide) (by decide +kernel) (Nat.le_of_ble_eq_true rfl) (Nat.le_of_ble_eq_true rfl) (Nat.le_of_ble_eq_true rfl) dX6_init_47 (fun H hP hS => ?_)
  have hP := y_one G hP (by omega) (by omega) (by omega) (by rw [y_fin_of G (by decide +kernel : m_lay 165 = (0, 6))]; rfl)
  have hP : y_P G (y_n G f0 159 (.inr (6, [.int 0, .ref (m_ad G 160), .ref (m_ad G 161), .ref (m_ad G 162), .ref (m_ad G 163), .ref (m_ad G 164), .null, .null, .null, .long 0, .long 0])) 159 (.inr (99, [])) 159 (.inr (99, []))) (166) H := hP
  refine y_pf (v := .ref (m_ad G 165)) X hSt hP hS (ci := 6) inlX6 tyX6 tyX6_ok nmX6 rfl (k := 159) (by omega) (fs := [.int 0, .ref (m_ad G 160), .ref (m_ad G 161), .ref (m_ad G 162), .ref (m_ad G 163), .ref (m_ad G 164), .null, .null, .null, .long 0, .long 0]) y_n_own 6 (by decide) hin rfl (tyX6_ok 6 (by decide)) rfl rfl (Nat.le_of_ble_eq_true rfl) k_f_X6_27 dX6_init_49 (fun H locs hP hS => ?_)
  have hP := y_own G hP
  have hP : y_P G (y_n G f0 159 (.inr (6, [.int 0, .ref (m_ad G 160), .ref (m_ad G 161), .ref (m_ad G 162), .ref (m_ad G 163), .ref (m_ad G 164), .ref (m_ad G 165), .null, .null, .long 0, .long 0])) 159 (.inr (99, [])) 159 (.inr (99, []))) (166) H := hP
  refine lv_aload_n X.1 X.2.1 dX6_init_52 rfl (lv_at hl 0 rfl) ?_
  refine lv_bipush (v := 6) X.1 X.2.1 dX6_init_53 (by decide) ?_
  refine y_na (atype := .boolean) X hSt hP hS 2 (ty := .boolean) rfl k_a_boolean (cA := G.2.1 2) rfl (fun cB h1 h2 => Option.some.inj (h2.symm.trans h1)) (N' := 6) (a0 := (6, .inl (fun _ => 0))) rfl (by decide) (by decide +kernel) (Nat.le_of_ble_eq_true rfl) (Nat.le_of_ble_eq_true rfl) (Nat.le_of_ble_eq_true rfl) dX6_init_55 (fun H hP hS => ?_)
  have hP := y_one G hP (by omega) (by omega) (by omega) (by rw [y_fin_of G (by decide +kernel : m_lay 166 = (2, 6))]; rfl)
  have hP : y_P G (y_n G f0 159 (.inr (6, [.int 0, .ref (m_ad G 160), .ref (m_ad G 161), .ref (m_ad G 162), .ref (m_ad G 163), .ref (m_ad G 164), .ref (m_ad G 165), .null, .null, .long 0, .long 0])) 159 (.inr (99, [])) 159 (.inr (99, []))) (167) H := hP
  refine y_pf (v := .ref (m_ad G 166)) X hSt hP hS (ci := 6) inlX6 tyX6 tyX6_ok nmX6 rfl (k := 159) (by omega) (fs := [.int 0, .ref (m_ad G 160), .ref (m_ad G 161), .ref (m_ad G 162), .ref (m_ad G 163), .ref (m_ad G 164), .ref (m_ad G 165), .null, .null, .long 0, .long 0]) y_n_own 7 (by decide) hin rfl (tyX6_ok 7 (by decide)) rfl rfl (Nat.le_of_ble_eq_true rfl) k_f_X6_30 dX6_init_57 (fun H locs hP hS => ?_)
  have hP := y_own G hP
  have hP : y_P G (y_n G f0 159 (.inr (6, [.int 0, .ref (m_ad G 160), .ref (m_ad G 161), .ref (m_ad G 162), .ref (m_ad G 163), .ref (m_ad G 164), .ref (m_ad G 165), .ref (m_ad G 166), .null, .long 0, .long 0])) 159 (.inr (99, [])) 159 (.inr (99, []))) (167) H := hP
  refine lv_aload_n X.1 X.2.1 dX6_init_60 rfl (lv_at hl 0 rfl) ?_
  refine lv_bipush (v := 6) X.1 X.2.1 dX6_init_61 (by decide) ?_
  refine y_na (atype := .boolean) X hSt hP hS 2 (ty := .boolean) rfl k_a_boolean (cA := G.2.1 2) rfl (fun cB h1 h2 => Option.some.inj (h2.symm.trans h1)) (N' := 6) (a0 := (6, .inl (fun _ => 0))) rfl (by decide) (by decide +kernel) (Nat.le_of_ble_eq_true rfl) (Nat.le_of_ble_eq_true rfl) (Nat.le_of_ble_eq_true rfl) dX6_init_63 (fun H hP hS => ?_)
  have hP := y_one G hP (by omega) (by omega) (by omega) (by rw [y_fin_of G (by decide +kernel : m_lay 167 = (2, 6))]; rfl)
  have hP : y_P G (y_n G f0 159 (.inr (6, [.int 0, .ref (m_ad G 160), .ref (m_ad G 161), .ref (m_ad G 162), .ref (m_ad G 163), .ref (m_ad G 164), .ref (m_ad G 165), .ref (m_ad G 166), .null, .long 0, .long 0])) 159 (.inr (99, [])) 159 (.inr (99, []))) (168) H := hP
  refine y_pf (v := .ref (m_ad G 167)) X hSt hP hS (ci := 6) inlX6 tyX6 tyX6_ok nmX6 rfl (k := 159) (by omega) (fs := [.int 0, .ref (m_ad G 160), .ref (m_ad G 161), .ref (m_ad G 162), .ref (m_ad G 163), .ref (m_ad G 164), .ref (m_ad G 165), .ref (m_ad G 166), .null, .long 0, .long 0]) y_n_own 8 (by decide) hin rfl (tyX6_ok 8 (by decide)) rfl rfl (Nat.le_of_ble_eq_true rfl) k_f_X6_34 dX6_init_65 (fun H locs hP hS => ?_)
  have hP := y_own G hP
  have hP : y_P G (y_n G f0 159 (.inr (6, [.int 0, .ref (m_ad G 160), .ref (m_ad G 161), .ref (m_ad G 162), .ref (m_ad G 163), .ref (m_ad G 164), .ref (m_ad G 165), .ref (m_ad G 166), .ref (m_ad G 167), .long 0, .long 0])) 159 (.inr (99, [])) 159 (.inr (99, []))) (168) H := hP
  refine W.widen (k := 8) (n := 48) (Nat.le_of_ble_eq_true rfl) (Nat.le_of_ble_eq_true rfl) ?_
  exact y_rv X hr hlk (y_done0 G hP (by rw [y_fin_of G (by decide +kernel : m_lay 159 = (16, 0))]; exact y_sim_rf)) hS dX6_init_68

theorem dX2_init_0 : decode cX2_init 0 = .ok (.aload_n 0, 1) := by decide +kernel
theorem dX2_init_1 : decode cX2_init 1 = .ok (.invokespecial 3, 3) := by decide +kernel
theorem dX2_init_4 : decode cX2_init 4 = .ok (.aload_n 0, 1) := by decide +kernel
theorem dX2_init_5 : decode cX2_init 5 = .ok (.sipush 300, 3) := by decide +kernel
theorem dX2_init_8 : decode cX2_init 8 = .ok (.newarray .int, 2) := by decide +kernel
theorem dX2_init_10 : decode cX2_init 10 = .ok (.putfield 9, 3) := by decide +kernel
theorem dX2_init_13 : decode cX2_init 13 = .ok (.aload_n 0, 1) := by decide +kernel
theorem dX2_init_14 : decode cX2_init 14 = .ok (.iconst (-1), 1) := by decide +kernel
theorem dX2_init_15 : decode cX2_init 15 = .ok (.putfield 15, 3) := by decide +kernel
theorem dX2_init_18 : decode cX2_init 18 = .ok (.return_, 1) := by decide +kernel
set_option maxHeartbeats 4000000 in
set_option maxRecDepth 100000 in
theorem c_X2_init (l : Launch) (G : m_G) (f0 : Nat → va_E) (hf0 : f0 168 = .inr (2, [.null, .int 0, .int 0, .int 0, .int 0, .int 0, .int 0, .int 0, .int 0])) : Met l yX2_init (m_U yX2_init cX2_init 1 none) (y_R 1 24 1 300) (y_Pc G [.ref (m_ad G 168)] f0 (169)) (y_Qv G (y_m G f0 168) (170)) 1 300 (m_A G) := by
  refine y_i0 (nL := 1) RX2 rfl rfl (by decide) (Nat.le_of_ble_eq_true rfl) ?_
  intro p e s m args below meth c X hin hr hlk hSt hAo hP hS ls hl
  have hl : lv_has ls 1 [(0, .ref (m_ad G 168))] := hl
  have hP := y_start G (x := 168) (x2 := 168) (g := .inr (99, [])) (g2 := .inr (99, [])) hP hf0
  refine lv_aload_n X.1 X.2.1 dX2_init_0 rfl (lv_at hl 0 rfl) ?_
  refine W.objInit X.1 X.2.1 X.2.2.2.1 (X.2.2.2.2 _ k_m_X2_3) (X.2.2.2.2 _ k_i_objectInit) (X.2.2.2.2 _ k_c_objectInit) rfl (by rw [X.2.2.1]; exact hl.1) rfl dX2_init_1 (Nat.le_of_ble_eq_true rfl) (Nat.le_of_ble_eq_true rfl) ?_
  refine W.eq (g2 := F0 m 4 ls []) rfl ?_
  refine lv_aload_n X.1 X.2.1 dX2_init_4 rfl (lv_at hl 0 rfl) ?_
  refine lv_sipush (v := 300) X.1 X.2.1 dX2_init_5 (by decide) ?_
  refine y_na (atype := .int) X hSt hP hS 0 (ty := .int) rfl k_a_int (cA := G.2.1 0) rfl (fun cB h1 h2 => Option.some.inj (h2.symm.trans h1)) (N' := 300) (a0 := (300, .inl (fun _ => 0))) rfl (by decide) (by decide +kernel) (Nat.le_of_ble_eq_true rfl) (Nat.le_of_ble_eq_true rfl) (Nat.le_of_ble_eq_true rfl) dX2_init_8 (fun H hP hS => ?_)
  have hP := y_one G hP (by omega) (by omega) (by omega) (by rw [y_fin_of G (by decide +kernel : m_lay 169 = (0, 300))]; rfl)
  have hP : y_P G (y_n G f0 168 (.inr (2, [.null, .int 0, .int 0, .int 0, .int 0, .int 0, .int 0, .int 0, .int 0])) 168 (.inr (99, [])) 168 (.inr (99, []))) (170) H := hP
  refine y_pf (v := .ref (m_ad G 169)) X hSt hP hS (ci := 2) inlX2 tyX2 tyX2_ok nmX2 rfl (k := 168) (by omega) (fs := [.null, .int 0, .int 0, .int 0, .int 0, .int 0, .int 0, .int 0, .int 0]) y_n_own 0 (by decide) hin rfl (tyX2_ok 0 (by decide)) rfl rfl (Nat.le_of_ble_eq_true rfl) k_f_X2_9 dX2_init_10 (fun H locs hP hS => ?_)
  have hP := y_own G hP
  have hP : y_P G (y_n G f0 168 (.inr (2, [.ref (m_ad G 169), .int 0, .int 0, .int 0, .int 0, .int 0, .int 0, .int 0, .int 0])) 168 (.inr (99, [])) 168 (.inr (99, []))) (170) H := hP
  refine lv_aload_n X.1 X.2.1 dX2_init_13 rfl (lv_at hl 0 rfl) ?_
  refine lv_iconst (v := (-1)) X.1 X.2.1 dX2_init_14 (by decide) ?_
  refine y_pf (v := .int (-1)) X hSt hP hS (ci := 2) inlX2 tyX2 tyX2_ok nmX2 rfl (k := 168) (by omega) (fs := [.ref (m_ad G 169), .int 0, .int 0, .int 0, .int 0, .int 0, .int 0, .int 0, .int 0]) y_n_own 3 (by decide) hin rfl (tyX2_ok 3 (by decide)) rfl rfl (Nat.le_of_ble_eq_true rfl) k_f_X2_15 dX2_init_15 (fun H locs hP hS => ?_)
  have hP := y_own G hP
  have hP : y_P G (y_n G f0 168 (.inr (2, [.ref (m_ad G 169), .int 0, .int 0, .int (-1), .int 0, .int 0, .int 0, .int 0, .int 0])) 168 (.inr (99, [])) 168 (.inr (99, []))) (170) H := hP
  refine W.widen (k := 1) (n := 300) (Nat.le_of_ble_eq_true rfl) (Nat.le_of_ble_eq_true rfl) ?_
  exact y_rv X hr hlk (y_done0 G hP (by rw [y_fin_of G (by decide +kernel : m_lay 168 = (12, 0))]; exact y_sim_rf)) hS dX2_init_18

theorem dX8_init_0 : decode cX8_init 0 = .ok (.aload_n 0, 1) := by decide +kernel
theorem dX8_init_1 : decode cX8_init 1 = .ok (.invokespecial 1, 3) := by decide +kernel
theorem dX8_init_4 : decode cX8_init 4 = .ok (.aload_n 0, 1) := by decide +kernel
theorem dX8_init_5 : decode cX8_init 5 = .ok (.sipush 471, 3) := by decide +kernel
theorem dX8_init_8 : decode cX8_init 8 = .ok (.newarray .int, 2) := by decide +kernel
theorem dX8_init_10 : decode cX8_init 10 = .ok (.putfield 7, 3) := by decide +kernel
theorem dX8_init_13 : decode cX8_init 13 = .ok (.aload_n 0, 1) := by decide +kernel
theorem dX8_init_14 : decode cX8_init 14 = .ok (.sipush 942, 3) := by decide +kernel
theorem dX8_init_17 : decode cX8_init 17 = .ok (.newarray .int, 2) := by decide +kernel
theorem dX8_init_19 : decode cX8_init 19 = .ok (.putfield 13, 3) := by decide +kernel
theorem dX8_init_22 : decode cX8_init 22 = .ok (.aload_n 0, 1) := by decide +kernel
theorem dX8_init_23 : decode cX8_init 23 = .ok (.iconst 2, 1) := by decide +kernel
theorem dX8_init_24 : decode cX8_init 24 = .ok (.newarray .boolean, 2) := by decide +kernel
theorem dX8_init_26 : decode cX8_init 26 = .ok (.putfield 16, 3) := by decide +kernel
theorem dX8_init_29 : decode cX8_init 29 = .ok (.aload_n 0, 1) := by decide +kernel
theorem dX8_init_30 : decode cX8_init 30 = .ok (.sipush 300, 3) := by decide +kernel
theorem dX8_init_33 : decode cX8_init 33 = .ok (.newarray .int, 2) := by decide +kernel
theorem dX8_init_35 : decode cX8_init 35 = .ok (.putfield 20, 3) := by decide +kernel
theorem dX8_init_38 : decode cX8_init 38 = .ok (.aload_n 0, 1) := by decide +kernel
theorem dX8_init_39 : decode cX8_init 39 = .ok (.lconst 1, 1) := by decide +kernel
theorem dX8_init_40 : decode cX8_init 40 = .ok (.putfield 23, 3) := by decide +kernel
theorem dX8_init_43 : decode cX8_init 43 = .ok (.aload_n 0, 1) := by decide +kernel
theorem dX8_init_44 : decode cX8_init 44 = .ok (.bipush 10, 2) := by decide +kernel
theorem dX8_init_46 : decode cX8_init 46 = .ok (.newarray .int, 2) := by decide +kernel
theorem dX8_init_48 : decode cX8_init 48 = .ok (.putfield 27, 3) := by decide +kernel
theorem dX8_init_51 : decode cX8_init 51 = .ok (.aload_n 0, 1) := by decide +kernel
theorem dX8_init_52 : decode cX8_init 52 = .ok (.bipush 10, 2) := by decide +kernel
theorem dX8_init_54 : decode cX8_init 54 = .ok (.newarray .int, 2) := by decide +kernel
theorem dX8_init_56 : decode cX8_init 56 = .ok (.putfield 30, 3) := by decide +kernel
theorem dX8_init_59 : decode cX8_init 59 = .ok (.aload_n 0, 1) := by decide +kernel
theorem dX8_init_60 : decode cX8_init 60 = .ok (.bipush 10, 2) := by decide +kernel
theorem dX8_init_62 : decode cX8_init 62 = .ok (.newarray .int, 2) := by decide +kernel
theorem dX8_init_64 : decode cX8_init 64 = .ok (.putfield 33, 3) := by decide +kernel
theorem dX8_init_67 : decode cX8_init 67 = .ok (.aload_n 0, 1) := by decide +kernel
theorem dX8_init_68 : decode cX8_init 68 = .ok (.bipush 10, 2) := by decide +kernel
theorem dX8_init_70 : decode cX8_init 70 = .ok (.newarray .int, 2) := by decide +kernel
theorem dX8_init_72 : decode cX8_init 72 = .ok (.putfield 36, 3) := by decide +kernel
theorem dX8_init_75 : decode cX8_init 75 = .ok (.aload_n 0, 1) := by decide +kernel
theorem dX8_init_76 : decode cX8_init 76 = .ok (.bipush 40, 2) := by decide +kernel
theorem dX8_init_78 : decode cX8_init 78 = .ok (.newarray .int, 2) := by decide +kernel
theorem dX8_init_80 : decode cX8_init 80 = .ok (.putfield 39, 3) := by decide +kernel
theorem dX8_init_83 : decode cX8_init 83 = .ok (.aload_n 0, 1) := by decide +kernel
theorem dX8_init_84 : decode cX8_init 84 = .ok (.bipush 40, 2) := by decide +kernel
theorem dX8_init_86 : decode cX8_init 86 = .ok (.newarray .boolean, 2) := by decide +kernel
theorem dX8_init_88 : decode cX8_init 88 = .ok (.putfield 42, 3) := by decide +kernel
theorem dX8_init_91 : decode cX8_init 91 = .ok (.aload_n 0, 1) := by decide +kernel
theorem dX8_init_92 : decode cX8_init 92 = .ok (.bipush 40, 2) := by decide +kernel
theorem dX8_init_94 : decode cX8_init 94 = .ok (.newarray .boolean, 2) := by decide +kernel
theorem dX8_init_96 : decode cX8_init 96 = .ok (.putfield 45, 3) := by decide +kernel
theorem dX8_init_99 : decode cX8_init 99 = .ok (.aload_n 0, 1) := by decide +kernel
theorem dX8_init_100 : decode cX8_init 100 = .ok (.bipush 100, 2) := by decide +kernel
theorem dX8_init_102 : decode cX8_init 102 = .ok (.newarray .int, 2) := by decide +kernel
theorem dX8_init_104 : decode cX8_init 104 = .ok (.putfield 48, 3) := by decide +kernel
theorem dX8_init_107 : decode cX8_init 107 = .ok (.aload_n 0, 1) := by decide +kernel
theorem dX8_init_108 : decode cX8_init 108 = .ok (.bipush 60, 2) := by decide +kernel
theorem dX8_init_110 : decode cX8_init 110 = .ok (.newarray .int, 2) := by decide +kernel
theorem dX8_init_112 : decode cX8_init 112 = .ok (.putfield 51, 3) := by decide +kernel
theorem dX8_init_115 : decode cX8_init 115 = .ok (.aload_n 0, 1) := by decide +kernel
theorem dX8_init_116 : decode cX8_init 116 = .ok (.bipush 60, 2) := by decide +kernel
theorem dX8_init_118 : decode cX8_init 118 = .ok (.newarray .int, 2) := by decide +kernel
theorem dX8_init_120 : decode cX8_init 120 = .ok (.putfield 54, 3) := by decide +kernel
theorem dX8_init_123 : decode cX8_init 123 = .ok (.aload_n 0, 1) := by decide +kernel
theorem dX8_init_124 : decode cX8_init 124 = .ok (.bipush 60, 2) := by decide +kernel
theorem dX8_init_126 : decode cX8_init 126 = .ok (.newarray .int, 2) := by decide +kernel
theorem dX8_init_128 : decode cX8_init 128 = .ok (.putfield 57, 3) := by decide +kernel
theorem dX8_init_131 : decode cX8_init 131 = .ok (.aload_n 0, 1) := by decide +kernel
theorem dX8_init_132 : decode cX8_init 132 = .ok (.bipush 60, 2) := by decide +kernel
theorem dX8_init_134 : decode cX8_init 134 = .ok (.newarray .int, 2) := by decide +kernel
theorem dX8_init_136 : decode cX8_init 136 = .ok (.putfield 60, 3) := by decide +kernel
theorem dX8_init_139 : decode cX8_init 139 = .ok (.aload_n 0, 1) := by decide +kernel
theorem dX8_init_140 : decode cX8_init 140 = .ok (.bipush 60, 2) := by decide +kernel
theorem dX8_init_142 : decode cX8_init 142 = .ok (.newarray .boolean, 2) := by decide +kernel
theorem dX8_init_144 : decode cX8_init 144 = .ok (.putfield 63, 3) := by decide +kernel
theorem dX8_init_147 : decode cX8_init 147 = .ok (.aload_n 0, 1) := by decide +kernel
theorem dX8_init_148 : decode cX8_init 148 = .ok (.bipush 60, 2) := by decide +kernel
theorem dX8_init_150 : decode cX8_init 150 = .ok (.newarray .boolean, 2) := by decide +kernel
theorem dX8_init_152 : decode cX8_init 152 = .ok (.putfield 66, 3) := by decide +kernel
theorem dX8_init_155 : decode cX8_init 155 = .ok (.aload_n 0, 1) := by decide +kernel
theorem dX8_init_156 : decode cX8_init 156 = .ok (.bipush 60, 2) := by decide +kernel
theorem dX8_init_158 : decode cX8_init 158 = .ok (.newarray .boolean, 2) := by decide +kernel
theorem dX8_init_160 : decode cX8_init 160 = .ok (.putfield 69, 3) := by decide +kernel
theorem dX8_init_163 : decode cX8_init 163 = .ok (.aload_n 0, 1) := by decide +kernel
theorem dX8_init_164 : decode cX8_init 164 = .ok (.bipush 31, 2) := by decide +kernel
theorem dX8_init_166 : decode cX8_init 166 = .ok (.putfield 72, 3) := by decide +kernel
theorem dX8_init_169 : decode cX8_init 169 = .ok (.aload_n 0, 1) := by decide +kernel
theorem dX8_init_170 : decode cX8_init 170 = .ok (.bipush 64, 2) := by decide +kernel
theorem dX8_init_172 : decode cX8_init 172 = .ok (.newarray .long, 2) := by decide +kernel
theorem dX8_init_174 : decode cX8_init 174 = .ok (.putfield 76, 3) := by decide +kernel
theorem dX8_init_177 : decode cX8_init 177 = .ok (.aload_n 0, 1) := by decide +kernel
theorem dX8_init_178 : decode cX8_init 178 = .ok (.sipush 128, 3) := by decide +kernel
theorem dX8_init_181 : decode cX8_init 181 = .ok (.newarray .int, 2) := by decide +kernel
theorem dX8_init_183 : decode cX8_init 183 = .ok (.putfield 80, 3) := by decide +kernel
theorem dX8_init_186 : decode cX8_init 186 = .ok (.aload_n 0, 1) := by decide +kernel
theorem dX8_init_187 : decode cX8_init 187 = .ok (.iconst 5, 1) := by decide +kernel
theorem dX8_init_188 : decode cX8_init 188 = .ok (.newarray .long, 2) := by decide +kernel
theorem dX8_init_190 : decode cX8_init 190 = .ok (.putfield 83, 3) := by decide +kernel
theorem dX8_init_193 : decode cX8_init 193 = .ok (.aload_n 0, 1) := by decide +kernel
theorem dX8_init_194 : decode cX8_init 194 = .ok (.bipush 10, 2) := by decide +kernel
theorem dX8_init_196 : decode cX8_init 196 = .ok (.newarray .int, 2) := by decide +kernel
theorem dX8_init_198 : decode cX8_init 198 = .ok (.putfield 86, 3) := by decide +kernel
theorem dX8_init_201 : decode cX8_init 201 = .ok (.aload_n 0, 1) := by decide +kernel
theorem dX8_init_202 : decode cX8_init 202 = .ok (.bipush 6, 2) := by decide +kernel
theorem dX8_init_204 : decode cX8_init 204 = .ok (.newarray .int, 2) := by decide +kernel
theorem dX8_init_206 : decode cX8_init 206 = .ok (.putfield 89, 3) := by decide +kernel
theorem dX8_init_209 : decode cX8_init 209 = .ok (.aload_n 0, 1) := by decide +kernel
theorem dX8_init_210 : decode cX8_init 210 = .ok (.bipush 6, 2) := by decide +kernel
theorem dX8_init_212 : decode cX8_init 212 = .ok (.newarray .int, 2) := by decide +kernel
theorem dX8_init_214 : decode cX8_init 214 = .ok (.putfield 92, 3) := by decide +kernel
theorem dX8_init_217 : decode cX8_init 217 = .ok (.aload_n 0, 1) := by decide +kernel
theorem dX8_init_218 : decode cX8_init 218 = .ok (.bipush 6, 2) := by decide +kernel
theorem dX8_init_220 : decode cX8_init 220 = .ok (.newarray .int, 2) := by decide +kernel
theorem dX8_init_222 : decode cX8_init 222 = .ok (.putfield 95, 3) := by decide +kernel
theorem dX8_init_225 : decode cX8_init 225 = .ok (.aload_n 0, 1) := by decide +kernel
theorem dX8_init_226 : decode cX8_init 226 = .ok (.bipush 6, 2) := by decide +kernel
theorem dX8_init_228 : decode cX8_init 228 = .ok (.newarray .int, 2) := by decide +kernel
theorem dX8_init_230 : decode cX8_init 230 = .ok (.putfield 98, 3) := by decide +kernel
theorem dX8_init_233 : decode cX8_init 233 = .ok (.aload_n 0, 1) := by decide +kernel
theorem dX8_init_234 : decode cX8_init 234 = .ok (.bipush 32, 2) := by decide +kernel
theorem dX8_init_236 : decode cX8_init 236 = .ok (.newarray .long, 2) := by decide +kernel
theorem dX8_init_238 : decode cX8_init 238 = .ok (.putfield 101, 3) := by decide +kernel
theorem dX8_init_241 : decode cX8_init 241 = .ok (.aload_n 0, 1) := by decide +kernel
theorem dX8_init_242 : decode cX8_init 242 = .ok (.bipush 32, 2) := by decide +kernel
theorem dX8_init_244 : decode cX8_init 244 = .ok (.newarray .long, 2) := by decide +kernel
theorem dX8_init_246 : decode cX8_init 246 = .ok (.putfield 104, 3) := by decide +kernel
theorem dX8_init_249 : decode cX8_init 249 = .ok (.return_, 1) := by decide +kernel
set_option maxHeartbeats 4000000 in
set_option maxRecDepth 100000 in
theorem c_X8_init (l : Launch) (G : m_G) (f0 : Nat → va_E) (hf0 : f0 172 = .inr (8, [.null, .null, .null, .null, .int 0, .long 0, .long 0, .null, .null, .null, .null, .null, .null, .null, .null, .null, .null, .null, .null, .null, .null, .null, .int 0, .int 0, .int 0, .int 0, .int 0, .int 0, .int 0, .int 0, .int 0, .int 0, .int 0, .int 0, .int 0, .int 0, .int 0, .int 0, .int 0, .null, .int 0, .null, .int 0, .null, .long 0, .null, .long 0, .long 0, .null, .null, .null, .null, .null, .null])) : Met l yX8_init (m_U yX8_init cX8_init 1 none) (y_R 1 24 29 2690) (y_Pc G [.ref (m_ad G 172)] f0 (173)) (y_Qv G (y_m G f0 172) (202)) 29 2690 (m_A G) := by
  refine y_i0 (nL := 1) RX8 rfl rfl (by decide) (Nat.le_of_ble_eq_true rfl) ?_
  intro p e s m args below meth c X hin hr hlk hSt hAo hP hS ls hl
  have hl : lv_has ls 1 [(0, .ref (m_ad G 172))] := hl
  have hP := y_start G (x := 172) (x2 := 172) (g := .inr (99, [])) (g2 := .inr (99, [])) hP hf0
  refine lv_aload_n X.1 X.2.1 dX8_init_0 rfl (lv_at hl 0 rfl) ?_
  refine W.objInit X.1 X.2.1 X.2.2.2.1 (X.2.2.2.2 _ k_m_X8_1) (X.2.2.2.2 _ k_i_objectInit) (X.2.2.2.2 _ k_c_objectInit) rfl (by rw [X.2.2.1]; exact hl.1) rfl dX8_init_1 (Nat.le_of_ble_eq_true rfl) (Nat.le_of_ble_eq_true rfl) ?_
  refine W.eq (g2 := F0 m 4 ls []) rfl ?_
  refine lv_aload_n X.1 X.2.1 dX8_init_4 rfl (lv_at hl 0 rfl) ?_
  refine lv_sipush (v := 471) X.1 X.2.1 dX8_init_5 (by decide) ?_
  refine y_na (atype := .int) X hSt hP hS 0 (ty := .int) rfl k_a_int (cA := G.2.1 0) rfl (fun cB h1 h2 => Option.some.inj (h2.symm.trans h1)) (N' := 471) (a0 := (471, .inl (fun _ => 0))) rfl (by decide) (by decide +kernel) (Nat.le_of_ble_eq_true rfl) (Nat.le_of_ble_eq_true rfl) (Nat.le_of_ble_eq_true rfl) dX8_init_8 (fun H hP hS => ?_)
  have hP := y_one G hP (by omega) (by omega) (by omega) (by rw [y_fin_of G (by decide +kernel : m_lay 173 = (0, 471))]; rfl)
  have hP : y_P G (y_n G f0 172 (.inr (8, [.null, .null, .null, .null, .int 0, .long 0, .long 0, .null, .null, .null, .null, .null, .null, .null, .null, .null, .null, .null, .null, .null, .null, .null, .int 0, .int 0, .int 0, .int 0, .int 0, .int 0, .int 0, .int 0, .int 0, .int 0, .int 0, .int 0, .int 0, .int 0, .int 0, .int 0, .int 0, .null, .int 0, .null, .int 0, .null, .long 0, .null, .long 0, .long 0, .null, .null, .null, .null, .null, .null])) 172 (.inr (99, [])) 172 (.inr (99, []))) (174) H := hP
  refine y_pf (v := .ref (m_ad G 173)) X hSt hP hS (ci := 8) inlX8 tyX8 tyX8_ok nmX8 rfl (k := 172) (by omega) (fs := [.null, .null, .null, .null, .int 0, .long 0, .long 0, .null, .null, .null, .null, .null, .null, .null, .null, .null, .null, .null, .null, .null, .null, .null, .int 0, .int 0, .int 0, .int 0, .int 0, .int 0, .int 0, .int 0, .int 0, .int 0, .int 0, .int 0, .int 0, .int 0, .int 0, .int 0, .int 0, .null, .int 0, .null, .int 0, .null, .long 0, .null, .long 0, .long 0, .null, .null, .null, .null, .null, .null]) y_n_own 0 (by decide) hin rfl (tyX8_ok 0 (by decide)) rfl rfl (Nat.le_of_ble_eq_true rfl) k_f_X8_7 dX8_init_10 (fun H locs hP hS => ?_)
  have hP := y_own G hP
  have hP : y_P G (y_n G f0 172 (.inr (8, [.ref (m_ad G 173), .null, .null, .null, .int 0, .long 0, .long 0, .null, .null, .null, .null, .null, .null, .null, .null, .null, .null, .null, .null, .null, .null, .null, .int 0, .int 0, .int 0, .int 0, .int 0, .int 0, .int 0, .int 0, .int 0, .int 0, .int 0, .int 0, .int 0, .int 0, .int 0, .int 0, .int 0, .null, .int 0, .null, .int 0, .null, .long 0, .null, .long 0, .long 0, .null, .null, .null, .null, .null, .null])) 172 (.inr (99, [])) 172 (.inr (99, []))) (174) H := hP
  refine lv_aload_n X.1 X.2.1 dX8_init_13 rfl (lv_at hl 0 rfl) ?_
  refine lv_sipush (v := 942) X.1 X.2.1 dX8_init_14 (by decide) ?_
  refine y_na (atype := .int) X hSt hP hS 0 (ty := .int) rfl k_a_int (cA := G.2.1 0) rfl (fun cB h1 h2 => Option.some.inj (h2.symm.trans h1)) (N' := 942) (a0 := (942, .inl (fun _ => 0))) rfl (by decide) (by decide +kernel) (Nat.le_of_ble_eq_true rfl) (Nat.le_of_ble_eq_true rfl) (Nat.le_of_ble_eq_true rfl) dX8_init_17 (fun H hP hS => ?_)
  have hP := y_one G hP (by omega) (by omega) (by omega) (by rw [y_fin_of G (by decide +kernel : m_lay 174 = (0, 942))]; rfl)
  have hP : y_P G (y_n G f0 172 (.inr (8, [.ref (m_ad G 173), .null, .null, .null, .int 0, .long 0, .long 0, .null, .null, .null, .null, .null, .null, .null, .null, .null, .null, .null, .null, .null, .null, .null, .int 0, .int 0, .int 0, .int 0, .int 0, .int 0, .int 0, .int 0, .int 0, .int 0, .int 0, .int 0, .int 0, .int 0, .int 0, .int 0, .int 0, .null, .int 0, .null, .int 0, .null, .long 0, .null, .long 0, .long 0, .null, .null, .null, .null, .null, .null])) 172 (.inr (99, [])) 172 (.inr (99, []))) (175) H := hP
  refine y_pf (v := .ref (m_ad G 174)) X hSt hP hS (ci := 8) inlX8 tyX8 tyX8_ok nmX8 rfl (k := 172) (by omega) (fs := [.ref (m_ad G 173), .null, .null, .null, .int 0, .long 0, .long 0, .null, .null, .null, .null, .null, .null, .null, .null, .null, .null, .null, .null, .null, .null, .null, .int 0, .int 0, .int 0, .int 0, .int 0, .int 0, .int 0, .int 0, .int 0, .int 0, .int 0, .int 0, .int 0, .int 0, .int 0, .int 0, .int 0, .null, .int 0, .null, .int 0, .null, .long 0, .null, .long 0, .long 0, .null, .null, .null, .null, .null, .null]) y_n_own 1 (by decide) hin rfl (tyX8_ok 1 (by decide)) rfl rfl (Nat.le_of_ble_eq_true rfl) k_f_X8_13 dX8_init_19 (fun H locs hP hS => ?_)
  have hP := y_own G hP
  have hP : y_P G (y_n G f0 172 (.inr (8, [.ref (m_ad G 173), .ref (m_ad G 174), .null, .null, .int 0, .long 0, .long 0, .null, .null, .null, .null, .null, .null, .null, .null, .null, .null, .null, .null, .null, .null, .null, .int 0, .int 0, .int 0, .int 0, .int 0, .int 0, .int 0, .int 0, .int 0, .int 0, .int 0, .int 0, .int 0, .int 0, .int 0, .int 0, .int 0, .null, .int 0, .null, .int 0, .null, .long 0, .null, .long 0, .long 0, .null, .null, .null, .null, .null, .null])) 172 (.inr (99, [])) 172 (.inr (99, []))) (175) H := hP
  refine lv_aload_n X.1 X.2.1 dX8_init_22 rfl (lv_at hl 0 rfl) ?_
  refine lv_iconst (v := 2) X.1 X.2.1 dX8_init_23 (by decide) ?_
  refine y_na (atype := .boolean) X hSt hP hS 2 (ty := .boolean) rfl k_a_boolean (cA := G.2.1 2) rfl (fun cB h1 h2 => Option.some.inj (h2.symm.trans h1)) (N' := 2) (a0 := (2, .inl (fun _ => 0))) rfl (by decide) (by decide +kernel) (Nat.le_of_ble_eq_true rfl) (Nat.le_of_ble_eq_true rfl) (Nat.le_of_ble_eq_true rfl) dX8_init_24 (fun H hP hS => ?_)
  have hP := y_one G hP (by omega) (by omega) (by omega) (by rw [y_fin_of G (by decide +kernel : m_lay 175 = (2, 2))]; rfl)
  have hP : y_P G (y_n G f0 172 (.inr (8, [.ref (m_ad G 173), .ref (m_ad G 174), .null, .null, .int 0, .long 0, .long 0, .null, .null, .null, .null, .null, .null, .null, .null, .null, .null, .null, .null, .null, .null, .null, .int 0, .int 0, .int 0, .int 0, .int 0, .int 0, .int 0, .int 0, .int 0, .int 0, .int 0, .int 0, .int 0, .int 0, .int 0, .int 0, .int 0, .null, .int 0, .null, .int 0, .null, .long 0, .null, .long 0, .long 0, .null, .null, .null, .null, .null, .null])) 172 (.inr (99, [])) 172 (.inr (99, []))) (176) H := hP
  refine y_pf (v := .ref (m_ad G 175)) X hSt hP hS (ci := 8) inlX8 tyX8 tyX8_ok nmX8 rfl (k := 172) (by omega) (fs := [.ref (m_ad G 173), .ref (m_ad G 174), .null, .null, .int 0, .long 0, .long 0, .null, .null, .null, .null, .null, .null, .null, .null, .null, .null, .null, .null, .null, .null, .null, .int 0, .int 0, .int 0, .int 0, .int 0, .int 0, .int 0, .int 0, .int 0, .int 0, .int 0, .int 0, .int 0, .int 0, .int 0, .int 0, .int 0, .null, .int 0, .null, .int 0, .null, .long 0, .null, .long 0, .long 0, .null, .null, .null, .null, .null, .null]) y_n_own 2 (by decide) hin rfl (tyX8_ok 2 (by decide)) rfl rfl (Nat.le_of_ble_eq_true rfl) k_f_X8_16 dX8_init_26 (fun H locs hP hS => ?_)
  have hP := y_own G hP
  have hP : y_P G (y_n G f0 172 (.inr (8, [.ref (m_ad G 173), .ref (m_ad G 174), .ref (m_ad G 175), .null, .int 0, .long 0, .long 0, .null, .null, .null, .null, .null, .null, .null, .null, .null, .null, .null, .null, .null, .null, .null, .int 0, .int 0, .int 0, .int 0, .int 0, .int 0, .int 0, .int 0, .int 0, .int 0, .int 0, .int 0, .int 0, .int 0, .int 0, .int 0, .int 0, .null, .int 0, .null, .int 0, .null, .long 0, .null, .long 0, .long 0, .null, .null, .null, .null, .null, .null])) 172 (.inr (99, [])) 172 (.inr (99, []))) (176) H := hP
  refine lv_aload_n X.1 X.2.1 dX8_init_29 rfl (lv_at hl 0 rfl) ?_
  refine lv_sipush (v := 300) X.1 X.2.1 dX8_init_30 (by decide) ?_
  refine y_na (atype := .int) X hSt hP hS 0 (ty := .int) rfl k_a_int (cA := G.2.1 0) rfl (fun cB h1 h2 => Option.some.inj (h2.symm.trans h1)) (N' := 300) (a0 := (300, .inl (fun _ => 0))) rfl (by decide) (by decide +kernel) (Nat.le_of_ble_eq_true rfl) (Nat.le_of_ble_eq_true rfl) (Nat.le_of_ble_eq_true rfl) dX8_init_33 (fun H hP hS => ?_)
  have hP := y_one G hP (by omega) (by omega) (by omega) (by rw [y_fin_of G (by decide +kernel : m_lay 176 = (0, 300))]; rfl)
  have hP : y_P G (y_n G f0 172 (.inr (8, [.ref (m_ad G 173), .ref (m_ad G 174), .ref (m_ad G 175), .null, .int 0, .long 0, .long 0, .null, .null, .null, .null, .null, .null, .null, .null, .null, .null, .null, .null, .null, .null, .null, .int 0, .int 0, .int 0, .int 0, .int 0, .int 0, .int 0, .int 0, .int 0, .int 0, .int 0, .int 0, .int 0, .int 0, .int 0, .int 0, .int 0, .null, .int 0, .null, .int 0, .null, .long 0, .null, .long 0, .long 0, .null, .null, .null, .null, .null, .null])) 172 (.inr (99, [])) 172 (.inr (99, []))) (177) H := hP
  refine y_pf (v := .ref (m_ad G 176)) X hSt hP hS (ci := 8) inlX8 tyX8 tyX8_ok nmX8 rfl (k := 172) (by omega) (fs := [.ref (m_ad G 173), .ref (m_ad G 174), .ref (m_ad G 175), .null, .int 0, .long 0, .long 0, .null, .null, .null, .null, .null, .null, .null, .null, .null, .null, .null, .null, .null, .null, .null, .int 0, .int 0, .int 0, .int 0, .int 0, .int 0, .int 0, .int 0, .int 0, .int 0, .int 0, .int 0, .int 0, .int 0, .int 0, .int 0, .int 0, .null, .int 0, .null, .int 0, .null, .long 0, .null, .long 0, .long 0, .null, .null, .null, .null, .null, .null]) y_n_own 3 (by decide) hin rfl (tyX8_ok 3 (by decide)) rfl rfl (Nat.le_of_ble_eq_true rfl) k_f_X8_20 dX8_init_35 (fun H locs hP hS => ?_)
  have hP := y_own G hP
  have hP : y_P G (y_n G f0 172 (.inr (8, [.ref (m_ad G 173), .ref (m_ad G 174), .ref (m_ad G 175), .ref (m_ad G 176), .int 0, .long 0, .long 0, .null, .null, .null, .null, .null, .null, .null, .null, .null, .null, .null, .null, .null, .null, .null, .int 0, .int 0, .int 0, .int 0, .int 0, .int 0, .int 0, .int 0, .int 0, .int 0, .int 0, .int 0, .int 0, .int 0, .int 0, .int 0, .int 0, .null, .int 0, .null, .int 0, .null, .long 0, .null, .long 0, .long 0, .null, .null, .null, .null, .null, .null])) 172 (.inr (99, [])) 172 (.inr (99, []))) (177) H := hP
  refine lv_aload_n X.1 X.2.1 dX8_init_38 rfl (lv_at hl 0 rfl) ?_
  refine lv_lconst (v := 1) X.1 X.2.1 dX8_init_39 (by decide) ?_
  refine y_pf (v := .long 1) X hSt hP hS (ci := 8) inlX8 tyX8 tyX8_ok nmX8 rfl (k := 172) (by omega) (fs := [.ref (m_ad G 173), .ref (m_ad G 174), .ref (m_ad G 175), .ref (m_ad G 176), .int 0, .long 0, .long 0, .null, .null, .null, .null, .null, .null, .null, .null, .null, .null, .null, .null, .null, .null, .null, .int 0, .int 0, .int 0, .int 0, .int 0, .int 0, .int 0, .int 0, .int 0, .int 0, .int 0, .int 0, .int 0, .int 0, .int 0, .int 0, .int 0, .null, .int 0, .null, .int 0, .null, .long 0, .null, .long 0, .long 0, .null, .null, .null, .null, .null, .null]) y_n_own 6 (by decide) hin rfl (tyX8_ok 6 (by decide)) rfl rfl (Nat.le_of_ble_eq_true rfl) k_f_X8_23 dX8_init_40 (fun H locs hP hS => ?_)
  have hP := y_own G hP
  have hP : y_P G (y_n G f0 172 (.inr (8, [.ref (m_ad G 173), .ref (m_ad G 174), .ref (m_ad G 175), .ref (m_ad G 176), .int 0, .long 0, .long 1, .null, .null, .null, .null, .null, .null, .null, .null, .null, .null, .null, .null, .null, .null, .null, .int 0, .int 0, .int 0, .int 0, .int 0, .int 0, .int 0, .int 0, .int 0, .int 0, .int 0, .int 0, .int 0, .int 0, .int 0, .int 0, .int 0, .null, .int 0, .null, .int 0, .null, .long 0, .null, .long 0, .long 0, .null, .null, .null, .null, .null, .null])) 172 (.inr (99, [])) 172 (.inr (99, []))) (177) H := hP
  refine lv_aload_n X.1 X.2.1 dX8_init_43 rfl (lv_at hl 0 rfl) ?_
  refine lv_bipush (v := 10) X.1 X.2.1 dX8_init_44 (by decide) ?_
  refine y_na (atype := .int) X hSt hP hS 0 (ty := .int) rfl k_a_int (cA := G.2.1 0) rfl (fun cB h1 h2 => Option.some.inj (h2.symm.trans h1)) (N' := 10) (a0 := (10, .inl (fun _ => 0))) rfl (by decide) (by decide +kernel) (Nat.le_of_ble_eq_true rfl) (Nat.le_of_ble_eq_true rfl) (Nat.le_of_ble_eq_true rfl) dX8_init_46 (fun H hP hS => ?_)
  have hP := y_one G hP (by omega) (by omega) (by omega) (by rw [y_fin_of G (by decide +kernel : m_lay 177 = (0, 10))]; rfl)
  have hP : y_P G (y_n G f0 172 (.inr (8, [.ref (m_ad G 173), .ref (m_ad G 174), .ref (m_ad G 175), .ref (m_ad G 176), .int 0, .long 0, .long 1, .null, .null, .null, .null, .null, .null, .null, .null, .null, .null, .null, .null, .null, .null, .null, .int 0, .int 0, .int 0, .int 0, .int 0, .int 0, .int 0, .int 0, .int 0, .int 0, .int 0, .int 0, .int 0, .int 0, .int 0, .int 0, .int 0, .null, .int 0, .null, .int 0, .null, .long 0, .null, .long 0, .long 0, .null, .null, .null, .null, .null, .null])) 172 (.inr (99, [])) 172 (.inr (99, []))) (178) H := hP
  refine y_pf (v := .ref (m_ad G 177)) X hSt hP hS (ci := 8) inlX8 tyX8 tyX8_ok nmX8 rfl (k := 172) (by omega) (fs := [.ref (m_ad G 173), .ref (m_ad G 174), .ref (m_ad G 175), .ref (m_ad G 176), .int 0, .long 0, .long 1, .null, .null, .null, .null, .null, .null, .null, .null, .null, .null, .null, .null, .null, .null, .null, .int 0, .int 0, .int 0, .int 0, .int 0, .int 0, .int 0, .int 0, .int 0, .int 0, .int 0, .int 0, .int 0, .int 0, .int 0, .int 0, .int 0, .null, .int 0, .null, .int 0, .null, .long 0, .null, .long 0, .long 0, .null, .null, .null, .null, .null, .null]) y_n_own 7 (by decide) hin rfl (tyX8_ok 7 (by decide)) rfl rfl (Nat.le_of_ble_eq_true rfl) k_f_X8_27 dX8_init_48 (fun H locs hP hS => ?_)
  have hP := y_own G hP
  have hP : y_P G (y_n G f0 172 (.inr (8, [.ref (m_ad G 173), .ref (m_ad G 174), .ref (m_ad G 175), .ref (m_ad G 176), .int 0, .long 0, .long 1, .ref (m_ad G 177), .null, .null, .null, .null, .null, .null, .null, .null, .null, .null, .null, .null, .null, .null, .int 0, .int 0, .int 0, .int 0, .int 0, .int 0, .int 0, .int 0, .int 0, .int 0, .int 0, .int 0, .int 0, .int 0, .int 0, .int 0, .int 0, .null, .int 0, .null, .int 0, .null, .long 0, .null, .long 0, .long 0, .null, .null, .null, .null, .null, .null])) 172 (.inr (99, [])) 172 (.inr (99, []))) (178) H := hP
  refine lv_aload_n X.1 X.2.1 dX8_init_51 rfl (lv_at hl 0 rfl) ?_
  refine lv_bipush (v := 10) X.1 X.2.1 dX8_init_52 (by decide) ?_
  refine y_na (atype := .int) X hSt hP hS 0 (ty := .int) rfl k_a_int (cA := G.2.1 0) rfl (fun cB h1 h2 => Option.some.inj (h2.symm.trans h1)) (N' := 10) (a0 := (10, .inl (fun _ => 0))) rfl (by decide) (by decide +kernel) (Nat.le_of_ble_eq_true rfl) (Nat.le_of_ble_eq_true rfl) (Nat.le_of_ble_eq_true rfl) dX8_init_54 (fun H hP hS => ?_)
  have hP := y_one G hP (by omega) (by omega) (by omega) (by rw [y_fin_of G (by decide +kernel : m_lay 178 = (0, 10))]; rfl)
  have hP : y_P G (y_n G f0 172 (.inr (8, [.ref (m_ad G 173), .ref (m_ad G 174), .ref (m_ad G 175), .ref (m_ad G 176), .int 0, .long 0, .long 1, .ref (m_ad G 177), .null, .null, .null, .null, .null, .null, .null, .null, .null, .null, .null, .null, .null, .null, .int 0, .int 0, .int 0, .int 0, .int 0, .int 0, .int 0, .int 0, .int 0, .int 0, .int 0, .int 0, .int 0, .int 0, .int 0, .int 0, .int 0, .null, .int 0, .null, .int 0, .null, .long 0, .null, .long 0, .long 0, .null, .null, .null, .null, .null, .null])) 172 (.inr (99, [])) 172 (.inr (99, []))) (179) H := hP
  refine y_pf (v := .ref (m_ad G 178)) X hSt hP hS (ci := 8) inlX8 tyX8 tyX8_ok nmX8 rfl (k := 172) (by omega) (fs := [.ref (m_ad G 173), .ref (m_ad G 174), .ref (m_ad G 175), .ref (m_ad G 176), .int 0, .long 0, .long 1, .ref (m_ad G 177), .null, .null, .null, .null, .null, .null, .null, .null, .null, .null, .null, .null, .null, .null, .int 0, .int 0, .int 0, .int 0, .int 0, .int 0, .int 0, .int 0, .int 0, .int 0, .int 0, .int 0, .int 0, .int 0, .int 0, .int 0, .int 0, .null, .int 0, .null, .int 0, .null, .long 0, .null, .long 0, .long 0, .null, .null, .null, .null, .null, .null]) y_n_own 8 (by decide) hin rfl (tyX8_ok 8 (by decide)) rfl rfl (Nat.le_of_ble_eq_true rfl) k_f_X8_30 dX8_init_56 (fun H locs hP hS => ?_)
  have hP := y_own G hP
  have hP : y_P G (y_n G f0 172 (.inr (8, [.ref (m_ad G 173), .ref (m_ad G 174), .ref (m_ad G 175), .ref (m_ad G 176), .int 0, .long 0, .long 1, .ref (m_ad G 177), .ref (m_ad G 178), .null, .null, .null, .null, .null, .null, .null, .null, .null, .null, .null, .null, .null, .int 0, .int 0, .int 0, .int 0, .int 0, .int 0, .int 0, .int 0, .int 0, .int 0, .int 0, .int 0, .int 0, .int 0, .int 0, .int 0, .int 0, .null, .int 0, .null, .int 0, .null, .long 0, .null, .long 0, .long 0, .null, .null, .null, .null, .null, .null])) 172 (.inr (99, [])) 172 (.inr (99, []))) (179) H := hP
  refine lv_aload_n X.1 X.2.1 dX8_init_59 rfl (lv_at hl 0 rfl) ?_
  refine lv_bipush (v := 10) X.1 X.2.1 dX8_init_60 (by decide) ?_
  refine y_na (atype := .int) X hSt hP hS 0 (ty := .int) rfl k_a_int (cA := G.2.1 0) rfl (fun cB h1 h2 => Option.some.inj (h2.symm.trans h1)) (N' := 10) (a0 := (10, .inl (fun _ => 0))) rfl (by decide) (by decide +kernel) (Nat.le_of_ble_eq_true rfl) (Nat.le_of_ble_eq_true rfl) (Nat.le_of_ble_eq_true rfl) dX8_init_62 (fun H hP hS => ?_)
  have hP := y_one G hP (by omega) (by omega) (by omega) (by rw [y_fin_of G (by decide +kernel : m_lay 179 = (0, 10))]; rfl)
  have hP : y_P G (y_n G f0 172 (.inr (8, [.ref (m_ad G 173), .ref (m_ad G 174), .ref (m_ad G 175), .ref (m_ad G 176), .int 0, .long 0, .long 1, .ref (m_ad G 177), .ref (m_ad G 178), .null, .null, .null, .null, .null, .null, .null, .null, .null, .null, .null, .null, .null, .int 0, .int 0, .int 0, .int 0, .int 0, .int 0, .int 0, .int 0, .int 0, .int 0, .int 0, .int 0, .int 0, .int 0, .int 0, .int 0, .int 0, .null, .int 0, .null, .int 0, .null, .long 0, .null, .long 0, .long 0, .null, .null, .null, .null, .null, .null])) 172 (.inr (99, [])) 172 (.inr (99, []))) (180) H := hP
  refine y_pf (v := .ref (m_ad G 179)) X hSt hP hS (ci := 8) inlX8 tyX8 tyX8_ok nmX8 rfl (k := 172) (by omega) (fs := [.ref (m_ad G 173), .ref (m_ad G 174), .ref (m_ad G 175), .ref (m_ad G 176), .int 0, .long 0, .long 1, .ref (m_ad G 177), .ref (m_ad G 178), .null, .null, .null, .null, .null, .null, .null, .null, .null, .null, .null, .null, .null, .int 0, .int 0, .int 0, .int 0, .int 0, .int 0, .int 0, .int 0, .int 0, .int 0, .int 0, .int 0, .int 0, .int 0, .int 0, .int 0, .int 0, .null, .int 0, .null, .int 0, .null, .long 0, .null, .long 0, .long 0, .null, .null, .null, .null, .null, .null]) y_n_own 9 (by decide) hin rfl (tyX8_ok 9 (by decide)) rfl rfl (Nat.le_of_ble_eq_true rfl) k_f_X8_33 dX8_init_64 (fun H locs hP hS => ?_)
  have hP := y_own G hP
  have hP : y_P G (y_n G f0 172 (.inr (8, [.ref (m_ad G 173), .ref (m_ad G 174), .ref (m_ad G 175), .ref (m_ad G 176), .int 0, .long 0, .long 1, .ref (m_ad G 177), .ref (m_ad G 178), .ref (m_ad G 179), .null, .null, .null, .null, .null, .null, .null, .null, .null, .null, .null, .null, .int 0, .int 0, .int 0, .int 0, .int 0, .int 0, .int 0, .int 0, .int 0, .int 0, .int 0, .int 0, .int 0, .int 0, .int 0, .int 0, .int 0, .null, .int 0, .null, .int 0, .null, .long 0, .null, .long 0, .long 0, .null, .null, .null, .null, .null, .null])) 172 (.inr (99, [])) 172 (.inr (99, []))) (180) H := hP
  refine lv_aload_n X.1 X.2.1 dX8_init_67 rfl (lv_at hl 0 rfl) ?_
  refine lv_bipush (v := 10) X.1 X.2.1 dX8_init_68 (by decide) ?_
  refine y_na (atype := .int) X hSt hP hS 0 (ty := .int) rfl k_a_int (cA := G.2.1 0) rfl (fun cB h1 h2 => Option.some.inj (h2.symm.trans h1)) (N' := 10) (a0 := (10, .inl (fun _ => 0))) rfl (by decide) (by decide +kernel) (Nat.le_of_ble_eq_true rfl) (Nat.le_of_ble_eq_true rfl) (Nat.le_of_ble_eq_true rfl) dX8_init_70 (fun H hP hS => ?_)
  have hP := y_one G hP (by omega) (by omega) (by omega) (by rw [y_fin_of G (by decide +kernel : m_lay 180 = (0, 10))]; rfl)
  have hP : y_P G (y_n G f0 172 (.inr (8, [.ref (m_ad G 173), .ref (m_ad G 174), .ref (m_ad G 175), .ref (m_ad G 176), .int 0, .long 0, .long 1, .ref (m_ad G 177), .ref (m_ad G 178), .ref (m_ad G 179), .null, .null, .null, .null, .null, .null, .null, .null, .null, .null, .null, .null, .int 0, .int 0, .int 0, .int 0, .int 0, .int 0, .int 0, .int 0, .int 0, .int 0, .int 0, .int 0, .int 0, .int 0, .int 0, .int 0, .int 0, .null, .int 0, .null, .int 0, .null, .long 0, .null, .long 0, .long 0, .null, .null, .null, .null, .null, .null])) 172 (.inr (99, [])) 172 (.inr (99, []))) (181) H := hP
  refine y_pf (v := .ref (m_ad G 180)) X hSt hP hS (ci := 8) inlX8 tyX8 tyX8_ok nmX8 rfl (k := 172) (by omega) (fs := [.ref (m_ad G 173), .ref (m_ad G 174), .ref (m_ad G 175), .ref (m_ad G 176), .int 0, .long 0, .long 1, .ref (m_ad G 177), .ref (m_ad G 178), .ref (m_ad G 179), .null, .null, .null, .null, .null, .null, .null, .null, .null, .null, .null, .null, .int 0, .int 0, .int 0, .int 0, .int 0, .int 0, .int 0, .int 0, .int 0, .int 0, .int 0, .int 0, .int 0, .int 0, .int 0, .int 0, .int 0, .null, .int 0, .null, .int 0, .null, .long 0, .null, .long 0, .long 0, .null, .null, .null, .null, .null, .null]) y_n_own 10 (by decide) hin rfl (tyX8_ok 10 (by decide)) rfl rfl (Nat.le_of_ble_eq_true rfl) k_f_X8_36 dX8_init_72 (fun H locs hP hS => ?_)
  have hP := y_own G hP
  have hP : y_P G (y_n G f0 172 (.inr (8, [.ref (m_ad G 173), .ref (m_ad G 174), .ref (m_ad G 175), .ref (m_ad G 176), .int 0, .long 0, .long 1, .ref (m_ad G 177), .ref (m_ad G 178), .ref (m_ad G 179), .ref (m_ad G 180), .null, .null, .null, .null, .null, .null, .null, .null, .null, .null, .null, .int 0, .int 0, .int 0, .int 0, .int 0, .int 0, .int 0, .int 0, .int 0, .int 0, .int 0, .int 0, .int 0, .int 0, .int 0, .int 0, .int 0, .null, .int 0, .null, .int 0, .null, .long 0, .null, .long 0, .long 0, .null, .null, .null, .null, .null, .null])) 172 (.inr (99, [])) 172 (.inr (99, []))) (181) H := hP
  refine lv_aload_n X.1 X.2.1 dX8_init_75 rfl (lv_at hl 0 rfl) ?_
  refine lv_bipush (v := 40) X.1 X.2.1 dX8_init_76 (by decide) ?_
  refine y_na (atype := .int) X hSt hP hS 0 (ty := .int) rfl k_a_int (cA := G.2.1 0) rfl (fun cB h1 h2 => Option.some.inj (h2.symm.trans h1)) (N' := 40) (a0 := (40, .inl (fun _ => 0))) rfl (by decide) (by decide +kernel) (Nat.le_of_ble_eq_true rfl) (Nat.le_of_ble_eq_true rfl) (Nat.le_of_ble_eq_true rfl) dX8_init_78 (fun H hP hS => ?_)
  have hP := y_one G hP (by omega) (by omega) (by omega) (by rw [y_fin_of G (by decide +kernel : m_lay 181 = (0, 40))]; rfl)
  have hP : y_P G (y_n G f0 172 (.inr (8, [.ref (m_ad G 173), .ref (m_ad G 174), .ref (m_ad G 175), .ref (m_ad G 176), .int 0, .long 0, .long 1, .ref (m_ad G 177), .ref (m_ad G 178), .ref (m_ad G 179), .ref (m_ad G 180), .null, .null, .null, .null, .null, .null, .null, .null, .null, .null, .null, .int 0, .int 0, .int 0, .int 0, .int 0, .int 0, .int 0, .int 0, .int 0, .int 0, .int 0, .int 0, .int 0, .int 0, .int 0, .int 0, .int 0, .null, .int 0, .null, .int 0, .null, .long 0, .null, .long 0, .long 0, .null, .null, .null, .null, .null, .null])) 172 (.inr (99, [])) 172 (.inr (99, []))) (182) H := hP
  refine y_pf (v := .ref (m_ad G 181)) X hSt hP hS (ci := 8) inlX8 tyX8 tyX8_ok nmX8 rfl (k := 172) (by omega) (fs := [.ref (m_ad G 173), .ref (m_ad G 174), .ref (m_ad G 175), .ref (m_ad G 176), .int 0, .long 0, .long 1, .ref (m_ad G 177), .ref (m_ad G 178), .ref (m_ad G 179), .ref (m_ad G 180), .null, .null, .null, .null, .null, .null, .null, .null, .null, .null, .null, .int 0, .int 0, .int 0, .int 0, .int 0, .int 0, .int 0, .int 0, .int 0, .int 0, .int 0, .int 0, .int 0, .int 0, .int 0, .int 0, .int 0, .null, .int 0, .null, .int 0, .null, .long 0, .null, .long 0, .long 0, .null, .null, .null, .null, .null, .null]) y_n_own 11 (by decide) hin rfl (tyX8_ok 11 (by decide)) rfl rfl (Nat.le_of_ble_eq_true rfl) k_f_X8_39 dX8_init_80 (fun H locs hP hS => ?_)
  have hP := y_own G hP
  have hP : y_P G (y_n G f0 172 (.inr (8, [.ref (m_ad G 173), .ref (m_ad G 174), .ref (m_ad G 175), .ref (m_ad G 176), .int 0, .long 0, .long 1, .ref (m_ad G 177), .ref (m_ad G 178), .ref (m_ad G 179), .ref (m_ad G 180), .ref (m_ad G 181), .null, .null, .null, .null, .null, .null, .null, .null, .null, .null, .int 0, .int 0, .int 0, .int 0, .int 0, .int 0, .int 0, .int 0, .int 0, .int 0, .int 0, .int 0, .int 0, .int 0, .int 0, .int 0, .int 0, .null, .int 0, .null, .int 0, .null, .long 0, .null, .long 0, .long 0, .null, .null, .null, .null, .null, .null])) 172 (.inr (99, [])) 172 (.inr (99, []))) (182) H := hP
  refine lv_aload_n X.1 X.2.1 dX8_init_83 rfl (lv_at hl 0 rfl) ?_
  refine lv_bipush (v := 40) X.1 X.2.1 dX8_init_84 (by decide) ?_
  refine y_na (atype := .boolean) X hSt hP hS 2 (ty := .boolean) rfl k_a_boolean (cA := G.2.1 2) rfl (fun cB h1 h2 => Option.some.inj (h2.symm.trans h1)) (N' := 40) (a0 := (40, .inl (fun _ => 0))) rfl (by decide) (by decide +kernel) (Nat.le_of_ble_eq_true rfl) (Nat.le_of_ble_eq_true rfl) (Nat.le_of_ble_eq_true rfl) dX8_init_86 (fun H hP hS => ?_)
  have hP := y_one G hP (by omega) (by omega) (by omega) (by rw [y_fin_of G (by decide +kernel : m_lay 182 = (2, 40))]; rfl)
  have hP : y_P G (y_n G f0 172 (.inr (8, [.ref (m_ad G 173), .ref (m_ad G 174), .ref (m_ad G 175), .ref (m_ad G 176), .int 0, .long 0, .long 1, .ref (m_ad G 177), .ref (m_ad G 178), .ref (m_ad G 179), .ref (m_ad G 180), .ref (m_ad G 181), .null, .null, .null, .null, .null, .null, .null, .null, .null, .null, .int 0, .int 0, .int 0, .int 0, .int 0, .int 0, .int 0, .int 0, .int 0, .int 0, .int 0, .int 0, .int 0, .int 0, .int 0, .int 0, .int 0, .null, .int 0, .null, .int 0, .null, .long 0, .null, .long 0, .long 0, .null, .null, .null, .null, .null, .null])) 172 (.inr (99, [])) 172 (.inr (99, []))) (183) H := hP
  refine y_pf (v := .ref (m_ad G 182)) X hSt hP hS (ci := 8) inlX8 tyX8 tyX8_ok nmX8 rfl (k := 172) (by omega) (fs := [.ref (m_ad G 173), .ref (m_ad G 174), .ref (m_ad G 175), .ref (m_ad G 176), .int 0, .long 0, .long 1, .ref (m_ad G 177), .ref (m_ad G 178), .ref (m_ad G 179), .ref (m_ad G 180), .ref (m_ad G 181), .null, .null, .null, .null, .null, .null, .null, .null, .null, .null, .int 0, .int 0, .int 0, .int 0, .int 0, .int 0, .int 0, .int 0, .int 0, .int 0, .int 0, .int 0, .int 0, .int 0, .int 0, .int 0, .int 0, .null, .int 0, .null, .int 0, .null, .long 0, .null, .long 0, .long 0, .null, .null, .null, .null, .null, .null]) y_n_own 12 (by decide) hin rfl (tyX8_ok 12 (by decide)) rfl rfl (Nat.le_of_ble_eq_true rfl) k_f_X8_42 dX8_init_88 (fun H locs hP hS => ?_)
  have hP := y_own G hP
  have hP : y_P G (y_n G f0 172 (.inr (8, [.ref (m_ad G 173), .ref (m_ad G 174), .ref (m_ad G 175), .ref (m_ad G 176), .int 0, .long 0, .long 1, .ref (m_ad G 177), .ref (m_ad G 178), .ref (m_ad G 179), .ref (m_ad G 180), .ref (m_ad G 181), .ref (m_ad G 182), .null, .null, .null, .null, .null, .null, .null, .null, .null, .int 0, .int 0, .int 0, .int 0, .int 0, .int 0, .int 0, .int 0, .int 0, .int 0, .int 0, .int 0, .int 0, .int 0, .int 0, .int 0, .int 0, .null, .int 0, .null, .int 0, .null, .long 0, .null, .long 0, .long 0, .null, .null, .null, .null, .null, .null])) 172 (.inr (99, [])) 172 (.inr (99, []))) (183) H := hP
  refine lv_aload_n X.1 X.2.1 dX8_init_91 rfl (lv_at hl 0 rfl) ?_
  refine lv_bipush (v := 40) X.1 X.2.1 dX8_init_92 (by decide) ?_
  refine y_na (atype := .boolean) X hSt hP hS 2 (ty := .boolean) rfl k_a_boolean (cA := G.2.1 2) rfl (fun cB h1 h2 => Option.some.inj (h2.symm.trans h1)) (N' := 40) (a0 := (40, .inl (fun _ => 0))) rfl (by decide) (by decide +kernel) (Nat.le_of_ble_eq_true rfl) (Nat.le_of_ble_eq_true rfl) (Nat.le_of_ble_eq_true rfl) dX8_init_94 (fun H hP hS => ?_)
  have hP := y_one G hP (by omega) (by omega) (by omega) (by rw [y_fin_of G (by decide +kernel : m_lay 183 = (2, 40))]; rfl)
  have hP : y_P G (y_n G f0 172 (.inr (8, [.ref (m_ad G 173), .ref (m_ad G 174), .ref (m_ad G 175), .ref (m_ad G 176), .int 0, .long 0, .long 1, .ref (m_ad G 177), .ref (m_ad G 178), .ref (m_ad G 179), .ref (m_ad G 180), .ref (m_ad G 181), .ref (m_ad G 182), .null, .null, .null, .null, .null, .null, .null, .null, .null, .int 0, .int 0, .int 0, .int 0, .int 0, .int 0, .int 0, .int 0, .int 0, .int 0, .int 0, .int 0, .int 0, .int 0, .int 0, .int 0, .int 0, .null, .int 0, .null, .int 0, .null, .long 0, .null, .long 0, .long 0, .null, .null, .null, .null, .null, .null])) 172 (.inr (99, [])) 172 (.inr (99, []))) (184) H := hP
  refine y_pf (v := .ref (m_ad G 183)) X hSt hP hS (ci := 8) inlX8 tyX8 tyX8_ok nmX8 rfl (k := 172) (by omega) (fs := [.ref (m_ad G 173), .ref (m_ad G 174), .ref (m_ad G 175), .ref (m_ad G 176), .int 0, .long 0, .long 1, .ref (m_ad G 177), .ref (m_ad G 178), .ref (m_ad G 179), .ref (m_ad G 180), .ref (m_ad G 181), .ref (m_ad G 182), .null, .null, .null, .null, .null, .null, .null, .null, .null, .int 0, .int 0, .int 0, .int 0, .int 0, .int 0, .int 0, .int 0, .int 0, .int 0, .int 0, .int 0, .int 0, .int 0, .int 0, .int 0, .int 0, .null, .int 0, .null, .int 0, .null, .long 0, .null, .long 0, .long 0, .null, .null, .null, .null, .null, .null]) y_n_own 13 (by decide) hin rfl (tyX8_ok 13 (by decide)) rfl rfl (Nat.le_of_ble_eq_true rfl) k_f_X8_45 dX8_init_96 (fun H locs hP hS => ?_)
  have hP := y_own G hP
  have hP : y_P G (y_n G f0 172 (.inr (8, [.ref (m_ad G 173), .ref (m_ad G 174), .ref (m_ad G 175), .ref (m_ad G 176), .int 0, .long 0, .long 1, .ref (m_ad G 177), .ref (m_ad G 178), .ref (m_ad G 179), .ref (m_ad G 180), .ref (m_ad G 181), .ref (m_ad G 182), .ref (m_ad G 183), .null, .null, .null, .null, .null, .null, .null, .null, .int 0, .int 0, .int 0, .int 0, .int 0, .int 0, .int 0, .int 0, .int 0, .int 0, .int 0, .int 0, .int 0, .int 0, .int 0, .int 0, .int 0, .null, .int 0, .null, .int 0, .null, .long 0, .null, .long 0, .long 0, .null, .null, .null, .null, .null, .null])) 172 (.inr (99, [])) 172 (.inr (99, []))) (184) H := hP
  refine lv_aload_n X.1 X.2.1 dX8_init_99 rfl (lv_at hl 0 rfl) ?_
  refine lv_bipush (v := 100) X.1 X.2.1 dX8_init_100 (by decide) ?_
  refine y_na (atype := .int) X hSt hP hS 0 (ty := .int) rfl k_a_int (cA := G.2.1 0) rfl (fun cB h1 h2 => Option.some.inj (h2.symm.trans h1)) (N' := 100) (a0 := (100, .inl (fun _ => 0))) rfl (by decide) (by decide +kernel) (Nat.le_of_ble_eq_true rfl) (Nat.le_of_ble_eq_true rfl) (Nat.le_of_ble_eq_true rfl) dX8_init_102 (fun H hP hS => ?_)
  have hP := y_one G hP (by omega) (by omega) (by omega) (by rw [y_fin_of G (by decide +kernel : m_lay 184 = (0, 100))]; rfl)
  have hP : y_P G (y_n G f0 172 (.inr (8, [.ref (m_ad G 173), .ref (m_ad G 174), .ref (m_ad G 175), .ref (m_ad G 176), .int 0, .long 0, .long 1, .ref (m_ad G 177), .ref (m_ad G 178), .ref (m_ad G 179), .ref (m_ad G 180), .ref (m_ad G 181), .ref (m_ad G 182), .ref (m_ad G 183), .null, .null, .null, .null, .null, .null, .null, .null, .int 0, .int 0, .int 0, .int 0, .int 0, .int 0, .int 0, .int 0, .int 0, .int 0, .int 0, .int 0, .int 0, .int 0, .int 0, .int 0, .int 0, .null, .int 0, .null, .int 0, .null, .long 0, .null, .long 0, .long 0, .null, .null, .null, .null, .null, .null])) 172 (.inr (99, [])) 172 (.inr (99, []))) (185) H := hP
  refine y_pf (v := .ref (m_ad G 184)) X hSt hP hS (ci := 8) inlX8 tyX8 tyX8_ok nmX8 rfl (k := 172) (by omega) (fs := [.ref (m_ad G 173), .ref (m_ad G 174), .ref (m_ad G 175), .ref (m_ad G 176), .int 0, .long 0, .long 1, .ref (m_ad G 177), .ref (m_ad G 178), .ref (m_ad G 179), .ref (m_ad G 180), .ref (m_ad G 181), .ref (m_ad G 182), .ref (m_ad G 183), .null, .null, .null, .null, .null, .null, .null, .null, .int 0, .int 0, .int 0, .int 0, .int 0, .int 0, .int 0, .int 0, .int 0, .int 0, .int 0, .int 0, .int 0, .int 0, .int 0, .int 0, .int 0, .null, .int 0, .null, .int 0, .null, .long 0, .null, .long 0, .long 0, .null, .null, .null, .null, .null, .null]) y_n_own 14 (by decide) hin rfl (tyX8_ok 14 (by decide)) rfl rfl (Nat.le_of_ble_eq_true rfl) k_f_X8_48 dX8_init_104 (fun H locs hP hS => ?_)
  have hP := y_own G hP
  have hP : y_P G (y_n G f0 172 (.inr (8, [.ref (m_ad G 173), .ref (m_ad G 174), .ref (m_ad G 175), .ref (m_ad G 176), .int 0, .long 0, .long 1, .ref (m_ad G 177), .ref (m_ad G 178), .ref (m_ad G 179), .ref (m_ad G 180), .ref (m_ad G 181), .ref (m_ad G 182), .ref (m_ad G 183), .ref (m_ad G 184), .null, .null, .null, .null, .null, .null, .null, .int 0, .int 0, .int 0, .int 0, .int 0, .int 0, .int 0, .int 0, .int 0, .int 0, .int 0, .int 0, .int 0, .int 0, .int 0, .int 0, .int 0, .null, .int 0, .null, .int 0, .null, .long 0, .null, .long 0, .long 0, .null, .null, .null, .null, .null, .null])) 172 (.inr (99, [])) 172 (.inr (99, []))) (185) H := hP
  refine lv_aload_n X.1 X.2.1 dX8_init_107 rfl (lv_at hl 0 rfl) ?_
  refine lv_bipush (v := 60) X.1 X.2.1 dX8_init_108 (by decide) ?_
  refine y_na (atype := .int) X hSt hP hS 0 (ty := .int) rfl k_a_int (cA := G.2.1 0) rfl (fun cB h1 h2 => Option.some.inj (h2.symm.trans h1)) (N' := 60) (a0 := (60, .inl (fun _ => 0))) rfl (by decide) (by decide +kernel) (Nat.le_of_ble_eq_true rfl) (Nat.le_of_ble_eq_true rfl) (Nat.le_of_ble_eq_true rfl) dX8_init_110 (fun H hP hS => ?_)
  have hP := y_one G hP (by omega) (by omega) (by omega) (by rw [y_fin_of G (by decide +kernel : m_lay 185 = (0, 60))]; rfl)
  have hP : y_P G (y_n G f0 172 (.inr (8, [.ref (m_ad G 173), .ref (m_ad G 174), .ref (m_ad G 175), .ref (m_ad G 176), .int 0, .long 0, .long 1, .ref (m_ad G 177), .ref (m_ad G 178), .ref (m_ad G 179), .ref (m_ad G 180), .ref (m_ad G 181), .ref (m_ad G 182), .ref (m_ad G 183), .ref (m_ad G 184), .null, .null, .null, .null, .null, .null, .null, .int 0, .int 0, .int 0, .int 0, .int 0, .int 0, .int 0, .int 0, .int 0, .int 0, .int 0, .int 0, .int 0, .int 0, .int 0, .int 0, .int 0, .null, .int 0, .null, .int 0, .null, .long 0, .null, .long 0, .long 0, .null, .null, .null, .null, .null, .null])) 172 (.inr (99, [])) 172 (.inr (99, []))) (186) H := hP
  refine y_pf (v := .ref (m_ad G 185)) X hSt hP hS (ci := 8) inlX8 tyX8 tyX8_ok nmX8 rfl (k := 172) (by omega) (fs := [.ref (m_ad G 173), .ref (m_ad G 174), .ref (m_ad G 175), .ref (m_ad G 176), .int 0, .long 0, .long 1, .ref (m_ad G 177), .ref (m_ad G 178), .ref (m_ad G 179), .ref (m_ad G 180), .ref (m_ad G 181), .ref (m_ad G 182), .ref (m_ad G 183), .ref (m_ad G 184), .null, .null, .null, .null, .null, .null, .null, .int 0, .int 0, .int 0, .int 0, .int 0, .int 0, .int 0, .int 0, .int 0, .int 0, .int 0, .int 0, .int 0, .int 0, .int 0, .int 0, .int 0, .null, .int 0, .null, .int 0, .null, .long 0, .null, .long 0, .long 0, .null, .null, .null, .null, .null, .null]) y_n_own 15 (by decide) hin rfl (tyX8_ok 15 (by decide)) rfl rfl (Nat.le_of_ble_eq_true rfl) k_f_X8_51 dX8_init_112 (fun H locs hP hS => ?_)
  have hP := y_own G hP
  have hP : y_P G (y_n G f0 172 (.inr (8, [.ref (m_ad G 173), .ref (m_ad G 174), .ref (m_ad G 175), .ref (m_ad G 176), .int 0, .long 0, .long 1, .ref (m_ad G 177), .ref (m_ad G 178), .ref (m_ad G 179), .ref (m_ad G 180), .ref (m_ad G 181), .ref (m_ad G 182), .ref (m_ad G 183), .ref (m_ad G 184), .ref (m_ad G 185), .null, .null, .null, .null, .null, .null, .int 0, .int 0, .int 0, .int 0, .int 0, .int 0, .int 0, .int 0, .int 0, .int 0, .int 0, .int 0, .int 0, .int 0, .int 0, .int 0, .int 0, .null, .int 0, .null, .int 0, .null, .long 0, .null, .long 0, .long 0, .null, .null, .null, .null, .null, .null])) 172 (.inr (99, [])) 172 (.inr (99, []))) (186) H := hP
  refine lv_aload_n X.1 X.2.1 dX8_init_115 rfl (lv_at hl 0 rfl) ?_
  refine lv_bipush (v := 60) X.1 X.2.1 dX8_init_116 (by decide) ?_
  refine y_na (atype := .int) X hSt hP hS 0 (ty := .int) rfl k_a_int (cA := G.2.1 0) rfl (fun cB h1 h2 => Option.some.inj (h2.symm.trans h1)) (N' := 60) (a0 := (60, .inl (fun _ => 0))) rfl (by decide) (by decide +kernel) (Nat.le_of_ble_eq_true rfl) (Nat.le_of_ble_eq_true rfl) (Nat.le_of_ble_eq_true rfl) dX8_init_118 (fun H hP hS => ?_)
  have hP := y_one G hP (by omega) (by omega) (by omega) (by rw [y_fin_of G (by decide +kernel : m_lay 186 = (0, 60))]; rfl)
  have hP : y_P G (y_n G f0 172 (.inr (8, [.ref (m_ad G 173), .ref (m_ad G 174), .ref (m_ad G 175), .ref (m_ad G 176), .int 0, .long 0, .long 1, .ref (m_ad G 177), .ref (m_ad G 178), .ref (m_ad G 179), .ref (m_ad G 180), .ref (m_ad G 181), .ref (m_ad G 182), .ref (m_ad G 183), .ref (m_ad G 184), .ref (m_ad G 185), .null, .null, .null, .null, .null, .null, .int 0, .int 0, .int 0, .int 0, .int 0, .int 0, .int 0, .int 0, .int 0, .int 0, .int 0, .int 0, .int 0, .int 0, .int 0, .int 0, .int 0, .null, .int 0, .null, .int 0, .null, .long 0, .null, .long 0, .long 0, .null, .null, .null, .null, .null, .null])) 172 (.inr (99, [])) 172 (.inr (99, []))) (187) H := hP
  refine y_pf (v := .ref (m_ad G 186)) X hSt hP hS (ci := 8) inlX8 tyX8 tyX8_ok nmX8 rfl (k := 172) (by omega) (fs := [.ref (m_ad G 173), .ref (m_ad G 174), .ref (m_ad G 175), .ref (m_ad G 176), .int 0, .long 0, .long 1, .ref (m_ad G 177), .ref (m_ad G 178), .ref (m_ad G 179), .ref (m_ad G 180), .ref (m_ad G 181), .ref (m_ad G 182), .ref (m_ad G 183), .ref (m_ad G 184), .ref (m_ad G 185), .null, .null, .null, .null, .null, .null, .int 0, .int 0, .int 0, .int 0, .int 0, .int 0, .int 0, .int 0, .int 0, .int 0, .int 0, .int 0, .int 0, .int 0, .int 0, .int 0, .int 0, .null, .int 0, .null, .int 0, .null, .long 0, .null, .long 0, .long 0, .null, .null, .null, .null, .null, .null]) y_n_own 16 (by decide) hin rfl (tyX8_ok 16 (by decide)) rfl rfl (Nat.le_of_ble_eq_true rfl) k_f_X8_54 dX8_init_120 (fun H locs hP hS => ?_)
  have hP := y_own G hP
  have hP : y_P G (y_n G f0 172 (.inr (8, [.ref (m_ad G 173), .ref (m_ad G 174), .ref (m_ad G 175), .ref (m_ad G 176), .int 0, .long 0, .long 1, .ref (m_ad G 177), .ref (m_ad G 178), .ref (m_ad G 179), .ref (m_ad G 180), .ref (m_ad G 181), .ref (m_ad G 182), .ref (m_ad G 183), .ref (m_ad G 184), .ref (m_ad G 185), .ref (m_ad G 186), .null, .null, .null, .null, .null, .int 0, .int 0, .int 0, .int 0, .int 0, .int 0, .int 0, .int 0, .int 0, .int 0, .int 0, .int 0, .int 0, .int 0, .int 0, .int 0, .int 0, .null, .int 0, .null, .int 0, .null, .long 0, .null, .long 0, .long 0, .null, .null, .null, .null, .null, .null])) 172 (.inr (99, [])) 172 (.inr (99, []))) (187) H := hP
  refine lv_aload_n X.1 X.2.1 dX8_init_123 rfl (lv_at hl 0 rfl) ?_
  refine lv_bipush (v := 60) X.1 X.2.1 dX8_init_124 (by decide) ?_
  refine y_na (atype := .int) X hSt hP hS 0 (ty := .int) rfl k_a_int (cA := G.2.1 0) rfl (fun cB h1 h2 => Option.some.inj (h2.symm.trans h1)) (N' := 60) (a0 := (60, .inl (fun _ => 0))) rfl (by decide) (by decide +kernel) (Nat.le_of_ble_eq_true rfl) (Nat.le_of_ble_eq_true rfl) (Nat.le_of_ble_eq_true rfl) dX8_init_126 (fun H hP hS => ?_)
  have hP := y_one G hP (by omega) (by omega) (by omega) (by rw [y_fin_of G (by decide +kernel : m_lay 187 = (0, 60))]; rfl)
  have hP : y_P G (y_n G f0 172 (.inr (8, [.ref (m_ad G 173), .ref (m_ad G 174), .ref (m_ad G 175), .ref (m_ad G 176), .int 0, .long 0, .long 1, .ref (m_ad G 177), .ref (m_ad G 178), .ref (m_ad G 179), .ref (m_ad G 180), .ref (m_ad G 181), .ref (m_ad G 182), .ref (m_ad G 183), .ref (m_ad G 184), .ref (m_ad G 185), .ref (m_ad G 186), .null, .null, .null, .null, .null, .int 0, .int 0, .int 0, .int 0, .int 0, .int 0, .int 0, .int 0, .int 0, .int 0, .int 0, .int 0, .int 0, .int 0, .int 0, .int 0, .int 0, .null, .int 0, .null, .int 0, .null, .long 0, .null, .long 0, .long 0, .null, .null, .null, .null, .null, .null])) 172 (.inr (99, [])) 172 (.inr (99, []))) (188) H := hP
  refine y_pf (v := .ref (m_ad G 187)) X hSt hP hS (ci := 8) inlX8 tyX8 tyX8_ok nmX8 rfl (k := 172) (by omega) (fs := [.ref (m_ad G 173), .ref (m_ad G 174), .ref (m_ad G 175), .ref (m_ad G 176), .int 0, .long 0, .long 1, .ref (m_ad G 177), .ref (m_ad G 178), .ref (m_ad G 179), .ref (m_ad G 180), .ref (m_ad G 181), .ref (m_ad G 182), .ref (m_ad G 183), .ref (m_ad G 184), .ref (m_ad G 185), .ref (m_ad G 186), .null, .null, .null, .null, .null, .int 0, .int 0, .int 0, .int 0, .int 0, .int 0, .int 0, .int 0, .int 0, .int 0, .int 0, .int 0, .int 0, .int 0, .int 0, .int 0, .int 0, .null, .int 0, .null, .int 0, .null, .long 0, .null, .long 0, .long 0, .null, .null, .null, .null, .null, .null]) y_n_own 17 (by decide) hin rfl (tyX8_ok 17 (by decide)) rfl rfl (Nat.le_of_ble_eq_true rfl) k_f_X8_57 dX8_init_128 (fun H locs hP hS => ?_)
  have hP := y_own G hP
  have hP : y_P G (y_n G f0 172 (.inr (8, [.ref (m_ad G 173), .ref (m_ad G 174), .ref (m_ad G 175), .ref (m_ad G 176), .int 0, .long 0, .long 1, .ref (m_ad G 177), .ref (m_ad G 178), .ref (m_ad G 179), .ref (m_ad G 180), .ref (m_ad G 181), .ref (m_ad G 182), .ref (m_ad G 183), .ref (m_ad G 184), .ref (m_ad G 185), .ref (m_ad G 186), .ref (m_ad G 187), .null, .null, .null, .null, .int 0, .int 0, .int 0, .int 0, .int 0, .int 0, .int 0, .int 0, .int 0, .int 0, .int 0, .int 0, .int 0, .int 0, .int 0, .int 0, .int 0, .null, .int 0, .null, .int 0, .null, .long 0, .null, .long 0, .long 0, .null, .null, .null, .null, .null, .null])) 172 (.inr (99, [])) 172 (.inr (99, []))) (188) H := hP
  refine lv_aload_n X.1 X.2.1 dX8_init_131 rfl (lv_at hl 0 rfl) ?_
  refine lv_bipush (v := 60) X.1 X.2.1 dX8_init_132 (by decide) ?_
  refine y_na (atype := .int) X hSt hP hS 0 (ty := .int) rfl k_a_int (cA := G.2.1 0) rfl (fun cB h1 h2 => Option.some.inj (h2.symm.trans h1)) (N' := 60) (a0 := (60, .inl (fun _ => 0))) rfl (by decide) (by decide +kernel) (Nat.le_of_ble_eq_true rfl) (Nat.le_of_ble_eq_true rfl) (Nat.le_of_ble_eq_true rfl) dX8_init_134 (fun H hP hS => ?_)
  have hP := y_one G hP (by omega) (by omega) (by omega) (by rw [y_fin_of G (by decide +kernel : m_lay 188 = (0, 60))]; rfl)
  have hP : y_P G (y_n G f0 172 (.inr (8, [.ref (m_ad G 173), .ref (m_ad G 174), .ref (m_ad G 175), .ref (m_ad G 176), .int 0, .long 0, .long 1, .ref (m_ad G 177), .ref (m_ad G 178), .ref (m_ad G 179), .ref (m_ad G 180), .ref (m_ad G 181), .ref (m_ad G 182), .ref (m_ad G 183), .ref (m_ad G 184), .ref (m_ad G 185), .ref (m_ad G 186), .ref (m_ad G 187), .null, .null, .null, .null, .int 0, .int 0, .int 0, .int 0, .int 0, .int 0, .int 0, .int 0, .int 0, .int 0, .int 0, .int 0, .int 0, .int 0, .int 0, .int 0, .int 0, .null, .int 0, .null, .int 0, .null, .long 0, .null, .long 0, .long 0, .null, .null, .null, .null, .null, .null])) 172 (.inr (99, [])) 172 (.inr (99, []))) (189) H := hP
  refine y_pf (v := .ref (m_ad G 188)) X hSt hP hS (ci := 8) inlX8 tyX8 tyX8_ok nmX8 rfl (k := 172) (by omega) (fs := [.ref (m_ad G 173), .ref (m_ad G 174), .ref (m_ad G 175), .ref (m_ad G 176), .int 0, .long 0, .long 1, .ref (m_ad G 177), .ref (m_ad G 178), .ref (m_ad G 179), .ref (m_ad G 180), .ref (m_ad G 181), .ref (m_ad G 182), .ref (m_ad G 183), .ref (m_ad G 184), .ref (m_ad G 185), .ref (m_ad G 186), .ref (m_ad G 187), .null, .null, .null, .null, .int 0, .int 0, .int 0, .int 0, .int 0, .int 0, .int 0, .int 0, .int 0, .int 0, .int 0, .int 0, .int 0, .int 0, .int 0, .int 0, .int 0, .null, .int 0, .null, .int 0, .null, .long 0, .null, .long 0, .long 0, .null, .null, .null, .null, .null, .null]) y_n_own 18 (by decide) hin rfl (tyX8_ok 18 (by decide)) rfl rfl (Nat.le_of_ble_eq_true rfl) k_f_X8_60 dX8_init_136 (fun H locs hP hS => ?_)
  have hP := y_own G hP
  have hP : y_P G (y_n G f0 172 (.inr (8, [.ref (m_ad G 173), .ref (m_ad G 174), .ref (m_ad G 175), .ref (m_ad G 176), .int 0, .long 0, .long 1, .ref (m_ad G 177), .ref (m_ad G 178), .ref (m_ad G 179), .ref (m_ad G 180), .ref (m_ad G 181), .ref (m_ad G 182), .ref (m_ad G 183), .ref (m_ad G 184), .ref (m_ad G 185), .ref (m_ad G 186), .ref (m_ad G 187), .ref (m_ad G 188), .null, .null, .null, .int 0, .int 0, .int 0, .int 0, .int 0, .int 0, .int 0, .int 0, .int 0, .int 0, .int 0, .int 0, .int 0, .int 0, .int 0, .int 0, .int 0, .null, .int 0, .null, .int 0, .null, .long 0, .null, .long 0, .long 0, .null, .null, .null, .null, .null, .null])) 172 (.inr (99, [])) 172 (.inr (99, []))) (189) H := hP
  refine lv_aload_n X.1 X.2.1 dX8_init_139 rfl (lv_at hl 0 rfl) ?_
  refine lv_bipush (v := 60) X.1 X.2.1 dX8_init_140 (by decide) ?_
  refine y_na (atype := .boolean) X hSt hP hS 2 (ty := .boolean) rfl k_a_boolean (cA := G.2.1 2) rfl (fun cB h1 h2 => Option.some.inj (h2.symm.trans h1)) (N' := 60) (a0 := (60, .inl (fun _ => 0))) rfl (by decide) (by decide +kernel) (Nat.le_of_ble_eq_true rfl) (Nat.le_of_ble_eq_true rfl) (Nat.le_of_ble_eq_true rfl) dX8_init_142 (fun H hP hS => ?_)
  have hP := y_one G hP (by omega) (by omega) (by omega) (by rw [y_fin_of G (by decide +kernel : m_lay 189 = (2, 60))]; rfl)
  have hP : y_P G (y_n G f0 172 (.inr (8, [.ref (m_ad G 173), .ref (m_ad G 174), .ref (m_ad G 175), .ref (m_ad G 176), .int 0, .long 0, .long 1, .ref (m_ad G 177), .ref (m_ad G 178), .ref (m_ad G 179), .ref (m_ad G 180), .ref (m_ad G 181), .ref (m_ad G 182), .ref (m_ad G 183), .ref (m_ad G 184), .ref (m_ad G 185), .ref (m_ad G 186), .ref (m_ad G 187), .ref (m_ad G 188), .null, .null, .null, .int 0, .int 0, .int 0, .int 0, .int 0, .int 0, .int 0, .int 0, .int 0, .int 0, .int 0, .int 0, .int 0, .int 0, .int 0, .int 0, .int 0, .null, .int 0, .null, .int 0, .null, .long 0, .null, .long 0, .long 0, .null, .null, .null, .null, .null, .null])) 172 (.inr (99, [])) 172 (.inr (99, []))) (190) H := hP
  refine y_pf (v := .ref (m_ad G 189)) X hSt hP hS (ci := 8) inlX8 tyX8 tyX8_ok nmX8 rfl (k := 172) (by omega) (fs := [.ref (m_ad G 173), .ref (m_ad G 174), .ref (m_ad G 175), .ref (m_ad G 176), .int 0, .long 0, .long 1, .ref (m_ad G 177), .ref (m_ad G 178), .ref (m_ad G 179), .ref (m_ad G 180), .ref (m_ad G 181), .ref (m_ad G 182), .ref (m_ad G 183), .ref (m_ad G 184), .ref (m_ad G 185), .ref (m_ad G 186), .ref (m_ad G 187), .ref (m_ad G 188), .null, .null, .null, .int 0, .int 0, .int 0, .int 0, .int 0, .int 0, .int 0, .int 0, .int 0, .int 0, .int 0, .int 0, .int 0, .int 0, .int 0, .int 0, .int 0, .null, .int 0, .null, .int 0, .null, .long 0, .null, .long 0, .long 0, .null, .null, .null, .null, .null, .null]) y_n_own 19 (by decide) hin rfl (tyX8_ok 19 (by decide)) rfl rfl (Nat.le_of_ble_eq_true rfl) k_f_X8_63 dX8_init_144 (fun H locs hP hS => ?_)
  have hP := y_own G hP
  have hP : y_P G (y_n G f0 172 (.inr (8, [.ref (m_ad G 173), .ref (m_ad G 174), .ref (m_ad G 175), .ref (m_ad G 176), .int 0, .long 0, .long 1, .ref (m_ad G 177), .ref (m_ad G 178), .ref (m_ad G 179), .ref (m_ad G 180), .ref (m_ad G 181), .ref (m_ad G 182), .ref (m_ad G 183), .ref (m_ad G 184), .ref (m_ad G 185), .ref (m_ad G 186), .ref (m_ad G 187), .ref (m_ad G 188), .ref (m_ad G 189), .null, .null, .int 0, .int 0, .int 0, .int 0, .int 0, .int 0, .int 0, .int 0, .int 0, .int 0, .int 0, .int 0, .int 0, .int 0, .int 0, .int 0, .int 0, .null, .int 0, .null, .int 0, .null, .long 0, .null, .long 0, .long 0, .null, .null, .null, .null, .null, .null])) 172 (.inr (99, [])) 172 (.inr (99, []))) (190) H := hP
  refine lv_aload_n X.1 X.2.1 dX8_init_147 rfl (lv_at hl 0 rfl) ?_
  refine lv_bipush (v := 60) X.1 X.2.1 dX8_init_148 (by decide) ?_
  refine y_na (atype := .boolean) X hSt hP hS 2 (ty := .boolean) rfl k_a_boolean (cA := G.2.1 2) rfl (fun cB h1 h2 => Option.some.inj (h2.symm.trans h1)) (N' := 60) (a0 := (60, .inl (fun _ => 0))) rfl (by decide) (by decide +kernel) (Nat.le_of_ble_eq_true rfl) (Nat.le_of_ble_eq_true rfl) (Nat.le_of_ble_eq_true rfl) dX8_init_150 (fun H hP hS => ?_)
  have hP := y_one G hP (by omega) (by omega) (by omega) (by rw [y_fin_of G (by decide +kernel : m_lay 190 = (2, 60))]; rfl)
  have hP : y_P G (y_n G f0 172 (.inr (8, [.ref (m_ad G 173), .ref (m_ad G 174), .ref (m_ad G 175), .ref (m_ad G 176), .int 0, .long 0, .long 1, .ref (m_ad G 177), .ref (m_ad G 178), .ref (m_ad G 179), .ref (m_ad G 180), .ref (m_ad G 181), .ref (m_ad G 182), .ref (m_ad G 183), .ref (m_ad G 184), .ref (m_ad G 185), .ref (m_ad G 186), .ref (m_ad G 187), .ref (m_ad G 188), .ref (m_ad G 189), .null, .null, .int 0, .int 0, .int 0, .int 0, .int 0, .int 0, .int 0, .int 0, .int 0, .int 0, .int 0, .int 0, .int 0, .int 0, .int 0, .int 0, .int 0, .null, .int 0, .null, .int 0, .null, .long 0, .null, .long 0, .long 0, .null, .null, .null, .null, .null, .null])) 172 (.inr (99, [])) 172 (.inr (99, []))) (191) H := hP
  refine y_pf (v := .ref (m_ad G 190)) X hSt hP hS (ci := 8) inlX8 tyX8 tyX8_ok nmX8 rfl (k := 172) (by omega) (fs := [.ref (m_ad G 173), .ref (m_ad G 174), .ref (m_ad G 175), .ref (m_ad G 176), .int 0, .long 0, .long 1, .ref (m_ad G 177), .ref (m_ad G 178), .ref (m_ad G 179), .ref (m_ad G 180), .ref (m_ad G 181), .ref (m_ad G 182), .ref (m_ad G 183), .ref (m_ad G 184), .ref (m_ad G 185), .ref (m_ad G 186), .ref (m_ad G 187), .ref (m_ad G 188), .ref (m_ad G 189), .null, .null, .int 0, .int 0, .int 0, .int 0, .int 0, .int 0, .int 0, .int 0, .int 0, .int 0, .int 0, .int 0, .int 0, .int 0, .int 0, .int 0, .int 0, .null, .int 0, .null, .int 0, .null, .long 0, .null, .long 0, .long 0, .null, .null, .null, .null, .null, .null]) y_n_own 20 (by decide) hin rfl (tyX8_ok 20 (by decide)) rfl rfl (Nat.le_of_ble_eq_true rfl) k_f_X8_66 dX8_init_152 (fun H locs hP hS => ?_)
  have hP := y_own G hP
  have hP : y_P G (y_n G f0 172 (.inr (8, [.ref (m_ad G 173), .ref (m_ad G 174), .ref (m_ad G 175), .ref (m_ad G 176), .int 0, .long 0, .long 1, .ref (m_ad G 177), .ref (m_ad G 178), .ref (m_ad G 179), .ref (m_ad G 180), .ref (m_ad G 181), .ref (m_ad G 182), .ref (m_ad G 183), .ref (m_ad G 184), .ref (m_ad G 185), .ref (m_ad G 186), .ref (m_ad G 187), .ref (m_ad G 188), .ref (m_ad G 189), .ref (m_ad G 190), .null, .int 0, .int 0, .int 0, .int 0, .int 0, .int 0, .int 0, .int 0, .int 0, .int 0, .int 0, .int 0, .int 0, .int 0, .int 0, .int 0, .int 0, .null, .int 0, .null, .int 0, .null, .long 0, .null, .long 0, .long 0, .null, .null, .null, .null, .null, .null])) 172 (.inr (99, [])) 172 (.inr (99, []))) (191) H := hP
  refine lv_aload_n X.1 X.2.1 dX8_init_155 rfl (lv_at hl 0 rfl) ?_
  refine lv_bipush (v := 60) X.1 X.2.1 dX8_init_156 (by decide) ?_
  refine y_na (atype := .boolean) X hSt hP hS 2 (ty := .boolean) rfl k_a_boolean (cA := G.2.1 2) rfl (fun cB h1 h2 => Option.some.inj (h2.symm.trans h1)) (N' := 60) (a0 := (60, .inl (fun _ => 0))) rfl (by decide) (by decide +kernel) (Nat.le_of_ble_eq_true rfl) (Nat.le_of_ble_eq_true rfl) (Nat.le_of_ble_eq_true rfl) dX8_init_158 (fun H hP hS => ?_)
  have hP := y_one G hP (by omega) (by omega) (by omega) (by rw [y_fin_of G (by decide +kernel : m_lay 191 = (2, 60))]; rfl)
  have hP : y_P G (y_n G f0 172 (.inr (8, [.ref (m_ad G 173), .ref (m_ad G 174), .ref (m_ad G 175), .ref (m_ad G 176), .int 0, .long 0, .long 1, .ref (m_ad G 177), .ref (m_ad G 178), .ref (m_ad G 179), .ref (m_ad G 180), .ref (m_ad G 181), .ref (m_ad G 182), .ref (m_ad G 183), .ref (m_ad G 184), .ref (m_ad G 185), .ref (m_ad G 186), .ref (m_ad G 187), .ref (m_ad G 188), .ref (m_ad G 189), .ref (m_ad G 190), .null, .int 0, .int 0, .int 0, .int 0, .int 0, .int 0, .int 0, .int 0, .int 0, .int 0, .int 0, .int 0, .int 0, .int 0, .int 0, .int 0, .int 0, .null, .int 0, .null, .int 0, .null, .long 0, .null, .long 0, .long 0, .null, .null, .null, .null, .null, .null])) 172 (.inr (99, [])) 172 (.inr (99, []))) (192) H := hP
  refine y_pf (v := .ref (m_ad G 191)) X hSt hP hS (ci := 8) inlX8 tyX8 tyX8_ok nmX8 rfl (k := 172) (by omega) (fs := [.ref (m_ad G 173), .ref (m_ad G 174), .ref (m_ad G 175), .ref (m_ad G 176), .int 0, .long 0, .long 1, .ref (m_ad G 177), .ref (m_ad G 178), .ref (m_ad G 179), .ref (m_ad G 180), .ref (m_ad G 181), .ref (m_ad G 182), .ref (m_ad G 183), .ref (m_ad G 184), .ref (m_ad G 185), .ref (m_ad G 186), .ref (m_ad G 187), .ref (m_ad G 188), .ref (m_ad G 189), .ref (m_ad G 190), .null, .int 0, .int 0, .int 0, .int 0, .int 0, .int 0, .int 0, .int 0, .int 0, .int 0, .int 0, .int 0, .int 0, .int 0, .int 0, .int 0, .int 0, .null, .int 0, .null, .int 0, .null, .long 0, .null, .long 0, .long 0, .null, .null, .null, .null, .null, .null]) y_n_own 21 (by decide) hin rfl (tyX8_ok 21 (by decide)) rfl rfl (Nat.le_of_ble_eq_true rfl) k_f_X8_69 dX8_init_160 (fun H locs hP hS => ?_)
  have hP := y_own G hP
  have hP : y_P G (y_n G f0 172 (.inr (8, [.ref (m_ad G 173), .ref (m_ad G 174), .ref (m_ad G 175), .ref (m_ad G 176), .int 0, .long 0, .long 1, .ref (m_ad G 177), .ref (m_ad G 178), .ref (m_ad G 179), .ref (m_ad G 180), .ref (m_ad G 181), .ref (m_ad G 182), .ref (m_ad G 183), .ref (m_ad G 184), .ref (m_ad G 185), .ref (m_ad G 186), .ref (m_ad G 187), .ref (m_ad G 188), .ref (m_ad G 189), .ref (m_ad G 190), .ref (m_ad G 191), .int 0, .int 0, .int 0, .int 0, .int 0, .int 0, .int 0, .int 0, .int 0, .int 0, .int 0, .int 0, .int 0, .int 0, .int 0, .int 0, .int 0, .null, .int 0, .null, .int 0, .null, .long 0, .null, .long 0, .long 0, .null, .null, .null, .null, .null, .null])) 172 (.inr (99, [])) 172 (.inr (99, []))) (192) H := hP
  refine lv_aload_n X.1 X.2.1 dX8_init_163 rfl (lv_at hl 0 rfl) ?_
  refine lv_bipush (v := 31) X.1 X.2.1 dX8_init_164 (by decide) ?_
  refine y_pf (v := .int 31) X hSt hP hS (ci := 8) inlX8 tyX8 tyX8_ok nmX8 rfl (k := 172) (by omega) (fs := [.ref (m_ad G 173), .ref (m_ad G 174), .ref (m_ad G 175), .ref (m_ad G 176), .int 0, .long 0, .long 1, .ref (m_ad G 177), .ref (m_ad G 178), .ref (m_ad G 179), .ref (m_ad G 180), .ref (m_ad G 181), .ref (m_ad G 182), .ref (m_ad G 183), .ref (m_ad G 184), .ref (m_ad G 185), .ref (m_ad G 186), .ref (m_ad G 187), .ref (m_ad G 188), .ref (m_ad G 189), .ref (m_ad G 190), .ref (m_ad G 191), .int 0, .int 0, .int 0, .int 0, .int 0, .int 0, .int 0, .int 0, .int 0, .int 0, .int 0, .int 0, .int 0, .int 0, .int 0, .int 0, .int 0, .null, .int 0, .null, .int 0, .null, .long 0, .null, .long 0, .long 0, .null, .null, .null, .null, .null, .null]) y_n_own 24 (by decide) hin rfl (tyX8_ok 24 (by decide)) rfl rfl (Nat.le_of_ble_eq_true rfl) k_f_X8_72 dX8_init_166 (fun H locs hP hS => ?_)
  have hP := y_own G hP
  have hP : y_P G (y_n G f0 172 (.inr (8, [.ref (m_ad G 173), .ref (m_ad G 174), .ref (m_ad G 175), .ref (m_ad G 176), .int 0, .long 0, .long 1, .ref (m_ad G 177), .ref (m_ad G 178), .ref (m_ad G 179), .ref (m_ad G 180), .ref (m_ad G 181), .ref (m_ad G 182), .ref (m_ad G 183), .ref (m_ad G 184), .ref (m_ad G 185), .ref (m_ad G 186), .ref (m_ad G 187), .ref (m_ad G 188), .ref (m_ad G 189), .ref (m_ad G 190), .ref (m_ad G 191), .int 0, .int 0, .int 31, .int 0, .int 0, .int 0, .int 0, .int 0, .int 0, .int 0, .int 0, .int 0, .int 0, .int 0, .int 0, .int 0, .int 0, .null, .int 0, .null, .int 0, .null, .long 0, .null, .long 0, .long 0, .null, .null, .null, .null, .null, .null])) 172 (.inr (99, [])) 172 (.inr (99, []))) (192) H := hP
  refine lv_aload_n X.1 X.2.1 dX8_init_169 rfl (lv_at hl 0 rfl) ?_
  refine lv_bipush (v := 64) X.1 X.2.1 dX8_init_170 (by decide) ?_
  refine y_na (atype := .long) X hSt hP hS 1 (ty := .long) rfl k_a_long (cA := G.2.1 1) rfl (fun cB h1 h2 => Option.some.inj (h2.symm.trans h1)) (N' := 64) (a0 := (64, .inr (.inl (fun _ => 0)))) rfl (by decide) (by decide +kernel) (Nat.le_of_ble_eq_true rfl) (Nat.le_of_ble_eq_true rfl) (Nat.le_of_ble_eq_true rfl) dX8_init_172 (fun H hP hS => ?_)
  have hP := y_one G hP (by omega) (by omega) (by omega) (by rw [y_fin_of G (by decide +kernel : m_lay 192 = (1, 64))]; rfl)
  have hP : y_P G (y_n G f0 172 (.inr (8, [.ref (m_ad G 173), .ref (m_ad G 174), .ref (m_ad G 175), .ref (m_ad G 176), .int 0, .long 0, .long 1, .ref (m_ad G 177), .ref (m_ad G 178), .ref (m_ad G 179), .ref (m_ad G 180), .ref (m_ad G 181), .ref (m_ad G 182), .ref (m_ad G 183), .ref (m_ad G 184), .ref (m_ad G 185), .ref (m_ad G 186), .ref (m_ad G 187), .ref (m_ad G 188), .ref (m_ad G 189), .ref (m_ad G 190), .ref (m_ad G 191), .int 0, .int 0, .int 31, .int 0, .int 0, .int 0, .int 0, .int 0, .int 0, .int 0, .int 0, .int 0, .int 0, .int 0, .int 0, .int 0, .int 0, .null, .int 0, .null, .int 0, .null, .long 0, .null, .long 0, .long 0, .null, .null, .null, .null, .null, .null])) 172 (.inr (99, [])) 172 (.inr (99, []))) (193) H := hP
  refine y_pf (v := .ref (m_ad G 192)) X hSt hP hS (ci := 8) inlX8 tyX8 tyX8_ok nmX8 rfl (k := 172) (by omega) (fs := [.ref (m_ad G 173), .ref (m_ad G 174), .ref (m_ad G 175), .ref (m_ad G 176), .int 0, .long 0, .long 1, .ref (m_ad G 177), .ref (m_ad G 178), .ref (m_ad G 179), .ref (m_ad G 180), .ref (m_ad G 181), .ref (m_ad G 182), .ref (m_ad G 183), .ref (m_ad G 184), .ref (m_ad G 185), .ref (m_ad G 186), .ref (m_ad G 187), .ref (m_ad G 188), .ref (m_ad G 189), .ref (m_ad G 190), .ref (m_ad G 191), .int 0, .int 0, .int 31, .int 0, .int 0, .int 0, .int 0, .int 0, .int 0, .int 0, .int 0, .int 0, .int 0, .int 0, .int 0, .int 0, .int 0, .null, .int 0, .null, .int 0, .null, .long 0, .null, .long 0, .long 0, .null, .null, .null, .null, .null, .null]) y_n_own 39 (by decide) hin rfl (tyX8_ok 39 (by decide)) rfl rfl (Nat.le_of_ble_eq_true rfl) k_f_X8_76 dX8_init_174 (fun H locs hP hS => ?_)
  have hP := y_own G hP
  have hP : y_P G (y_n G f0 172 (.inr (8, [.ref (m_ad G 173), .ref (m_ad G 174), .ref (m_ad G 175), .ref (m_ad G 176), .int 0, .long 0, .long 1, .ref (m_ad G 177), .ref (m_ad G 178), .ref (m_ad G 179), .ref (m_ad G 180), .ref (m_ad G 181), .ref (m_ad G 182), .ref (m_ad G 183), .ref (m_ad G 184), .ref (m_ad G 185), .ref (m_ad G 186), .ref (m_ad G 187), .ref (m_ad G 188), .ref (m_ad G 189), .ref (m_ad G 190), .ref (m_ad G 191), .int 0, .int 0, .int 31, .int 0, .int 0, .int 0, .int 0, .int 0, .int 0, .int 0, .int 0, .int 0, .int 0, .int 0, .int 0, .int 0, .int 0, .ref (m_ad G 192), .int 0, .null, .int 0, .null, .long 0, .null, .long 0, .long 0, .null, .null, .null, .null, .null, .null])) 172 (.inr (99, [])) 172 (.inr (99, []))) (193) H := hP
  refine lv_aload_n X.1 X.2.1 dX8_init_177 rfl (lv_at hl 0 rfl) ?_
  refine lv_sipush (v := 128) X.1 X.2.1 dX8_init_178 (by decide) ?_
  refine y_na (atype := .int) X hSt hP hS 0 (ty := .int) rfl k_a_int (cA := G.2.1 0) rfl (fun cB h1 h2 => Option.some.inj (h2.symm.trans h1)) (N' := 128) (a0 := (128, .inl (fun _ => 0))) rfl (by decide) (by decide +kernel) (Nat.le_of_ble_eq_true rfl) (Nat.le_of_ble_eq_true rfl) (Nat.le_of_ble_eq_true rfl) dX8_init_181 (fun H hP hS => ?_)
  have hP := y_one G hP (by omega) (by omega) (by omega) (by rw [y_fin_of G (by decide +kernel : m_lay 193 = (0, 128))]; rfl)
  have hP : y_P G (y_n G f0 172 (.inr (8, [.ref (m_ad G 173), .ref (m_ad G 174), .ref (m_ad G 175), .ref (m_ad G 176), .int 0, .long 0, .long 1, .ref (m_ad G 177), .ref (m_ad G 178), .ref (m_ad G 179), .ref (m_ad G 180), .ref (m_ad G 181), .ref (m_ad G 182), .ref (m_ad G 183), .ref (m_ad G 184), .ref (m_ad G 185), .ref (m_ad G 186), .ref (m_ad G 187), .ref (m_ad G 188), .ref (m_ad G 189), .ref (m_ad G 190), .ref (m_ad G 191), .int 0, .int 0, .int 31, .int 0, .int 0, .int 0, .int 0, .int 0, .int 0, .int 0, .int 0, .int 0, .int 0, .int 0, .int 0, .int 0, .int 0, .ref (m_ad G 192), .int 0, .null, .int 0, .null, .long 0, .null, .long 0, .long 0, .null, .null, .null, .null, .null, .null])) 172 (.inr (99, [])) 172 (.inr (99, []))) (194) H := hP
  refine y_pf (v := .ref (m_ad G 193)) X hSt hP hS (ci := 8) inlX8 tyX8 tyX8_ok nmX8 rfl (k := 172) (by omega) (fs := [.ref (m_ad G 173), .ref (m_ad G 174), .ref (m_ad G 175), .ref (m_ad G 176), .int 0, .long 0, .long 1, .ref (m_ad G 177), .ref (m_ad G 178), .ref (m_ad G 179), .ref (m_ad G 180), .ref (m_ad G 181), .ref (m_ad G 182), .ref (m_ad G 183), .ref (m_ad G 184), .ref (m_ad G 185), .ref (m_ad G 186), .ref (m_ad G 187), .ref (m_ad G 188), .ref (m_ad G 189), .ref (m_ad G 190), .ref (m_ad G 191), .int 0, .int 0, .int 31, .int 0, .int 0, .int 0, .int 0, .int 0, .int 0, .int 0, .int 0, .int 0, .int 0, .int 0, .int 0, .int 0, .int 0, .ref (m_ad G 192), .int 0, .null, .int 0, .null, .long 0, .null, .long 0, .long 0, .null, .null, .null, .null, .null, .null]) y_n_own 41 (by decide) hin rfl (tyX8_ok 41 (by decide)) rfl rfl (Nat.le_of_ble_eq_true rfl) k_f_X8_80 dX8_init_183 (fun H locs hP hS => ?_)
  have hP := y_own G hP
  have hP : y_P G (y_n G f0 172 (.inr (8, [.ref (m_ad G 173), .ref (m_ad G 174), .ref (m_ad G 175), .ref (m_ad G 176), .int 0, .long 0, .long 1, .ref (m_ad G 177), .ref (m_ad G 178), .ref (m_ad G 179), .ref (m_ad G 180), .ref (m_ad G 181), .ref (m_ad G 182), .ref (m_ad G 183), .ref (m_ad G 184), .ref (m_ad G 185), .ref (m_ad G 186), .ref (m_ad G 187), .ref (m_ad G 188), .ref (m_ad G 189), .ref (m_ad G 190), .ref (m_ad G 191), .int 0, .int 0, .int 31, .int 0, .int 0, .int 0, .int 0, .int 0, .int 0, .int 0, .int 0, .int 0, .int 0, .int 0, .int 0, .int 0, .int 0, .ref (m_ad G 192), .int 0, .ref (m_ad G 193), .int 0, .null, .long 0, .null, .long 0, .long 0, .null, .null, .null, .null, .null, .null])) 172 (.inr (99, [])) 172 (.inr (99, []))) (194) H := hP
  refine lv_aload_n X.1 X.2.1 dX8_init_186 rfl (lv_at hl 0 rfl) ?_
  refine lv_iconst (v := 5) X.1 X.2.1 dX8_init_187 (by decide) ?_
  refine y_na (atype := .long) X hSt hP hS 1 (ty := .long) rfl k_a_long (cA := G.2.1 1) rfl (fun cB h1 h2 => Option.some.inj (h2.symm.trans h1)) (N' := 5) (a0 := (5, .inr (.inl (fun _ => 0)))) rfl (by decide) (by decide +kernel) (Nat.le_of_ble_eq_true rfl) (Nat.le_of_ble_eq_true rfl) (Nat.le_of_ble_eq_true rfl) dX8_init_188 (fun H hP hS => ?_)
  have hP := y_one G hP (by omega) (by omega) (by omega) (by rw [y_fin_of G (by decide +kernel : m_lay 194 = (1, 5))]; rfl)
  have hP : y_P G (y_n G f0 172 (.inr (8, [.ref (m_ad G 173), .ref (m_ad G 174), .ref (m_ad G 175), .ref (m_ad G 176), .int 0, .long 0, .long 1, .ref (m_ad G 177), .ref (m_ad G 178), .ref (m_ad G 179), .ref (m_ad G 180), .ref (m_ad G 181), .ref (m_ad G 182), .ref (m_ad G 183), .ref (m_ad G 184), .ref (m_ad G 185), .ref (m_ad G 186), .ref (m_ad G 187), .ref (m_ad G 188), .ref (m_ad G 189), .ref (m_ad G 190), .ref (m_ad G 191), .int 0, .int 0, .int 31, .int 0, .int 0, .int 0, .int 0, .int 0, .int 0, .int 0, .int 0, .int 0, .int 0, .int 0, .int 0, .int 0, .int 0, .ref (m_ad G 192), .int 0, .ref (m_ad G 193), .int 0, .null, .long 0, .null, .long 0, .long 0, .null, .null, .null, .null, .null, .null])) 172 (.inr (99, [])) 172 (.inr (99, []))) (195) H := hP
  refine y_pf (v := .ref (m_ad G 194)) X hSt hP hS (ci := 8) inlX8 tyX8 tyX8_ok nmX8 rfl (k := 172) (by omega) (fs := [.ref (m_ad G 173), .ref (m_ad G 174), .ref (m_ad G 175), .ref (m_ad G 176), .int 0, .long 0, .long 1, .ref (m_ad G 177), .ref (m_ad G 178), .ref (m_ad G 179), .ref (m_ad G 180), .ref (m_ad G 181), .ref (m_ad G 182), .ref (m_ad G 183), .ref (m_ad G 184), .ref (m_ad G 185), .ref (m_ad G 186), .ref (m_ad G 187), .ref (m_ad G 188), .ref (m_ad G 189), .ref (m_ad G 190), .ref (m_ad G 191), .int 0, .int 0, .int 31, .int 0, .int 0, .int 0, .int 0, .int 0, .int 0, .int 0, .int 0, .int 0, .int 0, .int 0, .int 0, .int 0, .int 0, .ref (m_ad G 192), .int 0, .ref (m_ad G 193), .int 0, .null, .long 0, .null, .long 0, .long 0, .null, .null, .null, .null, .null, .null]) y_n_own 43 (by decide) hin rfl (tyX8_ok 43 (by decide)) rfl rfl (Nat.le_of_ble_eq_true rfl) k_f_X8_83 dX8_init_190 (fun H locs hP hS => ?_)
  have hP := y_own G hP
  have hP : y_P G (y_n G f0 172 (.inr (8, [.ref (m_ad G 173), .ref (m_ad G 174), .ref (m_ad G 175), .ref (m_ad G 176), .int 0, .long 0, .long 1, .ref (m_ad G 177), .ref (m_ad G 178), .ref (m_ad G 179), .ref (m_ad G 180), .ref (m_ad G 181), .ref (m_ad G 182), .ref (m_ad G 183), .ref (m_ad G 184), .ref (m_ad G 185), .ref (m_ad G 186), .ref (m_ad G 187), .ref (m_ad G 188), .ref (m_ad G 189), .ref (m_ad G 190), .ref (m_ad G 191), .int 0, .int 0, .int 31, .int 0, .int 0, .int 0, .int 0, .int 0, .int 0, .int 0, .int 0, .int 0, .int 0, .int 0, .int 0, .int 0, .int 0, .ref (m_ad G 192), .int 0, .ref (m_ad G 193), .int 0, .ref (m_ad G 194), .long 0, .null, .long 0, .long 0, .null, .null, .null, .null, .null, .null])) 172 (.inr (99, [])) 172 (.inr (99, []))) (195) H := hP
  refine lv_aload_n X.1 X.2.1 dX8_init_193 rfl (lv_at hl 0 rfl) ?_
  refine lv_bipush (v := 10) X.1 X.2.1 dX8_init_194 (by decide) ?_
  refine y_na (atype := .int) X hSt hP hS 0 (ty := .int) rfl k_a_int (cA := G.2.1 0) rfl (fun cB h1 h2 => Option.some.inj (h2.symm.trans h1)) (N' := 10) (a0 := (10, .inl (fun _ => 0))) rfl (by decide) (by decide +kernel) (Nat.le_of_ble_eq_true rfl) (Nat.le_of_ble_eq_true rfl) (Nat.le_of_ble_eq_true rfl) dX8_init_196 (fun H hP hS => ?_)
  have hP := y_one G hP (by omega) (by omega) (by omega) (by rw [y_fin_of G (by decide +kernel : m_lay 195 = (0, 10))]; rfl)
  have hP : y_P G (y_n G f0 172 (.inr (8, [.ref (m_ad G 173), .ref (m_ad G 174), .ref (m_ad G 175), .ref (m_ad G 176), .int 0, .long 0, .long 1, .ref (m_ad G 177), .ref (m_ad G 178), .ref (m_ad G 179), .ref (m_ad G 180), .ref (m_ad G 181), .ref (m_ad G 182), .ref (m_ad G 183), .ref (m_ad G 184), .ref (m_ad G 185), .ref (m_ad G 186), .ref (m_ad G 187), .ref (m_ad G 188), .ref (m_ad G 189), .ref (m_ad G 190), .ref (m_ad G 191), .int 0, .int 0, .int 31, .int 0, .int 0, .int 0, .int 0, .int 0, .int 0, .int 0, .int 0, .int 0, .int 0, .int 0, .int 0, .int 0, .int 0, .ref (m_ad G 192), .int 0, .ref (m_ad G 193), .int 0, .ref (m_ad G 194), .long 0, .null, .long 0, .long 0, .null, .null, .null, .null, .null, .null])) 172 (.inr (99, [])) 172 (.inr (99, []))) (196) H := hP
  refine y_pf (v := .ref (m_ad G 195)) X hSt hP hS (ci := 8) inlX8 tyX8 tyX8_ok nmX8 rfl (k := 172) (by omega) (fs := [.ref (m_ad G 173), .ref (m_ad G 174), .ref (m_ad G 175), .ref (m_ad G 176), .int 0, .long 0, .long 1, .ref (m_ad G 177), .ref (m_ad G 178), .ref (m_ad G 179), .ref (m_ad G 180), .ref (m_ad G 181), .ref (m_ad G 182), .ref (m_ad G 183), .ref (m_ad G 184), .ref (m_ad G 185), .ref (m_ad G 186), .ref (m_ad G 187), .ref (m_ad G 188), .ref (m_ad G 189), .ref (m_ad G 190), .ref (m_ad G 191), .int 0, .int 0, .int 31, .int 0, .int 0, .int 0, .int 0, .int 0, .int 0, .int 0, .int 0, .int 0, .int 0, .int 0, .int 0, .int 0, .int 0, .ref (m_ad G 192), .int 0, .ref (m_ad G 193), .int 0, .ref (m_ad G 194), .long 0, .null, .long 0, .long 0, .null, .null, .null, .null, .null, .null]) y_n_own 45 (by decide) hin rfl (tyX8_ok 45 (by decide)) rfl rfl (Nat.le_of_ble_eq_true rfl) k_f_X8_86 dX8_init_198 (fun H locs hP hS => ?_)
  have hP := y_own G hP
  have hP : y_P G (y_n G f0 172 (.inr (8, [.ref (m_ad G 173), .ref (m_ad G 174), .ref (m_ad G 175), .ref (m_ad G 176), .int 0, .long 0, .long 1, .ref (m_ad G 177), .ref (m_ad G 178), .ref (m_ad G 179), .ref (m_ad G 180), .ref (m_ad G 181), .ref (m_ad G 182), .ref (m_ad G 183), .ref (m_ad G 184), .ref (m_ad G 185), .ref (m_ad G 186), .ref (m_ad G 187), .ref (m_ad G 188), .ref (m_ad G 189), .ref (m_ad G 190), .ref (m_ad G 191), .int 0, .int 0, .int 31, .int 0, .int 0, .int 0, .int 0, .int 0, .int 0, .int 0, .int 0, .int 0, .int 0, .int 0, .int 0, .int 0, .int 0, .ref (m_ad G 192), .int 0, .ref (m_ad G 193), .int 0, .ref (m_ad G 194), .long 0, .ref (m_ad G 195), .long 0, .long 0, .null, .null, .null, .null, .null, .null])) 172 (.inr (99, [])) 172 (.inr (99, []))) (196) H := hP
  refine lv_aload_n X.1 X.2.1 dX8_init_201 rfl (lv_at hl 0 rfl) ?_
  refine lv_bipush (v := 6) X.1 X.2.1 dX8_init_202 (by decide) ?_
  refine y_na (atype := .int) X hSt hP hS 0 (ty := .int) rfl k_a_int (cA := G.2.1 0) rfl (fun cB h1 h2 => Option.some.inj (h2.symm.trans h1)) (N' := 6) (a0 := (6, .inl (fun _ => 0))) rfl (by decide) (by decide +kernel) (Nat.le_of_ble_eq_true rfl) (Nat.le_of_ble_eq_true rfl) (Nat.le_of_ble_eq_true rfl) dX8_init_204 (fun H hP hS => ?_)
  have hP := y_one G hP (by omega) (by omega) (by omega) (by rw [y_fin_of G (by decide +kernel : m_lay 196 = (0, 6))]; rfl)
  have hP : y_P G (y_n G f0 172 (.inr (8, [.ref (m_ad G 173), .ref (m_ad G 174), .ref (m_ad G 175), .ref (m_ad G 176), .int 0, .long 0, .long 1, .ref (m_ad G 177), .ref (m_ad G 178), .ref (m_ad G 179), .ref (m_ad G 180), .ref (m_ad G 181), .ref (m_ad G 182), .ref (m_ad G 183), .ref (m_ad G 184), .ref (m_ad G 185), .ref (m_ad G 186), .ref (m_ad G 187), .ref (m_ad G 188), .ref (m_ad G 189), .ref (m_ad G 190), .ref (m_ad G 191), .int 0, .int 0, .int 31, .int 0, .int 0, .int 0, .int 0, .int 0, .int 0, .int 0, .int 0, .int 0, .int 0, .int 0, .int 0, .int 0, .int 0, .ref (m_ad G 192), .int 0, .ref (m_ad G 193), .int 0, .ref (m_ad G 194), .long 0, .ref (m_ad G 195), .long 0, .long 0, .null, .null, .null, .null, .null, .null])) 172 (.inr (99, [])) 172 (.inr (99, []))) (197) H := hP
  refine y_pf (v := .ref (m_ad G 196)) X hSt hP hS (ci := 8) inlX8 tyX8 tyX8_ok nmX8 rfl (k := 172) (by omega) (fs := [.ref (m_ad G 173), .ref (m_ad G 174), .ref (m_ad G 175), .ref (m_ad G 176), .int 0, .long 0, .long 1, .ref (m_ad G 177), .ref (m_ad G 178), .ref (m_ad G 179), .ref (m_ad G 180), .ref (m_ad G 181), .ref (m_ad G 182), .ref (m_ad G 183), .ref (m_ad G 184), .ref (m_ad G 185), .ref (m_ad G 186), .ref (m_ad G 187), .ref (m_ad G 188), .ref (m_ad G 189), .ref (m_ad G 190), .ref (m_ad G 191), .int 0, .int 0, .int 31, .int 0, .int 0, .int 0, .int 0, .int 0, .int 0, .int 0, .int 0, .int 0, .int 0, .int 0, .int 0, .int 0, .int 0, .ref (m_ad G 192), .int 0, .ref (m_ad G 193), .int 0, .ref (m_ad G 194), .long 0, .ref (m_ad G 195), .long 0, .long 0, .null, .null, .null, .null, .null, .null]) y_n_own 48 (by decide) hin rfl (tyX8_ok 48 (by decide)) rfl rfl (Nat.le_of_ble_eq_true rfl) k_f_X8_89 dX8_init_206 (fun H locs hP hS => ?_)
  have hP := y_own G hP
  have hP : y_P G (y_n G f0 172 (.inr (8, [.ref (m_ad G 173), .ref (m_ad G 174), .ref (m_ad G 175), .ref (m_ad G 176), .int 0, .long 0, .long 1, .ref (m_ad G 177), .ref (m_ad G 178), .ref (m_ad G 179), .ref (m_ad G 180), .ref (m_ad G 181), .ref (m_ad G 182), .ref (m_ad G 183), .ref (m_ad G 184), .ref (m_ad G 185), .ref (m_ad G 186), .ref (m_ad G 187), .ref (m_ad G 188), .ref (m_ad G 189), .ref (m_ad G 190), .ref (m_ad G 191), .int 0, .int 0, .int 31, .int 0, .int 0, .int 0, .int 0, .int 0, .int 0, .int 0, .int 0, .int 0, .int 0, .int 0, .int 0, .int 0, .int 0, .ref (m_ad G 192), .int 0, .ref (m_ad G 193), .int 0, .ref (m_ad G 194), .long 0, .ref (m_ad G 195), .long 0, .long 0, .ref (m_ad G 196), .null, .null, .null, .null, .null])) 172 (.inr (99, [])) 172 (.inr (99, []))) (197) H := hP
  refine lv_aload_n X.1 X.2.1 dX8_init_209 rfl (lv_at hl 0 rfl) ?_
  refine lv_bipush (v := 6) X.1 X.2.1 dX8_init_210 (by decide) ?_
  refine y_na (atype := .int) X hSt hP hS 0 (ty := .int) rfl k_a_int (cA := G.2.1 0) rfl (fun cB h1 h2 => Option.some.inj (h2.symm.trans h1)) (N' := 6) (a0 := (6, .inl (fun _ => 0))) rfl (by decide) (by decide +kernel) (Nat.le_of_ble_eq_true rfl) (Nat.le_of_ble_eq_true rfl) (Nat.le_of_ble_eq_true rfl) dX8_init_212 (fun H hP hS => ?_)
  have hP := y_one G hP (by omega) (by omega) (by omega) (by rw [y_fin_of G (by decide +kernel : m_lay 197 = (0, 6))]; rfl)
  have hP : y_P G (y_n G f0 172 (.inr (8, [.ref (m_ad G 173), .ref (m_ad G 174), .ref (m_ad G 175), .ref (m_ad G 176), .int 0, .long 0, .long 1, .ref (m_ad G 177), .ref (m_ad G 178), .ref (m_ad G 179), .ref (m_ad G 180), .ref (m_ad G 181), .ref (m_ad G 182), .ref (m_ad G 183), .ref (m_ad G 184), .ref (m_ad G 185), .ref (m_ad G 186), .ref (m_ad G 187), .ref (m_ad G 188), .ref (m_ad G 189), .ref (m_ad G 190), .ref (m_ad G 191), .int 0, .int 0, .int 31, .int 0, .int 0, .int 0, .int 0, .int 0, .int 0, .int 0, .int 0, .int 0, .int 0, .int 0, .int 0, .int 0, .int 0, .ref (m_ad G 192), .int 0, .ref (m_ad G 193), .int 0, .ref (m_ad G 194), .long 0, .ref (m_ad G 195), .long 0, .long 0, .ref (m_ad G 196), .null, .null, .null, .null, .null])) 172 (.inr (99, [])) 172 (.inr (99, []))) (198) H := hP
  refine y_pf (v := .ref (m_ad G 197)) X hSt hP hS (ci := 8) inlX8 tyX8 tyX8_ok nmX8 rfl (k := 172) (by omega) (fs := [.ref (m_ad G 173), .ref (m_ad G 174), .ref (m_ad G 175), .ref (m_ad G 176), .int 0, .long 0, .long 1, .ref (m_ad G 177), .ref (m_ad G 178), .ref (m_ad G 179), .ref (m_ad G 180), .ref (m_ad G 181), .ref (m_ad G 182), .ref (m_ad G 183), .ref (m_ad G 184), .ref (m_ad G 185), .ref (m_ad G 186), .ref (m_ad G 187), .ref (m_ad G 188), .ref (m_ad G 189), .ref (m_ad G 190), .ref (m_ad G 191), .int 0, .int 0, .int 31, .int 0, .int 0, .int 0, .int 0, .int 0, .int 0, .int 0, .int 0, .int 0, .int 0, .int 0, .int 0, .int 0, .int 0, .ref (m_ad G 192), .int 0, .ref (m_ad G 193), .int 0, .ref (m_ad G 194), .long 0, .ref (m_ad G 195), .long 0, .long 0, .ref (m_ad G 196), .null, .null, .null, .null, .null]) y_n_own 49 (by decide) hin rfl (tyX8_ok 49 (by decide)) rfl rfl (Nat.le_of_ble_eq_true rfl) k_f_X8_92 dX8_init_214 (fun H locs hP hS => ?_)
  have hP := y_own G hP
  have hP : y_P G (y_n G f0 172 (.inr (8, [.ref (m_ad G 173), .ref (m_ad G 174), .ref (m_ad G 175), .ref (m_ad G 176), .int 0, .long 0, .long 1, .ref (m_ad G 177), .ref (m_ad G 178), .ref (m_ad G 179), .ref (m_ad G 180), .ref (m_ad G 181), .ref (m_ad G 182), .ref (m_ad G 183), .ref (m_ad G 184), .ref (m_ad G 185), .ref (m_ad G 186), .ref (m_ad G 187), .ref (m_ad G 188), .ref (m_ad G 189), .ref (m_ad G 190), .ref (m_ad G 191), .int 0, .int 0, .int 31, .int 0, .int 0, .int 0, .int 0, .int 0, .int 0, .int 0, .int 0, .int 0, .int 0, .int 0, .int 0, .int 0, .int 0, .ref (m_ad G 192), .int 0, .ref (m_ad G 193), .int 0, .ref (m_ad G 194), .long 0, .ref (m_ad G 195), .long 0, .long 0, .ref (m_ad G 196), .ref (m_ad G 197), .null, .null, .null, .null])) 172 (.inr (99, [])) 172 (.inr (99, []))) (198) H := hP
  refine lv_aload_n X.1 X.2.1 dX8_init_217 rfl (lv_at hl 0 rfl) ?_
  refine lv_bipush (v := 6) X.1 X.2.1 dX8_init_218 (by decide) ?_
  refine y_na (atype := .int) X hSt hP hS 0 (ty := .int) rfl k_a_int (cA := G.2.1 0) rfl (fun cB h1 h2 => Option.some.inj (h2.symm.trans h1)) (N' := 6) (a0 := (6, .inl (fun _ => 0))) rfl (by decide) (by decide +kernel) (Nat.le_of_ble_eq_true rfl) (Nat.le_of_ble_eq_true rfl) (Nat.le_of_ble_eq_true rfl) dX8_init_220 (fun H hP hS => ?_)
  have hP := y_one G hP (by omega) (by omega) (by omega) (by rw [y_fin_of G (by decide +kernel : m_lay 198 = (0, 6))]; rfl)
  have hP : y_P G (y_n G f0 172 (.inr (8, [.ref (m_ad G 173), .ref (m_ad G 174), .ref (m_ad G 175), .ref (m_ad G 176), .int 0, .long 0, .long 1, .ref (m_ad G 177), .ref (m_ad G 178), .ref (m_ad G 179), .ref (m_ad G 180), .ref (m_ad G 181), .ref (m_ad G 182), .ref (m_ad G 183), .ref (m_ad G 184), .ref (m_ad G 185), .ref (m_ad G 186), .ref (m_ad G 187), .ref (m_ad G 188), .ref (m_ad G 189), .ref (m_ad G 190), .ref (m_ad G 191), .int 0, .int 0, .int 31, .int 0, .int 0, .int 0, .int 0, .int 0, .int 0, .int 0, .int 0, .int 0, .int 0, .int 0, .int 0, .int 0, .int 0, .ref (m_ad G 192), .int 0, .ref (m_ad G 193), .int 0, .ref (m_ad G 194), .long 0, .ref (m_ad G 195), .long 0, .long 0, .ref (m_ad G 196), .ref (m_ad G 197), .null, .null, .null, .null])) 172 (.inr (99, [])) 172 (.inr (99, []))) (199) H := hP
  refine y_pf (v := .ref (m_ad G 198)) X hSt hP hS (ci := 8) inlX8 tyX8 tyX8_ok nmX8 rfl (k := 172) (by omega) (fs := [.ref (m_ad G 173), .ref (m_ad G 174), .ref (m_ad G 175), .ref (m_ad G 176), .int 0, .long 0, .long 1, .ref (m_ad G 177), .ref (m_ad G 178), .ref (m_ad G 179), .ref (m_ad G 180), .ref (m_ad G 181), .ref (m_ad G 182), .ref (m_ad G 183), .ref (m_ad G 184), .ref (m_ad G 185), .ref (m_ad G 186), .ref (m_ad G 187), .ref (m_ad G 188), .ref (m_ad G 189), .ref (m_ad G 190), .ref (m_ad G 191), .int 0, .int 0, .int 31, .int 0, .int 0, .int 0, .int 0, .int 0, .int 0, .int 0, .int 0, .int 0, .int 0, .int 0, .int 0, .int 0, .int 0, .ref (m_ad G 192), .int 0, .ref (m_ad G 193), .int 0, .ref (m_ad G 194), .long 0, .ref (m_ad G 195), .long 0, .long 0, .ref (m_ad G 196), .ref (m_ad G 197), .null, .null, .null, .null]) y_n_own 50 (by decide) hin rfl (tyX8_ok 50 (by decide)) rfl rfl (Nat.le_of_ble_eq_true rfl) k_f_X8_95 dX8_init_222 (fun H locs hP hS => ?_)
  have hP := y_own G hP
  have hP : y_P G (y_n G f0 172 (.inr (8, [.ref (m_ad G 173), .ref (m_ad G 174), .ref (m_ad G 175), .ref (m_ad G 176), .int 0, .long 0, .long 1, .ref (m_ad G 177), .ref (m_ad G 178), .ref (m_ad G 179), .ref (m_ad G 180), .ref (m_ad G 181), .ref (m_ad G 182), .ref (m_ad G 183), .ref (m_ad G 184), .ref (m_ad G 185), .ref (m_ad G 186), .ref (m_ad G 187), .ref (m_ad G 188), .ref (m_ad G 189), .ref (m_ad G 190), .ref (m_ad G 191), .int 0, .int 0, .int 31, .int 0, .int 0, .int 0, .int 0, .int 0, .int 0, .int 0, .int 0, .int 0, .int 0, .int 0, .int 0, .int 0, .int 0, .ref (m_ad G 192), .int 0, .ref (m_ad G 193), .int 0, .ref (m_ad G 194), .long 0, .ref (m_ad G 195), .long 0, .long 0, .ref (m_ad G 196), .ref (m_ad G 197), .ref (m_ad G 198), .null, .null, .null])) 172 (.inr (99, [])) 172 (.inr (99, []))) (199) H := hP
  refine lv_aload_n X.1 X.2.1 dX8_init_225 rfl (lv_at hl 0 rfl) ?_
  refine lv_bipush (v := 6) X.1 X.2.1 dX8_init_226 (by decide) ?_
  refine y_na (atype := .int) X hSt hP hS 0 (ty := .int) rfl k_a_int (cA := G.2.1 0) rfl (fun cB h1 h2 => Option.some.inj (h2.symm.trans h1)) (N' := 6) (a0 := (6, .inl (fun _ => 0))) rfl (by decide) (by decide +kernel) (Nat.le_of_ble_eq_true rfl) (Nat.le_of_ble_eq_true rfl) (Nat.le_of_ble_eq_true rfl) dX8_init_228 (fun H hP hS => ?_)
  have hP := y_one G hP (by omega) (by omega) (by omega) (by rw [y_fin_of G (by decide +kernel : m_lay 199 = (0, 6))]; rfl)
  have hP : y_P G (y_n G f0 172 (.inr (8, [.ref (m_ad G 173), .ref (m_ad G 174), .ref (m_ad G 175), .ref (m_ad G 176), .int 0, .long 0, .long 1, .ref (m_ad G 177), .ref (m_ad G 178), .ref (m_ad G 179), .ref (m_ad G 180), .ref (m_ad G 181), .ref (m_ad G 182), .ref (m_ad G 183), .ref (m_ad G 184), .ref (m_ad G 185), .ref (m_ad G 186), .ref (m_ad G 187), .ref (m_ad G 188), .ref (m_ad G 189), .ref (m_ad G 190), .ref (m_ad G 191), .int 0, .int 0, .int 31, .int 0, .int 0, .int 0, .int 0, .int 0, .int 0, .int 0, .int 0, .int 0, .int 0, .int 0, .int 0, .int 0, .int 0, .ref (m_ad G 192), .int 0, .ref (m_ad G 193), .int 0, .ref (m_ad G 194), .long 0, .ref (m_ad G 195), .long 0, .long 0, .ref (m_ad G 196), .ref (m_ad G 197), .ref (m_ad G 198), .null, .null, .null])) 172 (.inr (99, [])) 172 (.inr (99, []))) (200) H := hP
  refine y_pf (v := .ref (m_ad G 199)) X hSt hP hS (ci := 8) inlX8 tyX8 tyX8_ok nmX8 rfl (k := 172) (by omega) (fs := [.ref (m_ad G 173), .ref (m_ad G 174), .ref (m_ad G 175), .ref (m_ad G 176), .int 0, .long 0, .long 1, .ref (m_ad G 177), .ref (m_ad G 178), .ref (m_ad G 179), .ref (m_ad G 180), .ref (m_ad G 181), .ref (m_ad G 182), .ref (m_ad G 183), .ref (m_ad G 184), .ref (m_ad G 185), .ref (m_ad G 186), .ref (m_ad G 187), .ref (m_ad G 188), .ref (m_ad G 189), .ref (m_ad G 190), .ref (m_ad G 191), .int 0, .int 0, .int 31, .int 0, .int 0, .int 0, .int 0, .int 0, .int 0, .int 0, .int 0, .int 0, .int 0, .int 0, .int 0, .int 0, .int 0, .ref (m_ad G 192), .int 0, .ref (m_ad G 193), .int 0, .ref (m_ad G 194), .long 0, .ref (m_ad G 195), .long 0, .long 0, .ref (m_ad G 196), .ref (m_ad G 197), .ref (m_ad G 198), .null, .null, .null]) y_n_own 51 (by decide) hin rfl (tyX8_ok 51 (by decide)) rfl rfl (Nat.le_of_ble_eq_true rfl) k_f_X8_98 dX8_init_230 (fun H locs hP hS => ?_)
  have hP := y_own G hP
  have hP : y_P G (y_n G f0 172 (.inr (8, [.ref (m_ad G 173), .ref (m_ad G 174), .ref (m_ad G 175), .ref (m_ad G 176), .int 0, .long 0, .long 1, .ref (m_ad G 177), .ref (m_ad G 178), .ref (m_ad G 179), .ref (m_ad G 180), .ref (m_ad G 181), .ref (m_ad G 182), .ref (m_ad G 183), .ref (m_ad G 184), .ref (m_ad G 185), .ref (m_ad G 186), .ref (m_ad G 187), .ref (m_ad G 188), .ref (m_ad G 189), .ref (m_ad G 190), .ref (m_ad G 191), .int 0, .int 0, .int 31, .int 0, .int 0, .int 0, .int 0, .int 0, .int 0, .int 0, .int 0, .int 0, .int 0, .int 0, .int 0, .int 0, .int 0, .ref (m_ad G 192), .int 0, .ref (m_ad G 193), .int 0, .ref (m_ad G 194), .long 0, .ref (m_ad G 195), .long 0, .long 0, .ref (m_ad G 196), .ref (m_ad G 197), .ref (m_ad G 198), .ref (m_ad G 199), .null, .null])) 172 (.inr (99, [])) 172 (.inr (99, []))) (200) H := hP
  refine lv_aload_n X.1 X.2.1 dX8_init_233 rfl (lv_at hl 0 rfl) ?_
  refine lv_bipush (v := 32) X.1 X.2.1 dX8_init_234 (by decide) ?_
  refine y_na (atype := .long) X hSt hP hS 1 (ty := .long) rfl k_a_long (cA := G.2.1 1) rfl (fun cB h1 h2 => Option.some.inj (h2.symm.trans h1)) (N' := 32) (a0 := (32, .inr (.inl (fun _ => 0)))) rfl (by decide) (by decide +kernel) (Nat.le_of_ble_eq_true rfl) (Nat.le_of_ble_eq_true rfl) (Nat.le_of_ble_eq_true rfl) dX8_init_236 (fun H hP hS => ?_)
  have hP := y_one G hP (by omega) (by omega) (by omega) (by rw [y_fin_of G (by decide +kernel : m_lay 200 = (1, 32))]; rfl)
  have hP : y_P G (y_n G f0 172 (.inr (8, [.ref (m_ad G 173), .ref (m_ad G 174), .ref (m_ad G 175), .ref (m_ad G 176), .int 0, .long 0, .long 1, .ref (m_ad G 177), .ref (m_ad G 178), .ref (m_ad G 179), .ref (m_ad G 180), .ref (m_ad G 181), .ref (m_ad G 182), .ref (m_ad G 183), .ref (m_ad G 184), .ref (m_ad G 185), .ref (m_ad G 186), .ref (m_ad G 187), .ref (m_ad G 188), .ref (m_ad G 189), .ref (m_ad G 190), .ref (m_ad G 191), .int 0, .int 0, .int 31, .int 0, .int 0, .int 0, .int 0, .int 0, .int 0, .int 0, .int 0, .int 0, .int 0, .int 0, .int 0, .int 0, .int 0, .ref (m_ad G 192), .int 0, .ref (m_ad G 193), .int 0, .ref (m_ad G 194), .long 0, .ref (m_ad G 195), .long 0, .long 0, .ref (m_ad G 196), .ref (m_ad G 197), .ref (m_ad G 198), .ref (m_ad G 199), .null, .null])) 172 (.inr (99, [])) 172 (.inr (99, []))) (201) H := hP
  refine y_pf (v := .ref (m_ad G 200)) X hSt hP hS (ci := 8) inlX8 tyX8 tyX8_ok nmX8 rfl (k := 172) (by omega) (fs := [.ref (m_ad G 173), .ref (m_ad G 174), .ref (m_ad G 175), .ref (m_ad G 176), .int 0, .long 0, .long 1, .ref (m_ad G 177), .ref (m_ad G 178), .ref (m_ad G 179), .ref (m_ad G 180), .ref (m_ad G 181), .ref (m_ad G 182), .ref (m_ad G 183), .ref (m_ad G 184), .ref (m_ad G 185), .ref (m_ad G 186), .ref (m_ad G 187), .ref (m_ad G 188), .ref (m_ad G 189), .ref (m_ad G 190), .ref (m_ad G 191), .int 0, .int 0, .int 31, .int 0, .int 0, .int 0, .int 0, .int 0, .int 0, .int 0, .int 0, .int 0, .int 0, .int 0, .int 0, .int 0, .int 0, .ref (m_ad G 192), .int 0, .ref (m_ad G 193), .int 0, .ref (m_ad G 194), .long 0, .ref (m_ad G 195), .long 0, .long 0, .ref (m_ad G 196), .ref (m_ad G 197), .ref (m_ad G 198), .ref (m_ad G 199), .null, .null]) y_n_own 52 (by decide) hin rfl (tyX8_ok 52 (by decide)) rfl rfl (Nat.le_of_ble_eq_true rfl) k_f_X8_101 dX8_init_238 (fun H locs hP hS => ?_)
  have hP := y_own G hP
  have hP : y_P G (y_n G f0 172 (.inr (8, [.ref (m_ad G 173), .ref (m_ad G 174), .ref (m_ad G 175), .ref (m_ad G 176), .int 0, .long 0, .long 1, .ref (m_ad G 177), .ref (m_ad G 178), .ref (m_ad G 179), .ref (m_ad G 180), .ref (m_ad G 181), .ref (m_ad G 182), .ref (m_ad G 183), .ref (m_ad G 184), .ref (m_ad G 185), .ref (m_ad G 186), .ref (m_ad G 187), .ref (m_ad G 188), .ref (m_ad G 189), .ref (m_ad G 190), .ref (m_ad G 191), .int 0, .int 0, .int 31, .int 0, .int 0, .int 0, .int 0, .int 0, .int 0, .int 0, .int 0, .int 0, .int 0, .int 0, .int 0, .int 0, .int 0, .ref (m_ad G 192), .int 0, .ref (m_ad G 193), .int 0, .ref (m_ad G 194), .long 0, .ref (m_ad G 195), .long 0, .long 0, .ref (m_ad G 196), .ref (m_ad G 197), .ref (m_ad G 198), .ref (m_ad G 199), .ref (m_ad G 200), .null])) 172 (.inr (99, [])) 172 (.inr (99, []))) (201) H := hP
  refine lv_aload_n X.1 X.2.1 dX8_init_241 rfl (lv_at hl 0 rfl) ?_
  refine lv_bipush (v := 32) X.1 X.2.1 dX8_init_242 (by decide) ?_
  refine y_na (atype := .long) X hSt hP hS 1 (ty := .long) rfl k_a_long (cA := G.2.1 1) rfl (fun cB h1 h2 => Option.some.inj (h2.symm.trans h1)) (N' := 32) (a0 := (32, .inr (.inl (fun _ => 0)))) rfl (by decide) (by decide +kernel) (Nat.le_of_ble_eq_true rfl) (Nat.le_of_ble_eq_true rfl) (Nat.le_of_ble_eq_true rfl) dX8_init_244 (fun H hP hS => ?_)
  have hP := y_one G hP (by omega) (by omega) (by omega) (by rw [y_fin_of G (by decide +kernel : m_lay 201 = (1, 32))]; rfl)
  have hP : y_P G (y_n G f0 172 (.inr (8, [.ref (m_ad G 173), .ref (m_ad G 174), .ref (m_ad G 175), .ref (m_ad G 176), .int 0, .long 0, .long 1, .ref (m_ad G 177), .ref (m_ad G 178), .ref (m_ad G 179), .ref (m_ad G 180), .ref (m_ad G 181), .ref (m_ad G 182), .ref (m_ad G 183), .ref (m_ad G 184), .ref (m_ad G 185), .ref (m_ad G 186), .ref (m_ad G 187), .ref (m_ad G 188), .ref (m_ad G 189), .ref (m_ad G 190), .ref (m_ad G 191), .int 0, .int 0, .int 31, .int 0, .int 0, .int 0, .int 0, .int 0, .int 0, .int 0, .int 0, .int 0, .int 0, .int 0, .int 0, .int 0, .int 0, .ref (m_ad G 192), .int 0, .ref (m_ad G 193), .int 0, .ref (m_ad G 194), .long 0, .ref (m_ad G 195), .long 0, .long 0, .ref (m_ad G 196), .ref (m_ad G 197), .ref (m_ad G 198), .ref (m_ad G 199), .ref (m_ad G 200), .null])) 172 (.inr (99, [])) 172 (.inr (99, []))) (202) H := hP
  refine y_pf (v := .ref (m_ad G 201)) X hSt hP hS (ci := 8) inlX8 tyX8 tyX8_ok nmX8 rfl (k := 172) (by omega) (fs := [.ref (m_ad G 173), .ref (m_ad G 174), .ref (m_ad G 175), .ref (m_ad G 176), .int 0, .long 0, .long 1, .ref (m_ad G 177), .ref (m_ad G 178), .ref (m_ad G 179), .ref (m_ad G 180), .ref (m_ad G 181), .ref (m_ad G 182), .ref (m_ad G 183), .ref (m_ad G 184), .ref (m_ad G 185), .ref (m_ad G 186), .ref (m_ad G 187), .ref (m_ad G 188), .ref (m_ad G 189), .ref (m_ad G 190), .ref (m_ad G 191), .int 0, .int 0, .int 31, .int 0, .int 0, .int 0, .int 0, .int 0, .int 0, .int 0, .int 0, .int 0, .int 0, .int 0, .int 0, .int 0, .int 0, .ref (m_ad G 192), .int 0, .ref (m_ad G 193), .int 0, .ref (m_ad G 194), .long 0, .ref (m_ad G 195), .long 0, .long 0, .ref (m_ad G 196), .ref (m_ad G 197), .ref (m_ad G 198), .ref (m_ad G 199), .ref (m_ad G 200), .null]) y_n_own 53 (by decide) hin rfl (tyX8_ok 53 (by decide)) rfl rfl (Nat.le_of_ble_eq_true rfl) k_f_X8_104 dX8_init_246 (fun H locs hP hS => ?_)
  have hP := y_own G hP
  have hP : y_P G (y_n G f0 172 (.inr (8, [.ref (m_ad G 173), .ref (m_ad G 174), .ref (m_ad G 175), .ref (m_ad G 176), .int 0, .long 0, .long 1, .ref (m_ad G 177), .ref (m_ad G 178), .ref (m_ad G 179), .ref (m_ad G 180), .ref (m_ad G 181), .ref (m_ad G 182), .ref (m_ad G 183), .ref (m_ad G 184), .ref (m_ad G 185), .ref (m_ad G 186), .ref (m_ad G 187), .ref (m_ad G 188), .ref (m_ad G 189), .ref (m_ad G 190), .ref (m_ad G 191), .int 0, .int 0, .int 31, .int 0, .int 0, .int 0, .int 0, .int 0, .int 0, .int 0, .int 0, .int 0, .int 0, .int 0, .int 0, .int 0, .int 0, .ref (m_ad G 192), .int 0, .ref (m_ad G 193), .int 0, .ref (m_ad G 194), .long 0, .ref (m_ad G 195), .long 0, .long 0, .ref (m_ad G 196), .ref (m_ad G 197), .ref (m_ad G 198), .ref (m_ad G 199), .ref (m_ad G 200), .ref (m_ad G 201)])) 172 (.inr (99, [])) 172 (.inr (99, []))) (202) H := hP
  refine W.widen (k := 29) (n := 2690) (Nat.le_of_ble_eq_true rfl) (Nat.le_of_ble_eq_true rfl) ?_
  exact y_rv X hr hlk (y_done0 G hP (by rw [y_fin_of G (by decide +kernel : m_lay 172 = (18, 0))]; exact y_sim_rf)) hS dX8_init_249

theorem dX1_init_0 : decode cX1_init 0 = .ok (.aload_n 0, 1) := by decide +kernel
theorem dX1_init_1 : decode cX1_init 1 = .ok (.invokespecial 3, 3) := by decide +kernel
theorem dX1_init_4 : decode cX1_init 4 = .ok (.aload_n 0, 1) := by decide +kernel
theorem dX1_init_5 : decode cX1_init 5 = .ok (.bipush 10, 2) := by decide +kernel
theorem dX1_init_7 : decode cX1_init 7 = .ok (.anewarray 9, 3) := by decide +kernel
theorem dX1_init_10 : decode cX1_init 10 = .ok (.putfield 11, 3) := by decide +kernel
theorem dX1_init_13 : decode cX1_init 13 = .ok (.aload_n 0, 1) := by decide +kernel
theorem dX1_init_14 : decode cX1_init 14 = .ok (.bipush 60, 2) := by decide +kernel
theorem dX1_init_16 : decode cX1_init 16 = .ok (.anewarray 17, 3) := by decide +kernel
theorem dX1_init_19 : decode cX1_init 19 = .ok (.putfield 19, 3) := by decide +kernel
theorem dX1_init_22 : decode cX1_init 22 = .ok (.aload_n 0, 1) := by decide +kernel
theorem dX1_init_23 : decode cX1_init 23 = .ok (.iconst 5, 1) := by decide +kernel
theorem dX1_init_24 : decode cX1_init 24 = .ok (.newarray .long, 2) := by decide +kernel
theorem dX1_init_26 : decode cX1_init 26 = .ok (.putfield 23, 3) := by decide +kernel
theorem dX1_init_29 : decode cX1_init 29 = .ok (.aload_n 0, 1) := by decide +kernel
theorem dX1_init_30 : decode cX1_init 30 = .ok (.aload_n 1, 1) := by decide +kernel
theorem dX1_init_31 : decode cX1_init 31 = .ok (.putfield 27, 3) := by decide +kernel
theorem dX1_init_34 : decode cX1_init 34 = .ok (.iconst 0, 1) := by decide +kernel
theorem dX1_init_35 : decode cX1_init 35 = .ok (.istore_n 2, 1) := by decide +kernel
theorem dX1_init_36 : decode cX1_init 36 = .ok (.iload_n 2, 1) := by decide +kernel
theorem dX1_init_37 : decode cX1_init 37 = .ok (.bipush 10, 2) := by decide +kernel
theorem dX1_init_39 : decode cX1_init 39 = .ok (.if_icmp .ge 22, 3) := by decide +kernel
theorem dX1_init_42 : decode cX1_init 42 = .ok (.aload_n 0, 1) := by decide +kernel
theorem dX1_init_43 : decode cX1_init 43 = .ok (.getfield 11, 3) := by decide +kernel
theorem dX1_init_46 : decode cX1_init 46 = .ok (.iload_n 2, 1) := by decide +kernel
theorem dX1_init_47 : decode cX1_init 47 = .ok (.new 9, 3) := by decide +kernel
theorem dX1_init_50 : decode cX1_init 50 = .ok (.dup, 1) := by decide +kernel
theorem dX1_init_51 : decode cX1_init 51 = .ok (.invokespecial 31, 3) := by decide +kernel
theorem dX1_init_54 : decode cX1_init 54 = .ok (.aastore, 1) := by decide +kernel
theorem dX1_init_55 : decode cX1_init 55 = .ok (.iinc 2 1, 3) := by decide +kernel
theorem dX1_init_58 : decode cX1_init 58 = .ok (.goto (-22), 3) := by decide +kernel
theorem dX1_init_61 : decode cX1_init 61 = .ok (.iconst 0, 1) := by decide +kernel
theorem dX1_init_62 : decode cX1_init 62 = .ok (.istore_n 2, 1) := by decide +kernel
theorem dX1_init_63 : decode cX1_init 63 = .ok (.iload_n 2, 1) := by decide +kernel
theorem dX1_init_64 : decode cX1_init 64 = .ok (.bipush 60, 2) := by decide +kernel
theorem dX1_init_66 : decode cX1_init 66 = .ok (.if_icmp .ge 22, 3) := by decide +kernel
theorem dX1_init_69 : decode cX1_init 69 = .ok (.aload_n 0, 1) := by decide +kernel
theorem dX1_init_70 : decode cX1_init 70 = .ok (.getfield 19, 3) := by decide +kernel
theorem dX1_init_73 : decode cX1_init 73 = .ok (.iload_n 2, 1) := by decide +kernel
theorem dX1_init_74 : decode cX1_init 74 = .ok (.new 17, 3) := by decide +kernel
theorem dX1_init_77 : decode cX1_init 77 = .ok (.dup, 1) := by decide +kernel
theorem dX1_init_78 : decode cX1_init 78 = .ok (.invokespecial 32, 3) := by decide +kernel
theorem dX1_init_81 : decode cX1_init 81 = .ok (.aastore, 1) := by decide +kernel
theorem dX1_init_82 : decode cX1_init 82 = .ok (.iinc 2 1, 3) := by decide +kernel
theorem dX1_init_85 : decode cX1_init 85 = .ok (.goto (-22), 3) := by decide +kernel
theorem dX1_init_88 : decode cX1_init 88 = .ok (.return_, 1) := by decide +kernel
set_option maxHeartbeats 4000000 in
set_option maxRecDepth 100000 in
theorem c_X1_init (l : Launch) (G : m_G) (f0 : Nat → va_E) (hf0 : f0 45 = .inr (1, [.null, .null, .null, .null, .int 0, .int 0])) : Met l yX1_init (m_U yX1_init cX1_init 3 none) (y_R 2 60 113 1005) (y_Pc G [.ref (m_ad G 45), .ref (m_ad G 1)] f0 (46)) (y_Qv G (y_m G f0 45) (159)) 113 1005 (m_A G) := by
  refine y_i0 (nL := 3) RX1 rfl rfl (by decide) (Nat.le_of_ble_eq_true rfl) ?_
  intro p e s m args below meth c X hin hr hlk hSt hAo hP hS ls hl
  have hl : lv_has ls 3 [(0, .ref (m_ad G 45)), (1, .ref (m_ad G 1))] := hl
  have hP := y_start G (x := 46) (x2 := 47) (g := .inr (99, [])) (g2 := .inr (99, [])) hP hf0
  refine lv_aload_n X.1 X.2.1 dX1_init_0 rfl (lv_at hl 0 rfl) ?_
  refine W.objInit X.1 X.2.1 X.2.2.2.1 (X.2.2.2.2 _ k_m_X1_3) (X.2.2.2.2 _ k_i_objectInit) (X.2.2.2.2 _ k_c_objectInit) rfl (by rw [X.2.2.1]; exact hl.1) rfl dX1_init_1 (Nat.le_of_ble_eq_true rfl) (Nat.le_of_ble_eq_true rfl) ?_
  refine W.eq (g2 := F0 m 4 ls []) rfl ?_
  refine lv_aload_n X.1 X.2.1 dX1_init_4 rfl (lv_at hl 0 rfl) ?_
  refine lv_bipush (v := 10) X.1 X.2.1 dX1_init_5 (by decide) ?_
  refine y_nq X hSt hP hS hAo.2.2.2 6 k_x_X1_9 (cA := G.2.1 6) rfl (N' := 10) (by decide) (by decide +kernel) (Nat.le_of_ble_eq_true rfl) (Nat.le_of_ble_eq_true rfl) (Nat.le_of_ble_eq_true rfl) dX1_init_7 (fun H hP hS => ?_)
  have hP := y_oneX G hP (by omega)
  have hP : y_P G (y_n G f0 45 (.inr (1, [.null, .null, .null, .null, .int 0, .int 0])) 46 (.inl (G.2.1 6, 10, .inr (.inr (.inr (.inr (fun _ => none)))))) 47 (.inr (99, []))) (47) H := hP
  refine y_pf (v := .ref (m_ad G 46)) X hSt hP hS (ci := 1) inlX1 tyX1 tyX1_ok nmX1 rfl (k := 45) (by omega) (fs := [.null, .null, .null, .null, .int 0, .int 0]) y_n_own 1 (by decide) hin rfl (tyX1_ok 1 (by decide)) rfl rfl (Nat.le_of_ble_eq_true rfl) k_f_X1_11 dX1_init_10 (fun H locs hP hS => ?_)
  have hP := y_own G hP
  have hP : y_P G (y_n G f0 45 (.inr (1, [.null, .ref (m_ad G 46), .null, .null, .int 0, .int 0])) 46 (.inl (G.2.1 6, 10, .inr (.inr (.inr (.inr (fun _ => none)))))) 47 (.inr (99, []))) (47) H := hP
  refine lv_aload_n X.1 X.2.1 dX1_init_13 rfl (lv_at hl 0 rfl) ?_
  refine lv_bipush (v := 60) X.1 X.2.1 dX1_init_14 (by decide) ?_
  refine y_nq X hSt hP hS hAo.1 3 k_x_X1_17 (cA := G.2.1 3) rfl (N' := 60) (by decide) (by decide +kernel) (Nat.le_of_ble_eq_true rfl) (Nat.le_of_ble_eq_true rfl) (Nat.le_of_ble_eq_true rfl) dX1_init_16 (fun H hP hS => ?_)
  have hP := y_oneX2 G hP (by omega) (by omega)
  have hP : y_P G (y_n G f0 45 (.inr (1, [.null, .ref (m_ad G 46), .null, .null, .int 0, .int 0])) 46 (.inl (G.2.1 6, 10, .inr (.inr (.inr (.inr (fun _ => none)))))) 47 (.inl (G.2.1 3, 60, .inr (.inr (.inr (.inr (fun _ => none))))))) (48) H := hP
  refine y_pf (v := .ref (m_ad G 47)) X hSt hP hS (ci := 1) inlX1 tyX1 tyX1_ok nmX1 rfl (k := 45) (by omega) (fs := [.null, .ref (m_ad G 46), .null, .null, .int 0, .int 0]) y_n_own 2 (by decide) hin rfl (tyX1_ok 2 (by decide)) rfl rfl (Nat.le_of_ble_eq_true rfl) k_f_X1_19 dX1_init_19 (fun H locs hP hS => ?_)
  have hP := y_own G hP
  have hP : y_P G (y_n G f0 45 (.inr (1, [.null, .ref (m_ad G 46), .ref (m_ad G 47), .null, .int 0, .int 0])) 46 (.inl (G.2.1 6, 10, .inr (.inr (.inr (.inr (fun _ => none)))))) 47 (.inl (G.2.1 3, 60, .inr (.inr (.inr (.inr (fun _ => none))))))) (48) H := hP
  refine lv_aload_n X.1 X.2.1 dX1_init_22 rfl (lv_at hl 0 rfl) ?_
  refine lv_iconst (v := 5) X.1 X.2.1 dX1_init_23 (by decide) ?_
  refine y_na (atype := .long) X hSt hP hS 1 (ty := .long) rfl k_a_long (cA := G.2.1 1) rfl (fun cB h1 h2 => Option.some.inj (h2.symm.trans h1)) (N' := 5) (a0 := (5, .inr (.inl (fun _ => 0)))) rfl (by decide) (by decide +kernel) (Nat.le_of_ble_eq_true rfl) (Nat.le_of_ble_eq_true rfl) (Nat.le_of_ble_eq_true rfl) dX1_init_24 (fun H hP hS => ?_)
  have hP := y_one G hP (by omega) (by omega) (by omega) (by rw [y_fin_of G (by decide +kernel : m_lay 48 = (1, 5))]; rfl)
  have hP : y_P G (y_n G f0 45 (.inr (1, [.null, .ref (m_ad G 46), .ref (m_ad G 47), .null, .int 0, .int 0])) 46 (.inl (G.2.1 6, 10, .inr (.inr (.inr (.inr (fun _ => none)))))) 47 (.inl (G.2.1 3, 60, .inr (.inr (.inr (.inr (fun _ => none))))))) (49) H := hP
  refine y_pf (v := .ref (m_ad G 48)) X hSt hP hS (ci := 1) inlX1 tyX1 tyX1_ok nmX1 rfl (k := 45) (by omega) (fs := [.null, .ref (m_ad G 46), .ref (m_ad G 47), .null, .int 0, .int 0]) y_n_own 3 (by decide) hin rfl (tyX1_ok 3 (by decide)) rfl rfl (Nat.le_of_ble_eq_true rfl) k_f_X1_23 dX1_init_26 (fun H locs hP hS => ?_)
  have hP := y_own G hP
  have hP : y_P G (y_n G f0 45 (.inr (1, [.null, .ref (m_ad G 46), .ref (m_ad G 47), .ref (m_ad G 48), .int 0, .int 0])) 46 (.inl (G.2.1 6, 10, .inr (.inr (.inr (.inr (fun _ => none)))))) 47 (.inl (G.2.1 3, 60, .inr (.inr (.inr (.inr (fun _ => none))))))) (49) H := hP
  refine lv_aload_n X.1 X.2.1 dX1_init_29 rfl (lv_at hl 0 rfl) ?_
  refine lv_aload_n X.1 X.2.1 dX1_init_30 rfl (lv_at hl 1 rfl) ?_
  refine y_pf (v := .ref (m_ad G 1)) X hSt hP hS (ci := 1) inlX1 tyX1 tyX1_ok nmX1 rfl (k := 45) (by omega) (fs := [.null, .ref (m_ad G 46), .ref (m_ad G 47), .ref (m_ad G 48), .int 0, .int 0]) y_n_own 0 (by decide) hin rfl (tyX1_ok 0 (by decide)) rfl rfl (Nat.le_of_ble_eq_true rfl) k_f_X1_27 dX1_init_31 (fun H locs hP hS => ?_)
  have hP := y_own G hP
  have hP : y_P G (y_n G f0 45 (.inr (1, [.ref (m_ad G 1), .ref (m_ad G 46), .ref (m_ad G 47), .ref (m_ad G 48), .int 0, .int 0])) 46 (.inl (G.2.1 6, 10, .inr (.inr (.inr (.inr (fun _ => none)))))) 47 (.inl (G.2.1 3, 60, .inr (.inr (.inr (.inr (fun _ => none))))))) (49) H := hP
  refine lv_iconst (v := 0) X.1 X.2.1 dX1_init_34 (by decide) ?_
  have loop2 : ∀ (d i : Nat), i + d = 60 → ∀ (H : Heap) (locs : List Loc) (ls : Array Slot), y_P G (y_n G f0 45 (.inr (1, [.ref (m_ad G 1), .ref (m_ad G 46), .ref (m_ad G 47), .ref (m_ad G 48), .int 0, .int 0])) 46 (.inl (G.2.1 6, 10, .inr (.inr (.inr (.inr (y_gP G 10)))))) 47 (.inl (G.2.1 3, 60, .inr (.inr (.inr (.inr (y_gD G i))))))) (99 + i) H → va_S (m_A G) s.heap H locs → lv_has ls 3 [(2, .int (nI i)), (0, .ref (m_ad G 45)), (1, .ref (m_ad G 1))] → W p l e (y_R 2 60 113 1005) s m args below meth c H locs (53 + i) (405 + 10 * i) (MQ below (y_Qv G (y_m G f0 45) 159) args s 113 1005 (m_A G)) (F0 m 63 ls []) := by
    intro d
    induction d with
    | zero =>
      intro i hi H locs ls hP hS hl
      have hi0 : i = 60 := by omega
      subst hi0
      refine lv_iload_n X.1 X.2.1 dX1_init_63 rfl (lv_at hl 0 rfl) ?_
      refine lv_bipush (v := 60) X.1 X.2.1 dX1_init_64 (by decide) ?_
      refine lv_icmp_ge (tgt := 88) X.1 X.2.1 dX1_init_66 (by decide) (fun hc => ?_) (fun hc => absurd (by decide +kernel) hc)
      exact y_rv X hr hlk (y_done G hP (by rw [y_fin_of G m_z_45]; exact y_sim_rf) (by rw [y_fin_of G m_z_46]; exact y_sim_q (fun j hj => by show y_gP G 10 j = _; unfold y_gP; rw [if_pos hj])) (by rw [y_fin_of G m_z_47]; exact y_sim_q (fun j hj => by show y_gD G 60 j = _; unfold y_gD; rw [if_pos hj]))) hS dX1_init_88
    | succ d ih =>
      intro i hi H locs ls hP hS hl
      have hlt : i < 60 := by omega
      refine lv_iload_n X.1 X.2.1 dX1_init_63 rfl (lv_at hl 0 rfl) ?_
      refine lv_bipush (v := 60) X.1 X.2.1 dX1_init_64 (by decide) ?_
      refine lv_icmp_ge (tgt := 88) X.1 X.2.1 dX1_init_66 (by decide) (fun hc => absurd hc (nI_ge (b := 60) hlt (by decide))) (fun hc => ?_)
      refine lv_aload_n X.1 X.2.1 dX1_init_69 rfl (lv_at hl 1 rfl) ?_
      refine y_gf (v := .ref (m_ad G 47)) X hSt hP (ci := 1) inlX1 rfl (k := 45) (by omega) (fs := [.ref (m_ad G 1), .ref (m_ad G 46), .ref (m_ad G 47), .ref (m_ad G 48), .int 0, .int 0]) y_n_own 2 (by decide) rfl k_f_X1_19 dX1_init_70 ?_
      refine lv_iload_n X.1 X.2.1 dX1_init_73 rfl (lv_at hl 0 rfl) ?_
      refine y_nw X hSt hP hS (ci := 0) (C := RX0) (T := TX0) (N := 10) (fs := [.int 0, .int 0, .int 0, .int 0, .int 0, .int 0, .int 0, .int 0, .int 0, .int 0]) inlX0 tyX0 tyX0_ok k_x_X1_17 k_w_X0 k_n_X0 rfl y_df0 (by show 53 + i + 1 ≤ 113; omega) (by show 405 + 10 * i + 10 ≤ 1005; omega) dX1_init_74 (fun H hP hS => ?_)
      refine lv_dup X.1 X.2.1 dX1_init_77 rfl ?_
      refine y_ci (q := 0) (As := []) (rest := [.ref (m_ad G (99 + i)), .int (nI i), .ref (m_ad G 47)]) (mc := 0) (ms := 0) X hSt hAo hP hS hl.1 (c_X0_init l G (99 + i) _ (m_deal_all i hlt) (va_up_self _ _ _)) k_c_yX0_init hSt.2.2.2.1.2.2.2.1 k_i_yX0_init k_n_X0 rfl (by decide +kernel) rfl rfl ⟨Nat.le_of_ble_eq_true rfl, Nat.le_of_ble_eq_true rfl⟩ (Nat.le_of_ble_eq_true rfl) ⟨by show 53 + i + 1 + 0 ≤ 113; omega, by show 405 + 10 * i + 10 + 0 ≤ 1005; omega⟩ dX1_init_78 (fun H locs hP hS => ?_)
      have hP := y_made G hP (by omega) (by omega) (by omega)
      refine y_as X hSt hP hS 3 (x := 47) (k := 99 + i) (ci := 0) (r := (RX0, TX0, 10)) (j := i) (by omega) (y_n_x2 (by omega) (by omega)) rfl (by omega) ((y_n_fin (by omega) (by omega) (by omega)).trans (by rw [y_fin_of G (m_deal_all i hlt)]; rfl)) rfl (vp_in_nI hlt (by omega)) (nI_clamp (by omega)) dX1_init_81 (fun H locs hP hS => ?_)
      have hP := y_rowX2 G hP (by omega) (by omega)
      rw [y_gD_succ] at hP
      refine lv_iinc (v := nI (i + 1)) (lv' := [(2, .int (nI (i + 1))), (0, .ref (m_ad G 45)), (1, .ref (m_ad G 1))]) X.1 X.2.1 dX1_init_82 hl (k := 0) rfl (nI_1 i) (by decide) rfl (fun ls hl => ?_)
      refine lv_goto (tgt := 63) X.1 X.2.1 dX1_init_85 (by decide) ?_
      exact ih (i + 1) (by omega) _ _ _ hP hS hl
  have loop1 : ∀ (d i : Nat), i + d = 10 → ∀ (H : Heap) (locs : List Loc) (ls : Array Slot), y_P G (y_n G f0 45 (.inr (1, [.ref (m_ad G 1), .ref (m_ad G 46), .ref (m_ad G 47), .ref (m_ad G 48), .int 0, .int 0])) 46 (.inl (G.2.1 6, 10, .inr (.inr (.inr (.inr (y_gP G i)))))) 47 (.inl (G.2.1 3, 60, .inr (.inr (.inr (.inr (y_gD G 0))))))) (49 + 5 * i) H → va_S (m_A G) s.heap H locs → lv_has ls 3 [(2, .int (nI i)), (0, .ref (m_ad G 45)), (1, .ref (m_ad G 1))] → W p l e (y_R 2 60 113 1005) s m args below meth c H locs (3 + 5 * i) (75 + 33 * i) (MQ below (y_Qv G (y_m G f0 45) 159) args s 113 1005 (m_A G)) (F0 m 36 ls []) := by
    intro d
    induction d with
    | zero =>
      intro i hi H locs ls hP hS hl
      have hi0 : i = 10 := by omega
      subst hi0
      refine lv_iload_n X.1 X.2.1 dX1_init_36 rfl (lv_at hl 0 rfl) ?_
      refine lv_bipush (v := 10) X.1 X.2.1 dX1_init_37 (by decide) ?_
      refine lv_icmp_ge (tgt := 61) X.1 X.2.1 dX1_init_39 (by decide) (fun hc => ?_) (fun hc => absurd (by decide +kernel) hc)
      refine lv_iconst (v := 0) X.1 X.2.1 dX1_init_61 (by decide) ?_
      refine lv_istore_n (lv' := [(2, .int (nI 0)), (0, .ref (m_ad G 45)), (1, .ref (m_ad G 1))]) X.1 X.2.1 dX1_init_62 rfl hl (by decide) rfl (fun ls hl => ?_)
      exact loop2 60 0 (by omega) _ _ _ hP hS hl
    | succ d ih =>
      intro i hi H locs ls hP hS hl
      have hlt : i < 10 := by omega
      have hpe := m_person_all i hlt
      refine lv_iload_n X.1 X.2.1 dX1_init_36 rfl (lv_at hl 0 rfl) ?_
      refine lv_bipush (v := 10) X.1 X.2.1 dX1_init_37 (by decide) ?_
      refine lv_icmp_ge (tgt := 61) X.1 X.2.1 dX1_init_39 (by decide) (fun hc => absurd hc (nI_ge (b := 10) hlt (by decide))) (fun hc => ?_)
      refine lv_aload_n X.1 X.2.1 dX1_init_42 rfl (lv_at hl 1 rfl) ?_
      refine y_gf (v := .ref (m_ad G 46)) X hSt hP (ci := 1) inlX1 rfl (k := 45) (by omega) (fs := [.ref (m_ad G 1), .ref (m_ad G 46), .ref (m_ad G 47), .ref (m_ad G 48), .int 0, .int 0]) y_n_own 1 (by decide) rfl k_f_X1_11 dX1_init_43 ?_
      refine lv_iload_n X.1 X.2.1 dX1_init_46 rfl (lv_at hl 0 rfl) ?_
      refine y_nw X hSt hP hS (ci := 5) (C := RX5) (T := TX5) (N := 11) (fs := [.int 0, .int 0, .int 0, .int 0, .int 0, .int 0, .int 0, .null, .null, .null, .null]) inlX5 tyX5 tyX5_ok k_x_X1_9 k_w_X5 k_n_X5 rfl y_df5 (by show 3 + 5 * i + 1 ≤ 113; omega) (by show 75 + 33 * i + 11 ≤ 1005; omega) dX1_init_47 (fun H hP hS => ?_)
      refine lv_dup X.1 X.2.1 dX1_init_50 rfl ?_
      refine y_ci (q := 0) (As := []) (rest := [.ref (m_ad G (49 + 5 * i)), .int (nI i), .ref (m_ad G 46)]) (mc := 4) (ms := 22) X hSt hAo hP hS hl.1 (c_X5_init l G (49 + 5 * i) _ hpe (va_up_self _ _ _)) k_c_yX5_init hSt.2.2.2.1.2.2.1 k_i_yX5_init k_n_X5 rfl (by decide +kernel) rfl rfl ⟨Nat.le_of_ble_eq_true rfl, Nat.le_of_ble_eq_true rfl⟩ (Nat.le_of_ble_eq_true rfl) ⟨by show 3 + 5 * i + 1 + 4 ≤ 113; omega, by show 75 + 33 * i + 11 + 22 ≤ 1005; omega⟩ dX1_init_51 (fun H locs hP hS => ?_)
      have hP := y_made G hP (by omega) (by omega) (by omega)
      refine y_as X hSt hP hS 6 (x := 46) (k := 49 + 5 * i) (ci := 5) (r := (RX5, TX5, 11)) (j := i) (by omega) (y_n_x (by omega)) rfl (by omega) ((y_n_fin (by omega) (by omega) (by omega)).trans (by rw [y_fin_of G hpe.1]; rfl)) rfl (vp_in_nI hlt (by omega)) (nI_clamp (by omega)) dX1_init_54 (fun H locs hP hS => ?_)
      have hP := y_rowX G hP (by omega)
      rw [y_gP_succ] at hP
      refine lv_iinc (v := nI (i + 1)) (lv' := [(2, .int (nI (i + 1))), (0, .ref (m_ad G 45)), (1, .ref (m_ad G 1))]) X.1 X.2.1 dX1_init_55 hl (k := 0) rfl (nI_1 i) (by decide) rfl (fun ls hl => ?_)
      refine lv_goto (tgt := 36) X.1 X.2.1 dX1_init_58 (by decide) ?_
      exact ih (i + 1) (by omega) _ _ _ hP hS hl
  rw [show (fun _ => none : Nat → Option Nat) = y_gP G 0 from (y_gP_zero G).symm] at hP
  have hP : y_P G (y_n G f0 45 (.inr (1, [.ref (m_ad G 1), .ref (m_ad G 46), .ref (m_ad G 47), .ref (m_ad G 48), .int 0, .int 0])) 46 (.inl (G.2.1 6, 10, .inr (.inr (.inr (.inr (y_gP G 0)))))) 47 (.inl (G.2.1 3, 60, .inr (.inr (.inr (.inr (y_gD G 0))))))) 49 H := by rw [y_gD_zero]; rw [y_gP_zero] at hP ⊢; exact hP
  refine lv_istore_n (lv' := [(2, .int (nI 0)), (0, .ref (m_ad G 45)), (1, .ref (m_ad G 1))]) X.1 X.2.1 dX1_init_35 rfl hl (by decide) rfl (fun ls hl => ?_)
  exact loop1 10 0 (by omega) _ _ _ hP hS hl

theorem dX7_init_0 : decode cX7_init 0 = .ok (.aload_n 0, 1) := by decide +kernel
theorem dX7_init_1 : decode cX7_init 1 = .ok (.invokespecial 1, 3) := by decide +kernel
theorem dX7_init_4 : decode cX7_init 4 = .ok (.aload_n 0, 1) := by decide +kernel
theorem dX7_init_5 : decode cX7_init 5 = .ok (.new 7, 3) := by decide +kernel
theorem dX7_init_8 : decode cX7_init 8 = .ok (.dup, 1) := by decide +kernel
theorem dX7_init_9 : decode cX7_init 9 = .ok (.invokespecial 9, 3) := by decide +kernel
theorem dX7_init_12 : decode cX7_init 12 = .ok (.putfield 10, 3) := by decide +kernel
theorem dX7_init_15 : decode cX7_init 15 = .ok (.aload_n 0, 1) := by decide +kernel
theorem dX7_init_16 : decode cX7_init 16 = .ok (.iconst 2, 1) := by decide +kernel
theorem dX7_init_17 : decode cX7_init 17 = .ok (.anewarray 7, 3) := by decide +kernel
theorem dX7_init_20 : decode cX7_init 20 = .ok (.dup, 1) := by decide +kernel
theorem dX7_init_21 : decode cX7_init 21 = .ok (.iconst 0, 1) := by decide +kernel
theorem dX7_init_22 : decode cX7_init 22 = .ok (.new 7, 3) := by decide +kernel
theorem dX7_init_25 : decode cX7_init 25 = .ok (.dup, 1) := by decide +kernel
theorem dX7_init_26 : decode cX7_init 26 = .ok (.invokespecial 9, 3) := by decide +kernel
theorem dX7_init_29 : decode cX7_init 29 = .ok (.aastore, 1) := by decide +kernel
theorem dX7_init_30 : decode cX7_init 30 = .ok (.dup, 1) := by decide +kernel
theorem dX7_init_31 : decode cX7_init 31 = .ok (.iconst 1, 1) := by decide +kernel
theorem dX7_init_32 : decode cX7_init 32 = .ok (.new 7, 3) := by decide +kernel
theorem dX7_init_35 : decode cX7_init 35 = .ok (.dup, 1) := by decide +kernel
theorem dX7_init_36 : decode cX7_init 36 = .ok (.invokespecial 9, 3) := by decide +kernel
theorem dX7_init_39 : decode cX7_init 39 = .ok (.aastore, 1) := by decide +kernel
theorem dX7_init_40 : decode cX7_init 40 = .ok (.putfield 16, 3) := by decide +kernel
theorem dX7_init_43 : decode cX7_init 43 = .ok (.aload_n 0, 1) := by decide +kernel
theorem dX7_init_44 : decode cX7_init 44 = .ok (.iconst 2, 1) := by decide +kernel
theorem dX7_init_45 : decode cX7_init 45 = .ok (.newarray .boolean, 2) := by decide +kernel
theorem dX7_init_47 : decode cX7_init 47 = .ok (.putfield 20, 3) := by decide +kernel
theorem dX7_init_50 : decode cX7_init 50 = .ok (.aload_n 0, 1) := by decide +kernel
theorem dX7_init_51 : decode cX7_init 51 = .ok (.new 24, 3) := by decide +kernel
theorem dX7_init_54 : decode cX7_init 54 = .ok (.dup, 1) := by decide +kernel
theorem dX7_init_55 : decode cX7_init 55 = .ok (.aload_n 0, 1) := by decide +kernel
theorem dX7_init_56 : decode cX7_init 56 = .ok (.getfield 10, 3) := by decide +kernel
theorem dX7_init_59 : decode cX7_init 59 = .ok (.invokespecial 26, 3) := by decide +kernel
theorem dX7_init_62 : decode cX7_init 62 = .ok (.putfield 29, 3) := by decide +kernel
theorem dX7_init_65 : decode cX7_init 65 = .ok (.aload_n 0, 1) := by decide +kernel
theorem dX7_init_66 : decode cX7_init 66 = .ok (.new 33, 3) := by decide +kernel
theorem dX7_init_69 : decode cX7_init 69 = .ok (.dup, 1) := by decide +kernel
theorem dX7_init_70 : decode cX7_init 70 = .ok (.invokespecial 35, 3) := by decide +kernel
theorem dX7_init_73 : decode cX7_init 73 = .ok (.putfield 36, 3) := by decide +kernel
theorem dX7_init_76 : decode cX7_init 76 = .ok (.aload_n 0, 1) := by decide +kernel
theorem dX7_init_77 : decode cX7_init 77 = .ok (.new 40, 3) := by decide +kernel
theorem dX7_init_80 : decode cX7_init 80 = .ok (.dup, 1) := by decide +kernel
theorem dX7_init_81 : decode cX7_init 81 = .ok (.invokespecial 42, 3) := by decide +kernel
theorem dX7_init_84 : decode cX7_init 84 = .ok (.putfield 43, 3) := by decide +kernel
theorem dX7_init_87 : decode cX7_init 87 = .ok (.aload_n 0, 1) := by decide +kernel
theorem dX7_init_88 : decode cX7_init 88 = .ok (.bipush 32, 2) := by decide +kernel
theorem dX7_init_90 : decode cX7_init 90 = .ok (.newarray .long, 2) := by decide +kernel
theorem dX7_init_92 : decode cX7_init 92 = .ok (.putfield 47, 3) := by decide +kernel
theorem dX7_init_95 : decode cX7_init 95 = .ok (.aload_n 0, 1) := by decide +kernel
theorem dX7_init_96 : decode cX7_init 96 = .ok (.bipush 32, 2) := by decide +kernel
theorem dX7_init_98 : decode cX7_init 98 = .ok (.newarray .long, 2) := by decide +kernel
theorem dX7_init_100 : decode cX7_init 100 = .ok (.putfield 51, 3) := by decide +kernel
theorem dX7_init_103 : decode cX7_init 103 = .ok (.aload_n 0, 1) := by decide +kernel
theorem dX7_init_104 : decode cX7_init 104 = .ok (.lconst 0, 1) := by decide +kernel
theorem dX7_init_105 : decode cX7_init 105 = .ok (.putfield 54, 3) := by decide +kernel
theorem dX7_init_108 : decode cX7_init 108 = .ok (.aload_n 0, 1) := by decide +kernel
theorem dX7_init_109 : decode cX7_init 109 = .ok (.lconst 1, 1) := by decide +kernel
theorem dX7_init_110 : decode cX7_init 110 = .ok (.putfield 58, 3) := by decide +kernel
theorem dX7_init_113 : decode cX7_init 113 = .ok (.return_, 1) := by decide +kernel
set_option maxHeartbeats 4000000 in
set_option maxRecDepth 100000 in
theorem c_X7_init (l : Launch) (G : m_G) (f0 : Nat → va_E) (hf0 : f0 0 = .inr (7, [.null, .null, .null, .null, .null, .null, .null, .null, .long 0, .long 0])) : Met l yX7_init (m_U yX7_init cX7_init 1 none) (y_R 3 82 171 3823) (y_Pc G [.ref (m_ad G 0)] f0 (1)) (y_Qv G (y_m G f0 0) (172)) 171 3823 (m_A G) := by
  refine y_i0 (nL := 1) RX7 rfl rfl (by decide) (Nat.le_of_ble_eq_true rfl) ?_
  intro p e s m args below meth c X hin hr hlk hSt hAo hP hS ls hl
  have hl : lv_has ls 1 [(0, .ref (m_ad G 0))] := hl
  have hP := y_start G (x := 15) (x2 := 0) (g := .inr (99, [])) (g2 := .inr (99, [])) hP hf0
  refine lv_aload_n X.1 X.2.1 dX7_init_0 rfl (lv_at hl 0 rfl) ?_
  refine W.objInit X.1 X.2.1 X.2.2.2.1 (X.2.2.2.2 _ k_m_X7_1) (X.2.2.2.2 _ k_i_objectInit) (X.2.2.2.2 _ k_c_objectInit) rfl (by rw [X.2.2.1]; exact hl.1) rfl dX7_init_1 (Nat.le_of_ble_eq_true rfl) (Nat.le_of_ble_eq_true rfl) ?_
  refine W.eq (g2 := F0 m 4 ls []) rfl ?_
  refine lv_aload_n X.1 X.2.1 dX7_init_4 rfl (lv_at hl 0 rfl) ?_
  refine y_nw X hSt hP hS (ci := 3) (C := RX3) (T := TX3) (N := 8) (fs := [.int 0, .int 0, .int 0, .int 0, .int 0, .null, .null, .null]) inlX3 tyX3 tyX3_ok k_x_X7_7 k_w_X3 k_n_X3 rfl (y_df3) (Nat.le_of_ble_eq_true rfl) (Nat.le_of_ble_eq_true rfl) dX7_init_5 (fun H hP hS => ?_)
  refine lv_dup X.1 X.2.1 dX7_init_8 rfl ?_
  refine y_ci (q := 0) (As := []) (rest := [.ref (m_ad G 1), .ref (m_ad G 0)]) (mc := 13) (ms := 784) X hSt hAo hP hS hl.1 (c_X3_init l G 1 _ m_kept_0 (va_up_self _ _ _)) k_c_yX3_init hSt.2.2.2.1.1 k_i_yX3_init k_n_X3 rfl (by decide +kernel) rfl rfl ⟨Nat.le_of_ble_eq_true rfl, Nat.le_of_ble_eq_true rfl⟩ (Nat.le_of_ble_eq_true rfl) ⟨Nat.le_of_ble_eq_true rfl, Nat.le_of_ble_eq_true rfl⟩ dX7_init_9 (fun H locs hP hS => ?_)
  have hP := y_made G hP (by omega) (by omega) (by omega)
  have hP : y_P G (y_n G f0 0 (.inr (7, [.null, .null, .null, .null, .null, .null, .null, .null, .long 0, .long 0])) 15 (.inr (99, [])) 0 (.inr (99, []))) (15) H := hP
  refine y_pf (v := .ref (m_ad G 1)) X hSt hP hS (ci := 7) inlX7 tyX7 tyX7_ok nmX7 rfl (k := 0) (by omega) (fs := [.null, .null, .null, .null, .null, .null, .null, .null, .long 0, .long 0]) y_n_own 0 (by decide) hin rfl (tyX7_ok 0 (by decide)) rfl rfl (Nat.le_of_ble_eq_true rfl) k_f_X7_10 dX7_init_12 (fun H locs hP hS => ?_)
  have hP := y_own G hP
  have hP : y_P G (y_n G f0 0 (.inr (7, [.ref (m_ad G 1), .null, .null, .null, .null, .null, .null, .null, .long 0, .long 0])) 15 (.inr (99, [])) 0 (.inr (99, []))) (15) H := hP
  refine lv_aload_n X.1 X.2.1 dX7_init_15 rfl (lv_at hl 0 rfl) ?_
  refine lv_iconst (v := 2) X.1 X.2.1 dX7_init_16 (by decide) ?_
  refine y_nq X hSt hP hS hAo.2.1 4 k_x_X7_7 (cA := G.2.1 4) rfl (N' := 2) (by decide) (by decide +kernel) (Nat.le_of_ble_eq_true rfl) (Nat.le_of_ble_eq_true rfl) (Nat.le_of_ble_eq_true rfl) dX7_init_17 (fun H hP hS => ?_)
  have hP := y_oneX G hP (by omega)
  have hP : y_P G (y_n G f0 0 (.inr (7, [.ref (m_ad G 1), .null, .null, .null, .null, .null, .null, .null, .long 0, .long 0])) 15 (.inl (G.2.1 4, 2, .inr (.inr (.inr (.inr (fun _ => none)))))) 0 (.inr (99, []))) (16) H := hP
  refine lv_dup X.1 X.2.1 dX7_init_20 rfl ?_
  refine lv_iconst (v := 0) X.1 X.2.1 dX7_init_21 (by decide) ?_
  refine y_nw X hSt hP hS (ci := 3) (C := RX3) (T := TX3) (N := 8) (fs := [.int 0, .int 0, .int 0, .int 0, .int 0, .null, .null, .null]) inlX3 tyX3 tyX3_ok k_x_X7_7 k_w_X3 k_n_X3 rfl (y_df3) (Nat.le_of_ble_eq_true rfl) (Nat.le_of_ble_eq_true rfl) dX7_init_22 (fun H hP hS => ?_)
  refine lv_dup X.1 X.2.1 dX7_init_25 rfl ?_
  refine y_ci (q := 0) (As := []) (rest := [.ref (m_ad G 16), .int 0, .ref (m_ad G 15), .ref (m_ad G 15), .ref (m_ad G 0)]) (mc := 13) (ms := 784) X hSt hAo hP hS hl.1 (c_X3_init l G 16 _ (m_kept_all 0 (by decide)) (va_up_self _ _ _)) k_c_yX3_init hSt.2.2.2.1.1 k_i_yX3_init k_n_X3 rfl (by decide +kernel) rfl rfl ⟨Nat.le_of_ble_eq_true rfl, Nat.le_of_ble_eq_true rfl⟩ (Nat.le_of_ble_eq_true rfl) ⟨Nat.le_of_ble_eq_true rfl, Nat.le_of_ble_eq_true rfl⟩ dX7_init_26 (fun H locs hP hS => ?_)
  have hP := y_made G hP (by omega) (by omega) (by omega)
  have hP : y_P G (y_n G f0 0 (.inr (7, [.ref (m_ad G 1), .null, .null, .null, .null, .null, .null, .null, .long 0, .long 0])) 15 (.inl (G.2.1 4, 2, .inr (.inr (.inr (.inr (fun _ => none)))))) 0 (.inr (99, []))) (30) H := hP
  refine y_as X hSt hP hS 4 (x := 15) (k := 16) (ci := 3) (r := (RX3, TX3, 8)) (j := 0) (by omega) (y_n_x (by omega)) rfl (by omega) ((y_n_fin (by omega) (by omega) (by omega)).trans (by rw [y_fin_of G (by decide +kernel : m_lay 16 = (13, 0))]; rfl)) rfl (by decide +kernel) (by decide +kernel) dX7_init_29 (fun H locs hP hS => ?_)
  have hP := y_rowX G hP (by omega)
  have hP : y_P G (y_n G f0 0 (.inr (7, [.ref (m_ad G 1), .null, .null, .null, .null, .null, .null, .null, .long 0, .long 0])) 15 (.inl (G.2.1 4, 2, .inr (.inr (.inr (.inr (va_up (fun _ => none) 0 (some (m_ad G 16)))))))) 0 (.inr (99, []))) (30) H := hP
  refine lv_dup X.1 X.2.1 dX7_init_30 rfl ?_
  refine lv_iconst (v := 1) X.1 X.2.1 dX7_init_31 (by decide) ?_
  refine y_nw X hSt hP hS (ci := 3) (C := RX3) (T := TX3) (N := 8) (fs := [.int 0, .int 0, .int 0, .int 0, .int 0, .null, .null, .null]) inlX3 tyX3 tyX3_ok k_x_X7_7 k_w_X3 k_n_X3 rfl (y_df3) (Nat.le_of_ble_eq_true rfl) (Nat.le_of_ble_eq_true rfl) dX7_init_32 (fun H hP hS => ?_)
  refine lv_dup X.1 X.2.1 dX7_init_35 rfl ?_
  refine y_ci (q := 0) (As := []) (rest := [.ref (m_ad G 30), .int 1, .ref (m_ad G 15), .ref (m_ad G 15), .ref (m_ad G 0)]) (mc := 13) (ms := 784) X hSt hAo hP hS hl.1 (c_X3_init l G 30 _ (m_kept_all 1 (by decide)) (va_up_self _ _ _)) k_c_yX3_init hSt.2.2.2.1.1 k_i_yX3_init k_n_X3 rfl (by decide +kernel) rfl rfl ⟨Nat.le_of_ble_eq_true rfl, Nat.le_of_ble_eq_true rfl⟩ (Nat.le_of_ble_eq_true rfl) ⟨Nat.le_of_ble_eq_true rfl, Nat.le_of_ble_eq_true rfl⟩ dX7_init_36 (fun H locs hP hS => ?_)
  have hP := y_made G hP (by omega) (by omega) (by omega)
  have hP : y_P G (y_n G f0 0 (.inr (7, [.ref (m_ad G 1), .null, .null, .null, .null, .null, .null, .null, .long 0, .long 0])) 15 (.inl (G.2.1 4, 2, .inr (.inr (.inr (.inr (va_up (fun _ => none) 0 (some (m_ad G 16)))))))) 0 (.inr (99, []))) (44) H := hP
  refine y_as X hSt hP hS 4 (x := 15) (k := 30) (ci := 3) (r := (RX3, TX3, 8)) (j := 1) (by omega) (y_n_x (by omega)) rfl (by omega) ((y_n_fin (by omega) (by omega) (by omega)).trans (by rw [y_fin_of G (by decide +kernel : m_lay 30 = (13, 0))]; rfl)) rfl (by decide +kernel) (by decide +kernel) dX7_init_39 (fun H locs hP hS => ?_)
  have hP := y_rowX G hP (by omega)
  have hP : y_P G (y_n G f0 0 (.inr (7, [.ref (m_ad G 1), .null, .null, .null, .null, .null, .null, .null, .long 0, .long 0])) 15 (.inl (G.2.1 4, 2, .inr (.inr (.inr (.inr (va_up (va_up (fun _ => none) 0 (some (m_ad G 16))) 1 (some (m_ad G 30)))))))) 0 (.inr (99, []))) (44) H := hP
  refine y_pf (v := .ref (m_ad G 15)) X hSt hP hS (ci := 7) inlX7 tyX7 tyX7_ok nmX7 rfl (k := 0) (by omega) (fs := [.ref (m_ad G 1), .null, .null, .null, .null, .null, .null, .null, .long 0, .long 0]) y_n_own 1 (by decide) hin rfl (tyX7_ok 1 (by decide)) rfl rfl (Nat.le_of_ble_eq_true rfl) k_f_X7_16 dX7_init_40 (fun H locs hP hS => ?_)
  have hP := y_own G hP
  have hP : y_P G (y_n G f0 0 (.inr (7, [.ref (m_ad G 1), .ref (m_ad G 15), .null, .null, .null, .null, .null, .null, .long 0, .long 0])) 15 (.inl (G.2.1 4, 2, .inr (.inr (.inr (.inr (va_up (va_up (fun _ => none) 0 (some (m_ad G 16))) 1 (some (m_ad G 30)))))))) 0 (.inr (99, []))) (44) H := hP
  refine lv_aload_n X.1 X.2.1 dX7_init_43 rfl (lv_at hl 0 rfl) ?_
  refine lv_iconst (v := 2) X.1 X.2.1 dX7_init_44 (by decide) ?_
  refine y_na (atype := .boolean) X hSt hP hS 2 (ty := .boolean) rfl k_a_boolean (cA := G.2.1 2) rfl (fun cB h1 h2 => Option.some.inj (h2.symm.trans h1)) (N' := 2) (a0 := (2, .inl (fun _ => 0))) rfl (by decide) (by decide +kernel) (Nat.le_of_ble_eq_true rfl) (Nat.le_of_ble_eq_true rfl) (Nat.le_of_ble_eq_true rfl) dX7_init_45 (fun H hP hS => ?_)
  have hP := y_one G hP (by omega) (by omega) (by omega) (by rw [y_fin_of G (by decide +kernel : m_lay 44 = (2, 2))]; rfl)
  have hP : y_P G (y_n G f0 0 (.inr (7, [.ref (m_ad G 1), .ref (m_ad G 15), .null, .null, .null, .null, .null, .null, .long 0, .long 0])) 15 (.inl (G.2.1 4, 2, .inr (.inr (.inr (.inr (va_up (va_up (fun _ => none) 0 (some (m_ad G 16))) 1 (some (m_ad G 30)))))))) 0 (.inr (99, []))) (45) H := hP
  refine y_pf (v := .ref (m_ad G 44)) X hSt hP hS (ci := 7) inlX7 tyX7 tyX7_ok nmX7 rfl (k := 0) (by omega) (fs := [.ref (m_ad G 1), .ref (m_ad G 15), .null, .null, .null, .null, .null, .null, .long 0, .long 0]) y_n_own 2 (by decide) hin rfl (tyX7_ok 2 (by decide)) rfl rfl (Nat.le_of_ble_eq_true rfl) k_f_X7_20 dX7_init_47 (fun H locs hP hS => ?_)
  have hP := y_own G hP
  have hP : y_P G (y_n G f0 0 (.inr (7, [.ref (m_ad G 1), .ref (m_ad G 15), .ref (m_ad G 44), .null, .null, .null, .null, .null, .long 0, .long 0])) 15 (.inl (G.2.1 4, 2, .inr (.inr (.inr (.inr (va_up (va_up (fun _ => none) 0 (some (m_ad G 16))) 1 (some (m_ad G 30)))))))) 0 (.inr (99, []))) (45) H := hP
  refine lv_aload_n X.1 X.2.1 dX7_init_50 rfl (lv_at hl 0 rfl) ?_
  refine y_nw X hSt hP hS (ci := 1) (C := RX1) (T := TX1) (N := 6) (fs := [.null, .null, .null, .null, .int 0, .int 0]) inlX1 tyX1 tyX1_ok k_x_X7_24 k_w_X1 k_n_X1 rfl (y_df1) (Nat.le_of_ble_eq_true rfl) (Nat.le_of_ble_eq_true rfl) dX7_init_51 (fun H hP hS => ?_)
  refine lv_dup X.1 X.2.1 dX7_init_54 rfl ?_
  refine lv_aload_n X.1 X.2.1 dX7_init_55 rfl (lv_at hl 0 rfl) ?_
  refine y_gf (v := .ref (m_ad G 1)) X hSt hP (ci := 7) inlX7 rfl (k := 0) (by omega) (fs := [.ref (m_ad G 1), .ref (m_ad G 15), .ref (m_ad G 44), .null, .null, .null, .null, .null, .long 0, .long 0]) (by rw [va_up_ne _ _ (by omega)]; exact y_n_own) 0 (by decide) rfl k_f_X7_10 dX7_init_56 ?_
  refine y_cj (q := 1) (As := [.ref (m_ad G 1)]) (rest := [.ref (m_ad G 45), .ref (m_ad G 0)]) (mc := 113) (ms := 1005) X hSt hAo hP hS hl.1 (c_X1_init l G _ (va_up_self _ _ _)) k_c_yX1_init k_m_X7_26 k_i_yX1_init k_n_X1 rfl (by decide +kernel) rfl rfl ⟨Nat.le_of_ble_eq_true rfl, Nat.le_of_ble_eq_true rfl⟩ (Nat.le_of_ble_eq_true rfl) ⟨Nat.le_of_ble_eq_true rfl, Nat.le_of_ble_eq_true rfl⟩ dX7_init_59 (fun H locs hP hS => ?_)
  have hP := y_made G hP (by omega) (by omega) (by omega)
  have hP : y_P G (y_n G f0 0 (.inr (7, [.ref (m_ad G 1), .ref (m_ad G 15), .ref (m_ad G 44), .null, .null, .null, .null, .null, .long 0, .long 0])) 15 (.inl (G.2.1 4, 2, .inr (.inr (.inr (.inr (va_up (va_up (fun _ => none) 0 (some (m_ad G 16))) 1 (some (m_ad G 30)))))))) 0 (.inr (99, []))) (159) H := hP
  refine y_pf (v := .ref (m_ad G 45)) X hSt hP hS (ci := 7) inlX7 tyX7 tyX7_ok nmX7 rfl (k := 0) (by omega) (fs := [.ref (m_ad G 1), .ref (m_ad G 15), .ref (m_ad G 44), .null, .null, .null, .null, .null, .long 0, .long 0]) y_n_own 3 (by decide) hin rfl (tyX7_ok 3 (by decide)) rfl rfl (Nat.le_of_ble_eq_true rfl) k_f_X7_29 dX7_init_62 (fun H locs hP hS => ?_)
  have hP := y_own G hP
  have hP : y_P G (y_n G f0 0 (.inr (7, [.ref (m_ad G 1), .ref (m_ad G 15), .ref (m_ad G 44), .ref (m_ad G 45), .null, .null, .null, .null, .long 0, .long 0])) 15 (.inl (G.2.1 4, 2, .inr (.inr (.inr (.inr (va_up (va_up (fun _ => none) 0 (some (m_ad G 16))) 1 (some (m_ad G 30)))))))) 0 (.inr (99, []))) (159) H := hP
  refine lv_aload_n X.1 X.2.1 dX7_init_65 rfl (lv_at hl 0 rfl) ?_
  refine y_nw X hSt hP hS (ci := 6) (C := RX6) (T := TX6) (N := 11) (fs := [.int 0, .null, .null, .null, .null, .null, .null, .null, .null, .long 0, .long 0]) inlX6 tyX6 tyX6_ok k_x_X7_33 k_w_X6 k_n_X6 rfl (y_df6) (Nat.le_of_ble_eq_true rfl) (Nat.le_of_ble_eq_true rfl) dX7_init_66 (fun H hP hS => ?_)
  refine lv_dup X.1 X.2.1 dX7_init_69 rfl ?_
  refine y_ci (q := 0) (As := []) (rest := [.ref (m_ad G 159), .ref (m_ad G 0)]) (mc := 8) (ms := 48) X hSt hAo hP hS hl.1 (c_X6_init l G _ (va_up_self _ _ _)) k_c_yX6_init hSt.2.2.2.1.2.2.2.2.1 k_i_yX6_init k_n_X6 rfl (by decide +kernel) rfl rfl ⟨Nat.le_of_ble_eq_true rfl, Nat.le_of_ble_eq_true rfl⟩ (Nat.le_of_ble_eq_true rfl) ⟨Nat.le_of_ble_eq_true rfl, Nat.le_of_ble_eq_true rfl⟩ dX7_init_70 (fun H locs hP hS => ?_)
  have hP := y_made G hP (by omega) (by omega) (by omega)
  have hP : y_P G (y_n G f0 0 (.inr (7, [.ref (m_ad G 1), .ref (m_ad G 15), .ref (m_ad G 44), .ref (m_ad G 45), .null, .null, .null, .null, .long 0, .long 0])) 15 (.inl (G.2.1 4, 2, .inr (.inr (.inr (.inr (va_up (va_up (fun _ => none) 0 (some (m_ad G 16))) 1 (some (m_ad G 30)))))))) 0 (.inr (99, []))) (168) H := hP
  refine y_pf (v := .ref (m_ad G 159)) X hSt hP hS (ci := 7) inlX7 tyX7 tyX7_ok nmX7 rfl (k := 0) (by omega) (fs := [.ref (m_ad G 1), .ref (m_ad G 15), .ref (m_ad G 44), .ref (m_ad G 45), .null, .null, .null, .null, .long 0, .long 0]) y_n_own 4 (by decide) hin rfl (tyX7_ok 4 (by decide)) rfl rfl (Nat.le_of_ble_eq_true rfl) k_f_X7_36 dX7_init_73 (fun H locs hP hS => ?_)
  have hP := y_own G hP
  have hP : y_P G (y_n G f0 0 (.inr (7, [.ref (m_ad G 1), .ref (m_ad G 15), .ref (m_ad G 44), .ref (m_ad G 45), .ref (m_ad G 159), .null, .null, .null, .long 0, .long 0])) 15 (.inl (G.2.1 4, 2, .inr (.inr (.inr (.inr (va_up (va_up (fun _ => none) 0 (some (m_ad G 16))) 1 (some (m_ad G 30)))))))) 0 (.inr (99, []))) (168) H := hP
  refine lv_aload_n X.1 X.2.1 dX7_init_76 rfl (lv_at hl 0 rfl) ?_
  refine y_nw X hSt hP hS (ci := 2) (C := RX2) (T := TX2) (N := 9) (fs := [.null, .int 0, .int 0, .int 0, .int 0, .int 0, .int 0, .int 0, .int 0]) inlX2 tyX2 tyX2_ok k_x_X7_40 k_w_X2 k_n_X2 rfl (y_df2) (Nat.le_of_ble_eq_true rfl) (Nat.le_of_ble_eq_true rfl) dX7_init_77 (fun H hP hS => ?_)
  refine lv_dup X.1 X.2.1 dX7_init_80 rfl ?_
  refine y_ci (q := 0) (As := []) (rest := [.ref (m_ad G 168), .ref (m_ad G 0)]) (mc := 1) (ms := 300) X hSt hAo hP hS hl.1 (c_X2_init l G _ (va_up_self _ _ _)) k_c_yX2_init hSt.2.2.2.1.2.2.2.2.2.1 k_i_yX2_init k_n_X2 rfl (by decide +kernel) rfl rfl ⟨Nat.le_of_ble_eq_true rfl, Nat.le_of_ble_eq_true rfl⟩ (Nat.le_of_ble_eq_true rfl) ⟨Nat.le_of_ble_eq_true rfl, Nat.le_of_ble_eq_true rfl⟩ dX7_init_81 (fun H locs hP hS => ?_)
  have hP := y_made G hP (by omega) (by omega) (by omega)
  have hP : y_P G (y_n G f0 0 (.inr (7, [.ref (m_ad G 1), .ref (m_ad G 15), .ref (m_ad G 44), .ref (m_ad G 45), .ref (m_ad G 159), .null, .null, .null, .long 0, .long 0])) 15 (.inl (G.2.1 4, 2, .inr (.inr (.inr (.inr (va_up (va_up (fun _ => none) 0 (some (m_ad G 16))) 1 (some (m_ad G 30)))))))) 0 (.inr (99, []))) (170) H := hP
  refine y_pf (v := .ref (m_ad G 168)) X hSt hP hS (ci := 7) inlX7 tyX7 tyX7_ok nmX7 rfl (k := 0) (by omega) (fs := [.ref (m_ad G 1), .ref (m_ad G 15), .ref (m_ad G 44), .ref (m_ad G 45), .ref (m_ad G 159), .null, .null, .null, .long 0, .long 0]) y_n_own 5 (by decide) hin rfl (tyX7_ok 5 (by decide)) rfl rfl (Nat.le_of_ble_eq_true rfl) k_f_X7_43 dX7_init_84 (fun H locs hP hS => ?_)
  have hP := y_own G hP
  have hP : y_P G (y_n G f0 0 (.inr (7, [.ref (m_ad G 1), .ref (m_ad G 15), .ref (m_ad G 44), .ref (m_ad G 45), .ref (m_ad G 159), .ref (m_ad G 168), .null, .null, .long 0, .long 0])) 15 (.inl (G.2.1 4, 2, .inr (.inr (.inr (.inr (va_up (va_up (fun _ => none) 0 (some (m_ad G 16))) 1 (some (m_ad G 30)))))))) 0 (.inr (99, []))) (170) H := hP
  refine lv_aload_n X.1 X.2.1 dX7_init_87 rfl (lv_at hl 0 rfl) ?_
  refine lv_bipush (v := 32) X.1 X.2.1 dX7_init_88 (by decide) ?_
  refine y_na (atype := .long) X hSt hP hS 1 (ty := .long) rfl k_a_long (cA := G.2.1 1) rfl (fun cB h1 h2 => Option.some.inj (h2.symm.trans h1)) (N' := 32) (a0 := (32, .inr (.inl (fun _ => 0)))) rfl (by decide) (by decide +kernel) (Nat.le_of_ble_eq_true rfl) (Nat.le_of_ble_eq_true rfl) (Nat.le_of_ble_eq_true rfl) dX7_init_90 (fun H hP hS => ?_)
  have hP := y_one G hP (by omega) (by omega) (by omega) (by rw [y_fin_of G (by decide +kernel : m_lay 170 = (1, 32))]; rfl)
  have hP : y_P G (y_n G f0 0 (.inr (7, [.ref (m_ad G 1), .ref (m_ad G 15), .ref (m_ad G 44), .ref (m_ad G 45), .ref (m_ad G 159), .ref (m_ad G 168), .null, .null, .long 0, .long 0])) 15 (.inl (G.2.1 4, 2, .inr (.inr (.inr (.inr (va_up (va_up (fun _ => none) 0 (some (m_ad G 16))) 1 (some (m_ad G 30)))))))) 0 (.inr (99, []))) (171) H := hP
  refine y_pf (v := .ref (m_ad G 170)) X hSt hP hS (ci := 7) inlX7 tyX7 tyX7_ok nmX7 rfl (k := 0) (by omega) (fs := [.ref (m_ad G 1), .ref (m_ad G 15), .ref (m_ad G 44), .ref (m_ad G 45), .ref (m_ad G 159), .ref (m_ad G 168), .null, .null, .long 0, .long 0]) y_n_own 6 (by decide) hin rfl (tyX7_ok 6 (by decide)) rfl rfl (Nat.le_of_ble_eq_true rfl) k_f_X7_47 dX7_init_92 (fun H locs hP hS => ?_)
  have hP := y_own G hP
  have hP : y_P G (y_n G f0 0 (.inr (7, [.ref (m_ad G 1), .ref (m_ad G 15), .ref (m_ad G 44), .ref (m_ad G 45), .ref (m_ad G 159), .ref (m_ad G 168), .ref (m_ad G 170), .null, .long 0, .long 0])) 15 (.inl (G.2.1 4, 2, .inr (.inr (.inr (.inr (va_up (va_up (fun _ => none) 0 (some (m_ad G 16))) 1 (some (m_ad G 30)))))))) 0 (.inr (99, []))) (171) H := hP
  refine lv_aload_n X.1 X.2.1 dX7_init_95 rfl (lv_at hl 0 rfl) ?_
  refine lv_bipush (v := 32) X.1 X.2.1 dX7_init_96 (by decide) ?_
  refine y_na (atype := .long) X hSt hP hS 1 (ty := .long) rfl k_a_long (cA := G.2.1 1) rfl (fun cB h1 h2 => Option.some.inj (h2.symm.trans h1)) (N' := 32) (a0 := (32, .inr (.inl (fun _ => 0)))) rfl (by decide) (by decide +kernel) (Nat.le_of_ble_eq_true rfl) (Nat.le_of_ble_eq_true rfl) (Nat.le_of_ble_eq_true rfl) dX7_init_98 (fun H hP hS => ?_)
  have hP := y_one G hP (by omega) (by omega) (by omega) (by rw [y_fin_of G (by decide +kernel : m_lay 171 = (1, 32))]; rfl)
  have hP : y_P G (y_n G f0 0 (.inr (7, [.ref (m_ad G 1), .ref (m_ad G 15), .ref (m_ad G 44), .ref (m_ad G 45), .ref (m_ad G 159), .ref (m_ad G 168), .ref (m_ad G 170), .null, .long 0, .long 0])) 15 (.inl (G.2.1 4, 2, .inr (.inr (.inr (.inr (va_up (va_up (fun _ => none) 0 (some (m_ad G 16))) 1 (some (m_ad G 30)))))))) 0 (.inr (99, []))) (172) H := hP
  refine y_pf (v := .ref (m_ad G 171)) X hSt hP hS (ci := 7) inlX7 tyX7 tyX7_ok nmX7 rfl (k := 0) (by omega) (fs := [.ref (m_ad G 1), .ref (m_ad G 15), .ref (m_ad G 44), .ref (m_ad G 45), .ref (m_ad G 159), .ref (m_ad G 168), .ref (m_ad G 170), .null, .long 0, .long 0]) y_n_own 7 (by decide) hin rfl (tyX7_ok 7 (by decide)) rfl rfl (Nat.le_of_ble_eq_true rfl) k_f_X7_51 dX7_init_100 (fun H locs hP hS => ?_)
  have hP := y_own G hP
  have hP : y_P G (y_n G f0 0 (.inr (7, [.ref (m_ad G 1), .ref (m_ad G 15), .ref (m_ad G 44), .ref (m_ad G 45), .ref (m_ad G 159), .ref (m_ad G 168), .ref (m_ad G 170), .ref (m_ad G 171), .long 0, .long 0])) 15 (.inl (G.2.1 4, 2, .inr (.inr (.inr (.inr (va_up (va_up (fun _ => none) 0 (some (m_ad G 16))) 1 (some (m_ad G 30)))))))) 0 (.inr (99, []))) (172) H := hP
  refine lv_aload_n X.1 X.2.1 dX7_init_103 rfl (lv_at hl 0 rfl) ?_
  refine lv_lconst (v := 0) X.1 X.2.1 dX7_init_104 (by decide) ?_
  refine y_pf (v := .long 0) X hSt hP hS (ci := 7) inlX7 tyX7 tyX7_ok nmX7 rfl (k := 0) (by omega) (fs := [.ref (m_ad G 1), .ref (m_ad G 15), .ref (m_ad G 44), .ref (m_ad G 45), .ref (m_ad G 159), .ref (m_ad G 168), .ref (m_ad G 170), .ref (m_ad G 171), .long 0, .long 0]) y_n_own 8 (by decide) hin rfl (tyX7_ok 8 (by decide)) rfl rfl (Nat.le_of_ble_eq_true rfl) k_f_X7_54 dX7_init_105 (fun H locs hP hS => ?_)
  have hP := y_own G hP
  have hP : y_P G (y_n G f0 0 (.inr (7, [.ref (m_ad G 1), .ref (m_ad G 15), .ref (m_ad G 44), .ref (m_ad G 45), .ref (m_ad G 159), .ref (m_ad G 168), .ref (m_ad G 170), .ref (m_ad G 171), .long 0, .long 0])) 15 (.inl (G.2.1 4, 2, .inr (.inr (.inr (.inr (va_up (va_up (fun _ => none) 0 (some (m_ad G 16))) 1 (some (m_ad G 30)))))))) 0 (.inr (99, []))) (172) H := hP
  refine lv_aload_n X.1 X.2.1 dX7_init_108 rfl (lv_at hl 0 rfl) ?_
  refine lv_lconst (v := 1) X.1 X.2.1 dX7_init_109 (by decide) ?_
  refine y_pf (v := .long 1) X hSt hP hS (ci := 7) inlX7 tyX7 tyX7_ok nmX7 rfl (k := 0) (by omega) (fs := [.ref (m_ad G 1), .ref (m_ad G 15), .ref (m_ad G 44), .ref (m_ad G 45), .ref (m_ad G 159), .ref (m_ad G 168), .ref (m_ad G 170), .ref (m_ad G 171), .long 0, .long 0]) y_n_own 9 (by decide) hin rfl (tyX7_ok 9 (by decide)) rfl rfl (Nat.le_of_ble_eq_true rfl) k_f_X7_58 dX7_init_110 (fun H locs hP hS => ?_)
  have hP := y_own G hP
  have hP : y_P G (y_n G f0 0 (.inr (7, [.ref (m_ad G 1), .ref (m_ad G 15), .ref (m_ad G 44), .ref (m_ad G 45), .ref (m_ad G 159), .ref (m_ad G 168), .ref (m_ad G 170), .ref (m_ad G 171), .long 0, .long 1])) 15 (.inl (G.2.1 4, 2, .inr (.inr (.inr (.inr (va_up (va_up (fun _ => none) 0 (some (m_ad G 16))) 1 (some (m_ad G 30)))))))) 0 (.inr (99, []))) (172) H := hP
  refine W.widen (k := 171) (n := 3823) (Nat.le_of_ble_eq_true rfl) (Nat.le_of_ble_eq_true rfl) ?_
  exact y_rv X hr hlk (y_done1 G hP (by rw [y_fin_of G (by decide +kernel : m_lay 0 = (17, 0))]; exact y_sim_rf) (by rw [y_fin_of G (by decide +kernel : m_lay 15 = (4, 2))]; exact y_sim_q (fun j hj => by
      match j, hj with
      | 0, _ => rfl
      | 1, _ => rfl))) hS dX7_init_113

