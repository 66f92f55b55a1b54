/-! CONSTRUCTORS: the heap grows by one cell after the other; a cell's name is its place since the law's start -/
abbrev yC : Type := (Nat × List (Option zV)) ⊕ ((Nat × List Int32) ⊕ (Nat × List (Option Nat)))
def yF (X : zX) : Option zV → Value
  | none => .null
  | some v => ztr X v
def yE (X : zX) : yC → va_E
  | .inl (ci, fs) => .inr (ci, fs.map (yF X))
  | .inr (.inl (kd, vs)) => .inl (X.2.2.1 kd, vs.length, .inl (fun j => vs.getD j 0))
  | .inr (.inr (kd, rs)) => .inl (X.2.2.1 kd, rs.length, .inr (.inr (.inr (.inr (fun j => (rs.getD j none).map (fun q => X.2.2.2.1 + q))))))
def yWs (X : zX) (ws : List yC) : va_W := ws.mapIdx (fun k c => (X.2.2.2.1 + k, yE X c))
theorem yWs_at {X : zX} {ws : List yC} {k : Nat} {c : yC} (h : ws[k]? = some c) : (yWs X ws)[k]? = some (X.2.2.2.1 + k, yE X c) := by
  unfold yWs
  rw [List.getElem?_mapIdx, h]
  rfl
theorem yWs_in {X : zX} {ws : List yC} {k : Nat} {q : Nat × va_E} (h : (yWs X ws)[k]? = some q) : ∃ c, ws[k]? = some c ∧ q = (X.2.2.2.1 + k, yE X c) := by
  unfold yWs at h
  rw [List.getElem?_mapIdx] at h
  cases hc : ws[k]? with
  | none =>
    rw [hc] at h
    cases h
  | some c =>
    rw [hc] at h
    cases h
    exact ⟨c, rfl, rfl⟩
theorem yWs_set {X : zX} {ws : List yC} {k : Nat} {c : yC} : (yWs X ws).set k (X.2.2.2.1 + k, yE X c) = yWs X (ws.set k c) := by
  apply List.ext_getElem?
  intro j
  unfold yWs
  rw [List.getElem?_mapIdx, List.getElem?_set, List.getElem?_set, List.length_mapIdx, List.getElem?_mapIdx]
  by_cases hj : k = j
  · subst hj
    rw [if_pos rfl, if_pos rfl]
    split <;> rfl
  · rw [if_neg hj, if_neg hj]
theorem yD {X : zX} {ws : List yC} : va_D (zA X) (yWs X ws) := by
  refine ⟨fun i j p q hi hj e => ?_, fun k q hk => ?_⟩
  · obtain ⟨c1, -, rfl⟩ := yWs_in hi
    obtain ⟨c2, -, rfl⟩ := yWs_in hj
    have e : X.2.2.2.1 + i = X.2.2.2.1 + j := e
    omega
  · obtain ⟨c1, -, rfl⟩ := yWs_in hk
    show X.2.2.2.1 ≤ X.2.2.2.1 + k
    omega
def yRep (X : zX) (ws : List yC) (U : State) (H : Heap) : Prop := va_K X.2.1 zcl (ztys X) U ∧ va_P X.2.1 zcl (yWs X ws) H ∧ H.size = X.2.2.2.1 + ws.length
theorem yRmov {X : zX} {ws : List yC} {u U : State} {H : Heap} (hv : u.vm.Alike U.vm) (h : yRep X ws u H) : yRep X ws U H := ⟨va_K.moved hv h.1, h.2⟩
theorem yMore {X : zX} {ws cs : List yC} {U : State} {H H1 : Heap} (hR : yRep X ws U H) (o1 : ∀ q, q < H.size → H1[q]? = H[q]?) (z1 : H1.size = H.size + cs.length) (hc : ∀ (k : Nat) (c : yC), cs[k]? = some c → va_at X.2.1 zcl (H.size + k, yE X c) H1) : yRep X (ws ++ cs) U H1 := by
  obtain ⟨hK, hP, hz⟩ := hR
  refine ⟨hK, fun k q hq => ?_, by rw [z1, hz, List.length_append]; omega⟩
  obtain ⟨c, h1, rfl⟩ := yWs_in hq
  rcases Nat.lt_or_ge k ws.length with w | w
  · rw [List.getElem?_append_left w] at h1
    have h2 := hP k _ (yWs_at h1)
    exact h2.kept (o1 _ (by rw [hz]; show X.2.2.2.1 + k < X.2.2.2.1 + ws.length; omega))
  · rw [List.getElem?_append_right w] at h1
    have h2 := hc _ _ h1
    rw [hz, show X.2.2.2.1 + ws.length + (k - ws.length) = X.2.2.2.1 + k by omega] at h2
    exact h2
theorem yOne {X : zX} {ws : List yC} {c : yC} {U : State} {H H1 : Heap} (hR : yRep X ws U H) (o1 : ∀ q, q < H.size → H1[q]? = H[q]?) (z1 : H1.size = H.size + 1) (hc : va_at X.2.1 zcl (H.size, yE X c) H1) : yRep X (ws ++ [c]) U H1 := by
  refine yMore hR o1 z1 (fun k c' h => ?_)
  have hk : k < 1 := (List.getElem?_eq_some_iff.mp h).1
  obtain rfl : k = 0 := by omega
  cases h
  exact hc
theorem ySet {X : zX} {ws : List yC} {c c' : yC} {k : Nat} {U : State} {H H1 : Heap} (hR : yRep X ws U H) (hk : ws[k]? = some c) (z1 : H1.size = H.size) (o1 : ∀ q, q ≠ X.2.2.2.1 + k → H1[q]? = H[q]?) (hc : va_at X.2.1 zcl (X.2.2.2.1 + k, yE X c') H1) : yRep X (ws.set k c') U H1 := by
  obtain ⟨hK, hP, hz⟩ := hR
  refine ⟨hK, ?_, by rw [z1, hz, List.length_set]⟩
  rw [← yWs_set]
  exact hP.set yD (yWs_at hk) hc o1
theorem ySg {X : zX} {H0 H H1 : Heap} {locs : List Loc} {n : Nat} (hS : va_S (zA X) H0 H locs) (z1 : H1.size = H.size + n) (o1 : ∀ q, q < H.size → H1[q]? = H[q]?) : va_S (zA X) H0 H1 locs :=
  ⟨Nat.le_trans hS.1 (by omega), fun x h1 h2 => (o1 x (Nat.lt_of_lt_of_le h1 hS.1)).trans (hS.2.1 x h1 h2), hS.2.2⟩
section YS
variable {X : zX} {p : Program} {l : Launch} {e : Env} {R : Room} {s : State} {m : MethodId} {args : Array Value} {below : List Frame} {meth : Method} {c : Code} {cells slots : Nat} {Q : State → Prop}
variable {own : String} {cc : ByteArray} {H : Heap} {locs : List Loc} {la : Array Slot} {ws : List yC} {pc : Nat} {rest : List Value}
theorem y_newa (hx : p.tables.exec = Jvm.exec) (hb : c.code = cc) {atype : ArrayType} {kd : Nat} {ty : FieldType} {n : Int32} {N : Nat} (harr : (Cond.arrayClass ty).before args s = true) (hty : newarray.typeOf atype = ty) (hkd : (ztys X)[kd]? = some (X.2.2.1 kd, ty)) (hra : va_RA s (X.2.2.1 kd) ty → s.vm.findClass ("[" ++ ty.toString) = some (X.2.2.1 kd)) (hdv : defaultValue ty = .int 0) (hR : yRep X ws s H) (hS : va_S (zA X) s.heap H locs)
    (hn : ¬ n < 0) (hN : n.toNatClampNeg = N) (hby : N * componentBytes ty ≤ 536870912) (hcells : cells + 1 ≤ R.cells) (hslots : slots + N ≤ R.slots) (hdg : decode cc pc = .ok (.newarray atype, 2))
    (kk : ∀ H1 : Heap, yRep X (ws ++ [.inr (.inl (kd, List.replicate N 0))]) s H1 → va_S (zA X) s.heap H1 locs → W p l e R s m args below meth c H1 locs (cells + 1) (slots + N) Q (F0 m (pc + 2) la (.ref (X.2.2.2.1 + ws.length) :: rest))) : W p l e R s m args below meth c H locs cells slots Q (F0 m pc la (.int n :: rest)) := by
  subst hty
  refine va_newaK hx hb harr rfl hdg rfl hn hN hby hcells hslots rfl fun H1 cA e1 z1 o1 hAr hNm => ?_
  have hcA : cA = X.2.2.1 kd := Option.some.inj (hNm.symm.trans (hra (hR.1.2 kd _ hkd).2))
  subst hcA
  have k2 := kk H1 (yOne hR o1 z1 ?_) (ySg hS z1 o1)
  · rw [hR.2.2]
    exact k2
  · show H1[H.size]? = some (vp_cell _ _)
    rw [e1, hdv]
    simp only [vp_cell, List.length_replicate]
    congr 2
    funext j
    rw [List.getD_eq_getElem?_getD, List.getElem?_replicate]
    split <;> rfl
theorem y_new (hx : p.tables.exec = Jvm.exec) (hb : c.code = cc) {C : String} {T : u_T} {N ci index : Nat} {Ts : List Cond} (hts : ∀ w ∈ Ts, w.before args s = true) (hin : ∀ w ∈ u_ws C T N, w ∈ Ts) (ty : Nat → FieldType) (hty : ∀ k, k < N → parseFieldDescriptor (T k).2.2.1 = some (ty k)) (hown : s.vm.findClass own = some m.cls) (hcl : (Cond.classLink own index C).before args s = true) (hinst : (Cond.instantiable C N).before args s = true) (hini : (Cond.initialized C).before args s = true)
    (hR : yRep X ws s H) (hS : va_S (zA X) s.heap H locs) (hc : zcl[ci]? = some (C, T, N)) {fs : List (Option zV)} (hfs : ∀ j, j < N → defaultValue (ty j) = vp_V (fs.map (yF X)) j) (hcells : cells + 1 ≤ R.cells) (hslots : slots + N ≤ R.slots) (hdg : decode cc pc = .ok (.new index, 3))
    (kk : ∀ H1 : Heap, yRep X (ws ++ [.inl (ci, fs)]) s H1 → va_S (zA X) s.heap H1 locs → W p l e R s m args below meth c H1 locs (cells + 1) (slots + N) Q (F0 m (pc + 3) la (.ref (X.2.2.2.1 + ws.length) :: rest))) : W p l e R s m args below meth c H locs cells slots Q (F0 m pc la rest) := by
  have hKn := hR.1.1 ci _ hc
  refine W.newcK hx hb hown hcl hinst hini rfl hdg hcells hslots hKn.2.1 rfl fun H1 kC hkC e1 z1 o1 => ?_
  have k2 := kk H1 (yOne hR o1 z1 ⟨_, hc, (u_born ty hts hin hKn hkC e1 hty).to hfs⟩) (ySg hS z1 o1)
  rw [← hR.2.2] at k2
  exact k2
theorem y_anew (hx : p.tables.exec = Jvm.exec) (hb : c.code = cc) {C : String} {kd index : Nat} {n : Int32} {N : Nat} (hown : s.vm.findClass own = some m.cls) (hcl : (Cond.classLink own index C).before args s = true) (hov : va_AO C s) (hkd : (ztys X)[kd]? = some (X.2.2.1 kd, .object C)) (hR : yRep X ws s H) (hS : va_S (zA X) s.heap H locs)
    (hn : ¬ n < 0) (hN : n.toNatClampNeg = N) (hby : N * 4 ≤ 536870912) (hcells : cells + 1 ≤ R.cells) (hslots : slots + N ≤ R.slots) (hdg : decode cc pc = .ok (.anewarray index, 3))
    (kk : ∀ H1 : Heap, yRep X (ws ++ [.inr (.inr (kd, List.replicate N none))]) s H1 → va_S (zA X) s.heap H1 locs → W p l e R s m args below meth c H1 locs (cells + 1) (slots + N) Q (F0 m (pc + 3) la (.ref (X.2.2.2.1 + ws.length) :: rest))) : W p l e R s m args below meth c H locs cells slots Q (F0 m pc la (.int n :: rest)) := by
  subst hN
  refine W.anew hx hb hown hcl (va_AO.use hov) rfl hdg rfl hn hby hcells hslots fun cA kA comp f1 f2 f3 f4 => ?_
  obtain ⟨kA', comp', -, -, -, f5⟩ := (hR.1.2 kd _ hkd).2
  have hcA : cA = X.2.2.1 kd := Option.some.inj (f1.symm.trans f5)
  subst hcA
  generalize hH1 : H.push ({ cls := X.2.2.1 kd, slots := Array.replicate n.toNatClampNeg .null, vm := .none } : Cell) = H1
  have z1 : H1.size = H.size + 1 := by rw [← hH1, Array.size_push]
  have e1 : H1[H.size]? = some (arrV (X.2.2.1 kd) n.toNatClampNeg (fun _ => .null)) := by rw [← hH1, Array.getElem?_push_size, ← arrV_new]
  have o1 : ∀ q : Nat, q < H.size → H1[q]? = H[q]? := fun q hq => by rw [← hH1, Array.getElem?_push, if_neg (Nat.ne_of_lt hq)]
  have k2 := kk H1 (yOne hR o1 z1 ?_) (ySg hS z1 o1)
  · rw [hR.2.2]
    exact k2
  · show H1[H.size]? = some (vp_cell _ _)
    rw [e1]
    simp only [vp_cell, List.length_replicate]
    congr 2
    funext j
    rw [List.getD_eq_getElem?_getD, List.getElem?_replicate]
    split <;> rfl
theorem y_put (hx : p.tables.exec = Jvm.exec) (hb : c.code = cc) {C : String} {T : u_T} {N ci index q0 k : Nat} {Ts : List Cond} (hts : ∀ w ∈ Ts, w.before args s = true) (hin : ∀ w ∈ u_ws C T N, w ∈ Ts) (ty0 : Nat → FieldType) (hty : ∀ k, k < N → parseFieldDescriptor (T k).2.2.1 = some (ty0 k)) (hnm : ∀ a, a < N → ∀ b, b < N → a ≠ b → (T a).2.1 ≠ (T b).2.1) (hown : s.vm.findClass own = some m.cls)
    (hR : yRep X ws s H) (hS0 : va_S (zA X) s.heap H locs) {fs : List (Option zV)} {v : zV} (he : ws[q0]? = some (.inl (ci, fs))) (hc : zcl[ci]? = some (C, T, N)) (hk : k < N) (hlink : (Cond.fieldLink own index (T k).1 (T k).2.1 (T k).2.2.1).before args s = true) (hfi : (T k).2.2.2 = true → meth.name = "<init>" ∧ (T k).1 = own) (hn : narrow (ty0 k) (ztr X v) = ztr X v) (hfit : fits (ty0 k) (ztr X v) = true) (hl : k < fs.length) (hdg : decode cc pc = .ok (.putfield index, 3))
    (kk : ∀ (H1 : Heap) (locs1 : List Loc), yRep X (ws.set q0 (.inl (ci, fs.set k (some v)))) s H1 → va_S (zA X) s.heap H1 locs1 → W p l e R s m args below meth c H1 locs1 cells slots Q (F0 m (pc + 3) la rest)) : W p l e R s m args below meth c H locs cells slots Q (F0 m pc la (ztr X v :: .ref (X.2.2.2.1 + q0) :: rest)) := by
  obtain ⟨hK, hP, hz⟩ := id hR
  have hap := va_apart (own := own) hts hin ty0 hty hnm hK hc
  obtain ⟨r, h1, cell, q1, q2, q3, q4⟩ := hP q0 _ (yWs_at he)
  have hr : r = (C, T, N) := Option.some.inj (h1.symm.trans hc)
  subst hr
  obtain ⟨hS, hfc, kC, hkC, hkind⟩ := hK.1 ci _ hc
  obtain ⟨cf, kf, fi, f, hi, hsl⟩ := hS k hk
  have hlay := hts _ (hin _ (u_in_lay hk))
  have hst := (u_facts hfc hkC (u_lays hts hin hk) hi).1
  have fin : ∀ H' : Heap, H'[X.2.2.2.1 + q0]? = some (cell.setSlot f.slot (ztr X v)) → H'.size = H.size → (∀ q, q ≠ X.2.2.2.1 + q0 → H'[q]? = H[q]?) → W p l e R s m args below meth c H' (locs ++ [⟨X.2.2.2.1 + q0, f.slot⟩]) cells slots Q (F0 m (pc + 3) la rest) := fun H' e1 e2 e3 => by
    rw [hsl] at e1 ⊢
    refine kk H' _ (ySet hR he e2 e3 ?_) (hS0.put e2 e3 (yD.2 q0 _ (yWs_at he)))
    refine ⟨_, hc, t_OB.to (V := updV (vp_V (fs.map (yF X))) k (ztr X v)) ⟨_, e1, q2, q3, t_set q4 hap hk (ztr X v)⟩ (fun j _ => ?_)⟩
    show updV (vp_V (fs.map (yF X))) k (ztr X v) j = vp_V ((fs.set k (some v)).map (yF X)) j
    rw [List.map_set]
    exact vp_updV_set (by rw [List.length_map]; exact hl) (ztr X v) j
  by_cases hfin : (T k).2.2.2 = true
  · obtain ⟨hin2, hdecl⟩ := hfi hfin
    unfold u_lay at hlay
    rw [if_pos hfin] at hlay
    have hcf : m.cls = cf := by
      obtain ⟨_, _, c', _, _, _, -, -, hf', -, -, -, hown2, -⟩ := Cond.laysFinal_spec hlay
      have e1 : c' = cf := by
        have := hi.symm.trans hf'
        simp at this
        exact this.1.symm
      rw [hdecl] at hown2
      rw [← e1]
      exact Option.some.inj (hown.symm.trans hown2)
    have h6 := u_fits hfc hkC hkind (Or.inr hlay) hi (hty k hk) hn hfit
    exact W.putFinK hx hb hown hlink hi hst hcf hin2 (by rw [q2]; exact h6) q1 q3 (by rw [hsl]; exact k2_hasslot (q4 k hk)) rfl rfl hdg fin
  · unfold u_lay at hlay
    rw [if_neg hfin] at hlay
    have h6 := u_store hfc hkC hkind hlay hi (hty k hk) hn hfit
    exact W.putK hx hb (f := f) ⟨hown, hlink, ⟨_, _, _, hi⟩, hst⟩ (by rw [q2]; exact h6) q1 q3 (by rw [hsl]; exact k2_hasslot (q4 k hk)) rfl rfl hdg fin
end YS
/-! CONSTRUCTORS: the links of a nest -/
def yNest : List (String × Nat × MethodName × String) := [("ProtocolDesk$Rulebook", 28, yX4_init, "ProtocolDesk"), ("ProtocolDesk$Hall", 35, yX7_init, "ProtocolDesk"), ("ProtocolDesk", 9, yX3_init, "ProtocolDesk"), ("ProtocolDesk", 18, yX8_init, "ProtocolDesk"), ("ProtocolDesk", 59, yX0_init, "ProtocolDesk")]
/-! CONSTRUCTORS: stores into arrays, arrays of arrays -/
section YS2
variable {X : zX} {p : Program} {l : Launch} {e : Env} {R : Room} {s : State} {m : MethodId} {args : Array Value} {below : List Frame} {meth : Method} {c : Code} {cells slots : Nat} {Q : State → Prop}
variable {own : String} {cc : ByteArray} {H : Heap} {locs : List Loc} {la : Array Slot} {ws : List yC} {pc : Nat} {rest : List Value}
theorem yUpd {vs : List Int32} {j : Nat} {x : Int32} (hj : j < vs.length) : updV (fun q => Value.int (vs.getD q 0)) j (.int x) = fun q => .int ((vs.set j x).getD q 0) := by
  funext q
  by_cases hq : q = j
  · subst hq
    simp [updV, List.getD_eq_getElem?_getD, hj]
  · have hq' : ¬ j = q := fun z => hq z.symm
    simp [updV, List.getD_eq_getElem?_getD, List.getElem?_set, hq, hq']
theorem y_iast (hx : p.tables.exec = Jvm.exec) (hb : c.code = cc) {q0 : Nat} {vs : List Int32} {i x : Int32} (hR : yRep X ws s H) (hS : va_S (zA X) s.heap H locs) (he : ws[q0]? = some (.inr (.inl (0, vs)))) (hin : vp_in i vs.length) (hdg : decode cc pc = .ok (.iastore, 1))
    (kk : ∀ (H1 : Heap) (locs1 : List Loc), yRep X (ws.set q0 (.inr (.inl (0, vs.set i.toNatClampNeg x)))) s H1 → va_S (zA X) s.heap H1 locs1 → W p l e R s m args below meth c H1 locs1 cells slots Q (F0 m (pc + 1) la rest)) : W p l e R s m args below meth c H locs cells slots Q (F0 m pc la (.int x :: .int i :: .ref (X.2.2.2.1 + q0) :: rest)) := by
  have ha : H[X.2.2.2.1 + q0]? = some (arrV (X.2.2.1 0) vs.length (fun j => .int (vs.getD j 0))) := hR.2.1 q0 _ (yWs_at he)
  have hlt : i.toNatClampNeg < vs.length := Nat.not_le.mp fun q => hin (Or.inr q)
  refine W.iast hx hb ha ((hR.1.2 0 _ rfl).1 vs.length (fun j => .int (vs.getD j 0))) (fun q => by cases q) (by rw [arrV_size]; exact hin) rfl rfl hdg fun H1 e1 z1 o1 => ?_
  refine kk H1 _ (ySet hR he z1 o1 ?_) (hS.put z1 o1 (yD.2 q0 _ (yWs_at he)))
  show H1[X.2.2.2.1 + q0]? = some (arrV (X.2.2.1 0) (vs.set i.toNatClampNeg x).length (fun j => .int ((vs.set i.toNatClampNeg x).getD j 0)))
  rw [e1, arrV_store, List.length_set, yUpd hlt]
theorem y_cast (hx : p.tables.exec = Jvm.exec) (hb : c.code = cc) {q0 : Nat} {vs : List Int32} {i x : Int32} (hR : yRep X ws s H) (hS : va_S (zA X) s.heap H locs) (he : ws[q0]? = some (.inr (.inl (3, vs)))) (hin : vp_in i vs.length) (hna : narrow .char (.int x) = .int x) (hdg : decode cc pc = .ok (.castore, 1))
    (kk : ∀ (H1 : Heap) (locs1 : List Loc), yRep X (ws.set q0 (.inr (.inl (3, vs.set i.toNatClampNeg x)))) s H1 → va_S (zA X) s.heap H1 locs1 → W p l e R s m args below meth c H1 locs1 cells slots Q (F0 m (pc + 1) la rest)) : W p l e R s m args below meth c H locs cells slots Q (F0 m pc la (.int x :: .int i :: .ref (X.2.2.2.1 + q0) :: rest)) := by
  have ha : H[X.2.2.2.1 + q0]? = some (arrV (X.2.2.1 3) vs.length (fun j => .int (vs.getD j 0))) := hR.2.1 q0 _ (yWs_at he)
  have hlt : i.toNatClampNeg < vs.length := Nat.not_le.mp fun q => hin (Or.inr q)
  refine W.cast hx hb ha ((hR.1.2 3 _ rfl).1 vs.length (fun j => .int (vs.getD j 0))) (fun q => by cases q) (by rw [arrV_size]; exact hin) rfl rfl hdg fun H1 e1 z1 o1 => ?_
  refine kk H1 _ (ySet hR he z1 o1 ?_) (hS.put z1 o1 (yD.2 q0 _ (yWs_at he)))
  show H1[X.2.2.2.1 + q0]? = some (arrV (X.2.2.1 3) (vs.set i.toNatClampNeg x).length (fun j => .int ((vs.set i.toNatClampNeg x).getD j 0)))
  rw [e1, hna, arrV_store, List.length_set, yUpd hlt]
theorem yUpR {B : Nat} {rs : List (Option Nat)} {j v : Nat} (hj : j < rs.length) : updV (fun q => va_rf ((rs.getD q none).map (fun z => B + z))) j (.ref (B + v)) = fun q => va_rf (((rs.set j (some v)).getD q none).map (fun z => B + z)) := by
  funext q
  by_cases hq : q = j
  · subst hq
    simp [updV, List.getD_eq_getElem?_getD, hj, va_rf]
  · have hq' : ¬ j = q := fun z => hq z.symm
    simp [updV, List.getD_eq_getElem?_getD, List.getElem?_set, hq, hq']
theorem y_aast (hx : p.tables.exec = Jvm.exec) (hb : c.code = cc) {q0 qk kd ci : Nat} {rs : List (Option Nat)} {fs : List (Option zV)} {r : vw_C} {i : Int32} (hR : yRep X ws s H) (hS : va_S (zA X) s.heap H locs) (he : ws[q0]? = some (.inr (.inr (kd, rs)))) (ht : (ztys X)[kd]? = some (X.2.2.1 kd, .object r.1)) (hv : ws[qk]? = some (.inl (ci, fs))) (hc : zcl[ci]? = some r) (hin : vp_in i rs.length) (hdg : decode cc pc = .ok (.aastore, 1))
    (kk : ∀ (H1 : Heap) (locs1 : List Loc), yRep X (ws.set q0 (.inr (.inr (kd, rs.set i.toNatClampNeg (some qk))))) s H1 → va_S (zA X) s.heap H1 locs1 → W p l e R s m args below meth c H1 locs1 cells slots Q (F0 m (pc + 1) la rest)) : W p l e R s m args below meth c H locs cells slots Q (F0 m pc la (.ref (X.2.2.2.1 + qk) :: .int i :: .ref (X.2.2.2.1 + q0) :: rest)) := by
  have ha : H[X.2.2.2.1 + q0]? = some (arrV (X.2.2.1 kd) rs.length (fun j => va_rf ((rs.getD j none).map (fun z => X.2.2.2.1 + z)))) := hR.2.1 q0 _ (yWs_at he)
  have hlt : i.toNatClampNeg < rs.length := Nat.not_le.mp fun q => hin (Or.inr q)
  have h0 : ¬ i < 0 := fun q => hin (Or.inl q)
  obtain ⟨r', hr', cellV, g1, g2, g3, -⟩ := hR.2.1 qk _ (yWs_at hv)
  have hcls := (hR.1.1 ci r hc).2
  obtain ⟨kA, comp, k1, k2, k3, -⟩ := (hR.1.2 kd _ ht).2
  have hcomp : comp = X.2.1.1 ci := Option.some.inj (k3.symm.trans hcls.1)
  subst hcomp
  obtain ⟨kC, hkC, -⟩ := hcls.2
  refine W.aast hx hb ha (fun q h => by cases h) (fun h => by cases h) k1 k2 rfl hkC ⟨h0, by rw [arrV_size]; exact hlt⟩ g1 (fun q h => by rw [g3] at h; cases h) (by rw [g2]; exact hkC) (by rw [g2]; exact va_assign hcls) rfl rfl hdg fun H1 e1 z1 o1 => ?_
  refine kk H1 _ (ySet hR he z1 o1 ?_) (hS.put z1 o1 (yD.2 q0 _ (yWs_at he)))
  show H1[X.2.2.2.1 + q0]? = some (arrV (X.2.2.1 kd) (rs.set i.toNatClampNeg (some qk)).length (fun j => va_rf (((rs.set i.toNatClampNeg (some qk)).getD j none).map (fun z => X.2.2.2.1 + z))))
  rw [e1, arrV_store, List.length_set, yUpR hlt]
def yGrid (L N M : Nat) : List yC := .inr (.inr (4, (List.range N).map (fun i => some (L + 1 + i)))) :: List.replicate N (.inr (.inl (0, List.replicate M 0)))
theorem yOuter (cA : ClassId) (N h0 : Nat) : ∀ i, Jvm.Free.Multi.outerC cA N h0 i = arrV cA N (fun j => if j < i then Value.ref (h0 + 1 + j) else .null)
  | 0 => by
    rw [Jvm.Free.Multi.outerC, arrV_new]
    congr 1
  | i + 1 => by
    rw [Jvm.Free.Multi.outerC, yOuter cA N h0 i, arrV_store]
    congr 1
    funext j
    by_cases h1 : j = i
    · subst h1
      simp [updV]
    · by_cases h2 : j < i
      · simp [updV, h1, h2, show j < i + 1 by omega]
      · simp [updV, h1, h2, show ¬ j < i + 1 by omega]
theorem y_multi (hx : p.tables.exec = Jvm.exec) (hb : c.code = cc) {index : Nat} {n k : Int32} {N M : Nat} (hown : s.vm.findClass own = some m.cls) (hcl : (Cond.classLink own index "[[I").before args s = true) (hov : (Cond.arrayOver (.array .int)).before args s = true) (harr : (Cond.arrayClass .int).before args s = true) (hR : yRep X ws s H) (hS : va_S (zA X) s.heap H locs)
    (hn : ¬ n < 0) (hk : ¬ k < 0) (hN : n.toNatClampNeg = N) (hM : k.toNatClampNeg = M) (hN1 : N ≤ 1000) (hM1 : M ≤ 1000) (hcells : cells + (1 + N) ≤ R.cells) (hslots : slots + (N + N * M) ≤ R.slots) (hdg : decode cc pc = .ok (.multianewarray index 2, 4))
    (kk : ∀ H1 : Heap, yRep X (ws ++ yGrid ws.length N M) s H1 → va_S (zA X) s.heap H1 locs → W p l e R s m args below meth c H1 locs (cells + 1 + N) (slots + N + N * M) Q (F0 m (pc + 4) la (.ref (X.2.2.2.1 + ws.length) :: rest))) : W p l e R s m args below meth c H locs cells slots Q (F0 m pc la (.int k :: .int n :: rest)) := by
  subst hN hM hb
  intro T hT Z
  have e1 : "[" ++ (FieldType.array FieldType.int).toString = "[[I" := by decide
  obtain ⟨vm₁, cA, comp, hW, hfA, hfC, hO, hI, X1, step⟩ := Z.multianewarray2F (ty := .int) hx hown (by rw [e1]; exact hcl) hov harr (g := F0 m pc la (.int k :: .int n :: rest)) rfl hdg rfl hn hk (by omega) (by show k.toNatClampNeg * 4 ≤ 536870912; omega) (by omega) rfl rfl hcells hslots
  obtain ⟨f1, f2, -⟩ := Jvm.Free.Multi.fill_facts (T.setVm vm₁) cA comp n.toNatClampNeg k.toNatClampNeg (defaultValue .int) n.toNatClampNeg
  have fo := fun (a : Addr) (ha : a < T.heap.size) => Jvm.Free.Multi.fill_old (T.setVm vm₁) cA comp n.toNatClampNeg k.toNatClampNeg (defaultValue .int) (a := a) ha n.toNatClampNeg
  have fi := fun (j : Nat) (hj : j < n.toNatClampNeg) => Jvm.Free.Multi.fill_inner (T.setVm vm₁) cA comp n.toNatClampNeg k.toNatClampNeg (defaultValue .int) n.toNatClampNeg j hj
  have hcA : cA = X.2.2.1 4 := Option.some.inj (hfA.symm.trans (hR.1.2 4 _ rfl).2)
  have hcI : comp = X.2.2.1 0 := Option.some.inj (hfC.symm.trans (hR.1.2 0 _ rfl).2)
  subst hcA hcI
  generalize hT1 : Jvm.Free.Multi.fill (T.setVm vm₁) (X.2.2.1 4) (X.2.2.1 0) n.toNatClampNeg k.toNatClampNeg (defaultValue .int) n.toNatClampNeg = T1 at *
  have hTh : (T.setVm vm₁).heap = H := hT
  rw [hTh] at f1 f2 fi
  rw [hT] at fo
  have z1 : T1.heap.size = H.size + (yGrid ws.length n.toNatClampNeg k.toNatClampNeg).length := by
    rw [f1, yGrid, List.length_cons, List.length_replicate]
    omega
  have o1 : ∀ q, q < H.size → T1.heap[q]? = H[q]? := fun q hq => by
    rw [fo q hq]
    exact congrArg (·[q]?) hTh
  have hrep : yRep X (ws ++ yGrid ws.length n.toNatClampNeg k.toNatClampNeg) s T1.heap := by
    refine yMore hR o1 z1 (fun j d hd => ?_)
    cases j with
    | zero =>
      cases hd
      have hf : ∀ (L : Nat), (fun j => if j < n.toNatClampNeg then Value.ref (X.2.2.2.1 + L + 1 + j) else Value.null) = fun j => va_rf ((((List.range n.toNatClampNeg).map (fun i => some (L + 1 + i))).getD j none).map (fun z => X.2.2.2.1 + z)) := fun L => by
        funext j
        by_cases w : j < n.toNatClampNeg
        · have e : ((List.range n.toNatClampNeg).map (fun i => some (L + 1 + i))).getD j none = some (L + 1 + j) := by
            rw [List.getD_eq_getElem?_getD, List.getElem?_map, List.getElem?_range w]
            rfl
          rw [if_pos w, e]
          exact congrArg Value.ref (show X.2.2.2.1 + L + 1 + j = X.2.2.2.1 + (L + 1 + j) by omega)
        · have e : ((List.range n.toNatClampNeg).map (fun i => some (L + 1 + i))).getD j none = none := by
            rw [List.getD_eq_getElem?_getD, List.getElem?_map, List.getElem?_eq_none (by rw [List.length_range]; omega)]
            rfl
          rw [if_neg w, e]
          rfl
      show T1.heap[H.size + 0]? = some (arrV (X.2.2.1 4) ((List.range n.toNatClampNeg).map (fun i => some (ws.length + 1 + i))).length (fun j => va_rf ((((List.range n.toNatClampNeg).map (fun i => some (ws.length + 1 + i))).getD j none).map (fun z => X.2.2.2.1 + z))))
      rw [Nat.add_zero, f2, yOuter, ← hf ws.length, hR.2.2, List.length_map, List.length_range]
    | succ j =>
      have hd' : (List.replicate n.toNatClampNeg (.inr (.inl (0, List.replicate k.toNatClampNeg 0))) : List yC)[j]? = some d := hd
      rw [List.getElem?_replicate] at hd'
      split at hd'
      · rename_i hj
        cases hd'
        show T1.heap[H.size + (j + 1)]? = some (vp_cell _ _)
        rw [show H.size + (j + 1) = H.size + 1 + j by omega, fi j hj]
        refine congrArg some ?_
        simp only [vp_cell, List.length_replicate, arrV, Jvm.Free.Multi.innerC]
        congr 1
        apply Array.ext_getElem?
        intro i
        rcases Nat.lt_or_ge i k.toNatClampNeg with w | w
        · simp [w, List.getD_eq_getElem?_getD, List.getElem?_replicate]
          rfl
        · simp [w]
      · cases hd'
  obtain ⟨t, a1, b1⟩ := kk T1.heap hrep (ySg hS z1 o1) T1 rfl X1
  refine ⟨t, step t ?_, b1⟩
  rw [hT, hR.2.2]
  exact a1
end YS2
/-! CONSTRUCTORS: an interpreter, and that it tells the truth -/
/-- place, instruction, length, a, b, number, method, places of words -/
abbrev yEn : Type := Nat × Instr × Nat × Nat × Nat × Int32 × Nat × List Nat
def ykt : Nat → FieldType
  | 0 => .int
  | 1 => .boolean
  | 2 => .byte
  | _ => .char
def ykc : Nat → Nat
  | 5 => 4
  | _ => 7
def yCn (a : Nat) : String := (zcl[ykc a]?.map (·.1)).getD ""
def yBl (ty : FieldType) : Option zV := match ty with
  | .int => some (zI 0)
  | .boolean => some (zI 0)
  | _ => none
def yBlank (ci N : Nat) : List (Option zV) := (List.range N).map (fun k => yBl (zty ci k))
/-- a value fits the field's type -/
def yFit (ty : FieldType) (v : zV) : Bool := match v with
  | .inl _ => decide (ty = .int)
  | .inr (.inl _) => false
  | .inr (.inr _) => ty.isReference
/-- methods: name and bytes, instructions, cells, slots, depth -/
abbrev yMt : Type := zMth × List yEn × Nat × Nat × Nat
def yex (T : List yMt) : Nat → Nat → Nat → List (Option zV) → List zV → List yC → Nat → Nat → Option (List yC)
  | 0, _, _, _, _, _, _, _ => none
  | fu + 1, mi, pc, ls, st, ws, ce, sl => match T[mi]? with
    | none => none
    | some (_, P, mc, ms, dp) => match P.find? (fun e => Nat.beq e.1 pc) with
      | none => none
      | some (_, ins, _, a, b, cv, mj, _) => match ins with
        | .iconst _ => yex T fu mi (pc + 1) ls (zI cv :: st) ws ce sl
        | .bipush _ => yex T fu mi (pc + 2) ls (zI cv :: st) ws ce sl
        | .sipush _ => yex T fu mi (pc + 3) ls (zI cv :: st) ws ce sl
        | .aload_n k => match ls[(k : Nat)]? with
          | some (some (.inr (.inr q))) => yex T fu mi (pc + 1) ls (.inr (.inr q) :: st) ws ce sl
          | _ => none
        | .iload_n k => match ls[(k : Nat)]? with
          | some (some (.inl x)) => yex T fu mi (pc + 1) ls (.inl x :: st) ws ce sl
          | _ => none
        | .istore_n k => match st with
          | .inl x :: r => if zok ls k = true then yex T fu mi (pc + 1) (ls.set k (some (.inl x))) r ws ce sl else none
          | _ => none
        | .iinc k _ => match ls[k]? with
          | some (some (.inl x)) => if zok ls k = true then yex T fu mi (pc + 3) (ls.set k (some (.inl (x + cv)))) st ws ce sl else none
          | _ => none
        | .dup => match st with
          | .inr (.inr q) :: r => yex T fu mi (pc + 1) ls (.inr (.inr q) :: .inr (.inr q) :: r) ws ce sl
          | _ => none
        | .goto _ => yex T fu mi a ls st ws ce sl
        | .if_icmp c _ => match c, st with
          | .ge, .inl y :: .inl x :: r => if y ≤ x then yex T fu mi a ls r ws ce sl else yex T fu mi (pc + 3) ls r ws ce sl
          | _, _ => none
        | .newarray _ => match st with
          | .inl n :: r => if ¬ n < 0 ∧ n.toNatClampNeg ≤ 1000 ∧ ce + 1 ≤ mc ∧ sl + n.toNatClampNeg ≤ ms then yex T fu mi (pc + 2) ls (zR 300 ws.length :: r) (ws ++ [.inr (.inl (a, List.replicate n.toNatClampNeg 0))]) (ce + 1) (sl + n.toNatClampNeg) else none
          | _ => none
        | .anewarray _ => match st with
          | .inl n :: r => if ¬ n < 0 ∧ n.toNatClampNeg ≤ 1000 ∧ ce + 1 ≤ mc ∧ sl + n.toNatClampNeg ≤ ms then yex T fu mi (pc + 3) ls (zR 300 ws.length :: r) (ws ++ [.inr (.inr (a, List.replicate n.toNatClampNeg none))]) (ce + 1) (sl + n.toNatClampNeg) else none
          | _ => none
        | .multianewarray _ _ => match st with
          | .inl k :: .inl n :: r => if (¬ n < 0 ∧ ¬ k < 0 ∧ n.toNatClampNeg ≤ 1000 ∧ k.toNatClampNeg ≤ 1000) ∧ ce + (1 + n.toNatClampNeg) ≤ mc ∧ sl + (n.toNatClampNeg + n.toNatClampNeg * k.toNatClampNeg) ≤ ms then yex T fu mi (pc + 4) ls (zR 300 ws.length :: r) (ws ++ yGrid ws.length n.toNatClampNeg k.toNatClampNeg) (ce + 1 + n.toNatClampNeg) (sl + n.toNatClampNeg + n.toNatClampNeg * k.toNatClampNeg) else none
          | _ => none
        | .new _ => match zcl[a]? with
          | some (_, _, N) => if ce + 1 ≤ mc ∧ sl + N ≤ ms then yex T fu mi (pc + 3) ls (zR 300 ws.length :: st) (ws ++ [.inl (a, yBlank a N)]) (ce + 1) (sl + N) else none
          | none => none
        | .getfield _ => match st with
          | .inr (.inr (f, q)) :: r => if f = 300 then (match ws[q]? with
            | some (.inl (ci, fs)) => if ci = a then (match fs[b]? with
              | some (some v) => yex T fu mi (pc + 3) ls (v :: r) ws ce sl
              | _ => none) else none
            | _ => none) else none
          | _ => none
        | .putfield _ => match st with
          | v :: .inr (.inr (f, q)) :: r => if f = 300 then (match ws[q]? with
            | some (.inl (ci, fs)) => if ci = a ∧ b < fs.length ∧ yFit (zty a b) v = true then yex T fu mi (pc + 3) ls r (ws.set q (.inl (ci, fs.set b (some v)))) ce sl else none
            | _ => none) else none
          | _ => none
        | .iastore => match st with
          | .inl x :: .inl j :: .inr (.inr (f, q)) :: r => if f = 300 then (match ws[q]? with
            | some (.inr (.inl (kd, vs))) => if kd = 0 ∧ ¬ j < 0 ∧ j.toNatClampNeg < vs.length then yex T fu mi (pc + 1) ls r (ws.set q (.inr (.inl (0, vs.set j.toNatClampNeg x)))) ce sl else none
            | _ => none) else none
          | _ => none
        | .castore => match st with
          | .inl x :: .inl j :: .inr (.inr (f, q)) :: r => if f = 300 then (match ws[q]? with
            | some (.inr (.inl (kd, vs))) => if kd = 3 ∧ (¬ j < 0 ∧ j.toNatClampNeg < vs.length) ∧ vp_nar .char x = x then yex T fu mi (pc + 1) ls r (ws.set q (.inr (.inl (3, vs.set j.toNatClampNeg x)))) ce sl else none
            | _ => none) else none
          | _ => none
        | .aastore => match st with
          | .inr (.inr (g, v)) :: .inl j :: .inr (.inr (f, q)) :: r => if f = 300 ∧ g = 300 then (match ws[q]?, ws[v]? with
            | some (.inr (.inr (kd, rs))), some (.inl (ci, _)) => if ((kd = 5 ∧ ci = 4) ∨ (kd = 6 ∧ ci = 7)) ∧ ¬ j < 0 ∧ j.toNatClampNeg < rs.length then yex T fu mi (pc + 1) ls r (ws.set q (.inr (.inr (kd, rs.set j.toNatClampNeg (some v))))) ce sl else none
            | _, _ => none) else none
          | _ => none
        | .invokespecial _ => match mj with
          | 0 => match st with
            | .inr (.inr _) :: r => if (r.map zcat).sum ≤ 8 then yex T fu mi (pc + 3) ls r ws ce sl else none
            | _ => none
          | mj + 1 => match T[mj]? with
            | none => none
            | some (M, _, mc', ms', dp') => match st.drop b with
              | .inr (.inr (f, q)) :: r => if (r.map zcat).sum ≤ 8 ∧ ce + mc' ≤ mc ∧ sl + ms' ≤ ms ∧ dp' < dp ∧ (zin (.inr (.inr (f, q)) :: (st.take b).reverse)).length ≤ M.2.2.1 ∧ b ≤ st.length then (match yex T fu mj 0 (zls M.2.2.1 (.inr (.inr (f, q)) :: (st.take b).reverse)) [] ws 0 0 with
                | some ws' => yex T fu mi (pc + 3) ls r ws' (ce + mc') (sl + ms')
                | none => none) else none
              | _ => none
        | .return_ => match st with
          | [] => if ce ≤ mc ∧ sl ≤ ms then some ws else none
          | _ => none
        | _ => none
/-! CONSTRUCTORS: the interpreter tells the truth -/
def ylink (T : List yMt) (own : String) (pc : Nat) (ins : Instr) (len a b : Nat) (cv : Int32) (mj : Nat) (h : List Nat) : Bool := match ins with
  | .aload_n _ | .iload_n _ | .istore_n _ | .dup | .iastore | .castore | .aastore | .return_ => decide (len = 1)
  | .iconst n => decide (len = 1) && decide (Int32.ofInt n = cv)
  | .bipush n => decide (len = 2) && decide ((Int8.ofInt n).toInt32 = cv)
  | .sipush n => decide (len = 3) && decide ((Int16.ofInt n).toInt32 = cv)
  | .iinc _ n => decide (len = 3) && decide (Int32.ofInt n = cv)
  | .goto o | .if_icmp _ o => decide (len = 3) && decide ((pc : Int) + o = (a : Int))
  | .newarray t => decide (len = 2) && decide (a < 4) && decide (newarray.typeOf t = ykt a)
  | .anewarray i => decide (len = 3) && (decide (a = 5) || decide (a = 6)) && zwd h 0 (.classLink own i (yCn a))
  | .multianewarray i d => decide (len = 4) && decide (d = 2) && zwd h 0 (.classLink own i "[[I")
  | .new i => decide (len = 3) && (match zcl[a]? with
    | some (C, _, N) => zwd h 0 (.classLink own i C) && zwd h 1 (.instantiable C N) && zwd h 2 (.initialized C)
    | none => false)
  | .getfield i => decide (len = 3) && (match zcl[a]? with
    | some (_, T, N) => decide (b < N) && zwd h 0 (.fieldLink own i (T b).1 (T b).2.1 (T b).2.2.1)
    | none => false)
  | .putfield i => decide (len = 3) && (match zcl[a]? with
    | some (_, T, N) => decide (b < N) && zwd h 0 (.fieldLink own i (T b).1 (T b).2.1 (T b).2.2.1) && (!(T b).2.2.2 || decide ((T b).1 = own))
    | none => false)
  | .invokespecial i => decide (len = 3) && (match mj with
    | 0 => zwd h 0 (.methodLink own i Lib.objectInit) && zwd h 1 (.instanceMethod Lib.objectInit) && zwd h 2 (.code Lib.objectInit ⟨#[0xb1]⟩ 1 none)
    | j + 1 => match T[j]? with
      | some ((y, bt, mL, rt), _) => (if a = 1 then decide ((own, i, y, "ProtocolDesk") ∈ yNest) else zwd h 0 (.methodLink own i y)) && zwd h 1 (.instanceMethod y) && zwd h 2 (.initialized y.cls) && zwd h 3 (.code y bt mL none) && decide (rt = none) && decide (y.name = "<init>") && decide (y.cls ≠ "java/lang/invoke/MethodHandle") && decide (y.cls ≠ "java/lang/invoke/VarHandle") && decide ((parseMethodDescriptor y.desc).map (fun d => d.parameters.length) = some b) && decide (mL ≤ 40)
      | none => false)
  | _ => false
def ychk (T : List yMt) (own : String) (cc : ByteArray) (en : yEn) : Bool := match en with
  | (pc, ins, len, a, b, cv, mj, h) => decide (decode cc pc = .ok (ins, len)) && ylink T own pc ins len a b cv mj h
def yOK (T : List yMt) : Bool := T.all (fun q => q.2.1.all (ychk T q.1.1.cls q.1.2.1) && plainName q.1.1.cls && decide (q.1.2.2.2 = none) && decide (q.1.1.name = "<init>"))
/-- words that a call does not carry by itself -/
def yNw (U : State) : Prop := (∀ q ∈ yNest, va_Nw (.methodLinkNest q.1 q.2.1 q.2.2.1 q.2.2.2) U) ∧ va_AO RX4 U ∧ va_AO RX7 U ∧ (Cond.arrayOver (.array .int)).before #[] U = true
def yPc (X : zX) (as : List zV) (ws : List yC) : Array Value → State → Prop := va_Pc (as.map (ztr X)) (fun U => yNw U ∧ yRep X ws U U.heap)
def yQc (X : zX) (ws : List yC) : Array Value → State → Outcome → State → Prop := fun _ st oc t => (oc = .returned none ∧ yRep X ws t t.heap) ∧ va_F (zA X) st t
def yrm (dp mc ms : Nat) : Room := { frames := dp + 2, cells := mc, slots := ms, locals := 100 * (dp + 2) }
theorem yNw_warm {s U : State} (hW : s.WarmedH U.vm) (h : yNw s) : yNw U := by
  obtain ⟨h1, h2, h3, h4⟩ := h
  exact ⟨fun q hq => va_Nw.warmM hW (h1 q hq), h2.moved hW.alike, h3.moved hW.alike, Jvm.Stand.arrayOver_alikeB hW.alike h4⟩
theorem yNw_same {u U : State} (hv : u.vm = U.vm) (h : yNw u) : yNw U := by
  obtain ⟨h1, h2, h3, h4⟩ := h
  have hal : u.vm.Alike U.vm := by rw [hv]; exact Vm.Alike.refl _
  exact ⟨fun q hq => va_Nw.same rfl hv (h1 q hq), h2.moved hal, h3.moved hal, Jvm.Stand.arrayOver_alikeB hal h4⟩
theorem yPc_blind {X : zX} {as : List zV} {ws : List yC} : FrameBlind (yPc X as ws) := by
  intro a U g mk h
  obtain ⟨h1, h2, h3⟩ := h
  exact ⟨h1, yNw_same rfl h2, yRmov (U := U.calling g mk a) (Vm.Alike.refl U.vm) h3⟩
theorem yPc_at {X : zX} {as : List zV} {ws : List yC} {s U : State} {H : Heap} (hN : yNw s) (hR : yRep X ws s H) (hU : U.heap = H) (hW : s.WarmedH U.vm) : yPc X as ws (as.map (ztr X)).toArray U := by
  subst hU
  exact ⟨rfl, yNw_warm hW hN, yRmov hW.alike hR⟩
theorem ykt_ty {X : zX} {a : Nat} (h : a < 4) : (ztys X)[a]? = some (X.2.2.1 a, ykt a) := by
  have : a = 0 ∨ a = 1 ∨ a = 2 ∨ a = 3 := by omega
  rcases this with rfl | rfl | rfl | rfl <;> rfl
theorem ykt_dv {a : Nat} : defaultValue (ykt a) = .int 0 ∧ componentBytes (ykt a) ≤ 8 := by
  match a with
  | 0 => exact ⟨rfl, by decide⟩
  | 1 => exact ⟨rfl, by decide⟩
  | 2 => exact ⟨rfl, by decide⟩
  | _ + 3 => exact ⟨rfl, (by decide : componentBytes .char ≤ 8)⟩
theorem ykt_ra {X : zX} {a : Nat} {s : State} (h : va_RA s (X.2.2.1 a) (ykt a)) : s.vm.findClass ("[" ++ (ykt a).toString) = some (X.2.2.1 a) := by
  match a with
  | 0 => exact h
  | 1 => exact h
  | 2 => exact h
  | _ + 3 => exact h
theorem ykt_w : ∀ a, a < 4 → Cond.arrayClass (ykt a) ∈ zT := by decide +kernel
theorem yBl_dv {X : zX} {ci N : Nat} (h : ∀ k, k < N → zty ci k = .int ∨ zty ci k = .boolean ∨ (zty ci k).isReference = true) : ∀ j, j < N → defaultValue (zty ci j) = vp_V ((yBlank ci N).map (yF X)) j := by
  intro j hj
  unfold vp_V yBlank
  rw [List.map_map, List.getD_eq_getElem?_getD, List.getElem?_map, List.getElem?_range hj]
  show defaultValue (zty ci j) = yF X (yBl (zty ci j))
  rcases h j hj with h | h | h
  · rw [h]
    rfl
  · rw [h]
    rfl
  · revert h
    cases zty ci j <;> intro h <;> first | rfl | cases h
theorem zcl_ty : ∀ ci, ci < 11 → ∀ k, k < ((zcl[ci]?.map (·.2.2)).getD 0) → zty ci k = .int ∨ zty ci k = .boolean ∨ (zty ci k).isReference = true := by decide +kernel
theorem yFit_ok {X : zX} {ty : FieldType} {v : zV} (h : yFit ty v = true) : narrow ty (ztr X v) = ztr X v ∧ fits ty (ztr X v) = true := by
  match v with
  | .inl x =>
    have h : ty = .int := of_decide_eq_true h
    subst h
    exact ⟨rfl, rfl⟩
  | .inr (.inl x) => cases h
  | .inr (.inr n) =>
    have h : ty.isReference = true := h
    exact ⟨by cases ty <;> rfl, Jvm.Free.Multi.refFits h _ (Or.inr ⟨_, rfl⟩)⟩
theorem yNar {x : Int32} (h : vp_nar .char x = x) : narrow .char (.int x) = .int x := by
  have e : narrow .char (.int x) = .int (vp_nar .char x) := by
    unfold vp_nar
    rfl
  rw [e, h]
/-! CONSTRUCTORS: from a run of the interpreter to a contract -/
def yCx (X : zX) (p : Program) (s : State) (m : MethodId) (args : Array Value) (meth : Method) (c : Code) (M : zMth) : Prop :=
  p.tables.exec = Jvm.exec ∧ c.code = M.2.1 ∧ c.maxLocals = M.2.2.1 ∧ s.vm.findClass M.1.cls = some m.cls ∧ (∀ w ∈ zT, w.before args s = true) ∧ meth.sig.returnType = none ∧ meth.locks = false ∧ meth.name = "<init>" ∧ yNw s
def yGo (T : List yMt) (X : zX) (fu : Nat) : Prop := ∀ (mi pc : Nat) (ls : List (Option zV)) (st : List zV) (ws ws' : List yC) (ce sl : Nat) (M : zMth) (P : List yEn) (mc ms dp : Nat), T[mi]? = some (M, P, mc, ms, dp) → yex T fu mi pc ls st ws ce sl = some ws' → ∀ (p : Program) (l : Launch) (e : Env) (s : State) (m : MethodId) (args : Array Value) (below : List Frame) (meth : Method) (c : Code) (H : Heap) (locs : List Loc) (la : Array Slot), yCx X p s m args meth c M → yRep X ws s H → va_S (zA X) s.heap H locs → zLv X M.2.2.1 ls la → W p l e (yrm dp mc ms) s m args below meth c H locs ce sl (MQ below (yQc X ws') args s mc ms (zA X)) (F0 m pc la (st.map (ztr X)))
theorem yMet {T : List yMt} {X : zX} {fu mi : Nat} (hT : yOK T = true) (hg : yGo T X fu) {as : List zV} {ws ws' : List yC} {M : zMth} {P : List yEn} {mc ms dp : Nat} (hmi : T[mi]? = some (M, P, mc, ms, dp)) (hn : (zin as).length ≤ M.2.2.1) (h : yex T fu mi 0 (zls M.2.2.1 as) [] ws 0 0 = some ws') (l : Launch) : Met l M.1 (zws M) (yrm dp mc ms) (yPc X as ws) (yQc X ws') mc ms (zA X) := by
  have hq := List.all_eq_true.mp hT _ (List.mem_of_getElem? hmi)
  simp only [Bool.and_eq_true, decide_eq_true_eq] at hq
  obtain ⟨⟨⟨-, hy⟩, hret⟩, hnm⟩ := hq
  refine Met.ofW (cc := M.2.1) (maxL := M.2.2.1) (ret := M.2.2.2) hy rfl ?_
  intro p e s m args below meth c s₁ B hml hv
  obtain ⟨rfl, hN, hR⟩ := hv
  have hts := atoms_spec (ws := zws M) B.pre
  have hown : s.vm.findClass M.1.cls = some m.cls := findClass_of_methodNamed B.named
  have hname : meth.name = "<init>" := (name_of_methodNamed B.named B.method).1.trans hnm
  have C : yCx X p s m (as.map (ztr X)).toArray meth c M := ⟨B.exec, B.bytes, hml, hown, fun w hw => hts w (List.mem_cons_of_mem _ hw), B.returns.trans hret, B.notSynchronized, hname, hN⟩
  have hl := lv_entry (as.map (ztr X)) (n := M.2.2.1) (by rw [zin_len]; exact hn)
  rw [lg_entry_eq]
  refine hg mi 0 _ [] ws ws' 0 0 M P mc ms dp hmi h p l e s m _ below meth c s.heap [] _ C hR va_S.rf ⟨?_, hl.1, hl.2.1, fun q hq => hl.2.2 q (zin_lv as 0 _ q hq)⟩
  rw [zls, List.length_append, List.length_replicate]
  omega
section YB
variable {X : zX} {p : Program} {l : Launch} {e : Env} {R : Room} {s : State} {m : MethodId} {args : Array Value} {below : List Frame} {meth : Method} {c : Code} {Q : State → Prop} {H : Heap} {locs : List Loc} {la : Array Slot} {pc ce sl mc ms : Nat} {rest st0 : List Value} {ws1 : List yC} {a : Array Value}
theorem y_back (hr : va_Run p l e R s m args below meth c H locs ce sl mc ms (F0 m pc la st0) rest (yQc X ws1 a) (zA X)) (hS : va_S (zA X) s.heap H locs)
    (kk : ∀ (H1 : Heap) (locs1 : List Loc), yRep X ws1 s H1 → va_S (zA X) s.heap H1 locs1 → W p l e R s m args below meth c H1 locs1 (ce + mc) (sl + ms) Q (F0 m (pc + 3) la rest)) : W p l e R s m args below meth c H locs ce sl Q (F0 m pc la st0) := by
  intro T hT Z
  obtain ⟨v, st₀, t, T', L, h0, Z', hL, e1, e2, ⟨⟨hv, hrep⟩, hz, hkeep⟩, st⟩ := hr T hT Z
  rw [h0] at hz hkeep
  have hal : s.vm.Alike t.vm := by rw [← e2]; exact Z'.warmed.alike
  have hrep' : yRep X ws1 s T'.heap := by rw [e1]; exact yRmov hal.symm hrep
  have hS' : va_S (zA X) s.heap T'.heap (locs ++ L) := ⟨Nat.le_trans hS.1 (by rw [e1]; exact hz), fun a h1 h2 => by rw [e1, hkeep a (Nat.lt_of_lt_of_le h1 hS.1) h2]; exact hS.2.1 a h1 h2, fun a ha => by
    rcases List.mem_append.mp ha with h | h
    · exact hS.2.2 a h
    · exact hL a h⟩
  obtain ⟨t2, a1, b1⟩ := kk T'.heap (locs ++ L) hrep' hS' T' rfl Z'
  refine ⟨t2, st t2 ?_, b1⟩
  cases hv
  exact a1
end YB
set_option maxHeartbeats 4000000 in
set_option maxRecDepth 20000 in
theorem ysound {T : List yMt} (hT : yOK T = true) {X : zX} (hX : ∀ k, X.1 300 k = X.2.2.2.1 + k) : ∀ fu, yGo T X fu
  | 0 => by
    intro mi pc ls st ws ws' ce sl M P mc ms dp hmi h
    rw [yex.eq_def] at h
    cases h
  | fu + 1 => by
    have ih := ysound hT hX fu
    intro mi pc ls st ws ws' ce sl M P mc ms dp hmi h p l e s m args below meth c H locs la C hR hS hl
    have C0 := C
    obtain ⟨hx, hb, hml, hown, hts, hr, hlocks, hname, hN⟩ := C
    have zRx : ∀ k, ztr X (zR 300 k) = .ref (X.2.2.2.1 + k) := fun k => congrArg Value.ref (hX k)
    rw [yex.eq_def] at h
    dsimp only at h
    rw [hmi] at h
    dsimp only at h
    cases hfe : P.find? (fun e => Nat.beq e.1 pc) with
    | none =>
      rw [hfe] at h
      cases h
    | some en =>
    obtain ⟨pc', ins, len, a, b, cv, mj, hh⟩ := en
    rw [hfe] at h
    dsimp only at h
    have hmem := List.mem_of_find?_eq_some hfe
    have hpc : pc' = pc := Nat.eq_of_beq_eq_true (show Nat.beq pc' pc = true from List.find?_some (p := fun e : yEn => Nat.beq e.1 pc) hfe)
    subst hpc
    have hq := List.all_eq_true.mp hT _ (List.mem_of_getElem? hmi)
    simp only [Bool.and_eq_true, decide_eq_true_eq] at hq
    have hck := List.all_eq_true.mp hq.1.1.1 _ hmem
    simp only [ychk, Bool.and_eq_true, decide_eq_true_eq] at hck
    obtain ⟨hdg, hlk⟩ := hck
    have hkn : ∀ k, zok ls k = true → k < M.2.2.1 := fun k hk => by
      simp only [zok, Bool.and_eq_true, decide_eq_true_eq] at hk
      exact Nat.lt_of_lt_of_le hk.1 hl.1
    have go : ∀ {pc1 : Nat} {ls1 : List (Option zV)} {st1 : List zV} {ws1 : List yC} {ce1 sl1 : Nat}, yex T fu mi pc1 ls1 st1 ws1 ce1 sl1 = some ws' → ∀ (H1 : Heap) (locs1 : List Loc) (la1 : Array Slot), yRep X ws1 s H1 → va_S (zA X) s.heap H1 locs1 → zLv X M.2.2.1 ls1 la1 → W p l e (yrm dp mc ms) s m args below meth c H1 locs1 ce1 sl1 (MQ below (yQc X ws') args s mc ms (zA X)) (F0 m pc1 la1 (st1.map (ztr X))) :=
      fun {pc1 ls1 st1 ws1 ce1 sl1} h1 H1 locs1 la1 hR1 hS1 hl1 => ih mi pc1 ls1 st1 ws1 ws' ce1 sl1 M P mc ms dp hmi h1 p l e s m args below meth c H1 locs1 la1 C0 hR1 hS1 hl1
    cases ins
    case iconst n =>
      simp only [ylink, Bool.and_eq_true, decide_eq_true_eq] at hlk
      obtain ⟨hlen, hlk⟩ := hlk
      subst hlen
      exact lv_iconst hx hb hdg hlk (go h H locs la hR hS hl)
    case bipush n =>
      simp only [ylink, Bool.and_eq_true, decide_eq_true_eq] at hlk
      obtain ⟨hlen, hlk⟩ := hlk
      subst hlen
      exact lv_bipush hx hb hdg hlk (go h H locs la hR hS hl)
    case sipush n =>
      simp only [ylink, Bool.and_eq_true, decide_eq_true_eq] at hlk
      obtain ⟨hlen, hlk⟩ := hlk
      subst hlen
      exact lv_sipush hx hb hdg hlk (go h H locs la hR hS hl)
    case aload_n k =>
      simp only [ylink, decide_eq_true_eq] at hlk
      subst hlk
      dsimp only at h
      split at h
      · rename_i x hq
        exact lv_aload_n hx hb hdg rfl (zLv_at hl hq) (go h H locs la hR hS hl)
      · cases h
    case iload_n k =>
      simp only [ylink, decide_eq_true_eq] at hlk
      subst hlk
      dsimp only at h
      split at h
      · rename_i x hq
        exact lv_iload_n hx hb hdg rfl (zLv_at hl hq) (go h H locs la hR hS hl)
      · cases h
    case istore_n k =>
      simp only [ylink, decide_eq_true_eq] at hlk
      subst hlk
      dsimp only at h
      split at h
      · split at h
        · rename_i hz
          exact lv_istore_n hx hb hdg rfl hl.2 (hkn _ hz) rfl (fun ls' hl' => go h H locs ls' hR hS (zLv_set hl hz rfl hl'))
        · cases h
      · cases h
    case iinc k n =>
      simp only [ylink, Bool.and_eq_true, decide_eq_true_eq] at hlk
      obtain ⟨hlen, hcv⟩ := hlk
      subst hlen
      dsimp only at h
      split at h
      · rename_i x hq
        split at h
        · rename_i hz
          obtain ⟨j, hj⟩ := List.getElem?_of_mem ((zlv_mem (X := X) ls 0 (k, .int x)).mpr ⟨k, .inl x, hq, by rw [Nat.zero_add]; rfl⟩)
          exact lv_iinc hx hb hdg hl.2 hj (by rw [hcv]) (hkn _ hz) rfl (fun ls' hl' => go h H locs ls' hR hS (zLv_set hl hz rfl hl'))
        · cases h
      · cases h
    case dup =>
      simp only [ylink, decide_eq_true_eq] at hlk
      subst hlk
      dsimp only at h
      split at h
      · exact lv_dup hx hb hdg rfl (go h H locs la hR hS hl)
      · cases h
    case goto o =>
      simp only [ylink, Bool.and_eq_true, decide_eq_true_eq] at hlk
      obtain ⟨hlen, ht⟩ := hlk
      subst hlen
      exact lv_goto hx hb hdg ht (go h H locs la hR hS hl)
    case if_icmp cd o =>
      simp only [ylink, Bool.and_eq_true, decide_eq_true_eq] at hlk
      obtain ⟨hlen, ht⟩ := hlk
      subst hlen
      dsimp only at h
      split at h
      · refine lv_icmp_ge hx hb hdg ht (fun q => ?_) (fun q => ?_)
        · rw [if_pos q] at h
          exact go h H locs la hR hS hl
        · rw [if_neg q] at h
          exact go h H locs la hR hS hl
      · cases h
    case newarray t =>
      simp only [ylink, Bool.and_eq_true, decide_eq_true_eq] at hlk
      obtain ⟨⟨hlen, ha⟩, hty⟩ := hlk
      subst hlen
      dsimp only at h
      split at h
      · split at h
        · rename_i hz
          refine y_newa hx hb (hts _ (ykt_w a ha)) hty (ykt_ty ha) ykt_ra ykt_dv.1 hR hS hz.1 rfl (Nat.le_trans (Nat.mul_le_mul hz.2.1 ykt_dv.2) (by decide)) hz.2.2.1 hz.2.2.2 hdg (fun H1 hR1 hS1 => ?_)
          have k2 := go h H1 locs la hR1 hS1 hl
          rw [List.map_cons, zRx] at k2
          exact k2
        · cases h
      · cases h
    case anewarray i =>
      simp only [ylink, Bool.and_eq_true, Bool.or_eq_true, decide_eq_true_eq] at hlk
      obtain ⟨⟨hlen, ha⟩, w0⟩ := hlk
      subst hlen
      dsimp only at h
      split at h
      · split at h
        · rename_i hz
          have k2 := fun H1 hR1 hS1 => go h H1 locs la hR1 hS1 hl
          simp only [List.map_cons, zRx] at k2
          rcases ha with rfl | rfl
          · exact y_anew (C := RX4) hx hb hown (hts _ (zT_of w0 rfl)) hN.2.1 rfl hR hS hz.1 rfl (by have := hz.2.1; omega) hz.2.2.1 hz.2.2.2 hdg k2
          · exact y_anew (C := RX7) hx hb hown (hts _ (zT_of w0 rfl)) hN.2.2.1 rfl hR hS hz.1 rfl (by have := hz.2.1; omega) hz.2.2.1 hz.2.2.2 hdg k2
        · cases h
      · cases h
    case multianewarray i d =>
      simp only [ylink, Bool.and_eq_true, decide_eq_true_eq] at hlk
      obtain ⟨⟨hlen, hd⟩, w0⟩ := hlk
      subst hlen hd
      dsimp only at h
      split at h
      · split at h
        · rename_i hz
          refine y_multi hx hb hown (hts _ (zT_of w0 rfl)) (Jvm.Stand.arrayOver_alikeB (Vm.Alike.refl s.vm) hN.2.2.2) (hts _ (ykt_w 0 (by omega))) hR hS hz.1.1 hz.1.2.1 rfl rfl hz.1.2.2.1 hz.1.2.2.2 hz.2.1 hz.2.2 hdg (fun H1 hR1 hS1 => ?_)
          have k2 := go h H1 locs la hR1 hS1 hl
          rw [List.map_cons, zRx] at k2
          exact k2
        · cases h
      · cases h
    case new i =>
      dsimp only at h
      split at h
      · rename_i C TT N hcl
        split at h
        · rename_i hz
          simp only [ylink, hcl, Bool.and_eq_true, decide_eq_true_eq] at hlk
          obtain ⟨hlen, ⟨w0, w1⟩, w2⟩ := hlk
          subst hlen
          have ha : a < 11 := (List.getElem?_eq_some_iff.mp hcl).1
          refine y_new hx hb hts (zlay hcl).1 (zty a) (zlay hcl).2.1 hown (hts _ (zT_of w0 rfl)) (hts _ (zT_of w1 rfl)) (hts _ (zT_of w2 rfl)) hR hS hcl (yBl_dv (fun k hk => zcl_ty a ha k (by rw [hcl]; exact hk))) hz.1 hz.2 hdg (fun H1 hR1 hS1 => ?_)
          have k2 := go h H1 locs la hR1 hS1 hl
          rw [List.map_cons, zRx] at k2
          exact k2
        · cases h
      · cases h
    case getfield i =>
      dsimp only at h
      split at h
      · rename_i f q r
        split at h
        · rename_i hf
          subst hf
          split at h
          · rename_i ci fs hw
            split at h
            · rename_i hci
              subst hci
              split at h
              · rename_i v hv
                cases hcl : zcl[ci]? with
                | none =>
                  simp only [ylink, hcl, Bool.and_eq_true, decide_eq_true_eq] at hlk
                  exact absurd hlk.2 (by simp)
                | some z =>
                  obtain ⟨C, TT, N⟩ := z
                  simp only [ylink, hcl, Bool.and_eq_true, decide_eq_true_eq] at hlk
                  obtain ⟨hlen, hbN, w0⟩ := hlk
                  subst hlen
                  have k2 := go h H locs la hR hS hl
                  rw [List.map_cons, zRx]
                  refine va_get hx hb hts (zlay hcl).1 hown hR.1 hR.2.1 q (yWs_at hw) hcl b hbN (hts _ (zT_of w0 rfl)) (fun _ h => h) ?_ hdg k2
                  rw [List.getElem?_map, hv]
                  rfl
              · cases h
            · cases h
          · cases h
        · cases h
      · cases h
    case putfield i =>
      dsimp only at h
      split at h
      · rename_i v f q r
        split at h
        · rename_i hf
          subst hf
          split at h
          · rename_i ci fs hw
            split at h
            · rename_i hz
              obtain ⟨hci, hbl, hfit⟩ := hz
              subst hci
              cases hcl : zcl[ci]? with
              | none =>
                simp only [ylink, hcl, Bool.and_eq_true, decide_eq_true_eq] at hlk
                exact absurd hlk.2 (by simp)
              | some z =>
                obtain ⟨C, TT, N⟩ := z
                simp only [ylink, hcl, Bool.and_eq_true, Bool.or_eq_true, Bool.not_eq_true', decide_eq_true_eq] at hlk
                obtain ⟨hlen, ⟨hbN, w0⟩, hfi⟩ := hlk
                subst hlen
                rw [List.map_cons, List.map_cons, zRx]
                refine y_put hx hb hts (zlay hcl).1 (zty ci) (zlay hcl).2.1 (zlay hcl).2.2 hown hR hS hw hcl hbN (hts _ (zT_of w0 rfl)) (fun z => ⟨hname, ?_⟩) (yFit_ok hfit).1 (yFit_ok hfit).2 hbl hdg (fun H1 locs1 hR1 hS1 => go h H1 locs1 la hR1 hS1 hl)
                rcases hfi with q | q
                · rw [q] at z
                  cases z
                · exact q
            · cases h
          · cases h
        · cases h
      · cases h
    case iastore =>
      simp only [ylink, decide_eq_true_eq] at hlk
      subst hlk
      dsimp only at h
      split at h
      · rename_i x j f q r
        split at h
        · rename_i hf
          subst hf
          split at h
          · rename_i kd vs hw
            split at h
            · rename_i hz
              obtain ⟨hkd, hj, hj2⟩ := hz
              subst hkd
              rw [List.map_cons, List.map_cons, List.map_cons, zRx]
              exact y_iast hx hb hR hS hw (fun q => q.elim hj (fun z => by omega)) hdg (fun H1 locs1 hR1 hS1 => go h H1 locs1 la hR1 hS1 hl)
            · cases h
          · cases h
        · cases h
      · cases h
    case castore =>
      simp only [ylink, decide_eq_true_eq] at hlk
      subst hlk
      dsimp only at h
      split at h
      · rename_i x j f q r
        split at h
        · rename_i hf
          subst hf
          split at h
          · rename_i kd vs hw
            split at h
            · rename_i hz
              obtain ⟨hkd, ⟨hj, hj2⟩, hna⟩ := hz
              subst hkd
              rw [List.map_cons, List.map_cons, List.map_cons, zRx]
              exact y_cast hx hb hR hS hw (fun q => q.elim hj (fun z => by omega)) (yNar hna) hdg (fun H1 locs1 hR1 hS1 => go h H1 locs1 la hR1 hS1 hl)
            · cases h
          · cases h
        · cases h
      · cases h
    case aastore =>
      simp only [ylink, decide_eq_true_eq] at hlk
      subst hlk
      dsimp only at h
      split at h
      · rename_i g v j f q r
        split at h
        · rename_i hf
          obtain ⟨hf, hg⟩ := hf
          subst hf hg
          split at h
          · rename_i kd rs ci fs hw hw2
            split at h
            · rename_i hz
              obtain ⟨hkc, hj, hj2⟩ := hz
              rw [List.map_cons, List.map_cons, List.map_cons, zRx, zRx]
              rcases hkc with ⟨rfl, rfl⟩ | ⟨rfl, rfl⟩
              · exact y_aast hx hb hR hS hw rfl hw2 (r := (RX4, TX4, 12)) rfl (fun q => q.elim hj (fun z => by omega)) hdg (fun H1 locs1 hR1 hS1 => go h H1 locs1 la hR1 hS1 hl)
              · exact y_aast hx hb hR hS hw rfl hw2 (r := (RX7, TX7, 3)) rfl (fun q => q.elim hj (fun z => by omega)) hdg (fun H1 locs1 hR1 hS1 => go h H1 locs1 la hR1 hS1 hl)
            · cases h
          · cases h
        · cases h
      · cases h
    case invokespecial i =>
      dsimp only at h
      cases mj with
      | zero =>
        simp only [ylink, Bool.and_eq_true, decide_eq_true_eq] at hlk
        obtain ⟨hlen, ⟨w0, w1⟩, w2⟩ := hlk
        subst hlen
        dsimp only at h
        split at h
        · rename_i q r
          split at h
          · rename_i hz
            exact W.objInit hx hb hown (hts _ (zT_of w0 rfl)) (hts _ (zT_of w1 rfl)) (hts _ (zT_of w2 rfl)) rfl (hl.2.1.trans hml.symm) rfl hdg (by show 1 ≤ dp + 2; omega) (by show _ + 12 ≤ 100 * (dp + 2); exact Nat.le_trans (Nat.add_le_add_right (lv_room (by rw [zcat_sum]; exact hz)) 12) (by omega)) (go h H locs la hR hS hl)
          · cases h
        · cases h
      | succ mj =>
        dsimp only at h
        cases hmj : T[mj]? with
        | none =>
          rw [hmj] at h
          cases h
        | some z =>
          obtain ⟨⟨y, bt, mL, rt⟩, P', mc', ms', dp'⟩ := z
          rw [hmj] at h
          dsimp only at h
          simp only [ylink, hmj, Bool.and_eq_true, decide_eq_true_eq] at hlk
          obtain ⟨hlen, ⟨⟨⟨⟨⟨⟨⟨⟨⟨w0, w1⟩, w2⟩, w3⟩, hrt⟩, hy1⟩, n1⟩, n2⟩, hpar⟩, hmL⟩⟩ := hlk
          subst hlen hrt
          split at h
          · rename_i f q r hdr
            split at h
            · rename_i hz
              obtain ⟨hsum, hce, hsl, hdp, hzin, hbl⟩ := hz
              split at h
              · rename_i ws1 hcall
                have hM := yMet hT ih hmj hzin hcall l
                have hst2 : st.map (ztr X) = (((st.take b).reverse.map (ztr X)).reverse ++ .ref (X.1 f q) :: r.map (ztr X)) := by
                  conv => lhs; rw [← List.take_append_drop b st, hdr]
                  simp [ztr]
                rw [hst2]
                have hG : GoodIn zT (zws (y, bt, mL, none)) := zGood (M := (y, bt, mL, none)) (ws := []) (zT_of w3 rfl) (fun w hw => absurd hw List.not_mem_nil)
                have hroom : dp' + 2 + 1 ≤ dp + 2 ∧ 8 + (mL + 11) + 100 * (dp' + 2) ≤ 100 * (dp + 2) := by omega
                by_cases ha : a = 1
                · rw [if_pos ha] at w0
                  have hn0 := hN.1 _ (of_decide_eq_true w0)
                  refine y_back (va_runIN (As := (st.take b).reverse.map (ztr X)) (rest := r.map (ztr X)) (nL := M.2.2.1) (bytes := bt) (maxL := mL) (own := M.1.cls) (index := i) (n := b) (host := "ProtocolDesk") ⟨hx, hb, hml, hown, hts⟩ hM ⟨va_cnB b hts hG rfl rfl rfl hn0 (hts _ (zT_of w2 rfl)) ⟨n1, n2, hpar⟩ hroom, hy1, hts _ (zT_of w1 rfl)⟩ ⟨yPc_blind, fun U hU hW => yPc_at (as := .inr (.inr (f, q)) :: (st.take b).reverse) hN hR hU hW⟩ rfl (by simp [hbl]) hl.2.1 rfl (lv_room (by rw [zcat_sum]; exact hsum)) hdg ⟨hce, hsl⟩) hS (fun H1 locs1 hR1 hS1 => go h H1 locs1 la hR1 hS1 hl)
                · rw [if_neg ha] at w0
                  refine y_back (va_runI (As := (st.take b).reverse.map (ztr X)) (rest := r.map (ztr X)) (nL := M.2.2.1) (bytes := bt) (maxL := mL) (own := M.1.cls) (index := i) (n := b) ⟨hx, hb, hml, hown, hts⟩ hM (cwI b hts hG rfl rfl rfl (hts _ (zT_of w2 rfl)) (hts _ (zT_of w0 rfl)) (hts _ (zT_of w1 rfl)) hy1 ⟨n1, n2, hpar⟩ hroom) ⟨yPc_blind, fun U hU hW => yPc_at (as := .inr (.inr (f, q)) :: (st.take b).reverse) hN hR hU hW⟩ rfl (by simp [hbl]) hl.2.1 rfl (lv_room (by rw [zcat_sum]; exact hsum)) hdg ⟨hce, hsl⟩) hS (fun H1 locs1 hR1 hS1 => go h H1 locs1 la hR1 hS1 hl)
              · cases h
            · cases h
          · cases h
    case return_ =>
      simp only [ylink, decide_eq_true_eq] at hlk
      subst hlk
      dsimp only at h
      split at h
      · split at h
        · rename_i hz
          cases h
          exact W.widen hz.1 hz.2 (W.vret hx hb hr (fun t ht hW => ⟨⟨rfl, by rw [ht]; exact yRmov hW.alike hR⟩, hS.F ht⟩) hS.2.2 hdg hlocks)
        · cases h
      · cases h
    all_goals cases h
/-! CONSTRUCTORS: their instructions -/
def n_Ru : zMth := (yX4_init, cX4_init, 1, none)
def Y_Ru : List yEn := [
  (0, .aload_n 0, 1, 0, 0, 0, 0, []),
  (1, .invokespecial 1, 3, 0, 0, 0, 0, [171, 91, 92]),
  (4, .aload_n 0, 1, 0, 0, 0, 0, []),
  (5, .iconst 4, 1, 0, 0, 4, 0, []),
  (6, .newarray .boolean, 2, 1, 0, 0, 0, []),
  (8, .putfield 9, 3, 4, 7, 0, 0, [187]),
  (11, .aload_n 0, 1, 0, 0, 0, 0, []),
  (12, .iconst 4, 1, 0, 0, 4, 0, []),
  (13, .newarray .boolean, 2, 1, 0, 0, 0, []),
  (15, .putfield 13, 3, 4, 8, 0, 0, [189]),
  (18, .aload_n 0, 1, 0, 0, 0, 0, []),
  (19, .iconst 4, 1, 0, 0, 4, 0, []),
  (20, .newarray .int, 2, 0, 0, 0, 0, []),
  (22, .putfield 16, 3, 4, 9, 0, 0, [191]),
  (25, .aload_n 0, 1, 0, 0, 0, 0, []),
  (26, .iconst 4, 1, 0, 0, 4, 0, []),
  (27, .newarray .int, 2, 0, 0, 0, 0, []),
  (29, .putfield 20, 3, 4, 10, 0, 0, [193]),
  (32, .aload_n 0, 1, 0, 0, 0, 0, []),
  (33, .iconst 4, 1, 0, 0, 4, 0, []),
  (34, .newarray .int, 2, 0, 0, 0, 0, []),
  (36, .putfield 23, 3, 4, 11, 0, 0, [195]),
  (39, .return_, 1, 0, 0, 0, 0, [])]
def n_Tb : zMth := (yX7_init, cX7_init, 1, none)
def Y_Tb : List yEn := [
  (0, .aload_n 0, 1, 0, 0, 0, 0, []),
  (1, .invokespecial 3, 3, 0, 0, 0, 0, [302, 91, 92]),
  (4, .aload_n 0, 1, 0, 0, 0, 0, []),
  (5, .bipush 12, 2, 0, 0, 12, 0, []),
  (7, .newarray .int, 2, 0, 0, 0, 0, []),
  (9, .putfield 11, 3, 7, 1, 0, 0, [306]),
  (12, .return_, 1, 0, 0, 0, 0, [])]
def n_Ro : zMth := (yX3_init, cX3_init, 1, none)
def Y_Ro : List yEn := [
  (0, .aload_n 0, 1, 0, 0, 0, 0, []),
  (1, .invokespecial 3, 3, 0, 0, 0, 0, [98, 91, 92]),
  (4, .aload_n 0, 1, 0, 0, 0, 0, []),
  (5, .bipush 20, 2, 0, 0, 20, 0, []),
  (7, .newarray .int, 2, 0, 0, 0, 0, []),
  (9, .putfield 11, 3, 3, 2, 0, 0, [106]),
  (12, .aload_n 0, 1, 0, 0, 0, 0, []),
  (13, .bipush 20, 2, 0, 0, 20, 0, []),
  (15, .newarray .int, 2, 0, 0, 0, 0, []),
  (17, .putfield 15, 3, 3, 3, 0, 0, [109]),
  (20, .aload_n 0, 1, 0, 0, 0, 0, []),
  (21, .bipush 20, 2, 0, 0, 20, 0, []),
  (23, .bipush 7, 2, 0, 0, 7, 0, []),
  (25, .multianewarray 18 2, 4, 4, 0, 0, 0, [99]),
  (29, .putfield 20, 3, 3, 4, 0, 0, [111]),
  (32, .aload_n 0, 1, 0, 0, 0, 0, []),
  (33, .bipush 10, 2, 0, 0, 10, 0, []),
  (35, .newarray .int, 2, 0, 0, 0, 0, []),
  (37, .putfield 23, 3, 3, 5, 0, 0, [115]),
  (40, .aload_n 0, 1, 0, 0, 0, 0, []),
  (41, .bipush 10, 2, 0, 0, 10, 0, []),
  (43, .newarray .int, 2, 0, 0, 0, 0, []),
  (45, .putfield 26, 3, 3, 6, 0, 0, [116]),
  (48, .aload_n 0, 1, 0, 0, 0, 0, []),
  (49, .bipush 20, 2, 0, 0, 20, 0, []),
  (51, .newarray .int, 2, 0, 0, 0, 0, []),
  (53, .putfield 29, 3, 3, 7, 0, 0, [117]),
  (56, .aload_n 0, 1, 0, 0, 0, 0, []),
  (57, .bipush 20, 2, 0, 0, 20, 0, []),
  (59, .newarray .int, 2, 0, 0, 0, 0, []),
  (61, .putfield 32, 3, 3, 8, 0, 0, [118]),
  (64, .return_, 1, 0, 0, 0, 0, [])]
def n_Tp : zMth := (yX8_init, cX8_init, 1, none)
def Y_Tp : List yEn := [
  (0, .aload_n 0, 1, 0, 0, 0, 0, []),
  (1, .invokespecial 3, 3, 0, 0, 0, 0, [144, 91, 92]),
  (4, .aload_n 0, 1, 0, 0, 0, 0, []),
  (5, .sipush 200, 3, 0, 0, 200, 0, []),
  (8, .newarray .int, 2, 0, 0, 0, 0, []),
  (10, .putfield 11, 3, 8, 1, 0, 0, [147]),
  (13, .return_, 1, 0, 0, 0, 0, [])]
def n_Bo : zMth := (yX5_init, cX5_init, 3, none)
def Y_Bo : List yEn := [
  (0, .aload_n 0, 1, 0, 0, 0, 0, []),
  (1, .invokespecial 3, 3, 0, 0, 0, 0, [164, 91, 92]),
  (4, .aload_n 0, 1, 0, 0, 0, 0, []),
  (5, .bipush 16, 2, 0, 0, 16, 0, []),
  (7, .anewarray 11, 3, 5, 0, 0, 0, [165]),
  (10, .putfield 13, 3, 5, 2, 0, 0, [227]),
  (13, .aload_n 0, 1, 0, 0, 0, 0, []),
  (14, .bipush 20, 2, 0, 0, 20, 0, []),
  (16, .newarray .int, 2, 0, 0, 0, 0, []),
  (18, .putfield 17, 3, 5, 3, 0, 0, [229]),
  (21, .aload_n 0, 1, 0, 0, 0, 0, []),
  (22, .bipush 20, 2, 0, 0, 20, 0, []),
  (24, .newarray .int, 2, 0, 0, 0, 0, []),
  (26, .putfield 21, 3, 5, 4, 0, 0, [230]),
  (29, .aload_n 0, 1, 0, 0, 0, 0, []),
  (30, .aload_n 1, 1, 0, 0, 0, 0, []),
  (31, .putfield 24, 3, 5, 5, 0, 0, [231]),
  (34, .iconst 0, 1, 0, 0, 0, 0, []),
  (35, .istore_n 2, 1, 0, 0, 0, 0, []),
  (36, .iload_n 2, 1, 0, 0, 0, 0, []),
  (37, .bipush 16, 2, 0, 0, 16, 0, []),
  (39, .if_icmp .ge 22, 3, 61, 0, 0, 0, []),
  (42, .aload_n 0, 1, 0, 0, 0, 0, []),
  (43, .getfield 13, 3, 5, 2, 0, 0, [227]),
  (46, .iload_n 2, 1, 0, 0, 0, 0, []),
  (47, .new 11, 3, 4, 0, 0, 0, [165, 167, 70]),
  (50, .dup, 1, 0, 0, 0, 0, []),
  (51, .invokespecial 28, 3, 1, 0, 0, 1, [168, 169, 70, 170]),
  (54, .aastore, 1, 0, 0, 0, 0, []),
  (55, .iinc 2 1, 3, 0, 0, 1, 0, []),
  (58, .goto (-22), 3, 36, 0, 0, 0, []),
  (61, .return_, 1, 0, 0, 0, 0, [])]
def n_Pr : zMth := (yX2_init, cX2_init, 3, none)
def Y_Pr : List yEn := [
  (0, .aload_n 0, 1, 0, 0, 0, 0, []),
  (1, .invokespecial 3, 3, 0, 0, 0, 0, [250, 91, 92]),
  (4, .aload_n 0, 1, 0, 0, 0, 0, []),
  (5, .bipush 20, 2, 0, 0, 20, 0, []),
  (7, .newarray .int, 2, 0, 0, 0, 0, []),
  (9, .putfield 11, 3, 2, 2, 0, 0, [257]),
  (12, .aload_n 0, 1, 0, 0, 0, 0, []),
  (13, .bipush 20, 2, 0, 0, 20, 0, []),
  (15, .newarray .int, 2, 0, 0, 0, 0, []),
  (17, .putfield 17, 3, 2, 3, 0, 0, [260]),
  (20, .aload_n 0, 1, 0, 0, 0, 0, []),
  (21, .bipush 20, 2, 0, 0, 20, 0, []),
  (23, .newarray .boolean, 2, 1, 0, 0, 0, []),
  (25, .putfield 20, 3, 2, 4, 0, 0, [262]),
  (28, .aload_n 0, 1, 0, 0, 0, 0, []),
  (29, .bipush 20, 2, 0, 0, 20, 0, []),
  (31, .newarray .int, 2, 0, 0, 0, 0, []),
  (33, .putfield 24, 3, 2, 5, 0, 0, [263]),
  (36, .aload_n 0, 1, 0, 0, 0, 0, []),
  (37, .bipush 20, 2, 0, 0, 20, 0, []),
  (39, .newarray .int, 2, 0, 0, 0, 0, []),
  (41, .putfield 27, 3, 2, 6, 0, 0, [264]),
  (44, .aload_n 0, 1, 0, 0, 0, 0, []),
  (45, .bipush 20, 2, 0, 0, 20, 0, []),
  (47, .bipush 20, 2, 0, 0, 20, 0, []),
  (49, .multianewarray 30 2, 4, 4, 0, 0, 0, [251]),
  (53, .putfield 32, 3, 2, 7, 0, 0, [265]),
  (56, .aload_n 0, 1, 0, 0, 0, 0, []),
  (57, .aload_n 1, 1, 0, 0, 0, 0, []),
  (58, .putfield 35, 3, 2, 8, 0, 0, [266]),
  (61, .aload_n 0, 1, 0, 0, 0, 0, []),
  (62, .aload_n 2, 1, 0, 0, 0, 0, []),
  (63, .putfield 39, 3, 2, 9, 0, 0, [267]),
  (66, .return_, 1, 0, 0, 0, 0, [])]
def n_Ha : zMth := (yX1_init, cX1_init, 3, none)
def Y_Ha : List yEn := [
  (0, .aload_n 0, 1, 0, 0, 0, 0, []),
  (1, .invokespecial 3, 3, 0, 0, 0, 0, [294, 91, 92]),
  (4, .aload_n 0, 1, 0, 0, 0, 0, []),
  (5, .iconst 4, 1, 0, 0, 4, 0, []),
  (6, .anewarray 11, 3, 6, 0, 0, 0, [295]),
  (9, .putfield 13, 3, 1, 1, 0, 0, [320]),
  (12, .aload_n 0, 1, 0, 0, 0, 0, []),
  (13, .bipush 10, 2, 0, 0, 10, 0, []),
  (15, .bipush 10, 2, 0, 0, 10, 0, []),
  (17, .multianewarray 19 2, 4, 4, 0, 0, 0, [297]),
  (21, .putfield 21, 3, 1, 2, 0, 0, [322]),
  (24, .aload_n 0, 1, 0, 0, 0, 0, []),
  (25, .bipush 8, 2, 0, 0, 8, 0, []),
  (27, .bipush 8, 2, 0, 0, 8, 0, []),
  (29, .multianewarray 19 2, 4, 4, 0, 0, 0, [297]),
  (33, .putfield 24, 3, 1, 3, 0, 0, [323]),
  (36, .aload_n 0, 1, 0, 0, 0, 0, []),
  (37, .bipush 20, 2, 0, 0, 20, 0, []),
  (39, .newarray .int, 2, 0, 0, 0, 0, []),
  (41, .putfield 27, 3, 1, 4, 0, 0, [324]),
  (44, .aload_n 0, 1, 0, 0, 0, 0, []),
  (45, .aload_n 1, 1, 0, 0, 0, 0, []),
  (46, .putfield 31, 3, 1, 5, 0, 0, [325]),
  (49, .iconst 0, 1, 0, 0, 0, 0, []),
  (50, .istore_n 2, 1, 0, 0, 0, 0, []),
  (51, .iload_n 2, 1, 0, 0, 0, 0, []),
  (52, .iconst 4, 1, 0, 0, 4, 0, []),
  (53, .if_icmp .ge 22, 3, 75, 0, 0, 0, []),
  (56, .aload_n 0, 1, 0, 0, 0, 0, []),
  (57, .getfield 13, 3, 1, 1, 0, 0, [320]),
  (60, .iload_n 2, 1, 0, 0, 0, 0, []),
  (61, .new 11, 3, 7, 0, 0, 0, [295, 298, 73]),
  (64, .dup, 1, 0, 0, 0, 0, []),
  (65, .invokespecial 35, 3, 1, 0, 0, 2, [299, 300, 73, 301]),
  (68, .aastore, 1, 0, 0, 0, 0, []),
  (69, .iinc 2 1, 3, 0, 0, 1, 0, []),
  (72, .goto (-21), 3, 51, 0, 0, 0, []),
  (75, .return_, 1, 0, 0, 0, 0, [])]
def n_Se : zMth := (yX6_init, cX6_init, 2, none)
def Y_Se : List yEn := [
  (0, .aload_n 0, 1, 0, 0, 0, 0, []),
  (1, .invokespecial 3, 3, 0, 0, 0, 0, [344, 91, 92]),
  (4, .aload_n 0, 1, 0, 0, 0, 0, []),
  (5, .bipush 7, 2, 0, 0, 7, 0, []),
  (7, .newarray .int, 2, 0, 0, 0, 0, []),
  (9, .putfield 11, 3, 6, 0, 0, 0, [345]),
  (12, .aload_n 0, 1, 0, 0, 0, 0, []),
  (13, .bipush 7, 2, 0, 0, 7, 0, []),
  (15, .newarray .boolean, 2, 1, 0, 0, 0, []),
  (17, .putfield 15, 3, 6, 1, 0, 0, [346]),
  (20, .aload_n 0, 1, 0, 0, 0, 0, []),
  (21, .bipush 12, 2, 0, 0, 12, 0, []),
  (23, .newarray .int, 2, 0, 0, 0, 0, []),
  (25, .putfield 21, 3, 6, 2, 0, 0, [347]),
  (28, .aload_n 0, 1, 0, 0, 0, 0, []),
  (29, .bipush 12, 2, 0, 0, 12, 0, []),
  (31, .newarray .int, 2, 0, 0, 0, 0, []),
  (33, .putfield 24, 3, 6, 3, 0, 0, [348]),
  (36, .aload_n 0, 1, 0, 0, 0, 0, []),
  (37, .aload_n 1, 1, 0, 0, 0, 0, []),
  (38, .putfield 27, 3, 6, 4, 0, 0, [349]),
  (41, .return_, 1, 0, 0, 0, 0, [])]
def n_Ca : zMth := (yX0_init, cX0_init, 1, none)
def Y_Ca : List yEn := [
  (0, .aload_n 0, 1, 0, 0, 0, 0, []),
  (1, .invokespecial 3, 3, 0, 0, 0, 0, [372, 91, 92]),
  (4, .aload_n 0, 1, 0, 0, 0, 0, []),
  (5, .bipush 10, 2, 0, 0, 10, 0, []),
  (7, .putfield 9, 3, 0, 1, 0, 0, [375]),
  (10, .aload_n 0, 1, 0, 0, 0, 0, []),
  (11, .bipush 40, 2, 0, 0, 40, 0, []),
  (13, .newarray .int, 2, 0, 0, 0, 0, []),
  (15, .putfield 15, 3, 0, 2, 0, 0, [377]),
  (18, .aload_n 0, 1, 0, 0, 0, 0, []),
  (19, .bipush 40, 2, 0, 0, 40, 0, []),
  (21, .newarray .int, 2, 0, 0, 0, 0, []),
  (23, .putfield 19, 3, 0, 3, 0, 0, [379]),
  (26, .aload_n 0, 1, 0, 0, 0, 0, []),
  (27, .bipush 40, 2, 0, 0, 40, 0, []),
  (29, .newarray .int, 2, 0, 0, 0, 0, []),
  (31, .putfield 22, 3, 0, 4, 0, 0, [380]),
  (34, .return_, 1, 0, 0, 0, 0, [])]
def n_De : zMth := (yX9_init, cX9_init, 1, none)
def Y_De : List yEn := [
  (0, .aload_n 0, 1, 0, 0, 0, 0, []),
  (1, .invokespecial 1, 3, 0, 0, 0, 0, [90, 91, 92]),
  (4, .aload_n 0, 1, 0, 0, 0, 0, []),
  (5, .new 7, 3, 3, 0, 0, 0, [93, 94, 67]),
  (8, .dup, 1, 0, 0, 0, 0, []),
  (9, .invokespecial 9, 3, 1, 0, 0, 3, [95, 96, 67, 97]),
  (12, .putfield 10, 3, 9, 0, 0, 0, [392]),
  (15, .aload_n 0, 1, 0, 0, 0, 0, []),
  (16, .new 16, 3, 8, 0, 0, 0, [139, 140, 68]),
  (19, .dup, 1, 0, 0, 0, 0, []),
  (20, .invokespecial 18, 3, 1, 0, 0, 4, [141, 142, 68, 143]),
  (23, .putfield 19, 3, 9, 1, 0, 0, [393]),
  (26, .aload_n 0, 1, 0, 0, 0, 0, []),
  (27, .new 23, 3, 5, 0, 0, 0, [159, 160, 69]),
  (30, .dup, 1, 0, 0, 0, 0, []),
  (31, .aload_n 0, 1, 0, 0, 0, 0, []),
  (32, .getfield 10, 3, 9, 0, 0, 0, [392]),
  (35, .invokespecial 25, 3, 0, 1, 0, 5, [161, 162, 69, 163]),
  (38, .putfield 28, 3, 9, 2, 0, 0, [394]),
  (41, .aload_n 0, 1, 0, 0, 0, 0, []),
  (42, .new 32, 3, 2, 0, 0, 0, [245, 246, 71]),
  (45, .dup, 1, 0, 0, 0, 0, []),
  (46, .aload_n 0, 1, 0, 0, 0, 0, []),
  (47, .getfield 10, 3, 9, 0, 0, 0, [392]),
  (50, .aload_n 0, 1, 0, 0, 0, 0, []),
  (51, .getfield 28, 3, 9, 2, 0, 0, [394]),
  (54, .invokespecial 34, 3, 0, 2, 0, 6, [247, 248, 71, 249]),
  (57, .putfield 37, 3, 9, 3, 0, 0, [395]),
  (60, .aload_n 0, 1, 0, 0, 0, 0, []),
  (61, .new 41, 3, 1, 0, 0, 0, [289, 290, 72]),
  (64, .dup, 1, 0, 0, 0, 0, []),
  (65, .aload_n 0, 1, 0, 0, 0, 0, []),
  (66, .getfield 10, 3, 9, 0, 0, 0, [392]),
  (69, .invokespecial 43, 3, 0, 1, 0, 7, [291, 292, 72, 293]),
  (72, .putfield 44, 3, 9, 4, 0, 0, [396]),
  (75, .aload_n 0, 1, 0, 0, 0, 0, []),
  (76, .new 48, 3, 6, 0, 0, 0, [339, 340, 74]),
  (79, .dup, 1, 0, 0, 0, 0, []),
  (80, .aload_n 0, 1, 0, 0, 0, 0, []),
  (81, .getfield 44, 3, 9, 4, 0, 0, [396]),
  (84, .invokespecial 50, 3, 0, 1, 0, 8, [341, 342, 74, 343]),
  (87, .putfield 53, 3, 9, 5, 0, 0, [397]),
  (90, .aload_n 0, 1, 0, 0, 0, 0, []),
  (91, .new 57, 3, 0, 0, 0, 0, [367, 368, 75]),
  (94, .dup, 1, 0, 0, 0, 0, []),
  (95, .invokespecial 59, 3, 1, 0, 0, 9, [369, 370, 75, 371]),
  (98, .putfield 60, 3, 9, 6, 0, 0, [398]),
  (101, .return_, 1, 0, 0, 0, 0, [])]
def n_Mo : zMth := (yX10_init, cX10_init, 1, none)
def Y_Mo : List yEn := [
  (0, .aload_n 0, 1, 0, 0, 0, 0, []),
  (1, .invokespecial 1, 3, 0, 0, 0, 0, [996, 91, 92]),
  (4, .aload_n 0, 1, 0, 0, 0, 0, []),
  (5, .bipush 10, 2, 0, 0, 10, 0, []),
  (7, .newarray .int, 2, 0, 0, 0, 0, []),
  (9, .putfield 7, 3, 10, 1, 0, 0, [998]),
  (12, .aload_n 0, 1, 0, 0, 0, 0, []),
  (13, .bipush 10, 2, 0, 0, 10, 0, []),
  (15, .newarray .int, 2, 0, 0, 0, 0, []),
  (17, .putfield 13, 3, 10, 2, 0, 0, [999]),
  (20, .aload_n 0, 1, 0, 0, 0, 0, []),
  (21, .bipush 100, 2, 0, 0, 100, 0, []),
  (23, .newarray .boolean, 2, 1, 0, 0, 0, []),
  (25, .putfield 16, 3, 10, 3, 0, 0, [1000]),
  (28, .aload_n 0, 1, 0, 0, 0, 0, []),
  (29, .bipush 64, 2, 0, 0, 64, 0, []),
  (31, .newarray .int, 2, 0, 0, 0, 0, []),
  (33, .putfield 20, 3, 10, 4, 0, 0, [1001]),
  (36, .aload_n 0, 1, 0, 0, 0, 0, []),
  (37, .bipush 20, 2, 0, 0, 20, 0, []),
  (39, .newarray .int, 2, 0, 0, 0, 0, []),
  (41, .putfield 23, 3, 10, 6, 0, 0, [1003]),
  (44, .aload_n 0, 1, 0, 0, 0, 0, []),
  (45, .bipush 20, 2, 0, 0, 20, 0, []),
  (47, .newarray .int, 2, 0, 0, 0, 0, []),
  (49, .putfield 26, 3, 10, 7, 0, 0, [1004]),
  (52, .aload_n 0, 1, 0, 0, 0, 0, []),
  (53, .bipush 20, 2, 0, 0, 20, 0, []),
  (55, .newarray .int, 2, 0, 0, 0, 0, []),
  (57, .putfield 29, 3, 10, 8, 0, 0, [1005]),
  (60, .aload_n 0, 1, 0, 0, 0, 0, []),
  (61, .bipush 20, 2, 0, 0, 20, 0, []),
  (63, .newarray .int, 2, 0, 0, 0, 0, []),
  (65, .putfield 32, 3, 10, 9, 0, 0, [1006]),
  (68, .aload_n 0, 1, 0, 0, 0, 0, []),
  (69, .bipush 20, 2, 0, 0, 20, 0, []),
  (71, .newarray .int, 2, 0, 0, 0, 0, []),
  (73, .putfield 35, 3, 10, 10, 0, 0, [1007]),
  (76, .aload_n 0, 1, 0, 0, 0, 0, []),
  (77, .bipush 20, 2, 0, 0, 20, 0, []),
  (79, .newarray .int, 2, 0, 0, 0, 0, []),
  (81, .putfield 38, 3, 10, 11, 0, 0, [1008]),
  (84, .aload_n 0, 1, 0, 0, 0, 0, []),
  (85, .bipush 20, 2, 0, 0, 20, 0, []),
  (87, .newarray .boolean, 2, 1, 0, 0, 0, []),
  (89, .putfield 41, 3, 10, 12, 0, 0, [1009]),
  (92, .aload_n 0, 1, 0, 0, 0, 0, []),
  (93, .sipush 200, 3, 0, 0, 200, 0, []),
  (96, .newarray .byte, 2, 2, 0, 0, 0, []),
  (98, .putfield 44, 3, 10, 13, 0, 0, [1010]),
  (101, .aload_n 0, 1, 0, 0, 0, 0, []),
  (102, .bipush 16, 2, 0, 0, 16, 0, []),
  (104, .newarray .int, 2, 0, 0, 0, 0, []),
  (106, .putfield 48, 3, 10, 16, 0, 0, [1013]),
  (109, .aload_n 0, 1, 0, 0, 0, 0, []),
  (110, .bipush 16, 2, 0, 0, 16, 0, []),
  (112, .newarray .int, 2, 0, 0, 0, 0, []),
  (114, .putfield 51, 3, 10, 17, 0, 0, [1014]),
  (117, .aload_n 0, 1, 0, 0, 0, 0, []),
  (118, .bipush 16, 2, 0, 0, 16, 0, []),
  (120, .newarray .boolean, 2, 1, 0, 0, 0, []),
  (122, .putfield 54, 3, 10, 18, 0, 0, [1015]),
  (125, .aload_n 0, 1, 0, 0, 0, 0, []),
  (126, .bipush 16, 2, 0, 0, 16, 0, []),
  (128, .newarray .boolean, 2, 1, 0, 0, 0, []),
  (130, .putfield 57, 3, 10, 19, 0, 0, [1016]),
  (133, .aload_n 0, 1, 0, 0, 0, 0, []),
  (134, .bipush 16, 2, 0, 0, 16, 0, []),
  (136, .newarray .int, 2, 0, 0, 0, 0, []),
  (138, .putfield 60, 3, 10, 20, 0, 0, [1017]),
  (141, .aload_n 0, 1, 0, 0, 0, 0, []),
  (142, .bipush 16, 2, 0, 0, 16, 0, []),
  (144, .newarray .int, 2, 0, 0, 0, 0, []),
  (146, .putfield 63, 3, 10, 21, 0, 0, [1018]),
  (149, .aload_n 0, 1, 0, 0, 0, 0, []),
  (150, .bipush 16, 2, 0, 0, 16, 0, []),
  (152, .newarray .int, 2, 0, 0, 0, 0, []),
  (154, .putfield 66, 3, 10, 22, 0, 0, [1019]),
  (157, .aload_n 0, 1, 0, 0, 0, 0, []),
  (158, .bipush 64, 2, 0, 0, 64, 0, []),
  (160, .newarray .boolean, 2, 1, 0, 0, 0, []),
  (162, .putfield 69, 3, 10, 23, 0, 0, [1020]),
  (165, .aload_n 0, 1, 0, 0, 0, 0, []),
  (166, .bipush 64, 2, 0, 0, 64, 0, []),
  (168, .newarray .boolean, 2, 1, 0, 0, 0, []),
  (170, .putfield 72, 3, 10, 24, 0, 0, [1021]),
  (173, .aload_n 0, 1, 0, 0, 0, 0, []),
  (174, .bipush 64, 2, 0, 0, 64, 0, []),
  (176, .newarray .int, 2, 0, 0, 0, 0, []),
  (178, .putfield 75, 3, 10, 25, 0, 0, [1022]),
  (181, .aload_n 0, 1, 0, 0, 0, 0, []),
  (182, .bipush 64, 2, 0, 0, 64, 0, []),
  (184, .newarray .int, 2, 0, 0, 0, 0, []),
  (186, .putfield 78, 3, 10, 26, 0, 0, [1023]),
  (189, .aload_n 0, 1, 0, 0, 0, 0, []),
  (190, .bipush 64, 2, 0, 0, 64, 0, []),
  (192, .newarray .int, 2, 0, 0, 0, 0, []),
  (194, .putfield 81, 3, 10, 27, 0, 0, [1024]),
  (197, .aload_n 0, 1, 0, 0, 0, 0, []),
  (198, .bipush 33, 2, 0, 0, 33, 0, []),
  (200, .newarray .char, 2, 3, 0, 0, 0, []),
  (202, .dup, 1, 0, 0, 0, 0, []),
  (203, .iconst 0, 1, 0, 0, 0, 0, []),
  (204, .bipush 114, 2, 0, 0, 114, 0, []),
  (206, .castore, 1, 0, 0, 0, 0, []),
  (207, .dup, 1, 0, 0, 0, 0, []),
  (208, .iconst 1, 1, 0, 0, 1, 0, []),
  (209, .bipush 97, 2, 0, 0, 97, 0, []),
  (211, .castore, 1, 0, 0, 0, 0, []),
  (212, .dup, 1, 0, 0, 0, 0, []),
  (213, .iconst 2, 1, 0, 0, 2, 0, []),
  (214, .bipush 110, 2, 0, 0, 110, 0, []),
  (216, .castore, 1, 0, 0, 0, 0, []),
  (217, .dup, 1, 0, 0, 0, 0, []),
  (218, .iconst 3, 1, 0, 0, 3, 0, []),
  (219, .bipush 107, 2, 0, 0, 107, 0, []),
  (221, .castore, 1, 0, 0, 0, 0, []),
  (222, .dup, 1, 0, 0, 0, 0, []),
  (223, .iconst 4, 1, 0, 0, 4, 0, []),
  (224, .bipush 112, 2, 0, 0, 112, 0, []),
  (226, .castore, 1, 0, 0, 0, 0, []),
  (227, .dup, 1, 0, 0, 0, 0, []),
  (228, .iconst 5, 1, 0, 0, 5, 0, []),
  (229, .bipush 97, 2, 0, 0, 97, 0, []),
  (231, .castore, 1, 0, 0, 0, 0, []),
  (232, .dup, 1, 0, 0, 0, 0, []),
  (233, .bipush 6, 2, 0, 0, 6, 0, []),
  (235, .bipush 112, 2, 0, 0, 112, 0, []),
  (237, .castore, 1, 0, 0, 0, 0, []),
  (238, .dup, 1, 0, 0, 0, 0, []),
  (239, .bipush 7, 2, 0, 0, 7, 0, []),
  (241, .bipush 101, 2, 0, 0, 101, 0, []),
  (243, .castore, 1, 0, 0, 0, 0, []),
  (244, .dup, 1, 0, 0, 0, 0, []),
  (245, .bipush 8, 2, 0, 0, 8, 0, []),
  (247, .bipush 114, 2, 0, 0, 114, 0, []),
  (249, .castore, 1, 0, 0, 0, 0, []),
  (250, .dup, 1, 0, 0, 0, 0, []),
  (251, .bipush 9, 2, 0, 0, 9, 0, []),
  (253, .bipush 110, 2, 0, 0, 110, 0, []),
  (255, .castore, 1, 0, 0, 0, 0, []),
  (256, .dup, 1, 0, 0, 0, 0, []),
  (257, .bipush 10, 2, 0, 0, 10, 0, []),
  (259, .bipush 97, 2, 0, 0, 97, 0, []),
  (261, .castore, 1, 0, 0, 0, 0, []),
  (262, .dup, 1, 0, 0, 0, 0, []),
  (263, .bipush 11, 2, 0, 0, 11, 0, []),
  (265, .bipush 109, 2, 0, 0, 109, 0, []),
  (267, .castore, 1, 0, 0, 0, 0, []),
  (268, .dup, 1, 0, 0, 0, 0, []),
  (269, .bipush 12, 2, 0, 0, 12, 0, []),
  (271, .bipush 101, 2, 0, 0, 101, 0, []),
  (273, .castore, 1, 0, 0, 0, 0, []),
  (274, .dup, 1, 0, 0, 0, 0, []),
  (275, .bipush 13, 2, 0, 0, 13, 0, []),
  (277, .bipush 115, 2, 0, 0, 115, 0, []),
  (279, .castore, 1, 0, 0, 0, 0, []),
  (280, .dup, 1, 0, 0, 0, 0, []),
  (281, .bipush 14, 2, 0, 0, 14, 0, []),
  (283, .bipush 105, 2, 0, 0, 105, 0, []),
  (285, .castore, 1, 0, 0, 0, 0, []),
  (286, .dup, 1, 0, 0, 0, 0, []),
  (287, .bipush 15, 2, 0, 0, 15, 0, []),
  (289, .bipush 110, 2, 0, 0, 110, 0, []),
  (291, .castore, 1, 0, 0, 0, 0, []),
  (292, .dup, 1, 0, 0, 0, 0, []),
  (293, .bipush 16, 2, 0, 0, 16, 0, []),
  (295, .bipush 99, 2, 0, 0, 99, 0, []),
  (297, .castore, 1, 0, 0, 0, 0, []),
  (298, .dup, 1, 0, 0, 0, 0, []),
  (299, .bipush 17, 2, 0, 0, 17, 0, []),
  (301, .bipush 101, 2, 0, 0, 101, 0, []),
  (303, .castore, 1, 0, 0, 0, 0, []),
  (304, .dup, 1, 0, 0, 0, 0, []),
  (305, .bipush 18, 2, 0, 0, 18, 0, []),
  (307, .bipush 107, 2, 0, 0, 107, 0, []),
  (309, .castore, 1, 0, 0, 0, 0, []),
  (310, .dup, 1, 0, 0, 0, 0, []),
  (311, .bipush 19, 2, 0, 0, 19, 0, []),
  (313, .bipush 105, 2, 0, 0, 105, 0, []),
  (315, .castore, 1, 0, 0, 0, 0, []),
  (316, .dup, 1, 0, 0, 0, 0, []),
  (317, .bipush 20, 2, 0, 0, 20, 0, []),
  (319, .bipush 110, 2, 0, 0, 110, 0, []),
  (321, .castore, 1, 0, 0, 0, 0, []),
  (322, .dup, 1, 0, 0, 0, 0, []),
  (323, .bipush 21, 2, 0, 0, 21, 0, []),
  (325, .bipush 100, 2, 0, 0, 100, 0, []),
  (327, .castore, 1, 0, 0, 0, 0, []),
  (328, .dup, 1, 0, 0, 0, 0, []),
  (329, .bipush 22, 2, 0, 0, 22, 0, []),
  (331, .bipush 115, 2, 0, 0, 115, 0, []),
  (333, .castore, 1, 0, 0, 0, 0, []),
  (334, .dup, 1, 0, 0, 0, 0, []),
  (335, .bipush 23, 2, 0, 0, 23, 0, []),
  (337, .bipush 116, 2, 0, 0, 116, 0, []),
  (339, .castore, 1, 0, 0, 0, 0, []),
  (340, .dup, 1, 0, 0, 0, 0, []),
  (341, .bipush 24, 2, 0, 0, 24, 0, []),
  (343, .bipush 97, 2, 0, 0, 97, 0, []),
  (345, .castore, 1, 0, 0, 0, 0, []),
  (346, .dup, 1, 0, 0, 0, 0, []),
  (347, .bipush 25, 2, 0, 0, 25, 0, []),
  (349, .bipush 116, 2, 0, 0, 116, 0, []),
  (351, .castore, 1, 0, 0, 0, 0, []),
  (352, .dup, 1, 0, 0, 0, 0, []),
  (353, .bipush 26, 2, 0, 0, 26, 0, []),
  (355, .bipush 101, 2, 0, 0, 101, 0, []),
  (357, .castore, 1, 0, 0, 0, 0, []),
  (358, .dup, 1, 0, 0, 0, 0, []),
  (359, .bipush 27, 2, 0, 0, 27, 0, []),
  (361, .bipush 116, 2, 0, 0, 116, 0, []),
  (363, .castore, 1, 0, 0, 0, 0, []),
  (364, .dup, 1, 0, 0, 0, 0, []),
  (365, .bipush 28, 2, 0, 0, 28, 0, []),
  (367, .bipush 111, 2, 0, 0, 111, 0, []),
  (369, .castore, 1, 0, 0, 0, 0, []),
  (370, .dup, 1, 0, 0, 0, 0, []),
  (371, .bipush 29, 2, 0, 0, 29, 0, []),
  (373, .bipush 110, 2, 0, 0, 110, 0, []),
  (375, .castore, 1, 0, 0, 0, 0, []),
  (376, .dup, 1, 0, 0, 0, 0, []),
  (377, .bipush 30, 2, 0, 0, 30, 0, []),
  (379, .bipush 103, 2, 0, 0, 103, 0, []),
  (381, .castore, 1, 0, 0, 0, 0, []),
  (382, .dup, 1, 0, 0, 0, 0, []),
  (383, .bipush 31, 2, 0, 0, 31, 0, []),
  (385, .bipush 117, 2, 0, 0, 117, 0, []),
  (387, .castore, 1, 0, 0, 0, 0, []),
  (388, .dup, 1, 0, 0, 0, 0, []),
  (389, .bipush 32, 2, 0, 0, 32, 0, []),
  (391, .bipush 101, 2, 0, 0, 101, 0, []),
  (393, .castore, 1, 0, 0, 0, 0, []),
  (394, .putfield 84, 3, 10, 30, 0, 0, [1027]),
  (397, .aload_n 0, 1, 0, 0, 0, 0, []),
  (398, .bipush 7, 2, 0, 0, 7, 0, []),
  (400, .newarray .int, 2, 0, 0, 0, 0, []),
  (402, .dup, 1, 0, 0, 0, 0, []),
  (403, .iconst 0, 1, 0, 0, 0, 0, []),
  (404, .iconst 0, 1, 0, 0, 0, 0, []),
  (405, .iastore, 1, 0, 0, 0, 0, []),
  (406, .dup, 1, 0, 0, 0, 0, []),
  (407, .iconst 1, 1, 0, 0, 1, 0, []),
  (408, .iconst 4, 1, 0, 0, 4, 0, []),
  (409, .iastore, 1, 0, 0, 0, 0, []),
  (410, .dup, 1, 0, 0, 0, 0, []),
  (411, .iconst 2, 1, 0, 0, 2, 0, []),
  (412, .bipush 9, 2, 0, 0, 9, 0, []),
  (414, .iastore, 1, 0, 0, 0, 0, []),
  (415, .dup, 1, 0, 0, 0, 0, []),
  (416, .iconst 3, 1, 0, 0, 3, 0, []),
  (417, .bipush 13, 2, 0, 0, 13, 0, []),
  (419, .iastore, 1, 0, 0, 0, 0, []),
  (420, .dup, 1, 0, 0, 0, 0, []),
  (421, .iconst 4, 1, 0, 0, 4, 0, []),
  (422, .bipush 18, 2, 0, 0, 18, 0, []),
  (424, .iastore, 1, 0, 0, 0, 0, []),
  (425, .dup, 1, 0, 0, 0, 0, []),
  (426, .iconst 5, 1, 0, 0, 5, 0, []),
  (427, .bipush 22, 2, 0, 0, 22, 0, []),
  (429, .iastore, 1, 0, 0, 0, 0, []),
  (430, .dup, 1, 0, 0, 0, 0, []),
  (431, .bipush 6, 2, 0, 0, 6, 0, []),
  (433, .bipush 27, 2, 0, 0, 27, 0, []),
  (435, .iastore, 1, 0, 0, 0, 0, []),
  (436, .putfield 88, 3, 10, 31, 0, 0, [1028]),
  (439, .aload_n 0, 1, 0, 0, 0, 0, []),
  (440, .bipush 7, 2, 0, 0, 7, 0, []),
  (442, .newarray .int, 2, 0, 0, 0, 0, []),
  (444, .dup, 1, 0, 0, 0, 0, []),
  (445, .iconst 0, 1, 0, 0, 0, 0, []),
  (446, .iconst 4, 1, 0, 0, 4, 0, []),
  (447, .iastore, 1, 0, 0, 0, 0, []),
  (448, .dup, 1, 0, 0, 0, 0, []),
  (449, .iconst 1, 1, 0, 0, 1, 0, []),
  (450, .iconst 5, 1, 0, 0, 5, 0, []),
  (451, .iastore, 1, 0, 0, 0, 0, []),
  (452, .dup, 1, 0, 0, 0, 0, []),
  (453, .iconst 2, 1, 0, 0, 2, 0, []),
  (454, .iconst 4, 1, 0, 0, 4, 0, []),
  (455, .iastore, 1, 0, 0, 0, 0, []),
  (456, .dup, 1, 0, 0, 0, 0, []),
  (457, .iconst 3, 1, 0, 0, 3, 0, []),
  (458, .iconst 5, 1, 0, 0, 5, 0, []),
  (459, .iastore, 1, 0, 0, 0, 0, []),
  (460, .dup, 1, 0, 0, 0, 0, []),
  (461, .iconst 4, 1, 0, 0, 4, 0, []),
  (462, .iconst 4, 1, 0, 0, 4, 0, []),
  (463, .iastore, 1, 0, 0, 0, 0, []),
  (464, .dup, 1, 0, 0, 0, 0, []),
  (465, .iconst 5, 1, 0, 0, 5, 0, []),
  (466, .iconst 5, 1, 0, 0, 5, 0, []),
  (467, .iastore, 1, 0, 0, 0, 0, []),
  (468, .dup, 1, 0, 0, 0, 0, []),
  (469, .bipush 6, 2, 0, 0, 6, 0, []),
  (471, .bipush 6, 2, 0, 0, 6, 0, []),
  (473, .iastore, 1, 0, 0, 0, 0, []),
  (474, .putfield 91, 3, 10, 32, 0, 0, [1029]),
  (477, .aload_n 0, 1, 0, 0, 0, 0, []),
  (478, .bipush 20, 2, 0, 0, 20, 0, []),
  (480, .newarray .int, 2, 0, 0, 0, 0, []),
  (482, .putfield 94, 3, 10, 34, 0, 0, [1031]),
  (485, .aload_n 0, 1, 0, 0, 0, 0, []),
  (486, .bipush 20, 2, 0, 0, 20, 0, []),
  (488, .newarray .int, 2, 0, 0, 0, 0, []),
  (490, .putfield 97, 3, 10, 35, 0, 0, [1032]),
  (493, .aload_n 0, 1, 0, 0, 0, 0, []),
  (494, .bipush 20, 2, 0, 0, 20, 0, []),
  (496, .newarray .int, 2, 0, 0, 0, 0, []),
  (498, .putfield 100, 3, 10, 36, 0, 0, [1033]),
  (501, .aload_n 0, 1, 0, 0, 0, 0, []),
  (502, .bipush 20, 2, 0, 0, 20, 0, []),
  (504, .newarray .boolean, 2, 1, 0, 0, 0, []),
  (506, .putfield 103, 3, 10, 38, 0, 0, [1035]),
  (509, .aload_n 0, 1, 0, 0, 0, 0, []),
  (510, .bipush 20, 2, 0, 0, 20, 0, []),
  (512, .newarray .int, 2, 0, 0, 0, 0, []),
  (514, .putfield 106, 3, 10, 39, 0, 0, [1036]),
  (517, .aload_n 0, 1, 0, 0, 0, 0, []),
  (518, .bipush 21, 2, 0, 0, 21, 0, []),
  (520, .newarray .int, 2, 0, 0, 0, 0, []),
  (522, .putfield 109, 3, 10, 41, 0, 0, [1038]),
  (525, .aload_n 0, 1, 0, 0, 0, 0, []),
  (526, .iconst 4, 1, 0, 0, 4, 0, []),
  (527, .newarray .boolean, 2, 1, 0, 0, 0, []),
  (529, .putfield 112, 3, 10, 43, 0, 0, [1040]),
  (532, .aload_n 0, 1, 0, 0, 0, 0, []),
  (533, .iconst 4, 1, 0, 0, 4, 0, []),
  (534, .newarray .int, 2, 0, 0, 0, 0, []),
  (536, .putfield 115, 3, 10, 44, 0, 0, [1041]),
  (539, .aload_n 0, 1, 0, 0, 0, 0, []),
  (540, .bipush 48, 2, 0, 0, 48, 0, []),
  (542, .newarray .int, 2, 0, 0, 0, 0, []),
  (544, .putfield 118, 3, 10, 45, 0, 0, [1042]),
  (547, .aload_n 0, 1, 0, 0, 0, 0, []),
  (548, .bipush 12, 2, 0, 0, 12, 0, []),
  (550, .newarray .int, 2, 0, 0, 0, 0, []),
  (552, .putfield 121, 3, 10, 46, 0, 0, [1043]),
  (555, .aload_n 0, 1, 0, 0, 0, 0, []),
  (556, .bipush 12, 2, 0, 0, 12, 0, []),
  (558, .newarray .int, 2, 0, 0, 0, 0, []),
  (560, .putfield 124, 3, 10, 47, 0, 0, [1044]),
  (563, .aload_n 0, 1, 0, 0, 0, 0, []),
  (564, .bipush 40, 2, 0, 0, 40, 0, []),
  (566, .newarray .int, 2, 0, 0, 0, 0, []),
  (568, .putfield 127, 3, 10, 49, 0, 0, [1046]),
  (571, .aload_n 0, 1, 0, 0, 0, 0, []),
  (572, .bipush 40, 2, 0, 0, 40, 0, []),
  (574, .newarray .int, 2, 0, 0, 0, 0, []),
  (576, .putfield 130, 3, 10, 50, 0, 0, [1047]),
  (579, .aload_n 0, 1, 0, 0, 0, 0, []),
  (580, .bipush 40, 2, 0, 0, 40, 0, []),
  (582, .newarray .int, 2, 0, 0, 0, 0, []),
  (584, .putfield 133, 3, 10, 51, 0, 0, [1048]),
  (587, .aload_n 0, 1, 0, 0, 0, 0, []),
  (588, .bipush 10, 2, 0, 0, 10, 0, []),
  (590, .putfield 136, 3, 10, 52, 0, 0, [1049]),
  (593, .return_, 1, 0, 0, 0, 0, [])]
def yT : List yMt := [(n_Ru, Y_Ru, 5, 20, 0), (n_Tb, Y_Tb, 1, 12, 0), (n_Ro, Y_Ro, 27, 260, 0), (n_Tp, Y_Tp, 1, 200, 0), (n_Bo, Y_Bo, 99, 568, 1), (n_Pr, Y_Pr, 26, 520, 0), (n_Ha, Y_Ha, 30, 266, 1), (n_Se, Y_Se, 4, 38, 0), (n_Ca, Y_Ca, 3, 120, 0), (n_De, Y_De, 197, 2019, 2), (n_Mo, Y_Mo, 41, 1324, 0)]
/-- where a name lies: the first, and the step -/
def yAff : List (Nat × Nat) := [(0, 0), (1, 0), (29, 0), (31, 0), (131, 0), (158, 0), (189, 0), (194, 0), (35, 6), (181, 2), (2, 0), (3, 0), (4, 0), (25, 0), (26, 0), (27, 0), (28, 0), (5, 1), (30, 0), (32, 0), (33, 0), (34, 0), (36, 6), (37, 6), (38, 6), (39, 6), (40, 6), (132, 0), (133, 0), (134, 0), (135, 0), (136, 0), (137, 0), (138, 1), (159, 0), (160, 0), (161, 1), (171, 0), (172, 1), (180, 0), (182, 2), (190, 0), (191, 0), (192, 0), (193, 0), (195, 0), (196, 0), (197, 0), (198, 0), (0, 0), (0, 0), (199, 0), (200, 0), (201, 0), (202, 0), (0, 0), (203, 0), (204, 0), (205, 0), (206, 0), (207, 0), (208, 0), (209, 0), (210, 0), (0, 0), (0, 0), (211, 0), (212, 0), (213, 0), (214, 0), (215, 0), (216, 0), (217, 0), (218, 0), (219, 0), (220, 0), (221, 0), (222, 0), (0, 0), (0, 0), (223, 0), (224, 0), (225, 0), (0, 0), (226, 0), (227, 0), (228, 0), (0, 0), (229, 0), (230, 0), (0, 0), (231, 0), (0, 0), (232, 0), (233, 0), (234, 0), (235, 0), (236, 0), (0, 0), (237, 0), (238, 0), (239, 0), (0, 0)]
def yPos (f i : Nat) : Nat := (yAff.getD f (0, 0)).1 + (yAff.getD f (0, 0)).2 * i
/-! CONSTRUCTORS: they run -/
theorem yT_ok : yOK yT = true := by decide +kernel
def yS1 : Option (List yC) := yex yT 700 9 0 (zls 1 [zR 300 0]) [] [.inl (9, yBlank 9 7)] 0 0
def yW1 : List yC := yS1.getD []
theorem yS1_some : yS1.isSome = true := by decide +kernel
theorem yS1_eq : yS1 = some yW1 := by
  have h := yS1_some
  unfold yW1
  cases hs : yS1 with
  | none =>
    rw [hs] at h
    cases h
  | some v => rfl
theorem yW1_len : yW1.length = 198 := by decide +kernel
def yS2 : Option (List yC) := yex yT 700 10 0 (zls 1 [zR 300 198]) [] (yW1 ++ [.inl (10, yBlank 10 53)]) 0 0
def yW2 : List yC := yS2.getD []
theorem yS2_some : yS2.isSome = true := by decide +kernel
theorem yS2_eq : yS2 = some yW2 := by
  have h := yS2_some
  unfold yW2
  cases hs : yS2 with
  | none =>
    rw [hs] at h
    cases h
  | some v => rfl
theorem yW2_len : yW2.length = 240 := by decide +kernel
/-- the cells are as the shape has them -/
def yCk (ws : List yC) (n : zN) : Bool := match zTab[n.1]?, ws[yPos n.1 n.2]? with
  | some (_, .inl (ci, fs)), some (.inl (cj, gs)) => decide (ci = cj) && decide (fs.length = gs.length) && (List.range fs.length).all (fun k => match fs[k]?, gs[k]? with
    | some none, some (some (.inl _)) => true
    | some (some g), some (some (.inr (.inr (f, q)))) => decide (f = 300) && decide ((g n.2).1 < 200) && decide (q = yPos (g n.2).1 (g n.2).2)
    | _, _ => false)
  | some (_, .inr (.inl (kd, len))), some (.inr (.inl (ke, vs))) => decide (kd = ke) && decide (vs.length = len)
  | some (_, .inr (.inr (kd, len, g))), some (.inr (.inr (ke, rs))) => decide (kd = ke) && decide (rs.length = len) && (List.range len).all (fun j => decide ((g n.2 j).1 < 200) && decide (rs[j]? = some (some (yPos (g n.2 j).1 (g n.2 j).2))))
  | _, _ => false
theorem yW2_ck : zAll.all (yCk yW2) = true := by decide +kernel
theorem yPos_nd : (zAll.map (fun n => yPos n.1 n.2)).Nodup := by decide +kernel
theorem zAll_lt : zAll.all (fun n => decide (n.1 < 200)) = true := by decide +kernel
def yMu (ws : List yC) : zMu := fun f i k => match ws[yPos f i]? with
  | some (.inl (_, gs)) => match gs[k]? with
    | some (some (.inl x)) => x
    | _ => 0
  | some (.inr (.inl (_, vs))) => vs.getD k 0
  | _ => 0
/-! BEHIND THE CONSTRUCTORS: what was built is what the layer stands on -/
theorem arrV_cg {cA : ClassId} {n : Nat} {f g : Nat → Value} (h : ∀ j, j < n → f j = g j) : arrV cA n f = arrV cA n g := by
  unfold arrV
  congr 1
  apply Array.ext_getElem?
  intro j
  by_cases hj : j < n
  · simp [hj, h j hj]
  · simp [hj]
theorem y_at {X : zX} {H : Heap} {n : zN} (h3 : ∀ k, X.1 300 k = X.2.2.2.1 + k) (hX : ∀ f i, f < 200 → X.1 f i = X.2.2.2.1 + yPos f i) {ws : List yC} (hn : n.1 < 200) (hc : yCk ws n = true) (hP : va_P X.2.1 zcl (yWs X ws) H) : va_at X.2.1 zcl (X.1 n.1 n.2, zE X (yMu ws) n) H := by
  obtain ⟨f, i⟩ := n
  have hn : f < 200 := hn
  rw [hX f i hn]
  unfold yCk at hc
  dsimp only at hc
  split at hc
  · rename_i cnt ci fs cj gs ht hw
    simp only [Bool.and_eq_true, decide_eq_true_eq, List.all_eq_true, List.mem_range] at hc
    obtain ⟨⟨rfl, hlen⟩, hk⟩ := hc
    have h1 := hP _ _ (yWs_at hw)
    rw [zE_obj ht]
    have e : gs.map (yF X) = fs.mapIdx (fun k o => match o with
        | none => Value.int (yMu ws f i k)
        | some g => Value.ref (X.1 (g i).1 (g i).2)) := by
      apply List.ext_getElem?
      intro k
      rw [List.getElem?_map, List.getElem?_mapIdx]
      rcases Nat.lt_or_ge k fs.length with w | w
      · have h2 := hk k w
        split at h2
        · rename_i x hf hg
          rw [hf, hg]
          have : yMu ws f i k = x := by simp only [yMu, hw, hg]
          rw [Option.map_some, Option.map_some, this]
          rfl
        · rename_i g f' q hf hg
          simp only [Bool.and_eq_true, decide_eq_true_eq] at h2
          obtain ⟨⟨rfl, h3'⟩, rfl⟩ := h2
          rw [hf, hg, Option.map_some, Option.map_some]
          show some (Value.ref (X.1 300 _)) = some (Value.ref (X.1 (g i).1 (g i).2))
          rw [h3, hX _ _ h3']
        · cases h2
      · rw [List.getElem?_eq_none w, List.getElem?_eq_none (by omega)]
        rfl
    have h2 : va_at X.2.1 zcl (X.2.2.2.1 + yPos f i, .inr (ci, gs.map (yF X))) H := h1
    rw [e] at h2
    exact h2
  · rename_i cnt kd len ke vs ht hw
    simp only [Bool.and_eq_true, decide_eq_true_eq] at hc
    obtain ⟨rfl, rfl⟩ := hc
    have h1 := hP _ _ (yWs_at hw)
    rw [zE_arr ht]
    have e : (fun j => vs.getD j 0) = yMu ws f i := by
      funext k
      simp only [yMu, hw]
    rw [← e]
    exact h1
  · rename_i cnt kd len g ke rs ht hw
    simp only [Bool.and_eq_true, decide_eq_true_eq, List.all_eq_true, List.mem_range] at hc
    obtain ⟨⟨rfl, rfl⟩, hk⟩ := hc
    have h1 : H[X.2.2.2.1 + yPos f i]? = some (arrV (X.2.2.1 kd) rs.length (fun j => va_rf ((rs.getD j none).map (fun q => X.2.2.2.1 + q)))) := hP _ _ (yWs_at hw)
    rw [zE_rfa ht]
    show H[X.2.2.2.1 + yPos f i]? = some (arrV (X.2.2.1 kd) rs.length (fun j => va_rf (some (X.1 (g i j).1 (g i j).2))))
    rw [h1]
    refine congrArg some (arrV_cg (fun j hj => ?_))
    obtain ⟨q1, q2⟩ := hk j hj
    rw [List.getD_eq_getElem?_getD, q2, hX _ _ q1]
    rfl
  · cases hc
theorem y_rep {X : zX} {s : State} {H : Heap} (h3 : ∀ k, X.1 300 k = X.2.2.2.1 + k) (hX : ∀ f i, f < 200 → X.1 f i = X.2.2.2.1 + yPos f i) (h : yRep X yW2 s H) : zRep X (yMu yW2) s H := by
  have hlt : ∀ n, n ∈ zAll → n.1 < 200 := fun n hn => of_decide_eq_true (List.all_eq_true.mp zAll_lt n hn)
  refine ⟨h.1, fun k q hq => ?_, ⟨fun i j p q hi hj e => ?_, fun k q hk => ?_⟩⟩
  · cases hz : zAll[k]? with
    | none =>
      rw [zWs, List.getElem?_map, hz] at hq
      cases hq
    | some n =>
      rw [zWs_at hz] at hq
      cases hq
      exact y_at h3 hX (hlt n (List.mem_of_getElem? hz)) (List.all_eq_true.mp yW2_ck n (List.mem_of_getElem? hz)) h.2.1
  · cases hz : zAll[i]? with
    | none =>
      rw [zWs, List.getElem?_map, hz] at hi
      cases hi
    | some n =>
      cases hz2 : zAll[j]? with
      | none =>
        rw [zWs, List.getElem?_map, hz2] at hj
        cases hj
      | some n2 =>
        rw [zWs_at hz] at hi
        rw [zWs_at hz2] at hj
        cases hi
        cases hj
        have e : X.1 n.1 n.2 = X.1 n2.1 n2.2 := e
        rw [hX _ _ (hlt n (List.mem_of_getElem? hz)), hX _ _ (hlt n2 (List.mem_of_getElem? hz2))] at e
        have e' : yPos n.1 n.2 = yPos n2.1 n2.2 := by omega
        have p1 : (zAll.map (fun n => yPos n.1 n.2))[i]? = some (yPos n.1 n.2) := by rw [List.getElem?_map, hz]; rfl
        have p2 : (zAll.map (fun n => yPos n.1 n.2))[j]? = some (yPos n2.1 n2.2) := by rw [List.getElem?_map, hz2]; rfl
        obtain ⟨l1, e1⟩ := List.getElem?_eq_some_iff.mp p1
        obtain ⟨l2, e2⟩ := List.getElem?_eq_some_iff.mp p2
        have hp := List.pairwise_iff_getElem.mp yPos_nd
        rcases Nat.lt_trichotomy i j with w | w | w
        · exact absurd (e1.trans (e'.trans e2.symm)) (hp i j l1 l2 w)
        · exact w
        · exact absurd (e2.trans (e'.symm.trans e1.symm)) (hp j i l2 l1 w)
  · cases hz : zAll[k]? with
    | none =>
      rw [zWs, List.getElem?_map, hz] at hk
      cases hk
    | some n =>
      rw [zWs_at hz] at hk
      cases hk
      show X.2.2.2.1 ≤ X.1 n.1 n.2
      rw [hX _ _ (hlt n (List.mem_of_getElem? hz))]
      omega
theorem y_cells : (∀ a, a < 10 → ∀ b, b < 10 → yMu yW2 36 a b = 0 ∧ yMu yW2 53 0 (10 * a + b) = 0) ∧ (∀ a, a < 8 → ∀ b, b < 8 → yMu yW2 38 a b = 0 ∧ yMu yW2 54 0 (8 * a + b) = 0) ∧ (∀ k, k < 33 → yMu yW2 80 0 k = gLet.getD k 0) ∧ (∀ k, k < 7 → yMu yW2 81 0 k = gBeg.getD k 0) ∧ (∀ k, k < 7 → yMu yW2 82 0 k = gLon.getD k 0) := by decide +kernel
theorem y_nums : yMu yW2 1 0 0 = 0 ∧ yMu yW2 48 0 0 = 0 ∧ yMu yW2 1 0 1 = 0 ∧ yMu yW2 48 0 5 = 0 ∧ yMu yW2 2 0 0 = 0 ∧ yMu yW2 48 0 14 = 0 ∧ yMu yW2 3 0 0 = 0 ∧ yMu yW2 48 0 15 = 0 ∧ yMu yW2 3 0 1 = 0 ∧ yMu yW2 48 0 33 = 0 ∧ yMu yW2 5 0 0 = 0 ∧ yMu yW2 48 0 42 = 0 ∧ yMu yW2 7 0 0 = 0 ∧ yMu yW2 48 0 48 = 0 ∧ yMu yW2 7 0 1 = 10 ∧ yMu yW2 48 0 52 = 10 := by decide +kernel
theorem y_Rel : Rel (yMu yW2) := by
  obtain ⟨c1, c2, c3, c4, c5⟩ := y_cells
  obtain ⟨n1, n2, n3, n4, n5, n6, n7, n8, n9, n10, n11, n12, n13, n14, n15, n16⟩ := y_nums
  refine ⟨0, 0, 0, 0, 0, 0, [], ⟨n1, n2, by omega, fun s hs => absurd hs (by omega)⟩, ⟨n3, n4, by omega, fun s hs => absurd hs (by omega)⟩, ⟨n5, n6, by omega, fun s hs => absurd hs (by omega)⟩, ⟨n7, n8, by omega, fun s hs => absurd hs (by omega)⟩, ⟨n9, n10, by omega, fun s hs => absurd hs (by omega)⟩, ⟨n11, n12, by omega, fun s hs => absurd hs (by omega)⟩, fun a b ha hb => ?_, fun a b ha hb => ?_, ⟨⟨n13, by decide, fun k e h => by simp at h⟩, ⟨n14, fun k e h => by simp at h⟩⟩, n16.trans n15.symm, ⟨c3, c4, c5⟩⟩
  · rw [(c1 a ha b hb).1, (c1 a ha b hb).2, (c1 b hb a ha).1]
    exact ⟨Or.inl rfl, rfl, rfl⟩
  · rw [(c2 a ha b hb).1, (c2 a ha b hb).2, (c2 b hb a ha).1]
    exact ⟨⟨0, by omega, rfl⟩, rfl, rfl⟩
/-! AT THE LAW'S START: what the Statement gives -/
def lFl : List Cond := flatC (Jvm.Cond.and given_1 narrow_1)
def lTm (i : Nat) : Term := .string RX8 ((zStr[i]?.map (·.1)).getD 0)
theorem l_w1 : ∀ i, i < 13 → Cond.exactly (lTm i) "java/lang/String" ∈ lFl := by decide +kernel
theorem l_w2 : ∀ i, i < 13 → Cond.eq (.field (lTm i) "java/lang/String" "coder" "B") (.int 0) ∈ lFl := by decide +kernel
theorem l_w3 : ∀ i, i < 13 → Cond.arrayOf (.field (lTm i) "java/lang/String" "value" "[B") .byte ∈ lFl := by decide +kernel
theorem l_w4 : ∀ i, i < 13 → Cond.eq (.length (.field (lTm i) "java/lang/String" "value" "[B")) (.int (Int32.ofNat (zLen.getD i 0))) ∈ lFl := by decide +kernel
theorem l_w5 : ∀ i, i < 13 → ∀ j, j < zLen.getD i 0 → Cond.eq (.elem (.field (lTm i) "java/lang/String" "value" "[B") (.int (Int32.ofNat j))) (.int ((zByt.getD i []).getD j 0)) ∈ lFl := by decide +kernel
theorem l_w6 : ∀ i, i < 13 → ∀ j, j < 13 → i ≠ j → Cond.not (Cond.eq (lTm i) (lTm j)) ∈ lFl ∨ Cond.not (Cond.eq (lTm j) (lTm i)) ∈ lFl := by decide +kernel
theorem l_w7 : ∀ i, i < 13 → Cond.stringRef RX8 ((zStr[i]?.map (·.1)).getD 0) ((zStr[i]?.map (·.2)).getD "") ∈ lw_tbl := by decide +kernel
theorem l_w8 : Cond.eq (.static "java/lang/String" "COMPACT_STRINGS" "Z") (.int 1) ∈ lFl ∧ Cond.isRef (.static "jdk/internal/util/Preconditions" "SIOOBE_FORMATTER" "Ljava/util/function/BiFunction;") ∈ lFl ∧ Cond.laysStatic "java/lang/String" "COMPACT_STRINGS" "Z" ∈ lw_tbl ∧ Cond.initialized "java/lang/String" ∈ lw_tbl ∧ Cond.laysStatic "jdk/internal/util/Preconditions" "SIOOBE_FORMATTER" "Ljava/util/function/BiFunction;" ∈ lw_tbl ∧ Cond.initialized "jdk/internal/util/Preconditions" ∈ lw_tbl := by decide +kernel
theorem l_str {s : State} {args : Array Value} {A : Nat → Prop} (hf : ∀ w ∈ lFl, w.before args s = true) (hA : ∀ a : Nat, a < s.heap.size → ¬ A a) : ∃ adK adV : Nat → Nat, vk_S 13 zLen zByt adK adV A s s.heap ∧ ∀ i : Nat, i < 13 → (lTm i).eval args s none [] s = some (.ref (adK i)) :=
  vk_Sof (by decide) (fun i hi => hf _ (l_w1 i hi)) (fun i hi => hf _ (l_w2 i hi)) (fun i hi => hf _ (l_w3 i hi)) (fun i hi => hf _ (l_w4 i hi)) (fun i hi j hj => hf _ (l_w5 i hi j hj)) (fun i j hi hj hij => (l_w6 i hi j hj hij).imp (hf _) (hf _)) hA
theorem l_in1 : zcl.all (fun q => decide (Cond.instantiable q.1 q.2.2 ∈ lw_tbl)) = true := by decide +kernel
theorem l_in2 : Cond.arrayClass .int ∈ lw_tbl ∧ Cond.arrayClass .boolean ∈ lw_tbl ∧ Cond.arrayClass .byte ∈ lw_tbl ∧ Cond.arrayClass .char ∈ lw_tbl ∧ Cond.arrayOver (.array .int) ∈ lw_tbl ∧ Cond.arrayOver (.object RX4) ∈ lw_tbl ∧ Cond.arrayOver (.object RX7) ∈ lw_tbl := by decide +kernel
theorem l_nest : yNest.all (fun q => decide (Cond.methodLinkNest q.1 q.2.1 q.2.2.1 q.2.2.2 ∈ lw_tbl)) = true := by decide +kernel
theorem zT_sub : ∀ w ∈ zT, w ∈ lw_tbl := fun w hw => (List.mem_filter.mp hw).1
theorem l_known {s : State} {args : Array Value} (hts : ∀ w ∈ lw_tbl, w.before args s = true) : ∃ D : va_G, ∀ (c : Nat) (q : vw_C), zcl[c]? = some q → u_Kn s q.1 q.2.1 q.2.2 (D.1 c) (D.2 c) := by
  have h : ∀ c : Nat, ∃ z : ClassId × (Nat → Nat), ∀ q : vw_C, zcl[c]? = some q → u_Kn s q.1 q.2.1 q.2.2 z.1 z.2 := fun c => by
    cases hc : zcl[c]? with
    | none => exact ⟨(0, fun _ => 0), fun q hq => by cases hq⟩
    | some q =>
      obtain ⟨C, T, N⟩ := q
      obtain ⟨cC, iS, hk⟩ := u_known hts (fun w hw => zT_sub w ((zlay hc).1 w hw)) (hts _ (of_decide_eq_true (List.all_eq_true.mp l_in1 _ (List.mem_of_getElem? hc))))
      exact ⟨(cC, iS), fun q hq => by cases hq; exact hk⟩
  obtain ⟨f, hf⟩ := Classical.axiomOfChoice h
  exact ⟨(fun c => (f c).1, fun c => (f c).2), fun c q hq => hf c q hq⟩
theorem l_arr1 {s : State} {args : Array Value} {ty : FieldType} (h : (Cond.arrayClass ty).before args s = true) (hra : ∀ cA, s.vm.findClass ("[" ++ ty.toString) = some cA → va_RA s cA ty) : ∃ cA : ClassId, ArrOfT s cA ty ∧ va_RA s cA ty := by
  obtain ⟨cA, kC, cc, h1, h2, h3⟩ := Cond.arrayClass_spec h
  exact ⟨cA, fun n z => ⟨fun k h => by cases h, kC, h2, cc, h3⟩, hra cA h1⟩
theorem l_arr2 {s : State} {args : Array Value} (h : (Cond.arrayOver (.array .int)).before args s = true) : ∃ cA : ClassId, ArrOfT s cA (.array .int) ∧ va_RA s cA (.array .int) := by
  obtain ⟨comp, cA, kA, h1, h2, h3, h4⟩ := Cond.arrayOver_specA h
  exact ⟨cA, fun n z => ⟨fun k h => by cases h, kA, h2, comp, h3⟩, h4⟩
theorem l_arr3 {s : State} {args : Array Value} {C : String} (h : (Cond.arrayOver (.object C)).before args s = true) : ∃ cA : ClassId, ArrOfT s cA (.object C) ∧ va_RA s cA (.object C) := by
  obtain ⟨comp, c, k, h1, h2, h3, h4, h5⟩ := Cond.arrayOver_spec h
  exact ⟨c, fun n z => ⟨fun k h => by cases h, k, h3, comp, h4⟩, k, comp, h3, h4, h1, h5⟩
