/-! CONSTRUCTORS: the heap grows by one cell after the other; a cell's name is its place since the law's start -/
abbrev yC : Type := (Nat × List (Option zV)) ⊕ ((Nat × List Int32) ⊕ (Nat × List (Option Nat)))
def yF (X : zX) : Option zV → Value
  | none => .null
  | some v => ztr X v
def yE (X : zX) : yC → va_E
  | .inl (ci, fs) => .inr (ci, fs.map (yF X))
  | .inr (.inl (kd, vs)) => .inl (X.2.2.1 kd, vs.length, .inl (fun j => vs.getD j 0))
  | .inr (.inr (kd, rs)) => .inl (X.2.2.1 kd, rs.length, .inr (.inr (.inr (.inr (fun j => (rs.getD j none).map (fun q => X.2.2.2.1 + q))))))
def yWs (X : zX) (ws : List yC) : va_W := ws.mapIdx (fun k c => (X.2.2.2.1 + k, yE X c))
theorem yWs_at {X : zX} {ws : List yC} {k : Nat} {c : yC} (h : ws[k]? = some c) : (yWs X ws)[k]? = some (X.2.2.2.1 + k, yE X c) := by
  unfold yWs
  rw [List.getElem?_mapIdx, h]
  rfl
theorem yWs_in {X : zX} {ws : List yC} {k : Nat} {q : Nat × va_E} (h : (yWs X ws)[k]? = some q) : ∃ c, ws[k]? = some c ∧ q = (X.2.2.2.1 + k, yE X c) := by
  unfold yWs at h
  rw [List.getElem?_mapIdx] at h
  cases hc : ws[k]? with
  | none =>
    rw [hc] at h
    cases h
  | some c =>
    rw [hc] at h
    cases h
    exact ⟨c, rfl, rfl⟩
theorem yWs_set {X : zX} {ws : List yC} {k : Nat} {c : yC} : (yWs X ws).set k (X.2.2.2.1 + k, yE X c) = yWs X (ws.set k c) := by
  apply List.ext_getElem?
  intro j
  unfold yWs
  rw [List.getElem?_mapIdx, List.getElem?_set, List.getElem?_set, List.length_mapIdx, List.getElem?_mapIdx]
  by_cases hj : k = j
  · subst hj
    rw [if_pos rfl, if_pos rfl]
    split <;> rfl
  · rw [if_neg hj, if_neg hj]
theorem yD {X : zX} {ws : List yC} : va_D (zA X) (yWs X ws) := by
  refine ⟨fun i j p q hi hj e => ?_, fun k q hk => ?_⟩
  · obtain ⟨c1, -, rfl⟩ := yWs_in hi
    obtain ⟨c2, -, rfl⟩ := yWs_in hj
    have e : X.2.2.2.1 + i = X.2.2.2.1 + j := e
    omega
  · obtain ⟨c1, -, rfl⟩ := yWs_in hk
    show X.2.2.2.1 ≤ X.2.2.2.1 + k
    omega
def yRep (X : zX) (ws : List yC) (U : State) (H : Heap) : Prop := va_K X.2.1 zcl (ztys X) U ∧ va_P X.2.1 zcl (yWs X ws) H ∧ H.size = X.2.2.2.1 + ws.length
theorem yRmov {X : zX} {ws : List yC} {u U : State} {H : Heap} (hv : u.vm.Alike U.vm) (h : yRep X ws u H) : yRep X ws U H := ⟨va_K.moved hv h.1, h.2⟩
theorem yMore {X : zX} {ws cs : List yC} {U : State} {H H1 : Heap} (hR : yRep X ws U H) (o1 : ∀ q, q < H.size → H1[q]? = H[q]?) (z1 : H1.size = H.size + cs.length) (hc : ∀ (k : Nat) (c : yC), cs[k]? = some c → va_at X.2.1 zcl (H.size + k, yE X c) H1) : yRep X (ws ++ cs) U H1 := by
  obtain ⟨hK, hP, hz⟩ := hR
  refine ⟨hK, fun k q hq => ?_, by rw [z1, hz, List.length_append]; omega⟩
  obtain ⟨c, h1, rfl⟩ := yWs_in hq
  rcases Nat.lt_or_ge k ws.length with w | w
  · rw [List.getElem?_append_left w] at h1
    have h2 := hP k _ (yWs_at h1)
    exact h2.kept (o1 _ (by rw [hz]; show X.2.2.2.1 + k < X.2.2.2.1 + ws.length; omega))
  · rw [List.getElem?_append_right w] at h1
    have h2 := hc _ _ h1
    rw [hz, show X.2.2.2.1 + ws.length + (k - ws.length) = X.2.2.2.1 + k by omega] at h2
    exact h2
theorem yOne {X : zX} {ws : List yC} {c : yC} {U : State} {H H1 : Heap} (hR : yRep X ws U H) (o1 : ∀ q, q < H.size → H1[q]? = H[q]?) (z1 : H1.size = H.size + 1) (hc : va_at X.2.1 zcl (H.size, yE X c) H1) : yRep X (ws ++ [c]) U H1 := by
  refine yMore hR o1 z1 (fun k c' h => ?_)
  have hk : k < 1 := (List.getElem?_eq_some_iff.mp h).1
  obtain rfl : k = 0 := by omega
  cases h
  exact hc
theorem ySet {X : zX} {ws : List yC} {c c' : yC} {k : Nat} {U : State} {H H1 : Heap} (hR : yRep X ws U H) (hk : ws[k]? = some c) (z1 : H1.size = H.size) (o1 : ∀ q, q ≠ X.2.2.2.1 + k → H1[q]? = H[q]?) (hc : va_at X.2.1 zcl (X.2.2.2.1 + k, yE X c') H1) : yRep X (ws.set k c') U H1 := by
  obtain ⟨hK, hP, hz⟩ := hR
  refine ⟨hK, ?_, by rw [z1, hz, List.length_set]⟩
  rw [← yWs_set]
  exact hP.set yD (yWs_at hk) hc o1
theorem ySg {X : zX} {H0 H H1 : Heap} {locs : List Loc} {n : Nat} (hS : va_S (zA X) H0 H locs) (z1 : H1.size = H.size + n) (o1 : ∀ q, q < H.size → H1[q]? = H[q]?) : va_S (zA X) H0 H1 locs :=
  ⟨Nat.le_trans hS.1 (by omega), fun x h1 h2 => (o1 x (Nat.lt_of_lt_of_le h1 hS.1)).trans (hS.2.1 x h1 h2), hS.2.2⟩
section YS
variable {X : zX} {p : Program} {l : Launch} {e : Env} {R : Room} {s : State} {m : MethodId} {args : Array Value} {below : List Frame} {meth : Method} {c : Code} {cells slots : Nat} {Q : State → Prop}
variable {own : String} {cc : ByteArray} {H : Heap} {locs : List Loc} {la : Array Slot} {ws : List yC} {pc : Nat} {rest : List Value}
theorem y_newa (hx : p.tables.exec = Jvm.exec) (hb : c.code = cc) {atype : ArrayType} {kd : Nat} {ty : FieldType} {n : Int32} {N : Nat} (harr : (Cond.arrayClass ty).before args s = true) (hty : newarray.typeOf atype = ty) (hkd : (ztys X)[kd]? = some (X.2.2.1 kd, ty)) (hra : va_RA s (X.2.2.1 kd) ty → s.vm.findClass ("[" ++ ty.toString) = some (X.2.2.1 kd)) (hdv : defaultValue ty = .int 0) (hR : yRep X ws s H) (hS : va_S (zA X) s.heap H locs)
    (hn : ¬ n < 0) (hN : n.toNatClampNeg = N) (hby : N * componentBytes ty ≤ 536870912) (hcells : cells + 1 ≤ R.cells) (hslots : slots + N ≤ R.slots) (hdg : decode cc pc = .ok (.newarray atype, 2))
    (kk : ∀ H1 : Heap, yRep X (ws ++ [.inr (.inl (kd, List.replicate N 0))]) s H1 → va_S (zA X) s.heap H1 locs → W p l e R s m args below meth c H1 locs (cells + 1) (slots + N) Q (F0 m (pc + 2) la (.ref (X.2.2.2.1 + ws.length) :: rest))) : W p l e R s m args below meth c H locs cells slots Q (F0 m pc la (.int n :: rest)) := by
  subst hty
  refine va_newaK hx hb harr rfl hdg rfl hn hN hby hcells hslots rfl fun H1 cA e1 z1 o1 hAr hNm => ?_
  have hcA : cA = X.2.2.1 kd := Option.some.inj (hNm.symm.trans (hra (hR.1.2 kd _ hkd).2))
  subst hcA
  have k2 := kk H1 (yOne hR o1 z1 ?_) (ySg hS z1 o1)
  · rw [hR.2.2]
    exact k2
  · show H1[H.size]? = some (vp_cell _ _)
    rw [e1, hdv]
    simp only [vp_cell, List.length_replicate]
    congr 2
    funext j
    rw [List.getD_eq_getElem?_getD, List.getElem?_replicate]
    split <;> rfl
theorem y_new (hx : p.tables.exec = Jvm.exec) (hb : c.code = cc) {C : String} {T : u_T} {N ci index : Nat} {Ts : List Cond} (hts : ∀ w ∈ Ts, w.before args s = true) (hin : ∀ w ∈ u_ws C T N, w ∈ Ts) (ty : Nat → FieldType) (hty : ∀ k, k < N → parseFieldDescriptor (T k).2.2.1 = some (ty k)) (hown : s.vm.findClass own = some m.cls) (hcl : (Cond.classLink own index C).before args s = true) (hinst : (Cond.instantiable C N).before args s = true) (hini : (Cond.initialized C).before args s = true)
    (hR : yRep X ws s H) (hS : va_S (zA X) s.heap H locs) (hc : zcl[ci]? = some (C, T, N)) {fs : List (Option zV)} (hfs : ∀ j, j < N → defaultValue (ty j) = vp_V (fs.map (yF X)) j) (hcells : cells + 1 ≤ R.cells) (hslots : slots + N ≤ R.slots) (hdg : decode cc pc = .ok (.new index, 3))
    (kk : ∀ H1 : Heap, yRep X (ws ++ [.inl (ci, fs)]) s H1 → va_S (zA X) s.heap H1 locs → W p l e R s m args below meth c H1 locs (cells + 1) (slots + N) Q (F0 m (pc + 3) la (.ref (X.2.2.2.1 + ws.length) :: rest))) : W p l e R s m args below meth c H locs cells slots Q (F0 m pc la rest) := by
  have hKn := hR.1.1 ci _ hc
  refine W.newcK hx hb hown hcl hinst hini rfl hdg hcells hslots hKn.2.1 rfl fun H1 kC hkC e1 z1 o1 => ?_
  have k2 := kk H1 (yOne hR o1 z1 ⟨_, hc, (u_born ty hts hin hKn hkC e1 hty).to hfs⟩) (ySg hS z1 o1)
  rw [← hR.2.2] at k2
  exact k2
theorem y_anew (hx : p.tables.exec = Jvm.exec) (hb : c.code = cc) {C : String} {kd index : Nat} {n : Int32} {N : Nat} (hown : s.vm.findClass own = some m.cls) (hcl : (Cond.classLink own index C).before args s = true) (hov : va_AO C s) (hkd : (ztys X)[kd]? = some (X.2.2.1 kd, .object C)) (hR : yRep X ws s H) (hS : va_S (zA X) s.heap H locs)
    (hn : ¬ n < 0) (hN : n.toNatClampNeg = N) (hby : N * 4 ≤ 536870912) (hcells : cells + 1 ≤ R.cells) (hslots : slots + N ≤ R.slots) (hdg : decode cc pc = .ok (.anewarray index, 3))
    (kk : ∀ H1 : Heap, yRep X (ws ++ [.inr (.inr (kd, List.replicate N none))]) s H1 → va_S (zA X) s.heap H1 locs → W p l e R s m args below meth c H1 locs (cells + 1) (slots + N) Q (F0 m (pc + 3) la (.ref (X.2.2.2.1 + ws.length) :: rest))) : W p l e R s m args below meth c H locs cells slots Q (F0 m pc la (.int n :: rest)) := by
  subst hN
  refine W.anew hx hb hown hcl (va_AO.use hov) rfl hdg rfl hn hby hcells hslots fun cA kA comp f1 f2 f3 f4 => ?_
  obtain ⟨kA', comp', -, -, -, f5⟩ := (hR.1.2 kd _ hkd).2
  have hcA : cA = X.2.2.1 kd := Option.some.inj (f1.symm.trans f5)
  subst hcA
  generalize hH1 : H.push ({ cls := X.2.2.1 kd, slots := Array.replicate n.toNatClampNeg .null, vm := .none } : Cell) = H1
  have z1 : H1.size = H.size + 1 := by rw [← hH1, Array.size_push]
  have e1 : H1[H.size]? = some (arrV (X.2.2.1 kd) n.toNatClampNeg (fun _ => .null)) := by rw [← hH1, Array.getElem?_push_size, ← arrV_new]
  have o1 : ∀ q : Nat, q < H.size → H1[q]? = H[q]? := fun q hq => by rw [← hH1, Array.getElem?_push, if_neg (Nat.ne_of_lt hq)]
  have k2 := kk H1 (yOne hR o1 z1 ?_) (ySg hS z1 o1)
  · rw [hR.2.2]
    exact k2
  · show H1[H.size]? = some (vp_cell _ _)
    rw [e1]
    simp only [vp_cell, List.length_replicate]
    congr 2
    funext j
    rw [List.getD_eq_getElem?_getD, List.getElem?_replicate]
    split <;> rfl
theorem y_put (hx : p.tables.exec = Jvm.exec) (hb : c.code = cc) {C : String} {T : u_T} {N ci index q0 k : Nat} {Ts : List Cond} (hts : ∀ w ∈ Ts, w.before args s = true) (hin : ∀ w ∈ u_ws C T N, w ∈ Ts) (ty0 : Nat → FieldType) (hty : ∀ k, k < N → parseFieldDescriptor (T k).2.2.1 = some (ty0 k)) (hnm : ∀ a, a < N → ∀ b, b < N → a ≠ b → (T a).2.1 ≠ (T b).2.1) (hown : s.vm.findClass own = some m.cls)
    (hR : yRep X ws s H) (hS0 : va_S (zA X) s.heap H locs) {fs : List (Option zV)} {v : zV} (he : ws[q0]? = some (.inl (ci, fs))) (hc : zcl[ci]? = some (C, T, N)) (hk : k < N) (hlink : (Cond.fieldLink own index (T k).1 (T k).2.1 (T k).2.2.1).before args s = true) (hfi : (T k).2.2.2 = true → meth.name = "<init>" ∧ (T k).1 = own) (hn : narrow (ty0 k) (ztr X v) = ztr X v) (hfit : fits (ty0 k) (ztr X v) = true) (hl : k < fs.length) (hdg : decode cc pc = .ok (.putfield index, 3))
    (kk : ∀ (H1 : Heap) (locs1 : List Loc), yRep X (ws.set q0 (.inl (ci, fs.set k (some v)))) s H1 → va_S (zA X) s.heap H1 locs1 → W p l e R s m args below meth c H1 locs1 cells slots Q (F0 m (pc + 3) la rest)) : W p l e R s m args below meth c H locs cells slots Q (F0 m pc la (ztr X v :: .ref (X.2.2.2.1 + q0) :: rest)) := by
  obtain ⟨hK, hP, hz⟩ := id hR
  have hap := va_apart (own := own) hts hin ty0 hty hnm hK hc
  obtain ⟨r, h1, cell, q1, q2, q3, q4⟩ := hP q0 _ (yWs_at he)
  have hr : r = (C, T, N) := Option.some.inj (h1.symm.trans hc)
  subst hr
  obtain ⟨hS, hfc, kC, hkC, hkind⟩ := hK.1 ci _ hc
  obtain ⟨cf, kf, fi, f, hi, hsl⟩ := hS k hk
  have hlay := hts _ (hin _ (u_in_lay hk))
  have hst := (u_facts hfc hkC (u_lays hts hin hk) hi).1
  have fin : ∀ H' : Heap, H'[X.2.2.2.1 + q0]? = some (cell.setSlot f.slot (ztr X v)) → H'.size = H.size → (∀ q, q ≠ X.2.2.2.1 + q0 → H'[q]? = H[q]?) → W p l e R s m args below meth c H' (locs ++ [⟨X.2.2.2.1 + q0, f.slot⟩]) cells slots Q (F0 m (pc + 3) la rest) := fun H' e1 e2 e3 => by
    rw [hsl] at e1 ⊢
    refine kk H' _ (ySet hR he e2 e3 ?_) (hS0.put e2 e3 (yD.2 q0 _ (yWs_at he)))
    refine ⟨_, hc, t_OB.to (V := updV (vp_V (fs.map (yF X))) k (ztr X v)) ⟨_, e1, q2, q3, t_set q4 hap hk (ztr X v)⟩ (fun j _ => ?_)⟩
    show updV (vp_V (fs.map (yF X))) k (ztr X v) j = vp_V ((fs.set k (some v)).map (yF X)) j
    rw [List.map_set]
    exact vp_updV_set (by rw [List.length_map]; exact hl) (ztr X v) j
  by_cases hfin : (T k).2.2.2 = true
  · obtain ⟨hin2, hdecl⟩ := hfi hfin
    unfold u_lay at hlay
    rw [if_pos hfin] at hlay
    have hcf : m.cls = cf := by
      obtain ⟨_, _, c', _, _, _, -, -, hf', -, -, -, hown2, -⟩ := Cond.laysFinal_spec hlay
      have e1 : c' = cf := by
        have := hi.symm.trans hf'
        simp at this
        exact this.1.symm
      rw [hdecl] at hown2
      rw [← e1]
      exact Option.some.inj (hown.symm.trans hown2)
    have h6 := u_fits hfc hkC hkind (Or.inr hlay) hi (hty k hk) hn hfit
    exact W.putFinK hx hb hown hlink hi hst hcf hin2 (by rw [q2]; exact h6) q1 q3 (by rw [hsl]; exact k2_hasslot (q4 k hk)) rfl rfl hdg fin
  · unfold u_lay at hlay
    rw [if_neg hfin] at hlay
    have h6 := u_store hfc hkC hkind hlay hi (hty k hk) hn hfit
    exact W.putK hx hb (f := f) ⟨hown, hlink, ⟨_, _, _, hi⟩, hst⟩ (by rw [q2]; exact h6) q1 q3 (by rw [hsl]; exact k2_hasslot (q4 k hk)) rfl rfl hdg fin
end YS
