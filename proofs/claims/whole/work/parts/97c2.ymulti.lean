/-! CONSTRUCTORS: arrays of arrays (multianewarray with two lengths), out of the model's own words -/
/-- the class [[I and its component [I are there -/
def yAA (U : State) : Prop := ∃ (cI cA : ClassId) (kA : Class), U.vm.findClass "[I" = some cI ∧ U.vm.classes[cA]? = some kA ∧ kA.kind = .array cI (.array .int) ∧ U.vm.findClass "[[I" = some cA
theorem yAA_of {s : State} {args : Array Value} (h : (Cond.arrayOver (.array .int)).before args s = true) : yAA s := by
  obtain ⟨cI, cA, kA, h1, -, h2, h3, h4⟩ := arrayOverA_spec h
  have e1 : (FieldType.array FieldType.int).toString = "[I" := by decide
  have e2 : "[" ++ (FieldType.array FieldType.int).toString = "[[I" := by decide
  rw [e1] at h1
  rw [e2] at h4
  exact ⟨cI, cA, kA, h1, h2, h3, h4⟩
theorem yAA_moved {s U : State} (hal : s.vm.Alike U.vm) (h : yAA s) : yAA U := by
  obtain ⟨cI, cA, kA, h1, h2, h3, h4⟩ := h
  obtain ⟨kB, h5, h6⟩ := hal.2.2 _ _ h2
  exact ⟨cI, cA, kB, (hal.findClass _ _).trans h1, h5, by rw [h6]; exact h3, (hal.findClass _ _).trans h4⟩
section YM
variable {E : CtlPost} {e : Env} {d : Bool} {acts : List Action} {U : State} {cA cI cc : ClassId} {kA kI : Class} {ty : FieldType}
/-- the model's newArray -/
theorem y_mk {N : Nat} {x : Value} {Q : Addr → Pre} (hA : U.vm.classes[cA]? = some kA) (hAk : kA.kind = .array cI ty) (hd : x.isDefault = true) (hf : fits ty x = true) (h1 : N ≤ e.platform.arrayLengthLimit) (h2 : N * componentBytes ty ≤ e.platform.maxHeapBytes) (h3 : U.heap.size + 1 ≤ e.platform.maxCells) (h4 : U.slotsUsed + N ≤ e.platform.maxSlots) (hq : ∀ a2, Q U.heap.size d a2 (U.pushCell (arrV cA N (fun _ => x)))) : wp (Jvm.newArray cA N x) Q E e d acts U := by
  have g1 : ¬ N > e.platform.arrayLengthLimit := Nat.not_lt.mpr h1
  have g2 : ¬ N * componentBytes ty > e.platform.maxHeapBytes := Nat.not_lt.mpr h2
  have g3 : ¬ N > e.platform.maxSlots := by omega
  unfold Jvm.newArray Jvm.arrayFits
  simp only [wp_bind', Jvm.W.ask, Jvm.W.ite, wp_pure', Jvm.W.theClass, Jvm.W.alloc, Jvm.W.stop, hA, hAk, g1, g2, g3, if_false, Option.some.injEq, exists_eq_left', Array.size_replicate]
  refine ⟨h3, h4, fun i v hv => ?_, ?_⟩
  · rw [Array.getElem?_replicate] at hv
    split at hv
    · cases hv
      simp [State.fitsSlot, State.slotType?, hA, hAk, hf]
    · cases hv
  · rw [arrV_new]
    exact hq _
theorem y_mk1 {k : Int32} {Q : Addr → Pre} (hI : U.vm.classes[cI]? = some kI) (hIk : kI.kind = .array cc .int) (hk : ¬ k < 0) (h1 : k.toNatClampNeg ≤ e.platform.arrayLengthLimit) (h2 : k.toNatClampNeg * 4 ≤ e.platform.maxHeapBytes) (h3 : U.heap.size + 1 ≤ e.platform.maxCells) (h4 : U.slotsUsed + k.toNatClampNeg ≤ e.platform.maxSlots) (hq : ∀ a2, Q U.heap.size d a2 (U.pushCell (arrV cI k.toNatClampNeg (fun _ => .int 0)))) : wp (multianewarray.make cI [k]) Q E e d acts U := by
  rw [multianewarray.make]
  simp only [wp_bind', Jvm.W.ite, hk, if_false, wp_pure', Jvm.W.theClass, hI, hIk, Option.some.injEq, exists_eq_left']
  exact y_mk (x := .int 0) hI hIk rfl rfl h1 h2 h3 h4 hq
/-- the model's make with two lengths, by what holds behind i rows -/
theorem y_mk2 {n k : Int32} {N M : Nat} {Q : Addr → Pre} (J : Nat → State → Prop) (hA : U.vm.classes[cA]? = some kA) (hAk : kA.kind = .array cI (.array .int)) (hI : U.vm.classes[cI]? = some kI) (hIk : kI.kind = .array cc .int) (hn : ¬ n < 0) (hk : ¬ k < 0) (hN : n.toNatClampNeg = N) (hM : k.toNatClampNeg = M)
    (l1 : N ≤ e.platform.arrayLengthLimit) (l2 : N * 4 ≤ e.platform.maxHeapBytes) (l3 : M ≤ e.platform.arrayLengthLimit) (l4 : M * 4 ≤ e.platform.maxHeapBytes) (l5 : U.heap.size + (1 + N) ≤ e.platform.maxCells) (l6 : U.slotsUsed + (N + N * M) ≤ e.platform.maxSlots)
    (j0 : J 0 (U.pushCell (arrV cA N (fun _ => .null))))
    (js : ∀ i V f, i < N → J i V → V.heap[U.heap.size]? = some (arrV cA N f) → J (i + 1) ((V.pushCell (arrV cI M (fun _ => .int 0))).setCell U.heap.size (arrV cA N (updV f i (.ref V.heap.size)))))
    (jc : ∀ i V, i ≤ N → J i V → V.vm = U.vm ∧ (∃ f, V.heap[U.heap.size]? = some (arrV cA N f)) ∧ V.heap.size = U.heap.size + 1 + i ∧ V.slotsUsed = U.slotsUsed + N + i * M)
    (hq : ∀ d2 a2 V, J N V → Q U.heap.size d2 a2 V) : wp (multianewarray.make cA [n, k]) Q E e d acts U := by
  subst hN hM
  rw [multianewarray.make]
  simp only [wp_bind', Jvm.W.ite, hn, if_false, wp_pure', Jvm.W.theClass, hA, hAk, Option.some.injEq, exists_eq_left']
  refine y_mk hA hAk rfl rfl l1 l2 (by omega) (Nat.le_trans (Nat.add_le_add_left (Nat.le_add_right _ _) _) l6) (fun a2 => ?_)
  have hfind : ([k].find? (· < 0)) = none := by simp [hk]
  simp only [hfind]
  rw [ite_self, wp_bind', Std.Legacy.Range.forIn_eq_forIn_range']
  have hsz : ([:n.toNatClampNeg] : Std.Legacy.Range).size = n.toNatClampNeg := by simp [Std.Legacy.Range.size]
  rw [hsz]
  show wp (forIn (List.range' 0 n.toNatClampNeg 1) PUnit.unit _) _ E e d a2 _
  refine wp_forIn_inv (fun r V => ∃ i, i + r.length = n.toNatClampNeg ∧ r = List.range' i r.length ∧ J i V) _ _ ⟨0, by simp, by simp, j0⟩ ?_ ?_
  · rintro x r V d3 a3 Q3 ⟨i, e1, e2, hJ⟩ next
    rw [List.length_cons, List.range'_succ] at e2
    obtain ⟨rfl, e3⟩ := List.cons.inj e2
    rw [List.length_cons] at e1
    have hlt : x < n.toNatClampNeg := by omega
    obtain ⟨v1, ⟨f, v2⟩, v3, v4⟩ := jc x V (by omega) hJ
    have hmul : x * k.toNatClampNeg + k.toNatClampNeg ≤ n.toNatClampNeg * k.toNatClampNeg := by
      have h := Nat.mul_le_mul_right k.toNatClampNeg hlt
      rwa [Nat.succ_mul] at h
    simp only [wp_bind']
    refine y_mk1 (by rw [v1]; exact hI) hIk hk l3 l4 (by omega) (by omega) (fun a4 => ?_)
    simp only [wp_bind', Jvm.W.writeLoc, wp_pure']
    refine ⟨arrV cA n.toNatClampNeg f, ?_, (fun h => by cases h), by rw [arrV_size]; exact hlt, ?_, next _ _ _ ⟨x + 1, by omega, e3, ?_⟩⟩
    · exact (State.heap_pushCell_of_lt _ _ (show U.heap.size < V.heap.size by omega)).trans v2
    · show (V.pushCell _).fitsSlot cA .none x _ = true
      first
        | (simp [State.fitsSlot, State.slotType?, v1, hA, hAk, fits]; done)
        | (simp only [State.fitsSlot, State.slotType?, State.vm_pushCell, v1, hA, hAk]; rfl)
    · rw [arrV_store]
      exact js x V f hlt hJ v2
  · rintro V d3 a3 ⟨i, e1, -, hJ⟩
    have e4 : i = n.toNatClampNeg := by simpa using e1
    subst e4
    simp only [wp_pure']
    exact hq _ _ _ hJ
end YM
section YM2
variable {X : zX} {p : Program} {l : Launch} {e : Env} {R : Room} {s : State} {m : MethodId} {args : Array Value} {below : List Frame} {meth : Method} {c : Code} {cells slots : Nat} {Q : State → Prop}
variable {own : String} {cc : ByteArray} {H : Heap} {locs : List Loc} {la : Array Slot} {ws : List yC} {pc : Nat} {rest : List Value}
def yRw (B N i : Nat) : Nat → Value := fun j => if j < i then .ref (B + 1 + j) else .null
/-- the state behind the outer row and i inner ones -/
def yFl (V : State) (cA cI : ClassId) (N M : Nat) : Nat → State
  | 0 => V.pushCell (arrV cA N (fun _ => .null))
  | i + 1 => ((yFl V cA cI N M i).pushCell (arrV cI M (fun _ => .int 0))).setCell V.heap.size (arrV cA N (yRw V.heap.size N (i + 1)))
theorem yRw_up (B N i : Nat) : updV (yRw B N i) i (.ref (B + 1 + i)) = yRw B N (i + 1) := by
  funext j
  unfold updV yRw
  by_cases h1 : j = i
  · rw [if_pos h1, if_pos (by omega), h1]
  · rw [if_neg h1]
    by_cases h2 : j < i
    · rw [if_pos h2, if_pos (by omega)]
    · rw [if_neg h2, if_neg (by omega)]
theorem yFl_ok {V : State} (Z : Stand p l e R s m args below meth c V locs cells slots) (cA cI : ClassId) (N M : Nat) : ∀ i, Stand p l e R s m args below meth c (yFl V cA cI N M i) locs (cells + 1 + i) (slots + N + i * M) ∧ (yFl V cA cI N M i).vm = V.vm ∧ (yFl V cA cI N M i).slotsUsed = V.slotsUsed + N + i * M ∧ (yFl V cA cI N M i).heap.size = V.heap.size + 1 + i ∧ (yFl V cA cI N M i).heap[V.heap.size]? = some (arrV cA N (yRw V.heap.size N i)) ∧ (∀ j, j < i → (yFl V cA cI N M i).heap[V.heap.size + 1 + j]? = some (arrV cI M (fun _ => .int 0))) ∧ ∀ q, q < V.heap.size → (yFl V cA cI N M i).heap[q]? = V.heap[q]?
  | 0 => by
    have h := Z.pushed (arrV cA N (fun _ => .null))
    rw [arrV_size] at h
    refine ⟨by rw [Nat.zero_mul]; exact h, rfl, ?_, size_pushCell _ _, State.heap_pushCell_size _ _, fun j hj => absurd hj (Nat.not_lt_zero _), fun q hq => State.heap_pushCell_of_lt _ _ hq⟩
    show V.slotsUsed + (arrV cA N _).slots.size = _
    rw [arrV_size, Nat.zero_mul]
    rfl
  | i + 1 => by
    obtain ⟨Zi, u1, u2, u3, u4, u5, u6⟩ := yFl_ok Z cA cI N M i
    have hlt : V.heap.size < (yFl V cA cI N M i).heap.size := by omega
    have g4 : ((yFl V cA cI N M i).pushCell (arrV cI M (fun _ => .int 0))).heap[V.heap.size]? = some (arrV cA N (yRw V.heap.size N i)) := (State.heap_pushCell_of_lt _ _ hlt).trans u4
    have h1 := Zi.pushed (arrV cI M (fun _ => .int 0))
    rw [arrV_size] at h1
    have h2 := (h1.stored g4 i (.ref (V.heap.size + 1 + i))).dropFresh (fun x hx => by
      rw [List.mem_singleton.mp hx]
      exact Z.heapGrown)
    rw [arrV_store, yRw_up] at h2
    have hm : slots + N + (i + 1) * M = slots + N + i * M + M := by
      rw [Nat.succ_mul]
      omega
    have hz : ((yFl V cA cI N M i).pushCell (arrV cI M (fun _ => .int 0))).heap.size = V.heap.size + 1 + i + 1 := by rw [size_pushCell, u3]
    have hne : ∀ q, V.heap.size ≠ q → (yFl V cA cI N M (i + 1)).heap[q]? = ((yFl V cA cI N M i).pushCell (arrV cI M (fun _ => .int 0))).heap[q]? := fun q hq => heapAt_setCell_ne _ hq
    have hlt2 : V.heap.size < ((yFl V cA cI N M i).pushCell (arrV cI M (fun _ => .int 0))).heap.size := by
      rw [hz]
      omega
    refine ⟨by rw [hm]; exact h2, u1, ?_, ?_, heapAt_setCell_self _ hlt2, fun j hj => ?_, fun q hq => ?_⟩
    · show (yFl V cA cI N M i).slotsUsed + (arrV cI M _).slots.size = _
      rw [arrV_size, u2, Nat.succ_mul]
      omega
    · exact (size_setCell _ _ _).trans hz
    · refine (hne _ (show V.heap.size ≠ V.heap.size + 1 + j by omega)).trans ?_
      by_cases hj' : j < i
      · exact (State.heap_pushCell_of_lt _ _ (show V.heap.size + 1 + j < (yFl V cA cI N M i).heap.size by omega)).trans (u5 j hj')
      · have hji : V.heap.size + 1 + j = (yFl V cA cI N M i).heap.size := by omega
        rw [hji]
        exact State.heap_pushCell_size _ _
    · exact (hne q (show V.heap.size ≠ q by omega)).trans ((State.heap_pushCell_of_lt _ _ (show q < (yFl V cA cI N M i).heap.size by omega)).trans (u6 q hq))
theorem y_multi (hx : p.tables.exec = Jvm.exec) (hb : c.code = cc) {index : Nat} {n k : Int32} {N M : Nat} (hown : s.vm.findClass own = some m.cls) (hcl : (Cond.classLink own index "[[I").before args s = true) (hov : yAA s) (harr : (Cond.arrayClass .int).before args s = true) (hR : yRep X ws s H) (hS : va_S (zA X) s.heap H locs)
    (hn : ¬ n < 0) (hk : ¬ k < 0) (hN : n.toNatClampNeg = N) (hM : k.toNatClampNeg = M) (hN1 : N ≤ 1000) (hM1 : M ≤ 1000) (hcells : cells + (1 + N) ≤ R.cells) (hslots : slots + (N + N * M) ≤ R.slots) (hdg : decode cc pc = .ok (.multianewarray index 2, 4))
    (kk : ∀ H1 : Heap, yRep X (ws ++ yGrid ws.length N M) s H1 → va_S (zA X) s.heap H1 locs → W p l e R s m args below meth c H1 locs (cells + 1 + N) (slots + N + N * M) Q (F0 m (pc + 4) la (.ref (X.2.2.2.1 + ws.length) :: rest))) : W p l e R s m args below meth c H locs cells slots Q (F0 m pc la (.int k :: .int n :: rest)) := by
  subst hN hM hb
  intro T hT Z
  obtain ⟨cI, cA, kA, a1, a2, a3, a4⟩ := hov
  obtain ⟨cI', kI, cc', b1, b2, b3⟩ := Cond.arrayClass_spec harr
  have e0 : "[" ++ FieldType.int.toString = "[I" := by decide
  rw [e0] at b1
  cases a1.symm.trans b1
  have hpl : e.platform.magicAccessors = ({} : Platform).magicAccessors := by rw [Z.admits.platform]
  obtain ⟨c0, f0, hlk⟩ := Cond.classLink_spec hown hcl e.platform hpl
  cases a4.symm.trans f0
  obtain ⟨hg1, hw1, -⟩ := State.classEntry (e := e) Z.warmed hlk
  generalize T.vm.noted m.cls index (.cls cA) = vm1 at hg1 hw1
  obtain ⟨kA1, c1, c2⟩ := hw1.alike.2.2 _ _ a2
  obtain ⟨kI1, d1, d2⟩ := hw1.alike.2.2 _ _ b2
  have c3 : kA1.kind = .array cI (.array .int) := by rw [c2]; exact a3
  have d3 : kI1.kind = .array cc' .int := by rw [d2]; exact b3
  obtain ⟨r1, r2⟩ := Z.roomAbove hcells hslots
  have hcA : cA = X.2.2.1 4 := Option.some.inj (a4.symm.trans (hR.1.2 4 _ rfl).2)
  have hcI : cI = X.2.2.1 0 := Option.some.inj (a1.symm.trans (hR.1.2 0 _ rfl).2)
  have hTh : (T.setVm vm1).heap = H := hT
  have A := yFl_ok (Z.noted hw1) cA cI n.toNatClampNeg k.toNatClampNeg
  obtain ⟨X1, -, -, f1, f2, fi, fo⟩ := A n.toNatClampNeg
  have z1 : (yFl (T.setVm vm1) cA cI n.toNatClampNeg k.toNatClampNeg n.toNatClampNeg).heap.size = H.size + (yGrid ws.length n.toNatClampNeg k.toNatClampNeg).length := by
    rw [f1, hTh, yGrid, List.length_cons, List.length_replicate]
    omega
  have o1 : ∀ q, q < H.size → (yFl (T.setVm vm1) cA cI n.toNatClampNeg k.toNatClampNeg n.toNatClampNeg).heap[q]? = H[q]? := fun q hq => by
    rw [fo q (by rw [hTh]; exact hq), hTh]
  have hrep : yRep X (ws ++ yGrid ws.length n.toNatClampNeg k.toNatClampNeg) s (yFl (T.setVm vm1) cA cI n.toNatClampNeg k.toNatClampNeg n.toNatClampNeg).heap := by
    refine yMore hR o1 z1 (fun j d hd => ?_)
    cases j with
    | zero =>
      cases hd
      show (yFl (T.setVm vm1) cA cI n.toNatClampNeg k.toNatClampNeg n.toNatClampNeg).heap[H.size + 0]? = some (arrV (X.2.2.1 4) ((List.range n.toNatClampNeg).map (fun i => some (ws.length + 1 + i))).length (fun j => va_rf ((((List.range n.toNatClampNeg).map (fun i => some (ws.length + 1 + i))).getD j none).map (fun z => X.2.2.2.1 + z))))
      rw [hTh] at f2
      rw [Nat.add_zero, f2, ← hcA, List.length_map, List.length_range]
      refine congrArg (fun g => some (arrV cA n.toNatClampNeg g)) ?_
      funext j
      unfold yRw
      by_cases w : j < n.toNatClampNeg
      · have e : ((List.range n.toNatClampNeg).map (fun i => some (ws.length + 1 + i))).getD j none = some (ws.length + 1 + j) := by
          rw [List.getD_eq_getElem?_getD, List.getElem?_map, List.getElem?_range w]
          rfl
        rw [if_pos w, e, hR.2.2]
        exact congrArg Value.ref (show X.2.2.2.1 + ws.length + 1 + j = X.2.2.2.1 + (ws.length + 1 + j) by omega)
      · have e : ((List.range n.toNatClampNeg).map (fun i => some (ws.length + 1 + i))).getD j none = none := by
          rw [List.getD_eq_getElem?_getD, List.getElem?_map, List.getElem?_eq_none (by rw [List.length_range]; omega)]
          rfl
        rw [if_neg w, e]
        rfl
    | succ j =>
      have hd' : (List.replicate n.toNatClampNeg (.inr (.inl (0, List.replicate k.toNatClampNeg 0))) : List yC)[j]? = some d := hd
      rw [List.getElem?_replicate] at hd'
      split at hd'
      · rename_i hj
        cases hd'
        show (yFl (T.setVm vm1) cA cI n.toNatClampNeg k.toNatClampNeg n.toNatClampNeg).heap[H.size + (j + 1)]? = some (arrV (X.2.2.1 0) (List.replicate k.toNatClampNeg (0 : Int32)).length (fun q => .int ((List.replicate k.toNatClampNeg (0 : Int32)).getD q 0)))
        have h := fi j hj
        rw [hTh] at h
        rw [show H.size + (j + 1) = H.size + 1 + j by omega, h, ← hcI, List.length_replicate]
        refine congrArg (fun g => some (arrV cI k.toNatClampNeg g)) ?_
        funext q
        rw [List.getD_eq_getElem?_getD, List.getElem?_replicate]
        split <;> rfl
      · cases hd'
  obtain ⟨t, t1, t2⟩ := kk _ hrep (ySg hS z1 o1) (yFl (T.setVm vm1) cA cI n.toNatClampNeg k.toNatClampNeg n.toNatClampNeg) rfl X1
  refine ⟨t, ?_, t2⟩
  rw [← hR.2.2, ← hT] at t1
  have k1 := Launch.admits_arrayLengthLimit Z.admits
  have k2 := Launch.admits_maxHeapBytes Z.admits
  jvm_step Z.here [hx, hdg]
  simp only [multianewarray.sem, wp_bind', Jvm.W.resolveClassAt_links (State.method?_setTop (F0 m pc la (.int k :: .int n :: rest)) Z.here.top) hg1]
  rw [Jvm.W.popN, if_neg (by decide)]
  refine ⟨F0 m pc la (.int k :: .int n :: rest), State.topJava?_setTop' (s := T.setVm vm1) _ Z.here.top, [.int n, .int k], rest, rfl, rfl, ?_⟩
  simp only [List.mapM_cons, List.mapM_nil, wp_bind', wp_pure']
  refine y_mk2 (kA := kA1) (kI := kI1) (cc := cc') (N := n.toNatClampNeg) (M := k.toNatClampNeg) (fun i V => V = (yFl (T.setVm vm1) cA cI n.toNatClampNeg k.toNatClampNeg i).setTop (F0 m pc la rest)) c1 c3 d1 d3 hn hk rfl rfl (by omega) (by omega) (by omega) (by omega) r1 r2 ?_ ?_ ?_ ?_
  · show _ = ((T.setVm vm1).pushCell _).setTop _
    rw [← State.pushCell_setTop]
    congr 1
    show ((T.setVm vm1).setTop _).setTop _ = _
    rw [State.setTop_setTop]
  · rintro i V f hi rfl hf
    obtain ⟨-, -, -, w3, w4, -, -⟩ := A i
    have hf2 : arrV cA n.toNatClampNeg f = arrV cA n.toNatClampNeg (yRw (T.setVm vm1).heap.size n.toNatClampNeg i) := Option.some.inj (hf.symm.trans w4)
    have hs : arrV cA n.toNatClampNeg (updV f i (.ref ((T.setVm vm1).heap.size + 1 + i))) = arrV cA n.toNatClampNeg (yRw (T.setVm vm1).heap.size n.toNatClampNeg (i + 1)) := by
      rw [← arrV_store, hf2, arrV_store, yRw_up]
    show ((((yFl (T.setVm vm1) cA cI n.toNatClampNeg k.toNatClampNeg i).pushCell (arrV cI k.toNatClampNeg (fun _ => .int 0))).setCell (T.setVm vm1).heap.size (arrV cA n.toNatClampNeg (updV f i (.ref (yFl (T.setVm vm1) cA cI n.toNatClampNeg k.toNatClampNeg i).heap.size))))).setTop _ = _
    rw [w3, hs]
    rfl
  · rintro i V hi rfl
    obtain ⟨-, w1, w2, w3, w4, -, -⟩ := A i
    exact ⟨w1, ⟨_, w4⟩, w3, w2⟩
  · rintro d2 a2 V rfl
    simp only [wp_bind', Jvm.W.mark, Jvm.W.pushRef, State.topJava?_setTop' _ X1.here.top, Option.some.injEq, exists_eq_left', State.setTop_setTop, State.heap_setTop]
    intro acts
    simp [jvm, X1.here.top]
    exact t1
end YM2
