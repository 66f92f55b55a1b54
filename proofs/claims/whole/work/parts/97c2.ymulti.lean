/-! CONSTRUCTORS: arrays of arrays (multianewarray with two lengths). What holds behind i inner rows is said as everywhere here: yRep of the list of cells that stand then -/
/-- the class [[I and its component [I are there -/
def yAA (U : State) : Prop := ∃ (cI cA : ClassId) (kA : Class), U.vm.findClass "[I" = some cI ∧ U.vm.classes[cA]? = some kA ∧ kA.kind = .array cI (.array .int) ∧ U.vm.findClass "[[I" = some cA
theorem yAA_of {s : State} {args : Array Value} (h : (Cond.arrayOver (.array .int)).before args s = true) : yAA s := by
  obtain ⟨cI, cA, kA, h1, -, h2, h3, h4⟩ := arrayOverA_spec h
  have e1 : (FieldType.array FieldType.int).toString = "[I" := by decide
  have e2 : "[" ++ (FieldType.array FieldType.int).toString = "[[I" := by decide
  rw [e1] at h1
  rw [e2] at h4
  exact ⟨cI, cA, kA, h1, h2, h3, h4⟩
theorem yAA_moved {s U : State} (hal : s.vm.Alike U.vm) (h : yAA s) : yAA U := by
  obtain ⟨cI, cA, kA, h1, h2, h3, h4⟩ := h
  obtain ⟨kB, h5, h6⟩ := hal.2.2 _ _ h2
  exact ⟨cI, cA, kB, (hal.findClass _ _).trans h1, h5, by rw [h6]; exact h3, (hal.findClass _ _).trans h4⟩
/-- the outer row's names behind i inner rows; L: how many cells stood before -/
def yNm (L N i : Nat) : List (Option Nat) := (List.range N).map (fun j => if j < i then some (L + 1 + j) else none)
/-- the cells behind i inner rows -/
def yPt (ws : List yC) (N M i : Nat) : List yC := ws ++ .inr (.inr (4, yNm ws.length N i)) :: List.replicate i (.inr (.inl (0, List.replicate M 0)))
theorem yNm_len (L N i : Nat) : (yNm L N i).length = N := by
  unfold yNm
  rw [List.length_map, List.length_range]
theorem yNm_0 (L N j : Nat) : (yNm L N 0).getD j none = none := by
  unfold yNm
  rw [List.getD_eq_getElem?_getD, List.getElem?_map]
  cases (List.range N)[j]? with
  | none => rfl
  | some w => exact (if_neg (Nat.not_lt_zero w) : (if w < 0 then some (L + 1 + w) else none) = none)
theorem yNm_set (L : Nat) {N i : Nat} (hi : i < N) : (yNm L N i).set i (some (L + 1 + i)) = yNm L N (i + 1) := by
  refine List.ext_getElem (by rw [List.length_set, yNm_len, yNm_len]) (fun j h1 h2 => ?_)
  rw [List.getElem_set]
  simp only [yNm, List.getElem_map, List.getElem_range]
  split
  · rename_i hj
    subst hj
    exact (if_pos (Nat.lt_succ_self _)).symm
  · rename_i hj
    have hiff : j < i ↔ j < i + 1 := by omega
    simp only [hiff]
theorem yPt_len (ws : List yC) (N M i : Nat) : (yPt ws N M i).length = ws.length + (1 + i) := by
  unfold yPt
  rw [List.length_append, List.length_cons, List.length_replicate, Nat.add_comm 1 i]
theorem yPt_at (ws : List yC) (N M i : Nat) : (yPt ws N M i)[ws.length]? = some (.inr (.inr (4, yNm ws.length N i))) := by
  unfold yPt
  rw [List.getElem?_append_right (Nat.le_refl _), Nat.sub_self]
  rfl
theorem yPt_next (ws : List yC) {N i : Nat} (M : Nat) (hi : i < N) : (yPt ws N M i ++ [(.inr (.inl (0, List.replicate M 0)) : yC)]).set ws.length (.inr (.inr (4, (yNm ws.length N i).set i (some (ws.length + 1 + i))))) = yPt ws N M (i + 1) := by
  unfold yPt
  rw [yNm_set _ hi, List.append_assoc, List.set_append_right _ _ (Nat.le_refl _), Nat.sub_self, List.cons_append, List.set_cons_zero, List.replicate_succ']
theorem yPt_end (ws : List yC) (N M : Nat) : yPt ws N M N = ws ++ yGrid ws.length N M := by
  have e : yNm ws.length N N = (List.range N).map (fun i => some (ws.length + 1 + i)) := List.map_congr_left (fun j hj => if_pos (List.mem_range.mp hj))
  unfold yPt yGrid
  rw [e]
/-- the outer row's cell behind i inner rows -/
def yOc (X : zX) (L N i : Nat) : Cell := arrV (X.2.2.1 4) (yNm L N i).length (fun j => va_rf (((yNm L N i).getD j none).map (fun z => X.2.2.2.1 + z)))
section YM
variable {X : zX} {ws : List yC} {s V : State} {N M i : Nat}
theorem yFst (hR : yRep X ws s V.heap) : yRep X (yPt ws N M 0) s (V.pushCell (arrV (X.2.2.1 4) N (fun _ => .null))).heap := by
  refine yOne hR (fun q hq => State.heap_pushCell_of_lt _ _ hq) (size_pushCell _ _) ?_
  show (V.pushCell _).heap[V.heap.size]? = some (yOc X ws.length N 0)
  rw [State.heap_pushCell_size]
  unfold yOc
  rw [yNm_len]
  refine congrArg (fun g => some (arrV (X.2.2.1 4) N g)) (funext fun j => ?_)
  rw [yNm_0]
  rfl
theorem yInn (ws2 : List yC) (hR : yRep X ws2 s V.heap) : yRep X (ws2 ++ [.inr (.inl (0, List.replicate M 0))]) s (V.pushCell (arrV (X.2.2.1 0) M (fun _ => .int 0))).heap := by
  refine yOne hR (fun q hq => State.heap_pushCell_of_lt _ _ hq) (size_pushCell _ _) ?_
  show (V.pushCell _).heap[V.heap.size]? = some (arrV (X.2.2.1 0) (List.replicate M (0 : Int32)).length (fun q => .int ((List.replicate M (0 : Int32)).getD q 0)))
  rw [State.heap_pushCell_size, List.length_replicate]
  refine congrArg (fun g => some (arrV (X.2.2.1 0) M g)) (funext fun q => ?_)
  have e : (List.replicate M (0 : Int32)).getD q 0 = 0 := by
    rw [List.getD_eq_getElem?_getD, List.getElem?_replicate]
    split <;> rfl
  rw [e]
theorem yRow (hi : i < N) (hR : yRep X (yPt ws N M i) s V.heap) : (V.pushCell (arrV (X.2.2.1 0) M (fun _ => .int 0))).heap[X.2.2.2.1 + ws.length]? = some (yOc X ws.length N i) ∧
    yRep X (yPt ws N M (i + 1)) s ((V.pushCell (arrV (X.2.2.1 0) M (fun _ => .int 0))).setCell (X.2.2.2.1 + ws.length) ((yOc X ws.length N i).setSlot i (.ref V.heap.size))).heap := by
  have h1 := yInn (M := M) _ hR
  have hat : (yPt ws N M i ++ [(.inr (.inl (0, List.replicate M 0)) : yC)])[ws.length]? = some (.inr (.inr (4, yNm ws.length N i))) := by
    rw [List.getElem?_append_left (by rw [yPt_len]; omega)]
    exact yPt_at ws N M i
  have h2 : (V.pushCell (arrV (X.2.2.1 0) M (fun _ => .int 0))).heap[X.2.2.2.1 + ws.length]? = some (yOc X ws.length N i) := h1.2.1 ws.length _ (yWs_at hat)
  refine ⟨h2, ?_⟩
  have h3 := ySet (c' := .inr (.inr (4, (yNm ws.length N i).set i (some (ws.length + 1 + i))))) h1 hat (size_setCell _ _ ((yOc X ws.length N i).setSlot i (.ref V.heap.size))) (fun q hq => heapAt_setCell_ne _ (Ne.symm hq)) ?_
  · rw [yPt_next ws M hi] at h3
    exact h3
  · show (State.setCell _ _ _).heap[X.2.2.2.1 + ws.length]? = some (arrV (X.2.2.1 4) ((yNm ws.length N i).set i (some (ws.length + 1 + i))).length (fun j => va_rf ((((yNm ws.length N i).set i (some (ws.length + 1 + i))).getD j none).map (fun z => X.2.2.2.1 + z))))
    rw [heapAt_setCell_self _ (Array.getElem?_eq_some_iff.mp h2).1, hR.2.2, yPt_len, ← Nat.add_assoc ws.length, List.length_set, ← yUpR (by rw [yNm_len]; exact hi)]
    unfold yOc
    rw [arrV_store]
end YM
section YM2
variable {X : zX} {p : Program} {l : Launch} {e : Env} {R : Room} {s : State} {m : MethodId} {args : Array Value} {below : List Frame} {meth : Method} {c : Code} {cells slots : Nat} {Q : State → Prop}
variable {own : String} {cc : ByteArray} {H : Heap} {locs : List Loc} {la : Array Slot} {ws : List yC} {pc : Nat} {rest : List Value}
variable {E : CtlPost} {d : Bool} {acts : List Action} {U : State} {f : JFrame}
/-- a loop that counts up to N -/
theorem y_cnt {g : Nat → PUnit → Sem (ForInStep PUnit)} {N : Nat} (J : Nat → State → Prop) (hs : ∀ (i : Nat) (d1 : Bool) (a1 : List Action) (V : State) (P : ForInStep PUnit → Pre), i < N → J i V → (∀ d2 a2 V2, J (i + 1) V2 → P (.yield .unit) d2 a2 V2) → wp (g i .unit) P E e d1 a1 V) :
    ∀ (k i : Nat), i + k = N → ∀ (d1 : Bool) (a1 : List Action) (V : State) (P : PUnit → Pre), J i V → (∀ d2 a2 V2, J N V2 → P .unit d2 a2 V2) → wp (forIn (List.range' i k) PUnit.unit g) P E e d1 a1 V
  | 0, i, hk, d1, a1, V, P, hJ, hP => by
    obtain rfl : i = N := hk
    rw [List.range'_zero, List.forIn_nil, wp_pure']
    exact hP _ _ _ hJ
  | k + 1, i, hk, d1, a1, V, P, hJ, hP => by
    rw [List.range'_succ, List.forIn_cons, wp_bind']
    exact hs i d1 a1 V _ (by omega) hJ (fun d2 a2 V2 h2 => y_cnt J hs k (i + 1) (by omega) d2 a2 V2 P h2 hP)
theorem y_rng {g : Nat → PUnit → Sem (ForInStep PUnit)} {N : Nat} {P : PUnit → Pre} (J : Nat → State → Prop) (h0 : J 0 U) (hP : ∀ d2 a2 V2, J N V2 → P .unit d2 a2 V2)
    (hs : ∀ (i : Nat) (d1 : Bool) (a1 : List Action) (V : State) (P : ForInStep PUnit → Pre), i < N → J i V → (∀ d2 a2 V2, J (i + 1) V2 → P (.yield .unit) d2 a2 V2) → wp (g i .unit) P E e d1 a1 V) : wp (forIn ([0:N] : Std.Legacy.Range) PUnit.unit g) P E e d acts U := by
  have h := y_cnt J hs N 0 (Nat.zero_add N) d acts U P h0 hP
  have hz : ([0:N] : Std.Legacy.Range).size = N := by
    show (N - 0 + 1 - 1) / 1 = N
    omega
  rw [← hz] at h
  rw [Std.Legacy.Range.forIn_eq_forIn_range']
  exact h
/-- an array of like values, made in a state of the walk -/
theorem y_like (Z : Stand p l e R s m args below meth c U locs cells slots) {q comp : ClassId} {k : Class} {ty : FieldType} {n : Nat} {x : Value} {P : Addr → Pre} (hk : s.vm.classes[q]? = some k) (hkk : k.kind = .array comp ty) (h4 : componentBytes ty = 4) (hn : n ≤ 1000) (hx : fits ty x = true) (hc : cells + 1 ≤ R.cells) (hs : slots + n ≤ R.slots)
    (hP : ∀ a2, P U.heap.size d a2 ((U.pushCell (arrV q n (fun _ => x))).setTop f)) : wp (Jvm.newArray q n x) P E e d acts (U.setTop f) := by
  obtain ⟨k1, e1, e2⟩ := Z.warmed.alike.2.2 _ _ hk
  obtain ⟨r1, r2⟩ := Z.roomAbove hc hs
  have l1 := Launch.admits_arrayLengthLimit Z.admits
  have l2 := Launch.admits_maxHeapBytes Z.admits
  refine Jvm.W.newArray_of (k := k1) (comp := comp) (type := ty) e1 (by rw [e2]; exact hkk) (by omega) (by rw [h4]; omega) r1 r2 hx (fun a2 => ?_)
  have hp := hP a2
  rw [← arrV_new] at hp
  exact hp
/-- what stands behind i inner rows -/
def yJ (X : zX) (ws : List yC) (N M : Nat) (p : Program) (l : Launch) (e : Env) (R : Room) (s : State) (m : MethodId) (args : Array Value) (below : List Frame) (meth : Method) (c : Code) (cells slots : Nat) (f : JFrame) (i : Nat) (T : State) : Prop :=
  ∃ (V : State) (lc : List Loc), T = V.setTop f ∧ Stand p l e R s m args below meth c V lc (cells + 1 + i) (slots + N + i * M) ∧ yRep X (yPt ws N M i) s V.heap ∧ va_S (zA X) s.heap V.heap lc
theorem y_grid (Z : Stand p l e R s m args below meth c U locs cells slots) (hR : yRep X ws s U.heap) (hS : va_S (zA X) s.heap U.heap locs) {kA kI : Class} {ci : ClassId} (hA : s.vm.classes[X.2.2.1 4]? = some kA) (hAk : kA.kind = .array (X.2.2.1 0) (.array .int)) (hI : s.vm.classes[X.2.2.1 0]? = some kI) (hIk : kI.kind = .array ci .int)
    {n k : Int32} {N M : Nat} (hn : ¬ n < 0) (hk : ¬ k < 0) (hN : n.toNatClampNeg = N) (hM : k.toNatClampNeg = M) (hN1 : N ≤ 1000) (hM1 : M ≤ 1000) (hc : cells + (1 + N) ≤ R.cells) (hs : slots + (N + N * M) ≤ R.slots) {P : Addr → Pre}
    (hP : ∀ d2 a2 T, yJ X ws N M p l e R s m args below meth c cells slots f N T → P (X.2.2.2.1 + ws.length) d2 a2 T) : wp (multianewarray.make (X.2.2.1 4) [n, k]) P E e d acts (U.setTop f) := by
  obtain ⟨k1, e1, e2⟩ := Z.warmed.alike.2.2 _ _ hA
  have e3 : k1.kind = .array (X.2.2.1 0) (.array .int) := by rw [e2]; exact hAk
  rw [multianewarray.make]
  simp only [wp_bind', Jvm.W.ite, hn, if_false, wp_pure', Jvm.W.theClass]
  refine ⟨k1, e1, ?_⟩
  simp only [e3, hN, wp_bind']
  refine y_like (x := .null) Z hA hAk rfl hN1 rfl (by omega) (by omega) (fun a2 => ?_)
  have hf : List.find? (fun x : Int32 => decide (x < 0)) [k] = none := List.find?_eq_none.mpr (fun x hx => by rw [List.mem_singleton.mp hx]; simpa using hk)
  simp only [hf, ite_self, wp_bind']
  rw [hR.2.2]
  refine y_rng (yJ X ws N M p l e R s m args below meth c cells slots f) ?_ (fun d2 a2 V2 h2 => by simp only [wp_pure']; exact hP _ _ _ h2) ?_
  · have h1 := Z.pushed (arrV (X.2.2.1 4) N (fun _ => .null))
    rw [arrV_size] at h1
    exact ⟨_, locs, rfl, by rw [Nat.zero_mul]; exact h1, yFst hR, ySg hS (size_pushCell _ _) (fun q hq => State.heap_pushCell_of_lt _ _ hq)⟩
  · rintro i d1 a1 T P1 hi ⟨V, lc, rfl, Z1, hR1, hS1⟩ next
    obtain ⟨k2, g1, g2⟩ := Z1.warmed.alike.2.2 _ _ hI
    have g3 : k2.kind = .array ci .int := by rw [g2]; exact hIk
    obtain ⟨c1, hR2⟩ := yRow hi hR1
    have hrow : i * M + M ≤ N * M := by
      rw [← Nat.succ_mul]
      exact Nat.mul_le_mul_right M hi
    rw [wp_bind', multianewarray.make]
    simp only [wp_bind', Jvm.W.ite, hk, if_false, wp_pure', Jvm.W.theClass]
    refine ⟨k2, g1, ?_⟩
    simp only [g3, hM]
    refine y_like (x := .int 0) Z1 hI hIk rfl hM1 rfl (by omega) (by omega) (fun a3 => ?_)
    rw [wp_bind', Jvm.W.writeLoc]
    refine ⟨yOc X ws.length N i, c1, (fun h => by cases h), ?_, ?_, next _ _ _ ⟨_, lc ++ [⟨X.2.2.2.1 + ws.length, i⟩], rfl, ?_, hR2, ?_⟩⟩
    · show i < (arrV _ _ _).slots.size
      rw [arrV_size, yNm_len]
      exact hi
    · obtain ⟨k3, g4, g5⟩ := Z1.warmed.alike.2.2 _ _ hA
      have g6 : k3.kind = .array (X.2.2.1 0) (.array .int) := by rw [g5]; exact hAk
      show V.fitsSlot (X.2.2.1 4) .none i _ = true
      simp [State.fitsSlot, State.slotType?, g4, g6, fits]
    · have h1 := (Z1.pushed (arrV (X.2.2.1 0) M (fun _ => .int 0))).stored c1 i (.ref V.heap.size)
      rw [arrV_size, Nat.add_assoc (slots + N), ← Nat.succ_mul] at h1
      exact h1
    · exact (ySg hS1 (size_pushCell _ _) (fun q hq => State.heap_pushCell_of_lt _ _ hq)).put (size_setCell _ _ _) (fun q hq => heapAt_setCell_ne _ (Ne.symm hq)) (Nat.le_add_right _ _)
/-- an instruction, its end known by what holds there -/
theorem y_ends {ins : Instr} {len : Nat} (h : At U f.method c below) (hd : decode c.code f.pc = .ok (ins, len)) (hw : wpRun (p.tables.exec ins) (fun _ V _ => ∃ t, (∀ a, Steps p.tables e below (afterInstr e len (.ok () V a)).1 t) ∧ Q t) (fun _ _ _ => False) e (U.setTop f)) : ∃ t, Steps p.tables e below (U.setTop f) t ∧ Q t := by
  have h1 := (wpRun_iff_run _ _ _ _ _).mp hw
  cases hq : (p.tables.exec ins).run e (U.setTop f) with
  | ok a V as =>
    rw [hq] at h1
    obtain ⟨t, h3, h4⟩ := h1
    refine ⟨t, Steps.instr h ?_, h4⟩
    rw [hd]
    refine (wpRun_iff_run _ _ _ _ _).mpr ?_
    rw [hq]
    exact h3
  | ctl x V as =>
    rw [hq] at h1
    cases x <;> exact h1.elim
theorem y_multi (hx : p.tables.exec = Jvm.exec) (hb : c.code = cc) {index : Nat} {n k : Int32} {N M : Nat} (hown : s.vm.findClass own = some m.cls) (hcl : (Cond.classLink own index "[[I").before args s = true) (hov : yAA s) (harr : (Cond.arrayClass .int).before args s = true) (hR : yRep X ws s H) (hS : va_S (zA X) s.heap H locs)
    (hn : ¬ n < 0) (hk : ¬ k < 0) (hN : n.toNatClampNeg = N) (hM : k.toNatClampNeg = M) (hN1 : N ≤ 1000) (hM1 : M ≤ 1000) (hcells : cells + (1 + N) ≤ R.cells) (hslots : slots + (N + N * M) ≤ R.slots) (hdg : decode cc pc = .ok (.multianewarray index 2, 4))
    (kk : ∀ (H1 : Heap) (locs1 : List Loc), yRep X (ws ++ yGrid ws.length N M) s H1 → va_S (zA X) s.heap H1 locs1 → W p l e R s m args below meth c H1 locs1 (cells + 1 + N) (slots + N + N * M) Q (F0 m (pc + 4) la (.ref (X.2.2.2.1 + ws.length) :: rest))) : W p l e R s m args below meth c H locs cells slots Q (F0 m pc la (.int k :: .int n :: rest)) := by
  intro T hT Z
  subst hT hb
  obtain ⟨cI, cA, kA, a1, a2, a3, a4⟩ := hov
  obtain ⟨cJ, kI, ci, b1, b2, b3⟩ := Cond.arrayClass_spec harr
  have hcA : cA = X.2.2.1 4 := Option.some.inj (a4.symm.trans (hR.1.2 4 _ rfl).2)
  have hcI : cI = X.2.2.1 0 := Option.some.inj (a1.symm.trans (hR.1.2 0 _ rfl).2)
  have hcJ : cJ = X.2.2.1 0 := Option.some.inj (b1.symm.trans (hR.1.2 0 _ rfl).2)
  subst hcA hcI hcJ
  obtain ⟨cB, f0, hlk⟩ := Cond.classLink_spec hown hcl e.platform (by rw [Z.admits.platform])
  obtain rfl : X.2.2.1 4 = cB := Option.some.inj (a4.symm.trans f0)
  obtain ⟨hg1, hw1, -⟩ := State.classEntry (e := e) Z.warmed hlk
  generalize T.vm.noted m.cls index (.cls (X.2.2.1 4)) = vm1 at hg1 hw1
  refine y_ends (f := F0 m pc la (.int k :: .int n :: rest)) Z.here hdg ?_
  rw [hx]
  show wp (multianewarray.sem index 2) _ _ e false [] (T.setTop (F0 m pc la (.int k :: .int n :: rest)))
  unfold multianewarray.sem
  rw [wp_bind', Jvm.W.resolveClassAt_links (State.method?_setTop (F0 m pc la (.int k :: .int n :: rest)) Z.here.top) hg1, wp_bind']
  refine (Jvm.Op.popN_top (s := T.setVm vm1) (f := F0 m pc la (.int k :: .int n :: rest)) (args := [.int n, .int k]) (rest := rest) Z.here.top rfl).mpr ?_
  simp only [List.mapM_cons, List.mapM_nil, wp_bind', wp_pure']
  refine y_grid (Z.noted hw1) hR hS a2 a3 b2 b3 hn hk hN hM hN1 hM1 hcells hslots (fun d2 a2 T2 h2 => ?_)
  obtain ⟨V, lc, rfl, Z2, hR2, hS2⟩ := h2
  rw [yPt_end] at hR2
  obtain ⟨t, t1, t2⟩ := kk V.heap lc hR2 hS2 V rfl Z2
  rw [wp_bind', Jvm.W.mark, Jvm.W.pushRef]
  refine ⟨_, State.topJava?_setTop' _ Z2.here.top, t, fun a => ?_, t2⟩
  rw [State.setTop_setTop, afterInstr_ok]
  exact t1
end YM2
