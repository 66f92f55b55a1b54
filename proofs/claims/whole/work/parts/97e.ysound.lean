/-! CONSTRUCTORS: the interpreter tells the truth -/
def ylink (T : List yMt) (own : String) (pc : Nat) (ins : Instr) (len a b : Nat) (cv : Int32) (mj : Nat) (h : List Nat) : Bool := match ins with
  | .aload_n _ | .iload_n _ | .istore_n _ | .dup | .iastore | .castore | .aastore | .return_ => decide (len = 1)
  | .iconst n => decide (len = 1) && decide (Int32.ofInt n = cv)
  | .bipush n => decide (len = 2) && decide ((Int8.ofInt n).toInt32 = cv)
  | .sipush n => decide (len = 3) && decide ((Int16.ofInt n).toInt32 = cv)
  | .iinc _ n => decide (len = 3) && decide (Int32.ofInt n = cv)
  | .goto o | .if_icmp _ o => decide (len = 3) && decide ((pc : Int) + o = (a : Int))
  | .newarray t => decide (len = 2) && decide (a < 4) && decide (newarray.typeOf t = ykt a)
  | .anewarray i => decide (len = 3) && (decide (a = 5) || decide (a = 6)) && zwd h 0 (.classLink own i (yCn a))
  | .multianewarray i d => decide (len = 4) && decide (d = 2) && zwd h 0 (.classLink own i "[[I")
  | .new i => decide (len = 3) && (match zcl[a]? with
    | some (C, _, N) => zwd h 0 (.classLink own i C) && zwd h 1 (.instantiable C N) && zwd h 2 (.initialized C)
    | none => false)
  | .getfield i => decide (len = 3) && (match zcl[a]? with
    | some (_, T, N) => decide (b < N) && zwd h 0 (.fieldLink own i (T b).1 (T b).2.1 (T b).2.2.1)
    | none => false)
  | .putfield i => decide (len = 3) && (match zcl[a]? with
    | some (_, T, N) => decide (b < N) && zwd h 0 (.fieldLink own i (T b).1 (T b).2.1 (T b).2.2.1) && (!(T b).2.2.2 || decide ((T b).1 = own))
    | none => false)
  | .invokespecial i => decide (len = 3) && (match mj with
    | 0 => zwd h 0 (.methodLink own i Lib.objectInit) && zwd h 1 (.instanceMethod Lib.objectInit) && zwd h 2 (.code Lib.objectInit ⟨#[0xb1]⟩ 1 none)
    | j + 1 => match T[j]? with
      | some ((y, bt, mL, rt), _) => (if a = 1 then decide ((own, i, y, "ProtocolDesk") ∈ yNest) else zwd h 0 (.methodLink own i y)) && zwd h 1 (.instanceMethod y) && zwd h 2 (.initialized y.cls) && zwd h 3 (.code y bt mL none) && decide (rt = none) && decide (y.name = "<init>") && decide (y.cls ≠ "java/lang/invoke/MethodHandle") && decide (y.cls ≠ "java/lang/invoke/VarHandle") && decide ((parseMethodDescriptor y.desc).map (fun d => d.parameters.length) = some b) && decide (mL ≤ 40)
      | none => false)
  | _ => false
def ychk (T : List yMt) (own : String) (cc : ByteArray) (en : yEn) : Bool := match en with
  | (pc, ins, len, a, b, cv, mj, h) => decide (decode cc pc = .ok (ins, len)) && ylink T own pc ins len a b cv mj h
def yOK (T : List yMt) : Bool := T.all (fun q => q.2.1.all (ychk T q.1.1.cls q.1.2.1) && plainName q.1.1.cls && decide (q.1.2.2.2 = none) && decide (q.1.1.name = "<init>"))
/-- words that a call does not carry by itself -/
def yNw (U : State) : Prop := (∀ q ∈ yNest, va_Nw (.methodLinkNest q.1 q.2.1 q.2.2.1 q.2.2.2) U) ∧ va_AO RX4 U ∧ va_AO RX7 U ∧ yAA U
def yPc (X : zX) (as : List zV) (ws : List yC) : Array Value → State → Prop := va_Pc (as.map (ztr X)) (fun U => yNw U ∧ yRep X ws U U.heap)
def yQc (X : zX) (ws : List yC) : Array Value → State → Outcome → State → Prop := fun _ st oc t => (oc = .returned none ∧ yRep X ws t t.heap) ∧ va_F (zA X) st t
def yrm (dp mc ms : Nat) : Room := { frames := dp + 2, cells := mc, slots := ms, locals := 100 * (dp + 2) }
theorem yNw_warm {s U : State} (hW : s.WarmedH U.vm) (h : yNw s) : yNw U := by
  obtain ⟨h1, h2, h3, h4⟩ := h
  exact ⟨fun q hq => va_Nw.warmM hW (h1 q hq), h2.moved hW.alike, h3.moved hW.alike, yAA_moved hW.alike h4⟩
theorem yNw_same {u U : State} (hv : u.vm = U.vm) (h : yNw u) : yNw U := by
  obtain ⟨h1, h2, h3, h4⟩ := h
  have hal : u.vm.Alike U.vm := by rw [hv]; exact Vm.Alike.refl _
  exact ⟨fun q hq => va_Nw.same rfl hv (h1 q hq), h2.moved hal, h3.moved hal, yAA_moved hal h4⟩
theorem yPc_blind {X : zX} {as : List zV} {ws : List yC} : FrameBlind (yPc X as ws) := by
  intro a U g mk h
  obtain ⟨h1, h2, h3⟩ := h
  exact ⟨h1, yNw_same rfl h2, yRmov (U := U.calling g mk a) (Vm.Alike.refl U.vm) h3⟩
theorem yPc_at {X : zX} {as : List zV} {ws : List yC} {s U : State} {H : Heap} (hN : yNw s) (hR : yRep X ws s H) (hU : U.heap = H) (hW : s.WarmedH U.vm) : yPc X as ws (as.map (ztr X)).toArray U := by
  subst hU
  exact ⟨rfl, yNw_warm hW hN, yRmov hW.alike hR⟩
theorem ykt_ty {X : zX} {a : Nat} (h : a < 4) : (ztys X)[a]? = some (X.2.2.1 a, ykt a) := by
  have : a = 0 ∨ a = 1 ∨ a = 2 ∨ a = 3 := by omega
  rcases this with rfl | rfl | rfl | rfl <;> rfl
theorem ykt_dv {a : Nat} : defaultValue (ykt a) = .int 0 ∧ componentBytes (ykt a) ≤ 8 := by
  match a with
  | 0 => exact ⟨rfl, by decide⟩
  | 1 => exact ⟨rfl, by decide⟩
  | 2 => exact ⟨rfl, by decide⟩
  | _ + 3 => exact ⟨rfl, (by decide : componentBytes .char ≤ 8)⟩
theorem ykt_ra {X : zX} {a : Nat} {s : State} (h : va_RA s (X.2.2.1 a) (ykt a)) : s.vm.findClass ("[" ++ (ykt a).toString) = some (X.2.2.1 a) := by
  match a with
  | 0 => exact h
  | 1 => exact h
  | 2 => exact h
  | _ + 3 => exact h
theorem ykt_w : ∀ a, a < 4 → Cond.arrayClass (ykt a) ∈ zT := by decide +kernel
theorem yBl_dv {X : zX} {ci N : Nat} (h : ∀ k, k < N → zty ci k = .int ∨ zty ci k = .boolean ∨ (zty ci k).isReference = true) : ∀ j, j < N → defaultValue (zty ci j) = vp_V ((yBlank ci N).map (yF X)) j := by
  intro j hj
  unfold vp_V yBlank
  rw [List.map_map, List.getD_eq_getElem?_getD, List.getElem?_map, List.getElem?_range hj]
  show defaultValue (zty ci j) = yF X (yBl (zty ci j))
  rcases h j hj with h | h | h
  · rw [h]
    rfl
  · rw [h]
    rfl
  · revert h
    cases zty ci j <;> intro h <;> first | rfl | cases h
theorem zcl_ty : ∀ ci, ci < 11 → ∀ k, k < ((zcl[ci]?.map (·.2.2)).getD 0) → zty ci k = .int ∨ zty ci k = .boolean ∨ (zty ci k).isReference = true := by decide +kernel
theorem yFit_ok {X : zX} {ty : FieldType} {v : zV} (h : yFit ty v = true) : narrow ty (ztr X v) = ztr X v ∧ fits ty (ztr X v) = true := by
  match v with
  | .inl x =>
    have h : ty = .int := of_decide_eq_true h
    subst h
    exact ⟨rfl, rfl⟩
  | .inr (.inl x) => cases h
  | .inr (.inr n) =>
    have h : ty.isReference = true := h
    exact ⟨by cases ty <;> rfl, by cases ty <;> first | rfl | cases h⟩
theorem yNar {x : Int32} (h : vp_nar .char x = x) : narrow .char (.int x) = .int x := by
  have e : narrow .char (.int x) = .int (vp_nar .char x) := by
    unfold vp_nar
    rfl
  rw [e, h]
