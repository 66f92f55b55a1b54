/-! CONSTRUCTORS: an interpreter, and that it tells the truth -/
/-- place, instruction, length, a, b, number, method, places of words -/
abbrev yEn : Type := Nat × Instr × Nat × Nat × Nat × Int32 × Nat × List Nat
def ykt : Nat → FieldType
  | 0 => .int
  | 1 => .boolean
  | 2 => .byte
  | _ => .char
def ykc : Nat → Nat
  | 5 => 4
  | _ => 7
def yCn (a : Nat) : String := (zcl[ykc a]?.map (·.1)).getD ""
def yBl (ty : FieldType) : Option zV := match ty with
  | .int => some (zI 0)
  | .boolean => some (zI 0)
  | _ => none
def yBlank (ci N : Nat) : List (Option zV) := (List.range N).map (fun k => yBl (zty ci k))
/-- a value fits the field's type -/
def yFit (ty : FieldType) (v : zV) : Bool := match v with
  | .inl _ => decide (ty = .int)
  | .inr (.inl _) => false
  | .inr (.inr _) => ty.isReference
/-- methods: name and bytes, instructions, cells, slots, depth -/
abbrev yMt : Type := zMth × List yEn × Nat × Nat × Nat
def yex (T : List yMt) : Nat → Nat → Nat → List (Option zV) → List zV → List yC → Nat → Nat → Option (List yC)
  | 0, _, _, _, _, _, _, _ => none
  | fu + 1, mi, pc, ls, st, ws, ce, sl => match T[mi]? with
    | none => none
    | some (_, P, mc, ms, dp) => match P.find? (fun e => Nat.beq e.1 pc) with
      | none => none
      | some (_, ins, _, a, b, cv, mj, _) => match ins with
        | .iconst _ => yex T fu mi (pc + 1) ls (zI cv :: st) ws ce sl
        | .bipush _ => yex T fu mi (pc + 2) ls (zI cv :: st) ws ce sl
        | .sipush _ => yex T fu mi (pc + 3) ls (zI cv :: st) ws ce sl
        | .aload_n k => match ls[(k : Nat)]? with
          | some (some (.inr (.inr q))) => yex T fu mi (pc + 1) ls (.inr (.inr q) :: st) ws ce sl
          | _ => none
        | .iload_n k => match ls[(k : Nat)]? with
          | some (some (.inl x)) => yex T fu mi (pc + 1) ls (.inl x :: st) ws ce sl
          | _ => none
        | .istore_n k => match st with
          | .inl x :: r => if zok ls k = true then yex T fu mi (pc + 1) (ls.set k (some (.inl x))) r ws ce sl else none
          | _ => none
        | .iinc k _ => match ls[k]? with
          | some (some (.inl x)) => if zok ls k = true then yex T fu mi (pc + 3) (ls.set k (some (.inl (x + cv)))) st ws ce sl else none
          | _ => none
        | .dup => match st with
          | .inr (.inr q) :: r => yex T fu mi (pc + 1) ls (.inr (.inr q) :: .inr (.inr q) :: r) ws ce sl
          | _ => none
        | .goto _ => yex T fu mi a ls st ws ce sl
        | .if_icmp c _ => match c, st with
          | .ge, .inl y :: .inl x :: r => if y ≤ x then yex T fu mi a ls r ws ce sl else yex T fu mi (pc + 3) ls r ws ce sl
          | _, _ => none
        | .newarray _ => match st with
          | .inl n :: r => if ¬ n < 0 ∧ n.toNatClampNeg ≤ 1000 ∧ ce + 1 ≤ mc ∧ sl + n.toNatClampNeg ≤ ms then yex T fu mi (pc + 2) ls (zR 300 ws.length :: r) (ws ++ [.inr (.inl (a, List.replicate n.toNatClampNeg 0))]) (ce + 1) (sl + n.toNatClampNeg) else none
          | _ => none
        | .anewarray _ => match st with
          | .inl n :: r => if ¬ n < 0 ∧ n.toNatClampNeg ≤ 1000 ∧ ce + 1 ≤ mc ∧ sl + n.toNatClampNeg ≤ ms then yex T fu mi (pc + 3) ls (zR 300 ws.length :: r) (ws ++ [.inr (.inr (a, List.replicate n.toNatClampNeg none))]) (ce + 1) (sl + n.toNatClampNeg) else none
          | _ => none
        | .multianewarray _ _ => match st with
          | .inl k :: .inl n :: r => if (¬ n < 0 ∧ ¬ k < 0 ∧ n.toNatClampNeg ≤ 1000 ∧ k.toNatClampNeg ≤ 1000) ∧ ce + (1 + n.toNatClampNeg) ≤ mc ∧ sl + (n.toNatClampNeg + n.toNatClampNeg * k.toNatClampNeg) ≤ ms then yex T fu mi (pc + 4) ls (zR 300 ws.length :: r) (ws ++ yGrid ws.length n.toNatClampNeg k.toNatClampNeg) (ce + 1 + n.toNatClampNeg) (sl + n.toNatClampNeg + n.toNatClampNeg * k.toNatClampNeg) else none
          | _ => none
        | .new _ => match zcl[a]? with
          | some (_, _, N) => if ce + 1 ≤ mc ∧ sl + N ≤ ms then yex T fu mi (pc + 3) ls (zR 300 ws.length :: st) (ws ++ [.inl (a, yBlank a N)]) (ce + 1) (sl + N) else none
          | none => none
        | .getfield _ => match st with
          | .inr (.inr (f, q)) :: r => if f = 300 then (match ws[q]? with
            | some (.inl (ci, fs)) => if ci = a then (match fs[b]? with
              | some (some v) => yex T fu mi (pc + 3) ls (v :: r) ws ce sl
              | _ => none) else none
            | _ => none) else none
          | _ => none
        | .putfield _ => match st with
          | v :: .inr (.inr (f, q)) :: r => if f = 300 then (match ws[q]? with
            | some (.inl (ci, fs)) => if ci = a ∧ b < fs.length ∧ yFit (zty a b) v = true then yex T fu mi (pc + 3) ls r (ws.set q (.inl (ci, fs.set b (some v)))) ce sl else none
            | _ => none) else none
          | _ => none
        | .iastore => match st with
          | .inl x :: .inl j :: .inr (.inr (f, q)) :: r => if f = 300 then (match ws[q]? with
            | some (.inr (.inl (kd, vs))) => if kd = 0 ∧ ¬ j < 0 ∧ j.toNatClampNeg < vs.length then yex T fu mi (pc + 1) ls r (ws.set q (.inr (.inl (0, vs.set j.toNatClampNeg x)))) ce sl else none
            | _ => none) else none
          | _ => none
        | .castore => match st with
          | .inl x :: .inl j :: .inr (.inr (f, q)) :: r => if f = 300 then (match ws[q]? with
            | some (.inr (.inl (kd, vs))) => if kd = 3 ∧ (¬ j < 0 ∧ j.toNatClampNeg < vs.length) ∧ vp_nar .char x = x then yex T fu mi (pc + 1) ls r (ws.set q (.inr (.inl (3, vs.set j.toNatClampNeg x)))) ce sl else none
            | _ => none) else none
          | _ => none
        | .aastore => match st with
          | .inr (.inr (g, v)) :: .inl j :: .inr (.inr (f, q)) :: r => if f = 300 ∧ g = 300 then (match ws[q]?, ws[v]? with
            | some (.inr (.inr (kd, rs))), some (.inl (ci, _)) => if ((kd = 5 ∧ ci = 4) ∨ (kd = 6 ∧ ci = 7)) ∧ ¬ j < 0 ∧ j.toNatClampNeg < rs.length then yex T fu mi (pc + 1) ls r (ws.set q (.inr (.inr (kd, rs.set j.toNatClampNeg (some v))))) ce sl else none
            | _, _ => none) else none
          | _ => none
        | .invokespecial _ => match mj with
          | 0 => match st with
            | .inr (.inr _) :: r => if (r.map zcat).sum ≤ 8 then yex T fu mi (pc + 3) ls r ws ce sl else none
            | _ => none
          | mj + 1 => match T[mj]? with
            | none => none
            | some (M, _, mc', ms', dp') => match st.drop b with
              | .inr (.inr (f, q)) :: r => if (r.map zcat).sum ≤ 8 ∧ ce + mc' ≤ mc ∧ sl + ms' ≤ ms ∧ dp' < dp ∧ (zin (.inr (.inr (f, q)) :: (st.take b).reverse)).length ≤ M.2.2.1 ∧ b ≤ st.length then (match yex T fu mj 0 (zls M.2.2.1 (.inr (.inr (f, q)) :: (st.take b).reverse)) [] ws 0 0 with
                | some ws' => yex T fu mi (pc + 3) ls r ws' (ce + mc') (sl + ms')
                | none => none) else none
              | _ => none
        | .return_ => match st with
          | [] => if ce ≤ mc ∧ sl ≤ ms then some ws else none
          | _ => none
        | _ => none
