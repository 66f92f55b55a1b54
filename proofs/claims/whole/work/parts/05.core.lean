/-! INSTRUCTIONS: what each needs and gives, over names and numbers -/
abbrev zMth : Type := MethodName × ByteArray × Nat × Option FieldType
/-- place, instruction, length, a, b, number, long, switch, method, places of words -/
abbrev zEn : Type := Nat × Instr × Nat × Nat × Nat × Int32 × Int64 × List (Int × Nat) × Option zMth × List Nat
def zpush (r : Option zV) (st : List zV) : List zV := match r with
  | none => st
  | some v => v :: st
def zcat : zV → Nat
  | .inr (.inl _) => 2
  | _ => 1
def zsw (go : Nat → Prop) (x : Int32) : List (Int × Nat) → Nat → Prop
  | [], t => go t
  | (k, t) :: r, u => (x.toInt = k → go t) ∧ (¬ x.toInt = k → zsw go x r u)
/-- an array of numbers: kind, length -/
def zar (f i : Nat) : Option (Nat × Nat) := match zTab[f]? with
  | some (cnt, .inr (.inl (kd, len))) => if i < cnt then some (kd, len) else none
  | _ => none
def zam (f : Nat) : Option (Nat × Nat × Nat) := match zTab[f]? with
  | some (cnt, .inr (.inl (kd, len))) => some (cnt, kd, len)
  | _ => none
def zdo (L : Nat) (xs : Nat → Int32) (rt : Option FieldType) (call : zMth → List zV → zMu → (Option zV → zMu → Prop) → Prop) (K : Option zV → zMu → Prop) (go : Nat → List (Option zV) → List zV → zMu → Prop) (en : zEn) (ls : List (Option zV)) (st : List zV) (μ : zMu) : Prop :=
  match en with
  | (pc, ins, len, a, b, cv, lv, sw, M, _) =>
  match ins with
  | .iconst _ => go (pc + 1) ls (.inl cv :: st) μ
  | .bipush _ => go (pc + 2) ls (.inl cv :: st) μ
  | .sipush _ => go (pc + 3) ls (.inl cv :: st) μ
  | .lconst _ => go (pc + 1) ls (.inr (.inl lv) :: st) μ
  | .ldc _ => match M with
    | none => go (pc + 2) ls (.inl cv :: st) μ
    | some _ => go (pc + 2) ls (.inr (.inr (200, a)) :: st) μ
  | .ldc_w _ => go (pc + 3) ls (.inl cv :: st) μ
  | .ldc2_w _ => go (pc + 3) ls (.inr (.inl lv) :: st) μ
  | .iload k => match ls[k]? with
    | some (some (.inl x)) => go (pc + 2) ls (.inl x :: st) μ
    | _ => False
  | .iload_n k => match ls[(k : Nat)]? with
    | some (some (.inl x)) => go (pc + 1) ls (.inl x :: st) μ
    | _ => False
  | .lload k => match ls[k]? with
    | some (some (.inr (.inl x))) => go (pc + 2) ls (.inr (.inl x) :: st) μ
    | _ => False
  | .lload_n k => match ls[(k : Nat)]? with
    | some (some (.inr (.inl x))) => go (pc + 1) ls (.inr (.inl x) :: st) μ
    | _ => False
  | .aload k => match ls[k]? with
    | some (some (.inr (.inr n))) => go (pc + 2) ls (.inr (.inr n) :: st) μ
    | _ => False
  | .aload_n k => match ls[(k : Nat)]? with
    | some (some (.inr (.inr n))) => go (pc + 1) ls (.inr (.inr n) :: st) μ
    | _ => False
  | .istore k => match st with
    | .inl x :: r => zok ls k = true ∧ go (pc + 2) (ls.set k (some (.inl x))) r μ
    | _ => False
  | .istore_n k => match st with
    | .inl x :: r => zok ls (k : Nat) = true ∧ go (pc + 1) (ls.set (k : Nat) (some (.inl x))) r μ
    | _ => False
  | .astore k => match st with
    | .inr (.inr n) :: r => zok ls k = true ∧ go (pc + 2) (ls.set k (some (.inr (.inr n)))) r μ
    | _ => False
  | .astore_n k => match st with
    | .inr (.inr n) :: r => zok ls (k : Nat) = true ∧ go (pc + 1) (ls.set (k : Nat) (some (.inr (.inr n)))) r μ
    | _ => False
  | .iinc k _ => match ls[k]? with
    | some (some (.inl x)) => zok ls k = true ∧ go (pc + 3) (ls.set k (some (.inl (x + cv)))) st μ
    | _ => False
  | .iadd => match st with
    | .inl y :: .inl x :: r => go (pc + 1) ls (.inl (x + y) :: r) μ
    | _ => False
  | .isub => match st with
    | .inl y :: .inl x :: r => go (pc + 1) ls (.inl (x - y) :: r) μ
    | _ => False
  | .imul => match st with
    | .inl y :: .inl x :: r => go (pc + 1) ls (.inl (x * y) :: r) μ
    | _ => False
  | .iand => match st with
    | .inl y :: .inl x :: r => go (pc + 1) ls (.inl (x &&& y) :: r) μ
    | _ => False
  | .ior => match st with
    | .inl y :: .inl x :: r => go (pc + 1) ls (.inl (x ||| y) :: r) μ
    | _ => False
  | .ineg => match st with
    | .inl x :: r => go (pc + 1) ls (.inl (-x) :: r) μ
    | _ => False
  | .ishl => match st with
    | .inl y :: .inl x :: r => go (pc + 1) ls (.inl (x <<< (y &&& 31)) :: r) μ
    | _ => False
  | .ishr => match st with
    | .inl y :: .inl x :: r => go (pc + 1) ls (.inl (x >>> (y &&& 31)) :: r) μ
    | _ => False
  | .iushr => match st with
    | .inl y :: .inl x :: r => go (pc + 1) ls (.inl (x.toUInt32 >>> (y.toUInt32 &&& Int32.toUInt32 31)).toInt32 :: r) μ
    | _ => False
  | .i2l => match st with
    | .inl x :: r => go (pc + 1) ls (.inr (.inl x.toInt64) :: r) μ
    | _ => False
  | .l2i => match st with
    | .inr (.inl x) :: r => go (pc + 1) ls (.inl x.toInt32 :: r) μ
    | _ => False
  | .i2b => match st with
    | .inl x :: r => go (pc + 1) ls (.inl x.toInt8.toInt32 :: r) μ
    | _ => False
  | .land => match st with
    | .inr (.inl y) :: .inr (.inl x) :: r => go (pc + 1) ls (.inr (.inl (x &&& y)) :: r) μ
    | _ => False
  | .lor => match st with
    | .inr (.inl y) :: .inr (.inl x) :: r => go (pc + 1) ls (.inr (.inl (x ||| y)) :: r) μ
    | _ => False
  | .lshl => match st with
    | .inl y :: .inr (.inl x) :: r => go (pc + 1) ls (.inr (.inl (x <<< (y.toInt64 &&& 63))) :: r) μ
    | _ => False
  | .lshr => match st with
    | .inl y :: .inr (.inl x) :: r => go (pc + 1) ls (.inr (.inl (x >>> (y.toInt64 &&& 63))) :: r) μ
    | _ => False
  | .lushr => match st with
    | .inl y :: .inr (.inl x) :: r => go (pc + 1) ls (.inr (.inl (x.toUInt64 >>> (y.toInt64.toUInt64 &&& Int64.toUInt64 63)).toInt64) :: r) μ
    | _ => False
  | .lcmp => match st with
    | .inr (.inl y) :: .inr (.inl x) :: r => go (pc + 1) ls (.inl (lg_cmp x y) :: r) μ
    | _ => False
  | .dup => match st with
    | .inl x :: r => go (pc + 1) ls (.inl x :: .inl x :: r) μ
    | .inr (.inr n) :: r => go (pc + 1) ls (.inr (.inr n) :: .inr (.inr n) :: r) μ
    | _ => False
  | .dup2 => match st with
    | .inl x :: .inr (.inr n) :: r => go (pc + 1) ls (.inl x :: .inr (.inr n) :: .inl x :: .inr (.inr n) :: r) μ
    | _ => False
  | .pop => match st with
    | .inl _ :: r => go (pc + 1) ls r μ
    | _ => False
  | .goto _ => go a ls st μ
  | .ifCond c _ => match st with
    | .inl x :: r => match c with
      | .eq => (x = 0 → go a ls r μ) ∧ (¬ x = 0 → go (pc + 3) ls r μ)
      | .ne => (¬ x = 0 → go a ls r μ) ∧ (x = 0 → go (pc + 3) ls r μ)
      | .lt => (x < 0 → go a ls r μ) ∧ (¬ x < 0 → go (pc + 3) ls r μ)
      | .ge => (0 ≤ x → go a ls r μ) ∧ (¬ 0 ≤ x → go (pc + 3) ls r μ)
      | .gt => (0 < x → go a ls r μ) ∧ (¬ 0 < x → go (pc + 3) ls r μ)
      | .le => (x ≤ 0 → go a ls r μ) ∧ (¬ x ≤ 0 → go (pc + 3) ls r μ)
    | _ => False
  | .if_icmp c _ => match st with
    | .inl y :: .inl x :: r => match c with
      | .eq => (x = y → go a ls r μ) ∧ (¬ x = y → go (pc + 3) ls r μ)
      | .ne => (¬ x = y → go a ls r μ) ∧ (x = y → go (pc + 3) ls r μ)
      | .lt => (x < y → go a ls r μ) ∧ (¬ x < y → go (pc + 3) ls r μ)
      | .ge => (y ≤ x → go a ls r μ) ∧ (¬ y ≤ x → go (pc + 3) ls r μ)
      | .gt => (y < x → go a ls r μ) ∧ (¬ y < x → go (pc + 3) ls r μ)
      | .le => (x ≤ y → go a ls r μ) ∧ (¬ x ≤ y → go (pc + 3) ls r μ)
    | _ => False
  | .tableswitch _ _ _ _ => match st with
    | .inl x :: r => zsw (fun t => go t ls r μ) x sw a
    | _ => False
  | .lookupswitch _ _ => match st with
    | .inl x :: r => zsw (fun t => go t ls r μ) x sw a
    | _ => False
  | .getfield _ => match st with
    | .inr (.inr (f, i)) :: r => match zTab[f]? with
      | some (cnt, .inl (ci, fs)) => i < cnt ∧ ci = a ∧ (match fs[b]? with
        | some none => go (pc + 3) ls (.inl (μ f i b) :: r) μ
        | some (some g) => go (pc + 3) ls (.inr (.inr (g i)) :: r) μ
        | none => False)
      | _ => False
    | _ => False
  | .putfield _ => match st with
    | .inl x :: .inr (.inr (f, i)) :: r => match zTab[f]? with
      | some (cnt, .inl (ci, fs)) => i < cnt ∧ ci = a ∧ fs[b]? = some none ∧ (cv = 0 ∨ x = 0 ∨ x = 1) ∧ go (pc + 3) ls r (zu μ f i b x)
      | _ => False
    | _ => False
  | .arraylength => match st with
    | .inr (.inr (f, i)) :: r => if f = 201 then i = 0 ∧ go (pc + 1) ls (.inl (Int32.ofNat L) :: r) μ else match zam f with
      | some (cnt, _, len) => i < cnt ∧ go (pc + 1) ls (.inl (Int32.ofNat len) :: r) μ
      | none => False
    | _ => False
  | .iaload => match st with
    | .inl j :: .inr (.inr (f, i)) :: r => if f = 201 then i = 0 ∧ vp_in j L ∧ go (pc + 1) ls (.inl (xs j.toNatClampNeg) :: r) μ else match zam f with
      | some (cnt, 0, len) => i < cnt ∧ vp_in j len ∧ go (pc + 1) ls (.inl (μ f i j.toNatClampNeg) :: r) μ
      | _ => False
    | _ => False
  | .baload => match st with
    | .inl j :: .inr (.inr (f, i)) :: r => match zam f with
      | some (cnt, 1, len) => i < cnt ∧ vp_in j len ∧ go (pc + 1) ls (.inl (μ f i j.toNatClampNeg) :: r) μ
      | some (cnt, 2, len) => i < cnt ∧ vp_in j len ∧ go (pc + 1) ls (.inl (μ f i j.toNatClampNeg) :: r) μ
      | _ => False
    | _ => False
  | .caload => match st with
    | .inl j :: .inr (.inr (f, i)) :: r => match zam f with
      | some (cnt, 3, len) => i < cnt ∧ vp_in j len ∧ go (pc + 1) ls (.inl (μ f i j.toNatClampNeg) :: r) μ
      | _ => False
    | _ => False
  | .aaload => match st with
    | .inl j :: .inr (.inr (f, i)) :: r => match zTab[f]? with
      | some (cnt, .inr (.inr (_, len, g))) => i < cnt ∧ vp_in j len ∧ go (pc + 1) ls (.inr (.inr (g i j.toNatClampNeg)) :: r) μ
      | _ => False
    | _ => False
  | .iastore => match st with
    | .inl x :: .inl j :: .inr (.inr (f, i)) :: r => match zam f with
      | some (cnt, 0, len) => i < cnt ∧ vp_in j len ∧ go (pc + 1) ls r (zu μ f i j.toNatClampNeg x)
      | _ => False
    | _ => False
  | .bastore => match st with
    | .inl x :: .inl j :: .inr (.inr (f, i)) :: r => match zam f with
      | some (cnt, 1, len) => i < cnt ∧ vp_in j len ∧ go (pc + 1) ls r (zu μ f i j.toNatClampNeg (vp_nar .boolean x))
      | some (cnt, 2, len) => i < cnt ∧ vp_in j len ∧ go (pc + 1) ls r (zu μ f i j.toNatClampNeg (vp_nar .byte x))
      | _ => False
    | _ => False
  | .invokevirtual _ => match M with
    | some M => match st.drop b with
      | .inr (.inr (f, i)) :: r => (if f = 200 then a = 50 ∧ i < 13 else match zTab[f]? with
          | some (cnt, .inl (ci, _)) => i < cnt ∧ ci = a
          | _ => False) ∧ (r.map zcat).sum ≤ 8 ∧ call M (.inr (.inr (f, i)) :: (st.take b).reverse) μ (fun q μ' => go (pc + 3) ls (zpush q r) μ')
      | _ => False
    | none => False
  | .invokestatic _ => match M with
    | some M => b ≤ st.length ∧ ((st.drop b).map zcat).sum ≤ 8 ∧ call M (st.take b).reverse μ (fun q μ' => go (pc + 3) ls (zpush q (st.drop b)) μ')
    | none => match st with
      | .inl n :: .inl dp :: .inr (.inr (f1, i1)) :: .inl sp :: .inr (.inr (f0, i0)) :: r => match zam f0, zam f1 with
        | some (cnt0, 0, n0), some (cnt1, 0, n1) => i0 < cnt0 ∧ i1 < cnt1 ∧ ¬ sp < 0 ∧ ¬ dp < 0 ∧ ¬ n < 0 ∧ sp.toNatClampNeg + n.toNatClampNeg ≤ n0 ∧ dp.toNatClampNeg + n.toNatClampNeg ≤ n1 ∧ (r.map zcat).sum ≤ 8 ∧ go (pc + 3) ls r (fun f i k => if f = f1 ∧ i = i1 ∧ dp.toNatClampNeg ≤ k ∧ k < dp.toNatClampNeg + n.toNatClampNeg then μ f0 i0 (sp.toNatClampNeg + (k - dp.toNatClampNeg)) else μ f i k)
        | _, _ => False
      | _ => False
  | .ireturn => match st with
    | [.inl x] => (rt = some .int ∨ (rt = some .boolean ∧ (x = 0 ∨ x = 1))) ∧ K (some (.inl x)) μ
    | _ => False
  | .return_ => match st with
    | [] => rt = none ∧ K none μ
    | _ => False
  | _ => False
/-- the word at a place of the tables -/
def zwd (h : List Nat) (k : Nat) (w : Cond) : Bool := match h[k]? with
  | some j => decide (lw_tbl[j]? = some w)
  | none => false
def zcn : Nat → String := fun c => if c = 50 then "java/lang/String" else (zcl[c]?.map (·.1)).getD ""
def zlink (own : String) (pc : Nat) (ins : Instr) (len a b : Nat) (cv : Int32) (lv : Int64) (sw : List (Int × Nat)) (M : Option zMth) (h : List Nat) : Bool :=
  match ins with
  | .iload _ | .lload _ | .aload _ | .istore _ | .astore _ => decide (len = 2)
  | .iconst n => decide (len = 1) && decide (Int32.ofInt n = cv)
  | .bipush n => decide (len = 2) && decide ((Int8.ofInt n).toInt32 = cv)
  | .sipush n => decide (len = 3) && decide ((Int16.ofInt n).toInt32 = cv)
  | .lconst n => decide (len = 1) && decide (Int64.ofNat (n : Nat) = lv)
  | .iinc _ n => decide (len = 3) && decide (Int32.ofInt n = cv)
  | .ldc i => decide (len = 2) && (match M with
    | none => zwd h 0 (.constant own i cv)
    | some _ => decide (own = RX8) && decide (zStr[a]?.map (·.1) = some i))
  | .ldc_w i => decide (len = 3) && zwd h 0 (.constant own i cv)
  | .ldc2_w i => decide (len = 3) && zwd h 0 (.constantLong own i lv)
  | .goto o | .ifCond _ o | .if_icmp _ o => decide (len = 3) && decide ((pc : Int) + o = (a : Int))
  | .tableswitch df lo hi offs => decide ((pc : Int) + df = (a : Int)) && decide (hi - lo + 1 = sw.length) && decide (sw.length = offs.size) && decide (0 < sw.length) && (List.range sw.length).all (fun j => match sw[j]?, offs[j]? with
    | some (k, t), some o => decide (k = lo + j) && decide ((pc : Int) + o = (t : Int))
    | _, _ => false)
  | .lookupswitch df ps => decide ((pc : Int) + df = (a : Int)) && (ps.toList.zip (ps.toList.drop 1)).all (fun (a, next) => decide (a.1 < next.1)) && decide (sw.map (fun q => (q.1, (q.2 : Int))) = ps.toList.map (fun q => (q.1, (pc : Int) + q.2)))
  | .getfield i => decide (len = 3) && (match zcl[a]? with
    | some (_, T, N) => decide (b < N) && zwd h 0 (.fieldLink own i (T b).1 (T b).2.1 (T b).2.2.1)
    | none => false)
  | .putfield i => decide (len = 3) && (match zcl[a]? with
    | some (_, T, N) => decide (b < N) && zwd h 0 (.fieldLink own i (T b).1 (T b).2.1 (T b).2.2.1) && !(T b).2.2.2 && (decide (zty a b = .int) || (decide (zty a b = .boolean) && decide (cv = 1)))
    | none => false)
  | .invokevirtual i => decide (len = 3) && (match M with
    | some (y, bt, mL, rt) => zwd h 0 (.methodLink own i y) && zwd h 1 (.instanceMethod y) && zwd h 2 (.selects y.cls y y) && zwd h 3 (.initialized y.cls) && zwd h 4 (.code y bt mL rt) && decide (y.cls = zcn a) && decide (y.cls ≠ "java/lang/invoke/MethodHandle") && decide (y.cls ≠ "java/lang/invoke/VarHandle") && decide ((parseMethodDescriptor y.desc).map (fun d => d.parameters.length) = some b) && decide (mL ≤ 40)
    | none => false)
  | .invokestatic i => decide (len = 3) && (match M with
    | some (y, bt, mL, rt) => zwd h 0 (.methodLink own i y) && zwd h 1 (.static y) && zwd h 2 (.initialized y.cls) && zwd h 3 (.code y bt mL rt) && decide (y.cls ≠ "java/lang/invoke/MethodHandle") && decide (y.cls ≠ "java/lang/invoke/VarHandle") && decide ((parseMethodDescriptor y.desc).map (fun d => d.parameters.length) = some b) && decide (mL ≤ 40)
    | none => zwd h 0 (.methodLink own i arraycopyName) && zwd h 1 (.native arraycopyName) && zwd h 2 (.static arraycopyName) && zwd h 3 (.initialized "java/lang/System"))
  | _ => decide (len = 1)
def zchk (own : String) (cc : ByteArray) (en : zEn) : Bool := match en with
  | (pc, ins, len, a, b, cv, lv, sw, M, h) => decide (decode cc pc = .ok (ins, len)) && zlink own pc ins len a b cv lv sw M h
def zfet (P : List zEn) (pc : Nat) : Option zEn := P.find? (fun e => Nat.beq e.1 pc)
-- ---- contracts
def zrm (d : Nat) : Room := { frames := d + 1, cells := 0, slots := 0, locals := 100 * (d + 1) }
def zws (M : zMth) : List Cond := .code M.1 M.2.1 M.2.2.1 M.2.2.2 :: zT
def zPc (X : zX) (as : List zV) (μ : zMu) : Array Value → State → Prop := va_Pc (as.map (ztr X)) (fun U => zSt X U ∧ zRep X μ U U.heap)
def zQc (X : zX) (K : Option zV → zMu → Prop) : Array Value → State → Outcome → State → Prop := fun _ st oc t => (∃ (r : Option zV) (μ' : zMu), oc = .returned (r.map (ztr X)) ∧ K r μ' ∧ zRep X μ' t t.heap) ∧ va_F (zA X) st t
/-- by a recursion that never goes on: so nothing unfolds it by itself -/
def Ct0 (n d : Nat) (M : zMth) (as : List zV) (μ : zMu) (K : Option zV → zMu → Prop) : Prop := if n = 0 then ∀ (l : Launch) (X : zX), Met l M.1 (zws M) (zrm d) (zPc X as μ) (zQc X K) 0 0 (zA X) else Ct0 (n - 1) d M as μ K
termination_by n
decreasing_by omega
abbrev Ct (d : Nat) (M : zMth) (as : List zV) (μ : zMu) (K : Option zV → zMu → Prop) : Prop := Ct0 0 d M as μ K
theorem Ct_iff {d : Nat} {M : zMth} {as : List zV} {μ : zMu} {K : Option zV → zMu → Prop} : Ct d M as μ K ↔ ∀ (l : Launch) (X : zX), Met l M.1 (zws M) (zrm d) (zPc X as μ) (zQc X K) 0 0 (zA X) := by
  unfold Ct Ct0
  rw [if_pos rfl]
def zOK (M : zMth) (P : List zEn) : Prop := P.all (zchk M.1.cls M.2.1) = true
def zCa (d : Nat) : zMth → List zV → zMu → (Option zV → zMu → Prop) → Prop := match d with
  | 0 => fun _ _ _ _ => False
  | d + 1 => fun M as μ K => Ct d M as μ K
