/-! AT THE LAW'S START: what the Statement gives -/
def lFl : List Cond := flatC (Jvm.Cond.and given_1 narrow_1)
def lTm (i : Nat) : Term := .string RX8 ((zStr[i]?.map (·.1)).getD 0)
theorem l_w1 : ∀ i, i < 13 → Cond.exactly (lTm i) "java/lang/String" ∈ lFl := by decide +kernel
theorem l_w2 : ∀ i, i < 13 → Cond.eq (.field (lTm i) "java/lang/String" "coder" "B") (.int 0) ∈ lFl := by decide +kernel
theorem l_w3 : ∀ i, i < 13 → Cond.arrayOf (.field (lTm i) "java/lang/String" "value" "[B") .byte ∈ lFl := by decide +kernel
theorem l_w4 : ∀ i, i < 13 → Cond.eq (.length (.field (lTm i) "java/lang/String" "value" "[B")) (.int (Int32.ofNat (zLen.getD i 0))) ∈ lFl := by decide +kernel
theorem l_w5 : ∀ i, i < 13 → ∀ j, j < zLen.getD i 0 → Cond.eq (.elem (.field (lTm i) "java/lang/String" "value" "[B") (.int (Int32.ofNat j))) (.int ((zByt.getD i []).getD j 0)) ∈ lFl := by decide +kernel
theorem l_w6_0 : ∀ j, j < 13 → 0 ≠ j → Cond.not (Cond.eq (lTm 0) (lTm j)) ∈ lFl ∨ Cond.not (Cond.eq (lTm j) (lTm 0)) ∈ lFl := by decide +kernel
theorem l_w6_1 : ∀ j, j < 13 → 1 ≠ j → Cond.not (Cond.eq (lTm 1) (lTm j)) ∈ lFl ∨ Cond.not (Cond.eq (lTm j) (lTm 1)) ∈ lFl := by decide +kernel
theorem l_w6_2 : ∀ j, j < 13 → 2 ≠ j → Cond.not (Cond.eq (lTm 2) (lTm j)) ∈ lFl ∨ Cond.not (Cond.eq (lTm j) (lTm 2)) ∈ lFl := by decide +kernel
theorem l_w6_3 : ∀ j, j < 13 → 3 ≠ j → Cond.not (Cond.eq (lTm 3) (lTm j)) ∈ lFl ∨ Cond.not (Cond.eq (lTm j) (lTm 3)) ∈ lFl := by decide +kernel
theorem l_w6_4 : ∀ j, j < 13 → 4 ≠ j → Cond.not (Cond.eq (lTm 4) (lTm j)) ∈ lFl ∨ Cond.not (Cond.eq (lTm j) (lTm 4)) ∈ lFl := by decide +kernel
theorem l_w6_5 : ∀ j, j < 13 → 5 ≠ j → Cond.not (Cond.eq (lTm 5) (lTm j)) ∈ lFl ∨ Cond.not (Cond.eq (lTm j) (lTm 5)) ∈ lFl := by decide +kernel
theorem l_w6_6 : ∀ j, j < 13 → 6 ≠ j → Cond.not (Cond.eq (lTm 6) (lTm j)) ∈ lFl ∨ Cond.not (Cond.eq (lTm j) (lTm 6)) ∈ lFl := by decide +kernel
theorem l_w6_7 : ∀ j, j < 13 → 7 ≠ j → Cond.not (Cond.eq (lTm 7) (lTm j)) ∈ lFl ∨ Cond.not (Cond.eq (lTm j) (lTm 7)) ∈ lFl := by decide +kernel
theorem l_w6_8 : ∀ j, j < 13 → 8 ≠ j → Cond.not (Cond.eq (lTm 8) (lTm j)) ∈ lFl ∨ Cond.not (Cond.eq (lTm j) (lTm 8)) ∈ lFl := by decide +kernel
theorem l_w6_9 : ∀ j, j < 13 → 9 ≠ j → Cond.not (Cond.eq (lTm 9) (lTm j)) ∈ lFl ∨ Cond.not (Cond.eq (lTm j) (lTm 9)) ∈ lFl := by decide +kernel
theorem l_w6_10 : ∀ j, j < 13 → 10 ≠ j → Cond.not (Cond.eq (lTm 10) (lTm j)) ∈ lFl ∨ Cond.not (Cond.eq (lTm j) (lTm 10)) ∈ lFl := by decide +kernel
theorem l_w6_11 : ∀ j, j < 13 → 11 ≠ j → Cond.not (Cond.eq (lTm 11) (lTm j)) ∈ lFl ∨ Cond.not (Cond.eq (lTm j) (lTm 11)) ∈ lFl := by decide +kernel
theorem l_w6_12 : ∀ j, j < 13 → 12 ≠ j → Cond.not (Cond.eq (lTm 12) (lTm j)) ∈ lFl ∨ Cond.not (Cond.eq (lTm j) (lTm 12)) ∈ lFl := by decide +kernel
theorem l_w6 : ∀ i, i < 13 → ∀ j, j < 13 → i ≠ j → Cond.not (Cond.eq (lTm i) (lTm j)) ∈ lFl ∨ Cond.not (Cond.eq (lTm j) (lTm i)) ∈ lFl := fun i hi => by
  match i, hi with
  | 0, _ => exact l_w6_0
  | 1, _ => exact l_w6_1
  | 2, _ => exact l_w6_2
  | 3, _ => exact l_w6_3
  | 4, _ => exact l_w6_4
  | 5, _ => exact l_w6_5
  | 6, _ => exact l_w6_6
  | 7, _ => exact l_w6_7
  | 8, _ => exact l_w6_8
  | 9, _ => exact l_w6_9
  | 10, _ => exact l_w6_10
  | 11, _ => exact l_w6_11
  | 12, _ => exact l_w6_12
theorem l_w7 : ∀ i, i < 13 → Cond.stringRef RX8 ((zStr[i]?.map (·.1)).getD 0) ((zStr[i]?.map (·.2)).getD "") ∈ lw_tbl := by decide +kernel
theorem l_w8 : Cond.eq (.static "java/lang/String" "COMPACT_STRINGS" "Z") (.int 1) ∈ lFl ∧ Cond.isRef (.static "jdk/internal/util/Preconditions" "SIOOBE_FORMATTER" "Ljava/util/function/BiFunction;") ∈ lFl ∧ Cond.laysStatic "java/lang/String" "COMPACT_STRINGS" "Z" ∈ lw_tbl ∧ Cond.initialized "java/lang/String" ∈ lw_tbl ∧ Cond.laysStatic "jdk/internal/util/Preconditions" "SIOOBE_FORMATTER" "Ljava/util/function/BiFunction;" ∈ lw_tbl ∧ Cond.initialized "jdk/internal/util/Preconditions" ∈ lw_tbl := by decide +kernel
theorem l_str {s : State} {args : Array Value} {A : Nat → Prop} (hf : ∀ w ∈ lFl, w.before args s = true) (hA : ∀ a : Nat, a < s.heap.size → ¬ A a) : ∃ adK adV : Nat → Nat, vk_S 13 zLen zByt adK adV A s s.heap ∧ ∀ i : Nat, i < 13 → (lTm i).eval args s none [] s = some (.ref (adK i)) :=
  vk_Sof (by decide) (fun i hi => hf _ (l_w1 i hi)) (fun i hi => hf _ (l_w2 i hi)) (fun i hi => hf _ (l_w3 i hi)) (fun i hi => hf _ (l_w4 i hi)) (fun i hi j hj => hf _ (l_w5 i hi j hj)) (fun i j hi hj hij => (l_w6 i hi j hj hij).imp (hf _) (hf _)) hA
theorem l_in1 : zcl.all (fun q => decide (Cond.instantiable q.1 q.2.2 ∈ lw_tbl)) = true := by decide +kernel
theorem l_in2 : Cond.arrayClass .int ∈ lw_tbl ∧ Cond.arrayClass .boolean ∈ lw_tbl ∧ Cond.arrayClass .byte ∈ lw_tbl ∧ Cond.arrayClass .char ∈ lw_tbl ∧ Cond.arrayOver (.array .int) ∈ lw_tbl ∧ Cond.arrayOver (.object RX4) ∈ lw_tbl ∧ Cond.arrayOver (.object RX7) ∈ lw_tbl := by decide +kernel
theorem l_nest : yNest.all (fun q => decide (Cond.methodLinkNest q.1 q.2.1 q.2.2.1 q.2.2.2 ∈ lw_tbl)) = true := by decide +kernel
theorem zT_sub : ∀ w ∈ zT, w ∈ lw_tbl := fun w hw => (List.mem_filter.mp hw).1
theorem l_known {s : State} {args : Array Value} (hts : ∀ w ∈ lw_tbl, w.before args s = true) : ∃ D : va_G, ∀ (c : Nat) (q : vw_C), zcl[c]? = some q → u_Kn s q.1 q.2.1 q.2.2 (D.1 c) (D.2 c) := by
  have h : ∀ c : Nat, ∃ z : ClassId × (Nat → Nat), ∀ q : vw_C, zcl[c]? = some q → u_Kn s q.1 q.2.1 q.2.2 z.1 z.2 := fun c => by
    cases hc : zcl[c]? with
    | none => exact ⟨(0, fun _ => 0), fun q hq => by cases hq⟩
    | some q =>
      obtain ⟨C, T, N⟩ := q
      obtain ⟨cC, iS, hk⟩ := u_known hts (fun w hw => zT_sub w ((zlay hc).1 w hw)) (hts _ (of_decide_eq_true (List.all_eq_true.mp l_in1 _ (List.mem_of_getElem? hc))))
      exact ⟨(cC, iS), fun q hq => by cases hq; exact hk⟩
  obtain ⟨f, hf⟩ := Classical.axiomOfChoice h
  exact ⟨(fun c => (f c).1, fun c => (f c).2), fun c q hq => hf c q hq⟩
theorem l_arr1 {s : State} {args : Array Value} {ty : FieldType} (h : (Cond.arrayClass ty).before args s = true) (hra : ∀ cA, s.vm.findClass ("[" ++ ty.toString) = some cA → va_RA s cA ty) : ∃ cA : ClassId, ArrOfT s cA ty ∧ va_RA s cA ty := by
  obtain ⟨cA, kC, cc, h1, h2, h3⟩ := Cond.arrayClass_spec h
  exact ⟨cA, fun n z => ⟨(fun k h => by cases h), kC, h2, cc, h3⟩, hra cA h1⟩
theorem l_arr2 {s : State} {args : Array Value} (h : (Cond.arrayOver (.array .int)).before args s = true) : ∃ cA : ClassId, ArrOfT s cA (.array .int) ∧ va_RA s cA (.array .int) := by
  obtain ⟨comp, cA, kA, h1, h2, h3, h4⟩ := Cond.arrayOver_specA h
  exact ⟨cA, fun n z => ⟨(fun k h => by cases h), kA, h2, comp, h3⟩, h4⟩
theorem l_arr3 {s : State} {args : Array Value} {C : String} (h : (Cond.arrayOver (.object C)).before args s = true) : ∃ cA : ClassId, ArrOfT s cA (.object C) ∧ va_RA s cA (.object C) := by
  obtain ⟨comp, c, k, h1, h2, h3, h4, h5⟩ := Cond.arrayOver_spec h
  exact ⟨c, fun n z => ⟨(fun k h => by cases h), k, h3, comp, h4⟩, k, comp, h3, h4, h1, h5⟩
