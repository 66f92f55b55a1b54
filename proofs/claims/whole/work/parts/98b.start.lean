/-! AT THE LAW'S START: what the Statement gives -/
def lFl : List Cond := flatC (Jvm.Cond.and given_1 narrow_1)
def lTm (i : Nat) : Term := .string RX8 ((zStr[i]?.map (·.1)).getD 0)
theorem l_w1 : ∀ i, i < 13 → Cond.exactly (lTm i) "java/lang/String" ∈ lFl := by decide +kernel
theorem l_w2 : ∀ i, i < 13 → Cond.eq (.field (lTm i) "java/lang/String" "coder" "B") (.int 0) ∈ lFl := by decide +kernel
theorem l_w3 : ∀ i, i < 13 → Cond.arrayOf (.field (lTm i) "java/lang/String" "value" "[B") .byte ∈ lFl := by decide +kernel
theorem l_w4 : ∀ i, i < 13 → Cond.eq (.length (.field (lTm i) "java/lang/String" "value" "[B")) (.int (Int32.ofNat (zLen.getD i 0))) ∈ lFl := by decide +kernel
theorem l_w5 : ∀ i, i < 13 → ∀ j, j < zLen.getD i 0 → Cond.eq (.elem (.field (lTm i) "java/lang/String" "value" "[B") (.int (Int32.ofNat j))) (.int ((zByt.getD i []).getD j 0)) ∈ lFl := by decide +kernel
def lPr : Cond → Option (Nat × Nat)
  | .not (.eq (.string r a) (.string q b)) => if r = RX8 ∧ q = RX8 then some (a, b) else none
  | _ => none
theorem lPr_ok {c : Cond} {a b : Nat} (h : lPr c = some (a, b)) : c = .not (.eq (.string RX8 a) (.string RX8 b)) := by
  unfold lPr at h
  split at h
  · split at h
    · rename_i hq
      obtain ⟨rfl, rfl⟩ := hq
      cases h
      rfl
    · cases h
  · cases h
def lNe : List (Nat × Nat) := [(49, 58), (49, 63), (58, 63), (49, 68), (58, 68), (63, 68), (49, 73), (58, 73), (63, 73), (68, 73), (49, 85), (58, 85), (63, 85), (68, 85), (73, 85), (49, 91), (58, 91), (63, 91), (68, 91), (73, 91), (85, 91), (49, 96), (58, 96), (63, 96), (68, 96), (73, 96), (85, 96), (91, 96), (49, 101), (58, 101), (63, 101), (68, 101), (73, 101), (85, 101), (91, 101), (96, 101), (49, 106), (58, 106), (63, 106), (68, 106), (73, 106), (85, 106), (91, 106), (96, 106), (101, 106), (49, 79), (58, 79), (63, 79), (68, 79), (73, 79), (85, 79), (91, 79), (96, 79), (101, 79), (106, 79), (49, 81), (58, 81), (63, 81), (68, 81), (73, 81), (85, 81), (91, 81), (96, 81), (101, 81), (106, 81), (79, 81), (49, 83), (58, 83), (63, 83), (68, 83), (73, 83), (85, 83), (91, 83), (96, 83), (101, 83), (106, 83), (79, 83), (81, 83)]
theorem lNe_eq : lFl.filterMap lPr = lNe := by decide +kernel
def lNm (i : Nat) : Nat := (zStr[i]?.map (·.1)).getD 0
theorem lNe_ck : (List.range 13).all (fun i => (List.range 13).all (fun j => i == j || lNe.contains (lNm i, lNm j) || lNe.contains (lNm j, lNm i))) = true := by decide +kernel
theorem lNe_all (i : Nat) (hi : i < 13) (j : Nat) (hj : j < 13) (hij : i ≠ j) : (lNm i, lNm j) ∈ lNe ∨ (lNm j, lNm i) ∈ lNe := by
  have h := List.all_eq_true.mp (List.all_eq_true.mp lNe_ck i (List.mem_range.mpr hi)) j (List.mem_range.mpr hj)
  simp only [Bool.or_eq_true, beq_iff_eq, List.contains_iff_mem] at h
  rcases h with (h | h) | h
  · exact absurd h hij
  · exact Or.inl h
  · exact Or.inr h
theorem lNe_in {a b : Nat} (h : (a, b) ∈ lNe) : Cond.not (Cond.eq (.string RX8 a) (.string RX8 b)) ∈ lFl := by
  rw [← lNe_eq] at h
  obtain ⟨c, hc, he⟩ := List.mem_filterMap.mp h
  rw [← lPr_ok he]
  exact hc
theorem l_w6 : ∀ i, i < 13 → ∀ j, j < 13 → i ≠ j → Cond.not (Cond.eq (lTm i) (lTm j)) ∈ lFl ∨ Cond.not (Cond.eq (lTm j) (lTm i)) ∈ lFl := fun i hi j hj hij => (lNe_all i hi j hj hij).imp lNe_in lNe_in
theorem l_w7 : ∀ i, i < 13 → Cond.stringRef RX8 ((zStr[i]?.map (·.1)).getD 0) ((zStr[i]?.map (·.2)).getD "") ∈ lw_tbl := by decide +kernel
theorem l_w8 : Cond.eq (.static "java/lang/String" "COMPACT_STRINGS" "Z") (.int 1) ∈ lFl ∧ Cond.isRef (.static "jdk/internal/util/Preconditions" "SIOOBE_FORMATTER" "Ljava/util/function/BiFunction;") ∈ lFl ∧ Cond.laysStatic "java/lang/String" "COMPACT_STRINGS" "Z" ∈ lw_tbl ∧ Cond.initialized "java/lang/String" ∈ lw_tbl ∧ Cond.laysStatic "jdk/internal/util/Preconditions" "SIOOBE_FORMATTER" "Ljava/util/function/BiFunction;" ∈ lw_tbl ∧ Cond.initialized "jdk/internal/util/Preconditions" ∈ lw_tbl := by decide +kernel
theorem l_str {s : State} {args : Array Value} {A : Nat → Prop} (hf : ∀ w ∈ lFl, w.before args s = true) (hA : ∀ a : Nat, a < s.heap.size → ¬ A a) : ∃ adK adV : Nat → Nat, vk_S 13 zLen zByt adK adV A s s.heap ∧ ∀ i : Nat, i < 13 → (lTm i).eval args s none [] s = some (.ref (adK i)) :=
  vk_Sof (by decide) (fun i hi => hf _ (l_w1 i hi)) (fun i hi => hf _ (l_w2 i hi)) (fun i hi => hf _ (l_w3 i hi)) (fun i hi => hf _ (l_w4 i hi)) (fun i hi j hj => hf _ (l_w5 i hi j hj)) (fun i j hi hj hij => (l_w6 i hi j hj hij).imp (hf _) (hf _)) hA
theorem l_in1 : zcl.all (fun q => decide (Cond.instantiable q.1 q.2.2 ∈ lw_tbl)) = true := by decide +kernel
theorem l_in2 : Cond.arrayClass .int ∈ lw_tbl ∧ Cond.arrayClass .boolean ∈ lw_tbl ∧ Cond.arrayClass .byte ∈ lw_tbl ∧ Cond.arrayClass .char ∈ lw_tbl ∧ Cond.arrayOver (.array .int) ∈ lw_tbl ∧ Cond.arrayOver (.object RX4) ∈ lw_tbl ∧ Cond.arrayOver (.object RX7) ∈ lw_tbl := by decide +kernel
theorem l_nest : yNest.all (fun q => decide (Cond.methodLinkNest q.1 q.2.1 q.2.2.1 q.2.2.2 ∈ lw_tbl)) = true := by decide +kernel
theorem zT_sub : ∀ w ∈ zT, w ∈ lw_tbl := fun w hw => (List.mem_filter.mp hw).1
theorem l_known {s : State} {args : Array Value} (hts : ∀ w ∈ lw_tbl, w.before args s = true) : ∃ D : va_G, ∀ (c : Nat) (q : vw_C), zcl[c]? = some q → u_Kn s q.1 q.2.1 q.2.2 (D.1 c) (D.2 c) := by
  have h : ∀ c : Nat, ∃ z : ClassId × (Nat → Nat), ∀ q : vw_C, zcl[c]? = some q → u_Kn s q.1 q.2.1 q.2.2 z.1 z.2 := fun c => by
    cases hc : zcl[c]? with
    | none => exact ⟨(0, fun _ => 0), fun q hq => by cases hq⟩
    | some q =>
      obtain ⟨C, T, N⟩ := q
      obtain ⟨cC, iS, hk⟩ := u_known hts (fun w hw => zT_sub w ((zlay hc).1 w hw)) (hts _ (of_decide_eq_true (List.all_eq_true.mp l_in1 _ (List.mem_of_getElem? hc))))
      exact ⟨(cC, iS), fun q hq => by cases hq; exact hk⟩
  obtain ⟨f, hf⟩ := Classical.axiomOfChoice h
  exact ⟨(fun c => (f c).1, fun c => (f c).2), fun c q hq => hf c q hq⟩
theorem l_arr1 {s : State} {args : Array Value} {ty : FieldType} (h : (Cond.arrayClass ty).before args s = true) (hra : ∀ cA, s.vm.findClass ("[" ++ ty.toString) = some cA → va_RA s cA ty) : ∃ cA : ClassId, ArrOfT s cA ty ∧ va_RA s cA ty := by
  obtain ⟨cA, kC, cc, h1, h2, h3⟩ := Cond.arrayClass_spec h
  exact ⟨cA, fun n z => ⟨(fun k h => by cases h), kC, h2, cc, h3⟩, hra cA h1⟩
theorem l_arr2 {s : State} {args : Array Value} (h : (Cond.arrayOver (.array .int)).before args s = true) : ∃ cA : ClassId, ArrOfT s cA (.array .int) ∧ va_RA s cA (.array .int) := by
  obtain ⟨comp, cA, kA, h1, -, h2, h3, h4⟩ := arrayOverA_spec h
  exact ⟨cA, fun n z => ⟨(fun k h => by cases h), kA, h2, comp, h3⟩, h4⟩
theorem l_arr3 {s : State} {args : Array Value} {C : String} (h : (Cond.arrayOver (.object C)).before args s = true) : ∃ cA : ClassId, ArrOfT s cA (.object C) ∧ va_RA s cA (.object C) := by
  obtain ⟨comp, c, k, h1, h2, h3, h4, h5⟩ := Cond.arrayOver_spec h
  exact ⟨c, fun n z => ⟨(fun k h => by cases h), k, h3, comp, h4⟩, k, comp, h3, h4, h1, h5⟩
