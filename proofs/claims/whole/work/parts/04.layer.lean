/-! THE LAYER. All cells stand after the constructors; what changes are numbers: μ family index place. -/
abbrev zV : Type := Int32 ⊕ (Int64 ⊕ zN)
abbrev zMu : Type := Nat → Nat → Nat → Int32
abbrev zI (x : Int32) : zV := .inl x
abbrev zL (x : Int64) : zV := .inr (.inl x)
abbrev zR (f i : Nat) : zV := .inr (.inr (f, i))
def zu (μ : zMu) (f i k : Nat) (v : Int32) : zMu := fun a b c => if a = f ∧ c = k ∧ b = i then v else μ a b c
/-- addresses, classes, array classes, the first new address, the strings' arrays, the script's length and ints -/
abbrev zX : Type := (Nat → Nat → Nat) × va_G × (Nat → ClassId) × Nat × (Nat → Nat) × Nat × (Nat → Int32)
def zA (X : zX) : Nat → Prop := fun q => X.2.2.2.1 ≤ q
def ztr (X : zX) : zV → Value
  | .inl x => .int x
  | .inr (.inl x) => .long x
  | .inr (.inr n) => .ref (X.1 n.1 n.2)
def ztys (X : zX) : List (ClassId × FieldType) := [(X.2.2.1 0, .int), (X.2.2.1 1, .boolean), (X.2.2.1 2, .byte), (X.2.2.1 3, .char), (X.2.2.1 4, .array .int), (X.2.2.1 5, .object RX4), (X.2.2.1 6, .object RX7)]
def zE (X : zX) (μ : zMu) (n : zN) : va_E := match zTab[n.1]? with
  | some (_, .inl (ci, fs)) => .inr (ci, fs.mapIdx (fun k o => match o with
    | none => Value.int (μ n.1 n.2 k)
    | some g => Value.ref (X.1 (g n.2).1 (g n.2).2)))
  | some (_, .inr (.inl (kd, len))) => .inl (X.2.2.1 kd, len, .inl (μ n.1 n.2))
  | some (_, .inr (.inr (kd, len, g))) => .inl (X.2.2.1 kd, len, .inr (.inr (.inr (.inr (fun j => some (X.1 (g n.2 j).1 (g n.2 j).2))))))
  | none => .inr (0, [])
def zAll : List zN := (List.range zTab.length).flatMap fun f => (List.range ((zTab[f]?.map (·.1)).getD 0)).map fun i => (f, i)
def zWs (X : zX) (μ : zMu) : va_W := zAll.map fun n => (X.1 n.1 n.2, zE X μ n)
def zRep (X : zX) (μ : zMu) (U : State) (H : Heap) : Prop := va_K X.2.1 zcl (ztys X) U ∧ va_P X.2.1 zcl (zWs X μ) H ∧ va_D (zA X) (zWs X μ)
/-- the String constants: entry in Tape's file, text -/
def zStr : List (Nat × String) := [(49, "on"), (58, "* 0 1 2 3 4 5 6 7 8 9"), (63, "rank paper name since kind"), (68, "up down"), (73, "if"), (85, "a b not"), (91, "a b"), (96, "."), (101, "rank paper name since kind state tongue"), (106, "= < >"), (79, "and or"), (81, "or"), (83, "and")]
def zLen : List Nat := [2, 21, 26, 7, 2, 7, 3, 1, 39, 5, 6, 2, 3]
def zByt : List (List Int32) := [[111, 110], [42, 32, 48, 32, 49, 32, 50, 32, 51, 32, 52, 32, 53, 32, 54, 32, 55, 32, 56, 32, 57], [114, 97, 110, 107, 32, 112, 97, 112, 101, 114, 32, 110, 97, 109, 101, 32, 115, 105, 110, 99, 101, 32, 107, 105, 110, 100], [117, 112, 32, 100, 111, 119, 110], [105, 102], [97, 32, 98, 32, 110, 111, 116], [97, 32, 98], [46], [114, 97, 110, 107, 32, 112, 97, 112, 101, 114, 32, 110, 97, 109, 101, 32, 115, 105, 110, 99, 101, 32, 107, 105, 110, 100, 32, 115, 116, 97, 116, 101, 32, 116, 111, 110, 103, 117, 101], [61, 32, 60, 32, 62], [97, 110, 100, 32, 111, 114], [111, 114], [97, 110, 100]]
/-- what stays: the strings, the script -/
def zSt (X : zX) (U : State) : Prop := vk_S 13 zLen zByt (X.1 200) X.2.2.2.2.1 (zA X) U U.heap ∧ (∀ (i : Nat) (q : Nat × String), zStr[i]? = some q → vk_R RX8 q.1 q.2 (X.1 200 i) U) ∧ va_Z "java/lang/String" "COMPACT_STRINGS" "Z" (.int 1) (zA X) U U.heap ∧ va_X (X.1 201 0) X.2.2.2.2.2.1 X.2.2.2.2.2.2 U U.heap ∧ X.1 201 0 < U.heap.size ∧ ¬ zA X (X.1 201 0) ∧ X.2.2.2.1 ≤ U.heap.size ∧ va_Zq "jdk/internal/util/Preconditions" "SIOOBE_FORMATTER" "Ljava/util/function/BiFunction;" (zA X) U U.heap
-- ---- worlds by their names
theorem zAll_mem {f i cnt : Nat} {d} (h : zTab[f]? = some (cnt, d)) (hi : i < cnt) : (f, i) ∈ zAll := by
  refine List.mem_flatMap.mpr ⟨f, List.mem_range.mpr (List.getElem?_eq_some_iff.mp h).1, ?_⟩
  refine List.mem_map.mpr ⟨i, ?_, rfl⟩
  rw [h]
  exact List.mem_range.mpr hi
theorem zAll_nodup : zAll.Nodup := by decide +kernel
theorem zWs_at {X : zX} {μ : zMu} {n : zN} {k : Nat} (h : zAll[k]? = some n) : (zWs X μ)[k]? = some (X.1 n.1 n.2, zE X μ n) := by
  unfold zWs
  rw [List.getElem?_map, h]
  rfl
theorem zAll_inj {j k : Nat} {n : zN} (hj : zAll[j]? = some n) (hk : zAll[k]? = some n) : j = k := by
  have h1 := (List.getElem?_eq_some_iff.mp hj)
  have h2 := (List.getElem?_eq_some_iff.mp hk)
  obtain ⟨l1, e1⟩ := h1
  obtain ⟨l2, e2⟩ := h2
  have hp := List.pairwise_iff_getElem.mp zAll_nodup
  rcases Nat.lt_trichotomy j k with h | h | h
  · exact absurd (e1.trans e2.symm) (hp j k l1 l2 h)
  · exact h
  · exact absurd (e2.trans e1.symm) (hp k j l2 l1 h)
theorem zWs_set {X : zX} {μ μ' : zMu} {n : zN} {k : Nat} {e : va_E} (h : zAll[k]? = some n) (he : zE X μ' n = e) (ho : ∀ n' : zN, n' ≠ n → zE X μ' n' = zE X μ n') : (zWs X μ).set k (X.1 n.1 n.2, e) = zWs X μ' := by
  apply List.ext_getElem?
  intro j
  by_cases hj : j = k
  · subst hj
    rw [List.getElem?_set_self (by simpa [zWs] using (List.getElem?_eq_some_iff.mp h).1), zWs_at h, he]
  · rw [List.getElem?_set_ne (Ne.symm hj)]
    cases hn : zAll[j]? with
    | none => simp [zWs, hn]
    | some n' =>
      have hne : n' ≠ n := fun q => hj (zAll_inj (q ▸ hn) h)
      rw [zWs_at hn, zWs_at hn, ho n' hne]
theorem zE_ne {X : zX} {μ μ' : zMu} {n' : zN} (h : ∀ k, μ' n'.1 n'.2 k = μ n'.1 n'.2 k) : zE X μ' n' = zE X μ n' := by
  have h2 : μ' n'.1 n'.2 = μ n'.1 n'.2 := funext h
  unfold zE
  rw [h2]
theorem zu_ne {μ : zMu} {f i k a b c : Nat} {v : Int32} (h : ¬ (a = f ∧ c = k ∧ b = i)) : zu μ f i k v a b c = μ a b c := if_neg h
theorem zu_eq {μ : zMu} {f i k : Nat} {v : Int32} : zu μ f i k v f i k = v := if_pos ⟨rfl, rfl, rfl⟩
theorem zE_zu_ne {X : zX} {μ : zMu} {f i k : Nat} {v : Int32} (n' : zN) (h : n' ≠ (f, i)) : zE X (zu μ f i k v) n' = zE X μ n' := by
  refine zE_ne (fun c => zu_ne (fun q => h ?_))
  exact Prod.ext q.1 q.2.2
theorem zE_obj {X : zX} {μ : zMu} {f i ci cnt : Nat} {fs : List (Option (Nat → zN))} (h : zTab[f]? = some (cnt, .inl (ci, fs))) : zE X μ (f, i) = .inr (ci, fs.mapIdx (fun k o => match o with
    | none => Value.int (μ f i k)
    | some g => Value.ref (X.1 (g i).1 (g i).2))) := by
  simp only [zE, h]
theorem zE_arr {X : zX} {μ : zMu} {f i kd len cnt : Nat} (h : zTab[f]? = some (cnt, .inr (.inl (kd, len)))) : zE X μ (f, i) = .inl (X.2.2.1 kd, len, .inl (μ f i)) := by
  simp only [zE, h]
theorem zE_rfa {X : zX} {μ : zMu} {f i kd len cnt : Nat} {g} (h : zTab[f]? = some (cnt, .inr (.inr (kd, len, g)))) : zE X μ (f, i) = .inl (X.2.2.1 kd, len, .inr (.inr (.inr (.inr (fun j => some (X.1 (g i j).1 (g i j).2)))))) := by
  simp only [zE, h]
theorem zE_put {X : zX} {μ : zMu} {f i ci cnt k : Nat} {fs : List (Option (Nat → zN))} {x : Int32} (h : zTab[f]? = some (cnt, .inl (ci, fs))) (hk : fs[k]? = some none) : zE X (zu μ f i k x) (f, i) = .inr (ci, (fs.mapIdx (fun k o => match o with
    | none => Value.int (μ f i k)
    | some g => Value.ref (X.1 (g i).1 (g i).2))).set k (.int x)) := by
  rw [zE_obj h]
  congr 2
  apply List.ext_getElem?
  intro j
  rw [List.getElem?_mapIdx]
  by_cases hj : j = k
  · subst hj
    rw [List.getElem?_set_self (by simpa using (List.getElem?_eq_some_iff.mp hk).1), hk]
    simp [zu]
  · rw [List.getElem?_set_ne (Ne.symm hj), List.getElem?_mapIdx]
    cases fs[j]? with
    | none => rfl
    | some o => cases o <;> simp [zu, hj]
theorem zE_sto {X : zX} {μ : zMu} {f i kd len cnt k : Nat} {x : Int32} (h : zTab[f]? = some (cnt, .inr (.inl (kd, len)))) : zE X (zu μ f i k x) (f, i) = .inl (X.2.2.1 kd, len, .inl (upd (μ f i) k x)) := by
  rw [zE_arr h]
  have e : zu μ f i k x f i = upd (μ f i) k x := by
    funext j
    simp [zu, upd]
  rw [e]
-- ---- locals
def zlv (X : zX) : Nat → List (Option zV) → List (Nat × Value)
  | _, [] => []
  | i, none :: r => zlv X (i + 1) r
  | i, some v :: r => (i, ztr X v) :: zlv X (i + 1) r
theorem zlv_mem {X : zX} : ∀ (ls : List (Option zV)) (i : Nat) (q : Nat × Value), q ∈ zlv X i ls ↔ ∃ (k : Nat) (v : zV), ls[k]? = some (some v) ∧ q = (i + k, ztr X v)
  | [], i, q => by simp [zlv]
  | none :: r, i, q => by
    rw [zlv, zlv_mem r (i + 1) q]
    constructor
    · rintro ⟨k, v, h, rfl⟩
      exact ⟨k + 1, v, by simpa using h, by rw [Nat.add_assoc, Nat.add_comm 1 k]⟩
    · rintro ⟨k, v, h, rfl⟩
      cases k with
      | zero => simp at h
      | succ k => exact ⟨k, v, by simpa using h, by rw [Nat.add_assoc, Nat.add_comm 1 k]⟩
  | some w :: r, i, q => by
    rw [zlv, List.mem_cons, zlv_mem r (i + 1) q]
    constructor
    · rintro (rfl | ⟨k, v, h, rfl⟩)
      · exact ⟨0, w, rfl, rfl⟩
      · exact ⟨k + 1, v, by simpa using h, by rw [Nat.add_assoc, Nat.add_comm 1 k]⟩
    · rintro ⟨k, v, h, rfl⟩
      cases k with
      | zero =>
        left
        simp at h
        subst h
        rfl
      | succ k => exact Or.inr ⟨k, v, by simpa using h, by rw [Nat.add_assoc, Nat.add_comm 1 k]⟩
def zLv (X : zX) (nL : Nat) (ls : List (Option zV)) (la : Array Slot) : Prop := ls.length ≤ nL ∧ lv_has la nL (zlv X 0 ls)
theorem zLv_at {X : zX} {nL : Nat} {ls : List (Option zV)} {la : Array Slot} (h : zLv X nL ls la) {k : Nat} {v : zV} (hk : ls[k]? = some (some v)) : la[k]? = some (.val (ztr X v)) :=
  h.2.2.2 (k, ztr X v) ((zlv_mem ls 0 _).mpr ⟨k, v, hk, by rw [Nat.zero_add]⟩)
def zok (ls : List (Option zV)) (k : Nat) : Bool := decide (k < ls.length) && (match k with
  | 0 => true
  | j + 1 => match ls[j]? with
    | some (some (.inr (.inl _))) => false
    | _ => true)
theorem zLv_set {X : zX} {nL : Nat} {ls : List (Option zV)} {la la' : Array Slot} {k : Nat} {v : zV} {w : Value} (h : zLv X nL ls la) (ho : zok ls k = true) (hw : w = ztr X v) (h' : lv_has la' nL ((k, w) :: (zlv X 0 ls).filter (fun q => !(q.1 == k) && !(q.1 + 1 == k && q.2.category == 2)))) : zLv X nL (ls.set k (some v)) la' := by
  subst hw
  simp only [zok, Bool.and_eq_true, decide_eq_true_eq] at ho
  refine ⟨by rw [List.length_set]; exact h.1, h'.1, h'.2.1, fun q hq => h'.2.2 q ?_⟩
  obtain ⟨j, u, hj, rfl⟩ := (zlv_mem _ 0 q).mp hq
  rw [Nat.zero_add]
  by_cases hjk : j = k
  · subst hjk
    rw [List.getElem?_set_self ho.1] at hj
    cases hj
    exact List.mem_cons_self
  · rw [List.getElem?_set_ne (Ne.symm hjk)] at hj
    refine List.mem_cons_of_mem _ (List.mem_filter.mpr ⟨(zlv_mem ls 0 _).mpr ⟨j, u, hj, by rw [Nat.zero_add]⟩, ?_⟩)
    simp only [Bool.and_eq_true, Bool.not_eq_true', beq_eq_false_iff_ne, ne_eq, Bool.and_eq_false_imp, beq_iff_eq]
    refine ⟨hjk, fun e => ?_⟩
    subst e
    have h2 := ho.2
    simp only [hj] at h2
    match u, h2 with
    | .inl x, _ => simp [ztr, Value.category]
    | .inr (.inr n), _ => simp [ztr, Value.category]
def zin : List zV → List (Option zV)
  | [] => []
  | .inr (.inl x) :: r => some (.inr (.inl x)) :: none :: zin r
  | v :: r => some v :: zin r
theorem zin_lv {X : zX} : ∀ (as : List zV) (i : Nat) (pad : Nat) (q : Nat × Value), q ∈ zlv X i (zin as ++ List.replicate pad none) → q ∈ lv_args i (as.map (ztr X))
  | [], i, pad, q, h => by
    obtain ⟨k, v, hk, -⟩ := (zlv_mem _ _ _).mp h
    simp only [zin, List.nil_append] at hk
    have := List.mem_of_getElem? hk
    simp at this
  | .inl x :: r, i, pad, q, h => by
    rw [show zin (.inl x :: r) = some (.inl x) :: zin r from rfl, List.cons_append, zlv, List.mem_cons] at h
    rw [List.map_cons, lv_args, List.mem_cons]
    rcases h with h | h
    · exact Or.inl h
    · exact Or.inr (zin_lv r (i + 1) pad q h)
  | .inr (.inr n) :: r, i, pad, q, h => by
    rw [show zin (.inr (.inr n) :: r) = some (.inr (.inr n)) :: zin r from rfl, List.cons_append, zlv, List.mem_cons] at h
    rw [List.map_cons, lv_args, List.mem_cons]
    rcases h with h | h
    · exact Or.inl h
    · exact Or.inr (zin_lv r (i + 1) pad q h)
  | .inr (.inl x) :: r, i, pad, q, h => by
    rw [show zin (.inr (.inl x) :: r) = some (.inr (.inl x)) :: none :: zin r from rfl, List.cons_append, List.cons_append, zlv, zlv, List.mem_cons] at h
    rw [List.map_cons, lv_args, List.mem_cons]
    rcases h with h | h
    · exact Or.inl h
    · exact Or.inr (zin_lv r (i + 1 + 1) pad q h)
