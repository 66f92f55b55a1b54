/-! THE LAW: from an instruction to the next -/
def lK (r : Option zV) (_ : zMu) : Prop := r = some (zI 1)
def lG0 (n : Nat) (S : Nat × (Nat → Int32)) (pc : Nat) (ls : List (Option zV)) (st : List zV) (μ : zMu) : Prop :=
  if n = 0 then ∀ (X : zX) (p : Program) (l : Launch) (e : Env) (s : State) (m : MethodId) (below : List Frame) (meth : Method) (c : Code) (b cells slots : Nat), X.2.2.2.2.2 = S → X.2.2.2.1 = s.heap.size → zCx X p room_1 s m #[Value.ref b] meth c cells slots R_law code 4 40 (some .boolean) → zW X p l e room_1 s m #[Value.ref b] below meth c cells slots (lw_Z below #[Value.ref b] s) 4 pc ls st μ else lG0 (n - 1) S pc ls st μ
termination_by n
decreasing_by omega
abbrev lG (S : Nat × (Nat → Int32)) (pc : Nat) (ls : List (Option zV)) (st : List zV) (μ : zMu) : Prop := lG0 0 S pc ls st μ
theorem lG_iff {S : Nat × (Nat → Int32)} {pc : Nat} {ls : List (Option zV)} {st : List zV} {μ : zMu} : lG S pc ls st μ ↔ ∀ (X : zX) (p : Program) (l : Launch) (e : Env) (s : State) (m : MethodId) (below : List Frame) (meth : Method) (c : Code) (b cells slots : Nat), X.2.2.2.2.2 = S → X.2.2.2.1 = s.heap.size → zCx X p room_1 s m #[Value.ref b] meth c cells slots R_law code 4 40 (some .boolean) → zW X p l e room_1 s m #[Value.ref b] below meth c cells slots (lw_Z below #[Value.ref b] s) 4 pc ls st μ := by
  unfold lG lG0
  rw [if_pos rfl]
theorem zl {P : List zEn} {S : Nat × (Nat → Int32)} {pc : Nat} {ls : List (Option zV)} {st : List zV} {μ : zMu} {en : zEn} (hP : zOK m_Law P) (hf : zfet P pc = some en) (h : zdo S.1 S.2 (some .boolean) (zCa 40) lK (lG S) en ls st μ) : lG S pc ls st μ := by
  refine lG_iff.mpr (fun X p l e s m below meth c b cells slots hS hA C => ?_)
  subst hS
  have hmem : en ∈ P := List.mem_of_find?_eq_some hf
  have hpc : en.1 = pc := Nat.eq_of_beq_eq_true (show Nat.beq en.1 pc = true from List.find?_some (p := fun e : zEn => Nat.beq e.1 pc) hf)
  have hc : zchk R_law code en = true := List.all_eq_true.mp hP en hmem
  rw [← hpc]
  have hgo : ∀ pc ls st μ, lG X.2.2.2.2.2 pc ls st μ → zW X p l e room_1 s m #[Value.ref b] below meth c cells slots (lw_Z below #[Value.ref b] s) 4 pc ls st μ := fun pc ls st μ hg => lG_iff.mp hg X p l e s m below meth c b cells slots rfl hA C
  refine zs_core (go := lG X.2.2.2.2.2) (K := lK) C ?_ ?_ hgo hc h
  · intro x μ' H locs la pc' hk hrt hR hSS hdg
    have hx : x = 1 := Sum.inl.inj (Option.some.inj hk)
    subst hx
    refine va_forget (fun q hq => ?_) ?_
    · have := hSS.2.2 q hq
      rw [← hA]
      exact this
    · exact W.widen (k := 600000) (n := 7302249) C.2.2.2.2.2.2.2.2.2.2.1 C.2.2.2.2.2.2.2.2.2.2.2 (lw_ret C.1 C.2.1 C.2.2.2.2.2.1 C.2.2.2.2.2.2.1 hdg)
  · intro μ' H locs la pc' hk
    cases hk
theorem l_in {L i : Nat} (hi : i + 6 ≤ L) (hL : L ≤ 3072) : vp_in (nI i + 1) L ∧ vp_in (nI i + 2) L ∧ vp_in (nI i + 3) L ∧ vp_in (nI i + 4) L ∧ vp_in (nI i + 5) L := by
  refine ⟨?_, ?_, ?_, ?_, ?_⟩
  · rw [show nI i + 1 = nI (i + 1) from nI_add i 1]
    exact vp_in_nI (by omega) (by omega)
  · rw [show nI i + 2 = nI (i + 2) from nI_add i 2]
    exact vp_in_nI (by omega) (by omega)
  · rw [show nI i + 3 = nI (i + 3) from nI_add i 3]
    exact vp_in_nI (by omega) (by omega)
  · rw [show nI i + 4 = nI (i + 4) from nI_add i 4]
    exact vp_in_nI (by omega) (by omega)
  · rw [show nI i + 5 = nI (i + 5) from nI_add i 5]
    exact vp_in_nI (by omega) (by omega)
