/-! METHODS: from a walk in the layer to a contract -/
def zG0 (n : Nat) (S : Nat × (Nat → Int32)) (d : Nat) (M : zMth) (K : Option zV → zMu → Prop) (pc : Nat) (ls : List (Option zV)) (st : List zV) (μ : zMu) : Prop :=
  if n = 0 then ∀ (X : zX) (p : Program) (l : Launch) (e : Env) (s : State) (m : MethodId) (args : Array Value) (below : List Frame) (meth : Method) (c : Code), X.2.2.2.2.2 = S → zCx X p (zrm d) s m args meth c 0 0 M.1.cls M.2.1 M.2.2.1 d M.2.2.2 → zW X p l e (zrm d) s m args below meth c 0 0 (MQ below (zQc X K) args s 0 0 (zA X)) M.2.2.1 pc ls st μ else zG0 (n - 1) S d M K pc ls st μ
termination_by n
decreasing_by omega
abbrev zG (S : Nat × (Nat → Int32)) (d : Nat) (M : zMth) (K : Option zV → zMu → Prop) (pc : Nat) (ls : List (Option zV)) (st : List zV) (μ : zMu) : Prop := zG0 0 S d M K pc ls st μ
theorem zG_iff {S : Nat × (Nat → Int32)} {d : Nat} {M : zMth} {K : Option zV → zMu → Prop} {pc : Nat} {ls : List (Option zV)} {st : List zV} {μ : zMu} : zG S d M K pc ls st μ ↔ ∀ (X : zX) (p : Program) (l : Launch) (e : Env) (s : State) (m : MethodId) (args : Array Value) (below : List Frame) (meth : Method) (c : Code), X.2.2.2.2.2 = S → zCx X p (zrm d) s m args meth c 0 0 M.1.cls M.2.1 M.2.2.1 d M.2.2.2 → zW X p l e (zrm d) s m args below meth c 0 0 (MQ below (zQc X K) args s 0 0 (zA X)) M.2.2.1 pc ls st μ := by
  unfold zG zG0
  rw [if_pos rfl]
theorem zs {S : Nat × (Nat → Int32)} {d : Nat} {M : zMth} {P : List zEn} {K : Option zV → zMu → Prop} {pc : Nat} {ls : List (Option zV)} {st : List zV} {μ : zMu} {en : zEn} (hP : zOK M P) (hf : zfet P pc = some en) (h : zdo S.1 S.2 M.2.2.2 (zCa d) K (zG S d M K) en ls st μ) : zG S d M K pc ls st μ := by
  refine zG_iff.mpr (fun X p l e s m args below meth c hS C => ?_)
  subst hS
  have hmem : en ∈ P := List.mem_of_find?_eq_some hf
  have hpc : en.1 = pc := Nat.eq_of_beq_eq_true (show Nat.beq en.1 pc = true from List.find?_some (p := fun e : zEn => Nat.beq e.1 pc) hf)
  have hc := List.all_eq_true.mp hP en hmem
  rw [← hpc]
  have hgo : ∀ pc ls st μ, zG X.2.2.2.2.2 d M K pc ls st μ → zW X p l e (zrm d) s m args below meth c 0 0 (MQ below (zQc X K) args s 0 0 (zA X)) M.2.2.1 pc ls st μ := fun pc ls st μ hg => zG_iff.mp hg X p l e s m args below meth c rfl C
  refine zs_core (go := zG X.2.2.2.2.2 d M K) C ?_ ?_ hgo hc h
  · intro x μ' H locs la pc' hk hrt hR hSS hdg
    have hq : ∀ t : State, t.heap = H → s.WarmedH t.vm → zQc X K args s (.returned (some (.int x))) t := fun t ht hW => ⟨⟨some (.inl x), μ', rfl, hk, by rw [ht]; exact zRmov hW.alike hR⟩, hSS.F ht⟩
    rcases hrt with h1 | ⟨h1, h2⟩
    · exact W.iret C.1 C.2.1 (C.2.2.2.2.2.1.trans h1) hq hSS.2.2 hdg C.2.2.2.2.2.2.1
    · exact W.zret (ty := .boolean) C.1 C.2.1 (C.2.2.2.2.2.1.trans h1) (by rcases h2 with rfl | rfl <;> rfl) hq hSS.2.2 hdg C.2.2.2.2.2.2.1
  · intro μ' H locs la pc' hk hrt hR hSS hdg
    exact W.vret C.1 C.2.1 (C.2.2.2.2.2.1.trans hrt) (fun t ht hW => ⟨⟨none, μ', rfl, hk, by rw [ht]; exact zRmov hW.alike hR⟩, hSS.F ht⟩) hSS.2.2 hdg C.2.2.2.2.2.2.1
theorem zsl_cons (v : Value) (r : List Value) : lg_sl (v :: r) = (if v.category = 2 then [Slot.val v, Slot.second] else [Slot.val v]) ++ lg_sl r := rfl
theorem zin_len {X : zX} : ∀ as : List zV, (lg_sl (as.map (ztr X))).length = (zin as).length
  | [] => rfl
  | .inl x :: r => by
    rw [List.map_cons, zsl_cons, List.length_append, zin_len r, show (ztr X (.inl x)).category = 1 from rfl, show zin (.inl x :: r) = some (.inl x) :: zin r from rfl, List.length_cons, if_neg (by decide)]
    exact Nat.add_comm 1 _
  | .inr (.inr n) :: r => by
    rw [List.map_cons, zsl_cons, List.length_append, zin_len r, show (ztr X (.inr (.inr n))).category = 1 from rfl, show zin (.inr (.inr n) :: r) = some (.inr (.inr n)) :: zin r from rfl, List.length_cons, if_neg (by decide)]
    exact Nat.add_comm 1 _
  | .inr (.inl x) :: r => by
    rw [List.map_cons, zsl_cons, List.length_append, zin_len r, show (ztr X (.inr (.inl x))).category = 2 from rfl, show zin (.inr (.inl x) :: r) = some (.inr (.inl x)) :: none :: zin r from rfl, List.length_cons, List.length_cons, if_pos rfl]
    exact Nat.add_comm 2 _
def zls (n : Nat) (as : List zV) : List (Option zV) := zin as ++ List.replicate (n - (zin as).length) none
theorem zmeet {d : Nat} {M : zMth} {as : List zV} {μ : zMu} {K : Option zV → zMu → Prop} (hy : plainName M.1.cls = true) (hn : (zin as).length ≤ M.2.2.1) (h : ∀ S, zG S d M K 0 (zls M.2.2.1 as) [] μ) : Ct d M as μ K := by
  refine Ct_iff.mpr (fun l X => ?_)
  refine Met.ofW (cc := M.2.1) (maxL := M.2.2.1) (ret := M.2.2.2) hy rfl ?_
  intro p e s m args below meth c s₁ B hml hv
  obtain ⟨rfl, hst, hR⟩ := hv
  have hts := atoms_spec (ws := zws M) B.pre
  have hown : s.vm.findClass M.1.cls = some m.cls := findClass_of_methodNamed B.named
  have C : zCx X p (zrm d) s m (as.map (ztr X)).toArray meth c 0 0 M.1.cls M.2.1 M.2.2.1 d M.2.2.2 := ⟨B.exec, B.bytes, hml, hown, fun w hw => hts w (List.mem_cons_of_mem _ hw), B.returns, B.notSynchronized, hst, Nat.le_refl _, Nat.le_refl _, Nat.le_refl _, Nat.le_refl _⟩
  have hl := lv_entry (as.map (ztr X)) (n := M.2.2.1) (by rw [zin_len]; exact hn)
  rw [lg_entry_eq]
  refine zG_iff.mp (h X.2.2.2.2.2) X p l e s m _ below meth c rfl C s.heap [] _ hR va_S.rf ⟨?_, hl.1, hl.2.1, fun q hq => hl.2.2 q (zin_lv as 0 _ q hq)⟩
  rw [zls, List.length_append, List.length_replicate]
  omega
