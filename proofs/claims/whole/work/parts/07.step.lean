/-! ONE STEP: every instruction of the layer -/
theorem zsw_of {go : Nat → Prop} {x : Int32} : ∀ {sw : List (Int × Nat)} {t : Nat}, zsw go x sw t → (∀ (j : Nat) (k : Int) (u : Nat), sw[j]? = some (k, u) → x.toInt = k → (∀ (i : Nat) (k' : Int) (u' : Nat), i < j → sw[i]? = some (k', u') → ¬ x.toInt = k') → go u) ∧ ((∀ (j : Nat) (k : Int) (u : Nat), sw[j]? = some (k, u) → ¬ x.toInt = k) → go t)
  | [], t, h => ⟨fun j k u hj => by simp at hj, fun _ => h⟩
  | (k0, t0) :: r, t, h => by
    obtain ⟨h1, h2⟩ := h
    refine ⟨fun j k u hj hx hn => ?_, fun hn => ?_⟩
    · cases j with
      | zero =>
        simp only [List.getElem?_cons_zero, Option.some.injEq, Prod.mk.injEq] at hj
        obtain ⟨rfl, rfl⟩ := hj
        exact h1 hx
      | succ j =>
        rw [List.getElem?_cons_succ] at hj
        refine (zsw_of (h2 (hn 0 k0 t0 (by omega) rfl))).1 j k u hj hx (fun i k' u' hi hk' => hn (i + 1) k' u' (by omega) (by rw [List.getElem?_cons_succ]; exact hk'))
    · exact (zsw_of (h2 (hn 0 k0 t0 rfl))).2 (fun j k u hj => hn (j + 1) k u (by rw [List.getElem?_cons_succ]; exact hj))
theorem zlook {pc : Nat} {x : Int32} {go : Nat → Prop} : ∀ (ps : List (Int × Int)) (sw : List (Int × Nat)) (df : Int) (t : Nat), sw.map (fun q => (q.1, (q.2 : Int))) = ps.map (fun q => (q.1, (pc : Int) + q.2)) → (pc : Int) + df = (t : Int) → zsw go x sw t → ∃ tgt : Nat, (pc : Int) + Op.lookupswitch.offset ps df x.toInt = (tgt : Int) ∧ go tgt
  | [], [], df, t, _, h2, h3 => ⟨t, h2, h3⟩
  | [], _ :: _, df, t, h1, _, _ => by simp at h1
  | _ :: _, [], df, t, h1, _, _ => by simp at h1
  | (k, o) :: ps, (k', u) :: sw, df, t, h1, h2, h3 => by
    simp only [List.map_cons, List.cons.injEq, Prod.mk.injEq] at h1
    obtain ⟨⟨rfl, ho⟩, hr⟩ := h1
    by_cases hx : x.toInt = k'
    · refine ⟨u, ?_, h3.1 hx⟩
      simp [Op.lookupswitch.offset, hx, ho]
    · obtain ⟨tgt, g1, g2⟩ := zlook ps sw df t hr h2 (h3.2 hx)
      refine ⟨tgt, ?_, g2⟩
      rw [← g1]
      simp [Op.lookupswitch.offset, Ne.symm hx]
theorem zPrim {X : zX} {f i kd len : Nat} (h : zar f i = some (kd, len)) : ∃ ty, (ztys X)[kd]? = some (X.2.2.1 kd, ty) := by
  obtain ⟨cnt, ht, -⟩ := zar_of h
  have h1 : zTab.all (fun e => match e.2 with
    | .inr (.inl q) => decide (q.1 = 0 ∨ q.1 = 1 ∨ q.1 = 2 ∨ q.1 = 3)
    | _ => true) = true := by decide +kernel
  have h2 := List.all_eq_true.mp h1 _ (List.mem_of_getElem? ht)
  simp only [decide_eq_true_eq] at h2
  rcases h2 with rfl | rfl | rfl | rfl
  · exact ⟨_, rfl⟩
  · exact ⟨_, rfl⟩
  · exact ⟨_, rfl⟩
  · exact ⟨_, rfl⟩
section ZC
variable {X : zX} {p : Program} {l : Launch} {e : Env} {R : Room} {s : State} {m : MethodId} {args : Array Value} {below : List Frame} {meth : Method} {c : Code} {cells slots : Nat} {Q : State → Prop}
variable {own : String} {cc : ByteArray} {nL d : Nat} {rt : Option FieldType}
def zW (X : zX) (p : Program) (l : Launch) (e : Env) (R : Room) (s : State) (m : MethodId) (args : Array Value) (below : List Frame) (meth : Method) (c : Code) (cells slots : Nat) (Q : State → Prop) (nL : Nat) (pc : Nat) (ls : List (Option zV)) (st : List zV) (μ : zMu) : Prop :=
  ∀ (H : Heap) (locs : List Loc) (la : Array Slot), zRep X μ s H → va_S (zA X) s.heap H locs → zLv X nL ls la → W p l e R s m args below meth c H locs cells slots Q (F0 m pc la (st.map (ztr X)))
set_option maxHeartbeats 4000000 in
set_option maxRecDepth 20000 in
theorem zs_core {go : Nat → List (Option zV) → List zV → zMu → Prop} {K : Option zV → zMu → Prop} {ls : List (Option zV)} {st : List zV} {μ : zMu} {en : zEn} (C : zCx X p R s m args meth c cells slots own cc nL d rt)
    (hi : ∀ (x : Int32) (μ' : zMu) (H : Heap) (locs : List Loc) (la : Array Slot) (pc : Nat), K (some (.inl x)) μ' → (rt = some .int ∨ (rt = some .boolean ∧ (x = 0 ∨ x = 1))) → zRep X μ' s H → va_S (zA X) s.heap H locs → decode cc pc = .ok (.ireturn, 1) → W p l e R s m args below meth c H locs cells slots Q (F0 m pc la [.int x]))
    (hv : ∀ (μ' : zMu) (H : Heap) (locs : List Loc) (la : Array Slot) (pc : Nat), K none μ' → rt = none → zRep X μ' s H → va_S (zA X) s.heap H locs → decode cc pc = .ok (.return_, 1) → W p l e R s m args below meth c H locs cells slots Q (F0 m pc la []))
    (hgo : ∀ (pc : Nat) (ls : List (Option zV)) (st : List zV) (μ : zMu), go pc ls st μ → zW X p l e R s m args below meth c cells slots Q nL pc ls st μ)
    (hc : zchk own cc en = true) (h : zdo X.2.2.2.2.2.1 X.2.2.2.2.2.2 rt (zCa d) K go en ls st μ) : zW X p l e R s m args below meth c cells slots Q nL en.1 ls st μ := by
  obtain ⟨pc, ins, len, a, b, cv, lv, sw, M, hh⟩ := en
  simp only [zchk, Bool.and_eq_true, decide_eq_true_eq] at hc
  obtain ⟨hdg, hlk⟩ := hc
  have C0 := C
  obtain ⟨hx, hb, hml, hown, hts, hr, hlocks, hst, hfr, hlo, hce, hsl⟩ := C
  intro H locs la hR hS hl
  have hkn : ∀ k, zok ls k = true → k < nL := fun k hk => by
    simp only [zok, Bool.and_eq_true, decide_eq_true_eq] at hk
    exact Nat.lt_of_lt_of_le hk.1 hl.1
  cases ins
  case iconst n =>
    simp only [zlink, Bool.and_eq_true, decide_eq_true_eq] at hlk
    obtain ⟨hlen, hlk⟩ := hlk
    subst hlen
    exact lv_iconst hx hb hdg hlk (hgo _ _ _ _ h H locs la hR hS hl)
  case bipush n =>
    simp only [zlink, Bool.and_eq_true, decide_eq_true_eq] at hlk
    obtain ⟨hlen, hlk⟩ := hlk
    subst hlen
    exact lv_bipush hx hb hdg hlk (hgo _ _ _ _ h H locs la hR hS hl)
  case sipush n =>
    simp only [zlink, Bool.and_eq_true, decide_eq_true_eq] at hlk
    obtain ⟨hlen, hlk⟩ := hlk
    subst hlen
    exact lv_sipush hx hb hdg hlk (hgo _ _ _ _ h H locs la hR hS hl)
  case lconst n =>
    simp only [zlink, Bool.and_eq_true, decide_eq_true_eq] at hlk
    obtain ⟨hlen, hlk⟩ := hlk
    subst hlen
    exact lv_lconst hx hb hdg hlk (hgo _ _ _ _ h H locs la hR hS hl)
  case ldc i =>
    simp only [zlink, Bool.and_eq_true, decide_eq_true_eq] at hlk
    obtain ⟨hlen, hlk⟩ := hlk
    subst hlen
    cases M with
    | none => exact lv_ldc hx hb hown (hts _ (zT_of hlk rfl)) hdg (hgo _ _ _ _ h H locs la hR hS hl)
    | some M =>
      simp only [Bool.and_eq_true, decide_eq_true_eq] at hlk
      obtain ⟨rfl, hz⟩ := hlk
      cases hz2 : zStr[a]? with
      | none => rw [hz2] at hz; cases hz
      | some q =>
        rw [hz2] at hz
        cases hz
        exact va_ldcS hx hb hown (hst.2.1 a q hz2) hdg (hgo _ _ _ _ h H locs la hR hS hl)
  case ldc_w i =>
    simp only [zlink, Bool.and_eq_true, decide_eq_true_eq] at hlk
    obtain ⟨hlen, hlk⟩ := hlk
    subst hlen
    exact lv_ldcw hx hb hown (hts _ (zT_of hlk rfl)) hdg (hgo _ _ _ _ h H locs la hR hS hl)
  case ldc2_w i =>
    simp only [zlink, Bool.and_eq_true, decide_eq_true_eq] at hlk
    obtain ⟨hlen, hlk⟩ := hlk
    subst hlen
    exact lv_ldc2 hx hb hown (hts _ (zT_of hlk rfl)) hdg (hgo _ _ _ _ h H locs la hR hS hl)
  case iload k =>
    simp only [zlink, decide_eq_true_eq] at hlk
    subst hlk
    dsimp only [zdo] at h
    split at h
    · rename_i x hq
      exact lv_iload hx hb hdg (zLv_at hl hq) (hgo _ _ _ _ h H locs la hR hS hl)
    · exact h.elim
  case iload_n k =>
    simp only [zlink, decide_eq_true_eq] at hlk
    subst hlk
    dsimp only [zdo] at h
    split at h
    · rename_i x hq
      exact lv_iload_n hx hb hdg rfl (zLv_at hl hq) (hgo _ _ _ _ h H locs la hR hS hl)
    · exact h.elim
  case lload k =>
    simp only [zlink, decide_eq_true_eq] at hlk
    subst hlk
    dsimp only [zdo] at h
    split at h
    · rename_i x hq
      exact lv_lload hx hb hdg (zLv_at hl hq) (hgo _ _ _ _ h H locs la hR hS hl)
    · exact h.elim
  case lload_n k =>
    simp only [zlink, decide_eq_true_eq] at hlk
    subst hlk
    dsimp only [zdo] at h
    split at h
    · rename_i x hq
      exact lv_lload_n hx hb hdg rfl (zLv_at hl hq) (hgo _ _ _ _ h H locs la hR hS hl)
    · exact h.elim
  case aload k =>
    simp only [zlink, decide_eq_true_eq] at hlk
    subst hlk
    dsimp only [zdo] at h
    split at h
    · rename_i x hq
      exact lv_aload hx hb hdg (zLv_at hl hq) (hgo _ _ _ _ h H locs la hR hS hl)
    · exact h.elim
  case aload_n k =>
    simp only [zlink, decide_eq_true_eq] at hlk
    subst hlk
    dsimp only [zdo] at h
    split at h
    · rename_i x hq
      exact lv_aload_n hx hb hdg rfl (zLv_at hl hq) (hgo _ _ _ _ h H locs la hR hS hl)
    · exact h.elim
  case istore k =>
    simp only [zlink, decide_eq_true_eq] at hlk
    subst hlk
    dsimp only [zdo] at h
    split at h
    · exact lv_istore hx hb hdg hl.2 (hkn _ h.1) rfl (fun ls' hl' => hgo _ _ _ _ h.2 H locs ls' hR hS (zLv_set hl h.1 rfl hl'))
    · exact h.elim
  case istore_n k =>
    simp only [zlink, decide_eq_true_eq] at hlk
    subst hlk
    dsimp only [zdo] at h
    split at h
    · exact lv_istore_n hx hb hdg rfl hl.2 (hkn _ h.1) rfl (fun ls' hl' => hgo _ _ _ _ h.2 H locs ls' hR hS (zLv_set hl h.1 rfl hl'))
    · exact h.elim
  case astore k =>
    simp only [zlink, decide_eq_true_eq] at hlk
    subst hlk
    dsimp only [zdo] at h
    split at h
    · exact lv_astore hx hb hdg hl.2 (hkn _ h.1) rfl (fun ls' hl' => hgo _ _ _ _ h.2 H locs ls' hR hS (zLv_set hl h.1 rfl hl'))
    · exact h.elim
  case astore_n k =>
    simp only [zlink, decide_eq_true_eq] at hlk
    subst hlk
    dsimp only [zdo] at h
    split at h
    · exact lv_astore_n hx hb hdg rfl hl.2 (hkn _ h.1) rfl (fun ls' hl' => hgo _ _ _ _ h.2 H locs ls' hR hS (zLv_set hl h.1 rfl hl'))
    · exact h.elim
  case iinc k n =>
    simp only [zlink, Bool.and_eq_true, decide_eq_true_eq] at hlk
    obtain ⟨hlen, hcv⟩ := hlk
    subst hlen
    dsimp only [zdo] at h
    split at h
    · rename_i x hq
      obtain ⟨j, hj⟩ := List.getElem?_of_mem ((zlv_mem (X := X) ls 0 (k, .int x)).mpr ⟨k, .inl x, hq, by rw [Nat.zero_add]; rfl⟩)
      exact lv_iinc hx hb hdg hl.2 hj (by rw [hcv]) (hkn _ h.1) rfl (fun ls' hl' => hgo _ _ _ _ h.2 H locs ls' hR hS (zLv_set hl h.1 rfl hl'))
    · exact h.elim
  case iadd =>
    simp only [zlink, decide_eq_true_eq] at hlk
    subst hlk
    dsimp only [zdo] at h
    split at h
    · exact lv_iadd hx hb hdg (hgo _ _ _ _ h H locs la hR hS hl)
    · exact h.elim
  case isub =>
    simp only [zlink, decide_eq_true_eq] at hlk
    subst hlk
    dsimp only [zdo] at h
    split at h
    · exact lv_isub hx hb hdg (hgo _ _ _ _ h H locs la hR hS hl)
    · exact h.elim
  case imul =>
    simp only [zlink, decide_eq_true_eq] at hlk
    subst hlk
    dsimp only [zdo] at h
    split at h
    · exact lv_imul hx hb hdg (hgo _ _ _ _ h H locs la hR hS hl)
    · exact h.elim
  case iand =>
    simp only [zlink, decide_eq_true_eq] at hlk
    subst hlk
    dsimp only [zdo] at h
    split at h
    · exact lv_iand hx hb hdg (hgo _ _ _ _ h H locs la hR hS hl)
    · exact h.elim
  case ior =>
    simp only [zlink, decide_eq_true_eq] at hlk
    subst hlk
    dsimp only [zdo] at h
    split at h
    · exact lv_ior hx hb hdg (hgo _ _ _ _ h H locs la hR hS hl)
    · exact h.elim
  case ineg =>
    simp only [zlink, decide_eq_true_eq] at hlk
    subst hlk
    dsimp only [zdo] at h
    split at h
    · exact lv_ineg hx hb hdg (hgo _ _ _ _ h H locs la hR hS hl)
    · exact h.elim
  case ishl =>
    simp only [zlink, decide_eq_true_eq] at hlk
    subst hlk
    dsimp only [zdo] at h
    split at h
    · exact lv_ishl hx hb hdg (hgo _ _ _ _ h H locs la hR hS hl)
    · exact h.elim
  case ishr =>
    simp only [zlink, decide_eq_true_eq] at hlk
    subst hlk
    dsimp only [zdo] at h
    split at h
    · exact lv_ishr hx hb hdg (hgo _ _ _ _ h H locs la hR hS hl)
    · exact h.elim
  case iushr =>
    simp only [zlink, decide_eq_true_eq] at hlk
    subst hlk
    dsimp only [zdo] at h
    split at h
    · exact lv_iushr hx hb hdg rfl (hgo _ _ _ _ h H locs la hR hS hl)
    · exact h.elim
  case i2l =>
    simp only [zlink, decide_eq_true_eq] at hlk
    subst hlk
    dsimp only [zdo] at h
    split at h
    · exact lv_i2l hx hb hdg rfl (hgo _ _ _ _ h H locs la hR hS hl)
    · exact h.elim
  case l2i =>
    simp only [zlink, decide_eq_true_eq] at hlk
    subst hlk
    dsimp only [zdo] at h
    split at h
    · exact lv_l2i hx hb hdg rfl (hgo _ _ _ _ h H locs la hR hS hl)
    · exact h.elim
  case i2b =>
    simp only [zlink, decide_eq_true_eq] at hlk
    subst hlk
    dsimp only [zdo] at h
    split at h
    · exact lv_i2b hx hb hdg rfl (hgo _ _ _ _ h H locs la hR hS hl)
    · exact h.elim
  case land =>
    simp only [zlink, decide_eq_true_eq] at hlk
    subst hlk
    dsimp only [zdo] at h
    split at h
    · exact lv_land hx hb hdg (hgo _ _ _ _ h H locs la hR hS hl)
    · exact h.elim
  case lor =>
    simp only [zlink, decide_eq_true_eq] at hlk
    subst hlk
    dsimp only [zdo] at h
    split at h
    · exact lv_lor hx hb hdg (hgo _ _ _ _ h H locs la hR hS hl)
    · exact h.elim
  case lshl =>
    simp only [zlink, decide_eq_true_eq] at hlk
    subst hlk
    dsimp only [zdo] at h
    split at h
    · exact lv_lshl hx hb hdg rfl (hgo _ _ _ _ h H locs la hR hS hl)
    · exact h.elim
  case lshr =>
    simp only [zlink, decide_eq_true_eq] at hlk
    subst hlk
    dsimp only [zdo] at h
    split at h
    · exact lv_lshr hx hb hdg rfl (hgo _ _ _ _ h H locs la hR hS hl)
    · exact h.elim
  case lushr =>
    simp only [zlink, decide_eq_true_eq] at hlk
    subst hlk
    dsimp only [zdo] at h
    split at h
    · exact lv_lushr hx hb hdg rfl (hgo _ _ _ _ h H locs la hR hS hl)
    · exact h.elim
  case lcmp =>
    simp only [zlink, decide_eq_true_eq] at hlk
    subst hlk
    dsimp only [zdo] at h
    split at h
    · exact W.lcmp hx hb hdg (hgo _ _ _ _ h H locs la hR hS hl)
    · exact h.elim
  case dup =>
    simp only [zlink, decide_eq_true_eq] at hlk
    subst hlk
    dsimp only [zdo] at h
    split at h
    · exact lv_dup hx hb hdg rfl (hgo _ _ _ _ h H locs la hR hS hl)
    · exact lv_dup hx hb hdg rfl (hgo _ _ _ _ h H locs la hR hS hl)
    · exact h.elim
  case dup2 =>
    simp only [zlink, decide_eq_true_eq] at hlk
    subst hlk
    dsimp only [zdo] at h
    split at h
    · exact lv_dup2_11 hx hb hdg rfl rfl (hgo _ _ _ _ h H locs la hR hS hl)
    · exact h.elim
  case pop =>
    simp only [zlink, decide_eq_true_eq] at hlk
    subst hlk
    dsimp only [zdo] at h
    split at h
    · exact lv_pop hx hb hdg rfl (hgo _ _ _ _ h H locs la hR hS hl)
    · exact h.elim
  case goto o =>
    simp only [zlink, Bool.and_eq_true, decide_eq_true_eq] at hlk
    obtain ⟨hlen, ht⟩ := hlk
    subst hlen
    exact lv_goto hx hb hdg ht (hgo _ _ _ _ h H locs la hR hS hl)
  case ifCond cd o =>
    simp only [zlink, Bool.and_eq_true, decide_eq_true_eq] at hlk
    obtain ⟨hlen, ht⟩ := hlk
    subst hlen
    dsimp only [zdo] at h
    split at h
    · cases cd
      · exact lv_if_eq hx hb hdg ht (fun q => hgo _ _ _ _ (h.1 q) H locs la hR hS hl) (fun q => hgo _ _ _ _ (h.2 q) H locs la hR hS hl)
      · exact lv_if_ne hx hb hdg ht (fun q => hgo _ _ _ _ (h.1 q) H locs la hR hS hl) (fun q => hgo _ _ _ _ (h.2 q) H locs la hR hS hl)
      · exact lv_if_lt hx hb hdg ht (fun q => hgo _ _ _ _ (h.1 q) H locs la hR hS hl) (fun q => hgo _ _ _ _ (h.2 q) H locs la hR hS hl)
      · exact lv_if_ge hx hb hdg ht (fun q => hgo _ _ _ _ (h.1 q) H locs la hR hS hl) (fun q => hgo _ _ _ _ (h.2 q) H locs la hR hS hl)
      · exact lv_if_gt hx hb hdg ht (fun q => hgo _ _ _ _ (h.1 q) H locs la hR hS hl) (fun q => hgo _ _ _ _ (h.2 q) H locs la hR hS hl)
      · exact lv_if_le hx hb hdg ht (fun q => hgo _ _ _ _ (h.1 q) H locs la hR hS hl) (fun q => hgo _ _ _ _ (h.2 q) H locs la hR hS hl)
    · exact h.elim
  case if_icmp cd o =>
    simp only [zlink, Bool.and_eq_true, decide_eq_true_eq] at hlk
    obtain ⟨hlen, ht⟩ := hlk
    subst hlen
    dsimp only [zdo] at h
    split at h
    · cases cd
      · exact lv_icmp_eq hx hb hdg ht (fun q => hgo _ _ _ _ (h.1 q) H locs la hR hS hl) (fun q => hgo _ _ _ _ (h.2 q) H locs la hR hS hl)
      · exact lv_icmp_ne hx hb hdg ht (fun q => hgo _ _ _ _ (h.1 q) H locs la hR hS hl) (fun q => hgo _ _ _ _ (h.2 q) H locs la hR hS hl)
      · exact lv_icmp_lt hx hb hdg ht (fun q => hgo _ _ _ _ (h.1 q) H locs la hR hS hl) (fun q => hgo _ _ _ _ (h.2 q) H locs la hR hS hl)
      · exact lv_icmp_ge hx hb hdg ht (fun q => hgo _ _ _ _ (h.1 q) H locs la hR hS hl) (fun q => hgo _ _ _ _ (h.2 q) H locs la hR hS hl)
      · exact lv_icmp_gt hx hb hdg ht (fun q => hgo _ _ _ _ (h.1 q) H locs la hR hS hl) (fun q => hgo _ _ _ _ (h.2 q) H locs la hR hS hl)
      · exact lv_icmp_le hx hb hdg ht (fun q => hgo _ _ _ _ (h.1 q) H locs la hR hS hl) (fun q => hgo _ _ _ _ (h.2 q) H locs la hR hS hl)
    · exact h.elim
  case tableswitch df lo hi' offs =>
    simp only [zlink, Bool.and_eq_true, decide_eq_true_eq, List.all_eq_true, List.mem_range] at hlk
    obtain ⟨⟨⟨⟨ht, hn1⟩, hn2⟩, hn3⟩, hall⟩ := hlk
    dsimp only [zdo] at h
    split at h
    · rename_i x r
      obtain ⟨g1, g2⟩ := zsw_of h
      have key : ∀ j, j < sw.length → ∃ (t : Nat) (o : Int), sw[j]? = some (lo + j, t) ∧ offs[j]? = some o ∧ (pc : Int) + o = (t : Int) := by
        intro j hj
        have := hall j hj
        split at this
        · rename_i k t o e1 e2
          simp only [Bool.and_eq_true, decide_eq_true_eq] at this
          exact ⟨t, o, by rw [e1, this.1], e2, this.2⟩
        · cases this
      by_cases hlo1 : x.toInt < lo
      · exact lv_tableOut hx hb hdg (Or.inl hlo1) ht (hgo _ _ _ _ (g2 (fun j k u hj hk => by
          have hjl : j < sw.length := (List.getElem?_eq_some_iff.mp hj).1
          obtain ⟨t, o, e1, -⟩ := key j hjl
          rw [hj] at e1
          cases e1
          omega)) H locs la hR hS hl)
      · by_cases hhi1 : hi' < x.toInt
        · exact lv_tableOut hx hb hdg (Or.inr hhi1) ht (hgo _ _ _ _ (g2 (fun j k u hj hk => by
            have hjl : j < sw.length := (List.getElem?_eq_some_iff.mp hj).1
            obtain ⟨t, o, e1, -⟩ := key j hjl
            rw [hj] at e1
            cases e1
            omega)) H locs la hR hS hl)
        · have hjl : (x.toInt - lo).toNat < sw.length := by omega
          obtain ⟨t, o, e1, e2, e3⟩ := key _ hjl
          refine lv_tableIn hx hb hdg hlo1 hhi1 e2 e3 (hgo _ _ _ _ (g1 _ _ t e1 (by omega) (fun i k' u' hi hk' hxk => ?_)) H locs la hR hS hl)
          obtain ⟨t2, o2, e4, -⟩ := key i (by omega)
          rw [hk'] at e4
          cases e4
          omega
    · exact h.elim
  case lookupswitch df ps =>
    simp only [zlink, Bool.and_eq_true, decide_eq_true_eq] at hlk
    obtain ⟨⟨ht, hord⟩, hsw⟩ := hlk
    dsimp only [zdo] at h
    split at h
    · rename_i x r
      obtain ⟨tgt, e1, e2⟩ := zlook ps.toList sw df a hsw ht h
      exact lv_lookup hx hb hdg hord rfl e1 (hgo _ _ _ _ e2 H locs la hR hS hl)
    · exact h.elim
  case getfield i =>
    simp only [zlink, Bool.and_eq_true, decide_eq_true_eq] at hlk
    obtain ⟨hlen, hlk⟩ := hlk
    subst hlen
    dsimp only [zdo] at h
    split at h
    · rename_i f n r
      split at h
      · rename_i cnt ci fs ht
        obtain ⟨hn, rfl, h⟩ := h
        split at hlk
        · rename_i Cn T N hcl
          simp only [Bool.and_eq_true, decide_eq_true_eq] at hlk
          split at h
          · rename_i hf
            exact zs_get C0 hR ht hn hcl hlk.1 (zT_of hlk.2 rfl) hf hdg (hgo _ _ _ _ h H locs la hR hS hl)
          · rename_i g hf
            exact zs_get C0 hR ht hn hcl hlk.1 (zT_of hlk.2 rfl) hf hdg (hgo _ _ _ _ h H locs la hR hS hl)
          · exact h.elim
        · cases hlk
      · exact h.elim
    · exact h.elim
  case putfield i =>
    simp only [zlink, Bool.and_eq_true, decide_eq_true_eq] at hlk
    obtain ⟨hlen, hlk⟩ := hlk
    subst hlen
    dsimp only [zdo] at h
    split at h
    · rename_i x f n r
      split at h
      · rename_i cnt ci fs ht
        obtain ⟨hn, rfl, hf, hx01, h⟩ := h
        split at hlk
        · rename_i Cn T N hcl
          simp only [Bool.and_eq_true, Bool.or_eq_true, decide_eq_true_eq, Bool.not_eq_true'] at hlk
          obtain ⟨⟨⟨hbN, hw⟩, hfin⟩, hty⟩ := hlk
          refine zs_put C0 hR hS ht hn hcl hbN (zT_of hw rfl) hfin hf ?_ hdg (fun H1 locs1 hR1 hS1 => hgo _ _ _ _ h H1 locs1 la hR1 hS1 hl)
          rcases hty with hty | ⟨hty, hcv⟩
          · exact Or.inl hty
          · refine Or.inr ⟨hty, ?_⟩
            rcases hx01 with h0 | h0
            · rw [hcv] at h0
              exact absurd h0 (by decide)
            · exact h0
        · cases hlk
      · exact h.elim
    · exact h.elim
  case arraylength =>
    simp only [zlink, decide_eq_true_eq] at hlk
    subst hlk
    dsimp only [zdo] at h
    split at h
    · rename_i f i r
      split at h
      · rename_i hf
        subst hf
        obtain ⟨rfl, h⟩ := h
        obtain ⟨-, -, -, s4, s5, s6, -⟩ := hst
        exact va_slen hx hb s4 s5 s6 hS hdg (hgo _ _ _ _ h H locs la hR hS hl)
      · split at h
        · rename_i cnt kd len hz
          obtain ⟨hi, h⟩ := h
          have hz := zam_zar hz hi
          obtain ⟨k, hk, he⟩ := zar_at (X := X) (μ := μ) hz
          obtain ⟨ty, hty⟩ := zPrim (X := X) hz
          exact va_alen hx hb hR.1 hR.2.1 k kd he hty rfl hdg (hgo _ _ _ _ h H locs la hR hS hl)
        · exact h.elim
    · exact h.elim
  case iaload =>
    simp only [zlink, decide_eq_true_eq] at hlk
    subst hlk
    dsimp only [zdo] at h
    split at h
    · rename_i j f i r
      split at h
      · rename_i hf
        subst hf
        obtain ⟨rfl, hin, h⟩ := h
        obtain ⟨-, -, -, s4, s5, s6, -⟩ := hst
        exact va_sld hx hb s4 s5 s6 hS hin hdg (hgo _ _ _ _ h H locs la hR hS hl)
      · split at h
        · rename_i cnt len hz
          obtain ⟨hi, h⟩ := h
          have hz := zam_zar hz hi
          obtain ⟨k, hk, he⟩ := zar_at (X := X) (μ := μ) hz
          exact va_iald hx hb hR.1 hR.2.1 k 0 he rfl h.1 hdg (hgo _ _ _ _ h.2 H locs la hR hS hl)
        · exact h.elim
    · exact h.elim
  case baload =>
    simp only [zlink, decide_eq_true_eq] at hlk
    subst hlk
    dsimp only [zdo] at h
    split at h
    · rename_i j f i r
      split at h
      · rename_i cnt len hz
        obtain ⟨hi, h⟩ := h
        have hz := zam_zar hz hi
        obtain ⟨k, hk, he⟩ := zar_at (X := X) (μ := μ) hz
        exact va_zald hx hb hR.1 hR.2.1 k 1 he rfl h.1 hdg (hgo _ _ _ _ h.2 H locs la hR hS hl)
      · rename_i cnt len hz
        obtain ⟨hi, h⟩ := h
        have hz := zam_zar hz hi
        obtain ⟨k, hk, he⟩ := zar_at (X := X) (μ := μ) hz
        exact va_bald hx hb hR.1 hR.2.1 k 2 he rfl h.1 hdg (hgo _ _ _ _ h.2 H locs la hR hS hl)
      · exact h.elim
    · exact h.elim
  case caload =>
    simp only [zlink, decide_eq_true_eq] at hlk
    subst hlk
    dsimp only [zdo] at h
    split at h
    · rename_i j f i r
      split at h
      · rename_i cnt len hz
        obtain ⟨hi, h⟩ := h
        have hz := zam_zar hz hi
        obtain ⟨k, hk, he⟩ := zar_at (X := X) (μ := μ) hz
        exact va_cald hx hb hR.1 hR.2.1 k 3 he rfl h.1 hdg (hgo _ _ _ _ h.2 H locs la hR hS hl)
      · exact h.elim
    · exact h.elim
  case aaload =>
    simp only [zlink, decide_eq_true_eq] at hlk
    subst hlk
    dsimp only [zdo] at h
    split at h
    · rename_i j f i r
      split at h
      · rename_i cnt kd len g ht
        exact zs_aald C0 hR ht h.1 h.2.1 hdg (hgo _ _ _ _ h.2.2 H locs la hR hS hl)
      · exact h.elim
    · exact h.elim
  case iastore =>
    simp only [zlink, decide_eq_true_eq] at hlk
    subst hlk
    dsimp only [zdo] at h
    split at h
    · rename_i x j f i r
      split at h
      · rename_i cnt len hz
        obtain ⟨hi, h⟩ := h
        have hz := zam_zar hz hi
        obtain ⟨k, hk, he⟩ := zar_at (X := X) (μ := μ) hz
        refine va_iast hx hb hR.1 hR.2.1 hR.2.2 hS k 0 he rfl h.1 hdg (fun H1 locs1 hP1 hD1 hS1 => ?_)
        rw [zar_set hz hk] at hP1 hD1
        exact hgo _ _ _ _ h.2 H1 locs1 la ⟨hR.1, hP1, hD1⟩ hS1 hl
      · exact h.elim
    · exact h.elim
  case bastore =>
    simp only [zlink, decide_eq_true_eq] at hlk
    subst hlk
    dsimp only [zdo] at h
    split at h
    · rename_i x j f i r
      split at h
      · rename_i cnt len hz
        obtain ⟨hi, h⟩ := h
        have hz := zam_zar hz hi
        obtain ⟨k, hk, he⟩ := zar_at (X := X) (μ := μ) hz
        refine va_zast hx hb hR.1 hR.2.1 hR.2.2 hS k 1 he rfl h.1 hdg (fun H1 locs1 hP1 hD1 hS1 => ?_)
        rw [zar_set hz hk] at hP1 hD1
        exact hgo _ _ _ _ h.2 H1 locs1 la ⟨hR.1, hP1, hD1⟩ hS1 hl
      · rename_i cnt len hz
        obtain ⟨hi, h⟩ := h
        have hz := zam_zar hz hi
        obtain ⟨k, hk, he⟩ := zar_at (X := X) (μ := μ) hz
        refine va_bast hx hb hR.1 hR.2.1 hR.2.2 hS k 2 he rfl h.1 hdg (fun H1 locs1 hP1 hD1 hS1 => ?_)
        rw [zar_set hz hk] at hP1 hD1
        exact hgo _ _ _ _ h.2 H1 locs1 la ⟨hR.1, hP1, hD1⟩ hS1 hl
      · exact h.elim
    · exact h.elim
  case invokevirtual i =>
    simp only [zlink, Bool.and_eq_true, decide_eq_true_eq] at hlk
    obtain ⟨hlen, hlk⟩ := hlk
    subst hlen
    cases M with
    | none => exact h.elim
    | some M =>
      obtain ⟨y, bt, mL, rt'⟩ := M
      simp only [Bool.and_eq_true, decide_eq_true_eq] at hlk
      obtain ⟨⟨⟨⟨⟨⟨⟨⟨⟨w0, w1⟩, w2⟩, w3⟩, w4⟩, hcn⟩, n1⟩, n2⟩, hpar⟩, hmL⟩ := hlk
      dsimp only [zdo] at h
      split at h
      · rename_i f n r hdr
        obtain ⟨hrc, hsum, hcall⟩ := h
        have hblen : b ≤ st.length := by
          rcases Nat.lt_or_ge st.length b with q | q
          · rw [List.drop_eq_nil_of_le (Nat.le_of_lt q)] at hdr
            cases hdr
          · exact q
        have hst2 : st.map (ztr X) = (((st.take b).reverse.map (ztr X)).reverse ++ .ref (X.1 f n) :: r.map (ztr X)) := by
          conv => lhs; rw [← List.take_append_drop b st, hdr]
          simp [ztr]
        have hrecv : ∃ cellB : Cell, H[X.1 f n]? = some cellB ∧ cellB.vm.isStatics = false ∧ s.vm.findClass y.cls = some cellB.cls := by
          split at hrc
          · rename_i hf
            subst hf
            rw [hcn, hrc.1]
            exact vk_recv hst.1 hrc.2 hS
          · split at hrc
            · rename_i cnt ci fs ht
              obtain ⟨hn, rfl⟩ := hrc
              obtain ⟨k, hk⟩ := List.getElem?_of_mem (zAll_mem ht hn)
              have he := zWs_at (X := X) (μ := μ) hk
              rw [zE_obj ht] at he
              have hci : ∃ q, zcl[ci]? = some q := by
                obtain ⟨q', h1, -⟩ := hR.2.1 k _ he
                exact ⟨q', h1⟩
              obtain ⟨q, hq⟩ := hci
              have hq1 : y.cls = q.1 := by
                rw [hcn]
                have h50 : ci ≠ 50 := by
                  intro h5
                  subst h5
                  cases hq
                simp [zcn, h50, hq]
              rw [hq1]
              exact va_recv hR.1 hR.2.1 hq he
            · exact hrc.elim
        rw [hst2]
        exact zs_virt (M := (y, bt, mL, rt')) C0 hR hS hl hrecv (zT_of w0 rfl) (zT_of w1 rfl) (zT_of w2 rfl) (zT_of w3 rfl) (zT_of w4 rfl) ⟨n1, n2, by rw [hpar, List.length_reverse, List.length_take, Nat.min_eq_left hblen]⟩ hmL hsum hcall hdg (fun q μ' H1 locs1 hk hR1 hS1 => hgo _ _ _ _ hk H1 locs1 la hR1 hS1 hl)
      · exact h.elim
  case invokestatic i =>
    simp only [zlink, Bool.and_eq_true, decide_eq_true_eq] at hlk
    obtain ⟨hlen, hlk⟩ := hlk
    subst hlen
    cases M with
    | none =>
      simp only [Bool.and_eq_true] at hlk
      obtain ⟨⟨⟨w0, w1⟩, w2⟩, w3⟩ := hlk
      dsimp only [zdo] at h
      split at h
      · rename_i n dp f1 i1 sp f0 i0 r
        split at h
        · rename_i cnt0 n0 cnt1 n1 hz0 hz1
          obtain ⟨b0, b1, h⟩ := h
          have hz0 := zam_zar hz0 b0
          have hz1 := zam_zar hz1 b1
          obtain ⟨a1, a2, a3, a4, a5, a6, h⟩ := h
          obtain ⟨k0, hk0, he0⟩ := zar_at (X := X) (μ := μ) hz0
          obtain ⟨k1, hk1, he1⟩ := zar_at (X := X) (μ := μ) hz1
          obtain ⟨cnt1, ht1, -⟩ := zar_of hz1
          refine va_copyi hx hb (hml.trans hl.2.1.symm) hown (hts _ (zT_of w0 rfl)) (hts _ (zT_of w1 rfl)) (hts _ (zT_of w2 rfl)) (hts _ (zT_of w3 rfl)) hR.1 hR.2.1 hR.2.2 hS k0 k1 0 0 he0 he1 rfl rfl rfl a1 a2 a3 a4 a5 (fun _ _ => rfl) (by omega) ?_ hdg (fun H1 locs1 hP1 hD1 hS1 => ?_)
          · rw [zcat_sum, show nativeFrameWords "java/lang/System" "arraycopy" 5 = 7 from rfl]
            omega
          · have hse : (zWs X μ).set k1 (X.1 f1 i1, (Sum.inl (X.2.2.1 0, n1, Sum.inl (va_cpy (μ f0 i0) (μ f1 i1) sp.toNatClampNeg dp.toNatClampNeg n.toNatClampNeg)) : va_E)) = zWs X (fun f i k => if f = f1 ∧ i = i1 ∧ dp.toNatClampNeg ≤ k ∧ k < dp.toNatClampNeg + n.toNatClampNeg then μ f0 i0 (sp.toNatClampNeg + (k - dp.toNatClampNeg)) else μ f i k) := by
              refine zWs_set hk1 ?_ (fun n' hn' => zE_ne (fun k => ?_))
              · rw [zE_arr ht1]
                congr 4
                funext k
                simp [va_cpy]
              · rw [if_neg]
                rintro ⟨q1, q2, -⟩
                exact hn' (Prod.ext q1 q2)
            rw [hse] at hP1 hD1
            exact hgo _ _ _ _ h H1 locs1 la ⟨hR.1, hP1, hD1⟩ hS1 hl
        · exact h.elim
      · exact h.elim
    | some M =>
      obtain ⟨y, bt, mL, rt'⟩ := M
      simp only [Bool.and_eq_true, decide_eq_true_eq] at hlk
      obtain ⟨⟨⟨⟨⟨⟨⟨w0, w1⟩, w2⟩, w3⟩, n1⟩, n2⟩, hpar⟩, hmL⟩ := hlk
      obtain ⟨hblen, hsum, hcall⟩ := h
      have hst2 : st.map (ztr X) = (((st.take b).reverse.map (ztr X)).reverse ++ (st.drop b).map (ztr X)) := by
        conv => lhs; rw [← List.take_append_drop b st]
        simp
      rw [hst2]
      exact zs_stat (M := (y, bt, mL, rt')) C0 hR hS hl (zT_of w0 rfl) (zT_of w1 rfl) (zT_of w2 rfl) (zT_of w3 rfl) ⟨n1, n2, by rw [hpar, List.length_reverse, List.length_take, Nat.min_eq_left hblen]⟩ hmL hsum hcall hdg (fun q μ' H1 locs1 hk hR1 hS1 => hgo _ _ _ _ hk H1 locs1 la hR1 hS1 hl)
  case ireturn =>
    simp only [zlink, decide_eq_true_eq] at hlk
    subst hlk
    dsimp only [zdo] at h
    split at h
    · exact hi _ μ H locs la pc h.2 h.1 hR hS hdg
    · exact h.elim
  case return_ =>
    simp only [zlink, decide_eq_true_eq] at hlk
    subst hlk
    dsimp only [zdo] at h
    split at h
    · exact hv μ H locs la pc h.2 h.1 hR hS hdg
    · exact h.elim
  all_goals exact False.elim h
end ZC
