/-! CONSTRUCTORS: from a run of the interpreter to a contract -/
def yCx (X : zX) (p : Program) (s : State) (m : MethodId) (args : Array Value) (meth : Method) (c : Code) (M : zMth) : Prop :=
  p.tables.exec = Jvm.exec ∧ c.code = M.2.1 ∧ c.maxLocals = M.2.2.1 ∧ s.vm.findClass M.1.cls = some m.cls ∧ (∀ w ∈ zT, w.before args s = true) ∧ meth.sig.returnType = none ∧ meth.locks = false ∧ meth.name = "<init>" ∧ yNw s
def yGo (T : List yMt) (X : zX) (fu : Nat) : Prop := ∀ (mi pc : Nat) (ls : List (Option zV)) (st : List zV) (ws ws' : List yC) (ce sl : Nat) (M : zMth) (P : List yEn) (mc ms dp : Nat), T[mi]? = some (M, P, mc, ms, dp) → yex T fu mi pc ls st ws ce sl = some ws' → ∀ (p : Program) (l : Launch) (e : Env) (s : State) (m : MethodId) (args : Array Value) (below : List Frame) (meth : Method) (c : Code) (H : Heap) (locs : List Loc) (la : Array Slot), yCx X p s m args meth c M → yRep X ws s H → va_S (zA X) s.heap H locs → zLv X M.2.2.1 ls la → W p l e (yrm dp mc ms) s m args below meth c H locs ce sl (MQ below (yQc X ws') args s mc ms (zA X)) (F0 m pc la (st.map (ztr X)))
theorem yMet {T : List yMt} {X : zX} {fu mi : Nat} (hT : yOK T = true) (hg : yGo T X fu) {as : List zV} {ws ws' : List yC} {M : zMth} {P : List yEn} {mc ms dp : Nat} (hmi : T[mi]? = some (M, P, mc, ms, dp)) (hn : (zin as).length ≤ M.2.2.1) (h : yex T fu mi 0 (zls M.2.2.1 as) [] ws 0 0 = some ws') (l : Launch) : Met l M.1 (zws M) (yrm dp mc ms) (yPc X as ws) (yQc X ws') mc ms (zA X) := by
  have hq := List.all_eq_true.mp hT _ (List.mem_of_getElem? hmi)
  simp only [Bool.and_eq_true, decide_eq_true_eq] at hq
  obtain ⟨⟨⟨-, hy⟩, hret⟩, hnm⟩ := hq
  refine Met.ofW (cc := M.2.1) (maxL := M.2.2.1) (ret := M.2.2.2) hy rfl ?_
  intro p e s m args below meth c s₁ B hml hv
  obtain ⟨rfl, hN, hR⟩ := hv
  have hts := atoms_spec (ws := zws M) B.pre
  have hown : s.vm.findClass M.1.cls = some m.cls := findClass_of_methodNamed B.named
  have hname : meth.name = "<init>" := (name_of_methodNamed B.named B.method).1.trans hnm
  have C : yCx X p s m (as.map (ztr X)).toArray meth c M := ⟨B.exec, B.bytes, hml, hown, fun w hw => hts w (List.mem_cons_of_mem _ hw), B.returns.trans hret, B.notSynchronized, hname, hN⟩
  have hl := lv_entry (as.map (ztr X)) (n := M.2.2.1) (by rw [zin_len]; exact hn)
  rw [lg_entry_eq]
  refine hg mi 0 _ [] ws ws' 0 0 M P mc ms dp hmi h p l e s m _ below meth c s.heap [] _ C hR va_S.rf ⟨?_, hl.1, hl.2.1, fun q hq => hl.2.2 q (zin_lv as 0 _ q hq)⟩
  rw [zls, List.length_append, List.length_replicate]
  omega
section YB
variable {X : zX} {p : Program} {l : Launch} {e : Env} {R : Room} {s : State} {m : MethodId} {args : Array Value} {below : List Frame} {meth : Method} {c : Code} {Q : State → Prop} {H : Heap} {locs : List Loc} {la : Array Slot} {pc ce sl mc ms : Nat} {rest st0 : List Value} {ws1 : List yC} {a : Array Value}
theorem y_back (hr : va_Run p l e R s m args below meth c H locs ce sl mc ms (F0 m pc la st0) rest (yQc X ws1 a) (zA X)) (hS : va_S (zA X) s.heap H locs)
    (kk : ∀ (H1 : Heap) (locs1 : List Loc), yRep X ws1 s H1 → va_S (zA X) s.heap H1 locs1 → W p l e R s m args below meth c H1 locs1 (ce + mc) (sl + ms) Q (F0 m (pc + 3) la rest)) : W p l e R s m args below meth c H locs ce sl Q (F0 m pc la st0) := by
  intro T hT Z
  obtain ⟨v, st₀, t, T', L, h0, Z', hL, e1, e2, ⟨⟨hv, hrep⟩, hz, hkeep⟩, st⟩ := hr T hT Z
  rw [h0] at hz hkeep
  have hal : s.vm.Alike t.vm := by rw [← e2]; exact Z'.warmed.alike
  have hrep' : yRep X ws1 s T'.heap := by rw [e1]; exact yRmov hal.symm hrep
  have hS' : va_S (zA X) s.heap T'.heap (locs ++ L) := ⟨Nat.le_trans hS.1 (by rw [e1]; exact hz), fun a h1 h2 => by rw [e1, hkeep a (Nat.lt_of_lt_of_le h1 hS.1) h2]; exact hS.2.1 a h1 h2, fun a ha => by
    rcases List.mem_append.mp ha with h | h
    · exact hS.2.2 a h
    · exact hL a h⟩
  obtain ⟨t2, a1, b1⟩ := kk T'.heap (locs ++ L) hrep' hS' T' rfl Z'
  refine ⟨t2, st t2 ?_, b1⟩
  cases hv
  exact a1
end YB
set_option maxHeartbeats 4000000 in
set_option maxRecDepth 20000 in
theorem ysound {T : List yMt} (hT : yOK T = true) {X : zX} (hX : ∀ k, X.1 300 k = X.2.2.2.1 + k) : ∀ fu, yGo T X fu
  | 0 => by
    intro mi pc ls st ws ws' ce sl M P mc ms dp hmi h
    rw [yex.eq_def] at h
    cases h
  | fu + 1 => by
    have ih := ysound hT hX fu
    intro mi pc ls st ws ws' ce sl M P mc ms dp hmi h p l e s m args below meth c H locs la C hR hS hl
    have C0 := C
    obtain ⟨hx, hb, hml, hown, hts, hr, hlocks, hname, hN⟩ := C
    have zRx : ∀ k, ztr X (zR 300 k) = .ref (X.2.2.2.1 + k) := fun k => congrArg Value.ref (hX k)
    rw [yex.eq_def] at h
    dsimp only at h
    rw [hmi] at h
    dsimp only at h
    cases hfe : P.find? (fun e => Nat.beq e.1 pc) with
    | none =>
      rw [hfe] at h
      cases h
    | some en =>
    obtain ⟨pc', ins, len, a, b, cv, mj, hh⟩ := en
    rw [hfe] at h
    dsimp only at h
    have hmem := List.mem_of_find?_eq_some hfe
    have hpc : pc' = pc := Nat.eq_of_beq_eq_true (show Nat.beq pc' pc = true from List.find?_some (p := fun e : yEn => Nat.beq e.1 pc) hfe)
    subst hpc
    have hq := List.all_eq_true.mp hT _ (List.mem_of_getElem? hmi)
    simp only [Bool.and_eq_true, decide_eq_true_eq] at hq
    have hck := List.all_eq_true.mp hq.1.1.1 _ hmem
    simp only [ychk, Bool.and_eq_true, decide_eq_true_eq] at hck
    obtain ⟨hdg, hlk⟩ := hck
    have hkn : ∀ k, zok ls k = true → k < M.2.2.1 := fun k hk => by
      simp only [zok, Bool.and_eq_true, decide_eq_true_eq] at hk
      exact Nat.lt_of_lt_of_le hk.1 hl.1
    have go : ∀ {pc1 : Nat} {ls1 : List (Option zV)} {st1 : List zV} {ws1 : List yC} {ce1 sl1 : Nat}, yex T fu mi pc1 ls1 st1 ws1 ce1 sl1 = some ws' → ∀ (H1 : Heap) (locs1 : List Loc) (la1 : Array Slot), yRep X ws1 s H1 → va_S (zA X) s.heap H1 locs1 → zLv X M.2.2.1 ls1 la1 → W p l e (yrm dp mc ms) s m args below meth c H1 locs1 ce1 sl1 (MQ below (yQc X ws') args s mc ms (zA X)) (F0 m pc1 la1 (st1.map (ztr X))) :=
      fun {pc1 ls1 st1 ws1 ce1 sl1} h1 H1 locs1 la1 hR1 hS1 hl1 => ih mi pc1 ls1 st1 ws1 ws' ce1 sl1 M P mc ms dp hmi h1 p l e s m args below meth c H1 locs1 la1 C0 hR1 hS1 hl1
    cases ins
    case iconst n =>
      simp only [ylink, Bool.and_eq_true, decide_eq_true_eq] at hlk
      obtain ⟨hlen, hlk⟩ := hlk
      subst hlen
      exact lv_iconst hx hb hdg hlk (go h H locs la hR hS hl)
    case bipush n =>
      simp only [ylink, Bool.and_eq_true, decide_eq_true_eq] at hlk
      obtain ⟨hlen, hlk⟩ := hlk
      subst hlen
      exact lv_bipush hx hb hdg hlk (go h H locs la hR hS hl)
    case sipush n =>
      simp only [ylink, Bool.and_eq_true, decide_eq_true_eq] at hlk
      obtain ⟨hlen, hlk⟩ := hlk
      subst hlen
      exact lv_sipush hx hb hdg hlk (go h H locs la hR hS hl)
    case aload_n k =>
      simp only [ylink, decide_eq_true_eq] at hlk
      subst hlk
      dsimp only at h
      split at h
      · rename_i x hq
        exact lv_aload_n hx hb hdg rfl (zLv_at hl hq) (go h H locs la hR hS hl)
      · cases h
    case iload_n k =>
      simp only [ylink, decide_eq_true_eq] at hlk
      subst hlk
      dsimp only at h
      split at h
      · rename_i x hq
        exact lv_iload_n hx hb hdg rfl (zLv_at hl hq) (go h H locs la hR hS hl)
      · cases h
    case istore_n k =>
      simp only [ylink, decide_eq_true_eq] at hlk
      subst hlk
      dsimp only at h
      split at h
      · split at h
        · rename_i hz
          exact lv_istore_n hx hb hdg rfl hl.2 (hkn _ hz) rfl (fun ls' hl' => go h H locs ls' hR hS (zLv_set hl hz rfl hl'))
        · cases h
      · cases h
    case iinc k n =>
      simp only [ylink, Bool.and_eq_true, decide_eq_true_eq] at hlk
      obtain ⟨hlen, hcv⟩ := hlk
      subst hlen
      dsimp only at h
      split at h
      · rename_i x hq
        split at h
        · rename_i hz
          obtain ⟨j, hj⟩ := List.getElem?_of_mem ((zlv_mem (X := X) ls 0 (k, .int x)).mpr ⟨k, .inl x, hq, by rw [Nat.zero_add]; rfl⟩)
          exact lv_iinc hx hb hdg hl.2 hj (by rw [hcv]) (hkn _ hz) rfl (fun ls' hl' => go h H locs ls' hR hS (zLv_set hl hz rfl hl'))
        · cases h
      · cases h
    case dup =>
      simp only [ylink, decide_eq_true_eq] at hlk
      subst hlk
      dsimp only at h
      split at h
      · exact lv_dup hx hb hdg rfl (go h H locs la hR hS hl)
      · cases h
    case goto o =>
      simp only [ylink, Bool.and_eq_true, decide_eq_true_eq] at hlk
      obtain ⟨hlen, ht⟩ := hlk
      subst hlen
      exact lv_goto hx hb hdg ht (go h H locs la hR hS hl)
    case if_icmp cd o =>
      simp only [ylink, Bool.and_eq_true, decide_eq_true_eq] at hlk
      obtain ⟨hlen, ht⟩ := hlk
      subst hlen
      dsimp only at h
      split at h
      · refine lv_icmp_ge hx hb hdg ht (fun q => ?_) (fun q => ?_)
        · rw [if_pos q] at h
          exact go h H locs la hR hS hl
        · rw [if_neg q] at h
          exact go h H locs la hR hS hl
      · cases h
    case newarray t =>
      simp only [ylink, Bool.and_eq_true, decide_eq_true_eq] at hlk
      obtain ⟨⟨hlen, ha⟩, hty⟩ := hlk
      subst hlen
      dsimp only at h
      split at h
      · split at h
        · rename_i hz
          refine y_newa hx hb (hts _ (ykt_w a ha)) hty (ykt_ty ha) ykt_ra ykt_dv.1 hR hS hz.1 rfl (Nat.le_trans (Nat.mul_le_mul hz.2.1 ykt_dv.2) (by decide)) hz.2.2.1 hz.2.2.2 hdg (fun H1 hR1 hS1 => ?_)
          have k2 := go h H1 locs la hR1 hS1 hl
          rw [List.map_cons, zRx] at k2
          exact k2
        · cases h
      · cases h
    case anewarray i =>
      simp only [ylink, Bool.and_eq_true, Bool.or_eq_true, decide_eq_true_eq] at hlk
      obtain ⟨⟨hlen, ha⟩, w0⟩ := hlk
      subst hlen
      dsimp only at h
      split at h
      · split at h
        · rename_i hz
          have k2 := fun H1 hR1 hS1 => go h H1 locs la hR1 hS1 hl
          simp only [List.map_cons, zRx] at k2
          rcases ha with rfl | rfl
          · exact y_anew (C := RX4) hx hb hown (hts _ (zT_of w0 rfl)) hN.2.1 rfl hR hS hz.1 rfl (by have := hz.2.1; omega) hz.2.2.1 hz.2.2.2 hdg k2
          · exact y_anew (C := RX7) hx hb hown (hts _ (zT_of w0 rfl)) hN.2.2.1 rfl hR hS hz.1 rfl (by have := hz.2.1; omega) hz.2.2.1 hz.2.2.2 hdg k2
        · cases h
      · cases h
    case multianewarray i d =>
      simp only [ylink, Bool.and_eq_true, decide_eq_true_eq] at hlk
      obtain ⟨⟨hlen, hd⟩, w0⟩ := hlk
      subst hlen hd
      dsimp only at h
      split at h
      · split at h
        · rename_i hz
          refine y_multi hx hb hown (hts _ (zT_of w0 rfl)) hN.2.2.2 (hts _ (ykt_w 0 (by omega))) hR hS hz.1.1 hz.1.2.1 rfl rfl hz.1.2.2.1 hz.1.2.2.2 hz.2.1 hz.2.2 hdg (fun H1 locs1 hR1 hS1 => ?_)
          have k2 := go h H1 locs1 la hR1 hS1 hl
          rw [List.map_cons, zRx] at k2
          exact k2
        · cases h
      · cases h
    case new i =>
      dsimp only at h
      split at h
      · rename_i C TT N hcl
        split at h
        · rename_i hz
          simp only [ylink, hcl, Bool.and_eq_true, decide_eq_true_eq] at hlk
          obtain ⟨hlen, ⟨w0, w1⟩, w2⟩ := hlk
          subst hlen
          have ha : a < 11 := (List.getElem?_eq_some_iff.mp hcl).1
          refine y_new hx hb hts (zlay hcl).1 (zty a) (zlay hcl).2.1 hown (hts _ (zT_of w0 rfl)) (hts _ (zT_of w1 rfl)) (hts _ (zT_of w2 rfl)) hR hS hcl (yBl_dv (fun k hk => zcl_ty a ha k (by rw [hcl]; exact hk))) hz.1 hz.2 hdg (fun H1 hR1 hS1 => ?_)
          have k2 := go h H1 locs la hR1 hS1 hl
          rw [List.map_cons, zRx] at k2
          exact k2
        · cases h
      · cases h
    case getfield i =>
      dsimp only at h
      split at h
      · rename_i f q r
        split at h
        · rename_i hf
          subst hf
          split at h
          · rename_i ci fs hw
            split at h
            · rename_i hci
              subst hci
              split at h
              · rename_i v hv
                cases hcl : zcl[ci]? with
                | none =>
                  simp only [ylink, hcl, Bool.and_eq_true, decide_eq_true_eq] at hlk
                  exact absurd hlk.2 (by simp)
                | some z =>
                  obtain ⟨C, TT, N⟩ := z
                  simp only [ylink, hcl, Bool.and_eq_true, decide_eq_true_eq] at hlk
                  obtain ⟨hlen, hbN, w0⟩ := hlk
                  subst hlen
                  have k2 := go h H locs la hR hS hl
                  rw [List.map_cons, zRx]
                  refine va_get hx hb hts (zlay hcl).1 hown hR.1 hR.2.1 q (yWs_at hw) hcl b hbN (hts _ (zT_of w0 rfl)) (fun _ h => h) ?_ hdg k2
                  rw [List.getElem?_map, hv]
                  rfl
              · cases h
            · cases h
          · cases h
        · cases h
      · cases h
    case putfield i =>
      dsimp only at h
      split at h
      · rename_i v f q r
        split at h
        · rename_i hf
          subst hf
          split at h
          · rename_i ci fs hw
            split at h
            · rename_i hz
              obtain ⟨hci, hbl, hfit⟩ := hz
              subst hci
              cases hcl : zcl[ci]? with
              | none =>
                simp only [ylink, hcl, Bool.and_eq_true, decide_eq_true_eq] at hlk
                exact absurd hlk.2 (by simp)
              | some z =>
                obtain ⟨C, TT, N⟩ := z
                simp only [ylink, hcl, Bool.and_eq_true, Bool.or_eq_true, Bool.not_eq_true', decide_eq_true_eq] at hlk
                obtain ⟨hlen, ⟨hbN, w0⟩, hfi⟩ := hlk
                subst hlen
                rw [List.map_cons, List.map_cons, zRx]
                refine y_put hx hb hts (zlay hcl).1 (zty ci) (zlay hcl).2.1 (zlay hcl).2.2 hown hR hS hw hcl hbN (hts _ (zT_of w0 rfl)) (fun z => ⟨hname, ?_⟩) (yFit_ok hfit).1 (yFit_ok hfit).2 hbl hdg (fun H1 locs1 hR1 hS1 => go h H1 locs1 la hR1 hS1 hl)
                rcases hfi with q | q
                · rw [q] at z
                  cases z
                · exact q
            · cases h
          · cases h
        · cases h
      · cases h
    case iastore =>
      simp only [ylink, decide_eq_true_eq] at hlk
      subst hlk
      dsimp only at h
      split at h
      · rename_i x j f q r
        split at h
        · rename_i hf
          subst hf
          split at h
          · rename_i kd vs hw
            split at h
            · rename_i hz
              obtain ⟨hkd, hj, hj2⟩ := hz
              subst hkd
              rw [List.map_cons, List.map_cons, List.map_cons, zRx]
              exact y_iast hx hb hR hS hw (fun q => q.elim hj (fun z => by omega)) hdg (fun H1 locs1 hR1 hS1 => go h H1 locs1 la hR1 hS1 hl)
            · cases h
          · cases h
        · cases h
      · cases h
    case castore =>
      simp only [ylink, decide_eq_true_eq] at hlk
      subst hlk
      dsimp only at h
      split at h
      · rename_i x j f q r
        split at h
        · rename_i hf
          subst hf
          split at h
          · rename_i kd vs hw
            split at h
            · rename_i hz
              obtain ⟨hkd, ⟨hj, hj2⟩, hna⟩ := hz
              subst hkd
              rw [List.map_cons, List.map_cons, List.map_cons, zRx]
              exact y_cast hx hb hR hS hw (fun q => q.elim hj (fun z => by omega)) (yNar hna) hdg (fun H1 locs1 hR1 hS1 => go h H1 locs1 la hR1 hS1 hl)
            · cases h
          · cases h
        · cases h
      · cases h
    case aastore =>
      simp only [ylink, decide_eq_true_eq] at hlk
      subst hlk
      dsimp only at h
      split at h
      · rename_i g v j f q r
        split at h
        · rename_i hf
          obtain ⟨hf, hg⟩ := hf
          subst hf hg
          split at h
          · rename_i kd rs ci fs hw hw2
            split at h
            · rename_i hz
              obtain ⟨hkc, hj, hj2⟩ := hz
              rw [List.map_cons, List.map_cons, List.map_cons, zRx, zRx]
              rcases hkc with ⟨rfl, rfl⟩ | ⟨rfl, rfl⟩
              · exact y_aast hx hb hR hS hw rfl hw2 (r := (RX4, TX4, 12)) rfl (fun q => q.elim hj (fun z => by omega)) hdg (fun H1 locs1 hR1 hS1 => go h H1 locs1 la hR1 hS1 hl)
              · exact y_aast hx hb hR hS hw rfl hw2 (r := (RX7, TX7, 3)) rfl (fun q => q.elim hj (fun z => by omega)) hdg (fun H1 locs1 hR1 hS1 => go h H1 locs1 la hR1 hS1 hl)
            · cases h
          · cases h
        · cases h
      · cases h
    case invokespecial i =>
      dsimp only at h
      cases mj with
      | zero =>
        simp only [ylink, Bool.and_eq_true, decide_eq_true_eq] at hlk
        obtain ⟨hlen, ⟨w0, w1⟩, w2⟩ := hlk
        subst hlen
        dsimp only at h
        split at h
        · rename_i q r
          split at h
          · rename_i hz
            exact W.objInit hx hb hown (hts _ (zT_of w0 rfl)) (hts _ (zT_of w1 rfl)) (hts _ (zT_of w2 rfl)) rfl (hl.2.1.trans hml.symm) rfl hdg (by show 1 ≤ dp + 2; omega) (by show _ + 12 ≤ 100 * (dp + 2); exact Nat.le_trans (Nat.add_le_add_right (lv_room (by rw [zcat_sum]; exact hz)) 12) (by omega)) (go h H locs la hR hS hl)
          · cases h
        · cases h
      | succ mj =>
        dsimp only at h
        cases hmj : T[mj]? with
        | none =>
          rw [hmj] at h
          cases h
        | some z =>
          obtain ⟨⟨y, bt, mL, rt⟩, P', mc', ms', dp'⟩ := z
          rw [hmj] at h
          dsimp only at h
          simp only [ylink, hmj, Bool.and_eq_true, decide_eq_true_eq] at hlk
          obtain ⟨hlen, ⟨⟨⟨⟨⟨⟨⟨⟨⟨w0, w1⟩, w2⟩, w3⟩, hrt⟩, hy1⟩, n1⟩, n2⟩, hpar⟩, hmL⟩⟩ := hlk
          subst hlen hrt
          split at h
          · rename_i f q r hdr
            split at h
            · rename_i hz
              obtain ⟨hsum, hce, hsl, hdp, hzin, hbl⟩ := hz
              split at h
              · rename_i ws1 hcall
                have hM := yMet hT ih hmj hzin hcall l
                have hst2 : st.map (ztr X) = (((st.take b).reverse.map (ztr X)).reverse ++ .ref (X.1 f q) :: r.map (ztr X)) := by
                  conv => lhs; rw [← List.take_append_drop b st, hdr]
                  simp [ztr]
                rw [hst2]
                have hG : GoodIn zT (zws (y, bt, mL, none)) := zGood (M := (y, bt, mL, none)) (ws := []) (zT_of w3 rfl) (fun w hw => absurd hw List.not_mem_nil)
                have hroom : dp' + 2 + 1 ≤ dp + 2 ∧ 8 + (mL + 11) + 100 * (dp' + 2) ≤ 100 * (dp + 2) := by omega
                by_cases ha : a = 1
                · rw [if_pos ha] at w0
                  have hn0 := hN.1 _ (of_decide_eq_true w0)
                  refine y_back (va_runIN (As := (st.take b).reverse.map (ztr X)) (rest := r.map (ztr X)) (nL := M.2.2.1) (bytes := bt) (maxL := mL) (own := M.1.cls) (index := i) (n := b) (host := "ProtocolDesk") ⟨hx, hb, hml, hown, hts⟩ hM ⟨va_cnB b hts hG rfl rfl rfl hn0 (hts _ (zT_of w2 rfl)) ⟨n1, n2, hpar⟩ hroom, hy1, hts _ (zT_of w1 rfl)⟩ ⟨yPc_blind, fun U hU hW => yPc_at (as := .inr (.inr (f, q)) :: (st.take b).reverse) hN hR hU hW⟩ rfl (by simp [hbl]) hl.2.1 rfl (lv_room (by rw [zcat_sum]; exact hsum)) hdg ⟨hce, hsl⟩) hS (fun H1 locs1 hR1 hS1 => go h H1 locs1 la hR1 hS1 hl)
                · rw [if_neg ha] at w0
                  refine y_back (va_runI (As := (st.take b).reverse.map (ztr X)) (rest := r.map (ztr X)) (nL := M.2.2.1) (bytes := bt) (maxL := mL) (own := M.1.cls) (index := i) (n := b) ⟨hx, hb, hml, hown, hts⟩ hM (cwI b hts hG rfl rfl rfl (hts _ (zT_of w2 rfl)) (hts _ (zT_of w0 rfl)) (hts _ (zT_of w1 rfl)) hy1 ⟨n1, n2, hpar⟩ hroom) ⟨yPc_blind, fun U hU hW => yPc_at (as := .inr (.inr (f, q)) :: (st.take b).reverse) hN hR hU hW⟩ rfl (by simp [hbl]) hl.2.1 rfl (lv_room (by rw [zcat_sum]; exact hsum)) hdg ⟨hce, hsl⟩) hS (fun H1 locs1 hR1 hS1 => go h H1 locs1 la hR1 hS1 hl)
              · cases h
            · cases h
          · cases h
    case return_ =>
      simp only [ylink, decide_eq_true_eq] at hlk
      subst hlk
      dsimp only at h
      split at h
      · split at h
        · rename_i hz
          cases h
          exact W.widen hz.1 hz.2 (W.vret hx hb hr (fun t ht hW => ⟨⟨rfl, by rw [ht]; exact yRmov hW.alike hR⟩, hS.F ht⟩) hS.2.2 hdg hlocks)
        · cases h
      · cases h
    all_goals cases h
