/-! SOUNDNESS of the instructions -/
theorem zwd_in {h : List Nat} {k : Nat} {w : Cond} (e : zwd h k w = true) : w ∈ lw_tbl := by
  unfold zwd at e
  split at e
  · exact List.mem_of_getElem? (of_decide_eq_true e)
  · cases e
theorem zT_of {h : List Nat} {k : Nat} {w : Cond} (e : zwd h k w = true) (g : goodWord w = true) : w ∈ zT := List.mem_filter.mpr ⟨zwd_in e, g⟩
theorem zT_good : GoodIn zT zT := fun w hw => ⟨hw, good_of_word (List.mem_filter.mp hw).2⟩
theorem zRfa {f cnt kd len : Nat} {g} (h : zTab[f]? = some (cnt, .inr (.inr (kd, len, g)))) : kd = 4 ∨ kd = 5 ∨ kd = 6 := by
  have h1 : zTab.all (fun e => match e.2 with
    | .inr (.inr q) => decide (q.1 = 4 ∨ q.1 = 5 ∨ q.1 = 6)
    | _ => true) = true := by decide +kernel
  have h2 := List.all_eq_true.mp h1 _ (List.mem_of_getElem? h)
  simpa using h2
theorem zRmov {X : zX} {μ : zMu} {u U : State} {H : Heap} (hv : u.vm.Alike U.vm) (h : zRep X μ u H) : zRep X μ U H := ⟨va_K.moved hv h.1, h.2⟩
theorem zSmov {X : zX} {u U : State} {locs : List Loc} (hv : u.vm.Alike U.vm) (hw : ∀ (own tx : String) (k a : Nat), vk_R own k tx a u → vk_R own k tx a U) (hS : va_S (zA X) u.heap U.heap locs) (h : zSt X u) : zSt X U := by
  obtain ⟨h1, h2, h3, h4, h5, h6, h7, h8⟩ := h
  refine ⟨vk_S.moved hv (h1.kept hS.2.1), fun i q hq => hw _ _ _ _ (h2 i q hq), va_Z.moved hv (h3.kept hS.2.1), va_X.moved hv (h4.kept (hS.2.1 _ h5 h6)), Nat.lt_of_lt_of_le h5 hS.1, h6, Nat.le_trans h7 hS.1, va_Zq.moved hv (h8.kept hS.2.1)⟩
def zfv (X : zX) (μ : zMu) (f n b : Nat) (o : Option (Nat → zN)) : Value := match o with
  | none => Value.int (μ f n b)
  | some g => Value.ref (X.1 (g n).1 (g n).2)
section ZS
variable {X : zX} {p : Program} {l : Launch} {e : Env} {R : Room} {s : State} {m : MethodId} {args : Array Value} {below : List Frame} {meth : Method} {c : Code} {cells slots : Nat} {Q : State → Prop}
variable {own : String} {cc : ByteArray} {nL d : Nat} {rt : Option FieldType} {H : Heap} {locs : List Loc} {la : Array Slot} {μ : zMu} {pc : Nat} {rest : List Value}
def zCx (X : zX) (p : Program) (R : Room) (s : State) (m : MethodId) (args : Array Value) (meth : Method) (c : Code) (cells slots : Nat) (own : String) (cc : ByteArray) (nL d : Nat) (rt : Option FieldType) : Prop :=
  p.tables.exec = Jvm.exec ∧ c.code = cc ∧ c.maxLocals = nL ∧ s.vm.findClass own = some m.cls ∧ (∀ w ∈ zT, w.before args s = true) ∧ meth.sig.returnType = rt ∧ meth.locks = false ∧ zSt X s ∧ d + 1 ≤ R.frames ∧ 100 * (d + 1) ≤ R.locals ∧ cells ≤ R.cells ∧ slots ≤ R.slots
theorem zs_get (C : zCx X p R s m args meth c cells slots own cc nL d rt) (hR : zRep X μ s H) {f n b cnt ci i N : Nat} {Cn : String} {T : u_T} {fs : List (Option (Nat → zN))} {o : Option (Nat → zN)} (ht : zTab[f]? = some (cnt, .inl (ci, fs))) (hn : n < cnt) (hcl : zcl[ci]? = some (Cn, T, N)) (hbN : b < N) (hw : Cond.fieldLink own i (T b).1 (T b).2.1 (T b).2.2.1 ∈ zT) (hf : fs[b]? = some o) (hdg : decode cc pc = .ok (.getfield i, 3))
    (kk : W p l e R s m args below meth c H locs cells slots Q (F0 m (pc + 3) la (zfv X μ f n b o :: rest))) : W p l e R s m args below meth c H locs cells slots Q (F0 m pc la (.ref (X.1 f n) :: rest)) := by
  obtain ⟨hx, hb, hml, hown, hts, hr, hlocks, hst, -⟩ := C
  obtain ⟨hK, hP, hD⟩ := hR
  obtain ⟨k, hk⟩ := List.getElem?_of_mem (zAll_mem ht hn)
  have he := zWs_at (X := X) (μ := μ) hk
  rw [zE_obj ht] at he
  refine va_get hx hb hts (zlay hcl).1 hown hK hP k he hcl b hbN (hts _ hw) (fun _ h => h) ?_ hdg kk
  rw [List.getElem?_mapIdx, hf]
  cases o <;> rfl
theorem zs_put (C : zCx X p R s m args meth c cells slots own cc nL d rt) (hR : zRep X μ s H) (hS : va_S (zA X) s.heap H locs) {f n b cnt ci i N : Nat} {Cn : String} {T : u_T} {fs : List (Option (Nat → zN))} {x : Int32} (ht : zTab[f]? = some (cnt, .inl (ci, fs))) (hn : n < cnt) (hcl : zcl[ci]? = some (Cn, T, N)) (hbN : b < N) (hw : Cond.fieldLink own i (T b).1 (T b).2.1 (T b).2.2.1 ∈ zT) (hfin : (T b).2.2.2 = false) (hf : fs[b]? = some none) (hty : zty ci b = .int ∨ (zty ci b = .boolean ∧ (x = 0 ∨ x = 1))) (hdg : decode cc pc = .ok (.putfield i, 3))
    (kk : ∀ (H1 : Heap) (locs1 : List Loc), zRep X (zu μ f n b x) s H1 → va_S (zA X) s.heap H1 locs1 → W p l e R s m args below meth c H1 locs1 cells slots Q (F0 m (pc + 3) la rest)) : W p l e R s m args below meth c H locs cells slots Q (F0 m pc la (.int x :: .ref (X.1 f n) :: rest)) := by
  obtain ⟨hx, hb, hml, hown, hts, hr, hlocks, hst, -⟩ := C
  obtain ⟨hK, hP, hD⟩ := hR
  obtain ⟨k, hk⟩ := List.getElem?_of_mem (zAll_mem ht hn)
  have he := zWs_at (X := X) (μ := μ) hk
  rw [zE_obj ht] at he
  have hse := zWs_set (X := X) (μ := μ) (μ' := zu μ f n b x) hk (zE_put ht hf) (fun n' hn' => zE_zu_ne n' hn')
  have hfit : narrow (zty ci b) (.int x) = .int x ∧ fits (zty ci b) (.int x) = true := by
    rcases hty with h | ⟨h, h2⟩
    · rw [h]; exact ⟨rfl, rfl⟩
    · rw [h]
      rcases h2 with rfl | rfl <;> exact ⟨rfl, rfl⟩
  refine va_put hx hb hts (zlay hcl).1 (zty ci) (zlay hcl).2.1 (zlay hcl).2.2 hown hK hP hD hS k he hcl b hbN (hts _ hw) (fun _ h => h) hfin ((zlay hcl).2.1 b hbN) hfit.1 hfit.2 ?_ hdg (fun H1 locs1 hP1 hD1 hS1 => ?_)
  · simpa using (List.getElem?_eq_some_iff.mp hf).1
  · rw [hse] at hP1 hD1
    exact kk H1 locs1 ⟨hK, hP1, hD1⟩ hS1
theorem zar_of {f i kd len : Nat} (h : zar f i = some (kd, len)) : ∃ cnt, zTab[f]? = some (cnt, .inr (.inl (kd, len))) ∧ i < cnt := by
  unfold zar at h
  split at h
  · rename_i cnt kd' len' ht
    split at h
    · rename_i hc
      cases h
      exact ⟨cnt, ht, hc⟩
    · cases h
  · cases h
theorem zam_zar {f i cnt kd len : Nat} (h : zam f = some (cnt, kd, len)) (hi : i < cnt) : zar f i = some (kd, len) := by
  unfold zam at h
  unfold zar
  split at h
  · cases h
    exact if_pos hi
  · cases h
theorem zar_at {f i kd len : Nat} (h : zar f i = some (kd, len)) : ∃ k : Nat, zAll[k]? = some (f, i) ∧ (zWs X μ)[k]? = some (X.1 f i, (Sum.inl (X.2.2.1 kd, len, Sum.inl (μ f i)) : va_E)) := by
  obtain ⟨cnt, ht, hi⟩ := zar_of h
  obtain ⟨k, hk⟩ := List.getElem?_of_mem (zAll_mem ht hi)
  refine ⟨k, hk, ?_⟩
  rw [zWs_at hk, zE_arr ht]
theorem zar_set {f i kd len j : Nat} {x : Int32} {k : Nat} (h : zar f i = some (kd, len)) (hk : zAll[k]? = some (f, i)) : (zWs X μ).set k (X.1 f i, .inl (X.2.2.1 kd, len, .inl (upd (μ f i) j x))) = zWs X (zu μ f i j x) := by
  obtain ⟨cnt, ht, hi⟩ := zar_of h
  exact zWs_set hk (zE_sto ht) (fun n' hn' => zE_zu_ne n' hn')
theorem zs_aald (C : zCx X p R s m args meth c cells slots own cc nL d rt) (hR : zRep X μ s H) {f n cnt kd len : Nat} {g : Nat → Nat → zN} {j : Int32} (ht : zTab[f]? = some (cnt, .inr (.inr (kd, len, g)))) (hn : n < cnt) (hin : vp_in j len) (hdg : decode cc pc = .ok (.aaload, 1))
    (kk : W p l e R s m args below meth c H locs cells slots Q (F0 m (pc + 1) la (.ref (X.1 (g n j.toNatClampNeg).1 (g n j.toNatClampNeg).2) :: rest))) : W p l e R s m args below meth c H locs cells slots Q (F0 m pc la (.int j :: .ref (X.1 f n) :: rest)) := by
  obtain ⟨hx, hb, hml, hown, hts, hr, hlocks, hst, -⟩ := C
  obtain ⟨hK, hP, hD⟩ := hR
  obtain ⟨k, hk⟩ := List.getElem?_of_mem (zAll_mem ht hn)
  have he := zWs_at (X := X) (μ := μ) hk
  rw [zE_rfa ht] at he
  have hc : H[X.1 f n]? = some (arrV (X.2.2.1 kd) len (fun q => Value.ref (X.1 (g n q).1 (g n q).2))) := hP k _ he
  have hty : ∃ ty, (ztys X)[kd]? = some (X.2.2.1 kd, ty) ∧ ty.isReference = true := by
    rcases zRfa ht with rfl | rfl | rfl
    · exact ⟨_, rfl, rfl⟩
    · exact ⟨_, rfl, rfl⟩
    · exact ⟨_, rfl, rfl⟩
  obtain ⟨ty, hty1, hty2⟩ := hty
  have hj : j.toNatClampNeg < len := by
    have := hin
    unfold vp_in at this
    omega
  have hsz : (arrV (X.2.2.1 kd) len (fun q => Value.ref (X.1 (g n q).1 (g n q).2))).slots.size = len := by simp [arrV]
  refine W.aald hx hb hc ((hK.2 kd _ hty1).1 _ _) hty2 (by simp [arrV]) (by rw [hsz]; exact hin) (v := .ref (X.1 (g n j.toNatClampNeg).1 (g n j.toNatClampNeg).2)) ?_ rfl rfl hdg kk
  simp [arrV, hj]
/-- behind a call -/
theorem zs_back {as : List zV} {a : Array Value} {st0 : List Value} {r : List zV} {K : Option zV → zMu → Prop} (hr : va_Run p l e R s m args below meth c H locs cells slots 0 0 (F0 m pc la st0) (r.map (ztr X)) (zQc X K a) (zA X)) (hS : va_S (zA X) s.heap H locs)
    (kk : ∀ (q : Option zV) (μ' : zMu) (H1 : Heap) (locs1 : List Loc), K q μ' → zRep X μ' s H1 → va_S (zA X) s.heap H1 locs1 → W p l e R s m args below meth c H1 locs1 cells slots Q (F0 m (pc + 3) la ((zpush q r).map (ztr X)))) : W p l e R s m args below meth c H locs cells slots Q (F0 m pc la st0) := by
  intro T hT Z
  obtain ⟨v, st₀, t, T', L, h0, Z', hL, e1, e2, ⟨⟨q, μ', hv, hk, hrep⟩, hz, hkeep⟩, st⟩ := hr T hT Z
  rw [h0] at hz hkeep
  have hal : s.vm.Alike t.vm := by rw [← e2]; exact Z'.warmed.alike
  have hrep' : zRep X μ' s T'.heap := by rw [e1]; exact zRmov hal.symm hrep
  have hS' : va_S (zA X) s.heap T'.heap (locs ++ L) := ⟨Nat.le_trans hS.1 (by rw [e1]; exact hz), fun a h1 h2 => by rw [e1, hkeep a (Nat.lt_of_lt_of_le h1 hS.1) h2]; exact hS.2.1 a h1 h2, fun a ha => by
    rcases List.mem_append.mp ha with h | h
    · exact hS.2.2 a h
    · exact hL a h⟩
  obtain ⟨t2, a1, b1⟩ := kk q μ' T'.heap (locs ++ L) hk hrep' hS' T' rfl Z'
  refine ⟨t2, st t2 ?_, b1⟩
  have hv' : v = q.map (ztr X) := by
    cases hv
    rfl
  rw [hv']
  cases q with
  | none => exact a1
  | some w => exact a1
theorem zcat_sum (r : List zV) : ((r.map (ztr X)).map fun v => v.category).sum = (r.map zcat).sum := by
  rw [List.map_map]
  congr 1
  apply List.map_congr_left
  intro v _
  match v with
  | .inl x => rfl
  | .inr (.inl x) => rfl
  | .inr (.inr n) => rfl
theorem zPc_blind {as : List zV} : FrameBlind (zPc X as μ) := by
  intro a U g mk h
  obtain ⟨h1, h2, h3⟩ := h
  exact ⟨h1, zSmov (locs := []) (U := U.calling g mk a) (Vm.Alike.refl U.vm) (fun _ _ _ _ h => vk_R.same rfl h) ⟨Nat.le_refl _, fun _ _ _ => rfl, fun _ h => by cases h⟩ h2, zRmov (U := U.calling g mk a) (Vm.Alike.refl U.vm) h3⟩
theorem zPc_at {as : List zV} {U : State} (hst : zSt X s) (hR : zRep X μ s H) (hS : va_S (zA X) s.heap H locs) (hU : U.heap = H) (hW : s.WarmedH U.vm) : zPc X as μ (as.map (ztr X)).toArray U := by
  subst hU
  exact ⟨rfl, zSmov hW.alike (fun _ _ _ _ h => vk_R.warm hW h) hS hst, zRmov hW.alike hR⟩
theorem zGood {M : zMth} {ws : List Cond} (hc : Cond.code M.1 M.2.1 M.2.2.1 M.2.2.2 ∈ zT) (h : ∀ w ∈ ws, w ∈ zT) : GoodIn zT (ws ++ zws M) := by
  intro w hw
  rcases List.mem_append.mp hw with hw | hw
  · exact zT_good w (h w hw)
  · rcases List.mem_cons.mp hw with rfl | hw
    · exact zT_good _ hc
    · exact zT_good w hw
theorem zs_virt (C : zCx X p R s m args meth c cells slots own cc nL d rt) (hR : zRep X μ s H) (hS : va_S (zA X) s.heap H locs) {ls : List (Option zV)} (hl : zLv X nL ls la) {f i idx : Nat} {M : zMth} {as r : List zV} {K : Option zV → zMu → Prop} (hrc : ∃ cellB : Cell, H[X.1 f i]? = some cellB ∧ cellB.vm.isStatics = false ∧ s.vm.findClass M.1.cls = some cellB.cls)
    (h0 : Cond.methodLink own idx M.1 ∈ zT) (h1 : Cond.instanceMethod M.1 ∈ zT) (h2 : Cond.selects M.1.cls M.1 M.1 ∈ zT) (h3 : Cond.initialized M.1.cls ∈ zT) (h4 : Cond.code M.1 M.2.1 M.2.2.1 M.2.2.2 ∈ zT) (hd : M.1.cls ≠ "java/lang/invoke/MethodHandle" ∧ M.1.cls ≠ "java/lang/invoke/VarHandle" ∧ (parseMethodDescriptor M.1.desc).map (fun d => d.parameters.length) = some as.length) (hmL : M.2.2.1 ≤ 40) (hsum : (r.map zcat).sum ≤ 8) (hc : zCa d M (.inr (.inr (f, i)) :: as) μ K) (hdg : decode cc pc = .ok (.invokevirtual idx, 3))
    (kk : ∀ (q : Option zV) (μ' : zMu) (H1 : Heap) (locs1 : List Loc), K q μ' → zRep X μ' s H1 → va_S (zA X) s.heap H1 locs1 → W p l e R s m args below meth c H1 locs1 cells slots Q (F0 m (pc + 3) la ((zpush q r).map (ztr X)))) : W p l e R s m args below meth c H locs cells slots Q (F0 m pc la ((as.map (ztr X)).reverse ++ .ref (X.1 f i) :: r.map (ztr X))) := by
  obtain ⟨hx, hb, hml, hown, hts, hr, hlocks, hst, hfr, hlo, hce, hsl⟩ := C
  cases d with
  | zero => exact hc.elim
  | succ d =>
    have hM := Ct_iff.mp hc l X
    refine zs_back (as := as) (va_runV (As := as.map (ztr X)) (rest := r.map (ztr X)) (nL := nL) (bytes := M.2.1) (maxL := M.2.2.1) (ret := M.2.2.2) (C := M.1.cls) (own := own) (index := idx) (n := as.length) ⟨hx, hb, hml, hown, hts⟩ hM (cwV as.length hts (zGood h4 (fun w hw => by
      simp only [List.mem_cons, List.not_mem_nil, or_false] at hw
      rcases hw with rfl | rfl | rfl | rfl
      · exact h0
      · exact h1
      · exact h2
      · exact h3)) rfl rfl rfl ⟨rfl, hd⟩ ⟨?_, ?_⟩) ⟨zPc_blind, hrc, fun U hU hW => zPc_at (as := .inr (.inr (f, i)) :: as) hst hR hS hU hW⟩ rfl (by simp) hl.2.1 rfl (lv_room (by rw [zcat_sum]; exact hsum)) hdg ⟨by simpa using hce, by simpa using hsl⟩) hS kk
    · show d + 1 + 1 ≤ R.frames
      exact hfr
    · show 8 + (M.2.2.1 + 11) + 100 * (d + 1) ≤ R.locals
      omega
theorem zs_stat (C : zCx X p R s m args meth c cells slots own cc nL d rt) (hR : zRep X μ s H) (hS : va_S (zA X) s.heap H locs) {ls : List (Option zV)} (hl : zLv X nL ls la) {idx : Nat} {M : zMth} {as r : List zV} {K : Option zV → zMu → Prop}
    (h0 : Cond.methodLink own idx M.1 ∈ zT) (h1 : Cond.static M.1 ∈ zT) (h3 : Cond.initialized M.1.cls ∈ zT) (h4 : Cond.code M.1 M.2.1 M.2.2.1 M.2.2.2 ∈ zT) (hd : M.1.cls ≠ "java/lang/invoke/MethodHandle" ∧ M.1.cls ≠ "java/lang/invoke/VarHandle" ∧ (parseMethodDescriptor M.1.desc).map (fun d => d.parameters.length) = some as.length) (hmL : M.2.2.1 ≤ 40) (hsum : (r.map zcat).sum ≤ 8) (hc : zCa d M as μ K) (hdg : decode cc pc = .ok (.invokestatic idx, 3))
    (kk : ∀ (q : Option zV) (μ' : zMu) (H1 : Heap) (locs1 : List Loc), K q μ' → zRep X μ' s H1 → va_S (zA X) s.heap H1 locs1 → W p l e R s m args below meth c H1 locs1 cells slots Q (F0 m (pc + 3) la ((zpush q r).map (ztr X)))) : W p l e R s m args below meth c H locs cells slots Q (F0 m pc la ((as.map (ztr X)).reverse ++ r.map (ztr X))) := by
  obtain ⟨hx, hb, hml, hown, hts, hr, hlocks, hst, hfr, hlo, hce, hsl⟩ := C
  cases d with
  | zero => exact hc.elim
  | succ d =>
    have hM := Ct_iff.mp hc l X
    refine zs_back (as := as) (va_runS (As := as.map (ztr X)) (rest := r.map (ztr X)) (nL := nL) (bytes := M.2.1) (maxL := M.2.2.1) (ret := M.2.2.2) (own := own) (index := idx) (n := as.length) ⟨hx, hb, hml, hown, hts⟩ hM (va_cwS as.length hts (zGood h4 (fun w hw => by
      simp only [List.mem_cons, List.not_mem_nil, or_false] at hw
      rcases hw with rfl | rfl | rfl
      · exact h0
      · exact h1
      · exact h3)) rfl rfl rfl hd ⟨?_, ?_⟩) ⟨zPc_blind, fun U hU hW => zPc_at hst hR hS hU hW⟩ rfl (by simp) hl.2.1 rfl (lv_room (by rw [zcat_sum]; exact hsum)) hdg ⟨by simpa using hce, by simpa using hsl⟩) hS kk
    · show d + 1 + 1 ≤ R.frames
      exact hfr
    · show 8 + (M.2.2.1 + 11) + 100 * (d + 1) ≤ R.locals
      omega
end ZS
