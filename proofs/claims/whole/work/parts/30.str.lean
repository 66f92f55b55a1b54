/-! STRING CONSTANTS: length and charAt, with the kit's rows -/
def CtV (X : zX) (d : Nat) (M : zMth) (as : List Value) (μ : zMu) (K : Option zV → zMu → Prop) : Prop := ∀ l : Launch, Met l M.1 (zws M) (zrm d) (va_Pc as (fun U => zSt X U ∧ zRep X μ U U.heap)) (zQc X K) 0 0 (zA X)
theorem zin_T {w : Cond} (h : w ∈ lw_tbl) (g : goodWord w = true) : w ∈ zT := List.mem_filter.mpr ⟨h, g⟩
theorem zmeetV {X : zX} {d : Nat} {M : zMth} {as : List Value} {μ : zMu} {K : Option zV → zMu → Prop} (hy : plainFor M.1 = true) (hn : (lg_sl as).length ≤ M.2.2.1)
    (h : ∀ (p : Program) (l : Launch) (e : Env) (s : State) (m : MethodId) (args : Array Value) (below : List Frame) (meth : Method) (c : Code) (la : Array Slot), zCx X p (zrm d) s m args meth c 0 0 M.1.cls M.2.1 M.2.2.1 d M.2.2.2 → zRep X μ s s.heap → lv_has la M.2.2.1 (lv_args 0 as) → W p l e (zrm d) s m args below meth c s.heap [] 0 0 (MQ below (zQc X K) args s 0 0 (zA X)) (F0 m 0 la [])) : CtV X d M as μ K := by
  intro l
  refine va_MetF (cc := M.2.1) (maxL := M.2.2.1) (ret := M.2.2.2) hy rfl ?_
  intro p e s m args below meth c s₁ B hml hv
  obtain ⟨rfl, hst, hR⟩ := hv
  have hts := atoms_spec (ws := zws M) B.pre
  have hown : s.vm.findClass M.1.cls = some m.cls := findClass_of_methodNamed B.named
  have C : zCx X p (zrm d) s m as.toArray meth c 0 0 M.1.cls M.2.1 M.2.2.1 d M.2.2.2 := ⟨B.exec, B.bytes, hml, hown, fun w hw => hts w (List.mem_cons_of_mem _ hw), B.returns, B.notSynchronized, hst, Nat.le_refl _, Nat.le_refl _, Nat.le_refl _, Nat.le_refl _⟩
  have hl := lv_entry as (n := M.2.2.1) hn
  rw [lg_entry_eq]
  exact h p l e s m _ below meth c _ C hR hl
theorem CtV.to {d : Nat} {M : zMth} {as : List zV} {μ : zMu} {K : Option zV → zMu → Prop} (h : ∀ X : zX, CtV X d M (as.map (ztr X)) μ K) : Ct d M as μ K := Ct_iff.mpr (fun l X => h X l)
section ZV
variable {X : zX} {p : Program} {l : Launch} {e : Env} {R : Room} {s : State} {m : MethodId} {args : Array Value} {below : List Frame} {meth : Method} {c : Code} {cells slots : Nat} {Q : State → Prop}
variable {own : String} {cc : ByteArray} {nL d : Nat} {rt : Option FieldType} {H : Heap} {locs : List Loc} {la : Array Slot} {μ : zMu} {pc : Nat}
theorem zs_statV (C : zCx X p R s m args meth c cells slots own cc nL (d + 1) rt) (hR : zRep X μ s H) (hS : va_S (zA X) s.heap H locs) (hl : la.size = nL) {idx : Nat} {M : zMth} {as : List Value} {r : List zV} {K : Option zV → zMu → Prop}
    (h0 : Cond.methodLink own idx M.1 ∈ zT) (h1 : Cond.static M.1 ∈ zT) (h3 : Cond.initialized M.1.cls ∈ zT) (h4 : Cond.code M.1 M.2.1 M.2.2.1 M.2.2.2 ∈ zT) (hd : M.1.cls ≠ "java/lang/invoke/MethodHandle" ∧ M.1.cls ≠ "java/lang/invoke/VarHandle" ∧ (parseMethodDescriptor M.1.desc).map (fun d => d.parameters.length) = some as.length) (hmL : M.2.2.1 ≤ 40) (hsum : (r.map zcat).sum ≤ 8) (hc : CtV X d M as μ K) (hdg : decode cc pc = .ok (.invokestatic idx, 3))
    (kk : ∀ (q : Option zV) (μ' : zMu) (H1 : Heap) (locs1 : List Loc), K q μ' → zRep X μ' s H1 → va_S (zA X) s.heap H1 locs1 → W p l e R s m args below meth c H1 locs1 cells slots Q (F0 m (pc + 3) la ((zpush q r).map (ztr X)))) : W p l e R s m args below meth c H locs cells slots Q (F0 m pc la (as.reverse ++ r.map (ztr X))) := by
  obtain ⟨hx, hb, hml, hown, hts, hr, hlocks, hst, hfr, hlo, hce, hsl⟩ := C
  have hM := hc l
  refine zs_back (as := []) (va_runS (As := as) (rest := r.map (ztr X)) (nL := nL) (bytes := M.2.1) (maxL := M.2.2.1) (ret := M.2.2.2) (own := own) (index := idx) (n := as.length) ⟨hx, hb, hml, hown, hts⟩ hM (va_cwS as.length hts (zGood h4 (fun w hw => by
      simp only [List.mem_cons, List.not_mem_nil, or_false] at hw
      rcases hw with rfl | rfl | rfl
      · exact h0
      · exact h1
      · exact h3)) rfl rfl rfl hd ⟨?_, ?_⟩) ⟨?_, fun U hU hW => ?_⟩ rfl rfl hl rfl (lv_room (by rw [zcat_sum]; exact hsum)) hdg ⟨by simpa using hce, by simpa using hsl⟩) hS kk
  · show d + 1 + 1 ≤ R.frames
    exact hfr
  · show 8 + (M.2.2.1 + 11) + 100 * (d + 1) ≤ R.locals
    omega
  · intro a U g mk h
    obtain ⟨h1, h2, h3⟩ := h
    exact ⟨h1, zSmov (locs := []) (U := U.calling g mk a) (Vm.Alike.refl U.vm) (fun _ _ _ _ h => vk_R.same rfl h) ⟨Nat.le_refl _, fun _ _ _ => rfl, fun _ h => by cases h⟩ h2, zRmov (U := U.calling g mk a) (Vm.Alike.refl U.vm) h3⟩
  · subst hU
    exact ⟨rfl, zSmov hW.alike (fun _ _ _ _ h => vk_R.warm hW h) hS hst, zRmov hW.alike hR⟩
theorem zret_v {K : Option zV → zMu → Prop} {x : Int32} {ty : FieldType} (C : zCx X p R s m args meth c cells slots own cc nL d (some ty)) (hn : narrow ty (.int x) = .int x) (hk : K (some (.inl x)) μ) (hR : zRep X μ s H) (hS : va_S (zA X) s.heap H locs) (hdg : decode cc pc = .ok (.ireturn, 1)) : W p l e R s m args below meth c H locs cells slots (MQ below (zQc X K) args s cells slots (zA X)) (F0 m pc la [.int x]) := by
  obtain ⟨hx, hb, hml, hown, hts, hr, hlocks, hst, -⟩ := C
  exact W.zret (ty := ty) hx hb hr hn (fun t ht hW => ⟨⟨some (.inl x), μ, rfl, hk, by rw [ht]; exact zRmov hW.alike hR⟩, hS.F ht⟩) hS.2.2 hdg hlocks
end ZV
def m_coder : zMth := (yJ0_coder_7d493, cJ0_coder_7d493, 1, some .byte)
def m_latin : zMth := (yJ0_isLatin1_aae02, cJ0_isLatin1_aae02, 1, some .boolean)
def m_lchar : zMth := (yJ1_charAt_3b067, cJ1_charAt_3b067, 2, some .char)
def m_check : zMth := (yJ0_checkIndex_df160, cJ0_checkIndex_df160, 2, none)
def m_pre : zMth := (yJ3_checkIndex_8e157, cJ3_checkIndex_8e157, 3, some .int)
theorem pd_pre : m_pre.1.cls ≠ "java/lang/invoke/MethodHandle" ∧ m_pre.1.cls ≠ "java/lang/invoke/VarHandle" ∧ (parseMethodDescriptor m_pre.1.desc).map (fun d => d.parameters.length) = some 3 := by decide +kernel
theorem pd_check : m_check.1.cls ≠ "java/lang/invoke/MethodHandle" ∧ m_check.1.cls ≠ "java/lang/invoke/VarHandle" ∧ (parseMethodDescriptor m_check.1.desc).map (fun d => d.parameters.length) = some 2 := by decide +kernel
theorem pd_lchar : m_lchar.1.cls ≠ "java/lang/invoke/MethodHandle" ∧ m_lchar.1.cls ≠ "java/lang/invoke/VarHandle" ∧ (parseMethodDescriptor m_lchar.1.desc).map (fun d => d.parameters.length) = some 2 := by decide +kernel
theorem w_cs : Cond.fieldLink RJ0 38 "java/lang/String" "COMPACT_STRINGS" "Z" ∈ zT := zin_T (by decide +kernel) rfl
theorem w_co : Cond.fieldLink RJ0 15 "java/lang/String" "coder" "B" ∈ zT := zin_T (by decide +kernel) rfl
theorem w_va : Cond.fieldLink RJ0 9 "java/lang/String" "value" "[B" ∈ zT := zin_T (by decide +kernel) rfl
theorem w_fo : Cond.fieldLink RJ0 1053 "jdk/internal/util/Preconditions" "SIOOBE_FORMATTER" "Ljava/util/function/BiFunction;" ∈ zT := zin_T (by decide +kernel) rfl
set_option maxHeartbeats 4000000 in
theorem v_coder {X : zX} {d k : Nat} {μ : zMu} {K : Option zV → zMu → Prop} (hk : k < 13) (hK : K (some (zI 0)) μ) : CtV X d m_coder [.ref (X.1 200 k)] μ K := by
  refine zmeetV pf_cod (Nat.le_of_ble_eq_true rfl) (fun p l e s m args below meth c la C hR hl => ?_)
  obtain ⟨hx, hb, hml, hown, hts, hr, hlocks, hst, -⟩ := id C
  refine va_gets hx hb hst.2.2.1 va_S.rf hown (hts _ w_cs) (fun _ h => h) (by decide +kernel) ?_
  refine lv_if_eq (off := 10) (tgt := 13) hx hb (by decide +kernel) (by decide) (fun h => absurd h (by decide)) (fun _ => ?_)
  refine lv_aload_n (k := 0) hx hb (by decide +kernel) rfl (lv_at hl 0 rfl) ?_
  refine vk_getf hx hb (hst.1.1 k hk).2.1 va_S.rf hown (hts _ w_co) (fun _ h => h) (by decide +kernel) ?_
  refine lv_goto (off := 4) (tgt := 14) hx hb (by decide +kernel) (by decide) ?_
  exact zret_v C rfl hK hR va_S.rf (by decide +kernel)
set_option maxHeartbeats 4000000 in
theorem v_latin {X : zX} {d k : Nat} {μ : zMu} {K : Option zV → zMu → Prop} (hk : k < 13) (hK : K (some (zI 1)) μ) : CtV X d m_latin [.ref (X.1 200 k)] μ K := by
  refine zmeetV pf_lat (Nat.le_of_ble_eq_true rfl) (fun p l e s m args below meth c la C hR hl => ?_)
  obtain ⟨hx, hb, hml, hown, hts, hr, hlocks, hst, -⟩ := id C
  refine va_gets hx hb hst.2.2.1 va_S.rf hown (hts _ w_cs) (fun _ h => h) (by decide +kernel) ?_
  refine lv_if_eq (off := 14) (tgt := 17) hx hb (by decide +kernel) (by decide) (fun h => absurd h (by decide)) (fun _ => ?_)
  refine lv_aload_n (k := 0) hx hb (by decide +kernel) rfl (lv_at hl 0 rfl) ?_
  refine vk_getf hx hb (hst.1.1 k hk).2.1 va_S.rf hown (hts _ w_co) (fun _ h => h) (by decide +kernel) ?_
  refine lv_if_ne (off := 7) (tgt := 17) hx hb (by decide +kernel) (by decide) (fun h => absurd rfl h) (fun _ => ?_)
  refine lv_iconst (n := 1) (v := 1) hx hb (by decide +kernel) (by decide) ?_
  refine lv_goto (off := 4) (tgt := 18) hx hb (by decide +kernel) (by decide) ?_
  exact zret_v C rfl hK hR va_S.rf (by decide +kernel)
set_option maxHeartbeats 4000000 in
theorem v_pre {X : zX} {d : Nat} {i n : Int32} {v : Value} {μ : zMu} {K : Option zV → zMu → Prop} (hv : v.category = 1) (h0 : ¬ i < 0) (h1 : i < n) (hK : K (some (zI i)) μ) : CtV X d m_pre [.int i, .int n, v] μ K := by
  refine zmeetV pf_pre (by rw [zsl_cons, zsl_cons, zsl_cons, hv]; exact Nat.le_refl 3) (fun p l e s m args below meth c la C hR hl => ?_)
  obtain ⟨hx, hb, hml, hown, hts, hr, hlocks, hst, -⟩ := id C
  refine lv_iload_n (k := 0) hx hb (by decide +kernel) rfl (lv_at hl 0 rfl) ?_
  refine lv_if_lt (off := 8) (tgt := 9) hx hb (by decide +kernel) (by decide) (fun h => absurd h h0) (fun _ => ?_)
  refine lv_iload_n (k := 0) hx hb (by decide +kernel) rfl (lv_at hl 0 rfl) ?_
  refine lv_iload_n (k := 1) hx hb (by decide +kernel) rfl (lv_at hl 1 rfl) ?_
  refine lv_icmp_lt (off := 10) (tgt := 16) hx hb (by decide +kernel) (by decide) (fun _ => ?_) (fun h => absurd h1 h)
  refine lv_iload_n (k := 0) hx hb (by decide +kernel) rfl (lv_at hl 0 rfl) ?_
  exact zret_v C rfl hK hR va_S.rf (by decide +kernel)
set_option maxHeartbeats 4000000 in
theorem v_check {X : zX} {d : Nat} {i n : Int32} {μ : zMu} {K : Option zV → zMu → Prop} (h0 : ¬ i < 0) (h1 : i < n) (hK : K none μ) : CtV X (d + 1) m_check [.int i, .int n] μ K := by
  refine zmeetV pf_chk (Nat.le_of_ble_eq_true rfl) (fun p l e s m args below meth c la C hR hl => ?_)
  obtain ⟨hx, hb, hml, hown, hts, hr, hlocks, hst, -⟩ := id C
  refine lv_iload_n (k := 0) hx hb (by decide +kernel) rfl (lv_at hl 0 rfl) ?_
  refine lv_iload_n (k := 1) hx hb (by decide +kernel) rfl (lv_at hl 1 rfl) ?_
  have key : ∀ v : Value, v.category = 1 → va_Z "jdk/internal/util/Preconditions" "SIOOBE_FORMATTER" "Ljava/util/function/BiFunction;" v (zA X) s s.heap → W p l e (zrm (d + 1)) s m args below meth c s.heap [] 0 0 (MQ below (zQc X K) args s 0 0 (zA X)) (F0 m 2 la [.int n, .int i]) := by
    intro v hv hz
    refine va_gets hx hb hz va_S.rf hown (hts _ w_fo) (fun _ h => h) (by decide +kernel) ?_
    refine zs_statV (idx := 1059) (r := []) (M := m_pre) (as := [.int i, .int n, v]) (K := fun q μ' => q = some (zI i) ∧ μ' = μ) C hR va_S.rf hl.1 (zin_T (by decide +kernel) rfl) (zin_T (by decide +kernel) rfl) (zin_T (by decide +kernel) rfl) (zin_T (by decide +kernel) rfl) pd_pre (by decide) (by decide) (v_pre hv h0 h1 ⟨rfl, rfl⟩) (by decide +kernel) (fun q μ' H1 locs1 hk hR1 hS1 => ?_)
    obtain ⟨rfl, hm⟩ := hk
    rw [hm] at hR1
    refine lv_pop hx hb (by decide +kernel) rfl ?_
    exact W.vret hx hb hr (fun t ht hW => ⟨⟨none, μ, rfl, hK, by rw [ht]; exact zRmov hW.alike hR1⟩, hS1.F ht⟩) hS1.2.2 (by decide +kernel) hlocks
  rcases hst.2.2.2.2.2.2.2 with hz | ⟨t, hz⟩
  · exact key _ rfl hz
  · exact key _ rfl hz
theorem zbyt_all : ∀ k, k < 13 → zLen.getD k 0 = (zByt.getD k []).length ∧ ∀ j, j < (zByt.getD k []).length → ((((zByt.getD k []).getD j 0 &&& 255).toUInt32 % 65536).toInt32 = (zByt.getD k []).getD j 0 ∧ narrow .char (.int ((zByt.getD k []).getD j 0)) = .int ((zByt.getD k []).getD j 0)) := by decide +kernel
def zch (k j : Nat) : Int32 := (zByt.getD k []).getD j 0
set_option maxHeartbeats 4000000 in
theorem v_lchar {X : zX} {d k j : Nat} {μ : zMu} {K : Option zV → zMu → Prop} (hk : k < 13) (hj : j < zLen.getD k 0) (hK : K (some (zI (zch k j))) μ) : CtV X (d + 2) m_lchar [.ref (X.2.2.2.2.1 k), .int (nI j)] μ K := by
  refine zmeetV pf_lch (Nat.le_of_ble_eq_true rfl) (fun p l e s m args below meth c la C hR hl => ?_)
  obtain ⟨hx, hb, hml, hown, hts, hr, hlocks, hst, -⟩ := id C
  have hl100 : zLen.getD k 0 < 100 := (by decide : ∀ k, k < 13 → zLen.getD k 0 < 100) k hk
  refine lv_iload_n (k := 1) hx hb (by decide +kernel) rfl (lv_at hl 1 rfl) ?_
  refine lv_aload_n (k := 0) hx hb (by decide +kernel) rfl (lv_at hl 0 rfl) ?_
  refine va_tlen hx hb (hst.1.1 k hk).2.2.2 va_S.rf rfl (by decide +kernel) ?_
  refine zs_statV (idx := 9) (r := []) (M := m_check) (as := [.int (nI j), .int (Int32.ofNat (zLen.getD k 0))]) (K := fun q μ' => q = none ∧ μ' = μ) C hR va_S.rf hl.1 (zin_T (by decide +kernel) rfl) (zin_T (by decide +kernel) rfl) (zin_T (by decide +kernel) rfl) (zin_T (by decide +kernel) rfl) pd_check (by decide) (by decide) (v_check (nI_pos (by omega)) (nI_lt hj (by omega)) ⟨rfl, rfl⟩) (by decide +kernel) (fun q μ' H1 locs1 hk1 hR1 hS1 => ?_)
  obtain ⟨rfl, hm⟩ := hk1
  rw [hm] at hR1
  refine lv_aload_n (k := 0) hx hb (by decide +kernel) rfl (lv_at hl 0 rfl) ?_
  refine lv_iload_n (k := 1) hx hb (by decide +kernel) rfl (lv_at hl 1 rfl) ?_
  have hz := zbyt_all k hk
  refine va_tb hx hb (hst.1.1 k hk).2.2.2 hS1 (vp_in_nI hj (by omega)) (by rw [nI_clamp (by omega)]) (by decide +kernel) ?_
  refine lv_sipush (n := 255) (v := 255) hx hb (by decide +kernel) (by decide) ?_
  refine lv_iand hx hb (by decide +kernel) ?_
  refine lv_i2c hx hb (by decide +kernel) (hz.2 j (by rw [← hz.1]; exact hj)).1 ?_
  exact zret_v C (hz.2 j (by rw [← hz.1]; exact hj)).2 hK hR1 hS1 (by decide +kernel)
theorem c_coder {d k : Nat} {μ : zMu} {K : Option zV → zMu → Prop} (hk : k < 13) (hK : K (some (zI 0)) μ) : Ct d m_coder [zR 200 k] μ K := CtV.to (fun _ => v_coder hk hK)
theorem c_latin {d k : Nat} {μ : zMu} {K : Option zV → zMu → Prop} (hk : k < 13) (hK : K (some (zI 1)) μ) : Ct d m_latin [zR 200 k] μ K := CtV.to (fun _ => v_latin hk hK)
set_option maxHeartbeats 4000000 in
theorem c_Jstr_length {d k : Nat} {μ : zMu} {K : Option zV → zMu → Prop} (hk : k < 13) (hK : K (some (zI (nI (zLen.getD k 0)))) μ) : Ct (d + 1) m_Jstr_length [zR 200 k] μ K := by
  refine CtV.to (fun X => ?_)
  refine zmeetV pf_len (Nat.le_of_ble_eq_true rfl) (fun p l e s m args below meth c la C hR hl => ?_)
  obtain ⟨hx, hb, hml, hown, hts, hr, hlocks, hst, -⟩ := id C
  have hl100 : zLen.getD k 0 < 100 := (by decide : ∀ k, k < 13 → zLen.getD k 0 < 100) k hk
  refine lv_aload_n (k := 0) hx hb (by decide +kernel) rfl (lv_at hl 0 rfl) ?_
  refine vk_getf hx hb (hst.1.1 k hk).2.2.1 va_S.rf hown (hts _ w_va) (fun _ h => h) (by decide +kernel) ?_
  refine va_tlen hx hb (hst.1.1 k hk).2.2.2 va_S.rf rfl (by decide +kernel) ?_
  refine lv_aload_n (k := 0) hx hb (by decide +kernel) rfl (lv_at hl 0 rfl) ?_
  refine zs_virt (idx := 335) (ls := [some (zR 200 k)]) (r := [zI (nI (zLen.getD k 0))]) (M := m_coder) (as := []) (f := 200) (i := k) (K := fun q μ' => q = some (zI 0) ∧ μ' = μ) C hR va_S.rf ⟨Nat.le_refl _, hl⟩ (vk_recv hst.1 hk va_S.rf) (zin_T (by decide +kernel) rfl) (zin_T (by decide +kernel) rfl) (zin_T (by decide +kernel) rfl) (zin_T (by decide +kernel) rfl) (zin_T (by decide +kernel) rfl) (by decide +kernel) (by decide) (Nat.le_of_ble_eq_true rfl) (c_coder hk ⟨rfl, rfl⟩) (by decide +kernel) (fun q μ' H1 locs1 hk1 hR1 hS1 => ?_)
  obtain ⟨rfl, hm⟩ := hk1
  rw [hm] at hR1
  refine lv_ishr hx hb (by decide +kernel) ?_
  refine zret_v C rfl ?_ hR1 hS1 (by decide +kernel)
  rw [sc_shr0 (by omega)]
  exact hK
set_option maxHeartbeats 4000000 in
theorem c_Jstr_charAt {d k j : Nat} {μ : zMu} {x : Int32} {K : Option zV → zMu → Prop} (hk : k < 13) (hj : j < zLen.getD k 0) (hxj : x = nI j) (hK : K (some (zI (zch k j))) μ) : Ct (d + 3) m_Jstr_charAt [zR 200 k, zI x] μ K := by
  subst hxj
  refine CtV.to (fun X => ?_)
  refine zmeetV pf_chr (Nat.le_of_ble_eq_true rfl) (fun p l e s m args below meth c la C hR hl => ?_)
  obtain ⟨hx, hb, hml, hown, hts, hr, hlocks, hst, -⟩ := id C
  have hz := zbyt_all k hk
  refine lv_aload_n (k := 0) hx hb (by decide +kernel) rfl (lv_at hl 0 rfl) ?_
  refine zs_virt (idx := 492) (ls := [some (zR 200 k), some (zI (nI j))]) (r := []) (M := m_latin) (as := []) (f := 200) (i := k) (K := fun q μ' => q = some (zI 1) ∧ μ' = μ) C hR va_S.rf ⟨Nat.le_refl _, hl⟩ (vk_recv hst.1 hk va_S.rf) (zin_T (by decide +kernel) rfl) (zin_T (by decide +kernel) rfl) (zin_T (by decide +kernel) rfl) (zin_T (by decide +kernel) rfl) (zin_T (by decide +kernel) rfl) (by decide +kernel) (by decide) (Nat.le_of_ble_eq_true rfl) (c_latin hk ⟨rfl, rfl⟩) (by decide +kernel) (fun q μ' H1 locs1 hk1 hR1 hS1 => ?_)
  obtain ⟨rfl, hm⟩ := hk1
  rw [hm] at hR1
  refine lv_if_eq (off := 12) (tgt := 16) hx hb (by decide +kernel) (by decide) (fun h => absurd h (by decide)) (fun _ => ?_)
  refine lv_aload_n (k := 0) hx hb (by decide +kernel) rfl (lv_at hl 0 rfl) ?_
  refine vk_getf hx hb (hst.1.1 k hk).2.2.1 hS1 hown (hts _ w_va) (fun _ h => h) (by decide +kernel) ?_
  refine lv_iload_n (k := 1) hx hb (by decide +kernel) rfl (lv_at hl 1 rfl) ?_
  refine zs_statV (idx := 495) (r := []) (M := m_lchar) (as := [.ref (X.2.2.2.2.1 k), .int (nI j)]) (K := fun q μ' => q = some (zI (zch k j)) ∧ μ' = μ) C hR1 hS1 hl.1 (zin_T (by decide +kernel) rfl) (zin_T (by decide +kernel) rfl) (zin_T (by decide +kernel) rfl) (zin_T (by decide +kernel) rfl) pd_lchar (by decide) (by decide) (v_lchar hk hj ⟨rfl, rfl⟩) (by decide +kernel) (fun q μ2 H2 locs2 hk2 hR2 hS2 => ?_)
  obtain ⟨rfl, hm2⟩ := hk2
  rw [hm2] at hR2
  exact zret_v C (hz.2 j (by rw [← hz.1]; exact hj)).2 hK hR2 hS2 (by decide +kernel)
