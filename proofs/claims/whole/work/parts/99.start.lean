/-! THE START  -/
def lAd (adK : Nat → Nat) (b B f i : Nat) : Nat := if f = 200 then adK i else if f = 201 then b else if f = 300 then B + i else B + yPos f i
theorem lAd_200 {adK : Nat → Nat} {b B i : Nat} : lAd adK b B 200 i = adK i := by
  unfold lAd
  rw [if_pos rfl]
theorem lAd_201 {adK : Nat → Nat} {b B i : Nat} : lAd adK b B 201 i = b := by
  unfold lAd
  rw [if_neg (by decide), if_pos rfl]
theorem lAd_300 {adK : Nat → Nat} {b B i : Nat} : lAd adK b B 300 i = B + i := by
  unfold lAd
  rw [if_neg (by decide), if_neg (by decide), if_pos rfl]
theorem lAd_lt {adK : Nat → Nat} {b B f i : Nat} (hf : f < 200) : lAd adK b B f i = B + yPos f i := by
  unfold lAd
  rw [if_neg (by omega), if_neg (by omega), if_neg (by omega)]
theorem l_X {s : State} {args : Array Value} {b L : Nat} {xs : Nat → Int32} {adK adV : Nat → Nat} (hts : ∀ w ∈ lw_tbl, w.before args s = true) : ∃ X : zX, (∀ i, X.1 200 i = adK i) ∧ X.1 201 0 = b ∧ (∀ k, X.1 300 k = X.2.2.2.1 + k) ∧ (∀ f i, f < 200 → X.1 f i = X.2.2.2.1 + yPos f i) ∧ X.2.2.2.1 = s.heap.size ∧ X.2.2.2.2.2 = (L, xs) ∧ X.2.2.2.2.1 = adV ∧ va_K X.2.1 zcl (ztys X) s := by
  obtain ⟨D, hD⟩ := l_known hts
  obtain ⟨w0, w1, w2, w3, w4, w5, w6⟩ := l_in2
  obtain ⟨k0, a0⟩ := l_arr1 (ty := .int) (hts _ w0) (fun _ h => h)
  obtain ⟨k1, a1⟩ := l_arr1 (ty := .boolean) (hts _ w1) (fun _ h => h)
  obtain ⟨k2, a2⟩ := l_arr1 (ty := .byte) (hts _ w2) (fun _ h => h)
  obtain ⟨k3, a3⟩ := l_arr1 (ty := .char) (hts _ w3) (fun _ h => h)
  obtain ⟨k4, a4⟩ := l_arr2 (hts _ w4)
  obtain ⟨k5, a5⟩ := l_arr3 (hts _ w5)
  obtain ⟨k6, a6⟩ := l_arr3 (hts _ w6)
  refine ⟨(lAd adK b s.heap.size, D, fun k => match k with
    | 0 => k0
    | 1 => k1
    | 2 => k2
    | 3 => k3
    | 4 => k4
    | 5 => k5
    | _ => k6, s.heap.size, adV, L, xs), fun i => lAd_200 (adK := adK) (b := b) (B := s.heap.size) (i := i), lAd_201 (adK := adK) (b := b) (B := s.heap.size) (i := 0), fun k => lAd_300 (adK := adK) (b := b) (B := s.heap.size) (i := k), fun f i hf => lAd_lt (adK := adK) (b := b) (B := s.heap.size) (i := i) hf, rfl, rfl, rfl, hD, fun k q hq => ?_⟩
  · match k, hq with
    | 0, hq => cases hq; exact a0
    | 1, hq => cases hq; exact a1
    | 2, hq => cases hq; exact a2
    | 3, hq => cases hq; exact a3
    | 4, hq => cases hq; exact a4
    | 5, hq => cases hq; exact a5
    | 6, hq => cases hq; exact a6
    | k + 7, hq => cases hq
theorem l_zSt {X : zX} {s : State} {b L : Nat} {xs : Nat → Int32} {adK adV : Nat → Nat} (hts : ∀ w ∈ lw_tbl, w.before #[Value.ref b] s = true) (hf : ∀ w ∈ lFl, w.before #[Value.ref b] s = true) (hXb : va_X b L xs s s.heap) (hbl : b < s.heap.size) (hstr : vk_S 13 zLen zByt adK adV (fun q => s.heap.size ≤ q) s s.heap) (hev : ∀ i : Nat, i < 13 → (lTm i).eval #[Value.ref b] s none [] s = some (.ref (adK i)))
    (hcs : (Term.static "java/lang/String" "COMPACT_STRINGS" "Z").eval #[Value.ref b] s none [] s = some (.int 1)) (x1 : ∀ i, X.1 200 i = adK i) (x2 : X.1 201 0 = b) (x5 : X.2.2.2.1 = s.heap.size) (x6 : X.2.2.2.2.2 = (L, xs)) (x7 : X.2.2.2.2.1 = adV) : zSt X s := by
  have hA : zA X = fun q => s.heap.size ≤ q := by
    funext q
    unfold zA
    rw [x5]
  have hk : X.1 200 = adK := funext x1
  have y1 : X.2.2.2.2.2.1 = L := congrArg Prod.fst x6
  have y2 : X.2.2.2.2.2.2 = xs := congrArg Prod.snd x6
  obtain ⟨w1, w2, w3, w4, w5, w6⟩ := l_w8
  refine ⟨by rw [hk, x7, hA]; exact hstr, fun i q hq => ?_, ?_, ?_, ?_, ?_, ?_, ?_⟩
  · have hi : i < 13 := (List.getElem?_eq_some_iff.mp hq).1
    have h1 := hts _ (l_w7 i hi)
    have h2 := hev i hi
    unfold lTm at h2
    rw [hq] at h1 h2
    rw [x1]
    exact vk_R.of h1 h2
  · rw [hA]
    exact va_Zof (hts _ w3) (hts _ w4) hcs (fun a h1 h2 => Nat.not_le.mpr h1 h2)
  · rw [x2, y1, y2]
    exact hXb
  · rw [x2]
    exact hbl
  · rw [hA, x2]
    exact Nat.not_le.mpr hbl
  · rw [x5]
    exact Nat.le_refl _
  · rw [hA]
    exact va_Zqof (hts _ w5) (hts _ w6) (hf _ w2) (fun a h1 h2 => Nat.not_le.mpr h1 h2)
theorem l_yNw {s : State} {args : Array Value} (hts : ∀ w ∈ lw_tbl, w.before args s = true) : yNw s := by
  obtain ⟨w0, w1, w2, w3, w4, w5, w6⟩ := l_in2
  exact ⟨fun q hq => va_Nw.of rfl (hts _ (of_decide_eq_true (List.all_eq_true.mp l_nest q hq))), va_AO.of (hts _ w5), va_AO.of (hts _ w6), yAA_of (hts _ w4)⟩
theorem l_go {S : Nat × (Nat → Int32)} (hL : S.1 ≤ 3072) : lG S 16 [some (zR 201 0), some (zR 0 0), some (zR 48 0), none] [] (yMu yW2) := by
  have hg := l_loop hL 512 0 (yMu yW2) (by omega) (by omega) y_Rel
  repeat' (first
    | exact hg
    | (refine zl k_L_head rfl ?_; conv => whnf)
    | refine ⟨Nat.zero_lt_one, rfl, ?_⟩
    | refine ⟨rfl, ?_⟩
    | refine ⟨⟨Nat.zero_lt_one, rfl⟩, Nat.le_of_ble_eq_true rfl, ?_⟩
    | refine ⟨Nat.le_of_ble_eq_true rfl, Nat.le_of_ble_eq_true rfl, ?_⟩
    | refine ⟨(by first | exact Nat.zero_lt_one | assumption | omega), (by first | assumption | exact vp_in_nI (by omega) (by omega) | (unfold vp_in; decide)), ?_⟩
    | refine ⟨(by first | exact Nat.zero_lt_one | assumption | omega), rfl, ?_⟩
    | refine ⟨⟨(by first | exact Nat.zero_lt_one | assumption | omega), rfl⟩, Nat.le_of_ble_eq_true rfl, ?_⟩
    | refine ⟨(by first | exact Nat.zero_lt_one | assumption | omega), ?_⟩
    | refine ⟨Or.inl rfl, ?_⟩
    | refine ⟨Or.inr (Or.inl rfl), ?_⟩
    | refine ⟨Or.inr (Or.inr rfl), ?_⟩
    | refine ⟨Or.inr ⟨rfl, (by first | exact Or.inl rfl | exact Or.inr rfl | assumption)⟩, ?_⟩
    | refine ⟨fun h => absurd h (by decide), fun _ => ?_⟩
    | refine ⟨fun _ => ?_, fun h => absurd h (by decide)⟩
    | refine ⟨fun h => ?_, fun h => ?_⟩
    | fail)
theorem l_d0 : decode code 0 = .ok (.new 7, 3) := by decide +kernel
theorem l_d3 : decode code 3 = .ok (.dup, 1) := by decide +kernel
theorem l_d4 : decode code 4 = .ok (.invokespecial 9, 3) := by decide +kernel
theorem l_d7 : decode code 7 = .ok (.astore_n 1, 1) := by decide +kernel
theorem l_d8 : decode code 8 = .ok (.new 10, 3) := by decide +kernel
theorem l_d11 : decode code 11 = .ok (.dup, 1) := by decide +kernel
theorem l_d12 : decode code 12 = .ok (.invokespecial 12, 3) := by decide +kernel
theorem l_d15 : decode code 15 = .ok (.astore_n 2, 1) := by decide +kernel
theorem l_v0 : Cond.classLink R_law 7 RX9 ∈ lw_tbl ∧ Cond.instantiable RX9 7 ∈ lw_tbl ∧ Cond.initialized RX9 ∈ lw_tbl := by decide +kernel
theorem l_v1 : Cond.methodLink R_law 9 yX9_init ∈ lw_tbl ∧ Cond.instanceMethod yX9_init ∈ lw_tbl := by decide +kernel
theorem l_v2 : Cond.code yX9_init cX9_init 1 none ∈ lw_tbl := by decide +kernel
theorem l_v3 : Cond.classLink R_law 10 RX10 ∈ lw_tbl ∧ Cond.instantiable RX10 53 ∈ lw_tbl ∧ Cond.initialized RX10 ∈ lw_tbl := by decide +kernel
theorem l_v4 : Cond.methodLink R_law 12 yX10_init ∈ lw_tbl ∧ Cond.instanceMethod yX10_init ∈ lw_tbl := by decide +kernel
theorem l_v5 : Cond.code yX10_init cX10_init 1 none ∈ lw_tbl := by decide +kernel
section LM
variable {X : zX} {p : Program} {l : Launch} {e : Env} {s : State} {m : MethodId} {args : Array Value} {below : List Frame} {meth : Method} {c : Code} {cells slots : Nat} {Q : State → Prop} {H : Heap} {locs : List Loc} {la : Array Slot}
/-- new, dup, <init> in the law's body: one of the two objects -/
theorem l_make {ws ws' : List yC} {mi pc i1 i2 ci N dp mc ms k : Nat} {C : String} {TT : u_T} {y : MethodName} {bt : ByteArray} {P : List yEn} (hx : p.tables.exec = Jvm.exec) (hb : c.code = code) (hml : c.maxLocals = 4) (hown : s.vm.findClass R_law = some m.cls) (hts : ∀ w ∈ zT, w.before args s = true) (hX : ∀ k, X.1 300 k = X.2.2.2.1 + k) (hN : yNw s) (hla : la.size = 4)
    (hc : zcl[ci]? = some (C, TT, N)) (hci : ci < 11) (q1 : (Cond.classLink R_law i1 C).before args s = true) (q2 : (Cond.instantiable C N).before args s = true) (q3 : (Cond.initialized C).before args s = true) (hyc : y.cls = C) (q4 : (Cond.methodLink R_law i2 y).before args s = true) (q5 : (Cond.instanceMethod y).before args s = true) (q6 : Cond.code y bt 1 none ∈ zT) (hy : y.name = "<init>")
    (hd : y.cls ≠ "java/lang/invoke/MethodHandle" ∧ y.cls ≠ "java/lang/invoke/VarHandle" ∧ (parseMethodDescriptor y.desc).map (fun d => d.parameters.length) = some 0) (hdp : dp ≤ 5) (hmi : yT[mi]? = some ((y, bt, 1, none), P, mc, ms, dp)) (hk : ws.length = k) (hrun : yex yT 700 mi 0 (zls 1 [zR 300 k]) [] (ws ++ [.inl (ci, yBlank ci N)]) 0 0 = some ws')
    (h1 : cells + 1 + mc ≤ 600000) (h2 : slots + N + ms ≤ 7302249) (d1 : decode code pc = .ok (.new i1, 3)) (d2 : decode code (pc + 3) = .ok (.dup, 1)) (d3 : decode code (pc + 4) = .ok (.invokespecial i2, 3)) (hR : yRep X ws s H) (hS : va_S (zA X) s.heap H locs)
    (kk : ∀ (H1 : Heap) (locs1 : List Loc), yRep X ws' s H1 → va_S (zA X) s.heap H1 locs1 → W p l e room_1 s m args below meth c H1 locs1 (cells + 1 + mc) (slots + N + ms) Q (F0 m (pc + 7) la [.ref (X.1 300 k)])) : W p l e room_1 s m args below meth c H locs cells slots Q (F0 m pc la []) := by
  subst hk hyc
  refine y_new (own := R_law) (ci := ci) (fs := yBlank ci N) hx hb hts (zlay hc).1 (zty ci) (zlay hc).2.1 hown q1 q2 q3 hR hS hc (yBl_dv (fun k hk => zcl_ty ci hci k (by rw [hc]; exact hk))) (show cells + 1 ≤ 600000 by omega) (show slots + N ≤ 7302249 by omega) d1 (fun H1 hR1 hS1 => ?_)
  rw [← hX]
  refine lv_dup hx hb d2 rfl ?_
  have hM := yMet yT_ok (ysound yT_ok hX 700) (mi := mi) (as := [zR 300 ws.length]) hmi (Nat.le_of_ble_eq_true rfl) hrun l
  have hG : GoodIn zT (zws (y, bt, 1, none)) := zGood (M := (y, bt, 1, none)) (ws := []) q6 (fun w hw => absurd hw List.not_mem_nil)
  have hroom : dp + 2 + 1 ≤ 2048 ∧ 8 + (1 + 11) + 100 * (dp + 2) ≤ 84000 := by omega
  exact y_back (va_runI (As := []) (rest := [.ref (X.1 300 ws.length)]) (nL := 4) (bytes := bt) (maxL := 1) (own := R_law) (index := i2) (n := 0) ⟨hx, hb, hml, hown, hts⟩ hM (cwI 0 hts hG rfl rfl rfl q3 q4 q5 hy hd hroom) ⟨yPc_blind, fun U hU hW => yPc_at (as := [zR 300 ws.length]) hN hR1 hU hW⟩ rfl rfl hla rfl (lv_room (Nat.le_of_ble_eq_true rfl)) d3 ⟨h1, h2⟩) hS1 (fun H2 locs2 hR2 hS2 => kk H2 locs2 hR2 hS2)
end LM
theorem l_q0 : yPos 0 0 = 0 ∧ yPos 48 0 = 198 := by decide +kernel
set_option maxHeartbeats 4000000 in
/-- the walk of the two constructors; then the loop -/
theorem whole_start {p : Program} {e : Env} {s : State} {m : MethodId} {below : List Frame} {meth : Method} {c : Code} (l : Launch) {b L : Nat} {xs : Nat → Int32} (hL : L ≤ 3072) (C0 : lw_At p s m meth c b L xs) : W p l e room_1 s m #[Value.ref b] below meth c s.heap [] 0 0 (lw_Z below #[Value.ref b] s) (entryFrame m ([Value.ref b] : List Value).toArray 4) := by
  obtain ⟨hx, hb, hr, hml, hown, hts, hXb, hbl, hlocks, hgv⟩ := C0
  have hf : ∀ w ∈ lFl, w.before #[Value.ref b] s = true := flat_of_before _ hgv
  obtain ⟨adK, adV, hstr, hev⟩ := l_str (A := fun q => s.heap.size ≤ q) hf (fun a h1 h2 => Nat.not_le.mpr h1 h2)
  obtain ⟨X, x1, x2, x3, x4, x5, x6, x7, hK⟩ := l_X (b := b) (L := L) (xs := xs) (adK := adK) (adV := adV) hts
  have hst : zSt X s := l_zSt hts hf hXb hbl hstr hev (va_eqi (hf _ l_w8.1)) x1 x2 x5 x6 x7
  have hN : yNw s := l_yNw hts
  have hzT : ∀ w ∈ zT, w.before #[Value.ref b] s = true := fun w hw => hts w (zT_sub w hw)
  have hR0 : yRep X [] s s.heap := ⟨hK, fun k q hq => (by cases hq), (by rw [x5]; rfl)⟩
  have e0 : ([zR 201 0] : List zV).map (ztr X) = [Value.ref b] := by
    show [Value.ref (X.1 201 0)] = _
    rw [x2]
  have hl0 := lv_entry [Value.ref b] (n := 4) (Nat.le_of_ble_eq_true rfl)
  rw [lg_entry_eq]
  generalize ((lg_sl [Value.ref b] ++ List.replicate (4 - (lg_sl [Value.ref b]).length) Slot.unset).toArray) = la0 at hl0
  have hl : zLv X 4 [some (zR 201 0), none, none, none] la0 := ⟨by decide, hl0.1, hl0.2.1, fun q hq => hl0.2.2 q (by
    have h2 := zin_lv (X := X) [zR 201 0] 0 3 q hq
    rw [e0] at h2
    exact h2)⟩
  have k0 : Value.ref (X.1 300 0) = ztr X (zR 0 0) := by
    show Value.ref (X.1 300 0) = Value.ref (X.1 0 0)
    rw [x3, x4 0 0 (by decide), l_q0.1]
  have k1 : Value.ref (X.1 300 198) = ztr X (zR 48 0) := by
    show Value.ref (X.1 300 198) = Value.ref (X.1 48 0)
    rw [x3, x4 48 0 (by decide), l_q0.2]
  have hcx : zCx X p room_1 s m #[Value.ref b] meth c (0 + 1 + 197 + 1 + 41) (0 + 7 + 2019 + 53 + 1324) R_law code 4 40 (some .boolean) := ⟨hx, hb, hml, hown, hzT, hr, hlocks, hst, by decide, by decide, by decide, by decide⟩
  have g9 : Cond.code yX9_init cX9_init 1 none ∈ zT := List.mem_filter.mpr ⟨l_v2, rfl⟩
  have g10 : Cond.code yX10_init cX10_init 1 none ∈ zT := List.mem_filter.mpr ⟨l_v5, rfl⟩
  refine l_make (mi := 9) (pc := 0) (ci := 9) (ws := []) (ws' := yW1) (k := 0) (P := Y_De) (TT := TX9) hx hb hml hown hzT x3 hN hl.2.1 rfl (by decide) (hts _ l_v0.1) (hts _ l_v0.2.1) (hts _ l_v0.2.2) rfl (hts _ l_v1.1) (hts _ l_v1.2) g9 rfl ⟨by decide, by decide, by decide +kernel⟩ (by decide : 2 ≤ 5) rfl rfl yS1_eq (by decide) (by decide) l_d0 l_d3 l_d4 hR0 va_S.rf (fun H1 locs1 hR1 hS1 => ?_)
  refine lv_astore_n (i := 1) hx hb l_d7 rfl hl.2 (by decide) rfl (fun la1 hl1' => ?_)
  have hl1 := zLv_set (v := zR 0 0) hl rfl k0 hl1'
  refine l_make (mi := 10) (pc := 8) (ci := 10) (ws := yW1) (ws' := yW2) (k := 198) (P := Y_Mo) (TT := TX10) hx hb hml hown hzT x3 hN hl1.2.1 rfl (by decide) (hts _ l_v3.1) (hts _ l_v3.2.1) (hts _ l_v3.2.2) rfl (hts _ l_v4.1) (hts _ l_v4.2) g10 rfl ⟨by decide, by decide, by decide +kernel⟩ (by decide : 0 ≤ 5) rfl yW1_len yS2_eq (by decide) (by decide) l_d8 l_d11 l_d12 hR1 hS1 (fun H2 locs2 hR2 hS2 => ?_)
  refine lv_astore_n (i := 2) hx hb l_d15 rfl hl1.2 (by decide) rfl (fun la2 hl2' => ?_)
  have hl2 := zLv_set (v := zR 48 0) hl1 rfl k1 hl2'
  exact lG_iff.mp (l_go (S := (L, xs)) hL) X p l e s m below meth c b _ _ x6 x5 hcx H2 locs2 la2 (y_rep x3 x4 hR2) hS2 hl2
