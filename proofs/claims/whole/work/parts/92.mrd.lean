/-! MODEL: the whole rule -/
theorem qW_st {a : Nat → Int32} {n k : Nat} {q q' : zQ} {v : Int32} (h : qW a n q k = (v, q')) (h1 : q'.2 = -1) : q.2 = -1 := by
  by_cases z : q.2 = -1
  · exact z
  · rw [qW_ft z] at h
    rw [← (Prod.mk.inj h).2] at h1
    exact h1
theorem qB_st {a : Nat → Int32} {n : Nat} {q q' : zQ} (h : qB a n q = q') (h1 : q'.2 = -1) : q.2 = -1 := by
  by_cases z : q.2 = -1
  · exact z
  · rw [qB_ft z] at h
    rw [← h] at h1
    exact h1
theorem qN_st {a : Nat → Int32} {n : Nat} {q q' : zQ} {v : Int32} (h : qN a n q = (v, q')) (h1 : q'.2 = -1) : q.2 = -1 := by
  by_cases z : q.2 = -1
  · exact z
  · rw [qN_ft z] at h
    rw [← (Prod.mk.inj h).2] at h1
    exact h1
/-- which word it was -/
theorem qW_ix {a : Nat → Int32} {n k : Nat} {q q' : zQ} {v : Int32} (hk : k < 13) (h : qW a n q k = (v, q')) (h1 : q'.2 = -1) (hq : q.1 ≤ 1000) (hs : ∀ w ∈ zWd.getD k [], w.length ≤ 10) : ∃ i, i < (zWd.getD k []).length ∧ v = nI i := by
  have h0 := qW_st h h1
  obtain ⟨at_, fl⟩ := q
  have h0 : fl = -1 := h0
  subst h0
  rw [qW_eq hk] at h
  cases hw : wL (fun j => pB a n (at_ + j)) (zWd.getD k []) 0 0 with
  | inl r =>
    rw [hw] at h
    obtain ⟨i, w, e1, e2, -⟩ := wL_hit hw
    refine ⟨i, (List.getElem?_eq_some_iff.mp e1).1, ?_⟩
    rw [← (Prod.mk.inj h).1, e2, Nat.zero_add]
  | inr L =>
    rw [hw] at h
    have h2 := (Prod.mk.inj h).2
    rw [← h2] at h1
    obtain ⟨-, b2, b3⟩ := wL_no hw
    have hL : L ≤ 10 := by
      rcases b3 with b3 | ⟨i, w, e1, e2⟩
      · omega
      · have := hs w (List.mem_of_getElem? e1)
        have := pfx_le (b := fun j => pB a n (at_ + j)) (w := w) (i := 0)
        omega
    have hq : at_ ≤ 1000 := hq
    exact absurd h1 (nI_nem1 (by omega))
def tOk (t : rT) : Prop := (t.1 = 0 ∨ t.1 = 1) ∧ (t.2.1 = 0 ∨ t.2.1 = 1) ∧ vp_in t.2.2.1 7
theorem zWd_s : ∀ k, k < 13 → ∀ w ∈ zWd.getD k [], w.length ≤ 10 := by decide +kernel
theorem qTR_ok {a : Nat → Int32} {n : Nat} {q q' : zQ} {t : rT} (hn : n ≤ 200) (hq : q.1 ≤ n) (hT : qTR a n q t q') (h1 : q'.2 = -1) : tOk t := by
  obtain ⟨w, q3, v4, q4, q5, q6, T0, tb, e4, e5, e6, e7⟩ := hT
  obtain ⟨v1, q1, T1, T2⟩ := T0
  have a1 : q1.1 ≤ n := by have := qW_le (a := a) (n := n) (k := 5) (q := q) (by omega) hq; rw [T1] at this; exact this
  have a3 : q3.1 ≤ n := by
    rcases T2 with ⟨-, -, c3⟩ | ⟨-, -, -, c4⟩
    · have := qW_le (a := a) (n := n) (k := 6) (q := qB a n q1) (by omega) (qB_le a1)
      rw [c3] at this
      exact this
    · rw [c4]
      exact a1
  have a4 : q4.1 ≤ n := by have := qW_le (a := a) (n := n) (k := 7) (q := q3) (by omega) a3; rw [e4] at this; exact this
  have h6 := qN_st e7 h1
  have h5 := qW_st e6 h6
  refine ⟨?_, ?_, ?_⟩
  · rcases T2 with ⟨-, c2, -⟩ | ⟨-, c2, -⟩
    · exact Or.inr c2
    · exact Or.inl c2
  · rw [tb]
    split
    · exact Or.inr rfl
    · exact Or.inl rfl
  · obtain ⟨i, hi, e⟩ := qW_ix (by omega) e5 h5 (by omega) (zWd_s 8 (by omega))
    rw [e]
    exact vp_in_nI hi (by omega)
theorem qLR_ok {a : Nat → Int32} {n : Nat} (hn : n ≤ 200) : ∀ {k : Nat} {any any' : Int32} {q q' : zQ} {ts : List rT}, q.1 ≤ n → qLR a n k any q ts any' q' → q'.2 = -1 → ∀ e ∈ ts, tOk e
  | 0, any, any', q, q', ts, hq, h, h1, e, he => by
    rw [h.1] at he
    cases he
  | k + 1, any, any', q, q', ts, hq, h, h1, e, he => by
    rcases h with h | ⟨-, p1, any1, w2, p2, p3, t', p4, ts', f1, f2, f3, fT, rfl, fL⟩
    · rw [h.2.1] at he
      cases he
    have b1 : p1.1 ≤ n := by rw [← f1]; exact qB_le hq
    have b2 : p2.1 ≤ n := by
      by_cases hk2 : k = 2
      · rw [if_pos hk2] at f2
        have := qW_le (a := a) (n := n) (k := 10) (q := p1) (by omega) b1
        rw [f2.1] at this
        exact this
      · rw [if_neg hk2] at f2
        have := qW_le (a := a) (n := n) (k := if any = 0 then 12 else 11) (q := p1) (by split <;> omega) b1
        rw [f2.1] at this
        exact this
    have b3 : p3.1 ≤ n := by rw [← f3]; exact qB_le b2
    have b4 := qTR_n b3 fT
    have o4 : p4.2 = -1 := by
      by_cases z : p4.2 = -1
      · exact z
      · obtain ⟨-, -, h5⟩ := qLR_no (fun w => z w.1) fL
        rw [h5] at h1
        exact h1
    rcases List.mem_cons.mp he with rfl | he
    · exact qTR_ok hn b3 fT o4
    · exact qLR_ok hn b4 fL h1 e he
theorem qLR_len {a : Nat → Int32} {n : Nat} : ∀ {k : Nat} {any any' : Int32} {q q' : zQ} {ts : List rT}, qLR a n k any q ts any' q' → ts.length ≤ k
  | 0, any, any', q, q', ts, h => by
    rw [h.1]
    exact Nat.le_refl _
  | k + 1, any, any', q, q', ts, h => by
    rcases h with h | ⟨-, p1, any1, w2, p2, p3, t', p4, ts', f1, f2, f3, fT, rfl, fL⟩
    · rw [h.2.1]
      exact Nat.zero_le _
    · have := qLR_len fL
      rw [List.length_cons]
      omega
/-- the rule's cells alone have changed -/
def hF (r : Nat) (μ μ' : zMu) : Prop := (∀ f, f ∉ [48, 66, 67, 68, 69, 72, 73, 74, 75, 76, 77] → μ' f = μ f) ∧ (∀ k, k ∉ [28, 29] → μ' 48 0 k = μ 48 0 k) ∧ (∀ f, f ∈ [66, 67, 68, 69, 72] → ∀ k, k ≠ r → μ' f 0 k = μ f 0 k) ∧ ∀ f, f ∈ [73, 74, 75, 76, 77] → ∀ k, ¬ (4 * r ≤ k ∧ k < 4 * r + 4) → μ' f 0 k = μ f 0 k
theorem hF_gF {r : Nat} {μ μ1 μ2 : zMu} (h : hF r μ μ1) (h2 : gF r μ1 μ2) : hF r μ μ2 := by
  refine ⟨fun f hf => ?_, fun k hk => (h2.2.1 k hk).trans (h.2.1 k hk), fun f hf k hk => ?_, fun f hf k hk => (h2.2.2.2 f hf k hk).trans (h.2.2.2 f hf k hk)⟩
  · rw [h2.1 f (fun q => hf (by simp only [List.mem_cons, List.not_mem_nil, or_false] at q ⊢; omega))]
    exact h.1 f hf
  · rw [← h.2.2.1 f hf k hk]
    by_cases e : f = 69 ∨ f = 72
    · exact h2.2.2.1 f (by simp only [List.mem_cons, List.not_mem_nil, or_false]; omega) k hk
    · rw [h2.1 f (fun q => by simp only [List.mem_cons, List.not_mem_nil, or_false] at q hf; omega)]
theorem hF_cM {r : Nat} {μ μ1 : zMu} {q : zQ} (h : hF r μ μ1) : hF r μ (cM μ1 q) := hF_gF h (gF_cM gF_rf)
theorem hF_r {r f : Nat} {μ μ1 : zMu} {x : Int32} (h : hF r μ μ1) (hf : f ∈ [66, 67, 68, 69, 72]) : hF r μ (zu μ1 f 0 r x) := by
  simp only [List.mem_cons, List.not_mem_nil, or_false] at hf
  refine ⟨fun g hg => ?_, fun k hk => ?_, fun g hg k hk => ?_, fun g hg k hk => ?_⟩
  · rw [← h.1 g hg]
    simp only [List.mem_cons, List.not_mem_nil, or_false, not_or] at hg
    funext i k
    exact zu_ne (by omega)
  · rw [← h.2.1 k hk]
    exact zu_ne (by omega)
  · rw [← h.2.2.1 g hg k hk]
    exact zu_ne (by omega)
  · rw [← h.2.2.2 g hg k hk]
    simp only [List.mem_cons, List.not_mem_nil, or_false] at hg
    exact zu_ne (by omega)
theorem hF_E {r n : Nat} {μ μ' : zMu} {a : Nat → Int32} (h : hF r μ μ') (E : mE μ a n) : mE μ' a n := by
  unfold mE gCs at *
  rw [h.2.1 14 (by decide), h.1 63 (by decide), h.1 80 (by decide), h.1 81 (by decide), h.1 82 (by decide)]
  exact E
theorem hF_rf {r : Nat} {μ : zMu} : hF r μ μ := ⟨fun _ _ => rfl, fun _ _ => rfl, fun _ _ _ _ => rfl, fun _ _ _ _ => rfl⟩
def ocR (oc m : Int32) : Prop := (oc = -1 ∧ m = 10) ∨ (0 ≤ oc ∧ oc ≤ 9 ∧ m = oc)
def upR (dn m : Int32) : Prop := (dn = 0 ∧ m = 1) ∨ (dn = 1 ∧ m = 0)
/-- the occasion -/
theorem w1_eq {a : Nat → Int32} {n : Nat} {q q' : zQ} {v : Int32} (hq : q.1 ≤ 1000) (o1 : q.2 = -1) (h : qW a n q 1 = (v, q')) : (pB a n q.1 = 42 → q' = (q.1 + 1, -1) ∧ v = 0) ∧ ((48 ≤ pB a n q.1 ∧ pB a n q.1 ≤ 57) → q' = (q.1 + 1, -1) ∧ v = pB a n q.1 - 47) ∧ (¬ pB a n q.1 = 42 → ¬ (48 ≤ pB a n q.1 ∧ pB a n q.1 ≤ 57) → q'.2 = nI q.1) := by
  obtain ⟨at_, fl⟩ := q
  have o1 : fl = -1 := o1
  subst o1
  rw [qW_eq (by omega)] at h
  have hw : zWd.getD 1 [] = [[42], [48], [49], [50], [51], [52], [53], [54], [55], [56], [57]] := rfl
  rw [hw] at h
  simp only [wL, wL_s, Nat.add_zero, List.length_singleton] at h
  show (pB a n at_ = 42 → q' = (at_ + 1, -1) ∧ v = 0) ∧ ((48 ≤ pB a n at_ ∧ pB a n at_ ≤ 57) → q' = (at_ + 1, -1) ∧ v = pB a n at_ - 47) ∧ (¬ pB a n at_ = 42 → ¬ (48 ≤ pB a n at_ ∧ pB a n at_ ≤ 57) → q'.2 = nI at_)
  refine ⟨fun e => ?_, fun e => ?_, fun e e2 => ?_⟩
  · simp [e] at h
    obtain ⟨rfl, rfl⟩ := h
    exact ⟨rfl, rfl⟩
  · obtain ⟨c, hc, ec⟩ := nI_of2 (x := pB a n at_) (M := 57) (n := 57) rfl (by grind) e.2
    have h48 : 48 ≤ c := (nI_leI (a := 48) (by omega) (by omega)).mp (by rw [← ec]; exact e.1)
    have : c = 48 ∨ c = 49 ∨ c = 50 ∨ c = 51 ∨ c = 52 ∨ c = 53 ∨ c = 54 ∨ c = 55 ∨ c = 56 ∨ c = 57 := by omega
    rcases this with rfl | rfl | rfl | rfl | rfl | rfl | rfl | rfl | rfl | rfl
    · have ec' : pB a n at_ = 48 := ec
      simp [ec'] at h
      obtain ⟨rfl, rfl⟩ := h
      exact ⟨rfl, by rw [ec']; decide⟩
    · have ec' : pB a n at_ = 49 := ec
      simp [ec'] at h
      obtain ⟨rfl, rfl⟩ := h
      exact ⟨rfl, by rw [ec']; decide⟩
    · have ec' : pB a n at_ = 50 := ec
      simp [ec'] at h
      obtain ⟨rfl, rfl⟩ := h
      exact ⟨rfl, by rw [ec']; decide⟩
    · have ec' : pB a n at_ = 51 := ec
      simp [ec'] at h
      obtain ⟨rfl, rfl⟩ := h
      exact ⟨rfl, by rw [ec']; decide⟩
    · have ec' : pB a n at_ = 52 := ec
      simp [ec'] at h
      obtain ⟨rfl, rfl⟩ := h
      exact ⟨rfl, by rw [ec']; decide⟩
    · have ec' : pB a n at_ = 53 := ec
      simp [ec'] at h
      obtain ⟨rfl, rfl⟩ := h
      exact ⟨rfl, by rw [ec']; decide⟩
    · have ec' : pB a n at_ = 54 := ec
      simp [ec'] at h
      obtain ⟨rfl, rfl⟩ := h
      exact ⟨rfl, by rw [ec']; decide⟩
    · have ec' : pB a n at_ = 55 := ec
      simp [ec'] at h
      obtain ⟨rfl, rfl⟩ := h
      exact ⟨rfl, by rw [ec']; decide⟩
    · have ec' : pB a n at_ = 56 := ec
      simp [ec'] at h
      obtain ⟨rfl, rfl⟩ := h
      exact ⟨rfl, by rw [ec']; decide⟩
    · have ec' : pB a n at_ = 57 := ec
      simp [ec'] at h
      obtain ⟨rfl, rfl⟩ := h
      exact ⟨rfl, by rw [ec']; decide⟩
  · have ne : ∀ c : Int32, 48 ≤ c → c ≤ 57 → ¬ pB a n at_ = c := fun c h1 h2 h3 => e2 (by rw [h3]; exact ⟨h1, h2⟩)
    simp only [e, ne 48 (by decide) (by decide), ne 49 (by decide) (by decide), ne 50 (by decide) (by decide), ne 51 (by decide) (by decide), ne 52 (by decide) (by decide), ne 53 (by decide) (by decide), ne 54 (by decide) (by decide), ne 55 (by decide) (by decide), ne 56 (by decide) (by decide), ne 57 (by decide) (by decide)] at h
    simp at h
    rw [← h.2]
theorem w3_eq {a : Nat → Int32} {n : Nat} {q1 q2 : zQ} {v2 : Int32} (hq : q1.1 ≤ 1000) (o1 : q1.2 = -1) (h : qW a n q1 3 = (v2, q2)) : (pB a n q1.1 = 117 → eqQ q2 (mX a n [117, 112] q1) ∧ (q2.2 = -1 → v2 = 0)) ∧ (¬ pB a n q1.1 = 117 → eqQ q2 (mX a n [100, 111, 119, 110] q1) ∧ (q2.2 = -1 → v2 = 1)) := by
  obtain ⟨at_, fl⟩ := q1
  have o1 : fl = -1 := o1
  subst o1
  have hq : at_ ≤ 1000 := hq
  rw [qW_eq (by omega)] at h
  have hw : zWd.getD 3 [] = [[117, 112], [100, 111, 119, 110]] := rfl
  rw [hw, wL, wL, wL] at h
  have X1 := mX_pfx (a := a) (n := n) (at_ := at_) (cs := [117, 112]) (i := 0)
  have X2 := mX_pfx (a := a) (n := n) (at_ := at_) (cs := [100, 111, 119, 110]) (i := 0)
  rw [Nat.add_zero] at X1 X2
  have l1' : pfx (fun j => pB a n (at_ + j)) [117, 112] 0 ≤ 2 := pfx_le
  have l2' : pfx (fun j => pB a n (at_ + j)) [100, 111, 119, 110] 0 ≤ 4 := pfx_le
  constructor
  · intro l
    have l : pB a n (at_ + 0) = 117 := l
    have p2 : pfx (fun j => pB a n (at_ + j)) [100, 111, 119, 110] 0 = 0 := by rw [pfx, if_neg (by rw [l]; decide)]
    rw [p2] at h
    rw [X1]
    by_cases e : pfx (fun j => pB a n (at_ + j)) [117, 112] 0 = ([117, 112] : List Int32).length
    · rw [if_pos e] at h ⊢
      obtain ⟨rfl, rfl⟩ := Prod.mk.inj h
      exact ⟨eqQ_rf, fun _ => rfl⟩
    · rw [if_neg e] at h ⊢
      rw [if_neg (show ¬ 0 = ([100, 111, 119, 110] : List Int32).length by decide)] at h
      obtain ⟨rfl, rfl⟩ := Prod.mk.inj h
      have e2 : (if (if 0 < pfx (fun j => pB a n (at_ + j)) [117, 112] 0 then pfx (fun j => pB a n (at_ + j)) [117, 112] 0 else 0) < 0 then 0 else (if 0 < pfx (fun j => pB a n (at_ + j)) [117, 112] 0 then pfx (fun j => pB a n (at_ + j)) [117, 112] 0 else 0)) = pfx (fun j => pB a n (at_ + j)) [117, 112] 0 := by
        rw [if_neg (by omega)]
        split <;> omega
      rw [e2]
      exact ⟨⟨rfl, fun z => absurd z (nI_nem1 (by omega))⟩, fun z => absurd z (nI_nem1 (by omega))⟩
  · intro l
    have l : ¬ pB a n (at_ + 0) = 117 := l
    have p1 : pfx (fun j => pB a n (at_ + j)) [117, 112] 0 = 0 := by rw [pfx, if_neg l]
    rw [p1, if_neg (show ¬ 0 = ([117, 112] : List Int32).length by decide)] at h
    rw [X2]
    by_cases e : pfx (fun j => pB a n (at_ + j)) [100, 111, 119, 110] 0 = ([100, 111, 119, 110] : List Int32).length
    · rw [if_pos e] at h ⊢
      obtain ⟨rfl, rfl⟩ := Prod.mk.inj h
      exact ⟨eqQ_rf, fun _ => rfl⟩
    · rw [if_neg e] at h ⊢
      obtain ⟨rfl, rfl⟩ := Prod.mk.inj h
      have e2 : (if (if 0 < 0 then 0 else 0) < pfx (fun j => pB a n (at_ + j)) [100, 111, 119, 110] 0 then pfx (fun j => pB a n (at_ + j)) [100, 111, 119, 110] 0 else (if 0 < 0 then 0 else 0)) = pfx (fun j => pB a n (at_ + j)) [100, 111, 119, 110] 0 := by
        simp only [Nat.lt_irrefl, if_false]
        split <;> omega
      rw [e2]
      exact ⟨⟨rfl, fun z => absurd z (nI_nem1 (by omega))⟩, fun z => absurd z (nI_nem1 (by omega))⟩
def rdR (μ : zMu) (r : Nat) (oc ky dn : Int32) (ts : List rT) (any : Int32) : Prop := ocR oc (μ 66 0 r) ∧ μ 67 0 r = ky ∧ vp_in ky 7 ∧ upR dn (μ 68 0 r) ∧ μ 72 0 r = nI ts.length ∧ ts.length ≤ 4 ∧ μ 69 0 r = any ∧ (any = 0 ∨ any = 1) ∧ (ts = [] → any = 0) ∧ (∀ i e, ts[i]? = some e → tE μ (4 * r + i) e) ∧ ∀ e ∈ ts, tOk e
set_option maxHeartbeats 4000000 in
theorem c_Mo_read {d n r at_ : Nat} {μ : zMu} {a : Nat → Int32} {oc ky dn any fl x : Int32} {ts : List rT} {K : Option zV → zMu → Prop} (E : mE μ a n) (hr : r < 16) (hx : x = nI r) (hR : qRR a n oc ky dn ts any at_ fl)
    (hK : ∀ μ', hF r μ μ' → μ' 48 0 29 = fl → (¬ fl = -1 → 0 ≤ fl) → (fl = -1 → rdR μ' r oc ky dn ts any) → K none μ') : Ct (d + 4) m_Mo_read [zR 48 0, zI x] μ K := by
  subst hx
  refine zmeet rfl (Nat.le_of_ble_eq_true rfl) (fun S => ?_)
  have h200 := E.2.1
  have cr : (nI r).toNatClampNeg = r := nI_clamp (by omega)
  have vr : vp_in (nI r) 16 := vp_in_nI hr (by omega)
  have i32 : ∀ z : Int32, z = -1 → ¬ 0 ≤ z := fun z h => by rw [h]; decide
  obtain ⟨qh, qe, ⟨v1, q1, q2, v3, q3, q4, q5, q6, v7, e1, e2, e3, eoc, e4, e5, e6, e7, edn⟩, hTs, -, hfl⟩ := hR
  have n1 : q1.1 ≤ n := by have := qW_le (a := a) (n := n) (k := 0) (q := (0, -1)) (by omega) (Nat.zero_le n); rw [e1] at this; exact this
  have n2 : q2.1 ≤ n := by rw [← e2]; exact qB_le n1
  have n3 : q3.1 ≤ n := by have := qW_le (a := a) (n := n) (k := 1) (q := q2) (by omega) n2; rw [e3] at this; exact this
  have n4 : q4.1 ≤ n := by rw [← e4]; exact qB_le n3
  have n5 : q5.1 ≤ n := by have := qW_le (a := a) (n := n) (k := 2) (q := q4) (by omega) n4; rw [e5] at this; exact this
  have n6 : q6.1 ≤ n := by rw [← e6]; exact qB_le n5
  have n7 : qh.1 ≤ n := by have := qW_le (a := a) (n := n) (k := 3) (q := q6) (by omega) n6; rw [e7] at this; exact this
  have fge : ∀ {q qm : zQ} {μ1 : zMu}, qOk qm → eqQ q qm → μ1 48 0 29 = qm.2 → ¬ q.2 = -1 → 0 ≤ μ1 48 0 29 := fun {q qm μ1} ho he s29 o => by
    rw [s29]
    rcases qOk_neg ho with ⟨z, -⟩ | ⟨-, z⟩
    · exact absurd (he.1.symm.trans z) o
    · exact z
  -- the tests
  have S7 : ∀ (μ1 : zMu) (qm : zQ), hF r μ μ1 → μ1 48 0 28 = nI qm.1 → μ1 48 0 29 = qm.2 → qOk qm → eqQ qh qm → μ1 72 0 r = 0 → μ1 69 0 r = 0 → (qh.2 = -1 → ocR oc (μ1 66 0 r) ∧ μ1 67 0 r = ky ∧ vp_in ky 7 ∧ upR dn (μ1 68 0 r)) → zG S (d + 4) m_Mo_read K 197 [some (zR 48 0), some (zI (nI r))] [] μ1 := by
    intro μ1 qm F s28 s29 ho he s72 s69 vals
    by_cases o1 : qh.2 = -1
    case neg =>
      have hf := fge ho he s29 o1
      have hnm : ¬ qMore n qh := fun z => o1 z.1
      rcases hTs with ⟨-, h2, h3, h4⟩ | ⟨hm, -⟩
      case inr => exact absurd hm hnm
      subst h4
      have hfl' : fl = qe.2 := by
        rcases hfl with ⟨hm, -⟩ | ⟨-, e⟩
        · exact absurd hm hnm
        · exact e
      have hk := hK μ1 F (by rw [s29, he.1, hfl']) (fun _ => by rw [hfl', ← he.1, ← s29]; exact hf) (fun z => absurd (by rw [← hfl']; exact z) o1)
      repeat' (first
        | exact hk
        | refine br_t hf ?_
        | (refine zs k_Mo_read rfl ?_; conv => whnf)
        | refine ⟨Nat.zero_lt_one, rfl, ?_⟩
        | refine ⟨rfl, ?_⟩
        | refine ⟨⟨Nat.zero_lt_one, rfl⟩, Nat.le_of_ble_eq_true rfl, ?_⟩
        | refine ⟨Nat.le_of_ble_eq_true rfl, Nat.le_of_ble_eq_true rfl, ?_⟩
        | refine ⟨(by first | exact Nat.zero_lt_one | assumption | omega), (by first | assumption | exact vp_in_nI (by omega) (by omega) | (unfold vp_in; decide)), ?_⟩
        | refine ⟨(by first | exact Nat.zero_lt_one | assumption | omega), rfl, ?_⟩
        | refine ⟨⟨(by first | exact Nat.zero_lt_one | assumption | omega), rfl⟩, Nat.le_of_ble_eq_true rfl, ?_⟩
        | refine ⟨(by first | exact Nat.zero_lt_one | assumption | omega), ?_⟩
        | refine ⟨Or.inl rfl, ?_⟩
        | refine ⟨Or.inr (Or.inl rfl), ?_⟩
        | refine ⟨Or.inr (Or.inr rfl), ?_⟩
        | refine ⟨Or.inr ⟨rfl, (by first | exact Or.inl rfl | exact Or.inr rfl | assumption)⟩, ?_⟩
        | refine ⟨fun h => absurd h (by decide), fun _ => ?_⟩
        | refine ⟨fun _ => ?_, fun h => absurd h (by decide)⟩
        | refine ⟨fun h => ?_, fun h => ?_⟩
        | fail)
    obtain rfl := (eqQ_1 he o1).symm
    obtain ⟨w1, w2, w3, w4⟩ := vals o1
    have hf : ¬ 0 ≤ μ1 48 0 29 := i32 _ (s29.trans o1)
    have E1 := hF_E F E
    by_cases hm : qMore n qh
    case neg =>
      rcases hTs with ⟨-, h2, h3, h4⟩ | ⟨hm', -⟩
      case inr => exact absurd hm' hm
      subst h4
      have hfl' : fl = -1 := by
        rcases hfl with ⟨hm', -⟩ | ⟨-, e⟩
        · exact absurd hm' hm
        · exact e.trans o1
      have hge : μ1 48 0 14 ≤ μ1 48 0 28 := by
        rw [E1.1, s28]
        refine nI_le ?_ (by omega)
        rcases Nat.lt_or_ge qe.1 n with z | z
        · exact absurd ⟨o1, z⟩ hm
        · exact z
      have hk := hK μ1 F (by rw [s29, o1, hfl']) (fun z => absurd hfl' z) (fun _ => ⟨w1, w2, w3, w4, by rw [s72, h2]; rfl, by rw [h2]; decide, by rw [s69, h3], Or.inl h3, fun _ => h3, fun i e hi => by rw [h2] at hi; simp at hi, fun e hi => by rw [h2] at hi; cases hi⟩)
      repeat' (first
        | exact hk
        | refine br_f hf ?_
        | refine br_t hge ?_
        | (refine zs k_Mo_read rfl ?_; conv => whnf)
        | refine ⟨Nat.zero_lt_one, rfl, ?_⟩
        | refine ⟨rfl, ?_⟩
        | refine ⟨⟨Nat.zero_lt_one, rfl⟩, Nat.le_of_ble_eq_true rfl, ?_⟩
        | refine ⟨Nat.le_of_ble_eq_true rfl, Nat.le_of_ble_eq_true rfl, ?_⟩
        | refine ⟨(by first | exact Nat.zero_lt_one | assumption | omega), (by first | assumption | exact vp_in_nI (by omega) (by omega) | (unfold vp_in; decide)), ?_⟩
        | refine ⟨(by first | exact Nat.zero_lt_one | assumption | omega), rfl, ?_⟩
        | refine ⟨⟨(by first | exact Nat.zero_lt_one | assumption | omega), rfl⟩, Nat.le_of_ble_eq_true rfl, ?_⟩
        | refine ⟨(by first | exact Nat.zero_lt_one | assumption | omega), ?_⟩
        | refine ⟨Or.inl rfl, ?_⟩
        | refine ⟨Or.inr (Or.inl rfl), ?_⟩
        | refine ⟨Or.inr (Or.inr rfl), ?_⟩
        | refine ⟨Or.inr ⟨rfl, (by first | exact Or.inl rfl | exact Or.inr rfl | assumption)⟩, ?_⟩
        | refine ⟨fun h => absurd h (by decide), fun _ => ?_⟩
        | refine ⟨fun _ => ?_, fun h => absurd h (by decide)⟩
        | refine ⟨fun h => ?_, fun h => ?_⟩
        | fail)
    rcases hTs with ⟨hm', -⟩ | ⟨-, u2, p1, p2, p3, p4, t, ts', f1, f2, f3, fT, fL, hts⟩
    · exact absurd hm hm'
    have hlt : ¬ μ1 48 0 14 ≤ μ1 48 0 28 := by rw [E1.1, s28]; exact nI_ge hm.2 (by omega)
    have m1 : p1.1 ≤ n := by rw [← f1]; exact qB_le n7
    have m2 : p2.1 ≤ n := by have := qW_le (a := a) (n := n) (k := 4) (q := p1) (by omega) m1; rw [f2] at this; exact this
    have m3 : p3.1 ≤ n := by rw [← f3]; exact qB_le m2
    have m4 := qTR_n m3 fT
    have hgo : ∀ (μ2 : zMu) (fl2 : Int32), gF r μ1 μ2 → ((qMore n qe ∧ fl2 = nI qe.1) ∨ (¬ qMore n qe ∧ fl2 = qe.2)) → μ2 48 0 29 = fl2 → (fl2 = -1 → μ2 72 0 r = nI (t :: ts').length ∧ (t :: ts').length ≤ 4 ∧ μ2 69 0 r = any ∧ (any = 0 ∨ any = 1) ∧ ∀ i e, (t :: ts')[i]? = some e → tE μ2 (4 * r + i) e) → (¬ fl2 = -1 → 0 ≤ fl2) → K none μ2 := fun μ2 fl2 G2 c1 c2 c3 c4 => by
      have hfe : fl = fl2 := by
        rcases hfl with ⟨x1, x2⟩ | ⟨x1, x2⟩
        · rcases c1 with ⟨y1, y2⟩ | ⟨y1, y2⟩
          · rw [x2, y2]
          · exact absurd x1 y1
        · rcases c1 with ⟨y1, y2⟩ | ⟨y1, y2⟩
          · exact absurd y1 x1
          · rw [x2, y2]
      subst hfe
      refine hK μ2 (hF_gF F G2) c2 c4 (fun z => ?_)
      obtain ⟨k1, k2, k3, k4, k5⟩ := c3 z
      have g66 : ∀ f, f ∉ [48, 69, 72, 73, 74, 75, 76, 77] → μ2 f = μ1 f := G2.1
      have oe : qe.2 = -1 := by
        rcases c1 with ⟨y1, y2⟩ | ⟨y1, y2⟩
        · exact y1.1
        · rw [← y2]
          exact z
      have o4 : p4.2 = -1 := by
        by_cases w : p4.2 = -1
        · exact w
        · obtain ⟨-, -, h5⟩ := qLR_no (fun v => w v.1) fL
          rw [h5] at oe
          exact oe
      unfold rdR
      rw [g66 66 (by decide), g66 67 (by decide), g66 68 (by decide), hts]
      exact ⟨w1, w2, w3, w4, k1, k2, k3, k4, (fun h => by cases h), k5, (fun e he => by
        rcases List.mem_cons.mp he with rfl | he
        · exact qTR_ok h200 m3 fT o4
        · exact qLR_ok h200 m4 fL oe e he)⟩
    repeat' (first
      | refine br_f hf ?_
      | refine br_f hlt ?_
      | refine c_Mo_readTests (q := qh) (q1 := p1) (q2 := p2) (q3 := p3) (q4 := p4) (q' := qe) (t := t) (ts := ts') (any' := any) (v2 := u2) E1 s28 (s29.trans o1) o1 n7 rfl hr s72 s69 f1 f2 f3 fT fL (fun μ2 fl2 G2 c1 c2 c2b c3 => ?_)
      | exact hgo μ2 fl2 G2 c1 c2 c3 c2b
      | (refine zs k_Mo_read rfl ?_; conv => whnf)
      | refine ⟨Nat.zero_lt_one, rfl, ?_⟩
      | refine ⟨rfl, ?_⟩
      | refine ⟨⟨Nat.zero_lt_one, rfl⟩, Nat.le_of_ble_eq_true rfl, ?_⟩
      | refine ⟨Nat.le_of_ble_eq_true rfl, Nat.le_of_ble_eq_true rfl, ?_⟩
      | refine ⟨(by first | exact Nat.zero_lt_one | assumption | omega), (by first | assumption | exact vp_in_nI (by omega) (by omega) | (unfold vp_in; decide)), ?_⟩
      | refine ⟨(by first | exact Nat.zero_lt_one | assumption | omega), rfl, ?_⟩
      | refine ⟨⟨(by first | exact Nat.zero_lt_one | assumption | omega), rfl⟩, Nat.le_of_ble_eq_true rfl, ?_⟩
      | refine ⟨(by first | exact Nat.zero_lt_one | assumption | omega), ?_⟩
      | refine ⟨Or.inl rfl, ?_⟩
      | refine ⟨Or.inr (Or.inl rfl), ?_⟩
      | refine ⟨Or.inr (Or.inr rfl), ?_⟩
      | refine ⟨Or.inr ⟨rfl, (by first | exact Or.inl rfl | exact Or.inr rfl | assumption)⟩, ?_⟩
      | refine ⟨fun h => absurd h (by decide), fun _ => ?_⟩
      | refine ⟨fun _ => ?_, fun h => absurd h (by decide)⟩
      | refine ⟨fun h => ?_, fun h => ?_⟩
      | fail)
  -- up or down
  have S6 : ∀ (μ1 : zMu) (qm : zQ), hF r μ μ1 → μ1 48 0 28 = nI qm.1 → μ1 48 0 29 = qm.2 → qOk qm → eqQ q6 qm → μ1 72 0 r = 0 → μ1 69 0 r = 0 → (q6.2 = -1 → ocR oc (μ1 66 0 r) ∧ μ1 67 0 r = ky ∧ vp_in ky 7) → zG S (d + 4) m_Mo_read K 143 [some (zR 48 0), some (zI (nI r))] [] μ1 := by
    intro μ1 qm F s28 s29 ho he s72 s69 vals
    by_cases o1 : q6.2 = -1
    case neg =>
      have hf := fge ho he s29 o1
      rw [qW_ft o1] at e7
      have e72 := (Prod.mk.inj e7).2
      have hgo := S7 μ1 qm F s28 s29 ho (by rw [← e72]; exact he) s72 s69 (fun z => absurd (by rw [e72]; exact z) o1)
      repeat' (first
        | exact hgo
        | refine br_t hf ?_
        | (refine zs k_Mo_read rfl ?_; conv => whnf)
        | refine ⟨Nat.zero_lt_one, rfl, ?_⟩
        | refine ⟨rfl, ?_⟩
        | refine ⟨⟨Nat.zero_lt_one, rfl⟩, Nat.le_of_ble_eq_true rfl, ?_⟩
        | refine ⟨Nat.le_of_ble_eq_true rfl, Nat.le_of_ble_eq_true rfl, ?_⟩
        | refine ⟨(by first | exact Nat.zero_lt_one | assumption | omega), (by first | assumption | exact vp_in_nI (by omega) (by omega) | (unfold vp_in; decide)), ?_⟩
        | refine ⟨(by first | exact Nat.zero_lt_one | assumption | omega), rfl, ?_⟩
        | refine ⟨⟨(by first | exact Nat.zero_lt_one | assumption | omega), rfl⟩, Nat.le_of_ble_eq_true rfl, ?_⟩
        | refine ⟨(by first | exact Nat.zero_lt_one | assumption | omega), ?_⟩
        | refine ⟨Or.inl rfl, ?_⟩
        | refine ⟨Or.inr (Or.inl rfl), ?_⟩
        | refine ⟨Or.inr (Or.inr rfl), ?_⟩
        | refine ⟨Or.inr ⟨rfl, (by first | exact Or.inl rfl | exact Or.inr rfl | assumption)⟩, ?_⟩
        | refine ⟨fun h => absurd h (by decide), fun _ => ?_⟩
        | refine ⟨fun _ => ?_, fun h => absurd h (by decide)⟩
        | refine ⟨fun h => ?_, fun h => ?_⟩
        | fail)
    obtain rfl := (eqQ_1 he o1).symm
    obtain ⟨w1, w2, w3⟩ := vals o1
    have hf : ¬ 0 ≤ μ1 48 0 29 := i32 _ (s29.trans o1)
    have E1 := hF_E F E
    obtain ⟨y1, y2⟩ := w3_eq (by omega) o1 e7
    by_cases l : pB a n q6.1 = 117
    · obtain ⟨z1, z2⟩ := y1 l
      have F2 : hF r μ (zu μ1 68 0 r 1) := hF_r F (by decide)
      have hst : ∀ r', r' = r → zu μ1 68 0 r' (vp_nar .boolean 1) = zu μ1 68 0 r 1 := fun r' h => by rw [h]; rfl
      have hgo := S7 (cM (zu μ1 68 0 r 1) (mX a n [117, 112] q6)) (mX a n [117, 112] q6) (hF_cM F2) cM_28 cM_29 (mX_ok h200 (by decide) ho) z1 s72 s69 (fun z => ⟨w1, w2, w3, Or.inl ⟨by rw [edn, z2 z]; rfl, by rw [cM_o (by omega), zu_eq]⟩⟩)
      have ne0 : ¬ zu μ1 68 0 r 1 68 0 (nI r).toNatClampNeg = 0 := by rw [cr, zu_eq]; decide
      have e1' : zG S (d + 4) m_Mo_read K 170 [some (zR 48 0), some (zI (nI r))] [] (zu μ1 68 0 r 1) := by
        repeat' (first
          | exact hgo
          | refine br_f ne0 ?_
          | refine c_Mo_expect (cs := [117, 112]) (q := q6) (hF_E F2 E) s28 s29 ho rfl (by decide) (by decide) (by decide) ?_
          | (refine zs k_Mo_read rfl ?_; conv => whnf)
          | refine ⟨Nat.zero_lt_one, rfl, ?_⟩
          | refine ⟨rfl, ?_⟩
          | refine ⟨⟨Nat.zero_lt_one, rfl⟩, Nat.le_of_ble_eq_true rfl, ?_⟩
          | refine ⟨Nat.le_of_ble_eq_true rfl, Nat.le_of_ble_eq_true rfl, ?_⟩
          | refine ⟨(by first | exact Nat.zero_lt_one | assumption | omega), (by first | assumption | exact vp_in_nI (by omega) (by omega) | (unfold vp_in; decide)), ?_⟩
          | refine ⟨(by first | exact Nat.zero_lt_one | assumption | omega), rfl, ?_⟩
          | refine ⟨⟨(by first | exact Nat.zero_lt_one | assumption | omega), rfl⟩, Nat.le_of_ble_eq_true rfl, ?_⟩
          | refine ⟨(by first | exact Nat.zero_lt_one | assumption | omega), ?_⟩
          | refine ⟨Or.inl rfl, ?_⟩
          | refine ⟨Or.inr (Or.inl rfl), ?_⟩
          | refine ⟨Or.inr (Or.inr rfl), ?_⟩
          | refine ⟨Or.inr ⟨rfl, (by first | exact Or.inl rfl | exact Or.inr rfl | assumption)⟩, ?_⟩
          | refine ⟨fun h => absurd h (by decide), fun _ => ?_⟩
          | refine ⟨fun _ => ?_, fun h => absurd h (by decide)⟩
          | refine ⟨fun h => ?_, fun h => ?_⟩
          | fail)
      repeat' (first
        | (rw [hst _ cr]; exact e1')
        | refine br_f hf ?_
        | refine c_Mo_letter E1 s28 (by omega) ?_
        | refine bn_f l ?_
        | (refine zs k_Mo_read rfl ?_; conv => whnf)
        | refine ⟨Nat.zero_lt_one, rfl, ?_⟩
        | refine ⟨rfl, ?_⟩
        | refine ⟨⟨Nat.zero_lt_one, rfl⟩, Nat.le_of_ble_eq_true rfl, ?_⟩
        | refine ⟨Nat.le_of_ble_eq_true rfl, Nat.le_of_ble_eq_true rfl, ?_⟩
        | refine ⟨(by first | exact Nat.zero_lt_one | assumption | omega), (by first | assumption | exact vp_in_nI (by omega) (by omega) | (unfold vp_in; decide)), ?_⟩
        | refine ⟨(by first | exact Nat.zero_lt_one | assumption | omega), rfl, ?_⟩
        | refine ⟨⟨(by first | exact Nat.zero_lt_one | assumption | omega), rfl⟩, Nat.le_of_ble_eq_true rfl, ?_⟩
        | refine ⟨(by first | exact Nat.zero_lt_one | assumption | omega), ?_⟩
        | refine ⟨Or.inl rfl, ?_⟩
        | refine ⟨Or.inr (Or.inl rfl), ?_⟩
        | refine ⟨Or.inr (Or.inr rfl), ?_⟩
        | refine ⟨Or.inr ⟨rfl, (by first | exact Or.inl rfl | exact Or.inr rfl | assumption)⟩, ?_⟩
        | refine ⟨fun h => absurd h (by decide), fun _ => ?_⟩
        | refine ⟨fun _ => ?_, fun h => absurd h (by decide)⟩
        | refine ⟨fun h => ?_, fun h => ?_⟩
        | fail)
    · obtain ⟨z1, z2⟩ := y2 l
      have F2 : hF r μ (zu μ1 68 0 r 0) := hF_r F (by decide)
      have hst : ∀ r', r' = r → zu μ1 68 0 r' (vp_nar .boolean 0) = zu μ1 68 0 r 0 := fun r' h => by rw [h]; rfl
      have hgo := S7 (cM (zu μ1 68 0 r 0) (mX a n [100, 111, 119, 110] q6)) (mX a n [100, 111, 119, 110] q6) (hF_cM F2) cM_28 cM_29 (mX_ok h200 (by decide) ho) z1 s72 s69 (fun z => ⟨w1, w2, w3, Or.inr ⟨by rw [edn, z2 z]; rfl, by rw [cM_o (by omega), zu_eq]⟩⟩)
      have ne0 : zu μ1 68 0 r 0 68 0 (nI r).toNatClampNeg = 0 := by rw [cr, zu_eq]
      have e1' : zG S (d + 4) m_Mo_read K 170 [some (zR 48 0), some (zI (nI r))] [] (zu μ1 68 0 r 0) := by
        repeat' (first
          | exact hgo
          | refine br_t ne0 ?_
          | refine c_Mo_expect (cs := [100, 111, 119, 110]) (q := q6) (hF_E F2 E) s28 s29 ho rfl (by decide) (by decide) (by decide) ?_
          | (refine zs k_Mo_read rfl ?_; conv => whnf)
          | refine ⟨Nat.zero_lt_one, rfl, ?_⟩
          | refine ⟨rfl, ?_⟩
          | refine ⟨⟨Nat.zero_lt_one, rfl⟩, Nat.le_of_ble_eq_true rfl, ?_⟩
          | refine ⟨Nat.le_of_ble_eq_true rfl, Nat.le_of_ble_eq_true rfl, ?_⟩
          | refine ⟨(by first | exact Nat.zero_lt_one | assumption | omega), (by first | assumption | exact vp_in_nI (by omega) (by omega) | (unfold vp_in; decide)), ?_⟩
          | refine ⟨(by first | exact Nat.zero_lt_one | assumption | omega), rfl, ?_⟩
          | refine ⟨⟨(by first | exact Nat.zero_lt_one | assumption | omega), rfl⟩, Nat.le_of_ble_eq_true rfl, ?_⟩
          | refine ⟨(by first | exact Nat.zero_lt_one | assumption | omega), ?_⟩
          | refine ⟨Or.inl rfl, ?_⟩
          | refine ⟨Or.inr (Or.inl rfl), ?_⟩
          | refine ⟨Or.inr (Or.inr rfl), ?_⟩
          | refine ⟨Or.inr ⟨rfl, (by first | exact Or.inl rfl | exact Or.inr rfl | assumption)⟩, ?_⟩
          | refine ⟨fun h => absurd h (by decide), fun _ => ?_⟩
          | refine ⟨fun _ => ?_, fun h => absurd h (by decide)⟩
          | refine ⟨fun h => ?_, fun h => ?_⟩
          | fail)
      repeat' (first
        | (rw [hst _ cr]; exact e1')
        | refine br_f hf ?_
        | refine c_Mo_letter E1 s28 (by omega) ?_
        | refine bn_t l ?_
        | (refine zs k_Mo_read rfl ?_; conv => whnf)
        | refine ⟨Nat.zero_lt_one, rfl, ?_⟩
        | refine ⟨rfl, ?_⟩
        | refine ⟨⟨Nat.zero_lt_one, rfl⟩, Nat.le_of_ble_eq_true rfl, ?_⟩
        | refine ⟨Nat.le_of_ble_eq_true rfl, Nat.le_of_ble_eq_true rfl, ?_⟩
        | refine ⟨(by first | exact Nat.zero_lt_one | assumption | omega), (by first | assumption | exact vp_in_nI (by omega) (by omega) | (unfold vp_in; decide)), ?_⟩
        | refine ⟨(by first | exact Nat.zero_lt_one | assumption | omega), rfl, ?_⟩
        | refine ⟨⟨(by first | exact Nat.zero_lt_one | assumption | omega), rfl⟩, Nat.le_of_ble_eq_true rfl, ?_⟩
        | refine ⟨(by first | exact Nat.zero_lt_one | assumption | omega), ?_⟩
        | refine ⟨Or.inl rfl, ?_⟩
        | refine ⟨Or.inr (Or.inl rfl), ?_⟩
        | refine ⟨Or.inr (Or.inr rfl), ?_⟩
        | refine ⟨Or.inr ⟨rfl, (by first | exact Or.inl rfl | exact Or.inr rfl | assumption)⟩, ?_⟩
        | refine ⟨fun h => absurd h (by decide), fun _ => ?_⟩
        | refine ⟨fun _ => ?_, fun h => absurd h (by decide)⟩
        | refine ⟨fun h => ?_, fun h => ?_⟩
        | fail)
  have S5 : ∀ (μ1 : zMu) (qm : zQ), hF r μ μ1 → μ1 48 0 28 = nI qm.1 → μ1 48 0 29 = qm.2 → qOk qm → eqQ q5 qm → μ1 72 0 r = 0 → μ1 69 0 r = 0 → (q5.2 = -1 → ocR oc (μ1 66 0 r) ∧ μ1 67 0 r = ky ∧ vp_in ky 7) → zG S (d + 4) m_Mo_read K 136 [some (zR 48 0), some (zI (nI r))] [] μ1 := by
    intro μ1 qm F s28 s29 ho he s72 s69 vals
    have hgo := S6 (cM μ1 (mX a n [32] qm)) (mX a n [32] qm) (hF_cM F) cM_28 cM_29 (mX_ok h200 (by decide) ho) (by rw [← e6]; exact eqQ_B he) s72 s69 (fun z => vals (qB_st e6 z))
    repeat' (first
      | exact hgo
      | refine c_Mo_expect (cs := [32]) (q := qm) (hF_E F E) s28 s29 ho rfl (by decide) (by decide) (by decide) ?_
      | (refine zs k_Mo_read rfl ?_; conv => whnf)
      | refine ⟨Nat.zero_lt_one, rfl, ?_⟩
      | refine ⟨rfl, ?_⟩
      | refine ⟨⟨Nat.zero_lt_one, rfl⟩, Nat.le_of_ble_eq_true rfl, ?_⟩
      | refine ⟨Nat.le_of_ble_eq_true rfl, Nat.le_of_ble_eq_true rfl, ?_⟩
      | refine ⟨(by first | exact Nat.zero_lt_one | assumption | omega), (by first | assumption | exact vp_in_nI (by omega) (by omega) | (unfold vp_in; decide)), ?_⟩
      | refine ⟨(by first | exact Nat.zero_lt_one | assumption | omega), rfl, ?_⟩
      | refine ⟨⟨(by first | exact Nat.zero_lt_one | assumption | omega), rfl⟩, Nat.le_of_ble_eq_true rfl, ?_⟩
      | refine ⟨(by first | exact Nat.zero_lt_one | assumption | omega), ?_⟩
      | refine ⟨Or.inl rfl, ?_⟩
      | refine ⟨Or.inr (Or.inl rfl), ?_⟩
      | refine ⟨Or.inr (Or.inr rfl), ?_⟩
      | refine ⟨Or.inr ⟨rfl, (by first | exact Or.inl rfl | exact Or.inr rfl | assumption)⟩, ?_⟩
      | refine ⟨fun h => absurd h (by decide), fun _ => ?_⟩
      | refine ⟨fun _ => ?_, fun h => absurd h (by decide)⟩
      | refine ⟨fun h => ?_, fun h => ?_⟩
      | fail)
  -- the key
  have S4 : ∀ (μ1 : zMu) (qm : zQ), hF r μ μ1 → μ1 48 0 28 = nI qm.1 → μ1 48 0 29 = qm.2 → qOk qm → eqQ q4 qm → μ1 72 0 r = 0 → μ1 69 0 r = 0 → (q4.2 = -1 → ocR oc (μ1 66 0 r)) → zG S (d + 4) m_Mo_read K 118 [some (zR 48 0), some (zI (nI r))] [] μ1 := by
    intro μ1 qm F s28 s29 ho he s72 s69 vals
    by_cases o1 : q4.2 = -1
    case neg =>
      have hf := fge ho he s29 o1
      rw [qW_ft o1] at e5
      have e52 := (Prod.mk.inj e5).2
      have hgo := S5 μ1 qm F s28 s29 ho (by rw [← e52]; exact he) s72 s69 (fun z => absurd (by rw [e52]; exact z) o1)
      repeat' (first
        | exact hgo
        | refine br_t hf ?_
        | (refine zs k_Mo_read rfl ?_; conv => whnf)
        | refine ⟨Nat.zero_lt_one, rfl, ?_⟩
        | refine ⟨rfl, ?_⟩
        | refine ⟨⟨Nat.zero_lt_one, rfl⟩, Nat.le_of_ble_eq_true rfl, ?_⟩
        | refine ⟨Nat.le_of_ble_eq_true rfl, Nat.le_of_ble_eq_true rfl, ?_⟩
        | refine ⟨(by first | exact Nat.zero_lt_one | assumption | omega), (by first | assumption | exact vp_in_nI (by omega) (by omega) | (unfold vp_in; decide)), ?_⟩
        | refine ⟨(by first | exact Nat.zero_lt_one | assumption | omega), rfl, ?_⟩
        | refine ⟨⟨(by first | exact Nat.zero_lt_one | assumption | omega), rfl⟩, Nat.le_of_ble_eq_true rfl, ?_⟩
        | refine ⟨(by first | exact Nat.zero_lt_one | assumption | omega), ?_⟩
        | refine ⟨Or.inl rfl, ?_⟩
        | refine ⟨Or.inr (Or.inl rfl), ?_⟩
        | refine ⟨Or.inr (Or.inr rfl), ?_⟩
        | refine ⟨Or.inr ⟨rfl, (by first | exact Or.inl rfl | exact Or.inr rfl | assumption)⟩, ?_⟩
        | refine ⟨fun h => absurd h (by decide), fun _ => ?_⟩
        | refine ⟨fun _ => ?_, fun h => absurd h (by decide)⟩
        | refine ⟨fun h => ?_, fun h => ?_⟩
        | fail)
    obtain rfl := (eqQ_1 he o1).symm
    have w1 := vals o1
    have hf : ¬ 0 ≤ μ1 48 0 29 := i32 _ (s29.trans o1)
    have E1 := hF_E F E
    have e5' : qW a n (q4.1, -1) 2 = (ky, q5) := by rw [← o1]; exact e5
    have hky : q5.2 = -1 → vp_in ky 7 := fun z => by
      obtain ⟨i, hi, e⟩ := qW_ix (by omega) e5 z (by omega) (zWd_s 2 (by omega))
      have hi5 : i < 5 := hi
      rw [e]
      exact vp_in_nI (by omega) (by omega)
    rw [qW_eq (by omega), show zWd.getD 2 [] = zWf.take 5 from rfl] at e5'
    have go : ∀ (i : Nat) (Q : zQ), qOk Q → eqQ q5 Q → (q5.2 = -1 → nI i = ky) → ∀ r', r' = r → zG S (d + 4) m_Mo_read K 136 [some (zR 48 0), some (zI (nI r))] [] (zu (cM μ1 Q) 67 0 r' (nI i)) := fun i Q hQ heQ hv r' hr' => by
      rw [hr']
      exact S5 _ Q (hF_r (hF_cM F) (by decide)) (by rw [zu_ne (by omega)]; exact cM_28) (by rw [zu_ne (by omega)]; exact cM_29) hQ heQ s72 s69 (fun z => ⟨w1, by rw [zu_eq]; exact hv z, hky z⟩)
    repeat' (first
      | refine br_f hf ?_
      | refine c_Mo_word (m := 5) E1 s28 (s29.trans o1) n4 (by omega) (by omega) rfl (fun i L hw => ?_) (fun i L hw => ?_)
      | refine go i (q4.1 + L, -1) ?_ ?_ ?_ _ cr
      | refine go i (q4.1 + L, nI (q4.1 + L)) ?_ ?_ ?_ _ cr
      | (refine zs k_Mo_read rfl ?_; conv => whnf)
      | refine ⟨Nat.zero_lt_one, rfl, ?_⟩
      | refine ⟨rfl, ?_⟩
      | refine ⟨⟨Nat.zero_lt_one, rfl⟩, Nat.le_of_ble_eq_true rfl, ?_⟩
      | refine ⟨Nat.le_of_ble_eq_true rfl, Nat.le_of_ble_eq_true rfl, ?_⟩
      | refine ⟨(by first | exact Nat.zero_lt_one | assumption | omega), (by first | assumption | exact vp_in_nI (by omega) (by omega) | (unfold vp_in; decide)), ?_⟩
      | refine ⟨(by first | exact Nat.zero_lt_one | assumption | omega), rfl, ?_⟩
      | refine ⟨⟨(by first | exact Nat.zero_lt_one | assumption | omega), rfl⟩, Nat.le_of_ble_eq_true rfl, ?_⟩
      | refine ⟨(by first | exact Nat.zero_lt_one | assumption | omega), ?_⟩
      | refine ⟨Or.inl rfl, ?_⟩
      | refine ⟨Or.inr (Or.inl rfl), ?_⟩
      | refine ⟨Or.inr (Or.inr rfl), ?_⟩
      | refine ⟨Or.inr ⟨rfl, (by first | exact Or.inl rfl | exact Or.inr rfl | assumption)⟩, ?_⟩
      | refine ⟨fun h => absurd h (by decide), fun _ => ?_⟩
      | refine ⟨fun _ => ?_, fun h => absurd h (by decide)⟩
      | refine ⟨fun h => ?_, fun h => ?_⟩
      | fail)
    · rw [hw] at e5'
      obtain ⟨-, e52⟩ := Prod.mk.inj e5'
      have n5' := n5
      rw [← e52] at n5'
      exact ⟨by have : q4.1 + L ≤ n := n5'; show q4.1 + L ≤ 1000; omega, Or.inl rfl⟩
    · rw [hw] at e5'
      obtain ⟨-, e52⟩ := Prod.mk.inj e5'
      rw [← e52]
      exact eqQ_rf
    · rw [hw] at e5'
      obtain ⟨e51, -⟩ := Prod.mk.inj e5'
      exact fun _ => e51
    · obtain ⟨-, -, -, -, hL⟩ := mbl_no (b := fun j => pB a n (q4.1 + j)) (by omega) (by omega) hw
      exact ⟨by show q4.1 + L ≤ 1000; omega, Or.inr ⟨q4.1 + L, by omega, rfl⟩⟩
    · rw [hw] at e5'
      obtain ⟨-, e52⟩ := Prod.mk.inj e5'
      obtain ⟨-, -, -, -, hL⟩ := mbl_no (b := fun j => pB a n (q4.1 + j)) (by omega) (by omega) hw
      rw [← e52]
      exact ⟨rfl, fun z => absurd z (nI_nem1 (by omega))⟩
    · rw [hw] at e5'
      obtain ⟨-, e52⟩ := Prod.mk.inj e5'
      obtain ⟨-, -, -, -, hL⟩ := mbl_no (b := fun j => pB a n (q4.1 + j)) (by omega) (by omega) hw
      rw [← e52]
      exact fun z => absurd z (nI_nem1 (by omega))
  have S3 : ∀ (μ1 : zMu) (qm : zQ), hF r μ μ1 → μ1 48 0 28 = nI qm.1 → μ1 48 0 29 = qm.2 → qOk qm → eqQ q3 qm → μ1 72 0 r = 0 → μ1 69 0 r = 0 → (q3.2 = -1 → ocR oc (μ1 66 0 r)) → zG S (d + 4) m_Mo_read K 111 [some (zR 48 0), some (zI (nI r))] [] μ1 := by
    intro μ1 qm F s28 s29 ho he s72 s69 vals
    have hgo := S4 (cM μ1 (mX a n [32] qm)) (mX a n [32] qm) (hF_cM F) cM_28 cM_29 (mX_ok h200 (by decide) ho) (by rw [← e4]; exact eqQ_B he) s72 s69 (fun z => vals (qB_st e4 z))
    repeat' (first
      | exact hgo
      | refine c_Mo_expect (cs := [32]) (q := qm) (hF_E F E) s28 s29 ho rfl (by decide) (by decide) (by decide) ?_
      | (refine zs k_Mo_read rfl ?_; conv => whnf)
      | refine ⟨Nat.zero_lt_one, rfl, ?_⟩
      | refine ⟨rfl, ?_⟩
      | refine ⟨⟨Nat.zero_lt_one, rfl⟩, Nat.le_of_ble_eq_true rfl, ?_⟩
      | refine ⟨Nat.le_of_ble_eq_true rfl, Nat.le_of_ble_eq_true rfl, ?_⟩
      | refine ⟨(by first | exact Nat.zero_lt_one | assumption | omega), (by first | assumption | exact vp_in_nI (by omega) (by omega) | (unfold vp_in; decide)), ?_⟩
      | refine ⟨(by first | exact Nat.zero_lt_one | assumption | omega), rfl, ?_⟩
      | refine ⟨⟨(by first | exact Nat.zero_lt_one | assumption | omega), rfl⟩, Nat.le_of_ble_eq_true rfl, ?_⟩
      | refine ⟨(by first | exact Nat.zero_lt_one | assumption | omega), ?_⟩
      | refine ⟨Or.inl rfl, ?_⟩
      | refine ⟨Or.inr (Or.inl rfl), ?_⟩
      | refine ⟨Or.inr (Or.inr rfl), ?_⟩
      | refine ⟨Or.inr ⟨rfl, (by first | exact Or.inl rfl | exact Or.inr rfl | assumption)⟩, ?_⟩
      | refine ⟨fun h => absurd h (by decide), fun _ => ?_⟩
      | refine ⟨fun _ => ?_, fun h => absurd h (by decide)⟩
      | refine ⟨fun h => ?_, fun h => ?_⟩
      | fail)
  -- the occasion
  have S2 : ∀ (μ1 : zMu) (qm : zQ), hF r μ μ1 → μ1 48 0 28 = nI qm.1 → μ1 48 0 29 = qm.2 → qOk qm → eqQ q2 qm → μ1 72 0 r = 0 → μ1 69 0 r = 0 → zG S (d + 4) m_Mo_read K 31 [some (zR 48 0), some (zI (nI r))] [] μ1 := by
    intro μ1 qm F s28 s29 ho he s72 s69
    by_cases o1 : q2.2 = -1
    case neg =>
      have hf := fge ho he s29 o1
      rw [qW_ft o1] at e3
      have e32 := (Prod.mk.inj e3).2
      have hgo := S3 μ1 qm F s28 s29 ho (by rw [← e32]; exact he) s72 s69 (fun z => absurd (by rw [e32]; exact z) o1)
      repeat' (first
        | exact hgo
        | refine br_t hf ?_
        | (refine zs k_Mo_read rfl ?_; conv => whnf)
        | refine ⟨Nat.zero_lt_one, rfl, ?_⟩
        | refine ⟨rfl, ?_⟩
        | refine ⟨⟨Nat.zero_lt_one, rfl⟩, Nat.le_of_ble_eq_true rfl, ?_⟩
        | refine ⟨Nat.le_of_ble_eq_true rfl, Nat.le_of_ble_eq_true rfl, ?_⟩
        | refine ⟨(by first | exact Nat.zero_lt_one | assumption | omega), (by first | assumption | exact vp_in_nI (by omega) (by omega) | (unfold vp_in; decide)), ?_⟩
        | refine ⟨(by first | exact Nat.zero_lt_one | assumption | omega), rfl, ?_⟩
        | refine ⟨⟨(by first | exact Nat.zero_lt_one | assumption | omega), rfl⟩, Nat.le_of_ble_eq_true rfl, ?_⟩
        | refine ⟨(by first | exact Nat.zero_lt_one | assumption | omega), ?_⟩
        | refine ⟨Or.inl rfl, ?_⟩
        | refine ⟨Or.inr (Or.inl rfl), ?_⟩
        | refine ⟨Or.inr (Or.inr rfl), ?_⟩
        | refine ⟨Or.inr ⟨rfl, (by first | exact Or.inl rfl | exact Or.inr rfl | assumption)⟩, ?_⟩
        | refine ⟨fun h => absurd h (by decide), fun _ => ?_⟩
        | refine ⟨fun _ => ?_, fun h => absurd h (by decide)⟩
        | refine ⟨fun h => ?_, fun h => ?_⟩
        | fail)
    obtain rfl := (eqQ_1 he o1).symm
    have hf : ¬ 0 ≤ μ1 48 0 29 := i32 _ (s29.trans o1)
    have E1 := hF_E F E
    obtain ⟨y1, y2, y3⟩ := w1_eq (by omega) o1 e3
    have stA : ∀ (m : Int32) (Q : zQ), (Q = (q2.1 + 1, -1) ∨ Q = (q2.1 + 1, nI q2.1)) → eqQ q3 Q → (q3.2 = -1 → ocR oc m) → zG S (d + 4) m_Mo_read K 111 [some (zR 48 0), some (zI (nI r))] [] (cM (zu μ1 66 0 r m) Q) := fun m Q hQ heQ hv => by
      refine S3 _ Q (hF_cM (hF_r F (by decide))) cM_28 cM_29 ?_ heQ s72 s69 (fun z => by rw [cM_o (by omega), zu_eq]; exact hv z)
      rcases hQ with h | h
      · rw [h]
        exact ⟨by show q2.1 + 1 ≤ 1000; omega, Or.inl rfl⟩
      · rw [h]
        exact ⟨by show q2.1 + 1 ≤ 1000; omega, Or.inr ⟨q2.1, by omega, rfl⟩⟩
    -- the fault stays, or comes
    have st66 : ∀ (m : Int32), zu μ1 66 0 r m = cM (zu μ1 66 0 r m) (q2.1, -1) := fun m => cM_id s28 (s29.trans o1)
    have B1 : ∀ (m : Int32), eqQ q3 (q2.1 + 1, -1) → (q3.2 = -1 → ocR oc m) → zG S (d + 4) m_Mo_read K 87 [some (zR 48 0), some (zI (nI r))] [zR 48 0] (zu μ1 66 0 r m) := fun m heQ hv => by
      have hgo := stA m (q2.1 + 1, -1) (Or.inl rfl) heQ hv
      have hst : zu (zu (zu μ1 66 0 r m) 48 0 29 (zu μ1 66 0 r m 48 0 29)) 48 0 28 (zu (zu μ1 66 0 r m) 48 0 29 (zu μ1 66 0 r m 48 0 29) 48 0 28 + 1) = cM (zu μ1 66 0 r m) (q2.1 + 1, -1) := by
        have h1 : zu (zu μ1 66 0 r m) 48 0 29 (zu μ1 66 0 r m 48 0 29) = cM (zu μ1 66 0 r m) (q2.1, -1) := by
          conv => lhs; rw [st66 m]
          rw [cM_fl, cM_29]
        rw [h1, cM_28, nI_1, cM_at rfl]
      repeat' (first
        | (rw [hst]; exact hgo)
        | (refine zs k_Mo_read rfl ?_; conv => whnf)
        | refine ⟨Nat.zero_lt_one, rfl, ?_⟩
        | refine ⟨rfl, ?_⟩
        | refine ⟨⟨Nat.zero_lt_one, rfl⟩, Nat.le_of_ble_eq_true rfl, ?_⟩
        | refine ⟨Nat.le_of_ble_eq_true rfl, Nat.le_of_ble_eq_true rfl, ?_⟩
        | refine ⟨(by first | exact Nat.zero_lt_one | assumption | omega), (by first | assumption | exact vp_in_nI (by omega) (by omega) | (unfold vp_in; decide)), ?_⟩
        | refine ⟨(by first | exact Nat.zero_lt_one | assumption | omega), rfl, ?_⟩
        | refine ⟨⟨(by first | exact Nat.zero_lt_one | assumption | omega), rfl⟩, Nat.le_of_ble_eq_true rfl, ?_⟩
        | refine ⟨(by first | exact Nat.zero_lt_one | assumption | omega), ?_⟩
        | refine ⟨Or.inl rfl, ?_⟩
        | refine ⟨Or.inr (Or.inl rfl), ?_⟩
        | refine ⟨Or.inr (Or.inr rfl), ?_⟩
        | refine ⟨Or.inr ⟨rfl, (by first | exact Or.inl rfl | exact Or.inr rfl | assumption)⟩, ?_⟩
        | refine ⟨fun h => absurd h (by decide), fun _ => ?_⟩
        | refine ⟨fun _ => ?_, fun h => absurd h (by decide)⟩
        | refine ⟨fun h => ?_, fun h => ?_⟩
        | fail)
    have B2 : ∀ (m : Int32), eqQ q3 (q2.1 + 1, nI q2.1) → (q3.2 = -1 → ocR oc m) → zG S (d + 4) m_Mo_read K 94 [some (zR 48 0), some (zI (nI r))] [zR 48 0] (zu μ1 66 0 r m) := fun m heQ hv => by
      have hgo := stA m (q2.1 + 1, nI q2.1) (Or.inr rfl) heQ hv
      have hst : zu (zu (zu μ1 66 0 r m) 48 0 29 (zu μ1 66 0 r m 48 0 28)) 48 0 28 (zu (zu μ1 66 0 r m) 48 0 29 (zu μ1 66 0 r m 48 0 28) 48 0 28 + 1) = cM (zu μ1 66 0 r m) (q2.1 + 1, nI q2.1) := by
        have h1 : zu (zu μ1 66 0 r m) 48 0 29 (zu μ1 66 0 r m 48 0 28) = cM (zu μ1 66 0 r m) (q2.1, nI q2.1) := by
          conv => lhs; rw [st66 m]
          rw [cM_fl, cM_28]
        rw [h1, cM_28, nI_1, cM_at rfl]
      repeat' (first
        | (rw [hst]; exact hgo)
        | (refine zs k_Mo_read rfl ?_; conv => whnf)
        | refine ⟨Nat.zero_lt_one, rfl, ?_⟩
        | refine ⟨rfl, ?_⟩
        | refine ⟨⟨Nat.zero_lt_one, rfl⟩, Nat.le_of_ble_eq_true rfl, ?_⟩
        | refine ⟨Nat.le_of_ble_eq_true rfl, Nat.le_of_ble_eq_true rfl, ?_⟩
        | refine ⟨(by first | exact Nat.zero_lt_one | assumption | omega), (by first | assumption | exact vp_in_nI (by omega) (by omega) | (unfold vp_in; decide)), ?_⟩
        | refine ⟨(by first | exact Nat.zero_lt_one | assumption | omega), rfl, ?_⟩
        | refine ⟨⟨(by first | exact Nat.zero_lt_one | assumption | omega), rfl⟩, Nat.le_of_ble_eq_true rfl, ?_⟩
        | refine ⟨(by first | exact Nat.zero_lt_one | assumption | omega), ?_⟩
        | refine ⟨Or.inl rfl, ?_⟩
        | refine ⟨Or.inr (Or.inl rfl), ?_⟩
        | refine ⟨Or.inr (Or.inr rfl), ?_⟩
        | refine ⟨Or.inr ⟨rfl, (by first | exact Or.inl rfl | exact Or.inr rfl | assumption)⟩, ?_⟩
        | refine ⟨fun h => absurd h (by decide), fun _ => ?_⟩
        | refine ⟨fun _ => ?_, fun h => absurd h (by decide)⟩
        | refine ⟨fun h => ?_, fun h => ?_⟩
        | fail)
    have E66 : ∀ m : Int32, mE (zu μ1 66 0 r m) a n := fun m => hF_E (hF_r F (by decide)) E
    by_cases dg : 48 ≤ pB a n q2.1 ∧ pB a n q2.1 ≤ 57
    · obtain ⟨z1, z2⟩ := y2 dg
      have hoc : ocR oc (pB a n q2.1 - 48) := by
        have e : oc = pB a n q2.1 - 48 := by rw [eoc, z2]; grind
        obtain ⟨c, hc, ec⟩ := nI_of2 (x := pB a n q2.1) (M := 57) (n := 57) rfl (by have := dg.1; grind) dg.2
        have h48 : 48 ≤ c := (nI_leI (a := 48) (by omega) (by omega)).mp (by rw [← ec]; exact dg.1)
        have e2 : pB a n q2.1 - 48 = nI (c - 48) := by rw [ec]; exact pk_sub (b := 48) h48
        refine Or.inr ⟨?_, ?_, e.symm⟩
        · rw [e, e2]
          exact nI_pos' (by omega)
        · rw [e, e2]
          exact nI_le (b := 9) (by omega) (by omega)
      have hlt : pB a n q2.1 - 48 < 10 := by
        obtain ⟨c, hc, ec⟩ := nI_of2 (x := pB a n q2.1) (M := 57) (n := 57) rfl (by have := dg.1; grind) dg.2
        have h48 : 48 ≤ c := (nI_leI (a := 48) (by omega) (by omega)).mp (by rw [← ec]; exact dg.1)
        rw [ec, show nI c - 48 = nI (c - 48) from pk_sub (b := 48) h48]
        exact nI_lt (b := 10) (by omega) (by omega)
      have hgo := B1 (pB a n q2.1 - 48) (by rw [z1]; exact eqQ_rf) (fun _ => hoc)
      have c66 : zu μ1 66 0 r (pB a n q2.1 - 48) 66 0 (nI r).toNatClampNeg < 10 := by rw [cr, zu_eq]; exact hlt
      have hg2 : zG S (d + 4) m_Mo_read K 66 [some (zR 48 0), some (zI (nI r))] [] (zu μ1 66 0 r (pB a n q2.1 - 48)) := by
        repeat' (first
          | exact hgo
          | refine br_t c66 ?_
          | (refine zs k_Mo_read rfl ?_; conv => whnf)
          | refine ⟨Nat.zero_lt_one, rfl, ?_⟩
          | refine ⟨rfl, ?_⟩
          | refine ⟨⟨Nat.zero_lt_one, rfl⟩, Nat.le_of_ble_eq_true rfl, ?_⟩
          | refine ⟨Nat.le_of_ble_eq_true rfl, Nat.le_of_ble_eq_true rfl, ?_⟩
          | refine ⟨(by first | exact Nat.zero_lt_one | assumption | omega), (by first | assumption | exact vp_in_nI (by omega) (by omega) | (unfold vp_in; decide)), ?_⟩
          | refine ⟨(by first | exact Nat.zero_lt_one | assumption | omega), rfl, ?_⟩
          | refine ⟨⟨(by first | exact Nat.zero_lt_one | assumption | omega), rfl⟩, Nat.le_of_ble_eq_true rfl, ?_⟩
          | refine ⟨(by first | exact Nat.zero_lt_one | assumption | omega), ?_⟩
          | refine ⟨Or.inl rfl, ?_⟩
          | refine ⟨Or.inr (Or.inl rfl), ?_⟩
          | refine ⟨Or.inr (Or.inr rfl), ?_⟩
          | refine ⟨Or.inr ⟨rfl, (by first | exact Or.inl rfl | exact Or.inr rfl | assumption)⟩, ?_⟩
          | refine ⟨fun h => absurd h (by decide), fun _ => ?_⟩
          | refine ⟨fun _ => ?_, fun h => absurd h (by decide)⟩
          | refine ⟨fun h => ?_, fun h => ?_⟩
          | fail)
      repeat' (first
        | (rw [cr]; exact hg2)
        | refine br_f hf ?_
        | refine c_Mo_letter E1 s28 (by omega) ?_
        | refine c_Mo_isDigit (fun _ => ?_) (fun q => absurd dg q)
        | (refine zs k_Mo_read rfl ?_; conv => whnf)
        | refine ⟨Nat.zero_lt_one, rfl, ?_⟩
        | refine ⟨rfl, ?_⟩
        | refine ⟨⟨Nat.zero_lt_one, rfl⟩, Nat.le_of_ble_eq_true rfl, ?_⟩
        | refine ⟨Nat.le_of_ble_eq_true rfl, Nat.le_of_ble_eq_true rfl, ?_⟩
        | refine ⟨(by first | exact Nat.zero_lt_one | assumption | omega), (by first | assumption | exact vp_in_nI (by omega) (by omega) | (unfold vp_in; decide)), ?_⟩
        | refine ⟨(by first | exact Nat.zero_lt_one | assumption | omega), rfl, ?_⟩
        | refine ⟨⟨(by first | exact Nat.zero_lt_one | assumption | omega), rfl⟩, Nat.le_of_ble_eq_true rfl, ?_⟩
        | refine ⟨(by first | exact Nat.zero_lt_one | assumption | omega), ?_⟩
        | refine ⟨Or.inl rfl, ?_⟩
        | refine ⟨Or.inr (Or.inl rfl), ?_⟩
        | refine ⟨Or.inr (Or.inr rfl), ?_⟩
        | refine ⟨Or.inr ⟨rfl, (by first | exact Or.inl rfl | exact Or.inr rfl | assumption)⟩, ?_⟩
        | refine ⟨fun h => absurd h (by decide), fun _ => ?_⟩
        | refine ⟨fun _ => ?_, fun h => absurd h (by decide)⟩
        | refine ⟨fun h => ?_, fun h => ?_⟩
        | fail)
    · have n66 : ¬ zu μ1 66 0 r 10 66 0 (nI r).toNatClampNeg < 10 := by rw [cr, zu_eq]; decide
      by_cases l : pB a n q2.1 = 42
      · obtain ⟨z1, z2⟩ := y1 l
        have hoc : ocR oc 10 := Or.inl ⟨by rw [eoc, z2]; decide, rfl⟩
        have hgo := B1 10 (by rw [z1]; exact eqQ_rf) (fun _ => hoc)
        have hg2 : zG S (d + 4) m_Mo_read K 66 [some (zR 48 0), some (zI (nI r))] [] (zu μ1 66 0 r 10) := by
          repeat' (first
            | exact hgo
            | refine br_f n66 ?_
            | refine c_Mo_letter (E66 10) s28 (by omega) ?_
            | refine bn_f l ?_
            | (refine zs k_Mo_read rfl ?_; conv => whnf)
            | refine ⟨Nat.zero_lt_one, rfl, ?_⟩
            | refine ⟨rfl, ?_⟩
            | refine ⟨⟨Nat.zero_lt_one, rfl⟩, Nat.le_of_ble_eq_true rfl, ?_⟩
            | refine ⟨Nat.le_of_ble_eq_true rfl, Nat.le_of_ble_eq_true rfl, ?_⟩
            | refine ⟨(by first | exact Nat.zero_lt_one | assumption | omega), (by first | assumption | exact vp_in_nI (by omega) (by omega) | (unfold vp_in; decide)), ?_⟩
            | refine ⟨(by first | exact Nat.zero_lt_one | assumption | omega), rfl, ?_⟩
            | refine ⟨⟨(by first | exact Nat.zero_lt_one | assumption | omega), rfl⟩, Nat.le_of_ble_eq_true rfl, ?_⟩
            | refine ⟨(by first | exact Nat.zero_lt_one | assumption | omega), ?_⟩
            | refine ⟨Or.inl rfl, ?_⟩
            | refine ⟨Or.inr (Or.inl rfl), ?_⟩
            | refine ⟨Or.inr (Or.inr rfl), ?_⟩
            | refine ⟨Or.inr ⟨rfl, (by first | exact Or.inl rfl | exact Or.inr rfl | assumption)⟩, ?_⟩
            | refine ⟨fun h => absurd h (by decide), fun _ => ?_⟩
            | refine ⟨fun _ => ?_, fun h => absurd h (by decide)⟩
            | refine ⟨fun h => ?_, fun h => ?_⟩
            | fail)
        repeat' (first
          | (rw [cr]; exact hg2)
          | refine br_f hf ?_
          | refine c_Mo_letter E1 s28 (by omega) ?_
          | refine c_Mo_isDigit (fun q => absurd q dg) (fun _ => ?_)
          | (refine zs k_Mo_read rfl ?_; conv => whnf)
          | refine ⟨Nat.zero_lt_one, rfl, ?_⟩
          | refine ⟨rfl, ?_⟩
          | refine ⟨⟨Nat.zero_lt_one, rfl⟩, Nat.le_of_ble_eq_true rfl, ?_⟩
          | refine ⟨Nat.le_of_ble_eq_true rfl, Nat.le_of_ble_eq_true rfl, ?_⟩
          | refine ⟨(by first | exact Nat.zero_lt_one | assumption | omega), (by first | assumption | exact vp_in_nI (by omega) (by omega) | (unfold vp_in; decide)), ?_⟩
          | refine ⟨(by first | exact Nat.zero_lt_one | assumption | omega), rfl, ?_⟩
          | refine ⟨⟨(by first | exact Nat.zero_lt_one | assumption | omega), rfl⟩, Nat.le_of_ble_eq_true rfl, ?_⟩
          | refine ⟨(by first | exact Nat.zero_lt_one | assumption | omega), ?_⟩
          | refine ⟨Or.inl rfl, ?_⟩
          | refine ⟨Or.inr (Or.inl rfl), ?_⟩
          | refine ⟨Or.inr (Or.inr rfl), ?_⟩
          | refine ⟨Or.inr ⟨rfl, (by first | exact Or.inl rfl | exact Or.inr rfl | assumption)⟩, ?_⟩
          | refine ⟨fun h => absurd h (by decide), fun _ => ?_⟩
          | refine ⟨fun _ => ?_, fun h => absurd h (by decide)⟩
          | refine ⟨fun h => ?_, fun h => ?_⟩
          | fail)
      · have z1 := y3 l dg
        have hnm : ¬ q3.2 = -1 := by rw [z1]; exact nI_nem1 (by omega)
        have hgo := B2 10 ⟨z1.symm, fun z => absurd z hnm⟩ (fun z => absurd z hnm)
        have hg2 : zG S (d + 4) m_Mo_read K 66 [some (zR 48 0), some (zI (nI r))] [] (zu μ1 66 0 r 10) := by
          repeat' (first
            | exact hgo
            | refine br_f n66 ?_
            | refine c_Mo_letter (E66 10) s28 (by omega) ?_
            | refine bn_t l ?_
            | (refine zs k_Mo_read rfl ?_; conv => whnf)
            | refine ⟨Nat.zero_lt_one, rfl, ?_⟩
            | refine ⟨rfl, ?_⟩
            | refine ⟨⟨Nat.zero_lt_one, rfl⟩, Nat.le_of_ble_eq_true rfl, ?_⟩
            | refine ⟨Nat.le_of_ble_eq_true rfl, Nat.le_of_ble_eq_true rfl, ?_⟩
            | refine ⟨(by first | exact Nat.zero_lt_one | assumption | omega), (by first | assumption | exact vp_in_nI (by omega) (by omega) | (unfold vp_in; decide)), ?_⟩
            | refine ⟨(by first | exact Nat.zero_lt_one | assumption | omega), rfl, ?_⟩
            | refine ⟨⟨(by first | exact Nat.zero_lt_one | assumption | omega), rfl⟩, Nat.le_of_ble_eq_true rfl, ?_⟩
            | refine ⟨(by first | exact Nat.zero_lt_one | assumption | omega), ?_⟩
            | refine ⟨Or.inl rfl, ?_⟩
            | refine ⟨Or.inr (Or.inl rfl), ?_⟩
            | refine ⟨Or.inr (Or.inr rfl), ?_⟩
            | refine ⟨Or.inr ⟨rfl, (by first | exact Or.inl rfl | exact Or.inr rfl | assumption)⟩, ?_⟩
            | refine ⟨fun h => absurd h (by decide), fun _ => ?_⟩
            | refine ⟨fun _ => ?_, fun h => absurd h (by decide)⟩
            | refine ⟨fun h => ?_, fun h => ?_⟩
            | fail)
        repeat' (first
          | (rw [cr]; exact hg2)
          | refine br_f hf ?_
          | refine c_Mo_letter E1 s28 (by omega) ?_
          | refine c_Mo_isDigit (fun q => absurd q dg) (fun _ => ?_)
          | (refine zs k_Mo_read rfl ?_; conv => whnf)
          | refine ⟨Nat.zero_lt_one, rfl, ?_⟩
          | refine ⟨rfl, ?_⟩
          | refine ⟨⟨Nat.zero_lt_one, rfl⟩, Nat.le_of_ble_eq_true rfl, ?_⟩
          | refine ⟨Nat.le_of_ble_eq_true rfl, Nat.le_of_ble_eq_true rfl, ?_⟩
          | refine ⟨(by first | exact Nat.zero_lt_one | assumption | omega), (by first | assumption | exact vp_in_nI (by omega) (by omega) | (unfold vp_in; decide)), ?_⟩
          | refine ⟨(by first | exact Nat.zero_lt_one | assumption | omega), rfl, ?_⟩
          | refine ⟨⟨(by first | exact Nat.zero_lt_one | assumption | omega), rfl⟩, Nat.le_of_ble_eq_true rfl, ?_⟩
          | refine ⟨(by first | exact Nat.zero_lt_one | assumption | omega), ?_⟩
          | refine ⟨Or.inl rfl, ?_⟩
          | refine ⟨Or.inr (Or.inl rfl), ?_⟩
          | refine ⟨Or.inr (Or.inr rfl), ?_⟩
          | refine ⟨Or.inr ⟨rfl, (by first | exact Or.inl rfl | exact Or.inr rfl | assumption)⟩, ?_⟩
          | refine ⟨fun h => absurd h (by decide), fun _ => ?_⟩
          | refine ⟨fun _ => ?_, fun h => absurd h (by decide)⟩
          | refine ⟨fun h => ?_, fun h => ?_⟩
          | fail)
  -- the beginning
  have F0 : hF r μ (zu (zu (cM μ (0, -1)) 72 0 r 0) 69 0 r 0) := hF_r (hF_r (hF_cM hF_rf) (by decide)) (by decide)
  have ok0 : qOk (0, -1) := ⟨Nat.zero_le _, Or.inl rfl⟩
  have hX0 : eqQ q2 (mX a n [111, 110, 32] (0, -1)) := by
    have s1 : mX a n [111, 110, 32] (0, -1) = mX a n [32] (mX a n [111, 110] (0, -1)) := mX_app (c1 := [111, 110]) (c2 := [32]) (by decide)
    rw [s1, ← e2]
    exact eqQ_B (qW_1 (by omega) rfl (by decide) e1 eqQ_rf)
  have hgo := S2 (cM (zu (zu (cM μ (0, -1)) 72 0 r 0) 69 0 r 0) (mX a n [111, 110, 32] (0, -1))) (mX a n [111, 110, 32] (0, -1)) (hF_cM F0) cM_28 cM_29 (mX_ok h200 (by decide) ok0) hX0 (by rw [cM_o (by omega), zu_ne (by omega), zu_eq]) (by rw [cM_o (by omega), zu_eq])
  have hs0 : ∀ r', r' = r → zu (zu (zu (zu μ 48 0 28 0) 48 0 29 (-1)) 72 0 r' 0) 69 0 r' (vp_nar .boolean 0) = zu (zu (cM μ (0, -1)) 72 0 r 0) 69 0 r 0 := fun r' h => by rw [h]; rfl
  have S0 : zG S (d + 4) m_Mo_read K 24 [some (zR 48 0), some (zI (nI r))] [] (zu (zu (cM μ (0, -1)) 72 0 r 0) 69 0 r 0) := by
    repeat' (first
      | exact hgo
      | refine c_Mo_expect (cs := [111, 110, 32]) (q := (0, -1)) (hF_E F0 E) (by rw [zu_ne (by omega), zu_ne (by omega)]; exact cM_28) (by rw [zu_ne (by omega), zu_ne (by omega)]; exact cM_29) ok0 rfl (by decide) (by decide) (by decide) ?_
      | (refine zs k_Mo_read rfl ?_; conv => whnf)
      | refine ⟨Nat.zero_lt_one, rfl, ?_⟩
      | refine ⟨rfl, ?_⟩
      | refine ⟨⟨Nat.zero_lt_one, rfl⟩, Nat.le_of_ble_eq_true rfl, ?_⟩
      | refine ⟨Nat.le_of_ble_eq_true rfl, Nat.le_of_ble_eq_true rfl, ?_⟩
      | refine ⟨(by first | exact Nat.zero_lt_one | assumption | omega), (by first | assumption | exact vp_in_nI (by omega) (by omega) | (unfold vp_in; decide)), ?_⟩
      | refine ⟨(by first | exact Nat.zero_lt_one | assumption | omega), rfl, ?_⟩
      | refine ⟨⟨(by first | exact Nat.zero_lt_one | assumption | omega), rfl⟩, Nat.le_of_ble_eq_true rfl, ?_⟩
      | refine ⟨(by first | exact Nat.zero_lt_one | assumption | omega), ?_⟩
      | refine ⟨Or.inl rfl, ?_⟩
      | refine ⟨Or.inr (Or.inl rfl), ?_⟩
      | refine ⟨Or.inr (Or.inr rfl), ?_⟩
      | refine ⟨Or.inr ⟨rfl, (by first | exact Or.inl rfl | exact Or.inr rfl | assumption)⟩, ?_⟩
      | refine ⟨fun h => absurd h (by decide), fun _ => ?_⟩
      | refine ⟨fun _ => ?_, fun h => absurd h (by decide)⟩
      | refine ⟨fun h => ?_, fun h => ?_⟩
      | fail)
  repeat' (first
    | (rw [hs0 _ cr]; exact S0)
    | (refine zs k_Mo_read rfl ?_; conv => whnf)
    | refine ⟨Nat.zero_lt_one, rfl, ?_⟩
    | refine ⟨rfl, ?_⟩
    | refine ⟨⟨Nat.zero_lt_one, rfl⟩, Nat.le_of_ble_eq_true rfl, ?_⟩
    | refine ⟨Nat.le_of_ble_eq_true rfl, Nat.le_of_ble_eq_true rfl, ?_⟩
    | refine ⟨(by first | exact Nat.zero_lt_one | assumption | omega), (by first | assumption | exact vp_in_nI (by omega) (by omega) | (unfold vp_in; decide)), ?_⟩
    | refine ⟨(by first | exact Nat.zero_lt_one | assumption | omega), rfl, ?_⟩
    | refine ⟨⟨(by first | exact Nat.zero_lt_one | assumption | omega), rfl⟩, Nat.le_of_ble_eq_true rfl, ?_⟩
    | refine ⟨(by first | exact Nat.zero_lt_one | assumption | omega), ?_⟩
    | refine ⟨Or.inl rfl, ?_⟩
    | refine ⟨Or.inr (Or.inl rfl), ?_⟩
    | refine ⟨Or.inr (Or.inr rfl), ?_⟩
    | refine ⟨Or.inr ⟨rfl, (by first | exact Or.inl rfl | exact Or.inr rfl | assumption)⟩, ?_⟩
    | refine ⟨fun h => absurd h (by decide), fun _ => ?_⟩
    | refine ⟨fun _ => ?_, fun h => absurd h (by decide)⟩
    | refine ⟨fun h => ?_, fun h => ?_⟩
    | fail)
