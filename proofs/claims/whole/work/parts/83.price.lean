/-! PRICE: what both sides add up -/
def nS (f : Nat → Nat) : Nat → Nat
  | 0 => 0
  | n + 1 => nS f n + f n
theorem nS_cg {f g : Nat → Nat} : ∀ {n : Nat}, (∀ k, k < n → f k = g k) → nS f n = nS g n
  | 0, _ => rfl
  | n + 1, h => by
    rw [nS, nS, nS_cg (fun k hk => h k (by omega)), h n (by omega)]
theorem nS_add {f g : Nat → Nat} : ∀ {n : Nat}, nS (fun k => f k + g k) n = nS f n + nS g n
  | 0 => rfl
  | n + 1 => by
    rw [nS, nS, nS, nS_add]
    omega
theorem nS_sh {f : Nat → Nat} : ∀ {n : Nat}, nS f (n + 1) = f 0 + nS (fun k => f (k + 1)) n
  | 0 => by
    show 0 + f 0 = f 0 + 0
    omega
  | n + 1 => by
    rw [nS, nS_sh]
    show _ = f 0 + (nS (fun k => f (k + 1)) n + f (n + 1))
    omega
theorem nS_0 {f : Nat → Nat} : ∀ {n : Nat}, (∀ k, k < n → f k = 0) → nS f n = 0
  | 0, _ => rfl
  | n + 1, h => by
    rw [nS, nS_0 (fun k hk => h k (by omega)), h n (by omega)]
theorem pSum_nI {F : Nat → Int32} {f : Nat → Nat} : ∀ {n : Nat}, (∀ k, k < n → F k = nI (f k)) → pSum F n = nI (nS f n)
  | 0, _ => rfl
  | n + 1, h => by
    rw [pSum, pSum_nI (fun k hk => h k (by omega)), h n (by omega), nI_add]
    rfl
def nD (a b : Nat) : Nat := if b < a then a - b else b - a
theorem nD_abs {a b : Nat} (ha : a < 2 ^ 30) (hb : b < 2 ^ 30) : pAbs (nI a - nI b) = nI (nD a b) := by
  rcases Nat.lt_or_ge b a with h | h
  · have e : nD a b = a - b := if_pos h
    rw [e, pk_sub (by omega)]
    exact if_pos (nI_pos' (by omega))
  · have e : nD a b = b - a := if_neg (by omega)
    rw [e]
    rcases Nat.lt_or_ge a b with h2 | h2
    · have hs := pk_sneg (a := a) (b := b) hb h2
      have e2 : pAbs (nI a - nI b) = -(nI a - nI b) := if_neg (by grind)
      rw [e2, ← pk_sub h]
      grind
    · obtain rfl : a = b := by omega
      rw [pk_sub (Nat.le_refl a), Nat.sub_self]
      rfl
-- ---- talk
def tN (μ : zMu) (p q : Int32) : Nat := (hTk μ p q).toNatClampNeg
abbrev pOk (n : Nat) (a : Int32) : Prop := a = -1 ∨ ∃ p, p < n ∧ a = nI p
theorem tN_eq {μ : zMu} {ns n : Nat} {a b : Int32} (g1 : gSt μ ns) (g : gPe μ ns n) (g8 : gCo μ) (ha : pOk n a) (hb : pOk n b) : hTk μ a b = nI (tN μ a b) ∧ tN μ a b ≤ 9 ∧ tN μ b a = tN μ a b := by
  have h20 := g.2.2.1
  have h10 := g1.2.2.1
  by_cases q : a = -1 ∨ b = -1
  · have e : hTk μ a b = 0 := if_pos q
    have e' : hTk μ b a = 0 := if_pos q.symm
    unfold tN
    rw [e, e']
    exact ⟨rfl, by decide, rfl⟩
  · rcases ha with ha | ⟨p, hp, rfl⟩
    · exact absurd (Or.inl ha) q
    rcases hb with hb | ⟨p', hp', rfl⟩
    · exact absurd (Or.inr hb) q
    obtain ⟨-, -, -, -, -, -, -, -, -, ⟨s, hs, -, -, b3⟩, -⟩ := g.2.2.2 p hp
    obtain ⟨-, -, -, -, -, -, -, -, -, ⟨s', hs', -, -, b3'⟩, -⟩ := g.2.2.2 p' hp'
    obtain ⟨u, hu, eu⟩ := vp_in_of (g1.2.2.2 s hs).2.2 (by omega)
    obtain ⟨u', hu', eu'⟩ := vp_in_of (g1.2.2.2 s' hs').2.2 (by omega)
    have e : hTk μ (nI p) (nI p') = μ 38 u u' := by
      unfold hTk
      rw [if_neg q, nI_clamp (show p < 2 ^ 31 by omega), nI_clamp (show p' < 2 ^ 31 by omega), b3, b3', eu, eu', nI_clamp (show u < 2 ^ 31 by omega), nI_clamp (show u' < 2 ^ 31 by omega)]
    have e' : hTk μ (nI p') (nI p) = μ 38 u' u := by
      unfold hTk
      rw [if_neg (fun w => q w.symm), nI_clamp (show p < 2 ^ 31 by omega), nI_clamp (show p' < 2 ^ 31 by omega), b3, b3', eu, eu', nI_clamp (show u < 2 ^ 31 by omega), nI_clamp (show u' < 2 ^ 31 by omega)]
    obtain ⟨⟨c, hc, ec⟩, -, sy⟩ := g8 u u' hu hu'
    unfold tN
    rw [e, e', sy, ec, nI_clamp (by omega)]
    exact ⟨rfl, hc, rfl⟩
theorem tN_m {μ : zMu} {b : Int32} : tN μ (-1) b = 0 ∧ tN μ b (-1) = 0 := by
  have e : hTk μ (-1) b = 0 := if_pos (Or.inl rfl)
  have e' : hTk μ b (-1) = 0 := if_pos (Or.inr rfl)
  unfold tN
  rw [e, e']
  exact ⟨rfl, rfl⟩
def mTk (μ : zMu) (r : Nat → Int32) (rd : Int32) (z i : Nat) : Nat := if i + 1 < z ∨ (¬ rd = 0 ∧ 2 < z) then tN μ (r i) (r (bh z i)) else 0
-- ---- places
def mP (r : Nat → Int32) (v : Int32) (q : Nat × Nat) : Nat → Nat × Nat
  | 0 => q
  | i + 1 => if r i = v then ((mP r v q i).1 + nD (mP r v q i).2 i, (mP r v q i).2 + 1) else mP r v q i
def mO (r : Nat → Int32) (o : Nat → Nat) (z : Nat) : Nat → Nat × Nat
  | 0 => (0, 0)
  | k + 1 => mP r (nI (o k)) (mO r o z k) z
theorem mP_le {r : Nat → Int32} {v : Int32} {q : Nat × Nat} : ∀ i, (mP r v q i).2 ≤ q.2 + i
  | 0 => Nat.le_refl _
  | i + 1 => by
    have := mP_le (r := r) (v := v) (q := q) i
    rw [mP]
    split
    · show (mP r v q i).2 + 1 ≤ _
      omega
    · omega
theorem mO_le {r : Nat → Int32} {o : Nat → Nat} {z : Nat} : ∀ k, (mO r o z k).2 ≤ k * z
  | 0 => Nat.zero_le _
  | k + 1 => by
    have h1 := mO_le (r := r) (o := o) (z := z) k
    have h2 := mP_le (r := r) (v := nI (o k)) (q := mO r o z k) z
    rw [mO, Nat.succ_mul]
    omega
theorem mP_eq {r : Nat → Int32} {v : Int32} {s c : Nat} (hd : ∀ j k, j < k → k < 12 → r j = r k → r j = -1) (hv : ¬ v = -1) : ∀ i, i ≤ 12 → mP r v (s, c) i = (s + nS (fun j => if r j = v then nD c j else 0) i, c + pCt (fun j => decide (r j = v)) i)
  | 0, _ => rfl
  | i + 1, hi => by
    have ih := mP_eq (s := s) (c := c) hd hv i (by omega)
    rw [mP, ih, nS, pCt]
    by_cases e : r i = v
    · have h0 : pCt (fun j => decide (r j = v)) i = 0 := by
        have : ∀ k, k ≤ i → pCt (fun j => decide (r j = v)) k = 0 := fun k => by
          induction k with
          | zero => exact fun _ => rfl
          | succ k ihk =>
            intro hk
            rw [pCt, ihk (by omega), decide_eq_false (fun w => hv ?_)]
            · rfl
            · rw [← w]
              exact hd k i (by omega) (by omega) (w.trans e.symm)
        exact this i (Nat.le_refl i)
      rw [if_pos e, if_pos e, h0, decide_eq_true e, if_pos rfl]
      show (s + nS (fun j => if r j = v then nD c j else 0) i + nD (c + 0) i, c + 0 + 1) = _
      rw [Nat.add_zero, Nat.add_assoc, Nat.zero_add]
    · rw [if_neg e, if_neg e, decide_eq_false e]
      rfl
theorem pCt_0 {P : Nat → Bool} : ∀ {z : Nat}, (∀ j, j < z → P j = false) → pCt P z = 0
  | 0, _ => rfl
  | z + 1, h => by
    rw [pCt, pCt_0 (fun j hj => h j (by omega)), h z (by omega)]
    rfl
theorem pCt_1 {P : Nat → Bool} {j0 : Nat} (h0 : P j0 = true) : ∀ {z : Nat}, j0 < z → (∀ j, j < z → j ≠ j0 → P j = false) → pCt P z = 1
  | 0, hz, _ => absurd hz (by omega)
  | z + 1, hz, h => by
    rw [pCt]
    by_cases e : z = j0
    · rw [e, h0, pCt_0 (fun j hj => h j (by omega) (by omega))]
      rfl
    · rw [h z (by omega) e, pCt_1 h0 (by omega) (fun j hj hne => h j (by omega) hne)]
      rfl
def inO (o : Nat → Nat) (v : Int32) : Nat → Bool
  | 0 => false
  | k + 1 => inO o v k || decide (v = nI (o k))
theorem inO_y {o : Nat → Nat} {v : Int32} {i : Nat} (h : v = nI (o i)) : ∀ {k : Nat}, i < k → inO o v k = true
  | 0, hk => absurd hk (by omega)
  | k + 1, hk => by
    rw [inO]
    by_cases e : i = k
    · rw [← e, decide_eq_true h, Bool.or_true]
    · rw [inO_y h (by omega), Bool.true_or]
theorem inO_n {o : Nat → Nat} {v : Int32} : ∀ {k : Nat}, (∀ i, i < k → ¬ v = nI (o i)) → inO o v k = false
  | 0, _ => rfl
  | k + 1, h => by
    rw [inO, inO_n (fun i hi => h i (by omega)), decide_eq_false (h k (by omega))]
    rfl
theorem mO_eq {μ : zMu} {r : Nat → Int32} {o : Nat → Nat} {z m : Nat} {sits : Nat → Bool} (hz : z ≤ 12) (hd : ∀ j k, j < k → k < 12 → r j = r k → r j = -1) (hsit : ∀ p, p < 20 → (sits p = true ↔ ∃ k, k < z ∧ r k = nI p)) (ho : ∀ i, i < m → o i < 20) (hm : m ≤ 20) (hinj : ∀ i j, i < j → j < m → o i ≠ o j) (hall : ∀ k, k < z → ¬ r k = -1 → ∃ i, i < m ∧ r k = nI (o i)) (h39 : ∀ i, i < m → sits (o i) = true → μ 39 0 (o i) = nI (pCt (fun i => sits (o i)) i)) : (mO r o z m).1 = nS (fun i => if r i = -1 then 0 else nD (μ 39 0 (r i).toNatClampNeg).toNatClampNeg i) z := by
  have hpl : ∀ k, pCt (fun i => sits (o i)) k ≤ k := fun k => pCt_le _ k
  have H : ∀ k, k ≤ m → mO r o z k = (nS (fun i => if r i = -1 then 0 else if inO o (r i) k then nD (μ 39 0 (r i).toNatClampNeg).toNatClampNeg i else 0) z, pCt (fun i => sits (o i)) k) := fun k => by
    induction k with
    | zero =>
      intro _
      rw [nS_0 (fun k _ => by split <;> rfl)]
      rfl
    | succ k ih =>
      intro hk
      have hok := ho k (by omega)
      have hne : ¬ nI (o k) = -1 := nI_nem1 (by omega)
      rw [mO, ih (by omega), mP_eq hd hne z hz, ← nS_add]
      refine Prod.ext ?_ ?_
      · refine nS_cg (fun i hi => ?_)
        show (if r i = -1 then 0 else if inO o (r i) k = true then nD (μ 39 0 (r i).toNatClampNeg).toNatClampNeg i else 0) + (if r i = nI (o k) then nD (pCt (fun i => sits (o i)) k) i else 0) = (if r i = -1 then 0 else if inO o (r i) (k + 1) = true then nD (μ 39 0 (r i).toNatClampNeg).toNatClampNeg i else 0)
        by_cases e1 : r i = -1
        · rw [if_pos e1, if_pos e1, if_neg (by rw [e1]; exact fun w => hne w.symm)]
        · rw [if_neg e1, if_neg e1]
          by_cases e2 : r i = nI (o k)
          · have hs : sits (o k) = true := (hsit (o k) hok).mpr ⟨i, hi, e2⟩
            have hn : inO o (r i) k = false := inO_n (fun i' hi' w => hinj i' k hi' (by omega) ((nI_eq (by have := ho i' (by omega); omega) (by omega)).mp (w.symm.trans e2)))
            have hp := hpl k
            rw [hn, inO_y e2 (Nat.lt_succ_self k), if_pos e2, if_neg (by decide), if_pos rfl, e2, nI_clamp (by omega), h39 k (by omega) hs, nI_clamp (by omega), Nat.zero_add]
          · rw [if_neg e2, inO, decide_eq_false e2, Bool.or_false, Nat.add_zero]
      · show pCt (fun i => sits (o i)) k + pCt (fun j => decide (r j = nI (o k))) z = pCt (fun i => sits (o i)) (k + 1)
        rw [show pCt (fun i => sits (o i)) (k + 1) = pCt (fun i => sits (o i)) k + (if sits (o k) then 1 else 0) from rfl]
        congr 1
        cases hs : sits (o k) with
        | true =>
          obtain ⟨j, hj, ej⟩ := (hsit (o k) hok).mp hs
          rw [pCt_1 (P := fun j => decide (r j = nI (o k))) (j0 := j) (decide_eq_true ej) hj (fun j' hj' hjj => decide_eq_false (fun w => ?_))]
          · rfl
          · rcases Nat.lt_or_gt_of_ne hjj with q | q
            · exact hne (w.symm.trans (hd j' j q (by omega) (w.trans ej.symm)))
            · exact hne (ej.symm.trans (hd j j' q (by omega) (ej.trans w.symm)))
        | false =>
          rw [pCt_0 (P := fun j => decide (r j = nI (o k))) (fun j hj => decide_eq_false (fun w => ?_))]
          · rfl
          · rw [(hsit (o k) hok).mpr ⟨j, hj, w⟩] at hs
            cases hs
  rw [H m (Nat.le_refl m)]
  refine nS_cg (fun i hi => ?_)
  by_cases e1 : r i = -1
  · rw [if_pos e1, if_pos e1]
  · obtain ⟨k, hk, ek⟩ := hall i hi e1
    rw [if_neg e1, if_neg e1, inO_y ek hk, if_pos rfl]
theorem tk_eq {μ : zMu} {ns n z : Nat} {rd : Int32} {r : Nat → Int32} (g1 : gSt μ ns) (g : gPe μ ns n) (g8 : gCo μ) (hz2 : 2 ≤ z) (hz : z ≤ 12) (hr : ∀ k, k < 12 → pOk n (r k)) : nS (fun k => tN μ (r k) (jAt r (jBe k))) z + nS (fun k => tN μ (r k) (jAt r (jAr rd z k))) z = nS (mTk μ r rd z) z := by
  obtain ⟨y, rfl⟩ : ∃ y, z = y + 1 := ⟨z - 1, by omega⟩
  have at1 : ∀ j, j < 12 → jAt r (nI j) = r j := fun j hj => by
    unfold jAt
    rw [if_neg (nI_nem1 (by omega)), nI_clamp (by omega)]
  have atm : jAt r (-1) = -1 := if_pos rfl
  rw [nS_sh]
  have e0 : tN μ (r 0) (jAt r (jBe 0)) = 0 := by
    rw [show jBe 0 = -1 from rfl, atm]
    exact tN_m.2
  have e1 : nS (fun k => tN μ (r (k + 1)) (jAt r (jBe (k + 1)))) y = nS (mTk μ r rd (y + 1)) y := nS_cg (fun k hk => by
    unfold mTk jBe bh
    rw [if_neg (by omega), if_pos (Or.inl (by omega)), if_neg (by omega), Nat.add_sub_cancel, at1 k (by omega)]
    exact (tN_eq g1 g g8 (hr k (by omega)) (hr (k + 1) (by omega))).2.2)
  have e2 : nS (fun k => tN μ (r k) (jAt r (jAr rd (y + 1) k))) y = 0 := nS_0 (fun k hk => by
    unfold jAr
    rw [if_neg (by omega), atm]
    exact tN_m.2)
  have e3 : tN μ (r y) (jAt r (jAr rd (y + 1) y)) = mTk μ r rd (y + 1) y := by
    unfold jAr mTk bh
    rw [if_pos rfl]
    by_cases q : ¬ rd = 0 ∧ 2 < y + 1
    · rw [if_pos ⟨q.1, q.2, rfl⟩, if_pos (Or.inr q), show (0 : Int32) = nI 0 from rfl, at1 0 (by omega)]
    · rw [if_neg (fun w => q ⟨w.1, w.2.1⟩), if_neg (fun w => w.elim (by omega) q), atm]
      exact tN_m.2
  rw [e0, e1, Nat.zero_add]
  show nS (mTk μ r rd (y + 1)) y + (nS (fun k => tN μ (r k) (jAt r (jAr rd (y + 1) k))) y + tN μ (r y) (jAt r (jAr rd (y + 1) y))) = nS (mTk μ r rd (y + 1)) y + mTk μ r rd (y + 1) y
  rw [e2, e3, Nat.zero_add]
theorem hPr_eq {μ : zMu} {ns n z k : Nat} {rd : Int32} {r : Nat → Int32} (g1 : gSt μ ns) (g : gPe μ ns n) (g8 : gCo μ) (hz : z ≤ 12) (hk : k < z) (hr : ∀ k, k < 12 → pOk n (r k)) (h39 : ¬ r k = -1 → ∃ c, c ≤ 20 ∧ μ 39 0 (r k).toNatClampNeg = nI c) : hPr μ r rd z k = nI ((if r k = -1 then 0 else nD (μ 39 0 (r k).toNatClampNeg).toNatClampNeg k) + (tN μ (r k) (jAt r (jBe k)) + tN μ (r k) (jAt r (jAr rd z k)))) ∧ (if r k = -1 then 0 else nD (μ 39 0 (r k).toNatClampNeg).toNatClampNeg k) + (tN μ (r k) (jAt r (jBe k)) + tN μ (r k) (jAt r (jAr rd z k))) ≤ 100 := by
  have hj : ∀ x : Int32, (x = -1 ∨ ∃ j, j ≤ k ∧ j < 20 ∧ x = nI j) → pOk n (jAt r x) := fun x hx => by
    unfold jAt
    rcases hx with h | ⟨j, hj, h20, rfl⟩
    · rw [if_pos h]
      exact Or.inl rfl
    · rw [if_neg (nI_nem1 (by omega)), nI_clamp (by omega)]
      exact hr j (by omega)
  obtain ⟨t1, t2, -⟩ := tN_eq g1 g g8 (hr k (by omega)) (hj _ (jBe_ok (k := k) (by omega)))
  obtain ⟨t3, t4, -⟩ := tN_eq g1 g g8 (hr k (by omega)) (hj _ (jAr_ok (rd := rd) (n := z) (k := k)))
  unfold hPr
  by_cases e : r k = -1
  · rw [if_pos e, if_pos e, e, tN_m.1, tN_m.1]
    exact ⟨rfl, by omega⟩
  · obtain ⟨c, hc, ec⟩ := h39 e
    rw [if_neg e, if_neg e, t1, t3, ec, nI_clamp (by omega), nD_abs (by omega) (by omega), nI_add, nI_add, Nat.add_assoc]
    refine ⟨rfl, ?_⟩
    have : nD c k ≤ 20 := by
      unfold nD
      split <;> omega
    omega
theorem price_all {μ : zMu} {ns n z m : Nat} {rd : Int32} {r : Nat → Int32} {o : Nat → Nat} {sits : Nat → Bool} (g1 : gSt μ ns) (g : gPe μ ns n) (g8 : gCo μ) (hz2 : 2 ≤ z) (hz : z ≤ 12) (hr : ∀ k, k < 12 → pOk n (r k)) (hd : ∀ j k, j < k → k < 12 → r j = r k → r j = -1) (hsit : ∀ p, p < 20 → (sits p = true ↔ ∃ k, k < z ∧ r k = nI p)) (ho : ∀ i, i < m → o i < 20) (hm : m ≤ 20) (hinj : ∀ i j, i < j → j < m → o i ≠ o j) (hall : ∀ k, k < z → ¬ r k = -1 → ∃ i, i < m ∧ r k = nI (o i)) (h39 : ∀ i, i < m → sits (o i) = true → μ 39 0 (o i) = nI (pCt (fun i => sits (o i)) i)) : pSum (hPr μ r rd z) z = nI ((mO r o z m).1 + nS (mTk μ r rd z) z) := by
  have hh : ∀ k, k < z → ¬ r k = -1 → ∃ c, c ≤ 20 ∧ μ 39 0 (r k).toNatClampNeg = nI c := fun k hk e => by
    obtain ⟨i, hi, ei⟩ := hall k hk e
    have hoi := ho i hi
    have hs : sits (o i) = true := (hsit (o i) hoi).mpr ⟨k, hk, ei⟩
    refine ⟨_, Nat.le_trans (pCt_le (fun i => sits (o i)) i) (by omega), ?_⟩
    rw [ei, nI_clamp (by omega)]
    exact h39 i hi hs
  rw [pSum_nI (fun k hk => (hPr_eq g1 g g8 hz hk hr (hh k hk)).1), nS_add, nS_add, mO_eq (μ := μ) hz hd hsit ho hm hinj hall h39, tk_eq g1 g g8 hz2 hz hr]
