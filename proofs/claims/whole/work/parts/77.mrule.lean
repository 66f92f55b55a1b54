/-! MODEL: rules -/
set_option maxHeartbeats 1000000 in
theorem c_Mo_holds {d ns n r j p q : Nat} {μ : zMu} {t x y : Int32} {K : Option zV → zMu → Prop} (g1 : gSt μ ns) (g : gPe μ ns n) (hr : r < 16) (gr : gR1 μ r) (hj : j < (μ 8 r 4).toNatClampNeg) (hp : p < n) (hq : q < n) (ht : t = nI (4 * r + j)) (hx : x = nI p) (hy : y = nI q) (h1 : pTest (cF μ) ((cRu μ r).2.2.2.2.2.2.2 j) p q = true → K (some (zI 1)) μ) (h0 : pTest (cF μ) ((cRu μ r).2.2.2.2.2.2.2 j) p q = false → K (some (zI 0)) μ) : Ct (d + 2) m_Mo_holds [zR 48 0, zI t, zI x, zI y] μ K := by
  subst ht hx hy
  have h20 := g.2.2.1
  obtain ⟨⟨k1, ⟨m, hm4, hm⟩, k3, k4, k5⟩, -, -, -, -, -, -, -, hts, -⟩ := gr
  have hmc : (μ 8 r 4).toNatClampNeg = m := by rw [hm]; exact nI_clamp (by omega)
  obtain ⟨f1, f2⟩ := k5 j hj
  obtain ⟨t1, t2, t3, t4, t5, t6⟩ := hts j hj
  have hj4 : j < 4 := by omega
  have hc : (nI (4 * r + j)).toNatClampNeg = 4 * r + j := nI_clamp (by omega)
  rw [← hc] at t1 t2 t4 t5 t6
  obtain ⟨f, hf7, hff⟩ := vp_in_of f1 (by omega)
  have t4' := t4.trans hff
  have e0 : pTest (cF μ) ((cRu μ r).2.2.2.2.2.2.2 j) p q = (pIs (μ 25 r j) (if μ 23 r j = 0 then μ 17 p f else μ 17 q f) (μ 26 r j) != decide (μ 22 r j = 1)) := by
    show (pIs (μ 25 r j) (μ 17 (if μ 23 r j = 0 then p else q) (μ 24 r j).toNatClampNeg) (μ 26 r j) != decide (μ 22 r j = 1)) = _
    rw [hff, nI_clamp (by omega)]
    by_cases hb : μ 23 r j = 0
    · rw [if_pos hb, if_pos hb]
    · rw [if_neg hb, if_neg hb]
  rw [e0] at h1 h0
  rw [← t1, ← t5, ← t6] at h1 h0
  rw [← t1] at f2
  have hvt : vp_in (nI (4 * r + j)) 64 := vp_in_nI (by omega) (by omega)
  by_cases hb : μ 23 r j = 0
  · rw [if_pos hb] at h1 h0
    have hb' := t2.trans hb
    unfold pIs at h1 h0
    clear hts k5 t1 t2 t3 t4 t5 t6 k1 k3 k4 hm e0 f1
    refine zmeet rfl (Nat.le_of_ble_eq_true rfl) (fun S => ?_)
    repeat' (first
      | refine br_t hb' ?_
      | refine c_Mo_field (p := p) (f := f) g1 g hp hf7 rfl t4' ?_
      | exact h1 (by grind)
      | exact h0 (by grind)
      | (refine zs k_Mo_holds rfl ?_; conv => whnf)
      | refine ⟨Nat.zero_lt_one, rfl, ?_⟩
      | refine ⟨rfl, ?_⟩
      | refine ⟨⟨Nat.zero_lt_one, rfl⟩, Nat.le_of_ble_eq_true rfl, ?_⟩
      | refine ⟨Nat.le_of_ble_eq_true rfl, Nat.le_of_ble_eq_true rfl, ?_⟩
      | refine ⟨(by first | exact Nat.zero_lt_one | assumption | omega), (by first | assumption | exact vp_in_nI (by omega) (by omega) | (unfold vp_in; decide)), ?_⟩
      | refine ⟨(by first | exact Nat.zero_lt_one | assumption | omega), rfl, ?_⟩
      | refine ⟨⟨(by first | exact Nat.zero_lt_one | assumption | omega), rfl⟩, Nat.le_of_ble_eq_true rfl, ?_⟩
      | refine ⟨(by first | exact Nat.zero_lt_one | assumption | omega), ?_⟩
      | refine ⟨Or.inl rfl, ?_⟩
      | refine ⟨Or.inr (Or.inl rfl), ?_⟩
      | refine ⟨Or.inr (Or.inr rfl), ?_⟩
      | refine ⟨Or.inr ⟨rfl, (by first | exact Or.inl rfl | exact Or.inr rfl | assumption)⟩, ?_⟩
      | refine ⟨fun h => absurd h (by decide), fun _ => ?_⟩
      | refine ⟨fun _ => ?_, fun h => absurd h (by decide)⟩
      | refine ⟨fun h => ?_, fun h => ?_⟩
      | fail)
  · rw [if_neg hb] at h1 h0
    have hb' : ¬ μ 74 0 (nI (4 * r + j)).toNatClampNeg = 0 := by rw [t2]; exact hb
    unfold pIs at h1 h0
    clear hts k5 t1 t2 t3 t4 t5 t6 k1 k3 k4 hm e0 f1
    refine zmeet rfl (Nat.le_of_ble_eq_true rfl) (fun S => ?_)
    repeat' (first
      | refine br_f hb' ?_
      | refine c_Mo_field (p := q) (f := f) g1 g hq hf7 rfl t4' ?_
      | exact h1 (by grind)
      | exact h0 (by grind)
      | (refine zs k_Mo_holds rfl ?_; conv => whnf)
      | refine ⟨Nat.zero_lt_one, rfl, ?_⟩
      | refine ⟨rfl, ?_⟩
      | refine ⟨⟨Nat.zero_lt_one, rfl⟩, Nat.le_of_ble_eq_true rfl, ?_⟩
      | refine ⟨Nat.le_of_ble_eq_true rfl, Nat.le_of_ble_eq_true rfl, ?_⟩
      | refine ⟨(by first | exact Nat.zero_lt_one | assumption | omega), (by first | assumption | exact vp_in_nI (by omega) (by omega) | (unfold vp_in; decide)), ?_⟩
      | refine ⟨(by first | exact Nat.zero_lt_one | assumption | omega), rfl, ?_⟩
      | refine ⟨⟨(by first | exact Nat.zero_lt_one | assumption | omega), rfl⟩, Nat.le_of_ble_eq_true rfl, ?_⟩
      | refine ⟨(by first | exact Nat.zero_lt_one | assumption | omega), ?_⟩
      | refine ⟨Or.inl rfl, ?_⟩
      | refine ⟨Or.inr (Or.inl rfl), ?_⟩
      | refine ⟨Or.inr (Or.inr rfl), ?_⟩
      | refine ⟨Or.inr ⟨rfl, (by first | exact Or.inl rfl | exact Or.inr rfl | assumption)⟩, ?_⟩
      | refine ⟨fun h => absurd h (by decide), fun _ => ?_⟩
      | refine ⟨fun _ => ?_, fun h => absurd h (by decide)⟩
      | refine ⟨fun h => ?_, fun h => ?_⟩
      | fail)
set_option maxHeartbeats 2000000 in
theorem c_Mo_areTested {d ns n r p q : Nat} {μ : zMu} {v x y : Int32} {K : Option zV → zMu → Prop} (g1 : gSt μ ns) (g : gPe μ ns n) (hr : r < 16) (gr : gR1 μ r) (hp : p < n) (hq : q < n) (hv : v = nI r) (hx : x = nI p) (hy : y = nI q) (h1 : pHolds (cF μ) (cRu μ r) p q = true → K (some (zI 1)) μ) (h0 : pHolds (cF μ) (cRu μ r) p q = false → K (some (zI 0)) μ) : Ct (d + 3) m_Mo_areTested [zR 48 0, zI v, zI x, zI y] μ K := by
  subst hv hx hy
  refine zmeet rfl (Nat.le_of_ble_eq_true rfl) (fun S => ?_)
  obtain ⟨⟨k1, ⟨m, hm4, hm⟩, k3, k4, k5⟩, -, -, -, e69, -, -, e72, -, hz⟩ := id gr
  have hmc : (μ 8 r 4).toNatClampNeg = m := by rw [hm]; exact nI_clamp (by omega)
  have hc : (nI r).toNatClampNeg = r := nI_clamp (by omega)
  have hvr : vp_in (nI r) 16 := vp_in_nI hr (by omega)
  have h4 : (4 : Int32) * nI r = nI (4 * r) := pk_mul 4 r
  have e72' : μ 72 0 (nI r).toNatClampNeg = nI m := by rw [hc, e72]; exact hm
  have e69' : μ 69 0 (nI r).toNatClampNeg = μ 8 r 3 := by rw [hc]; exact e69
  have h4m : (4 : Int32) * nI r + μ 72 0 (nI r).toNatClampNeg = nI (4 * r + m) := by rw [h4, e72', nI_add]
  have hpH : pHolds (cF μ) (cRu μ r) p q = if μ 8 r 3 = 0 then pAll (cF μ) (cRu μ r) p q m else pAny (cF μ) (cRu μ r) p q m := by
    show (if μ 8 r 3 = 0 then pAll (cF μ) (cRu μ r) p q (μ 8 r 4).toNatClampNeg else pAny (cF μ) (cRu μ r) p q (μ 8 r 4).toNatClampNeg) = _
    rw [hmc]
  rw [hpH] at h1 h0
  have hm0 : μ 72 0 (nI r).toNatClampNeg = 0 → μ 8 r 3 = 0 ∧ m = 0 := fun h => by
    rw [e72'] at h
    have : m = 0 := (nI_eq (b := 0) (by omega) (by omega)).mp h
    exact ⟨hz (by rw [hm, this]; rfl), this⟩
  generalize hA : pAll (cF μ) (cRu μ r) p q = A at h1 h0
  generalize hO : pAny (cF μ) (cRu μ r) p q = O at h1 h0
  have A0 : A 0 = true := by rw [← hA]; rfl
  have As : ∀ i, A (i + 1) = (A i && pTest (cF μ) ((cRu μ r).2.2.2.2.2.2.2 i) p q) := fun i => by rw [← hA]; rfl
  have Os : ∀ i, O (i + 1) = (O i || pTest (cF μ) ((cRu μ r).2.2.2.2.2.2.2 i) p q) := fun i => by rw [← hO]; rfl
  have O0 : O 0 = false := by rw [← hO]; rfl
  have L : ∀ (k i : Nat) (a o w : Int32) (l7 : Option zV), i + k = m → w = nI (4 * r + i) → ((A i = true ∧ a = 1) ∨ (A i = false ∧ a = 0)) → ((O i = true ∧ o = 1) ∨ (O i = false ∧ o = 0)) → zG S (d + 3) m_Mo_areTested K 11 [some (zR 48 0), some (zI (nI r)), some (zI (nI p)), some (zI (nI q)), some (zI a), some (zI o), some (zI w), l7] [] μ := by
    intro k
    induction k with
    | zero =>
      intro i a o w l7 hi hw ha ho
      obtain rfl : i = m := by omega
      subst hw
      have hle : (4 : Int32) * nI r + μ 72 0 (nI r).toNatClampNeg ≤ nI (4 * r + i) := by rw [h4m]; exact nI_le (Nat.le_refl _) (by omega)
      rcases ha with ⟨ha, rfl⟩ | ⟨ha, rfl⟩ <;> rcases ho with ⟨ho, rfl⟩ | ⟨ho, rfl⟩
      all_goals
        rw [ha, ho] at h1 h0
        refine zs k_Mo_areTested rfl ?_; conv => whnf
        repeat' (first
          | refine br_t hle ?_
          | exact h1 (by grind)
          | exact h0 (by grind)
          | (refine zs k_Mo_areTested rfl ?_; conv => whnf)
          | refine ⟨Nat.zero_lt_one, rfl, ?_⟩
          | refine ⟨rfl, ?_⟩
          | refine ⟨⟨Nat.zero_lt_one, rfl⟩, Nat.le_of_ble_eq_true rfl, ?_⟩
          | refine ⟨Nat.le_of_ble_eq_true rfl, Nat.le_of_ble_eq_true rfl, ?_⟩
          | refine ⟨(by first | exact Nat.zero_lt_one | assumption | omega), (by first | assumption | exact vp_in_nI (by omega) (by omega) | (unfold vp_in; decide)), ?_⟩
          | refine ⟨(by first | exact Nat.zero_lt_one | assumption | omega), rfl, ?_⟩
          | refine ⟨⟨(by first | exact Nat.zero_lt_one | assumption | omega), rfl⟩, Nat.le_of_ble_eq_true rfl, ?_⟩
          | refine ⟨(by first | exact Nat.zero_lt_one | assumption | omega), ?_⟩
          | refine ⟨Or.inl rfl, ?_⟩
          | refine ⟨Or.inr (Or.inl rfl), ?_⟩
          | refine ⟨Or.inr (Or.inr rfl), ?_⟩
          | refine ⟨Or.inr ⟨rfl, (by first | exact Or.inl rfl | exact Or.inr rfl | assumption)⟩, ?_⟩
          | refine ⟨fun h => absurd h (by decide), fun _ => ?_⟩
          | refine ⟨fun _ => ?_, fun h => absurd h (by decide)⟩
          | refine ⟨fun h => ?_, fun h => ?_⟩
          | fail)
    | succ k ih =>
      intro i a o w l7 hi hw ha ho
      subst hw
      have hle : ¬ (4 : Int32) * nI r + μ 72 0 (nI r).toNatClampNeg ≤ nI (4 * r + i) := by rw [h4m]; exact nI_ge (by omega) (by omega)
      have hj : i < (μ 8 r 4).toNatClampNeg := by omega
      have A1 := As i
      have O1 := Os i
      rcases ha with ⟨ha, rfl⟩ | ⟨ha, rfl⟩ <;> rcases ho with ⟨ho, rfl⟩ | ⟨ho, rfl⟩
      all_goals
        refine zs k_Mo_areTested rfl ?_; conv => whnf
        repeat' (first
          | refine br_f hle ?_
          | refine c_Mo_holds (j := i) g1 g hr gr hj hp hq rfl rfl rfl (fun hb => ?_) (fun hb => ?_)
          | refine ih (i + 1) _ _ _ _ (by omega) (by exact nI_1 _) (by rw [A1, hb, ha]; decide) (by rw [O1, hb, ho]; decide)
          | (refine zs k_Mo_areTested rfl ?_; conv => whnf)
          | refine ⟨Nat.zero_lt_one, rfl, ?_⟩
          | refine ⟨rfl, ?_⟩
          | refine ⟨⟨Nat.zero_lt_one, rfl⟩, Nat.le_of_ble_eq_true rfl, ?_⟩
          | refine ⟨Nat.le_of_ble_eq_true rfl, Nat.le_of_ble_eq_true rfl, ?_⟩
          | refine ⟨(by first | exact Nat.zero_lt_one | assumption | omega), (by first | assumption | exact vp_in_nI (by omega) (by omega) | (unfold vp_in; decide)), ?_⟩
          | refine ⟨(by first | exact Nat.zero_lt_one | assumption | omega), rfl, ?_⟩
          | refine ⟨⟨(by first | exact Nat.zero_lt_one | assumption | omega), rfl⟩, Nat.le_of_ble_eq_true rfl, ?_⟩
          | refine ⟨(by first | exact Nat.zero_lt_one | assumption | omega), ?_⟩
          | refine ⟨Or.inl rfl, ?_⟩
          | refine ⟨Or.inr (Or.inl rfl), ?_⟩
          | refine ⟨Or.inr (Or.inr rfl), ?_⟩
          | refine ⟨Or.inr ⟨rfl, (by first | exact Or.inl rfl | exact Or.inr rfl | assumption)⟩, ?_⟩
          | refine ⟨fun h => absurd h (by decide), fun _ => ?_⟩
          | refine ⟨fun _ => ?_, fun h => absurd h (by decide)⟩
          | refine ⟨fun h => ?_, fun h => ?_⟩
          | fail)
  repeat' (first
    | refine L m 0 _ _ _ _ (by omega) (by exact h4) (Or.inl ⟨A0, rfl⟩) (Or.inr ⟨O0, rfl⟩)
    | (refine zs k_Mo_areTested rfl ?_; conv => whnf)
    | refine ⟨Nat.zero_lt_one, rfl, ?_⟩
    | refine ⟨rfl, ?_⟩
    | refine ⟨⟨Nat.zero_lt_one, rfl⟩, Nat.le_of_ble_eq_true rfl, ?_⟩
    | refine ⟨Nat.le_of_ble_eq_true rfl, Nat.le_of_ble_eq_true rfl, ?_⟩
    | refine ⟨(by first | exact Nat.zero_lt_one | assumption | omega), (by first | assumption | exact vp_in_nI (by omega) (by omega) | (unfold vp_in; decide)), ?_⟩
    | refine ⟨(by first | exact Nat.zero_lt_one | assumption | omega), rfl, ?_⟩
    | refine ⟨⟨(by first | exact Nat.zero_lt_one | assumption | omega), rfl⟩, Nat.le_of_ble_eq_true rfl, ?_⟩
    | refine ⟨(by first | exact Nat.zero_lt_one | assumption | omega), ?_⟩
    | refine ⟨Or.inl rfl, ?_⟩
    | refine ⟨Or.inr (Or.inl rfl), ?_⟩
    | refine ⟨Or.inr (Or.inr rfl), ?_⟩
    | refine ⟨Or.inr ⟨rfl, (by first | exact Or.inl rfl | exact Or.inr rfl | assumption)⟩, ?_⟩
    | refine ⟨fun h => absurd h (by decide), fun _ => ?_⟩
    | refine ⟨fun _ => ?_, fun h => absurd h (by decide)⟩
    | refine ⟨fun h => ?_, fun h => ?_⟩
    | fail)
theorem pV_c (F : Nat → Nat → Int32) (u : rU) (o day : Int32) (x y : Nat) : pV F u o day x y = 0 ∨ pV F u o day x y = 1 ∨ pV F u o day x y = -1 := by
  unfold pV
  split
  · exact Or.inl rfl
  · split
    · exact Or.inr (Or.inr rfl)
    · exact Or.inr (Or.inl rfl)
set_option maxHeartbeats 2000000 in
theorem c_Mo_decided {d ns n r p q : Nat} {μ : zMu} {v o day x y : Int32} {K : Option zV → zMu → Prop} (g1 : gSt μ ns) (g : gPe μ ns n) (hr : r < 16) (gr : gR1 μ r) (hp : p < n) (hq : q < n) (hv : v = nI r) (hx : x = nI p) (hy : y = nI q) (hK : K (some (zI (pV (cF μ) (cRu μ r) o day p q))) μ) : Ct (d + 4) m_Mo_decided [zR 48 0, zI v, zI o, zI day, zI x, zI y] μ K := by
  subst hv hx hy
  refine zmeet rfl (Nat.le_of_ble_eq_true rfl) (fun S => ?_)
  obtain ⟨⟨k1, -⟩, eoc, e67, e68, -, e70, e71, -, -, -⟩ := id gr
  have hc : (nI r).toNatClampNeg = r := nI_clamp (by omega)
  have hvr : vp_in (nI r) 16 := vp_in_nI hr (by omega)
  obtain ⟨f, hf7, hff⟩ := vp_in_of k1 (by omega)
  have e67' : μ 67 0 (nI r).toNatClampNeg = nI f := by rw [hc, e67]; exact hff
  rw [← hc] at e70 e71 e68 eoc
  have eoc' : (μ 66 0 (nI r).toNatClampNeg = 10 ∨ μ 66 0 (nI r).toNatClampNeg = o) ↔ (μ 8 (nI r).toNatClampNeg 0 = -1 ∨ μ 8 (nI r).toNatClampNeg 0 = o) := by
    rcases eoc with ⟨a, b⟩ | ⟨a, b, c⟩
    · rw [a, b]
      simp
    · rw [c]
      have n1 : ¬ μ 8 (nI r).toNatClampNeg 0 = -1 := fun e => absurd a (by rw [e]; decide)
      have n2 : ¬ μ 8 (nI r).toNatClampNeg 0 = 10 := fun e => absurd b (by rw [e]; decide)
      simp [n1, n2]
  have hpV : pV (cF μ) (cRu μ r) o day p q = if μ 17 p f = μ 17 q f ∨ ¬ ((μ 70 0 (nI r).toNatClampNeg ≤ day ∧ day < μ 71 0 (nI r).toNatClampNeg ∧ (μ 66 0 (nI r).toNatClampNeg = 10 ∨ μ 66 0 (nI r).toNatClampNeg = o)) ∧ (pHolds (cF μ) (cRu μ r) p q = true ∨ pHolds (cF μ) (cRu μ r) q p = true)) then 0 else if (μ 17 p f < μ 17 q f ↔ μ 8 (nI r).toNatClampNeg 2 = 1) then -1 else 1 := by
    have hif : (μ 17 p f = μ 17 q f ∨ ¬ (μ 8 r 5 ≤ day ∧ day < μ 8 r 6 ∧ (μ 8 r 0 = -1 ∨ μ 8 r 0 = o)) ∨ (pHolds (cF μ) (cRu μ r) p q = false ∧ pHolds (cF μ) (cRu μ r) q p = false)) ↔ (μ 17 p f = μ 17 q f ∨ ¬ ((μ 70 0 (nI r).toNatClampNeg ≤ day ∧ day < μ 71 0 (nI r).toNatClampNeg ∧ (μ 66 0 (nI r).toNatClampNeg = 10 ∨ μ 66 0 (nI r).toNatClampNeg = o)) ∧ (pHolds (cF μ) (cRu μ r) p q = true ∨ pHolds (cF μ) (cRu μ r) q p = true))) := by
      rw [eoc', e70, e71, hc]
      cases pHolds (cF μ) (cRu μ r) p q <;> cases pHolds (cF μ) (cRu μ r) q p <;> simp
    have e1 : pV (cF μ) (cRu μ r) o day p q = if μ 17 p f = μ 17 q f ∨ ¬ (μ 8 r 5 ≤ day ∧ day < μ 8 r 6 ∧ (μ 8 r 0 = -1 ∨ μ 8 r 0 = o)) ∨ (pHolds (cF μ) (cRu μ r) p q = false ∧ pHolds (cF μ) (cRu μ r) q p = false) then 0 else if (μ 17 p f < μ 17 q f ↔ μ 8 (nI r).toNatClampNeg 2 = 1) then -1 else 1 := by
      rw [hc]
      have ef : (μ 8 r 1).toNatClampNeg = f := by rw [hff]; exact nI_clamp (by omega)
      rw [← ef]
      rfl
    rw [e1]
    by_cases hh : μ 17 p f = μ 17 q f ∨ ¬ (μ 8 r 5 ≤ day ∧ day < μ 8 r 6 ∧ (μ 8 r 0 = -1 ∨ μ 8 r 0 = o)) ∨ (pHolds (cF μ) (cRu μ r) p q = false ∧ pHolds (cF μ) (cRu μ r) q p = false)
    · rw [if_pos hh, if_pos (hif.mp hh)]
    · rw [if_neg hh, if_neg (fun w => hh (hif.mpr w))]
  rw [hpV] at hK
  have fin : ∀ gd : Int32, ((gd = 1 ∧ ((μ 70 0 (nI r).toNatClampNeg ≤ day ∧ day < μ 71 0 (nI r).toNatClampNeg ∧ (μ 66 0 (nI r).toNatClampNeg = 10 ∨ μ 66 0 (nI r).toNatClampNeg = o)) ∧ (pHolds (cF μ) (cRu μ r) p q = true ∨ pHolds (cF μ) (cRu μ r) q p = true))) ∨ (gd = 0 ∧ ¬ ((μ 70 0 (nI r).toNatClampNeg ≤ day ∧ day < μ 71 0 (nI r).toNatClampNeg ∧ (μ 66 0 (nI r).toNatClampNeg = 10 ∨ μ 66 0 (nI r).toNatClampNeg = o)) ∧ (pHolds (cF μ) (cRu μ r) p q = true ∨ pHolds (cF μ) (cRu μ r) q p = true)))) → zG S (d + 4) m_Mo_decided K 70 [some (zR 48 0), some (zI (nI r)), some (zI o), some (zI day), some (zI (nI p)), some (zI (nI q)), none, none, none] [zI gd] μ := fun gd hgd => by
    rcases hgd with ⟨rfl, hg⟩ | ⟨rfl, hg⟩
    case inr =>
      have hK' : K (some (zI 0)) μ := by
        rw [if_pos (Or.inr hg)] at hK
        exact hK
      repeat' (first
        | refine c_Mo_field (p := p) (f := f) g1 g hp hf7 rfl e67' ?_
        | refine c_Mo_field (p := q) (f := f) g1 g hq hf7 rfl e67' ?_
        | exact hK'
        | (refine zs k_Mo_decided rfl ?_; conv => whnf)
        | refine ⟨Nat.zero_lt_one, rfl, ?_⟩
        | refine ⟨rfl, ?_⟩
        | refine ⟨⟨Nat.zero_lt_one, rfl⟩, Nat.le_of_ble_eq_true rfl, ?_⟩
        | refine ⟨Nat.le_of_ble_eq_true rfl, Nat.le_of_ble_eq_true rfl, ?_⟩
        | refine ⟨(by first | exact Nat.zero_lt_one | assumption | omega), (by first | assumption | exact vp_in_nI (by omega) (by omega) | (unfold vp_in; decide)), ?_⟩
        | refine ⟨(by first | exact Nat.zero_lt_one | assumption | omega), rfl, ?_⟩
        | refine ⟨⟨(by first | exact Nat.zero_lt_one | assumption | omega), rfl⟩, Nat.le_of_ble_eq_true rfl, ?_⟩
        | refine ⟨(by first | exact Nat.zero_lt_one | assumption | omega), ?_⟩
        | refine ⟨Or.inl rfl, ?_⟩
        | refine ⟨Or.inr (Or.inl rfl), ?_⟩
        | refine ⟨Or.inr (Or.inr rfl), ?_⟩
        | refine ⟨Or.inr ⟨rfl, (by first | exact Or.inl rfl | exact Or.inr rfl | assumption)⟩, ?_⟩
        | refine ⟨fun h => absurd h (by decide), fun _ => ?_⟩
        | refine ⟨fun _ => ?_, fun h => absurd h (by decide)⟩
        | refine ⟨fun h => ?_, fun h => ?_⟩
        | fail)
    have hK' : K (some (zI (if μ 17 p f = μ 17 q f then 0 else if (μ 17 p f < μ 17 q f ↔ μ 8 (nI r).toNatClampNeg 2 = 1) then -1 else 1))) μ := by
      by_cases w : μ 17 p f = μ 17 q f
      · rw [if_pos (Or.inl w)] at hK
        rw [if_pos w]
        exact hK
      · rw [if_neg (fun z => z.elim w (fun z => z hg))] at hK
        rw [if_neg w]
        exact hK
    clear hK hpV hg eoc eoc' e70 e71
    rcases e68 with ⟨d0, u0⟩ | ⟨d0, u0⟩
    · rw [d0] at hK'
      repeat' (first
        | refine c_Mo_field (p := p) (f := f) g1 g hp hf7 rfl e67' ?_
        | refine c_Mo_field (p := q) (f := f) g1 g hq hf7 rfl e67' ?_
        | exact zKe hK' (by grind) rfl
        | (refine zs k_Mo_decided rfl ?_; conv => whnf)
        | refine ⟨Nat.zero_lt_one, rfl, ?_⟩
        | refine ⟨rfl, ?_⟩
        | refine ⟨⟨Nat.zero_lt_one, rfl⟩, Nat.le_of_ble_eq_true rfl, ?_⟩
        | refine ⟨Nat.le_of_ble_eq_true rfl, Nat.le_of_ble_eq_true rfl, ?_⟩
        | refine ⟨(by first | exact Nat.zero_lt_one | assumption | omega), (by first | assumption | exact vp_in_nI (by omega) (by omega) | (unfold vp_in; decide)), ?_⟩
        | refine ⟨(by first | exact Nat.zero_lt_one | assumption | omega), rfl, ?_⟩
        | refine ⟨⟨(by first | exact Nat.zero_lt_one | assumption | omega), rfl⟩, Nat.le_of_ble_eq_true rfl, ?_⟩
        | refine ⟨(by first | exact Nat.zero_lt_one | assumption | omega), ?_⟩
        | refine ⟨Or.inl rfl, ?_⟩
        | refine ⟨Or.inr (Or.inl rfl), ?_⟩
        | refine ⟨Or.inr (Or.inr rfl), ?_⟩
        | refine ⟨Or.inr ⟨rfl, (by first | exact Or.inl rfl | exact Or.inr rfl | assumption)⟩, ?_⟩
        | refine ⟨fun h => absurd h (by decide), fun _ => ?_⟩
        | refine ⟨fun _ => ?_, fun h => absurd h (by decide)⟩
        | refine ⟨fun h => ?_, fun h => ?_⟩
        | fail)
    · rw [d0] at hK'
      repeat' (first
        | refine c_Mo_field (p := p) (f := f) g1 g hp hf7 rfl e67' ?_
        | refine c_Mo_field (p := q) (f := f) g1 g hq hf7 rfl e67' ?_
        | exact zKe hK' (by grind) rfl
        | (refine zs k_Mo_decided rfl ?_; conv => whnf)
        | refine ⟨Nat.zero_lt_one, rfl, ?_⟩
        | refine ⟨rfl, ?_⟩
        | refine ⟨⟨Nat.zero_lt_one, rfl⟩, Nat.le_of_ble_eq_true rfl, ?_⟩
        | refine ⟨Nat.le_of_ble_eq_true rfl, Nat.le_of_ble_eq_true rfl, ?_⟩
        | refine ⟨(by first | exact Nat.zero_lt_one | assumption | omega), (by first | assumption | exact vp_in_nI (by omega) (by omega) | (unfold vp_in; decide)), ?_⟩
        | refine ⟨(by first | exact Nat.zero_lt_one | assumption | omega), rfl, ?_⟩
        | refine ⟨⟨(by first | exact Nat.zero_lt_one | assumption | omega), rfl⟩, Nat.le_of_ble_eq_true rfl, ?_⟩
        | refine ⟨(by first | exact Nat.zero_lt_one | assumption | omega), ?_⟩
        | refine ⟨Or.inl rfl, ?_⟩
        | refine ⟨Or.inr (Or.inl rfl), ?_⟩
        | refine ⟨Or.inr (Or.inr rfl), ?_⟩
        | refine ⟨Or.inr ⟨rfl, (by first | exact Or.inl rfl | exact Or.inr rfl | assumption)⟩, ?_⟩
        | refine ⟨fun h => absurd h (by decide), fun _ => ?_⟩
        | refine ⟨fun _ => ?_, fun h => absurd h (by decide)⟩
        | refine ⟨fun h => ?_, fun h => ?_⟩
        | fail)
  repeat' (first
    | refine c_Mo_areTested (p := p) (q := q) g1 g hr gr hp hq rfl rfl rfl (fun t1 => ?_) (fun t1 => ?_)
    | refine c_Mo_areTested (p := q) (q := p) g1 g hr gr hq hp rfl rfl rfl (fun t2 => ?_) (fun t2 => ?_)
    | exact fin _ (Or.inl ⟨rfl, by grind⟩)
    | exact fin _ (Or.inr ⟨rfl, by grind⟩)
    | (refine zs k_Mo_decided rfl ?_; conv => whnf)
    | refine ⟨Nat.zero_lt_one, rfl, ?_⟩
    | refine ⟨rfl, ?_⟩
    | refine ⟨⟨Nat.zero_lt_one, rfl⟩, Nat.le_of_ble_eq_true rfl, ?_⟩
    | refine ⟨Nat.le_of_ble_eq_true rfl, Nat.le_of_ble_eq_true rfl, ?_⟩
    | refine ⟨(by first | exact Nat.zero_lt_one | assumption | omega), (by first | assumption | exact vp_in_nI (by omega) (by omega) | (unfold vp_in; decide)), ?_⟩
    | refine ⟨(by first | exact Nat.zero_lt_one | assumption | omega), rfl, ?_⟩
    | refine ⟨⟨(by first | exact Nat.zero_lt_one | assumption | omega), rfl⟩, Nat.le_of_ble_eq_true rfl, ?_⟩
    | refine ⟨(by first | exact Nat.zero_lt_one | assumption | omega), ?_⟩
    | refine ⟨Or.inl rfl, ?_⟩
    | refine ⟨Or.inr (Or.inl rfl), ?_⟩
    | refine ⟨Or.inr (Or.inr rfl), ?_⟩
    | refine ⟨Or.inr ⟨rfl, (by first | exact Or.inl rfl | exact Or.inr rfl | assumption)⟩, ?_⟩
    | refine ⟨fun h => absurd h (by decide), fun _ => ?_⟩
    | refine ⟨fun _ => ?_, fun h => absurd h (by decide)⟩
    | refine ⟨fun h => ?_, fun h => ?_⟩
    | fail)
def okA (n : Nat) (o day x y : Int32) : Prop := (0 ≤ o ∧ o ≤ 9) ∧ 0 ≤ day ∧ okI n x ∧ okI n y ∧ ¬ x = y
theorem c_Mo_isAsked {d n : Nat} {μ : zMu} {o day x y : Int32} {K : Option zV → zMu → Prop} (hn : μ 48 0 5 = nI n) (h1 : okA n o day x y → K (some (zI 1)) μ) (h0 : ¬ okA n o day x y → K (some (zI 0)) μ) : Ct (d + 1) m_Mo_isAsked [zR 48 0, zI o, zI day, zI x, zI y] μ K := by
  refine zmeet rfl (Nat.le_of_ble_eq_true rfl) (fun S => ?_)
  unfold okA okI at h1 h0
  rw [← hn] at h1 h0
  repeat' (first
    | refine c_Mo_isIn (lo := 0) (hi := 9) rfl rfl (fun _ => ?_) (fun _ => ?_)
    | refine c_Mo_isPerson (fun _ => ?_) (fun _ => ?_)
    | exact h0 (by grind)
    | exact h1 (by grind)
    | (refine zs k_Mo_isAsked rfl ?_; conv => whnf)
    | refine ⟨Nat.zero_lt_one, rfl, ?_⟩
    | refine ⟨rfl, ?_⟩
    | refine ⟨⟨Nat.zero_lt_one, rfl⟩, Nat.le_of_ble_eq_true rfl, ?_⟩
    | refine ⟨Nat.le_of_ble_eq_true rfl, Nat.le_of_ble_eq_true rfl, ?_⟩
    | refine ⟨(by first | exact Nat.zero_lt_one | assumption | omega), (by first | assumption | exact vp_in_nI (by omega) (by omega) | (unfold vp_in; decide)), ?_⟩
    | refine ⟨(by first | exact Nat.zero_lt_one | assumption | omega), rfl, ?_⟩
    | refine ⟨⟨(by first | exact Nat.zero_lt_one | assumption | omega), rfl⟩, Nat.le_of_ble_eq_true rfl, ?_⟩
    | refine ⟨(by first | exact Nat.zero_lt_one | assumption | omega), ?_⟩
    | refine ⟨Or.inl rfl, ?_⟩
    | refine ⟨Or.inr (Or.inl rfl), ?_⟩
    | refine ⟨Or.inr (Or.inr rfl), ?_⟩
    | refine ⟨Or.inr ⟨rfl, (by first | exact Or.inl rfl | exact Or.inr rfl | assumption)⟩, ?_⟩
    | refine ⟨fun h => absurd h (by decide), fun _ => ?_⟩
    | refine ⟨fun _ => ?_, fun h => absurd h (by decide)⟩
    | refine ⟨fun h => ?_, fun h => ?_⟩
    | fail)
theorem c_De_isOccasion {d : Nat} {μ : zMu} {o day : Int32} {K : Option zV → zMu → Prop} (h1 : (0 ≤ o ∧ o ≤ 9) ∧ 0 ≤ day → K (some (zI 1)) μ) (h0 : ¬ ((0 ≤ o ∧ o ≤ 9) ∧ 0 ≤ day) → K (some (zI 0)) μ) : Ct d m_De_isOccasion [zI o, zI day] μ K := by
  refine zmeet rfl (Nat.le_of_ble_eq_true rfl) (fun S => ?_)
  repeat' (first
    | exact h0 (by grind)
    | exact h1 (by grind)
    | (refine zs k_De_isOccasion rfl ?_; conv => whnf)
    | refine ⟨Nat.zero_lt_one, rfl, ?_⟩
    | refine ⟨rfl, ?_⟩
    | refine ⟨⟨Nat.zero_lt_one, rfl⟩, Nat.le_of_ble_eq_true rfl, ?_⟩
    | refine ⟨Nat.le_of_ble_eq_true rfl, Nat.le_of_ble_eq_true rfl, ?_⟩
    | refine ⟨(by first | exact Nat.zero_lt_one | assumption | omega), (by first | assumption | exact vp_in_nI (by omega) (by omega) | (unfold vp_in; decide)), ?_⟩
    | refine ⟨(by first | exact Nat.zero_lt_one | assumption | omega), rfl, ?_⟩
    | refine ⟨⟨(by first | exact Nat.zero_lt_one | assumption | omega), rfl⟩, Nat.le_of_ble_eq_true rfl, ?_⟩
    | refine ⟨(by first | exact Nat.zero_lt_one | assumption | omega), ?_⟩
    | refine ⟨Or.inl rfl, ?_⟩
    | refine ⟨Or.inr (Or.inl rfl), ?_⟩
    | refine ⟨Or.inr (Or.inr rfl), ?_⟩
    | refine ⟨Or.inr ⟨rfl, (by first | exact Or.inl rfl | exact Or.inr rfl | assumption)⟩, ?_⟩
    | refine ⟨fun h => absurd h (by decide), fun _ => ?_⟩
    | refine ⟨fun _ => ?_, fun h => absurd h (by decide)⟩
    | refine ⟨fun h => ?_, fun h => ?_⟩
    | fail)
theorem c_Mo_isOccasion {d : Nat} {μ : zMu} {o day : Int32} {K : Option zV → zMu → Prop} (h1 : (0 ≤ o ∧ o ≤ 9) ∧ 0 ≤ day → K (some (zI 1)) μ) (h0 : ¬ ((0 ≤ o ∧ o ≤ 9) ∧ 0 ≤ day) → K (some (zI 0)) μ) : Ct (d + 1) m_Mo_isOccasion [zI o, zI day] μ K := by
  refine zmeet rfl (Nat.le_of_ble_eq_true rfl) (fun S => ?_)
  repeat' (first
    | refine c_Mo_isIn (lo := 0) (hi := 9) rfl rfl (fun _ => ?_) (fun _ => ?_)
    | exact h0 (by grind)
    | exact h1 (by grind)
    | (refine zs k_Mo_isOccasion rfl ?_; conv => whnf)
    | refine ⟨Nat.zero_lt_one, rfl, ?_⟩
    | refine ⟨rfl, ?_⟩
    | refine ⟨⟨Nat.zero_lt_one, rfl⟩, Nat.le_of_ble_eq_true rfl, ?_⟩
    | refine ⟨Nat.le_of_ble_eq_true rfl, Nat.le_of_ble_eq_true rfl, ?_⟩
    | refine ⟨(by first | exact Nat.zero_lt_one | assumption | omega), (by first | assumption | exact vp_in_nI (by omega) (by omega) | (unfold vp_in; decide)), ?_⟩
    | refine ⟨(by first | exact Nat.zero_lt_one | assumption | omega), rfl, ?_⟩
    | refine ⟨⟨(by first | exact Nat.zero_lt_one | assumption | omega), rfl⟩, Nat.le_of_ble_eq_true rfl, ?_⟩
    | refine ⟨(by first | exact Nat.zero_lt_one | assumption | omega), ?_⟩
    | refine ⟨Or.inl rfl, ?_⟩
    | refine ⟨Or.inr (Or.inl rfl), ?_⟩
    | refine ⟨Or.inr (Or.inr rfl), ?_⟩
    | refine ⟨Or.inr ⟨rfl, (by first | exact Or.inl rfl | exact Or.inr rfl | assumption)⟩, ?_⟩
    | refine ⟨fun h => absurd h (by decide), fun _ => ?_⟩
    | refine ⟨fun _ => ?_, fun h => absurd h (by decide)⟩
    | refine ⟨fun h => ?_, fun h => ?_⟩
    | fail)
theorem c_De_areTwo {d n : Nat} {μ : zMu} {x y : Int32} {K : Option zV → zMu → Prop} (hn : μ 1 0 1 = nI n) (h1 : okI n x ∧ okI n y ∧ ¬ x = y → K (some (zI 1)) μ) (h0 : ¬ (okI n x ∧ okI n y ∧ ¬ x = y) → K (some (zI 0)) μ) : Ct (d + 1) m_De_areTwo [zR 0 0, zI x, zI y] μ K := by
  refine zmeet rfl (Nat.le_of_ble_eq_true rfl) (fun S => ?_)
  unfold okI at h1 h0
  rw [← hn] at h1 h0
  repeat' (first
    | refine c_Ro_hasPerson (fun _ _ => ?_) (fun _ => ?_)
    | exact h0 (by grind)
    | exact h1 (by grind)
    | (refine zs k_De_areTwo rfl ?_; conv => whnf)
    | refine ⟨Nat.zero_lt_one, rfl, ?_⟩
    | refine ⟨rfl, ?_⟩
    | refine ⟨⟨Nat.zero_lt_one, rfl⟩, Nat.le_of_ble_eq_true rfl, ?_⟩
    | refine ⟨Nat.le_of_ble_eq_true rfl, Nat.le_of_ble_eq_true rfl, ?_⟩
    | refine ⟨(by first | exact Nat.zero_lt_one | assumption | omega), (by first | assumption | exact vp_in_nI (by omega) (by omega) | (unfold vp_in; decide)), ?_⟩
    | refine ⟨(by first | exact Nat.zero_lt_one | assumption | omega), rfl, ?_⟩
    | refine ⟨⟨(by first | exact Nat.zero_lt_one | assumption | omega), rfl⟩, Nat.le_of_ble_eq_true rfl, ?_⟩
    | refine ⟨(by first | exact Nat.zero_lt_one | assumption | omega), ?_⟩
    | refine ⟨Or.inl rfl, ?_⟩
    | refine ⟨Or.inr (Or.inl rfl), ?_⟩
    | refine ⟨Or.inr (Or.inr rfl), ?_⟩
    | refine ⟨Or.inr ⟨rfl, (by first | exact Or.inl rfl | exact Or.inr rfl | assumption)⟩, ?_⟩
    | refine ⟨fun h => absurd h (by decide), fun _ => ?_⟩
    | refine ⟨fun _ => ?_, fun h => absurd h (by decide)⟩
    | refine ⟨fun h => ?_, fun h => ?_⟩
    | fail)
theorem okA_of {n : Nat} {o day x y : Int32} (hn : n < 2 ^ 31) (h : okA n o day x y) : ∃ p q, p < n ∧ q < n ∧ p ≠ q ∧ x = nI p ∧ y = nI q := by
  obtain ⟨-, -, hx, hy, hne⟩ := h
  rcases zIx x hn with ⟨p, hp, rfl⟩ | q
  case inr => exact absurd hx q
  rcases zIx y hn with ⟨q, hq, rfl⟩ | q
  case inr => exact absurd hy q
  exact ⟨p, q, hp, hq, fun e => hne (by rw [e]), rfl, rfl⟩
