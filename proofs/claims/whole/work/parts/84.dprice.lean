/-! DESK: price -/
theorem nD_le {c i : Nat} (h : ¬ nI c ≤ nI i) (hc : c < 2 ^ 31) (hi : i < 2 ^ 31) : nI c - nI i = nI (nD c i) := by
  have h1 : i < c := by
    rcases Nat.lt_or_ge i c with q | q
    · exact q
    · exact absurd (nI_le q hi) h
  unfold nD
  rw [if_pos h1, pk_sub (by omega)]
theorem nD_ge {c i : Nat} (h : nI c ≤ nI i) (hc : c < 2 ^ 31) (hi : i < 2 ^ 31) : nI i - nI c = nI (nD c i) := by
  have h1 : c ≤ i := (nI_leI hc hi).mp h
  unfold nD
  rw [if_neg (by omega), pk_sub h1]
set_option maxHeartbeats 2000000 in
theorem c_Mo_priceOf {d ns n t z m : Nat} {μ : zMu} {rd x : Int32} {r : Nat → Int32} {o : Nat → Nat} {K : Option zV → zMu → Prop} (E : mT μ ns n t z rd r) (hx : x = nI t) (hm : μ 48 0 37 = nI m) (hm20 : m ≤ 20) (h86 : ∀ k, k < m → μ 86 0 k = nI (o k)) (hK : K (some (zI (nI ((mO r o z m).1 + nS (mTk μ r rd z) z)))) μ) : Ct (d + 2) m_Mo_priceOf [zR 48 0, zI x] μ K := by
  subst hx
  refine zmeet rfl (Nat.le_of_ble_eq_true rfl) (fun S => ?_)
  obtain ⟨g1, g2, g7, g8, ht, h94, hz2, hz, h93, hrd, h96, hr⟩ := E
  have h20 := g2.2.2.1
  have h10 := g1.2.2.1
  have ct : (nI t).toNatClampNeg = t := nI_clamp (by omega)
  have vt : vp_in (nI t) 4 := vp_in_nI (by omega) (by omega)
  have e94 : μ 94 0 (nI t).toNatClampNeg = nI z := by rw [ct]; exact h94
  -- talk
  have L2 : ∀ (k i : Nat) (c s v : Int32) (l6 : Option zV), i + k = z → v = nI i → s = nI ((mO r o z m).1 + nS (mTk μ r rd z) i) → zG S (d + 2) m_Mo_priceOf K 91 [some (zR 48 0), some (zI (nI t)), some (zI (nI z)), some (zI s), some (zI c), some (zI v), l6] [] μ := by
    intro k
    induction k with
    | zero =>
      intro i c s v l6 hi hv hs
      subst hv hs
      obtain rfl : i = z := by omega
      have hle : nI i ≤ nI i := nI_le (Nat.le_refl _) (by omega)
      refine zs k_Mo_priceOf rfl ?_; conv => whnf
      repeat' (first
        | refine br_t hle ?_
        | exact hK
        | (refine zs k_Mo_priceOf rfl ?_; conv => whnf)
        | refine ⟨Nat.zero_lt_one, rfl, ?_⟩
        | refine ⟨rfl, ?_⟩
        | refine ⟨⟨Nat.zero_lt_one, rfl⟩, Nat.le_of_ble_eq_true rfl, ?_⟩
        | refine ⟨Nat.le_of_ble_eq_true rfl, Nat.le_of_ble_eq_true rfl, ?_⟩
        | refine ⟨(by first | exact Nat.zero_lt_one | assumption | omega), (by first | assumption | exact vp_in_nI (by omega) (by omega) | (unfold vp_in; decide)), ?_⟩
        | refine ⟨(by first | exact Nat.zero_lt_one | assumption | omega), rfl, ?_⟩
        | refine ⟨⟨(by first | exact Nat.zero_lt_one | assumption | omega), rfl⟩, Nat.le_of_ble_eq_true rfl, ?_⟩
        | refine ⟨(by first | exact Nat.zero_lt_one | assumption | omega), ?_⟩
        | refine ⟨Or.inl rfl, ?_⟩
        | refine ⟨Or.inr (Or.inl rfl), ?_⟩
        | refine ⟨Or.inr (Or.inr rfl), ?_⟩
        | refine ⟨Or.inr ⟨rfl, (by first | exact Or.inl rfl | exact Or.inr rfl | assumption)⟩, ?_⟩
        | refine ⟨fun h => absurd h (by decide), fun _ => ?_⟩
        | refine ⟨fun _ => ?_, fun h => absurd h (by decide)⟩
        | refine ⟨fun h => ?_, fun h => ?_⟩
        | fail)
    | succ k ih =>
      intro i c s v l6 hi hv hs
      subst hv
      have hle : ¬ nI z ≤ nI i := nI_ge (by omega) (by omega)
      have ci : (nI i).toNatClampNeg = i := nI_clamp (by omega)
      have hb := bh_lt (z := z) (i := i) (by omega)
      have cb : (nI (bh z i)).toNatClampNeg = bh z i := nI_clamp (by omega)
      have vb : vp_in (nI (bh z i)) 12 := vp_in_nI (by omega) (by omega)
      have ei : μ 96 0 (nI i).toNatClampNeg = r i := by rw [ci]; exact h96 i (by omega)
      have eb : μ 96 0 (nI (bh z i)).toNatClampNeg = r (bh z i) := by rw [cb]; exact h96 _ (by omega)
      have hS : nS (mTk μ r rd z) (i + 1) = nS (mTk μ r rd z) i + mTk μ r rd z i := rfl
      have zero : mTk μ r rd z i = 0 → s = nI ((mO r o z m).1 + nS (mTk μ r rd z) (i + 1)) := fun h => by rw [hs, hS, h, Nat.add_zero]
      by_cases hB : bBs z rd i
      case neg =>
        have h0 := zero (if_neg hB)
        refine zs k_Mo_priceOf rfl ?_; conv => whnf
        repeat' (first
          | refine br_f hle ?_
          | refine c_Mo_behind hz (i := i) (by omega) rfl rfl ?_
          | refine c_Mo_areBeside ht hz (i := i) (by omega) rfl rfl h94 h93 (fun q => absurd q hB) (fun _ => ?_)
          | refine ih (i + 1) _ _ _ _ (by omega) (by exact nI_1 i) h0
          | (refine zs k_Mo_priceOf rfl ?_; conv => whnf)
          | refine ⟨Nat.zero_lt_one, rfl, ?_⟩
          | refine ⟨rfl, ?_⟩
          | refine ⟨⟨Nat.zero_lt_one, rfl⟩, Nat.le_of_ble_eq_true rfl, ?_⟩
          | refine ⟨Nat.le_of_ble_eq_true rfl, Nat.le_of_ble_eq_true rfl, ?_⟩
          | refine ⟨(by first | exact Nat.zero_lt_one | assumption | omega), (by first | assumption | exact vp_in_nI (by omega) (by omega) | (unfold vp_in; decide)), ?_⟩
          | refine ⟨(by first | exact Nat.zero_lt_one | assumption | omega), rfl, ?_⟩
          | refine ⟨⟨(by first | exact Nat.zero_lt_one | assumption | omega), rfl⟩, Nat.le_of_ble_eq_true rfl, ?_⟩
          | refine ⟨(by first | exact Nat.zero_lt_one | assumption | omega), ?_⟩
          | refine ⟨Or.inl rfl, ?_⟩
          | refine ⟨Or.inr (Or.inl rfl), ?_⟩
          | refine ⟨Or.inr (Or.inr rfl), ?_⟩
          | refine ⟨Or.inr ⟨rfl, (by first | exact Or.inl rfl | exact Or.inr rfl | assumption)⟩, ?_⟩
          | refine ⟨fun h => absurd h (by decide), fun _ => ?_⟩
          | refine ⟨fun _ => ?_, fun h => absurd h (by decide)⟩
          | refine ⟨fun h => ?_, fun h => ?_⟩
          | fail)
      have hM : mTk μ r rd z i = tN μ (r i) (r (bh z i)) := if_pos hB
      rcases hr i (by omega) with q1 | ⟨p, hp, q1⟩
      · have h0 := zero (by rw [hM, q1]; exact tN_m.1)
        have q1' := ei.trans q1
        refine zs k_Mo_priceOf rfl ?_; conv => whnf
        repeat' (first
          | refine br_f hle ?_
          | refine c_Mo_behind hz (i := i) (by omega) rfl rfl ?_
          | refine c_Mo_areBeside ht hz (i := i) (by omega) rfl rfl h94 h93 (fun _ => ?_) (fun q => absurd hB q)
          | refine br_t q1' ?_
          | refine ih (i + 1) _ _ _ _ (by omega) (by exact nI_1 i) h0
          | (refine zs k_Mo_priceOf rfl ?_; conv => whnf)
          | refine ⟨Nat.zero_lt_one, rfl, ?_⟩
          | refine ⟨rfl, ?_⟩
          | refine ⟨⟨Nat.zero_lt_one, rfl⟩, Nat.le_of_ble_eq_true rfl, ?_⟩
          | refine ⟨Nat.le_of_ble_eq_true rfl, Nat.le_of_ble_eq_true rfl, ?_⟩
          | refine ⟨(by first | exact Nat.zero_lt_one | assumption | omega), (by first | assumption | exact vp_in_nI (by omega) (by omega) | (unfold vp_in; decide)), ?_⟩
          | refine ⟨(by first | exact Nat.zero_lt_one | assumption | omega), rfl, ?_⟩
          | refine ⟨⟨(by first | exact Nat.zero_lt_one | assumption | omega), rfl⟩, Nat.le_of_ble_eq_true rfl, ?_⟩
          | refine ⟨(by first | exact Nat.zero_lt_one | assumption | omega), ?_⟩
          | refine ⟨Or.inl rfl, ?_⟩
          | refine ⟨Or.inr (Or.inl rfl), ?_⟩
          | refine ⟨Or.inr (Or.inr rfl), ?_⟩
          | refine ⟨Or.inr ⟨rfl, (by first | exact Or.inl rfl | exact Or.inr rfl | assumption)⟩, ?_⟩
          | refine ⟨fun h => absurd h (by decide), fun _ => ?_⟩
          | refine ⟨fun _ => ?_, fun h => absurd h (by decide)⟩
          | refine ⟨fun h => ?_, fun h => ?_⟩
          | fail)
      have n1 : ¬ μ 96 0 (nI i).toNatClampNeg = -1 := by rw [ei, q1]; exact nI_nem1 (by omega)
      rcases hr (bh z i) (by omega) with q2 | ⟨p', hp', q2⟩
      · have h0 := zero (by rw [hM, q2]; exact tN_m.2)
        have q2' := eb.trans q2
        refine zs k_Mo_priceOf rfl ?_; conv => whnf
        repeat' (first
          | refine br_f hle ?_
          | refine c_Mo_behind hz (i := i) (by omega) rfl rfl ?_
          | refine c_Mo_areBeside ht hz (i := i) (by omega) rfl rfl h94 h93 (fun _ => ?_) (fun q => absurd hB q)
          | refine br_f n1 ?_
          | refine br_t q2' ?_
          | refine ih (i + 1) _ _ _ _ (by omega) (by exact nI_1 i) h0
          | (refine zs k_Mo_priceOf rfl ?_; conv => whnf)
          | refine ⟨Nat.zero_lt_one, rfl, ?_⟩
          | refine ⟨rfl, ?_⟩
          | refine ⟨⟨Nat.zero_lt_one, rfl⟩, Nat.le_of_ble_eq_true rfl, ?_⟩
          | refine ⟨Nat.le_of_ble_eq_true rfl, Nat.le_of_ble_eq_true rfl, ?_⟩
          | refine ⟨(by first | exact Nat.zero_lt_one | assumption | omega), (by first | assumption | exact vp_in_nI (by omega) (by omega) | (unfold vp_in; decide)), ?_⟩
          | refine ⟨(by first | exact Nat.zero_lt_one | assumption | omega), rfl, ?_⟩
          | refine ⟨⟨(by first | exact Nat.zero_lt_one | assumption | omega), rfl⟩, Nat.le_of_ble_eq_true rfl, ?_⟩
          | refine ⟨(by first | exact Nat.zero_lt_one | assumption | omega), ?_⟩
          | refine ⟨Or.inl rfl, ?_⟩
          | refine ⟨Or.inr (Or.inl rfl), ?_⟩
          | refine ⟨Or.inr (Or.inr rfl), ?_⟩
          | refine ⟨Or.inr ⟨rfl, (by first | exact Or.inl rfl | exact Or.inr rfl | assumption)⟩, ?_⟩
          | refine ⟨fun h => absurd h (by decide), fun _ => ?_⟩
          | refine ⟨fun _ => ?_, fun h => absurd h (by decide)⟩
          | refine ⟨fun h => ?_, fun h => ?_⟩
          | fail)
      have n2 : ¬ μ 96 0 (nI (bh z i)).toNatClampNeg = -1 := by rw [eb, q2]; exact nI_nem1 (by omega)
      obtain ⟨-, -, -, -, -, -, -, -, -, ⟨sp, hsp, -, -, b3⟩, -⟩ := g2.2.2.2 p hp
      obtain ⟨-, -, -, -, -, -, -, -, -, ⟨sq, hsq, -, -, b3'⟩, -⟩ := g2.2.2.2 p' hp'
      obtain ⟨u, hu, eu⟩ := vp_in_of (g1.2.2.2 sp hsp).2.2 (by omega)
      obtain ⟨u', hu', eu'⟩ := vp_in_of (g1.2.2.2 sq hsq).2.2 (by omega)
      have f1 : μ 17 p 6 = nI u := b3.trans eu
      have f2 : μ 17 p' 6 = nI u' := b3'.trans eu'
      have m1 : (8 : Int32) * μ 17 p 6 + μ 17 p' 6 = nI (8 * u + u') := by rw [f1, f2, show (8 : Int32) * nI u = nI (8 * u) from pk_mul 8 u, nI_add]
      have v1 : vp_in ((8 : Int32) * μ 17 p 6 + μ 17 p' 6) 64 := by rw [m1]; exact vp_in_nI (by omega) (by omega)
      have e54 : μ 54 0 ((8 : Int32) * μ 17 p 6 + μ 17 p' 6).toNatClampNeg = nI (tN μ (r i) (r (bh z i))) := by
        rw [m1, nI_clamp (by omega), (g8 u u' hu hu').2.1, ← (tN_eq g1 g2 g8 (hr i (by omega)) (hr (bh z i) (by omega))).1, q1, q2]
        unfold hTk
        rw [if_neg (fun w => w.elim (nI_nem1 (by omega)) (nI_nem1 (by omega))), nI_clamp (show p < 2 ^ 31 by omega), nI_clamp (show p' < 2 ^ 31 by omega), f1, f2, nI_clamp (show u < 2 ^ 31 by omega), nI_clamp (show u' < 2 ^ 31 by omega)]
      have h1 : s + μ 54 0 ((8 : Int32) * μ 17 p 6 + μ 17 p' 6).toNatClampNeg = nI ((mO r o z m).1 + nS (mTk μ r rd z) (i + 1)) := by
        rw [e54, hs, nI_add, hS, hM, Nat.add_assoc]
      have q1' := ei.trans q1
      have q2' := eb.trans q2
      refine zs k_Mo_priceOf rfl ?_; conv => whnf
      repeat' (first
        | refine br_f hle ?_
        | refine c_Mo_behind hz (i := i) (by omega) rfl rfl ?_
        | refine c_Mo_areBeside ht hz (i := i) (by omega) rfl rfl h94 h93 (fun _ => ?_) (fun q => absurd hB q)
        | refine br_f n1 ?_
        | refine br_f n2 ?_
        | refine c_Mo_field (p := p) (f := 6) g1 g2 hp (by omega) q1' rfl ?_
        | refine c_Mo_field (p := p') (f := 6) g1 g2 hp' (by omega) q2' rfl ?_
        | refine ih (i + 1) _ _ _ _ (by omega) (by exact nI_1 i) h1
        | (refine zs k_Mo_priceOf rfl ?_; conv => whnf)
        | refine ⟨Nat.zero_lt_one, rfl, ?_⟩
        | refine ⟨rfl, ?_⟩
        | refine ⟨⟨Nat.zero_lt_one, rfl⟩, Nat.le_of_ble_eq_true rfl, ?_⟩
        | refine ⟨Nat.le_of_ble_eq_true rfl, Nat.le_of_ble_eq_true rfl, ?_⟩
        | refine ⟨(by first | exact Nat.zero_lt_one | assumption | omega), (by first | assumption | exact vp_in_nI (by omega) (by omega) | (unfold vp_in; decide)), ?_⟩
        | refine ⟨(by first | exact Nat.zero_lt_one | assumption | omega), rfl, ?_⟩
        | refine ⟨⟨(by first | exact Nat.zero_lt_one | assumption | omega), rfl⟩, Nat.le_of_ble_eq_true rfl, ?_⟩
        | refine ⟨(by first | exact Nat.zero_lt_one | assumption | omega), ?_⟩
        | refine ⟨Or.inl rfl, ?_⟩
        | refine ⟨Or.inr (Or.inl rfl), ?_⟩
        | refine ⟨Or.inr (Or.inr rfl), ?_⟩
        | refine ⟨Or.inr ⟨rfl, (by first | exact Or.inl rfl | exact Or.inr rfl | assumption)⟩, ?_⟩
        | refine ⟨fun h => absurd h (by decide), fun _ => ?_⟩
        | refine ⟨fun _ => ?_, fun h => absurd h (by decide)⟩
        | refine ⟨fun h => ?_, fun h => ?_⟩
        | fail)
  -- places
  have L1 : ∀ (k j : Nat) (s c v : Int32) (l6 : Option zV), j + k = m → v = nI j → s = nI (mO r o z j).1 → c = nI (mO r o z j).2 → zG S (d + 2) m_Mo_priceOf K 15 [some (zR 48 0), some (zI (nI t)), some (zI (nI z)), some (zI s), some (zI c), some (zI v), l6] [] μ := by
    intro k
    induction k with
    | zero =>
      intro j s c v l6 hj hv hs hc
      subst hv hs hc
      obtain rfl : j = m := by omega
      have hle : μ 48 0 37 ≤ nI j := by rw [hm]; exact nI_le (Nat.le_refl _) (by omega)
      refine zs k_Mo_priceOf rfl ?_; conv => whnf
      repeat' (first
        | refine br_t hle ?_
        | refine L2 z 0 _ _ _ _ (by omega) rfl (by rfl)
        | (refine zs k_Mo_priceOf rfl ?_; conv => whnf)
        | refine ⟨Nat.zero_lt_one, rfl, ?_⟩
        | refine ⟨rfl, ?_⟩
        | refine ⟨⟨Nat.zero_lt_one, rfl⟩, Nat.le_of_ble_eq_true rfl, ?_⟩
        | refine ⟨Nat.le_of_ble_eq_true rfl, Nat.le_of_ble_eq_true rfl, ?_⟩
        | refine ⟨(by first | exact Nat.zero_lt_one | assumption | omega), (by first | assumption | exact vp_in_nI (by omega) (by omega) | (unfold vp_in; decide)), ?_⟩
        | refine ⟨(by first | exact Nat.zero_lt_one | assumption | omega), rfl, ?_⟩
        | refine ⟨⟨(by first | exact Nat.zero_lt_one | assumption | omega), rfl⟩, Nat.le_of_ble_eq_true rfl, ?_⟩
        | refine ⟨(by first | exact Nat.zero_lt_one | assumption | omega), ?_⟩
        | refine ⟨Or.inl rfl, ?_⟩
        | refine ⟨Or.inr (Or.inl rfl), ?_⟩
        | refine ⟨Or.inr (Or.inr rfl), ?_⟩
        | refine ⟨Or.inr ⟨rfl, (by first | exact Or.inl rfl | exact Or.inr rfl | assumption)⟩, ?_⟩
        | refine ⟨fun h => absurd h (by decide), fun _ => ?_⟩
        | refine ⟨fun _ => ?_, fun h => absurd h (by decide)⟩
        | refine ⟨fun h => ?_, fun h => ?_⟩
        | fail)
    | succ k ih =>
      intro j s c v l6 hj hv hs hc
      subst hv
      have hle : ¬ μ 48 0 37 ≤ nI j := by rw [hm]; exact nI_ge (by omega) (by omega)
      have cj : (nI j).toNatClampNeg = j := nI_clamp (by omega)
      have ej : μ 86 0 (nI j).toNatClampNeg = nI (o j) := by rw [cj]; exact h86 j (by omega)
      have hmo : mO r o z (j + 1) = mP r (nI (o j)) (mO r o z j) z := rfl
      have hle2 := mO_le (r := r) (o := o) (z := z) j
      have hjz : j * z ≤ 20 * 12 := Nat.mul_le_mul (by omega) hz
      have L0 : ∀ (k2 i : Nat) (s c w : Int32), i + k2 = z → w = nI i → s = nI (mP r (nI (o j)) (mO r o z j) i).1 → c = nI (mP r (nI (o j)) (mO r o z j) i).2 → zG S (d + 2) m_Mo_priceOf K 27 [some (zR 48 0), some (zI (nI t)), some (zI (nI z)), some (zI s), some (zI c), some (zI (nI j)), some (zI w)] [] μ := by
        intro k2
        induction k2 with
        | zero =>
          intro i s c w hi hw hs hc
          subst hw
          obtain rfl : i = z := by omega
          have hle : nI i ≤ nI i := nI_le (Nat.le_refl _) (by omega)
          refine zs k_Mo_priceOf rfl ?_; conv => whnf
          repeat' (first
            | refine br_t hle ?_
            | refine ih (j + 1) _ _ _ _ (by omega) (by exact nI_1 j) (by rw [hmo]; exact hs) (by rw [hmo]; exact hc)
            | (refine zs k_Mo_priceOf rfl ?_; conv => whnf)
            | refine ⟨Nat.zero_lt_one, rfl, ?_⟩
            | refine ⟨rfl, ?_⟩
            | refine ⟨⟨Nat.zero_lt_one, rfl⟩, Nat.le_of_ble_eq_true rfl, ?_⟩
            | refine ⟨Nat.le_of_ble_eq_true rfl, Nat.le_of_ble_eq_true rfl, ?_⟩
            | refine ⟨(by first | exact Nat.zero_lt_one | assumption | omega), (by first | assumption | exact vp_in_nI (by omega) (by omega) | (unfold vp_in; decide)), ?_⟩
            | refine ⟨(by first | exact Nat.zero_lt_one | assumption | omega), rfl, ?_⟩
            | refine ⟨⟨(by first | exact Nat.zero_lt_one | assumption | omega), rfl⟩, Nat.le_of_ble_eq_true rfl, ?_⟩
            | refine ⟨(by first | exact Nat.zero_lt_one | assumption | omega), ?_⟩
            | refine ⟨Or.inl rfl, ?_⟩
            | refine ⟨Or.inr (Or.inl rfl), ?_⟩
            | refine ⟨Or.inr (Or.inr rfl), ?_⟩
            | refine ⟨Or.inr ⟨rfl, (by first | exact Or.inl rfl | exact Or.inr rfl | assumption)⟩, ?_⟩
            | refine ⟨fun h => absurd h (by decide), fun _ => ?_⟩
            | refine ⟨fun _ => ?_, fun h => absurd h (by decide)⟩
            | refine ⟨fun h => ?_, fun h => ?_⟩
            | fail)
        | succ k2 ih2 =>
          intro i s c w hi hw hs hc
          subst hw
          have hlz : ¬ nI z ≤ nI i := nI_ge (by omega) (by omega)
          have ci : (nI i).toNatClampNeg = i := nI_clamp (by omega)
          have vi : vp_in (nI i) 12 := vp_in_nI (by omega) (by omega)
          have vj : vp_in (nI j) 20 := vp_in_nI (by omega) (by omega)
          have ei : μ 96 0 (nI i).toNatClampNeg = r i := by rw [ci]; exact h96 i (by omega)
          have hp := mP_le (r := r) (v := nI (o j)) (q := mO r o z j) i
          by_cases e : r i = nI (o j)
          · have e' : μ 96 0 (nI i).toNatClampNeg = μ 86 0 (nI j).toNatClampNeg := by rw [ei, ej]; exact e
            have hst : mP r (nI (o j)) (mO r o z j) (i + 1) = ((mP r (nI (o j)) (mO r o z j) i).1 + nD (mP r (nI (o j)) (mO r o z j) i).2 i, (mP r (nI (o j)) (mO r o z j) i).2 + 1) := by rw [mP, if_pos e]
            by_cases q : c ≤ nI i
            · have q' := nD_ge (hc ▸ q) (by omega) (by omega)
              rw [← hc] at q'
              refine zs k_Mo_priceOf rfl ?_; conv => whnf
              repeat' (first
                | refine br_f hlz ?_
                | refine bn_f e' ?_
                | refine br_t q ?_
                | refine ih2 (i + 1) _ _ _ (by omega) (by exact nI_1 i) (by rw [hst, q', hs]; exact nI_add _ _) (by rw [hst, hc]; exact nI_1 _)
                | (refine zs k_Mo_priceOf rfl ?_; conv => whnf)
                | refine ⟨Nat.zero_lt_one, rfl, ?_⟩
                | refine ⟨rfl, ?_⟩
                | refine ⟨⟨Nat.zero_lt_one, rfl⟩, Nat.le_of_ble_eq_true rfl, ?_⟩
                | refine ⟨Nat.le_of_ble_eq_true rfl, Nat.le_of_ble_eq_true rfl, ?_⟩
                | refine ⟨(by first | exact Nat.zero_lt_one | assumption | omega), (by first | assumption | exact vp_in_nI (by omega) (by omega) | (unfold vp_in; decide)), ?_⟩
                | refine ⟨(by first | exact Nat.zero_lt_one | assumption | omega), rfl, ?_⟩
                | refine ⟨⟨(by first | exact Nat.zero_lt_one | assumption | omega), rfl⟩, Nat.le_of_ble_eq_true rfl, ?_⟩
                | refine ⟨(by first | exact Nat.zero_lt_one | assumption | omega), ?_⟩
                | refine ⟨Or.inl rfl, ?_⟩
                | refine ⟨Or.inr (Or.inl rfl), ?_⟩
                | refine ⟨Or.inr (Or.inr rfl), ?_⟩
                | refine ⟨Or.inr ⟨rfl, (by first | exact Or.inl rfl | exact Or.inr rfl | assumption)⟩, ?_⟩
                | refine ⟨fun h => absurd h (by decide), fun _ => ?_⟩
                | refine ⟨fun _ => ?_, fun h => absurd h (by decide)⟩
                | refine ⟨fun h => ?_, fun h => ?_⟩
                | fail)
            · have q' := nD_le (hc ▸ q) (by omega) (by omega)
              rw [← hc] at q'
              refine zs k_Mo_priceOf rfl ?_; conv => whnf
              repeat' (first
                | refine br_f hlz ?_
                | refine bn_f e' ?_
                | refine br_f q ?_
                | refine ih2 (i + 1) _ _ _ (by omega) (by exact nI_1 i) (by rw [hst, q', hs]; exact nI_add _ _) (by rw [hst, hc]; exact nI_1 _)
                | (refine zs k_Mo_priceOf rfl ?_; conv => whnf)
                | refine ⟨Nat.zero_lt_one, rfl, ?_⟩
                | refine ⟨rfl, ?_⟩
                | refine ⟨⟨Nat.zero_lt_one, rfl⟩, Nat.le_of_ble_eq_true rfl, ?_⟩
                | refine ⟨Nat.le_of_ble_eq_true rfl, Nat.le_of_ble_eq_true rfl, ?_⟩
                | refine ⟨(by first | exact Nat.zero_lt_one | assumption | omega), (by first | assumption | exact vp_in_nI (by omega) (by omega) | (unfold vp_in; decide)), ?_⟩
                | refine ⟨(by first | exact Nat.zero_lt_one | assumption | omega), rfl, ?_⟩
                | refine ⟨⟨(by first | exact Nat.zero_lt_one | assumption | omega), rfl⟩, Nat.le_of_ble_eq_true rfl, ?_⟩
                | refine ⟨(by first | exact Nat.zero_lt_one | assumption | omega), ?_⟩
                | refine ⟨Or.inl rfl, ?_⟩
                | refine ⟨Or.inr (Or.inl rfl), ?_⟩
                | refine ⟨Or.inr (Or.inr rfl), ?_⟩
                | refine ⟨Or.inr ⟨rfl, (by first | exact Or.inl rfl | exact Or.inr rfl | assumption)⟩, ?_⟩
                | refine ⟨fun h => absurd h (by decide), fun _ => ?_⟩
                | refine ⟨fun _ => ?_, fun h => absurd h (by decide)⟩
                | refine ⟨fun h => ?_, fun h => ?_⟩
                | fail)
          · have e' : ¬ μ 96 0 (nI i).toNatClampNeg = μ 86 0 (nI j).toNatClampNeg := by rw [ei, ej]; exact e
            have hst : mP r (nI (o j)) (mO r o z j) (i + 1) = mP r (nI (o j)) (mO r o z j) i := by rw [mP, if_neg e]
            refine zs k_Mo_priceOf rfl ?_; conv => whnf
            repeat' (first
              | refine br_f hlz ?_
              | refine bn_t e' ?_
              | refine ih2 (i + 1) _ _ _ (by omega) (by exact nI_1 i) (by rw [hst]; exact hs) (by rw [hst]; exact hc)
              | (refine zs k_Mo_priceOf rfl ?_; conv => whnf)
              | refine ⟨Nat.zero_lt_one, rfl, ?_⟩
              | refine ⟨rfl, ?_⟩
              | refine ⟨⟨Nat.zero_lt_one, rfl⟩, Nat.le_of_ble_eq_true rfl, ?_⟩
              | refine ⟨Nat.le_of_ble_eq_true rfl, Nat.le_of_ble_eq_true rfl, ?_⟩
              | refine ⟨(by first | exact Nat.zero_lt_one | assumption | omega), (by first | assumption | exact vp_in_nI (by omega) (by omega) | (unfold vp_in; decide)), ?_⟩
              | refine ⟨(by first | exact Nat.zero_lt_one | assumption | omega), rfl, ?_⟩
              | refine ⟨⟨(by first | exact Nat.zero_lt_one | assumption | omega), rfl⟩, Nat.le_of_ble_eq_true rfl, ?_⟩
              | refine ⟨(by first | exact Nat.zero_lt_one | assumption | omega), ?_⟩
              | refine ⟨Or.inl rfl, ?_⟩
              | refine ⟨Or.inr (Or.inl rfl), ?_⟩
              | refine ⟨Or.inr (Or.inr rfl), ?_⟩
              | refine ⟨Or.inr ⟨rfl, (by first | exact Or.inl rfl | exact Or.inr rfl | assumption)⟩, ?_⟩
              | refine ⟨fun h => absurd h (by decide), fun _ => ?_⟩
              | refine ⟨fun _ => ?_, fun h => absurd h (by decide)⟩
              | refine ⟨fun h => ?_, fun h => ?_⟩
              | fail)
      refine zs k_Mo_priceOf rfl ?_; conv => whnf
      repeat' (first
        | refine br_f hle ?_
        | refine L0 z 0 _ _ _ (by omega) rfl hs hc
        | (refine zs k_Mo_priceOf rfl ?_; conv => whnf)
        | refine ⟨Nat.zero_lt_one, rfl, ?_⟩
        | refine ⟨rfl, ?_⟩
        | refine ⟨⟨Nat.zero_lt_one, rfl⟩, Nat.le_of_ble_eq_true rfl, ?_⟩
        | refine ⟨Nat.le_of_ble_eq_true rfl, Nat.le_of_ble_eq_true rfl, ?_⟩
        | refine ⟨(by first | exact Nat.zero_lt_one | assumption | omega), (by first | assumption | exact vp_in_nI (by omega) (by omega) | (unfold vp_in; decide)), ?_⟩
        | refine ⟨(by first | exact Nat.zero_lt_one | assumption | omega), rfl, ?_⟩
        | refine ⟨⟨(by first | exact Nat.zero_lt_one | assumption | omega), rfl⟩, Nat.le_of_ble_eq_true rfl, ?_⟩
        | refine ⟨(by first | exact Nat.zero_lt_one | assumption | omega), ?_⟩
        | refine ⟨Or.inl rfl, ?_⟩
        | refine ⟨Or.inr (Or.inl rfl), ?_⟩
        | refine ⟨Or.inr (Or.inr rfl), ?_⟩
        | refine ⟨Or.inr ⟨rfl, (by first | exact Or.inl rfl | exact Or.inr rfl | assumption)⟩, ?_⟩
        | refine ⟨fun h => absurd h (by decide), fun _ => ?_⟩
        | refine ⟨fun _ => ?_, fun h => absurd h (by decide)⟩
        | refine ⟨fun h => ?_, fun h => ?_⟩
        | fail)
  have hst : zG S (d + 2) m_Mo_priceOf K 7 [some (zR 48 0), some (zI (nI t)), some (zI (nI z)), none, none, none, none] [] μ := by
    repeat' (first
      | refine L1 m 0 _ _ _ _ (by omega) rfl rfl rfl
      | (refine zs k_Mo_priceOf rfl ?_; conv => whnf)
      | refine ⟨Nat.zero_lt_one, rfl, ?_⟩
      | refine ⟨rfl, ?_⟩
      | refine ⟨⟨Nat.zero_lt_one, rfl⟩, Nat.le_of_ble_eq_true rfl, ?_⟩
      | refine ⟨Nat.le_of_ble_eq_true rfl, Nat.le_of_ble_eq_true rfl, ?_⟩
      | refine ⟨(by first | exact Nat.zero_lt_one | assumption | omega), (by first | assumption | exact vp_in_nI (by omega) (by omega) | (unfold vp_in; decide)), ?_⟩
      | refine ⟨(by first | exact Nat.zero_lt_one | assumption | omega), rfl, ?_⟩
      | refine ⟨⟨(by first | exact Nat.zero_lt_one | assumption | omega), rfl⟩, Nat.le_of_ble_eq_true rfl, ?_⟩
      | refine ⟨(by first | exact Nat.zero_lt_one | assumption | omega), ?_⟩
      | refine ⟨Or.inl rfl, ?_⟩
      | refine ⟨Or.inr (Or.inl rfl), ?_⟩
      | refine ⟨Or.inr (Or.inr rfl), ?_⟩
      | refine ⟨Or.inr ⟨rfl, (by first | exact Or.inl rfl | exact Or.inr rfl | assumption)⟩, ?_⟩
      | refine ⟨fun h => absurd h (by decide), fun _ => ?_⟩
      | refine ⟨fun _ => ?_, fun h => absurd h (by decide)⟩
      | refine ⟨fun h => ?_, fun h => ?_⟩
      | fail)
  have hst' : ∀ v : Int32, v = nI z → zG S (d + 2) m_Mo_priceOf K 7 [some (zR 48 0), some (zI (nI t)), some (zI v), none, none, none, none] [] μ := fun v hv => by rw [hv]; exact hst
  repeat' (first
    | exact hst' _ e94
    | (refine zs k_Mo_priceOf rfl ?_; conv => whnf)
    | refine ⟨Nat.zero_lt_one, rfl, ?_⟩
    | refine ⟨rfl, ?_⟩
    | refine ⟨⟨Nat.zero_lt_one, rfl⟩, Nat.le_of_ble_eq_true rfl, ?_⟩
    | refine ⟨Nat.le_of_ble_eq_true rfl, Nat.le_of_ble_eq_true rfl, ?_⟩
    | refine ⟨(by first | exact Nat.zero_lt_one | assumption | omega), (by first | assumption | exact vp_in_nI (by omega) (by omega) | (unfold vp_in; decide)), ?_⟩
    | refine ⟨(by first | exact Nat.zero_lt_one | assumption | omega), rfl, ?_⟩
    | refine ⟨⟨(by first | exact Nat.zero_lt_one | assumption | omega), rfl⟩, Nat.le_of_ble_eq_true rfl, ?_⟩
    | refine ⟨(by first | exact Nat.zero_lt_one | assumption | omega), ?_⟩
    | refine ⟨Or.inl rfl, ?_⟩
    | refine ⟨Or.inr (Or.inl rfl), ?_⟩
    | refine ⟨Or.inr (Or.inr rfl), ?_⟩
    | refine ⟨Or.inr ⟨rfl, (by first | exact Or.inl rfl | exact Or.inr rfl | assumption)⟩, ?_⟩
    | refine ⟨fun h => absurd h (by decide), fun _ => ?_⟩
    | refine ⟨fun _ => ?_, fun h => absurd h (by decide)⟩
    | refine ⟨fun h => ?_, fun h => ?_⟩
    | fail)
/-- the order's places are unlike, and all who are there are in it -/
theorem oLf_rm {A : Nat → Nat → Bool} {n : Nat} {lf0 : Nat → Bool} {i : Nat} : ∀ k, oLf A n lf0 (i + 1 + k) (oN A n lf0 i) = false
  | 0 => by
    show (oLf A n lf0 i (oN A n lf0 i) && decide (oN A n lf0 i ≠ oNx A n (oLf A n lf0 i))) = false
    rw [show oN A n lf0 i = oNx A n (oLf A n lf0 i) from rfl]
    simp
  | k + 1 => by
    show (oLf A n lf0 (i + 1 + k) (oN A n lf0 i) && decide (oN A n lf0 i ≠ oNx A n (oLf A n lf0 (i + 1 + k)))) = false
    rw [oLf_rm k]
    rfl
theorem oN_inj {A : Nat → Nat → Bool} {n : Nat} {lf0 : Nat → Bool} (h20 : n ≤ 20) : ∀ i j, i < j → j < pCt lf0 n → oN A n lf0 i ≠ oN A n lf0 j := fun i j hij hj e => by
  have h1 := oLf_rm (A := A) (n := n) (lf0 := lf0) (i := i) (j - (i + 1))
  rw [show i + 1 + (j - (i + 1)) = j by omega, e, (oN_df h20 j hj).2.2] at h1
  cases h1
theorem oN_all0 {A : Nat → Nat → Bool} {n : Nat} {lf0 : Nat → Bool} {p : Nat} (hp : lf0 p = true) : ∀ k, oLf A n lf0 k p = false → ∃ i, i < k ∧ p = oN A n lf0 i
  | 0, h => by
    rw [show oLf A n lf0 0 p = lf0 p from rfl, hp] at h
    cases h
  | k + 1, h => by
    have h' : (oLf A n lf0 k p && decide (p ≠ oNx A n (oLf A n lf0 k))) = false := h
    cases hl : oLf A n lf0 k p with
    | false =>
      obtain ⟨i, hi, e⟩ := oN_all0 hp k hl
      exact ⟨i, by omega, e⟩
    | true =>
      rw [hl] at h'
      have h2 : p = oNx A n (oLf A n lf0 k) := by simpa using h'
      exact ⟨k, by omega, h2⟩
theorem pCt_z {P : Nat → Bool} : ∀ {n : Nat}, pCt P n = 0 → ∀ p, p < n → P p = false
  | 0, _, p, hp => absurd hp (by omega)
  | n + 1, h, p, hp => by
    rw [pCt] at h
    rcases Nat.lt_or_ge p n with q | q
    · exact pCt_z (by omega) p q
    · obtain rfl : p = n := by omega
      cases e : P p with
      | false => rfl
      | true =>
        rw [e, if_pos rfl] at h
        omega
theorem oN_all {A : Nat → Nat → Bool} {n : Nat} {lf0 : Nat → Bool} (h20 : n ≤ 20) {p : Nat} (hp : p < n) (hl : lf0 p = true) : ∃ i, i < pCt lf0 n ∧ p = oN A n lf0 i := by
  have hct := oLf_ct (A := A) (lf0 := lf0) h20 (pCt lf0 n) (Nat.le_refl _)
  exact oN_all0 hl _ (pCt_z (by omega) p hp)
theorem c_De_price {d ns n nr nh nt : Nat} {μ : zMu} {x o day : Int32} {K : Option zV → zMu → Prop} (g : gQ μ ns n nr nh) (g6 : gTb μ nt n) (h0 : ¬ (okI nt x ∧ okO o day) → K (some (zI (-1))) μ)
    (h1 : okO o day → ∀ t z μ' (w : Int32), t < nt → x = nI t → μ 9 t 0 = nI z → z ≤ 12 → zScr μ μ' → (∀ p, p < 20 → (zbt w p = true ↔ ∃ k, k < z ∧ μ 40 t k = nI p)) → (∀ i, i < pCt (cLf0 μ n) n → zbt w (oN (cAd μ o day nr nh n) n (cLf0 μ n) i) = true → μ' 39 0 (oN (cAd μ o day nr nh n) n (cLf0 μ n) i) = nI (pCt (fun i => zbt w (oN (cAd μ o day nr nh n) n (cLf0 μ n) i)) i)) → K (some (zI (pSum (hPr μ' (μ 40 t) (μ 9 t 2) z) z))) μ') : Ct (d + 6) m_De_price [zR 0 0, zI x, zI o, zI day] μ K := by
  refine zmeet rfl (Nat.le_of_ble_eq_true rfl) (fun S => ?_)
  have gq := g
  obtain ⟨g1, g2, g4, g5⟩ := g
  have h20 := g2.2.2.1
  have h4 := g6.2.2.1
  have hm := pCt_le (cLf0 μ n) n
  by_cases hx : okI nt x
  case neg =>
    have hk := h0 (fun q => hx q.1)
    have hx' : ¬ (0 ≤ x ∧ x < μ 5 0 0) := by rw [g6.1]; exact hx
    repeat' (first
      | refine c_Ha_hasTable (fun h h' => absurd ⟨h, h'⟩ hx') (fun _ => ?_)
      | exact hk
      | (refine zs k_De_price rfl ?_; conv => whnf)
      | refine ⟨Nat.zero_lt_one, rfl, ?_⟩
      | refine ⟨rfl, ?_⟩
      | refine ⟨⟨Nat.zero_lt_one, rfl⟩, Nat.le_of_ble_eq_true rfl, ?_⟩
      | refine ⟨Nat.le_of_ble_eq_true rfl, Nat.le_of_ble_eq_true rfl, ?_⟩
      | refine ⟨(by first | exact Nat.zero_lt_one | assumption | omega), (by first | assumption | exact vp_in_nI (by omega) (by omega) | (unfold vp_in; decide)), ?_⟩
      | refine ⟨(by first | exact Nat.zero_lt_one | assumption | omega), rfl, ?_⟩
      | refine ⟨⟨(by first | exact Nat.zero_lt_one | assumption | omega), rfl⟩, Nat.le_of_ble_eq_true rfl, ?_⟩
      | refine ⟨(by first | exact Nat.zero_lt_one | assumption | omega), ?_⟩
      | refine ⟨Or.inl rfl, ?_⟩
      | refine ⟨Or.inr (Or.inl rfl), ?_⟩
      | refine ⟨Or.inr (Or.inr rfl), ?_⟩
      | refine ⟨Or.inr ⟨rfl, (by first | exact Or.inl rfl | exact Or.inr rfl | assumption)⟩, ?_⟩
      | refine ⟨fun h => absurd h (by decide), fun _ => ?_⟩
      | refine ⟨fun _ => ?_, fun h => absurd h (by decide)⟩
      | refine ⟨fun h => ?_, fun h => ?_⟩
      | fail)
  have hx' : 0 ≤ x ∧ x < μ 5 0 0 := by rw [g6.1]; exact hx
  by_cases ho : okO o day
  case neg =>
    have hk := h0 (fun q => ho q.2)
    repeat' (first
      | refine c_Ha_hasTable (fun _ _ => ?_) (fun h => absurd hx' h)
      | refine c_De_isOccasion (fun q => absurd q ho) (fun _ => ?_)
      | exact hk
      | (refine zs k_De_price rfl ?_; conv => whnf)
      | refine ⟨Nat.zero_lt_one, rfl, ?_⟩
      | refine ⟨rfl, ?_⟩
      | refine ⟨⟨Nat.zero_lt_one, rfl⟩, Nat.le_of_ble_eq_true rfl, ?_⟩
      | refine ⟨Nat.le_of_ble_eq_true rfl, Nat.le_of_ble_eq_true rfl, ?_⟩
      | refine ⟨(by first | exact Nat.zero_lt_one | assumption | omega), (by first | assumption | exact vp_in_nI (by omega) (by omega) | (unfold vp_in; decide)), ?_⟩
      | refine ⟨(by first | exact Nat.zero_lt_one | assumption | omega), rfl, ?_⟩
      | refine ⟨⟨(by first | exact Nat.zero_lt_one | assumption | omega), rfl⟩, Nat.le_of_ble_eq_true rfl, ?_⟩
      | refine ⟨(by first | exact Nat.zero_lt_one | assumption | omega), ?_⟩
      | refine ⟨Or.inl rfl, ?_⟩
      | refine ⟨Or.inr (Or.inl rfl), ?_⟩
      | refine ⟨Or.inr (Or.inr rfl), ?_⟩
      | refine ⟨Or.inr ⟨rfl, (by first | exact Or.inl rfl | exact Or.inr rfl | assumption)⟩, ?_⟩
      | refine ⟨fun h => absurd h (by decide), fun _ => ?_⟩
      | refine ⟨fun _ => ?_, fun h => absurd h (by decide)⟩
      | refine ⟨fun h => ?_, fun h => ?_⟩
      | fail)
  rcases zIx x (n := nt) (by omega) with ⟨t, ht, rfl⟩ | q
  case inr => exact absurd hx q
  obtain ⟨-, -, ⟨z, z1, z2, z3, z4, z5⟩, -⟩ := g6.2.2.2 t ht
  have ct : (nI t).toNatClampNeg = t := nI_clamp (by omega)
  have vt : vp_in (nI t) 4 := vp_in_nI (by omega) (by omega)
  have hlt : (nI t).toNatClampNeg < 4 := by omega
  have hrow := g6_row g6 ht
  have V : ∀ μ1 : zMu, zFr7 μ μ1 → cOrd μ μ1 (cAd μ o day nr nh n) n (cLf0 μ n) (pCt (cLf0 μ n) n) → zG S (d + 6) m_De_price K 30 [some (zR 0 0), some (zI (nI t)), some (zI o), some (zI day)] [] μ1 := fun μ1 f1 c1 => by
    have s1 := zFr7_scr f1
    obtain ⟨g1', g2', -, -⟩ := gQ_scr s1 gq
    have e9 : μ1 9 (nI t).toNatClampNeg 0 = nI z := by rw [ct, f1 9 (by decide)]; exact z3
    have e40 : μ1 40 = μ 40 := f1 40 (by decide)
    have e92 : μ1 9 = μ 9 := f1 9 (by decide)
    have hok : ∀ j, j < z → hOk μ1 (μ1 40 (nI t).toNatClampNeg j) := fun j hj => by
      rw [ct, e40]
      exact hOk_of g1' g2' (hrow j (by omega))
    repeat' (first
      | refine c_Ha_priceOf (o := oN (cAd μ o day nr nh n) n (cLf0 μ n)) hlt e9 z2 hok c1.1 (by omega) (fun i hi => ⟨Nat.lt_of_lt_of_le (oN_df h20 i hi).1 h20, c1.2.1 i hi⟩) (oN_inj h20) (fun μ2 w q1 q2 q3 => ?_)
      | refine zKe (h1 ho t z μ2 w ht rfl z3 z2 (zScr_tr s1 ⟨fun f hf => q2 f (fun e => hf (by rw [e]; decide)), by rw [q2 2 (by omega)], fun k _ => by rw [q2 48 (by omega)]⟩) (by rw [ct, e40] at q1; exact q1) q3) (by rw [ct, e40, e92]) rfl
      | (refine zs k_De_price rfl ?_; conv => whnf)
      | refine ⟨Nat.zero_lt_one, rfl, ?_⟩
      | refine ⟨rfl, ?_⟩
      | refine ⟨⟨Nat.zero_lt_one, rfl⟩, Nat.le_of_ble_eq_true rfl, ?_⟩
      | refine ⟨Nat.le_of_ble_eq_true rfl, Nat.le_of_ble_eq_true rfl, ?_⟩
      | refine ⟨(by first | exact Nat.zero_lt_one | assumption | omega), (by first | assumption | exact vp_in_nI (by omega) (by omega) | (unfold vp_in; decide)), ?_⟩
      | refine ⟨(by first | exact Nat.zero_lt_one | assumption | omega), rfl, ?_⟩
      | refine ⟨⟨(by first | exact Nat.zero_lt_one | assumption | omega), rfl⟩, Nat.le_of_ble_eq_true rfl, ?_⟩
      | refine ⟨(by first | exact Nat.zero_lt_one | assumption | omega), ?_⟩
      | refine ⟨Or.inl rfl, ?_⟩
      | refine ⟨Or.inr (Or.inl rfl), ?_⟩
      | refine ⟨Or.inr (Or.inr rfl), ?_⟩
      | refine ⟨Or.inr ⟨rfl, (by first | exact Or.inl rfl | exact Or.inr rfl | assumption)⟩, ?_⟩
      | refine ⟨fun h => absurd h (by decide), fun _ => ?_⟩
      | refine ⟨fun _ => ?_, fun h => absurd h (by decide)⟩
      | refine ⟨fun h => ?_, fun h => ?_⟩
      | fail)
  repeat' (first
    | refine c_Ha_hasTable (fun _ _ => ?_) (fun h => absurd hx' h)
    | refine c_De_isOccasion (fun _ => ?_) (fun q => absurd ho q)
    | refine c_Pr_form g2.1 h20 g4.1 g4.2.2.1 g5.1 g5.2.2.1 (gRu_ok g4) (fun p hp => (g2.2.2.2 p hp).2.1) (fun μ' hf hc => ?_)
    | exact V _ hf hc
    | (refine zs k_De_price rfl ?_; conv => whnf)
    | refine ⟨Nat.zero_lt_one, rfl, ?_⟩
    | refine ⟨rfl, ?_⟩
    | refine ⟨⟨Nat.zero_lt_one, rfl⟩, Nat.le_of_ble_eq_true rfl, ?_⟩
    | refine ⟨Nat.le_of_ble_eq_true rfl, Nat.le_of_ble_eq_true rfl, ?_⟩
    | refine ⟨(by first | exact Nat.zero_lt_one | assumption | omega), (by first | assumption | exact vp_in_nI (by omega) (by omega) | (unfold vp_in; decide)), ?_⟩
    | refine ⟨(by first | exact Nat.zero_lt_one | assumption | omega), rfl, ?_⟩
    | refine ⟨⟨(by first | exact Nat.zero_lt_one | assumption | omega), rfl⟩, Nat.le_of_ble_eq_true rfl, ?_⟩
    | refine ⟨(by first | exact Nat.zero_lt_one | assumption | omega), ?_⟩
    | refine ⟨Or.inl rfl, ?_⟩
    | refine ⟨Or.inr (Or.inl rfl), ?_⟩
    | refine ⟨Or.inr (Or.inr rfl), ?_⟩
    | refine ⟨Or.inr ⟨rfl, (by first | exact Or.inl rfl | exact Or.inr rfl | assumption)⟩, ?_⟩
    | refine ⟨fun h => absurd h (by decide), fun _ => ?_⟩
    | refine ⟨fun _ => ?_, fun h => absurd h (by decide)⟩
    | refine ⟨fun h => ?_, fun h => ?_⟩
    | fail)
theorem c_Mo_price {d ns n nr nh nt : Nat} {μ : zMu} {x o day : Int32} {K : Option zV → zMu → Prop} (g : gQ μ ns n nr nh) (g6 : gTb μ nt n) (g7 : gFe μ) (g8 : gCo μ) (h0 : ¬ (okI nt x ∧ okO o day) → K (some (zI (-1))) μ)
    (h1 : okO o day → ∀ t z μ', t < nt → x = nI t → μ 9 t 0 = nI z → z ≤ 12 → zScr μ μ' → K (some (zI (nI ((mO (μ 40 t) (oN (cAd μ o day nr nh n) n (cLf0 μ n)) z (pCt (cLf0 μ n) n)).1 + nS (mTk μ (μ 40 t) (μ 9 t 2) z) z)))) μ') : Ct (d + 10) m_Mo_price [zR 48 0, zI x, zI o, zI day] μ K := by
  refine zmeet rfl (Nat.le_of_ble_eq_true rfl) (fun S => ?_)
  have h20 := g.2.1.2.2.1
  have h4 := g6.2.2.1
  have hm := pCt_le (cLf0 μ n) n
  by_cases hx : okI nt x
  case neg =>
    have hk := h0 (fun q => hx q.1)
    have hx' : ¬ (0 ≤ x ∧ x < μ 48 0 42) := by rw [g6.2.1]; exact hx
    repeat' (first
      | refine c_Mo_isTable (fun h => absurd h hx') (fun _ => ?_)
      | exact hk
      | (refine zs k_Mo_price rfl ?_; conv => whnf)
      | refine ⟨Nat.zero_lt_one, rfl, ?_⟩
      | refine ⟨rfl, ?_⟩
      | refine ⟨⟨Nat.zero_lt_one, rfl⟩, Nat.le_of_ble_eq_true rfl, ?_⟩
      | refine ⟨Nat.le_of_ble_eq_true rfl, Nat.le_of_ble_eq_true rfl, ?_⟩
      | refine ⟨(by first | exact Nat.zero_lt_one | assumption | omega), (by first | assumption | exact vp_in_nI (by omega) (by omega) | (unfold vp_in; decide)), ?_⟩
      | refine ⟨(by first | exact Nat.zero_lt_one | assumption | omega), rfl, ?_⟩
      | refine ⟨⟨(by first | exact Nat.zero_lt_one | assumption | omega), rfl⟩, Nat.le_of_ble_eq_true rfl, ?_⟩
      | refine ⟨(by first | exact Nat.zero_lt_one | assumption | omega), ?_⟩
      | refine ⟨Or.inl rfl, ?_⟩
      | refine ⟨Or.inr (Or.inl rfl), ?_⟩
      | refine ⟨Or.inr (Or.inr rfl), ?_⟩
      | refine ⟨Or.inr ⟨rfl, (by first | exact Or.inl rfl | exact Or.inr rfl | assumption)⟩, ?_⟩
      | refine ⟨fun h => absurd h (by decide), fun _ => ?_⟩
      | refine ⟨fun _ => ?_, fun h => absurd h (by decide)⟩
      | refine ⟨fun h => ?_, fun h => ?_⟩
      | fail)
  have hx' : 0 ≤ x ∧ x < μ 48 0 42 := by rw [g6.2.1]; exact hx
  by_cases ho : okO o day
  case neg =>
    have hk := h0 (fun q => ho q.2)
    repeat' (first
      | refine c_Mo_isTable (fun _ => ?_) (fun h => absurd hx' h)
      | refine c_Mo_isOccasion (fun q => absurd q ho) (fun _ => ?_)
      | exact hk
      | (refine zs k_Mo_price rfl ?_; conv => whnf)
      | refine ⟨Nat.zero_lt_one, rfl, ?_⟩
      | refine ⟨rfl, ?_⟩
      | refine ⟨⟨Nat.zero_lt_one, rfl⟩, Nat.le_of_ble_eq_true rfl, ?_⟩
      | refine ⟨Nat.le_of_ble_eq_true rfl, Nat.le_of_ble_eq_true rfl, ?_⟩
      | refine ⟨(by first | exact Nat.zero_lt_one | assumption | omega), (by first | assumption | exact vp_in_nI (by omega) (by omega) | (unfold vp_in; decide)), ?_⟩
      | refine ⟨(by first | exact Nat.zero_lt_one | assumption | omega), rfl, ?_⟩
      | refine ⟨⟨(by first | exact Nat.zero_lt_one | assumption | omega), rfl⟩, Nat.le_of_ble_eq_true rfl, ?_⟩
      | refine ⟨(by first | exact Nat.zero_lt_one | assumption | omega), ?_⟩
      | refine ⟨Or.inl rfl, ?_⟩
      | refine ⟨Or.inr (Or.inl rfl), ?_⟩
      | refine ⟨Or.inr (Or.inr rfl), ?_⟩
      | refine ⟨Or.inr ⟨rfl, (by first | exact Or.inl rfl | exact Or.inr rfl | assumption)⟩, ?_⟩
      | refine ⟨fun h => absurd h (by decide), fun _ => ?_⟩
      | refine ⟨fun _ => ?_, fun h => absurd h (by decide)⟩
      | refine ⟨fun h => ?_, fun h => ?_⟩
      | fail)
  rcases zIx x (n := nt) (by omega) with ⟨t, ht, rfl⟩ | q
  case inr => exact absurd hx q
  obtain ⟨a1, a2, ⟨z, z1, z2, z3, z4, z5⟩, a4, -⟩ := g6.2.2.2 t ht
  have hrow := g6_row g6 ht
  have V2 : ∀ μ2 : zMu, zScr μ μ2 → mOrd μ2 (cAd μ o day nr nh n) n (cLf0 μ n) (pCt (cLf0 μ n) n) → (∀ k, k < 12 → μ2 96 0 k = μ 95 0 (12 * t + k)) → zG S (d + 10) m_Mo_price K 29 [some (zR 48 0), some (zI (nI t)), some (zI o), some (zI day)] [] μ2 := fun μ2 s2 c2 e2 => by
    obtain ⟨g1', g2', -, -⟩ := gQ_scr s2 g
    have hT : mT μ2 ns n t z (μ 9 t 2) (μ 40 t) := ⟨g1', g2', gFe_fr (zScr_in s2 rfl) g7, gCo_fr (zScr_in s2 rfl) g8, by omega, by rw [zScr_in s2 (l := [94]) rfl 94 (by simp)]; exact z4, z1, z2, by rw [zScr_in s2 (l := [93]) rfl 93 (by simp)]; exact a2, a1, fun k hk => by rw [e2 k hk]; exact a4 k hk, hrow⟩
    have eT : mTk μ2 (μ 40 t) (μ 9 t 2) z = mTk μ (μ 40 t) (μ 9 t 2) z := by
      funext i
      unfold mTk tN hTk
      rw [zScr_in s2 (l := [38]) rfl 38 (by simp), zScr_in s2 (l := [17]) rfl 17 (by simp)]
    have hk := h1 ho t z μ2 ht rfl z3 z2 s2
    rw [← eT] at hk
    repeat' (first
      | refine c_Mo_priceOf hT rfl c2.1 (by omega) c2.2.1 ?_
      | exact hk
      | (refine zs k_Mo_price rfl ?_; conv => whnf)
      | refine ⟨Nat.zero_lt_one, rfl, ?_⟩
      | refine ⟨rfl, ?_⟩
      | refine ⟨⟨Nat.zero_lt_one, rfl⟩, Nat.le_of_ble_eq_true rfl, ?_⟩
      | refine ⟨Nat.le_of_ble_eq_true rfl, Nat.le_of_ble_eq_true rfl, ?_⟩
      | refine ⟨(by first | exact Nat.zero_lt_one | assumption | omega), (by first | assumption | exact vp_in_nI (by omega) (by omega) | (unfold vp_in; decide)), ?_⟩
      | refine ⟨(by first | exact Nat.zero_lt_one | assumption | omega), rfl, ?_⟩
      | refine ⟨⟨(by first | exact Nat.zero_lt_one | assumption | omega), rfl⟩, Nat.le_of_ble_eq_true rfl, ?_⟩
      | refine ⟨(by first | exact Nat.zero_lt_one | assumption | omega), ?_⟩
      | refine ⟨Or.inl rfl, ?_⟩
      | refine ⟨Or.inr (Or.inl rfl), ?_⟩
      | refine ⟨Or.inr (Or.inr rfl), ?_⟩
      | refine ⟨Or.inr ⟨rfl, (by first | exact Or.inl rfl | exact Or.inr rfl | assumption)⟩, ?_⟩
      | refine ⟨fun h => absurd h (by decide), fun _ => ?_⟩
      | refine ⟨fun _ => ?_, fun h => absurd h (by decide)⟩
      | refine ⟨fun h => ?_, fun h => ?_⟩
      | fail)
  have V : ∀ μ1 : zMu, zScr μ μ1 → mOrd μ1 (cAd μ o day nr nh n) n (cLf0 μ n) (pCt (cLf0 μ n) n) → zG S (d + 10) m_Mo_price K 24 [some (zR 48 0), some (zI (nI t)), some (zI o), some (zI day)] [] μ1 := fun μ1 s1 c1 => by
    have e95 : μ1 95 = μ 95 := zScr_in s1 (l := [95]) rfl 95 (by simp)
    repeat' (first
      | refine c_Mo_take (t := t) (by omega) rfl (fun μ2 e1 e2 => ?_)
      | refine V2 μ2 (zScr_tr s1 (zScr_96 e1)) ⟨by rw [e1 48 (by omega)]; exact c1.1, fun k hk => by rw [e1 86 (by omega)]; exact c1.2.1 k hk, by rw [e1 48 (by omega), e1 89 (by omega)]; exact c1.2.2⟩ (by rw [e95] at e2; exact e2)
      | (refine zs k_Mo_price rfl ?_; conv => whnf)
      | refine ⟨Nat.zero_lt_one, rfl, ?_⟩
      | refine ⟨rfl, ?_⟩
      | refine ⟨⟨Nat.zero_lt_one, rfl⟩, Nat.le_of_ble_eq_true rfl, ?_⟩
      | refine ⟨Nat.le_of_ble_eq_true rfl, Nat.le_of_ble_eq_true rfl, ?_⟩
      | refine ⟨(by first | exact Nat.zero_lt_one | assumption | omega), (by first | assumption | exact vp_in_nI (by omega) (by omega) | (unfold vp_in; decide)), ?_⟩
      | refine ⟨(by first | exact Nat.zero_lt_one | assumption | omega), rfl, ?_⟩
      | refine ⟨⟨(by first | exact Nat.zero_lt_one | assumption | omega), rfl⟩, Nat.le_of_ble_eq_true rfl, ?_⟩
      | refine ⟨(by first | exact Nat.zero_lt_one | assumption | omega), ?_⟩
      | refine ⟨Or.inl rfl, ?_⟩
      | refine ⟨Or.inr (Or.inl rfl), ?_⟩
      | refine ⟨Or.inr (Or.inr rfl), ?_⟩
      | refine ⟨Or.inr ⟨rfl, (by first | exact Or.inl rfl | exact Or.inr rfl | assumption)⟩, ?_⟩
      | refine ⟨fun h => absurd h (by decide), fun _ => ?_⟩
      | refine ⟨fun _ => ?_, fun h => absurd h (by decide)⟩
      | refine ⟨fun h => ?_, fun h => ?_⟩
      | fail)
  repeat' (first
    | refine c_Mo_isTable (fun _ => ?_) (fun h => absurd hx' h)
    | refine c_Mo_isOccasion (fun _ => ?_) (fun q => absurd ho q)
    | refine c_Mo_findOrder g (fun μ' hf hc => ?_)
    | exact V _ hf hc
    | (refine zs k_Mo_price rfl ?_; conv => whnf)
    | refine ⟨Nat.zero_lt_one, rfl, ?_⟩
    | refine ⟨rfl, ?_⟩
    | refine ⟨⟨Nat.zero_lt_one, rfl⟩, Nat.le_of_ble_eq_true rfl, ?_⟩
    | refine ⟨Nat.le_of_ble_eq_true rfl, Nat.le_of_ble_eq_true rfl, ?_⟩
    | refine ⟨(by first | exact Nat.zero_lt_one | assumption | omega), (by first | assumption | exact vp_in_nI (by omega) (by omega) | (unfold vp_in; decide)), ?_⟩
    | refine ⟨(by first | exact Nat.zero_lt_one | assumption | omega), rfl, ?_⟩
    | refine ⟨⟨(by first | exact Nat.zero_lt_one | assumption | omega), rfl⟩, Nat.le_of_ble_eq_true rfl, ?_⟩
    | refine ⟨(by first | exact Nat.zero_lt_one | assumption | omega), ?_⟩
    | refine ⟨Or.inl rfl, ?_⟩
    | refine ⟨Or.inr (Or.inl rfl), ?_⟩
    | refine ⟨Or.inr (Or.inr rfl), ?_⟩
    | refine ⟨Or.inr ⟨rfl, (by first | exact Or.inl rfl | exact Or.inr rfl | assumption)⟩, ?_⟩
    | refine ⟨fun h => absurd h (by decide), fun _ => ?_⟩
    | refine ⟨fun _ => ?_, fun h => absurd h (by decide)⟩
    | refine ⟨fun h => ?_, fun h => ?_⟩
    | fail)
theorem gTb_scr {μ μ' : zMu} {nt n : Nat} (h : zScr μ μ') (g : gTb μ nt n) : gTb μ' nt n := gTb_fr (zScr_in h rfl) (h.2.2 42 (by decide)) g
theorem hPr_fr {μ μ' : zMu} {r : Nat → Int32} {rd : Int32} {z : Nat} (h38 : μ' 38 = μ 38) (h17 : μ' 17 = μ 17) : mTk μ' r rd z = mTk μ r rd z := by
  funext i
  unfold mTk tN hTk
  rw [h38, h17]
theorem b_price {μ : zMu} {x o day : Int32} (h : Rel μ) : Both m_De_price m_Mo_price [zI x, zI o, zI day] μ := by
  intro d K hK
  obtain ⟨ns, n, nr, nh, nt, nb, L, g1, g2, g3, g4, g5, g6, g7, g8, g9, g10, g11⟩ := id h
  have h20 := g2.2.2.1
  have h4 := g6.2.2.1
  have g : gQ μ ns n nr nh := ⟨g1, g2, g4, g5⟩
  have hm := pCt_le (cLf0 μ n) n
  refine c_De_price g g6 (fun a => hK _ _ (fun d K2 hK2 => ?_)) (fun a t z μ1 w ht ex e9 hz s1 q1 q3 => hK _ _ (fun d K2 hK2 => ?_))
  · exact c_Mo_price g g6 g7 g8 (fun _ => hK2 _ h) (fun b t z μ' ht ex => absurd ⟨by rw [ex]; exact okI_i ht (by omega), b⟩ a)
  · subst ex
    obtain ⟨e1, e2⟩ := zScr_ad s1 o day nr nh n
    have f40 : μ1 40 = μ 40 := zScr_in s1 (l := [40]) rfl 40 (by simp)
    have f9 : μ1 9 = μ 9 := zScr_in s1 (l := [9]) rfl 9 (by simp)
    have g1' := gQ_scr s1 g
    have g8' := gCo_fr (zScr_in s1 rfl) g8
    refine c_Mo_price g1' (gTb_scr s1 g6) (gFe_fr (zScr_in s1 rfl) g7) g8' (fun b => absurd ⟨okI_i ht (by omega), a⟩ b) (fun _ t' z' μ2 ht' ex e9' hz' s2 => ?_)
    obtain rfl := (nI_eq (by omega) (by omega)).mp ex
    rw [f9] at e9'
    obtain rfl := (nI_eq (by omega) (by omega)).mp (e9.symm.trans e9')
    obtain ⟨b1, b2, ⟨y, y1, y2, y3, y4, y5⟩, b4, b5, b6⟩ := g6.2.2.2 t ht
    obtain rfl := (nI_eq (by omega) (by omega)).mp (e9.symm.trans y3)
    refine zKe (hK2 _ (Rel_scr (zScr_tr s1 s2) h)) ?_ rfl
    rw [e1, e2, f40, f9]
    refine (price_all (μ := μ1) (ns := ns) (n := n) (sits := zbt w) g1'.1 g1'.2.1 g8' y1 hz (g6_row g6 ht) b6 q1 (fun i hi => Nat.lt_of_lt_of_le (oN_df h20 i hi).1 h20) (by omega) (oN_inj h20) (fun k hk hne => ?_) q3).symm
    rcases b5 k (by omega) with q | ⟨p, hp, q, q10⟩
    · exact absurd q hne
    · obtain ⟨i, hi, e⟩ := oN_all (A := cAd μ o day nr nh n) (lf0 := cLf0 μ n) h20 hp (by unfold cLf0; simp [hp, q10])
      exact ⟨i, hi, by rw [q, e]⟩
