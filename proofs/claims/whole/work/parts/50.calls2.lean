/-! CALLS: settleOldest -/
theorem c_Ca_settleOldest {d n : Nat} {μ : zMu} {x y : Int32} {K : Option zV → zMu → Prop} (hn : μ 7 0 0 = nI n) (h40 : n ≤ 40)
    (h1 : ∀ v, v < n → pFst (fun v => decide (μ 46 0 v = x) && decide (μ 45 0 v = y)) n = nI v → K (some (zI 1)) (cRem (zu μ 7 0 0 (nI (n - 1))) v (n - 1)))
    (h0 : pFst (fun v => decide (μ 46 0 v = x) && decide (μ 45 0 v = y)) n = -1 → K (some (zI 0)) μ) : Ct (d + 1) m_Ca_settleOldest [zR 7 0, zI x, zI y] μ K := by
  refine zmeet rfl (Nat.le_of_ble_eq_true rfl) (fun S => ?_)
  have L : ∀ (k i : Nat) (v : Int32), i + k = n → v = nI i → (∀ r, r < i → (decide (μ 46 0 r = x) && decide (μ 45 0 r = y)) = false) → zG S (d + 1) m_Ca_settleOldest K 2 [some (zR 7 0), some (zI x), some (zI y), some (zI v)] [] μ := by
    intro k
    induction k with
    | zero =>
      intro i v hi hv hz
      subst hv
      obtain rfl : i = n := by omega
      have hk := h0 (pFst_none hz)
      refine zs k_Ca_settleOldest rfl ?_
      repeat' (first
        | exact hk
        | refine zs k_Ca_settleOldest rfl ?_
        | refine br_t (by simp (disch := omega) only [hn, nI_leI, nI_ltI, nI_eq]; omega) ?_
        | refine br_f (by simp (disch := omega) only [hn, nI_leI, nI_ltI, nI_eq]; omega) ?_
        | refine ⟨Nat.zero_lt_one, rfl, ?_⟩
        | refine ⟨rfl, ?_⟩
        | refine ⟨⟨Nat.zero_lt_one, rfl⟩, Nat.le_of_ble_eq_true rfl, ?_⟩
        | refine ⟨Nat.le_of_ble_eq_true rfl, Nat.le_of_ble_eq_true rfl, ?_⟩
        | refine ⟨(by first | exact Nat.zero_lt_one | assumption | omega), (by first | assumption | exact vp_in_nI (by omega) (by omega) | (unfold vp_in; decide)), ?_⟩
        | refine ⟨(by first | exact Nat.zero_lt_one | assumption | omega), rfl, ?_⟩
        | refine ⟨⟨(by first | exact Nat.zero_lt_one | assumption | omega), rfl⟩, Nat.le_of_ble_eq_true rfl, ?_⟩
        | refine ⟨(by first | exact Nat.zero_lt_one | assumption | omega), ?_⟩
        | refine ⟨Or.inl rfl, ?_⟩
        | refine ⟨Or.inr (Or.inl rfl), ?_⟩
        | refine ⟨Or.inr (Or.inr rfl), ?_⟩
        | refine ⟨Or.inr ⟨rfl, (by first | exact Or.inl rfl | exact Or.inr rfl | assumption)⟩, ?_⟩
        | refine ⟨fun h => absurd h (by decide), fun _ => ?_⟩
        | refine ⟨fun _ => ?_, fun h => absurd h (by decide)⟩
        | refine ⟨fun h => ?_, fun h => ?_⟩
        | fail)
    | succ k ih =>
      intro i v hi hv hz
      subst hv
      have hc : (nI i).toNatClampNeg = i := nI_clamp (by omega)
      have hn2 : μ 7 0 0 = nI (n - 1 + 1) := by rw [hn, show n - 1 + 1 = n by omega]
      refine zs k_Ca_settleOldest rfl ?_
      repeat' (first
        | refine c_Ca_isBetween (vp_in_nI (by omega) (by omega)) (fun hb => ?_) (fun hb => ?_)
        | refine c_Ca_remove hn2 (by omega) (by omega) ?_
        | refine h1 i (by omega) (pFst_hit hz (by rw [hc] at hb; simp [hb.1, hb.2]) (by omega) (by omega))
        | refine ih (i + 1) _ (by omega) (by exact nI_1 i) (lt_s hz (by rw [hc] at hb; simpa using hb))
        | refine zs k_Ca_settleOldest rfl ?_
        | refine br_t (by simp (disch := omega) only [hn, nI_leI, nI_ltI, nI_eq]; omega) ?_
        | refine br_f (by simp (disch := omega) only [hn, nI_leI, nI_ltI, nI_eq]; omega) ?_
        | refine ⟨Nat.zero_lt_one, rfl, ?_⟩
        | refine ⟨rfl, ?_⟩
        | refine ⟨⟨Nat.zero_lt_one, rfl⟩, Nat.le_of_ble_eq_true rfl, ?_⟩
        | refine ⟨Nat.le_of_ble_eq_true rfl, Nat.le_of_ble_eq_true rfl, ?_⟩
        | refine ⟨(by first | exact Nat.zero_lt_one | assumption | omega), (by first | assumption | exact vp_in_nI (by omega) (by omega) | (unfold vp_in; decide)), ?_⟩
        | refine ⟨(by first | exact Nat.zero_lt_one | assumption | omega), rfl, ?_⟩
        | refine ⟨⟨(by first | exact Nat.zero_lt_one | assumption | omega), rfl⟩, Nat.le_of_ble_eq_true rfl, ?_⟩
        | refine ⟨(by first | exact Nat.zero_lt_one | assumption | omega), ?_⟩
        | refine ⟨Or.inl rfl, ?_⟩
        | refine ⟨Or.inr (Or.inl rfl), ?_⟩
        | refine ⟨Or.inr (Or.inr rfl), ?_⟩
        | refine ⟨Or.inr ⟨rfl, (by first | exact Or.inl rfl | exact Or.inr rfl | assumption)⟩, ?_⟩
        | refine ⟨fun h => absurd h (by decide), fun _ => ?_⟩
        | refine ⟨fun _ => ?_, fun h => absurd h (by decide)⟩
        | refine ⟨fun h => ?_, fun h => ?_⟩
        | fail)
  repeat' (first
    | exact L n 0 _ (by omega) rfl (fun r hr => absurd hr (by omega))
    | refine zs k_Ca_settleOldest rfl ?_
    | refine ⟨Nat.zero_lt_one, rfl, ?_⟩
    | refine ⟨rfl, ?_⟩
    | refine ⟨⟨Nat.zero_lt_one, rfl⟩, Nat.le_of_ble_eq_true rfl, ?_⟩
    | refine ⟨Nat.le_of_ble_eq_true rfl, Nat.le_of_ble_eq_true rfl, ?_⟩
    | refine ⟨(by first | exact Nat.zero_lt_one | assumption | omega), (by first | assumption | exact vp_in_nI (by omega) (by omega) | (unfold vp_in; decide)), ?_⟩
    | refine ⟨(by first | exact Nat.zero_lt_one | assumption | omega), rfl, ?_⟩
    | refine ⟨⟨(by first | exact Nat.zero_lt_one | assumption | omega), rfl⟩, Nat.le_of_ble_eq_true rfl, ?_⟩
    | refine ⟨(by first | exact Nat.zero_lt_one | assumption | omega), ?_⟩
    | refine ⟨Or.inl rfl, ?_⟩
    | refine ⟨Or.inr (Or.inl rfl), ?_⟩
    | refine ⟨Or.inr (Or.inr rfl), ?_⟩
    | refine ⟨Or.inr ⟨rfl, (by first | exact Or.inl rfl | exact Or.inr rfl | assumption)⟩, ?_⟩
    | refine ⟨fun h => absurd h (by decide), fun _ => ?_⟩
    | refine ⟨fun _ => ?_, fun h => absurd h (by decide)⟩
    | refine ⟨fun h => ?_, fun h => ?_⟩
    | fail)
