/-! DESK: wipe, within, state -/
theorem c_De_wipe {d : Nat} {μ : zMu} {K : Option zV → zMu → Prop} (hK : K (some (zI (μ 2 0 0))) (zu μ 2 0 0 0)) : Ct (d + 1) m_De_wipe [zR 0 0] μ K := by
  refine zmeet rfl (Nat.le_of_ble_eq_true rfl) (fun S => ?_)
  repeat' (first
    | refine c_Tp_clear ?_
    | exact hK
    | refine zs k_De_wipe rfl ?_
    | refine ⟨Nat.zero_lt_one, rfl, ?_⟩
    | refine ⟨rfl, ?_⟩
    | refine ⟨⟨Nat.zero_lt_one, rfl⟩, Nat.le_of_ble_eq_true rfl, ?_⟩
    | refine ⟨Nat.le_of_ble_eq_true rfl, Nat.le_of_ble_eq_true rfl, ?_⟩
    | refine ⟨(by first | exact Nat.zero_lt_one | assumption | omega), (by first | assumption | exact vp_in_nI (by omega) (by omega) | (unfold vp_in; decide)), ?_⟩
    | refine ⟨(by first | exact Nat.zero_lt_one | assumption | omega), rfl, ?_⟩
    | refine ⟨⟨(by first | exact Nat.zero_lt_one | assumption | omega), rfl⟩, Nat.le_of_ble_eq_true rfl, ?_⟩
    | refine ⟨(by first | exact Nat.zero_lt_one | assumption | omega), ?_⟩
    | refine ⟨Or.inl rfl, ?_⟩
    | refine ⟨Or.inr (Or.inl rfl), ?_⟩
    | refine ⟨Or.inr (Or.inr rfl), ?_⟩
    | refine ⟨Or.inr ⟨rfl, (by first | exact Or.inl rfl | exact Or.inr rfl | assumption)⟩, ?_⟩
    | refine ⟨fun h => absurd h (by decide), fun _ => ?_⟩
    | refine ⟨fun _ => ?_, fun h => absurd h (by decide)⟩
    | refine ⟨fun h => ?_, fun h => ?_⟩
    | fail)
theorem c_Mo_wipe {d : Nat} {μ : zMu} {K : Option zV → zMu → Prop} (hK : K (some (zI (μ 48 0 14))) (zu μ 48 0 14 0)) : Ct d m_Mo_wipe [zR 48 0] μ K := by
  refine zmeet rfl (Nat.le_of_ble_eq_true rfl) (fun S => ?_)
  repeat' (first
    | exact hK
    | refine zs k_Mo_wipe rfl ?_
    | refine ⟨Nat.zero_lt_one, rfl, ?_⟩
    | refine ⟨rfl, ?_⟩
    | refine ⟨⟨Nat.zero_lt_one, rfl⟩, Nat.le_of_ble_eq_true rfl, ?_⟩
    | refine ⟨Nat.le_of_ble_eq_true rfl, Nat.le_of_ble_eq_true rfl, ?_⟩
    | refine ⟨(by first | exact Nat.zero_lt_one | assumption | omega), (by first | assumption | exact vp_in_nI (by omega) (by omega) | (unfold vp_in; decide)), ?_⟩
    | refine ⟨(by first | exact Nat.zero_lt_one | assumption | omega), rfl, ?_⟩
    | refine ⟨⟨(by first | exact Nat.zero_lt_one | assumption | omega), rfl⟩, Nat.le_of_ble_eq_true rfl, ?_⟩
    | refine ⟨(by first | exact Nat.zero_lt_one | assumption | omega), ?_⟩
    | refine ⟨Or.inl rfl, ?_⟩
    | refine ⟨Or.inr (Or.inl rfl), ?_⟩
    | refine ⟨Or.inr (Or.inr rfl), ?_⟩
    | refine ⟨Or.inr ⟨rfl, (by first | exact Or.inl rfl | exact Or.inr rfl | assumption)⟩, ?_⟩
    | refine ⟨fun h => absurd h (by decide), fun _ => ?_⟩
    | refine ⟨fun _ => ?_, fun h => absurd h (by decide)⟩
    | refine ⟨fun h => ?_, fun h => ?_⟩
    | fail)
theorem b_wipe {μ : zMu} (h : Rel μ) : Both m_De_wipe m_Mo_wipe [] μ := by
  intro d K hK
  obtain ⟨ns, n, nr, nh, nt, nb, L, g1, g2, g3, g4, g5, g6, g7, g8, g9, g10, g11⟩ := h
  refine c_De_wipe (hK _ _ (fun d K2 hK2 => c_Mo_wipe (zKe (hK2 _ ?_) ?_ rfl)))
  · exact ⟨ns, n, nr, nh, nt, 0, L, g1, g2, ⟨rfl, rfl, by omega, fun j hj => absurd hj (by omega)⟩, g4, g5, g6, g7, g8, g9, g10, g11⟩
  · show μ 48 0 14 = μ 2 0 0
    rw [g3.1, g3.2.1]
theorem c_De_within {d : Nat} {μ : zMu} {x : Int32} {K : Option zV → zMu → Prop} (h0 : ¬ (1 ≤ x ∧ x ≤ 99) → K (some (zI (-2))) μ) (h1 : 1 ≤ x ∧ x ≤ 99 → K (some (zI (μ 7 0 1))) (zu μ 7 0 1 x)) : Ct d m_De_within [zR 0 0, zI x] μ K := by
  refine zmeet rfl (Nat.le_of_ble_eq_true rfl) (fun S => ?_)
  repeat' (first
    | exact h0 (by grind)
    | exact h1 (by grind)
    | refine zs k_De_within rfl ?_
    | refine ⟨Nat.zero_lt_one, rfl, ?_⟩
    | refine ⟨rfl, ?_⟩
    | refine ⟨⟨Nat.zero_lt_one, rfl⟩, Nat.le_of_ble_eq_true rfl, ?_⟩
    | refine ⟨Nat.le_of_ble_eq_true rfl, Nat.le_of_ble_eq_true rfl, ?_⟩
    | refine ⟨(by first | exact Nat.zero_lt_one | assumption | omega), (by first | assumption | exact vp_in_nI (by omega) (by omega) | (unfold vp_in; decide)), ?_⟩
    | refine ⟨(by first | exact Nat.zero_lt_one | assumption | omega), rfl, ?_⟩
    | refine ⟨⟨(by first | exact Nat.zero_lt_one | assumption | omega), rfl⟩, Nat.le_of_ble_eq_true rfl, ?_⟩
    | refine ⟨(by first | exact Nat.zero_lt_one | assumption | omega), ?_⟩
    | refine ⟨Or.inl rfl, ?_⟩
    | refine ⟨Or.inr (Or.inl rfl), ?_⟩
    | refine ⟨Or.inr (Or.inr rfl), ?_⟩
    | refine ⟨Or.inr ⟨rfl, (by first | exact Or.inl rfl | exact Or.inr rfl | assumption)⟩, ?_⟩
    | refine ⟨fun h => absurd h (by decide), fun _ => ?_⟩
    | refine ⟨fun _ => ?_, fun h => absurd h (by decide)⟩
    | refine ⟨fun h => ?_, fun h => ?_⟩
    | fail)
theorem c_Mo_within {d : Nat} {μ : zMu} {x : Int32} {K : Option zV → zMu → Prop} (h0 : ¬ (1 ≤ x ∧ x ≤ 99) → K (some (zI (-2))) μ) (h1 : 1 ≤ x ∧ x ≤ 99 → K (some (zI (μ 48 0 52))) (zu μ 48 0 52 x)) : Ct (d + 1) m_Mo_within [zR 48 0, zI x] μ K := by
  refine zmeet rfl (Nat.le_of_ble_eq_true rfl) (fun S => ?_)
  repeat' (first
    | refine c_Mo_isIn (lo := 1) (hi := 99) rfl rfl (fun hb => ?_) (fun hb => ?_)
    | exact h0 hb
    | exact h1 hb
    | refine zs k_Mo_within rfl ?_
    | refine ⟨Nat.zero_lt_one, rfl, ?_⟩
    | refine ⟨rfl, ?_⟩
    | refine ⟨⟨Nat.zero_lt_one, rfl⟩, Nat.le_of_ble_eq_true rfl, ?_⟩
    | refine ⟨Nat.le_of_ble_eq_true rfl, Nat.le_of_ble_eq_true rfl, ?_⟩
    | refine ⟨(by first | exact Nat.zero_lt_one | assumption | omega), (by first | assumption | exact vp_in_nI (by omega) (by omega) | (unfold vp_in; decide)), ?_⟩
    | refine ⟨(by first | exact Nat.zero_lt_one | assumption | omega), rfl, ?_⟩
    | refine ⟨⟨(by first | exact Nat.zero_lt_one | assumption | omega), rfl⟩, Nat.le_of_ble_eq_true rfl, ?_⟩
    | refine ⟨(by first | exact Nat.zero_lt_one | assumption | omega), ?_⟩
    | refine ⟨Or.inl rfl, ?_⟩
    | refine ⟨Or.inr (Or.inl rfl), ?_⟩
    | refine ⟨Or.inr (Or.inr rfl), ?_⟩
    | refine ⟨Or.inr ⟨rfl, (by first | exact Or.inl rfl | exact Or.inr rfl | assumption)⟩, ?_⟩
    | refine ⟨fun h => absurd h (by decide), fun _ => ?_⟩
    | refine ⟨fun _ => ?_, fun h => absurd h (by decide)⟩
    | refine ⟨fun h => ?_, fun h => ?_⟩
    | fail)
theorem b_within {μ : zMu} {x : Int32} (h : Rel μ) : Both m_De_within m_Mo_within [zI x] μ := by
  intro d K hK
  refine c_De_within (fun hb => hK _ _ (fun d K2 hK2 => ?_)) (fun hb => hK _ _ (fun d K2 hK2 => ?_))
  · exact c_Mo_within (fun _ => hK2 _ h) (fun q => absurd q hb)
  · refine c_Mo_within (fun q => absurd hb q) (fun _ => zKe (hK2 _ ?_) ?_ rfl)
    · obtain ⟨ns, n, nr, nh, nt, nb, L, g1, g2, g3, g4, g5, g6, g7, g8, g9, g10, g11⟩ := h
      exact ⟨ns, n, nr, nh, nt, nb, L, g1, g2, g3, g4, g5, g6, g7, g8, g9, rfl, g11⟩
    · obtain ⟨ns, n, nr, nh, nt, nb, L, g1, g2, g3, g4, g5, g6, g7, g8, g9, g10, g11⟩ := h
      exact g10
theorem lt8 {y : Int32} : y < 8 ↔ y ≤ 7 := by
  rw [Int32.lt_iff_toInt_lt, Int32.le_iff_toInt_le]
  show y.toInt < 8 ↔ y.toInt ≤ 7
  omega
def okSt (x y : Int32) : Prop := 0 ≤ x ∧ x ≤ 99 ∧ 0 ≤ y ∧ y < 8
theorem c_De_state {d ns : Nat} {μ : zMu} {x y : Int32} {K : Option zV → zMu → Prop} (hs : μ 1 0 0 = nI ns) (h10 : ns ≤ 10) (h0 : ¬ okSt x y → K (some (zI (-2))) μ) (h1 : okSt x y → ns = 10 → K (some (zI (-4))) μ) (h2 : okSt x y → ns < 10 → K (some (zI (nI ns))) (zu (zu (zu μ 13 0 ns x) 14 0 ns y) 1 0 0 (nI (ns + 1)))) : Ct (d + 3) m_De_state [zR 0 0, zI x, zI y] μ K := by
  refine zmeet rfl (Nat.le_of_ble_eq_true rfl) (fun S => ?_)
  have hcl : (μ 1 0 0).toNatClampNeg = ns := by rw [hs]; exact nI_clamp (by omega)
  rcases Nat.lt_or_ge ns 10 with h | h
  · have hlt : ¬ (10 : Int32) ≤ μ 1 0 0 := by rw [hs]; exact nI_ge (b := 10) h (by omega)
    have hv : vp_in (μ 1 0 0) 10 := by rw [hs]; exact vp_in_nI h (by omega)
    repeat' (first
      | refine c_Ro_isStateAsTold (fun hb => ?_) (fun hb => ?_)
      | refine br_f hlt ?_
      | exact h0 hb
      | refine c_Ro_addState hv ?_
      | exact zKe (h2 hb h) (by show μ 1 0 0 + 1 - 1 = _; rw [hs, nI_1, nI_pred]) (by rw [hcl, hs, nI_1])
      | refine zs k_De_state rfl ?_
      | refine ⟨Nat.zero_lt_one, rfl, ?_⟩
      | refine ⟨rfl, ?_⟩
      | refine ⟨⟨Nat.zero_lt_one, rfl⟩, Nat.le_of_ble_eq_true rfl, ?_⟩
      | refine ⟨Nat.le_of_ble_eq_true rfl, Nat.le_of_ble_eq_true rfl, ?_⟩
      | refine ⟨(by first | exact Nat.zero_lt_one | assumption | omega), (by first | assumption | exact vp_in_nI (by omega) (by omega) | (unfold vp_in; decide)), ?_⟩
      | refine ⟨(by first | exact Nat.zero_lt_one | assumption | omega), rfl, ?_⟩
      | refine ⟨⟨(by first | exact Nat.zero_lt_one | assumption | omega), rfl⟩, Nat.le_of_ble_eq_true rfl, ?_⟩
      | refine ⟨(by first | exact Nat.zero_lt_one | assumption | omega), ?_⟩
      | refine ⟨Or.inl rfl, ?_⟩
      | refine ⟨Or.inr (Or.inl rfl), ?_⟩
      | refine ⟨Or.inr (Or.inr rfl), ?_⟩
      | refine ⟨Or.inr ⟨rfl, (by first | exact Or.inl rfl | exact Or.inr rfl | assumption)⟩, ?_⟩
      | refine ⟨fun h => absurd h (by decide), fun _ => ?_⟩
      | refine ⟨fun _ => ?_, fun h => absurd h (by decide)⟩
      | refine ⟨fun h => ?_, fun h => ?_⟩
      | fail)
  · obtain rfl : ns = 10 := by omega
    have hlt : (10 : Int32) ≤ μ 1 0 0 := by rw [hs]; decide
    repeat' (first
      | refine c_Ro_isStateAsTold (fun hb => ?_) (fun hb => ?_)
      | refine br_t hlt ?_
      | exact h0 hb
      | exact h1 hb rfl
      | refine zs k_De_state rfl ?_
      | refine ⟨Nat.zero_lt_one, rfl, ?_⟩
      | refine ⟨rfl, ?_⟩
      | refine ⟨⟨Nat.zero_lt_one, rfl⟩, Nat.le_of_ble_eq_true rfl, ?_⟩
      | refine ⟨Nat.le_of_ble_eq_true rfl, Nat.le_of_ble_eq_true rfl, ?_⟩
      | refine ⟨(by first | exact Nat.zero_lt_one | assumption | omega), (by first | assumption | exact vp_in_nI (by omega) (by omega) | (unfold vp_in; decide)), ?_⟩
      | refine ⟨(by first | exact Nat.zero_lt_one | assumption | omega), rfl, ?_⟩
      | refine ⟨⟨(by first | exact Nat.zero_lt_one | assumption | omega), rfl⟩, Nat.le_of_ble_eq_true rfl, ?_⟩
      | refine ⟨(by first | exact Nat.zero_lt_one | assumption | omega), ?_⟩
      | refine ⟨Or.inl rfl, ?_⟩
      | refine ⟨Or.inr (Or.inl rfl), ?_⟩
      | refine ⟨Or.inr (Or.inr rfl), ?_⟩
      | refine ⟨Or.inr ⟨rfl, (by first | exact Or.inl rfl | exact Or.inr rfl | assumption)⟩, ?_⟩
      | refine ⟨fun h => absurd h (by decide), fun _ => ?_⟩
      | refine ⟨fun _ => ?_, fun h => absurd h (by decide)⟩
      | refine ⟨fun h => ?_, fun h => ?_⟩
      | fail)
theorem c_Mo_state {d ns : Nat} {μ : zMu} {x y : Int32} {K : Option zV → zMu → Prop} (hs : μ 48 0 0 = nI ns) (h10 : ns ≤ 10) (h0 : ¬ okSt x y → K (some (zI (-2))) μ) (h1 : okSt x y → ns = 10 → K (some (zI (-4))) μ) (h2 : okSt x y → ns < 10 → K (some (zI (nI ns))) (zu (zu (zu μ 51 0 ns x) 52 0 ns y) 48 0 0 (nI (ns + 1)))) : Ct (d + 1) m_Mo_state [zR 48 0, zI x, zI y] μ K := by
  refine zmeet rfl (Nat.le_of_ble_eq_true rfl) (fun S => ?_)
  have hcl : (μ 48 0 0).toNatClampNeg = ns := by rw [hs]; exact nI_clamp (by omega)
  rcases Nat.lt_or_ge ns 10 with h | h
  · have hlt : ¬ μ 48 0 0 = 10 := by rw [hs]; exact fun e => absurd ((nI_eq (b := 10) (by omega) (by omega)).mp e) (by omega)
    have hv : vp_in (μ 48 0 0) 10 := by rw [hs]; exact vp_in_nI h (by omega)
    repeat' (first
      | refine c_Mo_isIn (lo := 0) (hi := 99) rfl rfl (fun hb => ?_) (fun hb => ?_)
      | refine c_Mo_isIn (lo := 0) (hi := 7) rfl rfl (fun hc => ?_) (fun hc => ?_)
      | refine ⟨fun _ => ?_, fun q => absurd q hlt⟩
      | exact h0 (fun q => hb ⟨q.1, q.2.1⟩)
      | exact h0 (fun q => hc ⟨q.2.2.1, lt8.mp q.2.2.2⟩)
      | exact zKe (h2 ⟨hb.1, hb.2, hc.1, lt8.mpr hc.2⟩ h) (by show μ 48 0 0 + 1 - 1 = _; rw [hs, nI_1, nI_pred]) (by show zu (zu (zu μ 51 0 (μ 48 0 0).toNatClampNeg x) 52 0 (μ 48 0 0).toNatClampNeg y) 48 0 0 (μ 48 0 0 + 1) = _; rw [hcl, hs, nI_1])
      | refine zs k_Mo_state rfl ?_
      | refine ⟨Nat.zero_lt_one, rfl, ?_⟩
      | refine ⟨rfl, ?_⟩
      | refine ⟨⟨Nat.zero_lt_one, rfl⟩, Nat.le_of_ble_eq_true rfl, ?_⟩
      | refine ⟨Nat.le_of_ble_eq_true rfl, Nat.le_of_ble_eq_true rfl, ?_⟩
      | refine ⟨(by first | exact Nat.zero_lt_one | assumption | omega), (by first | assumption | exact vp_in_nI (by omega) (by omega) | (unfold vp_in; decide)), ?_⟩
      | refine ⟨(by first | exact Nat.zero_lt_one | assumption | omega), rfl, ?_⟩
      | refine ⟨⟨(by first | exact Nat.zero_lt_one | assumption | omega), rfl⟩, Nat.le_of_ble_eq_true rfl, ?_⟩
      | refine ⟨(by first | exact Nat.zero_lt_one | assumption | omega), ?_⟩
      | refine ⟨Or.inl rfl, ?_⟩
      | refine ⟨Or.inr (Or.inl rfl), ?_⟩
      | refine ⟨Or.inr (Or.inr rfl), ?_⟩
      | refine ⟨Or.inr ⟨rfl, (by first | exact Or.inl rfl | exact Or.inr rfl | assumption)⟩, ?_⟩
      | refine ⟨fun h => absurd h (by decide), fun _ => ?_⟩
      | refine ⟨fun _ => ?_, fun h => absurd h (by decide)⟩
      | refine ⟨fun h => ?_, fun h => ?_⟩
      | fail)
  · obtain rfl : ns = 10 := by omega
    have hlt : μ 48 0 0 = 10 := by rw [hs]; rfl
    repeat' (first
      | refine c_Mo_isIn (lo := 0) (hi := 99) rfl rfl (fun hb => ?_) (fun hb => ?_)
      | refine c_Mo_isIn (lo := 0) (hi := 7) rfl rfl (fun hc => ?_) (fun hc => ?_)
      | refine ⟨fun q => absurd hlt q, fun _ => ?_⟩
      | exact h0 (fun q => hb ⟨q.1, q.2.1⟩)
      | exact h0 (fun q => hc ⟨q.2.2.1, lt8.mp q.2.2.2⟩)
      | exact h1 ⟨hb.1, hb.2, hc.1, lt8.mpr hc.2⟩ rfl
      | refine zs k_Mo_state rfl ?_
      | refine ⟨Nat.zero_lt_one, rfl, ?_⟩
      | refine ⟨rfl, ?_⟩
      | refine ⟨⟨Nat.zero_lt_one, rfl⟩, Nat.le_of_ble_eq_true rfl, ?_⟩
      | refine ⟨Nat.le_of_ble_eq_true rfl, Nat.le_of_ble_eq_true rfl, ?_⟩
      | refine ⟨(by first | exact Nat.zero_lt_one | assumption | omega), (by first | assumption | exact vp_in_nI (by omega) (by omega) | (unfold vp_in; decide)), ?_⟩
      | refine ⟨(by first | exact Nat.zero_lt_one | assumption | omega), rfl, ?_⟩
      | refine ⟨⟨(by first | exact Nat.zero_lt_one | assumption | omega), rfl⟩, Nat.le_of_ble_eq_true rfl, ?_⟩
      | refine ⟨(by first | exact Nat.zero_lt_one | assumption | omega), ?_⟩
      | refine ⟨Or.inl rfl, ?_⟩
      | refine ⟨Or.inr (Or.inl rfl), ?_⟩
      | refine ⟨Or.inr (Or.inr rfl), ?_⟩
      | refine ⟨Or.inr ⟨rfl, (by first | exact Or.inl rfl | exact Or.inr rfl | assumption)⟩, ?_⟩
      | refine ⟨fun h => absurd h (by decide), fun _ => ?_⟩
      | refine ⟨fun _ => ?_, fun h => absurd h (by decide)⟩
      | refine ⟨fun h => ?_, fun h => ?_⟩
      | fail)
theorem vp_8 {y : Int32} (h : 0 ≤ y ∧ y < 8) : vp_in y 8 := by
  rcases zIx y (n := 8) (by omega) with ⟨j, hj, rfl⟩ | q
  · exact vp_in_nI hj (by omega)
  · exact absurd h q
/-- a state more -/
theorem gSt_new {μ : zMu} {ns : Nat} {x y : Int32} (g : gSt μ ns) (hn : ns < 10) (hy : okSt x y) : gSt (zu (zu (zu (zu (zu (zu μ 13 0 ns x) 14 0 ns y) 1 0 0 (nI (ns + 1))) 51 0 ns x) 52 0 ns y) 48 0 0 (nI (ns + 1))) (ns + 1) := by
  refine ⟨rfl, rfl, by omega, fun s hs => ?_⟩
  show zu μ 51 0 ns x 51 0 s = zu μ 13 0 ns x 13 0 s ∧ zu μ 52 0 ns y 52 0 s = zu μ 14 0 ns y 14 0 s ∧ vp_in (zu μ 14 0 ns y 14 0 s) 8
  by_cases e : s = ns
  · subst e
    rw [zu_eq, zu_eq, zu_eq, zu_eq]
    exact ⟨rfl, rfl, vp_8 hy.2.2⟩
  · rw [zu_ne (fun q => e q.2.1), zu_ne (fun q => e q.2.1), zu_ne (fun q => e q.2.1), zu_ne (fun q => e q.2.1)]
    exact g.2.2.2 s (by omega)
theorem gP1_st {μ : zMu} {ns p : Nat} {x y : Int32} {m : Int32} (g : gP1 μ ns p) : gP1 (zu (zu (zu (zu (zu (zu μ 13 0 ns x) 14 0 ns y) 1 0 0 m) 51 0 ns x) 52 0 ns y) 48 0 0 m) (ns + 1) p := by
  obtain ⟨a1, a2, a3, a4, a5, a6, a7, a8, a9, ⟨s, hs, b1, b2, b3⟩, a11, a12, a13⟩ := g
  refine ⟨a1, a2, a3, a4, a5, a6, a7, a8, a9, ⟨s, by omega, b1, ?_, ?_⟩, a11, a12, a13⟩
  · show μ 17 p 2 = zu μ 13 0 ns x 13 0 s
    rw [zu_ne (fun q => by omega)]
    exact b2
  · show μ 17 p 6 = zu μ 14 0 ns y 14 0 s
    rw [zu_ne (fun q => by omega)]
    exact b3
theorem b_state {μ : zMu} {x y : Int32} (h : Rel μ) : Both m_De_state m_Mo_state [zI x, zI y] μ := by
  intro d K hK
  obtain ⟨ns, n, nr, nh, nt, nb, L, g1, g2, g3, g4, g5, g6, g7, g8, g9, g10, g11⟩ := id h
  refine c_De_state g1.1 g1.2.2.1 (fun hb => hK _ _ (fun d K2 hK2 => ?_)) (fun hb hf => hK _ _ (fun d K2 hK2 => ?_)) (fun hb hf => hK _ _ (fun d K2 hK2 => ?_))
  · exact c_Mo_state g1.2.1 g1.2.2.1 (fun _ => hK2 _ h) (fun q => absurd q hb) (fun q => absurd q hb)
  · exact c_Mo_state g1.2.1 g1.2.2.1 (fun q => absurd hb q) (fun _ _ => hK2 _ h) (fun _ q => absurd q (by omega))
  · refine c_Mo_state (ns := ns) g1.2.1 g1.2.2.1 (fun q => absurd hb q) (fun _ q => absurd q (by omega)) (fun _ _ => hK2 _ ?_)
    exact ⟨ns + 1, n, nr, nh, nt, nb, L, gSt_new g1 hf hb, ⟨g2.1, g2.2.1, g2.2.2.1, fun p hp => gP1_st (g2.2.2.2 p hp)⟩, g3, g4, g5, g6, g7, g8, g9, g10, g11⟩
