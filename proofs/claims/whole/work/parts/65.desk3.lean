/-! DESK: persons: fields, about, count, paper -/
theorem c_Mo_plainRank {d p ns n : Nat} {μ : zMu} {x : Int32} {K : Option zV → zMu → Prop} (g : gPe μ ns n) (hp : p < n) (hx : x = nI p) (hK : K (some (zI (cOwn μ p))) μ) : Ct d m_Mo_plainRank [zR 48 0, zI x] μ K := by
  subst hx
  have h20 := g.2.2.1
  obtain ⟨a1, a2, a3, a4, a5, a6, a7, a8, a9, -⟩ := g.2.2.2 p hp
  have hc : (nI p).toNatClampNeg = p := nI_clamp (by omega)
  rw [← hc] at a4 a5 a8
  unfold cOwn at hK
  rw [← hc] at hK
  refine zmeet rfl (Nat.le_of_ble_eq_true rfl) (fun S => ?_)
  repeat' (first
    | exact zKe hK (by rw [if_pos (by grind)]) rfl
    | exact zKe hK (by rw [if_neg (by grind)]; grind) rfl
    | refine zs k_Mo_plainRank rfl ?_
    | refine ⟨Nat.zero_lt_one, rfl, ?_⟩
    | refine ⟨rfl, ?_⟩
    | refine ⟨⟨Nat.zero_lt_one, rfl⟩, Nat.le_of_ble_eq_true rfl, ?_⟩
    | refine ⟨Nat.le_of_ble_eq_true rfl, Nat.le_of_ble_eq_true rfl, ?_⟩
    | refine ⟨(by first | exact Nat.zero_lt_one | assumption | omega), (by first | assumption | exact vp_in_nI (by omega) (by omega) | (unfold vp_in; decide)), ?_⟩
    | refine ⟨(by first | exact Nat.zero_lt_one | assumption | omega), rfl, ?_⟩
    | refine ⟨⟨(by first | exact Nat.zero_lt_one | assumption | omega), rfl⟩, Nat.le_of_ble_eq_true rfl, ?_⟩
    | refine ⟨(by first | exact Nat.zero_lt_one | assumption | omega), ?_⟩
    | refine ⟨Or.inl rfl, ?_⟩
    | refine ⟨Or.inr (Or.inl rfl), ?_⟩
    | refine ⟨Or.inr (Or.inr rfl), ?_⟩
    | refine ⟨Or.inr ⟨rfl, (by first | exact Or.inl rfl | exact Or.inr rfl | assumption)⟩, ?_⟩
    | refine ⟨fun h => absurd h (by decide), fun _ => ?_⟩
    | refine ⟨fun _ => ?_, fun h => absurd h (by decide)⟩
    | refine ⟨fun h => ?_, fun h => ?_⟩
    | fail)
theorem c_Mo_shown {d : Nat} {μ : zMu} {x : Int32} {K : Option zV → zMu → Prop} (hK : K (some (zI (if x = 0 then 99999999 else x))) μ) : Ct d m_Mo_shown [zI x] μ K := by
  refine zmeet rfl (Nat.le_of_ble_eq_true rfl) (fun S => ?_)
  repeat' (first
    | exact zKe hK (by rw [if_pos (by grind)]) rfl
    | exact zKe hK (by rw [if_neg (by grind)]) rfl
    | refine zs k_Mo_shown rfl ?_
    | refine ⟨Nat.zero_lt_one, rfl, ?_⟩
    | refine ⟨rfl, ?_⟩
    | refine ⟨⟨Nat.zero_lt_one, rfl⟩, Nat.le_of_ble_eq_true rfl, ?_⟩
    | refine ⟨Nat.le_of_ble_eq_true rfl, Nat.le_of_ble_eq_true rfl, ?_⟩
    | refine ⟨(by first | exact Nat.zero_lt_one | assumption | omega), (by first | assumption | exact vp_in_nI (by omega) (by omega) | (unfold vp_in; decide)), ?_⟩
    | refine ⟨(by first | exact Nat.zero_lt_one | assumption | omega), rfl, ?_⟩
    | refine ⟨⟨(by first | exact Nat.zero_lt_one | assumption | omega), rfl⟩, Nat.le_of_ble_eq_true rfl, ?_⟩
    | refine ⟨(by first | exact Nat.zero_lt_one | assumption | omega), ?_⟩
    | refine ⟨Or.inl rfl, ?_⟩
    | refine ⟨Or.inr (Or.inl rfl), ?_⟩
    | refine ⟨Or.inr (Or.inr rfl), ?_⟩
    | refine ⟨Or.inr ⟨rfl, (by first | exact Or.inl rfl | exact Or.inr rfl | assumption)⟩, ?_⟩
    | refine ⟨fun h => absurd h (by decide), fun _ => ?_⟩
    | refine ⟨fun _ => ?_, fun h => absurd h (by decide)⟩
    | refine ⟨fun h => ?_, fun h => ?_⟩
    | fail)
theorem nI_3 : ∀ f, f < 7 → ∀ k : Nat, k < 7 → ((nI f).toInt = (k : Int) ↔ f = k) := by decide +kernel
set_option maxHeartbeats 1000000 in
theorem c_Mo_field {d p ns n f : Nat} {μ : zMu} {x y : Int32} {K : Option zV → zMu → Prop} (g1 : gSt μ ns) (g : gPe μ ns n) (hp : p < n) (hf : f < 7) (hx : x = nI p) (hy : y = nI f) (hK : K (some (zI (μ 17 p f))) μ) : Ct (d + 1) m_Mo_field [zR 48 0, zI x, zI y] μ K := by
  subst hx hy
  have h20 := g.2.2.1
  have h10 := g1.2.2.1
  have gp := g.2.2.2 p hp
  obtain ⟨a1, a2, a3, a4, a5, a6, a7, a8, a9, ⟨s, hs, b1, b2, b3⟩, a11, a12, a13⟩ := gp
  have hc : (nI p).toNatClampNeg = p := nI_clamp (by omega)
  have hsc : (nI s).toNatClampNeg = s := nI_clamp (by omega)
  have c1 := (g1.2.2.2 s hs).1
  have c2 := (g1.2.2.2 s hs).2.1
  have v57 : μ 57 0 (nI p).toNatClampNeg = μ 17 p 4 := by rw [hc]; exact a8
  have v56 : μ 56 0 (nI p).toNatClampNeg = nI s := by rw [hc, a9]; exact b1
  have hv56 : vp_in (μ 56 0 (nI p).toNatClampNeg) 10 := by rw [v56]; exact vp_in_nI (by omega) (by omega)
  match f, hf with
  | 0, _ =>
    rw [a11] at hK
    unfold cRank at hK
    by_cases k4 : μ 17 p 4 = 4
    · obtain ⟨q, hq, hq2⟩ := a13 (Or.inr k4)
      rw [if_neg (by rw [k4]; decide), if_pos k4, hq2, nI_clamp (show q < 2 ^ 31 by omega)] at hK
      have k4' : μ 57 0 (nI p).toNatClampNeg = 4 := v57.trans k4
      have q61 : μ 61 0 (nI p).toNatClampNeg = nI q := by rw [hc, a3]; exact hq2
      refine zmeet rfl (Nat.le_of_ble_eq_true rfl) (fun S => ?_)
      repeat' (first
        | refine ⟨fun _ => ?_, fun h => absurd rfl h⟩
        | refine ⟨fun h => absurd k4' h, fun _ => ?_⟩
        | refine c_Mo_plainRank g (p := q) (by omega) q61 ?_
        | exact zKe hK (by rw [if_neg (by grind)]) rfl
        | exact zKe hK (by rw [if_pos (by grind)]) rfl
        | refine zs k_Mo_field rfl ?_
        | refine ⟨Nat.zero_lt_one, rfl, ?_⟩
        | refine ⟨rfl, ?_⟩
        | refine ⟨⟨Nat.zero_lt_one, rfl⟩, Nat.le_of_ble_eq_true rfl, ?_⟩
        | refine ⟨Nat.le_of_ble_eq_true rfl, Nat.le_of_ble_eq_true rfl, ?_⟩
        | refine ⟨(by first | exact Nat.zero_lt_one | assumption | omega), (by first | assumption | exact vp_in_nI (by omega) (by omega) | (unfold vp_in; decide)), ?_⟩
        | refine ⟨(by first | exact Nat.zero_lt_one | assumption | omega), rfl, ?_⟩
        | refine ⟨⟨(by first | exact Nat.zero_lt_one | assumption | omega), rfl⟩, Nat.le_of_ble_eq_true rfl, ?_⟩
        | refine ⟨(by first | exact Nat.zero_lt_one | assumption | omega), ?_⟩
        | refine ⟨Or.inl rfl, ?_⟩
        | refine ⟨Or.inr (Or.inl rfl), ?_⟩
        | refine ⟨Or.inr (Or.inr rfl), ?_⟩
        | refine ⟨Or.inr ⟨rfl, (by first | exact Or.inl rfl | exact Or.inr rfl | assumption)⟩, ?_⟩
        | refine ⟨fun h => absurd h (by decide), fun _ => ?_⟩
        | refine ⟨fun _ => ?_, fun h => absurd h (by decide)⟩
        | refine ⟨fun h => ?_, fun h => ?_⟩
        | fail)
    · by_cases k3 : μ 17 p 4 = 3
      · obtain ⟨q, hq, hq2⟩ := a13 (Or.inl k3)
        rw [if_pos k3, hq2, nI_clamp (show q < 2 ^ 31 by omega)] at hK
        have k4' : ¬ μ 57 0 (nI p).toNatClampNeg = 4 := by rw [v57]; exact k4
        have k3' : μ 57 0 (nI p).toNatClampNeg = 3 := v57.trans k3
        have q61 : μ 61 0 (nI p).toNatClampNeg = nI q := by rw [hc, a3]; exact hq2
        refine zmeet rfl (Nat.le_of_ble_eq_true rfl) (fun S => ?_)
        repeat' (first
          | refine ⟨fun _ => ?_, fun h => absurd rfl h⟩
          | refine ⟨fun _ => ?_, fun h => absurd h k4'⟩
          | refine ⟨fun h => absurd k3' h, fun _ => ?_⟩
          | refine c_Mo_plainRank g (p := q) (by omega) q61 ?_
          | exact hK
          | refine zs k_Mo_field rfl ?_
          | refine ⟨Nat.zero_lt_one, rfl, ?_⟩
          | refine ⟨rfl, ?_⟩
          | refine ⟨⟨Nat.zero_lt_one, rfl⟩, Nat.le_of_ble_eq_true rfl, ?_⟩
          | refine ⟨Nat.le_of_ble_eq_true rfl, Nat.le_of_ble_eq_true rfl, ?_⟩
          | refine ⟨(by first | exact Nat.zero_lt_one | assumption | omega), (by first | assumption | exact vp_in_nI (by omega) (by omega) | (unfold vp_in; decide)), ?_⟩
          | refine ⟨(by first | exact Nat.zero_lt_one | assumption | omega), rfl, ?_⟩
          | refine ⟨⟨(by first | exact Nat.zero_lt_one | assumption | omega), rfl⟩, Nat.le_of_ble_eq_true rfl, ?_⟩
          | refine ⟨(by first | exact Nat.zero_lt_one | assumption | omega), ?_⟩
          | refine ⟨Or.inl rfl, ?_⟩
          | refine ⟨Or.inr (Or.inl rfl), ?_⟩
          | refine ⟨Or.inr (Or.inr rfl), ?_⟩
          | refine ⟨Or.inr ⟨rfl, (by first | exact Or.inl rfl | exact Or.inr rfl | assumption)⟩, ?_⟩
          | refine ⟨fun h => absurd h (by decide), fun _ => ?_⟩
          | refine ⟨fun _ => ?_, fun h => absurd h (by decide)⟩
          | refine ⟨fun h => ?_, fun h => ?_⟩
          | fail)
      · rw [if_neg k3, if_neg k4] at hK
        have k4' : ¬ μ 57 0 (nI p).toNatClampNeg = 4 := by rw [v57]; exact k4
        have k3' : ¬ μ 57 0 (nI p).toNatClampNeg = 3 := by rw [v57]; exact k3
        refine zmeet rfl (Nat.le_of_ble_eq_true rfl) (fun S => ?_)
        repeat' (first
          | refine ⟨fun _ => ?_, fun h => absurd rfl h⟩
          | refine ⟨fun _ => ?_, fun h => absurd h k4'⟩
          | refine ⟨fun _ => ?_, fun h => absurd h k3'⟩
          | refine c_Mo_plainRank g (p := p) hp rfl ?_
          | exact hK
          | refine zs k_Mo_field rfl ?_
          | refine ⟨Nat.zero_lt_one, rfl, ?_⟩
          | refine ⟨rfl, ?_⟩
          | refine ⟨⟨Nat.zero_lt_one, rfl⟩, Nat.le_of_ble_eq_true rfl, ?_⟩
          | refine ⟨Nat.le_of_ble_eq_true rfl, Nat.le_of_ble_eq_true rfl, ?_⟩
          | refine ⟨(by first | exact Nat.zero_lt_one | assumption | omega), (by first | assumption | exact vp_in_nI (by omega) (by omega) | (unfold vp_in; decide)), ?_⟩
          | refine ⟨(by first | exact Nat.zero_lt_one | assumption | omega), rfl, ?_⟩
          | refine ⟨⟨(by first | exact Nat.zero_lt_one | assumption | omega), rfl⟩, Nat.le_of_ble_eq_true rfl, ?_⟩
          | refine ⟨(by first | exact Nat.zero_lt_one | assumption | omega), ?_⟩
          | refine ⟨Or.inl rfl, ?_⟩
          | refine ⟨Or.inr (Or.inl rfl), ?_⟩
          | refine ⟨Or.inr (Or.inr rfl), ?_⟩
          | refine ⟨Or.inr ⟨rfl, (by first | exact Or.inl rfl | exact Or.inr rfl | assumption)⟩, ?_⟩
          | refine ⟨fun h => absurd h (by decide), fun _ => ?_⟩
          | refine ⟨fun _ => ?_, fun h => absurd h (by decide)⟩
          | refine ⟨fun h => ?_, fun h => ?_⟩
          | fail)
  | 1, _ =>
    rw [a12] at hK
    unfold cPap cPq at hK
    by_cases k3 : μ 17 p 4 = 3
    · obtain ⟨q, hq, hq2⟩ := a13 (Or.inl k3)
      have gq := (g.2.2.2 q (by omega)).2.2.2.2.1
      rw [if_pos k3, hq2, nI_clamp (show q < 2 ^ 31 by omega)] at hK
      have k3' : μ 57 0 (nI p).toNatClampNeg = 3 := v57.trans k3
      have q61 : μ 61 0 (nI p).toNatClampNeg = nI q := by rw [hc, a3]; exact hq2
      have hv61 : vp_in (μ 61 0 (nI p).toNatClampNeg) 20 := by rw [q61]; exact vp_in_nI (by omega) (by omega)
      have q60 : μ 60 0 (μ 61 0 (nI p).toNatClampNeg).toNatClampNeg = μ 16 0 q := by rw [q61, nI_clamp (by omega)]; exact gq
      rw [← q60] at hK
      refine zmeet rfl (Nat.le_of_ble_eq_true rfl) (fun S => ?_)
      repeat' (first
        | refine ⟨fun h => absurd h (by decide), fun _ => ?_⟩
        | refine ⟨fun _ => ?_, fun h => absurd rfl h⟩
        | refine ⟨fun h => absurd k3' h, fun _ => ?_⟩
        | refine c_Mo_shown ?_
        | exact hK
        | refine zs k_Mo_field rfl ?_
        | refine ⟨Nat.zero_lt_one, rfl, ?_⟩
        | refine ⟨rfl, ?_⟩
        | refine ⟨⟨Nat.zero_lt_one, rfl⟩, Nat.le_of_ble_eq_true rfl, ?_⟩
        | refine ⟨Nat.le_of_ble_eq_true rfl, Nat.le_of_ble_eq_true rfl, ?_⟩
        | refine ⟨(by first | exact Nat.zero_lt_one | assumption | omega), (by first | assumption | exact vp_in_nI (by omega) (by omega) | (unfold vp_in; decide)), ?_⟩
        | refine ⟨(by first | exact Nat.zero_lt_one | assumption | omega), rfl, ?_⟩
        | refine ⟨⟨(by first | exact Nat.zero_lt_one | assumption | omega), rfl⟩, Nat.le_of_ble_eq_true rfl, ?_⟩
        | refine ⟨(by first | exact Nat.zero_lt_one | assumption | omega), ?_⟩
        | refine ⟨Or.inl rfl, ?_⟩
        | refine ⟨Or.inr (Or.inl rfl), ?_⟩
        | refine ⟨Or.inr (Or.inr rfl), ?_⟩
        | refine ⟨Or.inr ⟨rfl, (by first | exact Or.inl rfl | exact Or.inr rfl | assumption)⟩, ?_⟩
        | refine ⟨fun h => absurd h (by decide), fun _ => ?_⟩
        | refine ⟨fun _ => ?_, fun h => absurd h (by decide)⟩
        | refine ⟨fun h => ?_, fun h => ?_⟩
        | fail)
    · rw [if_neg k3] at hK
      have k3' : ¬ μ 57 0 (nI p).toNatClampNeg = 3 := by rw [v57]; exact k3
      have q60 : μ 60 0 (nI p).toNatClampNeg = μ 16 0 p := by rw [hc]; exact a5
      rw [← q60] at hK
      refine zmeet rfl (Nat.le_of_ble_eq_true rfl) (fun S => ?_)
      repeat' (first
        | refine ⟨fun h => absurd h (by decide), fun _ => ?_⟩
        | refine ⟨fun _ => ?_, fun h => absurd rfl h⟩
        | refine ⟨fun _ => ?_, fun h => absurd h k3'⟩
        | refine c_Mo_shown ?_
        | exact hK
        | refine zs k_Mo_field rfl ?_
        | refine ⟨Nat.zero_lt_one, rfl, ?_⟩
        | refine ⟨rfl, ?_⟩
        | refine ⟨⟨Nat.zero_lt_one, rfl⟩, Nat.le_of_ble_eq_true rfl, ?_⟩
        | refine ⟨Nat.le_of_ble_eq_true rfl, Nat.le_of_ble_eq_true rfl, ?_⟩
        | refine ⟨(by first | exact Nat.zero_lt_one | assumption | omega), (by first | assumption | exact vp_in_nI (by omega) (by omega) | (unfold vp_in; decide)), ?_⟩
        | refine ⟨(by first | exact Nat.zero_lt_one | assumption | omega), rfl, ?_⟩
        | refine ⟨⟨(by first | exact Nat.zero_lt_one | assumption | omega), rfl⟩, Nat.le_of_ble_eq_true rfl, ?_⟩
        | refine ⟨(by first | exact Nat.zero_lt_one | assumption | omega), ?_⟩
        | refine ⟨Or.inl rfl, ?_⟩
        | refine ⟨Or.inr (Or.inl rfl), ?_⟩
        | refine ⟨Or.inr (Or.inr rfl), ?_⟩
        | refine ⟨Or.inr ⟨rfl, (by first | exact Or.inl rfl | exact Or.inr rfl | assumption)⟩, ?_⟩
        | refine ⟨fun h => absurd h (by decide), fun _ => ?_⟩
        | refine ⟨fun _ => ?_, fun h => absurd h (by decide)⟩
        | refine ⟨fun h => ?_, fun h => ?_⟩
        | fail)
  | 2, _ =>
    refine zmeet rfl (Nat.le_of_ble_eq_true rfl) (fun S => ?_)
    repeat' (first
      | refine ⟨fun h => absurd h (by decide), fun _ => ?_⟩
      | refine ⟨fun _ => ?_, fun h => absurd rfl h⟩
      | exact zKe hK (by rw [v56, hsc, c1, b2]) rfl
      | refine zs k_Mo_field rfl ?_
      | refine ⟨Nat.zero_lt_one, rfl, ?_⟩
      | refine ⟨rfl, ?_⟩
      | refine ⟨⟨Nat.zero_lt_one, rfl⟩, Nat.le_of_ble_eq_true rfl, ?_⟩
      | refine ⟨Nat.le_of_ble_eq_true rfl, Nat.le_of_ble_eq_true rfl, ?_⟩
      | refine ⟨(by first | exact Nat.zero_lt_one | assumption | omega), (by first | assumption | exact vp_in_nI (by omega) (by omega) | (unfold vp_in; decide)), ?_⟩
      | refine ⟨(by first | exact Nat.zero_lt_one | assumption | omega), rfl, ?_⟩
      | refine ⟨⟨(by first | exact Nat.zero_lt_one | assumption | omega), rfl⟩, Nat.le_of_ble_eq_true rfl, ?_⟩
      | refine ⟨(by first | exact Nat.zero_lt_one | assumption | omega), ?_⟩
      | refine ⟨Or.inl rfl, ?_⟩
      | refine ⟨Or.inr (Or.inl rfl), ?_⟩
      | refine ⟨Or.inr (Or.inr rfl), ?_⟩
      | refine ⟨Or.inr ⟨rfl, (by first | exact Or.inl rfl | exact Or.inr rfl | assumption)⟩, ?_⟩
      | refine ⟨fun h => absurd h (by decide), fun _ => ?_⟩
      | refine ⟨fun _ => ?_, fun h => absurd h (by decide)⟩
      | refine ⟨fun h => ?_, fun h => ?_⟩
      | fail)
  | 3, _ =>
    refine zmeet rfl (Nat.le_of_ble_eq_true rfl) (fun S => ?_)
    repeat' (first
      | refine ⟨fun h => absurd h (by decide), fun _ => ?_⟩
      | refine ⟨fun _ => ?_, fun h => absurd rfl h⟩
      | exact zKe hK (by rw [hc]; exact a7) rfl
      | refine zs k_Mo_field rfl ?_
      | refine ⟨Nat.zero_lt_one, rfl, ?_⟩
      | refine ⟨rfl, ?_⟩
      | refine ⟨⟨Nat.zero_lt_one, rfl⟩, Nat.le_of_ble_eq_true rfl, ?_⟩
      | refine ⟨Nat.le_of_ble_eq_true rfl, Nat.le_of_ble_eq_true rfl, ?_⟩
      | refine ⟨(by first | exact Nat.zero_lt_one | assumption | omega), (by first | assumption | exact vp_in_nI (by omega) (by omega) | (unfold vp_in; decide)), ?_⟩
      | refine ⟨(by first | exact Nat.zero_lt_one | assumption | omega), rfl, ?_⟩
      | refine ⟨⟨(by first | exact Nat.zero_lt_one | assumption | omega), rfl⟩, Nat.le_of_ble_eq_true rfl, ?_⟩
      | refine ⟨(by first | exact Nat.zero_lt_one | assumption | omega), ?_⟩
      | refine ⟨Or.inl rfl, ?_⟩
      | refine ⟨Or.inr (Or.inl rfl), ?_⟩
      | refine ⟨Or.inr (Or.inr rfl), ?_⟩
      | refine ⟨Or.inr ⟨rfl, (by first | exact Or.inl rfl | exact Or.inr rfl | assumption)⟩, ?_⟩
      | refine ⟨fun h => absurd h (by decide), fun _ => ?_⟩
      | refine ⟨fun _ => ?_, fun h => absurd h (by decide)⟩
      | refine ⟨fun h => ?_, fun h => ?_⟩
      | fail)
  | 4, _ =>
    refine zmeet rfl (Nat.le_of_ble_eq_true rfl) (fun S => ?_)
    repeat' (first
      | refine ⟨fun h => absurd h (by decide), fun _ => ?_⟩
      | refine ⟨fun _ => ?_, fun h => absurd rfl h⟩
      | exact zKe hK v57 rfl
      | refine zs k_Mo_field rfl ?_
      | refine ⟨Nat.zero_lt_one, rfl, ?_⟩
      | refine ⟨rfl, ?_⟩
      | refine ⟨⟨Nat.zero_lt_one, rfl⟩, Nat.le_of_ble_eq_true rfl, ?_⟩
      | refine ⟨Nat.le_of_ble_eq_true rfl, Nat.le_of_ble_eq_true rfl, ?_⟩
      | refine ⟨(by first | exact Nat.zero_lt_one | assumption | omega), (by first | assumption | exact vp_in_nI (by omega) (by omega) | (unfold vp_in; decide)), ?_⟩
      | refine ⟨(by first | exact Nat.zero_lt_one | assumption | omega), rfl, ?_⟩
      | refine ⟨⟨(by first | exact Nat.zero_lt_one | assumption | omega), rfl⟩, Nat.le_of_ble_eq_true rfl, ?_⟩
      | refine ⟨(by first | exact Nat.zero_lt_one | assumption | omega), ?_⟩
      | refine ⟨Or.inl rfl, ?_⟩
      | refine ⟨Or.inr (Or.inl rfl), ?_⟩
      | refine ⟨Or.inr (Or.inr rfl), ?_⟩
      | refine ⟨Or.inr ⟨rfl, (by first | exact Or.inl rfl | exact Or.inr rfl | assumption)⟩, ?_⟩
      | refine ⟨fun h => absurd h (by decide), fun _ => ?_⟩
      | refine ⟨fun _ => ?_, fun h => absurd h (by decide)⟩
      | refine ⟨fun h => ?_, fun h => ?_⟩
      | fail)
  | 5, _ =>
    refine zmeet rfl (Nat.le_of_ble_eq_true rfl) (fun S => ?_)
    repeat' (first
      | refine ⟨fun h => absurd h (by decide), fun _ => ?_⟩
      | refine ⟨fun _ => ?_, fun h => absurd rfl h⟩
      | exact zKe hK (by rw [v56, b1]) rfl
      | refine zs k_Mo_field rfl ?_
      | refine ⟨Nat.zero_lt_one, rfl, ?_⟩
      | refine ⟨rfl, ?_⟩
      | refine ⟨⟨Nat.zero_lt_one, rfl⟩, Nat.le_of_ble_eq_true rfl, ?_⟩
      | refine ⟨Nat.le_of_ble_eq_true rfl, Nat.le_of_ble_eq_true rfl, ?_⟩
      | refine ⟨(by first | exact Nat.zero_lt_one | assumption | omega), (by first | assumption | exact vp_in_nI (by omega) (by omega) | (unfold vp_in; decide)), ?_⟩
      | refine ⟨(by first | exact Nat.zero_lt_one | assumption | omega), rfl, ?_⟩
      | refine ⟨⟨(by first | exact Nat.zero_lt_one | assumption | omega), rfl⟩, Nat.le_of_ble_eq_true rfl, ?_⟩
      | refine ⟨(by first | exact Nat.zero_lt_one | assumption | omega), ?_⟩
      | refine ⟨Or.inl rfl, ?_⟩
      | refine ⟨Or.inr (Or.inl rfl), ?_⟩
      | refine ⟨Or.inr (Or.inr rfl), ?_⟩
      | refine ⟨Or.inr ⟨rfl, (by first | exact Or.inl rfl | exact Or.inr rfl | assumption)⟩, ?_⟩
      | refine ⟨fun h => absurd h (by decide), fun _ => ?_⟩
      | refine ⟨fun _ => ?_, fun h => absurd h (by decide)⟩
      | refine ⟨fun h => ?_, fun h => ?_⟩
      | fail)
  | 6, _ =>
    refine zmeet rfl (Nat.le_of_ble_eq_true rfl) (fun S => ?_)
    repeat' (first
      | refine ⟨fun h => absurd h (by decide), fun _ => ?_⟩
      | refine ⟨fun _ => ?_, fun h => absurd rfl h⟩
      | exact zKe hK (by rw [v56, hsc, c2, b3]) rfl
      | refine zs k_Mo_field rfl ?_
      | refine ⟨Nat.zero_lt_one, rfl, ?_⟩
      | refine ⟨rfl, ?_⟩
      | refine ⟨⟨Nat.zero_lt_one, rfl⟩, Nat.le_of_ble_eq_true rfl, ?_⟩
      | refine ⟨Nat.le_of_ble_eq_true rfl, Nat.le_of_ble_eq_true rfl, ?_⟩
      | refine ⟨(by first | exact Nat.zero_lt_one | assumption | omega), (by first | assumption | exact vp_in_nI (by omega) (by omega) | (unfold vp_in; decide)), ?_⟩
      | refine ⟨(by first | exact Nat.zero_lt_one | assumption | omega), rfl, ?_⟩
      | refine ⟨⟨(by first | exact Nat.zero_lt_one | assumption | omega), rfl⟩, Nat.le_of_ble_eq_true rfl, ?_⟩
      | refine ⟨(by first | exact Nat.zero_lt_one | assumption | omega), ?_⟩
      | refine ⟨Or.inl rfl, ?_⟩
      | refine ⟨Or.inr (Or.inl rfl), ?_⟩
      | refine ⟨Or.inr (Or.inr rfl), ?_⟩
      | refine ⟨Or.inr ⟨rfl, (by first | exact Or.inl rfl | exact Or.inr rfl | assumption)⟩, ?_⟩
      | refine ⟨fun h => absurd h (by decide), fun _ => ?_⟩
      | refine ⟨fun _ => ?_, fun h => absurd h (by decide)⟩
      | refine ⟨fun h => ?_, fun h => ?_⟩
      | fail)
