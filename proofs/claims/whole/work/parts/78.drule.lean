/-! DESK: decides, ends, hand, ahead, why, quarrel -/
theorem gRu_ok {μ : zMu} {nr : Nat} (g : gRu μ nr) : ∀ r, r < nr → cRok μ r := fun r hr => (g.2.2.2 r hr).1
theorem c_De_decides {d n nr ns : Nat} {μ : zMu} {v o day x y : Int32} {K : Option zV → zMu → Prop} (g : gPe μ ns n) (g4 : gRu μ nr) (h0 : ¬ (okI nr v ∧ okA n o day x y) → K (some (zI (-2))) μ) (h1 : ∀ r p q, okA n o day x y → r < nr → p < n → q < n → v = nI r → x = nI p → y = nI q → K (some (zI (pV (cF μ) (cRu μ r) o day p q))) μ) : Ct (d + 3) m_De_decides [zR 0 0, zI v, zI o, zI day, zI x, zI y] μ K := by
  refine zmeet rfl (Nat.le_of_ble_eq_true rfl) (fun S => ?_)
  have h20 := g.2.2.1
  have h16 := g4.2.2.1
  by_cases hv : okI nr v
  case neg =>
    have hk := h0 (fun q => hv q.1)
    have hv' : ¬ (0 ≤ v ∧ v < μ 3 0 0) := by rw [g4.1]; exact hv
    repeat' (first
      | refine c_Bo_hasRule (fun h h' => absurd ⟨h, h'⟩ hv') (fun _ => ?_)
      | exact hk
      | (refine zs k_De_decides rfl ?_; conv => whnf)
      | refine ⟨Nat.zero_lt_one, rfl, ?_⟩
      | refine ⟨rfl, ?_⟩
      | refine ⟨⟨Nat.zero_lt_one, rfl⟩, Nat.le_of_ble_eq_true rfl, ?_⟩
      | refine ⟨Nat.le_of_ble_eq_true rfl, Nat.le_of_ble_eq_true rfl, ?_⟩
      | refine ⟨(by first | exact Nat.zero_lt_one | assumption | omega), (by first | assumption | exact vp_in_nI (by omega) (by omega) | (unfold vp_in; decide)), ?_⟩
      | refine ⟨(by first | exact Nat.zero_lt_one | assumption | omega), rfl, ?_⟩
      | refine ⟨⟨(by first | exact Nat.zero_lt_one | assumption | omega), rfl⟩, Nat.le_of_ble_eq_true rfl, ?_⟩
      | refine ⟨(by first | exact Nat.zero_lt_one | assumption | omega), ?_⟩
      | refine ⟨Or.inl rfl, ?_⟩
      | refine ⟨Or.inr (Or.inl rfl), ?_⟩
      | refine ⟨Or.inr (Or.inr rfl), ?_⟩
      | refine ⟨Or.inr ⟨rfl, (by first | exact Or.inl rfl | exact Or.inr rfl | assumption)⟩, ?_⟩
      | refine ⟨fun h => absurd h (by decide), fun _ => ?_⟩
      | refine ⟨fun _ => ?_, fun h => absurd h (by decide)⟩
      | refine ⟨fun h => ?_, fun h => ?_⟩
      | fail)
  have hv' : 0 ≤ v ∧ v < μ 3 0 0 := by rw [g4.1]; exact hv
  by_cases ho : okA n o day x y
  case neg =>
    have hk := h0 (fun q => ho q.2)
    repeat' (first
      | refine c_Bo_hasRule (fun _ _ => ?_) (fun h => absurd hv' h)
      | refine c_De_isOccasion (fun i1 => ?_) (fun i1 => ?_)
      | refine c_De_areTwo g.1 (fun i2 => absurd ⟨i1.1, i1.2, i2⟩ ho) (fun i2 => ?_)
      | exact hk
      | (refine zs k_De_decides rfl ?_; conv => whnf)
      | refine ⟨Nat.zero_lt_one, rfl, ?_⟩
      | refine ⟨rfl, ?_⟩
      | refine ⟨⟨Nat.zero_lt_one, rfl⟩, Nat.le_of_ble_eq_true rfl, ?_⟩
      | refine ⟨Nat.le_of_ble_eq_true rfl, Nat.le_of_ble_eq_true rfl, ?_⟩
      | refine ⟨(by first | exact Nat.zero_lt_one | assumption | omega), (by first | assumption | exact vp_in_nI (by omega) (by omega) | (unfold vp_in; decide)), ?_⟩
      | refine ⟨(by first | exact Nat.zero_lt_one | assumption | omega), rfl, ?_⟩
      | refine ⟨⟨(by first | exact Nat.zero_lt_one | assumption | omega), rfl⟩, Nat.le_of_ble_eq_true rfl, ?_⟩
      | refine ⟨(by first | exact Nat.zero_lt_one | assumption | omega), ?_⟩
      | refine ⟨Or.inl rfl, ?_⟩
      | refine ⟨Or.inr (Or.inl rfl), ?_⟩
      | refine ⟨Or.inr (Or.inr rfl), ?_⟩
      | refine ⟨Or.inr ⟨rfl, (by first | exact Or.inl rfl | exact Or.inr rfl | assumption)⟩, ?_⟩
      | refine ⟨fun h => absurd h (by decide), fun _ => ?_⟩
      | refine ⟨fun _ => ?_, fun h => absurd h (by decide)⟩
      | refine ⟨fun h => ?_, fun h => ?_⟩
      | fail)
  obtain ⟨p, q, hp, hq, hpq, rfl, rfl⟩ := okA_of (by omega) ho
  rcases zIx v (n := nr) (by omega) with ⟨r, hr, rfl⟩ | w
  case inr => exact absurd hv w
  have hk := h1 r p q ho hr hp hq rfl rfl rfl
  have cr : (nI r).toNatClampNeg = r := nI_clamp (by omega)
  have cp : (nI p).toNatClampNeg = p := nI_clamp (by omega)
  have cq : (nI q).toNatClampNeg = q := nI_clamp (by omega)
  have hvr : vp_in (nI r) 16 := vp_in_nI (by omega) (by omega)
  have hlr : (nI r).toNatClampNeg < 16 := by omega
  have hok : cRok μ (nI r).toNatClampNeg := by rw [cr]; exact gRu_ok g4 r hr
  repeat' (first
    | refine c_Bo_hasRule (fun _ _ => ?_) (fun h => absurd hv' h)
    | refine c_De_isOccasion (fun i1 => ?_) (fun i1 => absurd ⟨ho.1, ho.2.1⟩ i1)
    | refine c_De_areTwo g.1 (fun i2 => ?_) (fun i2 => absurd ho.2.2 i2)
    | refine c_Ru_verdict hlr hok (vp_in_nI (by omega) (by omega)) (vp_in_nI (by omega) (by omega)) ?_
    | exact zKe hk (by rw [cr, cp, cq]) rfl
    | (refine zs k_De_decides rfl ?_; conv => whnf)
    | refine ⟨Nat.zero_lt_one, rfl, ?_⟩
    | refine ⟨rfl, ?_⟩
    | refine ⟨⟨Nat.zero_lt_one, rfl⟩, Nat.le_of_ble_eq_true rfl, ?_⟩
    | refine ⟨Nat.le_of_ble_eq_true rfl, Nat.le_of_ble_eq_true rfl, ?_⟩
    | refine ⟨(by first | exact Nat.zero_lt_one | assumption | omega), (by first | assumption | exact vp_in_nI (by omega) (by omega) | (unfold vp_in; decide)), ?_⟩
    | refine ⟨(by first | exact Nat.zero_lt_one | assumption | omega), rfl, ?_⟩
    | refine ⟨⟨(by first | exact Nat.zero_lt_one | assumption | omega), rfl⟩, Nat.le_of_ble_eq_true rfl, ?_⟩
    | refine ⟨(by first | exact Nat.zero_lt_one | assumption | omega), ?_⟩
    | refine ⟨Or.inl rfl, ?_⟩
    | refine ⟨Or.inr (Or.inl rfl), ?_⟩
    | refine ⟨Or.inr (Or.inr rfl), ?_⟩
    | refine ⟨Or.inr ⟨rfl, (by first | exact Or.inl rfl | exact Or.inr rfl | assumption)⟩, ?_⟩
    | refine ⟨fun h => absurd h (by decide), fun _ => ?_⟩
    | refine ⟨fun _ => ?_, fun h => absurd h (by decide)⟩
    | refine ⟨fun h => ?_, fun h => ?_⟩
    | fail)
theorem c_Mo_decides {d n nr ns : Nat} {μ : zMu} {v o day x y : Int32} {K : Option zV → zMu → Prop} (g1 : gSt μ ns) (g : gPe μ ns n) (g4 : gRu μ nr) (h0 : ¬ (okI nr v ∧ okA n o day x y) → K (some (zI (-2))) μ) (h1 : ∀ r p q, okA n o day x y → r < nr → p < n → q < n → v = nI r → x = nI p → y = nI q → K (some (zI (pV (cF μ) (cRu μ r) o day p q))) μ) : Ct (d + 5) m_Mo_decides [zR 48 0, zI v, zI o, zI day, zI x, zI y] μ K := by
  refine zmeet rfl (Nat.le_of_ble_eq_true rfl) (fun S => ?_)
  have h20 := g.2.2.1
  have h16 := g4.2.2.1
  by_cases hv : okI nr v
  case neg =>
    have hk := h0 (fun q => hv q.1)
    unfold okI at hv
    rw [← g4.2.1] at hv
    by_cases v0 : v < 0
    · skip
      repeat' (first
        | refine br_t v0 ?_
        | exact hk
        | (refine zs k_Mo_decides rfl ?_; conv => whnf)
        | refine ⟨Nat.zero_lt_one, rfl, ?_⟩
        | refine ⟨rfl, ?_⟩
        | refine ⟨⟨Nat.zero_lt_one, rfl⟩, Nat.le_of_ble_eq_true rfl, ?_⟩
        | refine ⟨Nat.le_of_ble_eq_true rfl, Nat.le_of_ble_eq_true rfl, ?_⟩
        | refine ⟨(by first | exact Nat.zero_lt_one | assumption | omega), (by first | assumption | exact vp_in_nI (by omega) (by omega) | (unfold vp_in; decide)), ?_⟩
        | refine ⟨(by first | exact Nat.zero_lt_one | assumption | omega), rfl, ?_⟩
        | refine ⟨⟨(by first | exact Nat.zero_lt_one | assumption | omega), rfl⟩, Nat.le_of_ble_eq_true rfl, ?_⟩
        | refine ⟨(by first | exact Nat.zero_lt_one | assumption | omega), ?_⟩
        | refine ⟨Or.inl rfl, ?_⟩
        | refine ⟨Or.inr (Or.inl rfl), ?_⟩
        | refine ⟨Or.inr (Or.inr rfl), ?_⟩
        | refine ⟨Or.inr ⟨rfl, (by first | exact Or.inl rfl | exact Or.inr rfl | assumption)⟩, ?_⟩
        | refine ⟨fun h => absurd h (by decide), fun _ => ?_⟩
        | refine ⟨fun _ => ?_, fun h => absurd h (by decide)⟩
        | refine ⟨fun h => ?_, fun h => ?_⟩
        | fail)
    · have v1 : μ 48 0 15 ≤ v := by grind
      repeat' (first
        | refine br_f v0 ?_
        | refine br_t v1 ?_
        | exact hk
        | (refine zs k_Mo_decides rfl ?_; conv => whnf)
        | refine ⟨Nat.zero_lt_one, rfl, ?_⟩
        | refine ⟨rfl, ?_⟩
        | refine ⟨⟨Nat.zero_lt_one, rfl⟩, Nat.le_of_ble_eq_true rfl, ?_⟩
        | refine ⟨Nat.le_of_ble_eq_true rfl, Nat.le_of_ble_eq_true rfl, ?_⟩
        | refine ⟨(by first | exact Nat.zero_lt_one | assumption | omega), (by first | assumption | exact vp_in_nI (by omega) (by omega) | (unfold vp_in; decide)), ?_⟩
        | refine ⟨(by first | exact Nat.zero_lt_one | assumption | omega), rfl, ?_⟩
        | refine ⟨⟨(by first | exact Nat.zero_lt_one | assumption | omega), rfl⟩, Nat.le_of_ble_eq_true rfl, ?_⟩
        | refine ⟨(by first | exact Nat.zero_lt_one | assumption | omega), ?_⟩
        | refine ⟨Or.inl rfl, ?_⟩
        | refine ⟨Or.inr (Or.inl rfl), ?_⟩
        | refine ⟨Or.inr (Or.inr rfl), ?_⟩
        | refine ⟨Or.inr ⟨rfl, (by first | exact Or.inl rfl | exact Or.inr rfl | assumption)⟩, ?_⟩
        | refine ⟨fun h => absurd h (by decide), fun _ => ?_⟩
        | refine ⟨fun _ => ?_, fun h => absurd h (by decide)⟩
        | refine ⟨fun h => ?_, fun h => ?_⟩
        | fail)
  have v0 : ¬ v < 0 := by have := hv.1; grind
  have v1 : ¬ μ 48 0 15 ≤ v := by rw [g4.2.1]; have := hv.2; grind
  by_cases ho : okA n o day x y
  case neg =>
    have hk := h0 (fun q => ho q.2)
    repeat' (first
      | refine br_f v0 ?_
      | refine br_f v1 ?_
      | refine c_Mo_isAsked g.2.1 (fun q => absurd q ho) (fun _ => ?_)
      | exact hk
      | (refine zs k_Mo_decides rfl ?_; conv => whnf)
      | refine ⟨Nat.zero_lt_one, rfl, ?_⟩
      | refine ⟨rfl, ?_⟩
      | refine ⟨⟨Nat.zero_lt_one, rfl⟩, Nat.le_of_ble_eq_true rfl, ?_⟩
      | refine ⟨Nat.le_of_ble_eq_true rfl, Nat.le_of_ble_eq_true rfl, ?_⟩
      | refine ⟨(by first | exact Nat.zero_lt_one | assumption | omega), (by first | assumption | exact vp_in_nI (by omega) (by omega) | (unfold vp_in; decide)), ?_⟩
      | refine ⟨(by first | exact Nat.zero_lt_one | assumption | omega), rfl, ?_⟩
      | refine ⟨⟨(by first | exact Nat.zero_lt_one | assumption | omega), rfl⟩, Nat.le_of_ble_eq_true rfl, ?_⟩
      | refine ⟨(by first | exact Nat.zero_lt_one | assumption | omega), ?_⟩
      | refine ⟨Or.inl rfl, ?_⟩
      | refine ⟨Or.inr (Or.inl rfl), ?_⟩
      | refine ⟨Or.inr (Or.inr rfl), ?_⟩
      | refine ⟨Or.inr ⟨rfl, (by first | exact Or.inl rfl | exact Or.inr rfl | assumption)⟩, ?_⟩
      | refine ⟨fun h => absurd h (by decide), fun _ => ?_⟩
      | refine ⟨fun _ => ?_, fun h => absurd h (by decide)⟩
      | refine ⟨fun h => ?_, fun h => ?_⟩
      | fail)
  obtain ⟨p, q, hp, hq, hpq, rfl, rfl⟩ := okA_of (by omega) ho
  rcases zIx v (n := nr) (by omega) with ⟨r, hr, rfl⟩ | w
  case inr => exact absurd hv w
  have hk := h1 r p q ho hr hp hq rfl rfl rfl
  repeat' (first
    | refine br_f v0 ?_
    | refine br_f v1 ?_
    | refine c_Mo_isAsked g.2.1 (fun _ => ?_) (fun q => absurd ho q)
    | refine c_Mo_decided g1 g (by omega) (g4.2.2.2 r hr) hp hq rfl rfl rfl ?_
    | exact hk
    | (refine zs k_Mo_decides rfl ?_; conv => whnf)
    | refine ⟨Nat.zero_lt_one, rfl, ?_⟩
    | refine ⟨rfl, ?_⟩
    | refine ⟨⟨Nat.zero_lt_one, rfl⟩, Nat.le_of_ble_eq_true rfl, ?_⟩
    | refine ⟨Nat.le_of_ble_eq_true rfl, Nat.le_of_ble_eq_true rfl, ?_⟩
    | refine ⟨(by first | exact Nat.zero_lt_one | assumption | omega), (by first | assumption | exact vp_in_nI (by omega) (by omega) | (unfold vp_in; decide)), ?_⟩
    | refine ⟨(by first | exact Nat.zero_lt_one | assumption | omega), rfl, ?_⟩
    | refine ⟨⟨(by first | exact Nat.zero_lt_one | assumption | omega), rfl⟩, Nat.le_of_ble_eq_true rfl, ?_⟩
    | refine ⟨(by first | exact Nat.zero_lt_one | assumption | omega), ?_⟩
    | refine ⟨Or.inl rfl, ?_⟩
    | refine ⟨Or.inr (Or.inl rfl), ?_⟩
    | refine ⟨Or.inr (Or.inr rfl), ?_⟩
    | refine ⟨Or.inr ⟨rfl, (by first | exact Or.inl rfl | exact Or.inr rfl | assumption)⟩, ?_⟩
    | refine ⟨fun h => absurd h (by decide), fun _ => ?_⟩
    | refine ⟨fun _ => ?_, fun h => absurd h (by decide)⟩
    | refine ⟨fun h => ?_, fun h => ?_⟩
    | fail)
theorem b_decides {μ : zMu} {v o day x y : Int32} (h : Rel μ) : Both m_De_decides m_Mo_decides [zI v, zI o, zI day, zI x, zI y] μ := by
  intro d K hK
  obtain ⟨ns, n, nr, nh, nt, nb, L, g1, g2, g3, g4, g5, g6, g7, g8, g9, g10, g11⟩ := id h
  have h20 := g2.2.2.1
  have h16 := g4.2.2.1
  refine c_De_decides g2 g4 (fun a => hK _ _ (fun d K2 hK2 => ?_)) (fun r p q a hr hp hq ev ex ey => hK _ _ (fun d K2 hK2 => ?_))
  · exact c_Mo_decides g1 g2 g4 (fun _ => hK2 _ h) (fun r p q b hr hp hq ev => absurd ⟨by rw [ev]; exact okI_i hr (by omega), b⟩ a)
  · subst ev ex ey
    refine c_Mo_decides g1 g2 g4 (fun b => absurd ⟨okI_i hr (by omega), a⟩ b) (fun r' p' q' _ hr' hp' hq' ev ex ey => ?_)
    obtain rfl := (nI_eq (by omega) (by omega)).mp ev
    obtain rfl := (nI_eq (by omega) (by omega)).mp ex
    obtain rfl := (nI_eq (by omega) (by omega)).mp ey
    exact hK2 _ h
theorem c_De_ends {d nr : Nat} {μ : zMu} {v y : Int32} {K : Option zV → zMu → Prop} (g4 : gRu μ nr) (h0 : ¬ okI nr v → K (some (zI (-1))) μ) (h1 : ∀ r, r < nr → v = nI r → ¬ (μ 8 r 5 < y ∧ y < μ 8 r 6) → K (some (zI (-2))) μ) (h2 : ∀ r, r < nr → v = nI r → (μ 8 r 5 < y ∧ y < μ 8 r 6) → K (some (zI (μ 8 r 6))) (zu μ 8 r 6 y)) : Ct (d + 1) m_De_ends [zR 0 0, zI v, zI y] μ K := by
  refine zmeet rfl (Nat.le_of_ble_eq_true rfl) (fun S => ?_)
  have h16 := g4.2.2.1
  rcases zIx v (n := nr) (by omega) with ⟨r, hr, rfl⟩ | hv
  case inr =>
    have hk := h0 hv
    repeat' (first
      | refine c_Bo_hasRule (fun h h' => absurd (by rw [← g4.1]; exact ⟨h, h'⟩) hv) (fun _ => ?_)
      | exact hk
      | (refine zs k_De_ends rfl ?_; conv => whnf)
      | refine ⟨Nat.zero_lt_one, rfl, ?_⟩
      | refine ⟨rfl, ?_⟩
      | refine ⟨⟨Nat.zero_lt_one, rfl⟩, Nat.le_of_ble_eq_true rfl, ?_⟩
      | refine ⟨Nat.le_of_ble_eq_true rfl, Nat.le_of_ble_eq_true rfl, ?_⟩
      | refine ⟨(by first | exact Nat.zero_lt_one | assumption | omega), (by first | assumption | exact vp_in_nI (by omega) (by omega) | (unfold vp_in; decide)), ?_⟩
      | refine ⟨(by first | exact Nat.zero_lt_one | assumption | omega), rfl, ?_⟩
      | refine ⟨⟨(by first | exact Nat.zero_lt_one | assumption | omega), rfl⟩, Nat.le_of_ble_eq_true rfl, ?_⟩
      | refine ⟨(by first | exact Nat.zero_lt_one | assumption | omega), ?_⟩
      | refine ⟨Or.inl rfl, ?_⟩
      | refine ⟨Or.inr (Or.inl rfl), ?_⟩
      | refine ⟨Or.inr (Or.inr rfl), ?_⟩
      | refine ⟨Or.inr ⟨rfl, (by first | exact Or.inl rfl | exact Or.inr rfl | assumption)⟩, ?_⟩
      | refine ⟨fun h => absurd h (by decide), fun _ => ?_⟩
      | refine ⟨fun _ => ?_, fun h => absurd h (by decide)⟩
      | refine ⟨fun h => ?_, fun h => ?_⟩
      | fail)
  have hv' : 0 ≤ nI r ∧ nI r < μ 3 0 0 := by rw [g4.1]; exact zIx_y hr (by omega)
  have cr : (nI r).toNatClampNeg = r := nI_clamp (by omega)
  have hvr : vp_in (nI r) 16 := vp_in_nI (by omega) (by omega)
  have hlr : (nI r).toNatClampNeg < 16 := by omega
  by_cases ho : μ 8 r 5 < y ∧ y < μ 8 r 6
  · have hk := h2 r hr rfl ho
    rw [← cr] at hk ho
    have o1 : ¬ y ≤ μ 8 (nI r).toNatClampNeg 5 := by have := ho.1; grind
    repeat' (first
      | refine c_Bo_hasRule (fun _ _ => ?_) (fun h => absurd hv' h)
      | refine br_f o1 ?_
      | refine br_t ho.2 ?_
      | exact hk
      | (refine zs k_De_ends rfl ?_; conv => whnf)
      | refine ⟨Nat.zero_lt_one, rfl, ?_⟩
      | refine ⟨rfl, ?_⟩
      | refine ⟨⟨Nat.zero_lt_one, rfl⟩, Nat.le_of_ble_eq_true rfl, ?_⟩
      | refine ⟨Nat.le_of_ble_eq_true rfl, Nat.le_of_ble_eq_true rfl, ?_⟩
      | refine ⟨(by first | exact Nat.zero_lt_one | assumption | omega), (by first | assumption | exact vp_in_nI (by omega) (by omega) | (unfold vp_in; decide)), ?_⟩
      | refine ⟨(by first | exact Nat.zero_lt_one | assumption | omega), rfl, ?_⟩
      | refine ⟨⟨(by first | exact Nat.zero_lt_one | assumption | omega), rfl⟩, Nat.le_of_ble_eq_true rfl, ?_⟩
      | refine ⟨(by first | exact Nat.zero_lt_one | assumption | omega), ?_⟩
      | refine ⟨Or.inl rfl, ?_⟩
      | refine ⟨Or.inr (Or.inl rfl), ?_⟩
      | refine ⟨Or.inr (Or.inr rfl), ?_⟩
      | refine ⟨Or.inr ⟨rfl, (by first | exact Or.inl rfl | exact Or.inr rfl | assumption)⟩, ?_⟩
      | refine ⟨fun h => absurd h (by decide), fun _ => ?_⟩
      | refine ⟨fun _ => ?_, fun h => absurd h (by decide)⟩
      | refine ⟨fun h => ?_, fun h => ?_⟩
      | fail)
  · have hk := h1 r hr rfl ho
    rw [← cr] at ho
    repeat' (first
      | refine c_Bo_hasRule (fun _ _ => ?_) (fun h => absurd hv' h)
      | exact hk
      | (refine zs k_De_ends rfl ?_; conv => whnf)
      | refine ⟨Nat.zero_lt_one, rfl, ?_⟩
      | refine ⟨rfl, ?_⟩
      | refine ⟨⟨Nat.zero_lt_one, rfl⟩, Nat.le_of_ble_eq_true rfl, ?_⟩
      | refine ⟨Nat.le_of_ble_eq_true rfl, Nat.le_of_ble_eq_true rfl, ?_⟩
      | refine ⟨(by first | exact Nat.zero_lt_one | assumption | omega), (by first | assumption | exact vp_in_nI (by omega) (by omega) | (unfold vp_in; decide)), ?_⟩
      | refine ⟨(by first | exact Nat.zero_lt_one | assumption | omega), rfl, ?_⟩
      | refine ⟨⟨(by first | exact Nat.zero_lt_one | assumption | omega), rfl⟩, Nat.le_of_ble_eq_true rfl, ?_⟩
      | refine ⟨(by first | exact Nat.zero_lt_one | assumption | omega), ?_⟩
      | refine ⟨Or.inl rfl, ?_⟩
      | refine ⟨Or.inr (Or.inl rfl), ?_⟩
      | refine ⟨Or.inr (Or.inr rfl), ?_⟩
      | refine ⟨Or.inr ⟨rfl, (by first | exact Or.inl rfl | exact Or.inr rfl | assumption)⟩, ?_⟩
      | refine ⟨fun h => absurd h (by decide), fun _ => ?_⟩
      | refine ⟨fun _ => ?_, fun h => absurd h (by decide)⟩
      | refine ⟨fun h => ?_, fun h => ?_⟩
      | exact absurd (by grind) ho
      | fail)
theorem c_Mo_ends {d nr : Nat} {μ : zMu} {v y : Int32} {K : Option zV → zMu → Prop} (hn : μ 48 0 15 = nI nr) (h16 : nr ≤ 16) (h0 : ¬ okI nr v → K (some (zI (-1))) μ) (h1 : ∀ r, r < nr → v = nI r → ¬ (μ 70 0 r < y ∧ y < μ 71 0 r) → K (some (zI (-2))) μ) (h2 : ∀ r, r < nr → v = nI r → (μ 70 0 r < y ∧ y < μ 71 0 r) → K (some (zI (μ 71 0 r))) (zu μ 71 0 r y)) : Ct (d + 1) m_Mo_ends [zR 48 0, zI v, zI y] μ K := by
  refine zmeet rfl (Nat.le_of_ble_eq_true rfl) (fun S => ?_)
  rcases zIx v (n := nr) (by omega) with ⟨r, hr, rfl⟩ | hv
  case inr =>
    have hk := h0 hv
    rw [← hn] at hv
    by_cases v0 : v < 0
    · skip
      repeat' (first
        | refine br_t v0 ?_
        | exact hk
        | (refine zs k_Mo_ends rfl ?_; conv => whnf)
        | refine ⟨Nat.zero_lt_one, rfl, ?_⟩
        | refine ⟨rfl, ?_⟩
        | refine ⟨⟨Nat.zero_lt_one, rfl⟩, Nat.le_of_ble_eq_true rfl, ?_⟩
        | refine ⟨Nat.le_of_ble_eq_true rfl, Nat.le_of_ble_eq_true rfl, ?_⟩
        | refine ⟨(by first | exact Nat.zero_lt_one | assumption | omega), (by first | assumption | exact vp_in_nI (by omega) (by omega) | (unfold vp_in; decide)), ?_⟩
        | refine ⟨(by first | exact Nat.zero_lt_one | assumption | omega), rfl, ?_⟩
        | refine ⟨⟨(by first | exact Nat.zero_lt_one | assumption | omega), rfl⟩, Nat.le_of_ble_eq_true rfl, ?_⟩
        | refine ⟨(by first | exact Nat.zero_lt_one | assumption | omega), ?_⟩
        | refine ⟨Or.inl rfl, ?_⟩
        | refine ⟨Or.inr (Or.inl rfl), ?_⟩
        | refine ⟨Or.inr (Or.inr rfl), ?_⟩
        | refine ⟨Or.inr ⟨rfl, (by first | exact Or.inl rfl | exact Or.inr rfl | assumption)⟩, ?_⟩
        | refine ⟨fun h => absurd h (by decide), fun _ => ?_⟩
        | refine ⟨fun _ => ?_, fun h => absurd h (by decide)⟩
        | refine ⟨fun h => ?_, fun h => ?_⟩
        | fail)
    · have v1 : ¬ v < μ 48 0 15 := by grind
      repeat' (first
        | refine br_f v0 ?_
        | refine br_f v1 ?_
        | exact hk
        | (refine zs k_Mo_ends rfl ?_; conv => whnf)
        | refine ⟨Nat.zero_lt_one, rfl, ?_⟩
        | refine ⟨rfl, ?_⟩
        | refine ⟨⟨Nat.zero_lt_one, rfl⟩, Nat.le_of_ble_eq_true rfl, ?_⟩
        | refine ⟨Nat.le_of_ble_eq_true rfl, Nat.le_of_ble_eq_true rfl, ?_⟩
        | refine ⟨(by first | exact Nat.zero_lt_one | assumption | omega), (by first | assumption | exact vp_in_nI (by omega) (by omega) | (unfold vp_in; decide)), ?_⟩
        | refine ⟨(by first | exact Nat.zero_lt_one | assumption | omega), rfl, ?_⟩
        | refine ⟨⟨(by first | exact Nat.zero_lt_one | assumption | omega), rfl⟩, Nat.le_of_ble_eq_true rfl, ?_⟩
        | refine ⟨(by first | exact Nat.zero_lt_one | assumption | omega), ?_⟩
        | refine ⟨Or.inl rfl, ?_⟩
        | refine ⟨Or.inr (Or.inl rfl), ?_⟩
        | refine ⟨Or.inr (Or.inr rfl), ?_⟩
        | refine ⟨Or.inr ⟨rfl, (by first | exact Or.inl rfl | exact Or.inr rfl | assumption)⟩, ?_⟩
        | refine ⟨fun h => absurd h (by decide), fun _ => ?_⟩
        | refine ⟨fun _ => ?_, fun h => absurd h (by decide)⟩
        | refine ⟨fun h => ?_, fun h => ?_⟩
        | fail)
  have v0 : ¬ nI r < 0 := nI_pos (by omega)
  have v1 : nI r < μ 48 0 15 := by rw [hn]; exact nI_lt hr (by omega)
  have cr : (nI r).toNatClampNeg = r := nI_clamp (by omega)
  have hvr : vp_in (nI r) 16 := vp_in_nI (by omega) (by omega)
  by_cases ho : μ 70 0 r < y ∧ y < μ 71 0 r
  · have hk := h2 r hr rfl ho
    rw [← cr] at hk ho
    have o1 : ¬ y ≤ μ 70 0 (nI r).toNatClampNeg := by have := ho.1; grind
    repeat' (first
      | refine br_f v0 ?_
      | refine br_t v1 ?_
      | refine br_f o1 ?_
      | refine br_t ho.2 ?_
      | exact hk
      | (refine zs k_Mo_ends rfl ?_; conv => whnf)
      | refine ⟨Nat.zero_lt_one, rfl, ?_⟩
      | refine ⟨rfl, ?_⟩
      | refine ⟨⟨Nat.zero_lt_one, rfl⟩, Nat.le_of_ble_eq_true rfl, ?_⟩
      | refine ⟨Nat.le_of_ble_eq_true rfl, Nat.le_of_ble_eq_true rfl, ?_⟩
      | refine ⟨(by first | exact Nat.zero_lt_one | assumption | omega), (by first | assumption | exact vp_in_nI (by omega) (by omega) | (unfold vp_in; decide)), ?_⟩
      | refine ⟨(by first | exact Nat.zero_lt_one | assumption | omega), rfl, ?_⟩
      | refine ⟨⟨(by first | exact Nat.zero_lt_one | assumption | omega), rfl⟩, Nat.le_of_ble_eq_true rfl, ?_⟩
      | refine ⟨(by first | exact Nat.zero_lt_one | assumption | omega), ?_⟩
      | refine ⟨Or.inl rfl, ?_⟩
      | refine ⟨Or.inr (Or.inl rfl), ?_⟩
      | refine ⟨Or.inr (Or.inr rfl), ?_⟩
      | refine ⟨Or.inr ⟨rfl, (by first | exact Or.inl rfl | exact Or.inr rfl | assumption)⟩, ?_⟩
      | refine ⟨fun h => absurd h (by decide), fun _ => ?_⟩
      | refine ⟨fun _ => ?_, fun h => absurd h (by decide)⟩
      | refine ⟨fun h => ?_, fun h => ?_⟩
      | fail)
  · have hk := h1 r hr rfl ho
    rw [← cr] at ho
    repeat' (first
      | refine br_f v0 ?_
      | refine br_t v1 ?_
      | exact hk
      | (refine zs k_Mo_ends rfl ?_; conv => whnf)
      | refine ⟨Nat.zero_lt_one, rfl, ?_⟩
      | refine ⟨rfl, ?_⟩
      | refine ⟨⟨Nat.zero_lt_one, rfl⟩, Nat.le_of_ble_eq_true rfl, ?_⟩
      | refine ⟨Nat.le_of_ble_eq_true rfl, Nat.le_of_ble_eq_true rfl, ?_⟩
      | refine ⟨(by first | exact Nat.zero_lt_one | assumption | omega), (by first | assumption | exact vp_in_nI (by omega) (by omega) | (unfold vp_in; decide)), ?_⟩
      | refine ⟨(by first | exact Nat.zero_lt_one | assumption | omega), rfl, ?_⟩
      | refine ⟨⟨(by first | exact Nat.zero_lt_one | assumption | omega), rfl⟩, Nat.le_of_ble_eq_true rfl, ?_⟩
      | refine ⟨(by first | exact Nat.zero_lt_one | assumption | omega), ?_⟩
      | refine ⟨Or.inl rfl, ?_⟩
      | refine ⟨Or.inr (Or.inl rfl), ?_⟩
      | refine ⟨Or.inr (Or.inr rfl), ?_⟩
      | refine ⟨Or.inr ⟨rfl, (by first | exact Or.inl rfl | exact Or.inr rfl | assumption)⟩, ?_⟩
      | refine ⟨fun h => absurd h (by decide), fun _ => ?_⟩
      | refine ⟨fun _ => ?_, fun h => absurd h (by decide)⟩
      | refine ⟨fun h => ?_, fun h => ?_⟩
      | exact absurd (by grind) ho
      | fail)
theorem b_ends {μ : zMu} {v y : Int32} (h : Rel μ) : Both m_De_ends m_Mo_ends [zI v, zI y] μ := by
  intro d K hK
  obtain ⟨ns, n, nr, nh, nt, nb, L, g1, g2, g3, g4, g5, g6, g7, g8, g9, g10, g11⟩ := id h
  have h16 := g4.2.2.1
  have e5 : ∀ r, r < nr → μ 70 0 r = μ 8 r 5 := fun r hr => (g4.2.2.2 r hr).2.2.2.2.2.1
  have e6 : ∀ r, r < nr → μ 71 0 r = μ 8 r 6 := fun r hr => (g4.2.2.2 r hr).2.2.2.2.2.2.1
  refine c_De_ends g4 (fun a => hK _ _ (fun d K2 hK2 => ?_)) (fun r hr ev a => hK _ _ (fun d K2 hK2 => ?_)) (fun r hr ev a => hK _ _ (fun d K2 hK2 => ?_))
  · exact c_Mo_ends g4.2.1 h16 (fun _ => hK2 _ h) (fun r hr ev => absurd (by rw [ev]; exact okI_i hr (by omega)) a) (fun r hr ev => absurd (by rw [ev]; exact okI_i hr (by omega)) a)
  · subst ev
    refine c_Mo_ends g4.2.1 h16 (fun q => absurd (okI_i hr (by omega)) q) (fun r' hr' ev _ => hK2 _ h) (fun r' hr' ev b => ?_)
    obtain rfl := (nI_eq (by omega) (by omega)).mp ev
    rw [e5 r hr, e6 r hr] at b
    exact absurd b a
  · subst ev
    refine c_Mo_ends (nr := nr) g4.2.1 h16 (fun q => absurd (okI_i hr (by omega)) q) (fun r' hr' ev b => ?_) (fun r' hr' ev b => ?_)
    · obtain rfl := (nI_eq (by omega) (by omega)).mp ev
      refine absurd ?_ b
      show μ 70 0 r < y ∧ y < μ 71 0 r
      rw [e5 r hr, e6 r hr]
      exact a
    · obtain rfl := (nI_eq (by omega) (by omega)).mp ev
      refine zKe (hK2 _ ?_) ?_ rfl
      · refine ⟨ns, n, nr, nh, nt, nb, L, g1, g2, g3, ⟨g4.1, g4.2.1, h16, fun k hk => ?_⟩, g5, g6, g7, g8, g9, g10, g11⟩
        have e8 : ∀ j, j ≠ 6 → zu (zu μ 8 r 6 y) 71 0 r y 8 k j = μ 8 k j := fun j hj => by
          rw [zu_ne (by omega), zu_ne (by omega)]
        have e86 : zu (zu μ 8 r 6 y) 71 0 r y 8 k 6 = if k = r then y else μ 8 k 6 := by
          rw [zu_ne (by omega)]
          by_cases q : k = r
          · rw [if_pos q, q, zu_eq]
          · rw [if_neg q, zu_ne (by omega)]
        have e71 : zu (zu μ 8 r 6 y) 71 0 r y 71 0 k = if k = r then y else μ 71 0 k := by
          by_cases q : k = r
          · rw [if_pos q, q, zu_eq]
          · rw [if_neg q, zu_ne (by omega), zu_ne (by omega)]
        obtain ⟨a1, a2, a3, a4, a5, a6, a7, a8, a9, a10⟩ := g4.2.2.2 k hk
        unfold gR1 cRok at *
        rw [e8 0 (by omega), e8 1 (by omega), e8 2 (by omega), e8 3 (by omega), e8 4 (by omega), e8 5 (by omega), e86, e71]
        refine ⟨a1, a2, a3, a4, a5, a6, ?_, a8, a9, a10⟩
        by_cases q : k = r
        · rw [if_pos q, if_pos q]
        · rw [if_neg q, if_neg q]
          exact a7
      · exact e6 r hr
theorem c_De_hand {d n nh : Nat} {μ : zMu} {x y : Int32} {K : Option zV → zMu → Prop} (hn : μ 1 0 1 = nI n) (hh : μ 3 0 1 = nI nh) (h20 : nh ≤ 20) (h0 : ¬ (okI n x ∧ okI n y) → K (some (zI (-1))) μ) (h1 : okI n x ∧ okI n y → x = y → K (some (zI (-2))) μ) (h2 : okI n x ∧ okI n y → ¬ x = y → nh = 20 → K (some (zI (-4))) μ) (h3 : okI n x ∧ okI n y → ¬ x = y → nh < 20 → K (some (zI (nI (nh + 1)))) (zu (zu (zu μ 20 0 nh x) 21 0 nh y) 3 0 1 (nI (nh + 1)))) : Ct (d + 1) m_De_hand [zR 0 0, zI x, zI y] μ K := by
  refine zmeet rfl (Nat.le_of_ble_eq_true rfl) (fun S => ?_)
  by_cases ho : okI n x ∧ okI n y
  case neg =>
    have hk := h0 ho
    unfold okI at ho
    rw [← hn] at ho
    repeat' (first
      | refine c_Ro_hasPerson (fun q1 q2 => ?_) (fun q => ?_)
      | exact hk
      | (refine zs k_De_hand rfl ?_; conv => whnf)
      | refine ⟨Nat.zero_lt_one, rfl, ?_⟩
      | refine ⟨rfl, ?_⟩
      | refine ⟨⟨Nat.zero_lt_one, rfl⟩, Nat.le_of_ble_eq_true rfl, ?_⟩
      | refine ⟨Nat.le_of_ble_eq_true rfl, Nat.le_of_ble_eq_true rfl, ?_⟩
      | refine ⟨(by first | exact Nat.zero_lt_one | assumption | omega), (by first | assumption | exact vp_in_nI (by omega) (by omega) | (unfold vp_in; decide)), ?_⟩
      | refine ⟨(by first | exact Nat.zero_lt_one | assumption | omega), rfl, ?_⟩
      | refine ⟨⟨(by first | exact Nat.zero_lt_one | assumption | omega), rfl⟩, Nat.le_of_ble_eq_true rfl, ?_⟩
      | refine ⟨(by first | exact Nat.zero_lt_one | assumption | omega), ?_⟩
      | refine ⟨Or.inl rfl, ?_⟩
      | refine ⟨Or.inr (Or.inl rfl), ?_⟩
      | refine ⟨Or.inr (Or.inr rfl), ?_⟩
      | refine ⟨Or.inr ⟨rfl, (by first | exact Or.inl rfl | exact Or.inr rfl | assumption)⟩, ?_⟩
      | refine ⟨fun h => absurd h (by decide), fun _ => ?_⟩
      | refine ⟨fun _ => ?_, fun h => absurd h (by decide)⟩
      | refine ⟨fun h => ?_, fun h => ?_⟩
      | exact absurd (by grind) ho
      | fail)
  have hx : 0 ≤ x ∧ x < μ 1 0 1 := by rw [hn]; exact ho.1
  have hy : 0 ≤ y ∧ y < μ 1 0 1 := by rw [hn]; exact ho.2
  by_cases he : x = y
  · have hk := h1 ho he
    repeat' (first
      | refine c_Ro_hasPerson (x := x) (fun _ _ => ?_) (fun q => absurd hx q)
      | refine c_Ro_hasPerson (x := y) (fun _ _ => ?_) (fun q => absurd hy q)
      | refine bn_f he ?_
      | exact hk
      | (refine zs k_De_hand rfl ?_; conv => whnf)
      | refine ⟨Nat.zero_lt_one, rfl, ?_⟩
      | refine ⟨rfl, ?_⟩
      | refine ⟨⟨Nat.zero_lt_one, rfl⟩, Nat.le_of_ble_eq_true rfl, ?_⟩
      | refine ⟨Nat.le_of_ble_eq_true rfl, Nat.le_of_ble_eq_true rfl, ?_⟩
      | refine ⟨(by first | exact Nat.zero_lt_one | assumption | omega), (by first | assumption | exact vp_in_nI (by omega) (by omega) | (unfold vp_in; decide)), ?_⟩
      | refine ⟨(by first | exact Nat.zero_lt_one | assumption | omega), rfl, ?_⟩
      | refine ⟨⟨(by first | exact Nat.zero_lt_one | assumption | omega), rfl⟩, Nat.le_of_ble_eq_true rfl, ?_⟩
      | refine ⟨(by first | exact Nat.zero_lt_one | assumption | omega), ?_⟩
      | refine ⟨Or.inl rfl, ?_⟩
      | refine ⟨Or.inr (Or.inl rfl), ?_⟩
      | refine ⟨Or.inr (Or.inr rfl), ?_⟩
      | refine ⟨Or.inr ⟨rfl, (by first | exact Or.inl rfl | exact Or.inr rfl | assumption)⟩, ?_⟩
      | refine ⟨fun h => absurd h (by decide), fun _ => ?_⟩
      | refine ⟨fun _ => ?_, fun h => absurd h (by decide)⟩
      | refine ⟨fun h => ?_, fun h => ?_⟩
      | fail)
  rcases Nat.lt_or_ge nh 20 with h | h
  · have hk := h3 ho he h
    have hc : (μ 3 0 1).toNatClampNeg = nh := by rw [hh]; exact nI_clamp (by omega)
    have hlt : ¬ 20 ≤ μ 3 0 1 := by rw [hh]; exact nI_ge (b := 20) h (by omega)
    have hv : vp_in (μ 3 0 1) 20 := by rw [hh]; exact vp_in_nI h (by omega)
    repeat' (first
      | refine c_Ro_hasPerson (x := x) (fun _ _ => ?_) (fun q => absurd hx q)
      | refine c_Ro_hasPerson (x := y) (fun _ _ => ?_) (fun q => absurd hy q)
      | refine bn_t he ?_
      | refine br_f hlt ?_
      | refine c_Bo_addHand hv ?_
      | exact zKe hk (by rw [hh, nI_1]) (by rw [hc, hh, nI_1])
      | (refine zs k_De_hand rfl ?_; conv => whnf)
      | refine ⟨Nat.zero_lt_one, rfl, ?_⟩
      | refine ⟨rfl, ?_⟩
      | refine ⟨⟨Nat.zero_lt_one, rfl⟩, Nat.le_of_ble_eq_true rfl, ?_⟩
      | refine ⟨Nat.le_of_ble_eq_true rfl, Nat.le_of_ble_eq_true rfl, ?_⟩
      | refine ⟨(by first | exact Nat.zero_lt_one | assumption | omega), (by first | assumption | exact vp_in_nI (by omega) (by omega) | (unfold vp_in; decide)), ?_⟩
      | refine ⟨(by first | exact Nat.zero_lt_one | assumption | omega), rfl, ?_⟩
      | refine ⟨⟨(by first | exact Nat.zero_lt_one | assumption | omega), rfl⟩, Nat.le_of_ble_eq_true rfl, ?_⟩
      | refine ⟨(by first | exact Nat.zero_lt_one | assumption | omega), ?_⟩
      | refine ⟨Or.inl rfl, ?_⟩
      | refine ⟨Or.inr (Or.inl rfl), ?_⟩
      | refine ⟨Or.inr (Or.inr rfl), ?_⟩
      | refine ⟨Or.inr ⟨rfl, (by first | exact Or.inl rfl | exact Or.inr rfl | assumption)⟩, ?_⟩
      | refine ⟨fun h => absurd h (by decide), fun _ => ?_⟩
      | refine ⟨fun _ => ?_, fun h => absurd h (by decide)⟩
      | refine ⟨fun h => ?_, fun h => ?_⟩
      | fail)
  · have hk := h2 ho he (by omega)
    have hlt : 20 ≤ μ 3 0 1 := by rw [hh]; exact nI_le (a := 20) h (by omega)
    repeat' (first
      | refine c_Ro_hasPerson (x := x) (fun _ _ => ?_) (fun q => absurd hx q)
      | refine c_Ro_hasPerson (x := y) (fun _ _ => ?_) (fun q => absurd hy q)
      | refine bn_t he ?_
      | refine br_t hlt ?_
      | exact hk
      | (refine zs k_De_hand rfl ?_; conv => whnf)
      | refine ⟨Nat.zero_lt_one, rfl, ?_⟩
      | refine ⟨rfl, ?_⟩
      | refine ⟨⟨Nat.zero_lt_one, rfl⟩, Nat.le_of_ble_eq_true rfl, ?_⟩
      | refine ⟨Nat.le_of_ble_eq_true rfl, Nat.le_of_ble_eq_true rfl, ?_⟩
      | refine ⟨(by first | exact Nat.zero_lt_one | assumption | omega), (by first | assumption | exact vp_in_nI (by omega) (by omega) | (unfold vp_in; decide)), ?_⟩
      | refine ⟨(by first | exact Nat.zero_lt_one | assumption | omega), rfl, ?_⟩
      | refine ⟨⟨(by first | exact Nat.zero_lt_one | assumption | omega), rfl⟩, Nat.le_of_ble_eq_true rfl, ?_⟩
      | refine ⟨(by first | exact Nat.zero_lt_one | assumption | omega), ?_⟩
      | refine ⟨Or.inl rfl, ?_⟩
      | refine ⟨Or.inr (Or.inl rfl), ?_⟩
      | refine ⟨Or.inr (Or.inr rfl), ?_⟩
      | refine ⟨Or.inr ⟨rfl, (by first | exact Or.inl rfl | exact Or.inr rfl | assumption)⟩, ?_⟩
      | refine ⟨fun h => absurd h (by decide), fun _ => ?_⟩
      | refine ⟨fun _ => ?_, fun h => absurd h (by decide)⟩
      | refine ⟨fun h => ?_, fun h => ?_⟩
      | fail)
theorem c_Mo_hand {d n nh : Nat} {μ : zMu} {x y : Int32} {K : Option zV → zMu → Prop} (hn : μ 48 0 5 = nI n) (hh : μ 48 0 33 = nI nh) (h20 : nh ≤ 20) (h0 : ¬ (okI n x ∧ okI n y) → K (some (zI (-1))) μ) (h1 : okI n x ∧ okI n y → x = y → K (some (zI (-2))) μ) (h2 : okI n x ∧ okI n y → ¬ x = y → nh = 20 → K (some (zI (-4))) μ) (h3 : okI n x ∧ okI n y → ¬ x = y → nh < 20 → K (some (zI (nI (nh + 1)))) (zu (zu (zu μ 84 0 nh x) 85 0 nh y) 48 0 33 (nI (nh + 1)))) : Ct (d + 1) m_Mo_hand [zR 48 0, zI x, zI y] μ K := by
  refine zmeet rfl (Nat.le_of_ble_eq_true rfl) (fun S => ?_)
  by_cases ho : okI n x ∧ okI n y
  case neg =>
    have hk := h0 ho
    unfold okI at ho
    rw [← hn] at ho
    by_cases hx : 0 ≤ x ∧ x < μ 48 0 5
    · have hy : ¬ (0 ≤ y ∧ y < μ 48 0 5) := fun q => ho ⟨hx, q⟩
      repeat' (first
        | refine c_Mo_isPerson (x := x) (fun _ => ?_) (fun q => absurd hx q)
        | refine c_Mo_isPerson (x := y) (fun q => absurd q hy) (fun _ => ?_)
        | exact hk
        | (refine zs k_Mo_hand rfl ?_; conv => whnf)
        | refine ⟨Nat.zero_lt_one, rfl, ?_⟩
        | refine ⟨rfl, ?_⟩
        | refine ⟨⟨Nat.zero_lt_one, rfl⟩, Nat.le_of_ble_eq_true rfl, ?_⟩
        | refine ⟨Nat.le_of_ble_eq_true rfl, Nat.le_of_ble_eq_true rfl, ?_⟩
        | refine ⟨(by first | exact Nat.zero_lt_one | assumption | omega), (by first | assumption | exact vp_in_nI (by omega) (by omega) | (unfold vp_in; decide)), ?_⟩
        | refine ⟨(by first | exact Nat.zero_lt_one | assumption | omega), rfl, ?_⟩
        | refine ⟨⟨(by first | exact Nat.zero_lt_one | assumption | omega), rfl⟩, Nat.le_of_ble_eq_true rfl, ?_⟩
        | refine ⟨(by first | exact Nat.zero_lt_one | assumption | omega), ?_⟩
        | refine ⟨Or.inl rfl, ?_⟩
        | refine ⟨Or.inr (Or.inl rfl), ?_⟩
        | refine ⟨Or.inr (Or.inr rfl), ?_⟩
        | refine ⟨Or.inr ⟨rfl, (by first | exact Or.inl rfl | exact Or.inr rfl | assumption)⟩, ?_⟩
        | refine ⟨fun h => absurd h (by decide), fun _ => ?_⟩
        | refine ⟨fun _ => ?_, fun h => absurd h (by decide)⟩
        | refine ⟨fun h => ?_, fun h => ?_⟩
        | fail)
    · skip
      repeat' (first
        | refine c_Mo_isPerson (x := x) (fun q => absurd q hx) (fun _ => ?_)
        | exact hk
        | (refine zs k_Mo_hand rfl ?_; conv => whnf)
        | refine ⟨Nat.zero_lt_one, rfl, ?_⟩
        | refine ⟨rfl, ?_⟩
        | refine ⟨⟨Nat.zero_lt_one, rfl⟩, Nat.le_of_ble_eq_true rfl, ?_⟩
        | refine ⟨Nat.le_of_ble_eq_true rfl, Nat.le_of_ble_eq_true rfl, ?_⟩
        | refine ⟨(by first | exact Nat.zero_lt_one | assumption | omega), (by first | assumption | exact vp_in_nI (by omega) (by omega) | (unfold vp_in; decide)), ?_⟩
        | refine ⟨(by first | exact Nat.zero_lt_one | assumption | omega), rfl, ?_⟩
        | refine ⟨⟨(by first | exact Nat.zero_lt_one | assumption | omega), rfl⟩, Nat.le_of_ble_eq_true rfl, ?_⟩
        | refine ⟨(by first | exact Nat.zero_lt_one | assumption | omega), ?_⟩
        | refine ⟨Or.inl rfl, ?_⟩
        | refine ⟨Or.inr (Or.inl rfl), ?_⟩
        | refine ⟨Or.inr (Or.inr rfl), ?_⟩
        | refine ⟨Or.inr ⟨rfl, (by first | exact Or.inl rfl | exact Or.inr rfl | assumption)⟩, ?_⟩
        | refine ⟨fun h => absurd h (by decide), fun _ => ?_⟩
        | refine ⟨fun _ => ?_, fun h => absurd h (by decide)⟩
        | refine ⟨fun h => ?_, fun h => ?_⟩
        | fail)
  have hx : 0 ≤ x ∧ x < μ 48 0 5 := by rw [hn]; exact ho.1
  have hy : 0 ≤ y ∧ y < μ 48 0 5 := by rw [hn]; exact ho.2
  by_cases he : x = y
  · have hk := h1 ho he
    repeat' (first
      | refine c_Mo_isPerson (x := x) (fun _ => ?_) (fun q => absurd hx q)
      | refine c_Mo_isPerson (x := y) (fun _ => ?_) (fun q => absurd hy q)
      | refine bn_f he ?_
      | exact hk
      | (refine zs k_Mo_hand rfl ?_; conv => whnf)
      | refine ⟨Nat.zero_lt_one, rfl, ?_⟩
      | refine ⟨rfl, ?_⟩
      | refine ⟨⟨Nat.zero_lt_one, rfl⟩, Nat.le_of_ble_eq_true rfl, ?_⟩
      | refine ⟨Nat.le_of_ble_eq_true rfl, Nat.le_of_ble_eq_true rfl, ?_⟩
      | refine ⟨(by first | exact Nat.zero_lt_one | assumption | omega), (by first | assumption | exact vp_in_nI (by omega) (by omega) | (unfold vp_in; decide)), ?_⟩
      | refine ⟨(by first | exact Nat.zero_lt_one | assumption | omega), rfl, ?_⟩
      | refine ⟨⟨(by first | exact Nat.zero_lt_one | assumption | omega), rfl⟩, Nat.le_of_ble_eq_true rfl, ?_⟩
      | refine ⟨(by first | exact Nat.zero_lt_one | assumption | omega), ?_⟩
      | refine ⟨Or.inl rfl, ?_⟩
      | refine ⟨Or.inr (Or.inl rfl), ?_⟩
      | refine ⟨Or.inr (Or.inr rfl), ?_⟩
      | refine ⟨Or.inr ⟨rfl, (by first | exact Or.inl rfl | exact Or.inr rfl | assumption)⟩, ?_⟩
      | refine ⟨fun h => absurd h (by decide), fun _ => ?_⟩
      | refine ⟨fun _ => ?_, fun h => absurd h (by decide)⟩
      | refine ⟨fun h => ?_, fun h => ?_⟩
      | fail)
  rcases Nat.lt_or_ge nh 20 with h | h
  · have hk := h3 ho he h
    have hc : (μ 48 0 33).toNatClampNeg = nh := by rw [hh]; exact nI_clamp (by omega)
    have hlt : ¬ μ 48 0 33 = 20 := by rw [hh]; exact fun e => absurd ((nI_eq (b := 20) (by omega) (by omega)).mp e) (by omega)
    have hv : vp_in (μ 48 0 33) 20 := by rw [hh]; exact vp_in_nI h (by omega)
    repeat' (first
      | refine c_Mo_isPerson (x := x) (fun _ => ?_) (fun q => absurd hx q)
      | refine c_Mo_isPerson (x := y) (fun _ => ?_) (fun q => absurd hy q)
      | refine bn_t he ?_
      | refine bn_t hlt ?_
      | exact zKe hk (by show μ 48 0 33 + 1 = _; rw [hh, nI_1]) (by show zu (zu (zu μ 84 0 (μ 48 0 33).toNatClampNeg x) 85 0 (μ 48 0 33).toNatClampNeg y) 48 0 33 (μ 48 0 33 + 1) = _; rw [hc, hh, nI_1])
      | (refine zs k_Mo_hand rfl ?_; conv => whnf)
      | refine ⟨Nat.zero_lt_one, rfl, ?_⟩
      | refine ⟨rfl, ?_⟩
      | refine ⟨⟨Nat.zero_lt_one, rfl⟩, Nat.le_of_ble_eq_true rfl, ?_⟩
      | refine ⟨Nat.le_of_ble_eq_true rfl, Nat.le_of_ble_eq_true rfl, ?_⟩
      | refine ⟨(by first | exact Nat.zero_lt_one | assumption | omega), (by first | assumption | exact vp_in_nI (by omega) (by omega) | (unfold vp_in; decide)), ?_⟩
      | refine ⟨(by first | exact Nat.zero_lt_one | assumption | omega), rfl, ?_⟩
      | refine ⟨⟨(by first | exact Nat.zero_lt_one | assumption | omega), rfl⟩, Nat.le_of_ble_eq_true rfl, ?_⟩
      | refine ⟨(by first | exact Nat.zero_lt_one | assumption | omega), ?_⟩
      | refine ⟨Or.inl rfl, ?_⟩
      | refine ⟨Or.inr (Or.inl rfl), ?_⟩
      | refine ⟨Or.inr (Or.inr rfl), ?_⟩
      | refine ⟨Or.inr ⟨rfl, (by first | exact Or.inl rfl | exact Or.inr rfl | assumption)⟩, ?_⟩
      | refine ⟨fun h => absurd h (by decide), fun _ => ?_⟩
      | refine ⟨fun _ => ?_, fun h => absurd h (by decide)⟩
      | refine ⟨fun h => ?_, fun h => ?_⟩
      | fail)
  · have hk := h2 ho he (by omega)
    have hlt : μ 48 0 33 = 20 := by rw [hh, show nh = 20 by omega]; rfl
    repeat' (first
      | refine c_Mo_isPerson (x := x) (fun _ => ?_) (fun q => absurd hx q)
      | refine c_Mo_isPerson (x := y) (fun _ => ?_) (fun q => absurd hy q)
      | refine bn_t he ?_
      | refine bn_f hlt ?_
      | exact hk
      | (refine zs k_Mo_hand rfl ?_; conv => whnf)
      | refine ⟨Nat.zero_lt_one, rfl, ?_⟩
      | refine ⟨rfl, ?_⟩
      | refine ⟨⟨Nat.zero_lt_one, rfl⟩, Nat.le_of_ble_eq_true rfl, ?_⟩
      | refine ⟨Nat.le_of_ble_eq_true rfl, Nat.le_of_ble_eq_true rfl, ?_⟩
      | refine ⟨(by first | exact Nat.zero_lt_one | assumption | omega), (by first | assumption | exact vp_in_nI (by omega) (by omega) | (unfold vp_in; decide)), ?_⟩
      | refine ⟨(by first | exact Nat.zero_lt_one | assumption | omega), rfl, ?_⟩
      | refine ⟨⟨(by first | exact Nat.zero_lt_one | assumption | omega), rfl⟩, Nat.le_of_ble_eq_true rfl, ?_⟩
      | refine ⟨(by first | exact Nat.zero_lt_one | assumption | omega), ?_⟩
      | refine ⟨Or.inl rfl, ?_⟩
      | refine ⟨Or.inr (Or.inl rfl), ?_⟩
      | refine ⟨Or.inr (Or.inr rfl), ?_⟩
      | refine ⟨Or.inr ⟨rfl, (by first | exact Or.inl rfl | exact Or.inr rfl | assumption)⟩, ?_⟩
      | refine ⟨fun h => absurd h (by decide), fun _ => ?_⟩
      | refine ⟨fun _ => ?_, fun h => absurd h (by decide)⟩
      | refine ⟨fun h => ?_, fun h => ?_⟩
      | fail)
theorem b_hand {μ : zMu} {x y : Int32} (h : Rel μ) : Both m_De_hand m_Mo_hand [zI x, zI y] μ := by
  intro d K hK
  obtain ⟨ns, n, nr, nh, nt, nb, L, g1, g2, g3, g4, g5, g6, g7, g8, g9, g10, g11⟩ := id h
  have h20 := g5.2.2.1
  refine c_De_hand g2.1 g5.1 h20 (fun a => hK _ _ (fun d K2 hK2 => ?_)) (fun a b => hK _ _ (fun d K2 hK2 => ?_)) (fun a b c => hK _ _ (fun d K2 hK2 => ?_)) (fun a b c => hK _ _ (fun d K2 hK2 => ?_))
  · exact c_Mo_hand g2.2.1 g5.2.1 h20 (fun _ => hK2 _ h) (fun q => absurd q a) (fun q => absurd q a) (fun q => absurd q a)
  · exact c_Mo_hand g2.2.1 g5.2.1 h20 (fun q => absurd a q) (fun _ _ => hK2 _ h) (fun _ q => absurd b q) (fun _ q => absurd b q)
  · exact c_Mo_hand g2.2.1 g5.2.1 h20 (fun q => absurd a q) (fun _ q => absurd q b) (fun _ _ _ => hK2 _ h) (fun _ _ q => absurd q (by omega))
  · refine c_Mo_hand (n := n) (nh := nh) g2.2.1 g5.2.1 h20 (fun q => absurd a q) (fun _ q => absurd q b) (fun _ _ q => absurd q (by omega)) (fun _ _ _ => hK2 _ ?_)
    refine ⟨ns, n, nr, nh + 1, nt, nb, L, g1, g2, g3, g4, ⟨rfl, rfl, by omega, fun k hk => ?_⟩, g6, g7, g8, g9, g10, g11⟩
    show zu μ 84 0 nh x 84 0 k = zu μ 20 0 nh x 20 0 k ∧ zu μ 85 0 nh y 85 0 k = zu μ 21 0 nh y 21 0 k
    by_cases q : k = nh
    · subst q
      rw [zu_eq, zu_eq, zu_eq, zu_eq]
      exact ⟨rfl, rfl⟩
    · rw [zu_ne (by omega), zu_ne (by omega), zu_ne (by omega), zu_ne (by omega)]
      exact g5.2.2.2 k (by omega)
-- ---- who is ahead
def mHd (hx hy : Nat → Int32) (x y : Int32) : Nat → Int32
  | 0 => -1
  | k + 1 => if (hx k = x ∧ hy k = y) ∨ (hx k = y ∧ hy k = x) then nI k else mHd hx hy x y k
theorem mHd_p {hx hy : Nat → Int32} {x y : Int32} (hne : ¬ x = y) : ∀ n, n < 2 ^ 31 → (mHd hx hy x y n = -1 ∧ pHand hx hy x y n = 0) ∨ ∃ j, j < n ∧ mHd hx hy x y n = nI j ∧ ((hx j = x ∧ pHand hx hy x y n = 1) ∨ (¬ hx j = x ∧ pHand hx hy x y n = -1))
  | 0, _ => Or.inl ⟨rfl, rfl⟩
  | n + 1, hn => by
    simp only [mHd, pHand]
    by_cases h1 : hx n = x ∧ hy n = y
    · rw [if_pos (Or.inl h1), if_pos h1]
      exact Or.inr ⟨n, by omega, rfl, Or.inl ⟨h1.1, rfl⟩⟩
    · by_cases h2 : hx n = y ∧ hy n = x
      · rw [if_pos (Or.inr h2), if_neg h1, if_pos h2]
        exact Or.inr ⟨n, by omega, rfl, Or.inr ⟨fun e => hne (e.symm.trans h2.1), rfl⟩⟩
      · rw [if_neg (fun w => w.elim h1 h2), if_neg h1, if_neg h2]
        rcases mHd_p hne n (by omega) with q | ⟨j, hj, q⟩
        · exact Or.inl q
        · exact Or.inr ⟨j, by omega, q⟩
theorem c_Mo_handOf {d nh : Nat} {μ : zMu} {x y : Int32} {K : Option zV → zMu → Prop} (hh : μ 48 0 33 = nI nh) (h20 : nh ≤ 20) (hK : K (some (zI (mHd (μ 84 0) (μ 85 0) x y nh))) μ) : Ct d m_Mo_handOf [zR 48 0, zI x, zI y] μ K := by
  refine zmeet rfl (Nat.le_of_ble_eq_true rfl) (fun S => ?_)
  have L : ∀ (k i : Nat) (f v : Int32), i + k = nh → v = nI i → f = mHd (μ 84 0) (μ 85 0) x y i → zG S d m_Mo_handOf K 5 [some (zR 48 0), some (zI x), some (zI y), some (zI f), some (zI v)] [] μ := by
    intro k
    induction k with
    | zero =>
      intro i f v hi hv hf
      subst hv hf
      obtain rfl : i = nh := by omega
      refine zs k_Mo_handOf rfl ?_; conv => whnf
      repeat' (first
        | exact hK
        | (refine zs k_Mo_handOf rfl ?_; conv => whnf)
        | refine br_t (by simp (disch := omega) only [hh, nI_leI, nI_ltI, nI_eq]; omega) ?_
        | refine br_f (by simp (disch := omega) only [hh, nI_leI, nI_ltI, nI_eq]; omega) ?_
        | refine ⟨Nat.zero_lt_one, rfl, ?_⟩
        | refine ⟨rfl, ?_⟩
        | refine ⟨⟨Nat.zero_lt_one, rfl⟩, Nat.le_of_ble_eq_true rfl, ?_⟩
        | refine ⟨Nat.le_of_ble_eq_true rfl, Nat.le_of_ble_eq_true rfl, ?_⟩
        | refine ⟨(by first | exact Nat.zero_lt_one | assumption | omega), (by first | assumption | exact vp_in_nI (by omega) (by omega) | (unfold vp_in; decide)), ?_⟩
        | refine ⟨(by first | exact Nat.zero_lt_one | assumption | omega), rfl, ?_⟩
        | refine ⟨⟨(by first | exact Nat.zero_lt_one | assumption | omega), rfl⟩, Nat.le_of_ble_eq_true rfl, ?_⟩
        | refine ⟨(by first | exact Nat.zero_lt_one | assumption | omega), ?_⟩
        | refine ⟨Or.inl rfl, ?_⟩
        | refine ⟨Or.inr (Or.inl rfl), ?_⟩
        | refine ⟨Or.inr (Or.inr rfl), ?_⟩
        | refine ⟨Or.inr ⟨rfl, (by first | exact Or.inl rfl | exact Or.inr rfl | assumption)⟩, ?_⟩
        | refine ⟨fun h => absurd h (by decide), fun _ => ?_⟩
        | refine ⟨fun _ => ?_, fun h => absurd h (by decide)⟩
        | refine ⟨fun h => ?_, fun h => ?_⟩
        | fail)
    | succ k ih =>
      intro i f v hi hv hf
      subst hv
      have hc : (nI i).toNatClampNeg = i := nI_clamp (by omega)
      have hs : mHd (μ 84 0) (μ 85 0) x y (i + 1) = if (μ 84 0 (nI i).toNatClampNeg = x ∧ μ 85 0 (nI i).toNatClampNeg = y) ∨ (μ 84 0 (nI i).toNatClampNeg = y ∧ μ 85 0 (nI i).toNatClampNeg = x) then nI i else f := by rw [hf, hc]; rfl
      refine zs k_Mo_handOf rfl ?_; conv => whnf
      repeat' (first
        | refine ih (i + 1) _ _ (by omega) (by exact nI_1 i) (by rw [hs]; grind)
        | (refine zs k_Mo_handOf rfl ?_; conv => whnf)
        | refine br_t (by simp (disch := omega) only [hh, nI_leI, nI_ltI, nI_eq]; omega) ?_
        | refine br_f (by simp (disch := omega) only [hh, nI_leI, nI_ltI, nI_eq]; omega) ?_
        | refine ⟨Nat.zero_lt_one, rfl, ?_⟩
        | refine ⟨rfl, ?_⟩
        | refine ⟨⟨Nat.zero_lt_one, rfl⟩, Nat.le_of_ble_eq_true rfl, ?_⟩
        | refine ⟨Nat.le_of_ble_eq_true rfl, Nat.le_of_ble_eq_true rfl, ?_⟩
        | refine ⟨(by first | exact Nat.zero_lt_one | assumption | omega), (by first | assumption | exact vp_in_nI (by omega) (by omega) | (unfold vp_in; decide)), ?_⟩
        | refine ⟨(by first | exact Nat.zero_lt_one | assumption | omega), rfl, ?_⟩
        | refine ⟨⟨(by first | exact Nat.zero_lt_one | assumption | omega), rfl⟩, Nat.le_of_ble_eq_true rfl, ?_⟩
        | refine ⟨(by first | exact Nat.zero_lt_one | assumption | omega), ?_⟩
        | refine ⟨Or.inl rfl, ?_⟩
        | refine ⟨Or.inr (Or.inl rfl), ?_⟩
        | refine ⟨Or.inr (Or.inr rfl), ?_⟩
        | refine ⟨Or.inr ⟨rfl, (by first | exact Or.inl rfl | exact Or.inr rfl | assumption)⟩, ?_⟩
        | refine ⟨fun h => absurd h (by decide), fun _ => ?_⟩
        | refine ⟨fun _ => ?_, fun h => absurd h (by decide)⟩
        | refine ⟨fun h => ?_, fun h => ?_⟩
        | fail)
  repeat' (first
    | exact L nh 0 _ _ (by omega) rfl rfl
    | (refine zs k_Mo_handOf rfl ?_; conv => whnf)
    | refine ⟨Nat.zero_lt_one, rfl, ?_⟩
    | refine ⟨rfl, ?_⟩
    | refine ⟨⟨Nat.zero_lt_one, rfl⟩, Nat.le_of_ble_eq_true rfl, ?_⟩
    | refine ⟨Nat.le_of_ble_eq_true rfl, Nat.le_of_ble_eq_true rfl, ?_⟩
    | refine ⟨(by first | exact Nat.zero_lt_one | assumption | omega), (by first | assumption | exact vp_in_nI (by omega) (by omega) | (unfold vp_in; decide)), ?_⟩
    | refine ⟨(by first | exact Nat.zero_lt_one | assumption | omega), rfl, ?_⟩
    | refine ⟨⟨(by first | exact Nat.zero_lt_one | assumption | omega), rfl⟩, Nat.le_of_ble_eq_true rfl, ?_⟩
    | refine ⟨(by first | exact Nat.zero_lt_one | assumption | omega), ?_⟩
    | refine ⟨Or.inl rfl, ?_⟩
    | refine ⟨Or.inr (Or.inl rfl), ?_⟩
    | refine ⟨Or.inr (Or.inr rfl), ?_⟩
    | refine ⟨Or.inr ⟨rfl, (by first | exact Or.inl rfl | exact Or.inr rfl | assumption)⟩, ?_⟩
    | refine ⟨fun h => absurd h (by decide), fun _ => ?_⟩
    | refine ⟨fun _ => ?_, fun h => absurd h (by decide)⟩
    | refine ⟨fun h => ?_, fun h => ?_⟩
    | fail)
theorem pHand_cg {hx hy hx' hy' : Nat → Int32} {x y : Int32} : ∀ {n : Nat}, (∀ k, k < n → hx' k = hx k ∧ hy' k = hy k) → pHand hx' hy' x y n = pHand hx hy x y n
  | 0, _ => rfl
  | n + 1, h => by
    rw [pHand, pHand, (h n (by omega)).1, (h n (by omega)).2, pHand_cg (fun k hk => h k (by omega))]
set_option maxHeartbeats 1000000 in
theorem c_Mo_goes {d n nr ns p q : Nat} {μ : zMu} {o day x y : Int32} {K : Option zV → zMu → Prop} (g1 : gSt μ ns) (g : gPe μ ns n) (g4 : gRu μ nr) (hp : p < n) (hq : q < n) (hx : x = nI p) (hy : y = nI q) (hK : K (some (zI (pGo (cV μ o day p q) (cOc μ) nr))) μ) : Ct (d + 5) m_Mo_goes [zR 48 0, zI o, zI day, zI x, zI y] μ K := by
  subst hx hy
  refine zmeet rfl (Nat.le_of_ble_eq_true rfl) (fun S => ?_)
  have h16 := g4.2.2.1
  have hn := g4.2.1
  have L : ∀ (k i : Nat) (b v : Int32), i + k = nr → v = nI i → b = pGo (cV μ o day p q) (cOc μ) i → zG S (d + 5) m_Mo_goes K 6 [some (zR 48 0), some (zI o), some (zI day), some (zI (nI p)), some (zI (nI q)), some (zI b), some (zI v)] [] μ := by
    intro k
    induction k with
    | zero =>
      intro i b v hi hv hb
      subst hv hb
      obtain rfl : i = nr := by omega
      refine zs k_Mo_goes rfl ?_; conv => whnf
      repeat' (first
        | exact hK
        | (refine zs k_Mo_goes rfl ?_; conv => whnf)
        | refine br_t (by simp (disch := omega) only [hn, nI_leI, nI_ltI, nI_eq]; omega) ?_
        | refine br_f (by simp (disch := omega) only [hn, nI_leI, nI_ltI, nI_eq]; omega) ?_
        | refine ⟨Nat.zero_lt_one, rfl, ?_⟩
        | refine ⟨rfl, ?_⟩
        | refine ⟨⟨Nat.zero_lt_one, rfl⟩, Nat.le_of_ble_eq_true rfl, ?_⟩
        | refine ⟨Nat.le_of_ble_eq_true rfl, Nat.le_of_ble_eq_true rfl, ?_⟩
        | refine ⟨(by first | exact Nat.zero_lt_one | assumption | omega), (by first | assumption | exact vp_in_nI (by omega) (by omega) | (unfold vp_in; decide)), ?_⟩
        | refine ⟨(by first | exact Nat.zero_lt_one | assumption | omega), rfl, ?_⟩
        | refine ⟨⟨(by first | exact Nat.zero_lt_one | assumption | omega), rfl⟩, Nat.le_of_ble_eq_true rfl, ?_⟩
        | refine ⟨(by first | exact Nat.zero_lt_one | assumption | omega), ?_⟩
        | refine ⟨Or.inl rfl, ?_⟩
        | refine ⟨Or.inr (Or.inl rfl), ?_⟩
        | refine ⟨Or.inr (Or.inr rfl), ?_⟩
        | refine ⟨Or.inr ⟨rfl, (by first | exact Or.inl rfl | exact Or.inr rfl | assumption)⟩, ?_⟩
        | refine ⟨fun h => absurd h (by decide), fun _ => ?_⟩
        | refine ⟨fun _ => ?_, fun h => absurd h (by decide)⟩
        | refine ⟨fun h => ?_, fun h => ?_⟩
        | fail)
    | succ k ih =>
      intro i b v hi hv hb
      subst hv
      have hc : (nI i).toNatClampNeg = i := nI_clamp (by omega)
      have hs : pGo (cV μ o day p q) (cOc μ) (i + 1) = if pV (cF μ) (cRu μ i) o day p q = 0 then b else if b = -1 ∨ ¬ cOc μ i = -1 ∨ cOc μ b.toNatClampNeg = -1 then nI i else b := by rw [hb]; rfl
      have oc : ∀ r, r < nr → (μ 66 0 r < 10 ↔ ¬ cOc μ r = -1) ∧ (μ 66 0 r = 10 ↔ cOc μ r = -1) := fun r hr => by
        rcases (g4.2.2.2 r hr).2.1 with ⟨a, c⟩ | ⟨a, b', c⟩
        · rw [c, show cOc μ r = -1 from a]
          exact ⟨by decide, by decide⟩
        · have n1 : ¬ cOc μ r = -1 := fun e => absurd a (by rw [show μ 8 r 0 = -1 from e]; decide)
          rw [c]
          refine ⟨⟨fun _ => n1, fun _ => ?_⟩, ⟨fun e => absurd b' (by rw [e]; decide), fun e => absurd e n1⟩⟩
          grind
      have o1 := (oc i (by omega)).1
      rw [← hc] at o1
      have hbv : ¬ b = -1 → vp_in b 16 ∧ (μ 66 0 b.toNatClampNeg = 10 ↔ cOc μ b.toNatClampNeg = -1) := fun h => by
        rcases pGo_in (V := cV μ o day p q) (oc := cOc μ) (n := i) (by omega) with q | ⟨r, hr, q, -⟩
        · exact absurd (hb.trans q) h
        · rw [hb, q, nI_clamp (by omega)]
          exact ⟨vp_in_nI (by omega) (by omega), (oc r (by omega)).2⟩
      rw [hc] at o1
      have o1' : μ 66 0 (nI i).toNatClampNeg < 10 ↔ ¬ cOc μ i = -1 := by rw [hc]; exact o1
      by_cases hV : pV (cF μ) (cRu μ i) o day p q = 0
      · rw [if_pos hV] at hs
        refine zs k_Mo_goes rfl ?_; conv => whnf
        repeat' (first
          | refine c_Mo_decided g1 g (by omega) (g4.2.2.2 i (by omega)) hp hq rfl rfl rfl ?_
          | refine br_t hV ?_
          | refine ih (i + 1) _ _ (by omega) (by exact nI_1 i) hs.symm
          | (refine zs k_Mo_goes rfl ?_; conv => whnf)
          | refine br_t (by simp (disch := omega) only [hn, nI_leI, nI_ltI, nI_eq]; omega) ?_
          | refine br_f (by simp (disch := omega) only [hn, nI_leI, nI_ltI, nI_eq]; omega) ?_
          | refine ⟨Nat.zero_lt_one, rfl, ?_⟩
          | refine ⟨rfl, ?_⟩
          | refine ⟨⟨Nat.zero_lt_one, rfl⟩, Nat.le_of_ble_eq_true rfl, ?_⟩
          | refine ⟨Nat.le_of_ble_eq_true rfl, Nat.le_of_ble_eq_true rfl, ?_⟩
          | refine ⟨(by first | exact Nat.zero_lt_one | assumption | omega), (by first | assumption | exact vp_in_nI (by omega) (by omega) | (unfold vp_in; decide)), ?_⟩
          | refine ⟨(by first | exact Nat.zero_lt_one | assumption | omega), rfl, ?_⟩
          | refine ⟨⟨(by first | exact Nat.zero_lt_one | assumption | omega), rfl⟩, Nat.le_of_ble_eq_true rfl, ?_⟩
          | refine ⟨(by first | exact Nat.zero_lt_one | assumption | omega), ?_⟩
          | refine ⟨Or.inl rfl, ?_⟩
          | refine ⟨Or.inr (Or.inl rfl), ?_⟩
          | refine ⟨Or.inr (Or.inr rfl), ?_⟩
          | refine ⟨Or.inr ⟨rfl, (by first | exact Or.inl rfl | exact Or.inr rfl | assumption)⟩, ?_⟩
          | refine ⟨fun h => absurd h (by decide), fun _ => ?_⟩
          | refine ⟨fun _ => ?_, fun h => absurd h (by decide)⟩
          | refine ⟨fun h => ?_, fun h => ?_⟩
          | fail)
      · rw [if_neg hV] at hs
        by_cases hb1 : b = -1
        · rw [if_pos (Or.inl hb1)] at hs
          refine zs k_Mo_goes rfl ?_; conv => whnf
          repeat' (first
            | refine c_Mo_decided g1 g (by omega) (g4.2.2.2 i (by omega)) hp hq rfl rfl rfl ?_
            | refine br_f hV ?_
            | refine br_t hb1 ?_
            | refine ih (i + 1) _ _ (by omega) (by exact nI_1 i) hs.symm
            | (refine zs k_Mo_goes rfl ?_; conv => whnf)
            | refine br_t (by simp (disch := omega) only [hn, nI_leI, nI_ltI, nI_eq]; omega) ?_
            | refine br_f (by simp (disch := omega) only [hn, nI_leI, nI_ltI, nI_eq]; omega) ?_
            | refine ⟨Nat.zero_lt_one, rfl, ?_⟩
            | refine ⟨rfl, ?_⟩
            | refine ⟨⟨Nat.zero_lt_one, rfl⟩, Nat.le_of_ble_eq_true rfl, ?_⟩
            | refine ⟨Nat.le_of_ble_eq_true rfl, Nat.le_of_ble_eq_true rfl, ?_⟩
            | refine ⟨(by first | exact Nat.zero_lt_one | assumption | omega), (by first | assumption | exact vp_in_nI (by omega) (by omega) | (unfold vp_in; decide)), ?_⟩
            | refine ⟨(by first | exact Nat.zero_lt_one | assumption | omega), rfl, ?_⟩
            | refine ⟨⟨(by first | exact Nat.zero_lt_one | assumption | omega), rfl⟩, Nat.le_of_ble_eq_true rfl, ?_⟩
            | refine ⟨(by first | exact Nat.zero_lt_one | assumption | omega), ?_⟩
            | refine ⟨Or.inl rfl, ?_⟩
            | refine ⟨Or.inr (Or.inl rfl), ?_⟩
            | refine ⟨Or.inr (Or.inr rfl), ?_⟩
            | refine ⟨Or.inr ⟨rfl, (by first | exact Or.inl rfl | exact Or.inr rfl | assumption)⟩, ?_⟩
            | refine ⟨fun h => absurd h (by decide), fun _ => ?_⟩
            | refine ⟨fun _ => ?_, fun h => absurd h (by decide)⟩
            | refine ⟨fun h => ?_, fun h => ?_⟩
            | fail)
        · obtain ⟨v1, v2⟩ := hbv hb1
          refine zs k_Mo_goes rfl ?_; conv => whnf
          repeat' (first
            | refine c_Mo_decided g1 g (by omega) (g4.2.2.2 i (by omega)) hp hq rfl rfl rfl ?_
            | refine br_f hV ?_
            | refine br_f hb1 ?_
            | refine ih (i + 1) _ _ (by omega) (by exact nI_1 i) (by rw [hs]; first | rw [if_pos (by grind)] | rw [if_neg (by grind)])
            | (refine zs k_Mo_goes rfl ?_; conv => whnf)
            | refine br_t (by simp (disch := omega) only [hn, nI_leI, nI_ltI, nI_eq]; omega) ?_
            | refine br_f (by simp (disch := omega) only [hn, nI_leI, nI_ltI, nI_eq]; omega) ?_
            | refine ⟨Nat.zero_lt_one, rfl, ?_⟩
            | refine ⟨rfl, ?_⟩
            | refine ⟨⟨Nat.zero_lt_one, rfl⟩, Nat.le_of_ble_eq_true rfl, ?_⟩
            | refine ⟨Nat.le_of_ble_eq_true rfl, Nat.le_of_ble_eq_true rfl, ?_⟩
            | refine ⟨(by first | exact Nat.zero_lt_one | assumption | omega), (by first | assumption | exact vp_in_nI (by omega) (by omega) | (unfold vp_in; decide)), ?_⟩
            | refine ⟨(by first | exact Nat.zero_lt_one | assumption | omega), rfl, ?_⟩
            | refine ⟨⟨(by first | exact Nat.zero_lt_one | assumption | omega), rfl⟩, Nat.le_of_ble_eq_true rfl, ?_⟩
            | refine ⟨(by first | exact Nat.zero_lt_one | assumption | omega), ?_⟩
            | refine ⟨Or.inl rfl, ?_⟩
            | refine ⟨Or.inr (Or.inl rfl), ?_⟩
            | refine ⟨Or.inr (Or.inr rfl), ?_⟩
            | refine ⟨Or.inr ⟨rfl, (by first | exact Or.inl rfl | exact Or.inr rfl | assumption)⟩, ?_⟩
            | refine ⟨fun h => absurd h (by decide), fun _ => ?_⟩
            | refine ⟨fun _ => ?_, fun h => absurd h (by decide)⟩
            | refine ⟨fun h => ?_, fun h => ?_⟩
            | fail)
  repeat' (first
    | exact L nr 0 _ _ (by omega) rfl rfl
    | (refine zs k_Mo_goes rfl ?_; conv => whnf)
    | refine ⟨Nat.zero_lt_one, rfl, ?_⟩
    | refine ⟨rfl, ?_⟩
    | refine ⟨⟨Nat.zero_lt_one, rfl⟩, Nat.le_of_ble_eq_true rfl, ?_⟩
    | refine ⟨Nat.le_of_ble_eq_true rfl, Nat.le_of_ble_eq_true rfl, ?_⟩
    | refine ⟨(by first | exact Nat.zero_lt_one | assumption | omega), (by first | assumption | exact vp_in_nI (by omega) (by omega) | (unfold vp_in; decide)), ?_⟩
    | refine ⟨(by first | exact Nat.zero_lt_one | assumption | omega), rfl, ?_⟩
    | refine ⟨⟨(by first | exact Nat.zero_lt_one | assumption | omega), rfl⟩, Nat.le_of_ble_eq_true rfl, ?_⟩
    | refine ⟨(by first | exact Nat.zero_lt_one | assumption | omega), ?_⟩
    | refine ⟨Or.inl rfl, ?_⟩
    | refine ⟨Or.inr (Or.inl rfl), ?_⟩
    | refine ⟨Or.inr (Or.inr rfl), ?_⟩
    | refine ⟨Or.inr ⟨rfl, (by first | exact Or.inl rfl | exact Or.inr rfl | assumption)⟩, ?_⟩
    | refine ⟨fun h => absurd h (by decide), fun _ => ?_⟩
    | refine ⟨fun _ => ?_, fun h => absurd h (by decide)⟩
    | refine ⟨fun h => ?_, fun h => ?_⟩
    | fail)
theorem c_Mo_first {d n nr nh ns p q : Nat} {μ : zMu} {o day x y : Int32} {K : Option zV → zMu → Prop} (g1 : gSt μ ns) (g : gPe μ ns n) (g4 : gRu μ nr) (g5 : gHd μ nh) (hp : p < n) (hq : q < n) (hpq : p ≠ q) (hx : x = nI p) (hy : y = nI q) (hK : K (some (zI (cLdr μ o day nr nh p q))) μ) : Ct (d + 6) m_Mo_first [zR 48 0, zI o, zI day, zI x, zI y] μ K := by
  subst hx hy
  refine zmeet rfl (Nat.le_of_ble_eq_true rfl) (fun S => ?_)
  have h20 := g.2.2.1
  have hh20 := g5.2.2.1
  have h16 := g4.2.2.1
  have hne : ¬ nI p = nI q := fun e => hpq ((nI_eq (by omega) (by omega)).mp e)
  unfold cLdr pLd at hK
  rw [← pHand_cg (hx' := μ 84 0) (hy' := μ 85 0) g5.2.2.2] at hK
  rcases mHd_p (hx := μ 84 0) (hy := μ 85 0) hne nh (by omega) with ⟨q1, q2⟩ | ⟨j, hj, q1, q2⟩
  · rw [q2, if_neg (by simp)] at hK
    rcases pGo_in (V := cV μ o day p q) (oc := cOc μ) (n := nr) h16 with w | ⟨r, hr, w, -⟩
    · rw [if_pos w] at hK
      repeat' (first
        | refine c_Mo_handOf g5.2.1 hh20 ?_
        | refine br_t q1 ?_
        | refine c_Mo_goes g1 g g4 hp hq rfl rfl ?_
        | refine bn_f w ?_
        | exact hK
        | (refine zs k_Mo_first rfl ?_; conv => whnf)
        | refine ⟨Nat.zero_lt_one, rfl, ?_⟩
        | refine ⟨rfl, ?_⟩
        | refine ⟨⟨Nat.zero_lt_one, rfl⟩, Nat.le_of_ble_eq_true rfl, ?_⟩
        | refine ⟨Nat.le_of_ble_eq_true rfl, Nat.le_of_ble_eq_true rfl, ?_⟩
        | refine ⟨(by first | exact Nat.zero_lt_one | assumption | omega), (by first | assumption | exact vp_in_nI (by omega) (by omega) | (unfold vp_in; decide)), ?_⟩
        | refine ⟨(by first | exact Nat.zero_lt_one | assumption | omega), rfl, ?_⟩
        | refine ⟨⟨(by first | exact Nat.zero_lt_one | assumption | omega), rfl⟩, Nat.le_of_ble_eq_true rfl, ?_⟩
        | refine ⟨(by first | exact Nat.zero_lt_one | assumption | omega), ?_⟩
        | refine ⟨Or.inl rfl, ?_⟩
        | refine ⟨Or.inr (Or.inl rfl), ?_⟩
        | refine ⟨Or.inr (Or.inr rfl), ?_⟩
        | refine ⟨Or.inr ⟨rfl, (by first | exact Or.inl rfl | exact Or.inr rfl | assumption)⟩, ?_⟩
        | refine ⟨fun h => absurd h (by decide), fun _ => ?_⟩
        | refine ⟨fun _ => ?_, fun h => absurd h (by decide)⟩
        | refine ⟨fun h => ?_, fun h => ?_⟩
        | fail)
    · have w' : ¬ pGo (cV μ o day p q) (cOc μ) nr = -1 := by rw [w]; exact nI_nem1 (by omega)
      rw [if_neg w', w, nI_clamp (by omega)] at hK
      repeat' (first
        | refine c_Mo_handOf g5.2.1 hh20 ?_
        | refine br_t q1 ?_
        | refine c_Mo_goes g1 g g4 hp hq rfl rfl ?_
        | refine bn_t w' ?_
        | refine c_Mo_decided g1 g (by omega) (g4.2.2.2 r hr) hp hq w rfl rfl ?_
        | exact hK
        | (refine zs k_Mo_first rfl ?_; conv => whnf)
        | refine ⟨Nat.zero_lt_one, rfl, ?_⟩
        | refine ⟨rfl, ?_⟩
        | refine ⟨⟨Nat.zero_lt_one, rfl⟩, Nat.le_of_ble_eq_true rfl, ?_⟩
        | refine ⟨Nat.le_of_ble_eq_true rfl, Nat.le_of_ble_eq_true rfl, ?_⟩
        | refine ⟨(by first | exact Nat.zero_lt_one | assumption | omega), (by first | assumption | exact vp_in_nI (by omega) (by omega) | (unfold vp_in; decide)), ?_⟩
        | refine ⟨(by first | exact Nat.zero_lt_one | assumption | omega), rfl, ?_⟩
        | refine ⟨⟨(by first | exact Nat.zero_lt_one | assumption | omega), rfl⟩, Nat.le_of_ble_eq_true rfl, ?_⟩
        | refine ⟨(by first | exact Nat.zero_lt_one | assumption | omega), ?_⟩
        | refine ⟨Or.inl rfl, ?_⟩
        | refine ⟨Or.inr (Or.inl rfl), ?_⟩
        | refine ⟨Or.inr (Or.inr rfl), ?_⟩
        | refine ⟨Or.inr ⟨rfl, (by first | exact Or.inl rfl | exact Or.inr rfl | assumption)⟩, ?_⟩
        | refine ⟨fun h => absurd h (by decide), fun _ => ?_⟩
        | refine ⟨fun _ => ?_, fun h => absurd h (by decide)⟩
        | refine ⟨fun h => ?_, fun h => ?_⟩
        | fail)
  · have q1' : ¬ mHd (μ 84 0) (μ 85 0) (nI p) (nI q) nh = -1 := by rw [q1]; exact nI_nem1 (by omega)
    have hv : vp_in (mHd (μ 84 0) (μ 85 0) (nI p) (nI q) nh) 20 := by rw [q1]; exact vp_in_nI (by omega) (by omega)
    have hc : (mHd (μ 84 0) (μ 85 0) (nI p) (nI q) nh).toNatClampNeg = j := by rw [q1]; exact nI_clamp (by omega)
    rcases q2 with ⟨w, q2⟩ | ⟨w, q2⟩
    · rw [q2, if_pos (by decide)] at hK
      have w' : μ 84 0 (mHd (μ 84 0) (μ 85 0) (nI p) (nI q) nh).toNatClampNeg = nI p := by rw [hc]; exact w
      repeat' (first
        | refine c_Mo_handOf g5.2.1 hh20 ?_
        | refine br_f q1' ?_
        | refine bn_f w' ?_
        | exact hK
        | (refine zs k_Mo_first rfl ?_; conv => whnf)
        | refine ⟨Nat.zero_lt_one, rfl, ?_⟩
        | refine ⟨rfl, ?_⟩
        | refine ⟨⟨Nat.zero_lt_one, rfl⟩, Nat.le_of_ble_eq_true rfl, ?_⟩
        | refine ⟨Nat.le_of_ble_eq_true rfl, Nat.le_of_ble_eq_true rfl, ?_⟩
        | refine ⟨(by first | exact Nat.zero_lt_one | assumption | omega), (by first | assumption | exact vp_in_nI (by omega) (by omega) | (unfold vp_in; decide)), ?_⟩
        | refine ⟨(by first | exact Nat.zero_lt_one | assumption | omega), rfl, ?_⟩
        | refine ⟨⟨(by first | exact Nat.zero_lt_one | assumption | omega), rfl⟩, Nat.le_of_ble_eq_true rfl, ?_⟩
        | refine ⟨(by first | exact Nat.zero_lt_one | assumption | omega), ?_⟩
        | refine ⟨Or.inl rfl, ?_⟩
        | refine ⟨Or.inr (Or.inl rfl), ?_⟩
        | refine ⟨Or.inr (Or.inr rfl), ?_⟩
        | refine ⟨Or.inr ⟨rfl, (by first | exact Or.inl rfl | exact Or.inr rfl | assumption)⟩, ?_⟩
        | refine ⟨fun h => absurd h (by decide), fun _ => ?_⟩
        | refine ⟨fun _ => ?_, fun h => absurd h (by decide)⟩
        | refine ⟨fun h => ?_, fun h => ?_⟩
        | fail)
    · rw [q2, if_pos (by decide)] at hK
      have w' : ¬ μ 84 0 (mHd (μ 84 0) (μ 85 0) (nI p) (nI q) nh).toNatClampNeg = nI p := by rw [hc]; exact w
      repeat' (first
        | refine c_Mo_handOf g5.2.1 hh20 ?_
        | refine br_f q1' ?_
        | refine bn_t w' ?_
        | exact hK
        | (refine zs k_Mo_first rfl ?_; conv => whnf)
        | refine ⟨Nat.zero_lt_one, rfl, ?_⟩
        | refine ⟨rfl, ?_⟩
        | refine ⟨⟨Nat.zero_lt_one, rfl⟩, Nat.le_of_ble_eq_true rfl, ?_⟩
        | refine ⟨Nat.le_of_ble_eq_true rfl, Nat.le_of_ble_eq_true rfl, ?_⟩
        | refine ⟨(by first | exact Nat.zero_lt_one | assumption | omega), (by first | assumption | exact vp_in_nI (by omega) (by omega) | (unfold vp_in; decide)), ?_⟩
        | refine ⟨(by first | exact Nat.zero_lt_one | assumption | omega), rfl, ?_⟩
        | refine ⟨⟨(by first | exact Nat.zero_lt_one | assumption | omega), rfl⟩, Nat.le_of_ble_eq_true rfl, ?_⟩
        | refine ⟨(by first | exact Nat.zero_lt_one | assumption | omega), ?_⟩
        | refine ⟨Or.inl rfl, ?_⟩
        | refine ⟨Or.inr (Or.inl rfl), ?_⟩
        | refine ⟨Or.inr (Or.inr rfl), ?_⟩
        | refine ⟨Or.inr ⟨rfl, (by first | exact Or.inl rfl | exact Or.inr rfl | assumption)⟩, ?_⟩
        | refine ⟨fun h => absurd h (by decide), fun _ => ?_⟩
        | refine ⟨fun _ => ?_, fun h => absurd h (by decide)⟩
        | refine ⟨fun h => ?_, fun h => ?_⟩
        | fail)
