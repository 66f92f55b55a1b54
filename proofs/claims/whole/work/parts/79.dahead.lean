/-! DESK: ahead, why, quarrel -/
theorem c_De_ahead {d n nr nh ns : Nat} {μ : zMu} {o day x y : Int32} {K : Option zV → zMu → Prop} (g : gPe μ ns n) (g4 : gRu μ nr) (g5 : gHd μ nh) (h0 : ¬ okA n o day x y → K (some (zI (-2))) μ) (h1 : ∀ p q, okA n o day x y → p < n → q < n → p ≠ q → x = nI p → y = nI q → K (some (zI (cLdr μ o day nr nh p q))) μ) : Ct (d + 5) m_De_ahead [zR 0 0, zI o, zI day, zI x, zI y] μ K := by
  refine zmeet rfl (Nat.le_of_ble_eq_true rfl) (fun S => ?_)
  have h20 := g.2.2.1
  by_cases ho : okA n o day x y
  case neg =>
    have hk := h0 ho
    repeat' (first
      | refine c_De_isOccasion (fun i1 => ?_) (fun i1 => ?_)
      | refine c_De_areTwo g.1 (fun i2 => absurd ⟨i1.1, i1.2, i2⟩ ho) (fun i2 => ?_)
      | exact hk
      | (refine zs k_De_ahead rfl ?_; conv => whnf)
      | refine ⟨Nat.zero_lt_one, rfl, ?_⟩
      | refine ⟨rfl, ?_⟩
      | refine ⟨⟨Nat.zero_lt_one, rfl⟩, Nat.le_of_ble_eq_true rfl, ?_⟩
      | refine ⟨Nat.le_of_ble_eq_true rfl, Nat.le_of_ble_eq_true rfl, ?_⟩
      | refine ⟨(by first | exact Nat.zero_lt_one | assumption | omega), (by first | assumption | exact vp_in_nI (by omega) (by omega) | (unfold vp_in; decide)), ?_⟩
      | refine ⟨(by first | exact Nat.zero_lt_one | assumption | omega), rfl, ?_⟩
      | refine ⟨⟨(by first | exact Nat.zero_lt_one | assumption | omega), rfl⟩, Nat.le_of_ble_eq_true rfl, ?_⟩
      | refine ⟨(by first | exact Nat.zero_lt_one | assumption | omega), ?_⟩
      | refine ⟨Or.inl rfl, ?_⟩
      | refine ⟨Or.inr (Or.inl rfl), ?_⟩
      | refine ⟨Or.inr (Or.inr rfl), ?_⟩
      | refine ⟨Or.inr ⟨rfl, (by first | exact Or.inl rfl | exact Or.inr rfl | assumption)⟩, ?_⟩
      | refine ⟨fun h => absurd h (by decide), fun _ => ?_⟩
      | refine ⟨fun _ => ?_, fun h => absurd h (by decide)⟩
      | refine ⟨fun h => ?_, fun h => ?_⟩
      | fail)
  obtain ⟨p, q, hp, hq, hpq, rfl, rfl⟩ := okA_of (by omega) ho
  have hk := h1 p q ho hp hq hpq rfl rfl
  have cp : (nI p).toNatClampNeg = p := nI_clamp (by omega)
  have cq : (nI q).toNatClampNeg = q := nI_clamp (by omega)
  repeat' (first
    | refine c_De_isOccasion (fun i1 => ?_) (fun i1 => absurd ⟨ho.1, ho.2.1⟩ i1)
    | refine c_De_areTwo g.1 (fun i2 => ?_) (fun i2 => absurd ho.2.2 i2)
    | refine c_Bo_leader g4.1 g4.2.2.1 g5.1 g5.2.2.1 (gRu_ok g4) (vp_in_nI (by omega) (by omega)) (vp_in_nI (by omega) (by omega)) ?_
    | exact zKe hk (by rw [cp, cq]; rfl) rfl
    | (refine zs k_De_ahead rfl ?_; conv => whnf)
    | refine ⟨Nat.zero_lt_one, rfl, ?_⟩
    | refine ⟨rfl, ?_⟩
    | refine ⟨⟨Nat.zero_lt_one, rfl⟩, Nat.le_of_ble_eq_true rfl, ?_⟩
    | refine ⟨Nat.le_of_ble_eq_true rfl, Nat.le_of_ble_eq_true rfl, ?_⟩
    | refine ⟨(by first | exact Nat.zero_lt_one | assumption | omega), (by first | assumption | exact vp_in_nI (by omega) (by omega) | (unfold vp_in; decide)), ?_⟩
    | refine ⟨(by first | exact Nat.zero_lt_one | assumption | omega), rfl, ?_⟩
    | refine ⟨⟨(by first | exact Nat.zero_lt_one | assumption | omega), rfl⟩, Nat.le_of_ble_eq_true rfl, ?_⟩
    | refine ⟨(by first | exact Nat.zero_lt_one | assumption | omega), ?_⟩
    | refine ⟨Or.inl rfl, ?_⟩
    | refine ⟨Or.inr (Or.inl rfl), ?_⟩
    | refine ⟨Or.inr (Or.inr rfl), ?_⟩
    | refine ⟨Or.inr ⟨rfl, (by first | exact Or.inl rfl | exact Or.inr rfl | assumption)⟩, ?_⟩
    | refine ⟨fun h => absurd h (by decide), fun _ => ?_⟩
    | refine ⟨fun _ => ?_, fun h => absurd h (by decide)⟩
    | refine ⟨fun h => ?_, fun h => ?_⟩
    | fail)
theorem c_Mo_ahead {d n nr nh ns : Nat} {μ : zMu} {o day x y : Int32} {K : Option zV → zMu → Prop} (g1 : gSt μ ns) (g : gPe μ ns n) (g4 : gRu μ nr) (g5 : gHd μ nh) (h0 : ¬ okA n o day x y → K (some (zI (-2))) μ) (h1 : ∀ p q, okA n o day x y → p < n → q < n → p ≠ q → x = nI p → y = nI q → K (some (zI (cLdr μ o day nr nh p q))) μ) : Ct (d + 7) m_Mo_ahead [zR 48 0, zI o, zI day, zI x, zI y] μ K := by
  refine zmeet rfl (Nat.le_of_ble_eq_true rfl) (fun S => ?_)
  have h20 := g.2.2.1
  by_cases ho : okA n o day x y
  case neg =>
    have hk := h0 ho
    repeat' (first
      | refine c_Mo_isAsked g.2.1 (fun q => absurd q ho) (fun _ => ?_)
      | exact hk
      | (refine zs k_Mo_ahead rfl ?_; conv => whnf)
      | refine ⟨Nat.zero_lt_one, rfl, ?_⟩
      | refine ⟨rfl, ?_⟩
      | refine ⟨⟨Nat.zero_lt_one, rfl⟩, Nat.le_of_ble_eq_true rfl, ?_⟩
      | refine ⟨Nat.le_of_ble_eq_true rfl, Nat.le_of_ble_eq_true rfl, ?_⟩
      | refine ⟨(by first | exact Nat.zero_lt_one | assumption | omega), (by first | assumption | exact vp_in_nI (by omega) (by omega) | (unfold vp_in; decide)), ?_⟩
      | refine ⟨(by first | exact Nat.zero_lt_one | assumption | omega), rfl, ?_⟩
      | refine ⟨⟨(by first | exact Nat.zero_lt_one | assumption | omega), rfl⟩, Nat.le_of_ble_eq_true rfl, ?_⟩
      | refine ⟨(by first | exact Nat.zero_lt_one | assumption | omega), ?_⟩
      | refine ⟨Or.inl rfl, ?_⟩
      | refine ⟨Or.inr (Or.inl rfl), ?_⟩
      | refine ⟨Or.inr (Or.inr rfl), ?_⟩
      | refine ⟨Or.inr ⟨rfl, (by first | exact Or.inl rfl | exact Or.inr rfl | assumption)⟩, ?_⟩
      | refine ⟨fun h => absurd h (by decide), fun _ => ?_⟩
      | refine ⟨fun _ => ?_, fun h => absurd h (by decide)⟩
      | refine ⟨fun h => ?_, fun h => ?_⟩
      | fail)
  obtain ⟨p, q, hp, hq, hpq, rfl, rfl⟩ := okA_of (by omega) ho
  have hk := h1 p q ho hp hq hpq rfl rfl
  repeat' (first
    | refine c_Mo_isAsked g.2.1 (fun _ => ?_) (fun q => absurd ho q)
    | refine c_Mo_first g1 g g4 g5 hp hq hpq rfl rfl ?_
    | exact hk
    | (refine zs k_Mo_ahead rfl ?_; conv => whnf)
    | refine ⟨Nat.zero_lt_one, rfl, ?_⟩
    | refine ⟨rfl, ?_⟩
    | refine ⟨⟨Nat.zero_lt_one, rfl⟩, Nat.le_of_ble_eq_true rfl, ?_⟩
    | refine ⟨Nat.le_of_ble_eq_true rfl, Nat.le_of_ble_eq_true rfl, ?_⟩
    | refine ⟨(by first | exact Nat.zero_lt_one | assumption | omega), (by first | assumption | exact vp_in_nI (by omega) (by omega) | (unfold vp_in; decide)), ?_⟩
    | refine ⟨(by first | exact Nat.zero_lt_one | assumption | omega), rfl, ?_⟩
    | refine ⟨⟨(by first | exact Nat.zero_lt_one | assumption | omega), rfl⟩, Nat.le_of_ble_eq_true rfl, ?_⟩
    | refine ⟨(by first | exact Nat.zero_lt_one | assumption | omega), ?_⟩
    | refine ⟨Or.inl rfl, ?_⟩
    | refine ⟨Or.inr (Or.inl rfl), ?_⟩
    | refine ⟨Or.inr (Or.inr rfl), ?_⟩
    | refine ⟨Or.inr ⟨rfl, (by first | exact Or.inl rfl | exact Or.inr rfl | assumption)⟩, ?_⟩
    | refine ⟨fun h => absurd h (by decide), fun _ => ?_⟩
    | refine ⟨fun _ => ?_, fun h => absurd h (by decide)⟩
    | refine ⟨fun h => ?_, fun h => ?_⟩
    | fail)
theorem b_ahead {μ : zMu} {o day x y : Int32} (h : Rel μ) : Both m_De_ahead m_Mo_ahead [zI o, zI day, zI x, zI y] μ := by
  intro d K hK
  obtain ⟨ns, n, nr, nh, nt, nb, L, g1, g2, g3, g4, g5, g6, g7, g8, g9, g10, g11⟩ := id h
  have h20 := g2.2.2.1
  refine c_De_ahead g2 g4 g5 (fun a => hK _ _ (fun d K2 hK2 => ?_)) (fun p q a hp hq hpq ex ey => hK _ _ (fun d K2 hK2 => ?_))
  · exact c_Mo_ahead g1 g2 g4 g5 (fun _ => hK2 _ h) (fun p q b => absurd b a)
  · subst ex ey
    refine c_Mo_ahead g1 g2 g4 g5 (fun b => absurd a b) (fun p' q' _ hp' hq' _ ex ey => ?_)
    obtain rfl := (nI_eq (by omega) (by omega)).mp ex
    obtain rfl := (nI_eq (by omega) (by omega)).mp ey
    exact hK2 _ h
def cWhy (μ : zMu) (o day : Int32) (nr nh p q : Nat) : Int32 := if pHand (μ 20 0) (μ 21 0) (nI p) (nI q) nh = 0 then pGo (cV μ o day p q) (cOc μ) nr else 100
theorem c_De_why {d n nr nh ns : Nat} {μ : zMu} {o day x y : Int32} {K : Option zV → zMu → Prop} (g : gPe μ ns n) (g4 : gRu μ nr) (g5 : gHd μ nh) (h0 : ¬ okA n o day x y → K (some (zI (-1))) μ) (h1 : ∀ p q, okA n o day x y → p < n → q < n → p ≠ q → x = nI p → y = nI q → K (some (zI (cWhy μ o day nr nh p q))) μ) : Ct (d + 4) m_De_why [zR 0 0, zI o, zI day, zI x, zI y] μ K := by
  refine zmeet rfl (Nat.le_of_ble_eq_true rfl) (fun S => ?_)
  have h20 := g.2.2.1
  by_cases ho : okA n o day x y
  case neg =>
    have hk := h0 ho
    repeat' (first
      | refine c_De_isOccasion (fun i1 => ?_) (fun i1 => ?_)
      | refine c_De_areTwo g.1 (fun i2 => absurd ⟨i1.1, i1.2, i2⟩ ho) (fun i2 => ?_)
      | exact hk
      | (refine zs k_De_why rfl ?_; conv => whnf)
      | refine ⟨Nat.zero_lt_one, rfl, ?_⟩
      | refine ⟨rfl, ?_⟩
      | refine ⟨⟨Nat.zero_lt_one, rfl⟩, Nat.le_of_ble_eq_true rfl, ?_⟩
      | refine ⟨Nat.le_of_ble_eq_true rfl, Nat.le_of_ble_eq_true rfl, ?_⟩
      | refine ⟨(by first | exact Nat.zero_lt_one | assumption | omega), (by first | assumption | exact vp_in_nI (by omega) (by omega) | (unfold vp_in; decide)), ?_⟩
      | refine ⟨(by first | exact Nat.zero_lt_one | assumption | omega), rfl, ?_⟩
      | refine ⟨⟨(by first | exact Nat.zero_lt_one | assumption | omega), rfl⟩, Nat.le_of_ble_eq_true rfl, ?_⟩
      | refine ⟨(by first | exact Nat.zero_lt_one | assumption | omega), ?_⟩
      | refine ⟨Or.inl rfl, ?_⟩
      | refine ⟨Or.inr (Or.inl rfl), ?_⟩
      | refine ⟨Or.inr (Or.inr rfl), ?_⟩
      | refine ⟨Or.inr ⟨rfl, (by first | exact Or.inl rfl | exact Or.inr rfl | assumption)⟩, ?_⟩
      | refine ⟨fun h => absurd h (by decide), fun _ => ?_⟩
      | refine ⟨fun _ => ?_, fun h => absurd h (by decide)⟩
      | refine ⟨fun h => ?_, fun h => ?_⟩
      | fail)
  obtain ⟨p, q, hp, hq, hpq, rfl, rfl⟩ := okA_of (by omega) ho
  have hk := h1 p q ho hp hq hpq rfl rfl
  have cp : (nI p).toNatClampNeg = p := nI_clamp (by omega)
  have cq : (nI q).toNatClampNeg = q := nI_clamp (by omega)
  unfold cWhy at hk
  by_cases hh : pHand (μ 20 0) (μ 21 0) (nI p) (nI q) nh = 0
  · rw [if_pos hh] at hk
    repeat' (first
      | refine c_De_isOccasion (fun i1 => ?_) (fun i1 => absurd ⟨ho.1, ho.2.1⟩ i1)
      | refine c_De_areTwo g.1 (fun i2 => ?_) (fun i2 => absurd ho.2.2 i2)
      | refine c_Bo_toldByHand g5.1 g5.2.2.1 ?_
      | refine br_t hh ?_
      | refine c_Bo_goingRule g4.1 g4.2.2.1 (gRu_ok g4) (vp_in_nI (by omega) (by omega)) (vp_in_nI (by omega) (by omega)) ?_
      | exact zKe hk (by rw [cp, cq]) rfl
      | (refine zs k_De_why rfl ?_; conv => whnf)
      | refine ⟨Nat.zero_lt_one, rfl, ?_⟩
      | refine ⟨rfl, ?_⟩
      | refine ⟨⟨Nat.zero_lt_one, rfl⟩, Nat.le_of_ble_eq_true rfl, ?_⟩
      | refine ⟨Nat.le_of_ble_eq_true rfl, Nat.le_of_ble_eq_true rfl, ?_⟩
      | refine ⟨(by first | exact Nat.zero_lt_one | assumption | omega), (by first | assumption | exact vp_in_nI (by omega) (by omega) | (unfold vp_in; decide)), ?_⟩
      | refine ⟨(by first | exact Nat.zero_lt_one | assumption | omega), rfl, ?_⟩
      | refine ⟨⟨(by first | exact Nat.zero_lt_one | assumption | omega), rfl⟩, Nat.le_of_ble_eq_true rfl, ?_⟩
      | refine ⟨(by first | exact Nat.zero_lt_one | assumption | omega), ?_⟩
      | refine ⟨Or.inl rfl, ?_⟩
      | refine ⟨Or.inr (Or.inl rfl), ?_⟩
      | refine ⟨Or.inr (Or.inr rfl), ?_⟩
      | refine ⟨Or.inr ⟨rfl, (by first | exact Or.inl rfl | exact Or.inr rfl | assumption)⟩, ?_⟩
      | refine ⟨fun h => absurd h (by decide), fun _ => ?_⟩
      | refine ⟨fun _ => ?_, fun h => absurd h (by decide)⟩
      | refine ⟨fun h => ?_, fun h => ?_⟩
      | fail)
  · rw [if_neg hh] at hk
    repeat' (first
      | refine c_De_isOccasion (fun i1 => ?_) (fun i1 => absurd ⟨ho.1, ho.2.1⟩ i1)
      | refine c_De_areTwo g.1 (fun i2 => ?_) (fun i2 => absurd ho.2.2 i2)
      | refine c_Bo_toldByHand g5.1 g5.2.2.1 ?_
      | refine br_f hh ?_
      | exact hk
      | (refine zs k_De_why rfl ?_; conv => whnf)
      | refine ⟨Nat.zero_lt_one, rfl, ?_⟩
      | refine ⟨rfl, ?_⟩
      | refine ⟨⟨Nat.zero_lt_one, rfl⟩, Nat.le_of_ble_eq_true rfl, ?_⟩
      | refine ⟨Nat.le_of_ble_eq_true rfl, Nat.le_of_ble_eq_true rfl, ?_⟩
      | refine ⟨(by first | exact Nat.zero_lt_one | assumption | omega), (by first | assumption | exact vp_in_nI (by omega) (by omega) | (unfold vp_in; decide)), ?_⟩
      | refine ⟨(by first | exact Nat.zero_lt_one | assumption | omega), rfl, ?_⟩
      | refine ⟨⟨(by first | exact Nat.zero_lt_one | assumption | omega), rfl⟩, Nat.le_of_ble_eq_true rfl, ?_⟩
      | refine ⟨(by first | exact Nat.zero_lt_one | assumption | omega), ?_⟩
      | refine ⟨Or.inl rfl, ?_⟩
      | refine ⟨Or.inr (Or.inl rfl), ?_⟩
      | refine ⟨Or.inr (Or.inr rfl), ?_⟩
      | refine ⟨Or.inr ⟨rfl, (by first | exact Or.inl rfl | exact Or.inr rfl | assumption)⟩, ?_⟩
      | refine ⟨fun h => absurd h (by decide), fun _ => ?_⟩
      | refine ⟨fun _ => ?_, fun h => absurd h (by decide)⟩
      | refine ⟨fun h => ?_, fun h => ?_⟩
      | fail)
theorem mHd_0 {μ : zMu} {nh p q : Nat} (g5 : gHd μ nh) (hpq : ¬ nI p = nI q) : mHd (μ 84 0) (μ 85 0) (nI p) (nI q) nh = -1 ↔ pHand (μ 20 0) (μ 21 0) (nI p) (nI q) nh = 0 := by
  have h20 := g5.2.2.1
  rw [← pHand_cg (hx' := μ 84 0) (hy' := μ 85 0) g5.2.2.2]
  rcases mHd_p (hx := μ 84 0) (hy := μ 85 0) hpq nh (by omega) with ⟨q1, q2⟩ | ⟨j, hj, q1, q2⟩
  · rw [q1, q2]
    simp
  · rw [q1]
    constructor
    · intro e
      exact absurd e (nI_nem1 (by omega))
    · intro e
      rcases q2 with ⟨-, q2⟩ | ⟨-, q2⟩
      · exact absurd (q2.symm.trans e) (by decide)
      · exact absurd (q2.symm.trans e) (by decide)
theorem c_Mo_why {d n nr nh ns : Nat} {μ : zMu} {o day x y : Int32} {K : Option zV → zMu → Prop} (g1 : gSt μ ns) (g : gPe μ ns n) (g4 : gRu μ nr) (g5 : gHd μ nh) (h0 : ¬ okA n o day x y → K (some (zI (-1))) μ) (h1 : ∀ p q, okA n o day x y → p < n → q < n → p ≠ q → x = nI p → y = nI q → K (some (zI (cWhy μ o day nr nh p q))) μ) : Ct (d + 6) m_Mo_why [zR 48 0, zI o, zI day, zI x, zI y] μ K := by
  refine zmeet rfl (Nat.le_of_ble_eq_true rfl) (fun S => ?_)
  have h20 := g.2.2.1
  by_cases ho : okA n o day x y
  case neg =>
    have hk := h0 ho
    repeat' (first
      | refine c_Mo_isAsked g.2.1 (fun q => absurd q ho) (fun _ => ?_)
      | exact hk
      | (refine zs k_Mo_why rfl ?_; conv => whnf)
      | refine ⟨Nat.zero_lt_one, rfl, ?_⟩
      | refine ⟨rfl, ?_⟩
      | refine ⟨⟨Nat.zero_lt_one, rfl⟩, Nat.le_of_ble_eq_true rfl, ?_⟩
      | refine ⟨Nat.le_of_ble_eq_true rfl, Nat.le_of_ble_eq_true rfl, ?_⟩
      | refine ⟨(by first | exact Nat.zero_lt_one | assumption | omega), (by first | assumption | exact vp_in_nI (by omega) (by omega) | (unfold vp_in; decide)), ?_⟩
      | refine ⟨(by first | exact Nat.zero_lt_one | assumption | omega), rfl, ?_⟩
      | refine ⟨⟨(by first | exact Nat.zero_lt_one | assumption | omega), rfl⟩, Nat.le_of_ble_eq_true rfl, ?_⟩
      | refine ⟨(by first | exact Nat.zero_lt_one | assumption | omega), ?_⟩
      | refine ⟨Or.inl rfl, ?_⟩
      | refine ⟨Or.inr (Or.inl rfl), ?_⟩
      | refine ⟨Or.inr (Or.inr rfl), ?_⟩
      | refine ⟨Or.inr ⟨rfl, (by first | exact Or.inl rfl | exact Or.inr rfl | assumption)⟩, ?_⟩
      | refine ⟨fun h => absurd h (by decide), fun _ => ?_⟩
      | refine ⟨fun _ => ?_, fun h => absurd h (by decide)⟩
      | refine ⟨fun h => ?_, fun h => ?_⟩
      | fail)
  obtain ⟨p, q, hp, hq, hpq, rfl, rfl⟩ := okA_of (by omega) ho
  have hk := h1 p q ho hp hq hpq rfl rfl
  have hne : ¬ nI p = nI q := fun e => hpq ((nI_eq (by omega) (by omega)).mp e)
  have hm := mHd_0 g5 hne
  unfold cWhy at hk
  by_cases hh : pHand (μ 20 0) (μ 21 0) (nI p) (nI q) nh = 0
  · rw [if_pos hh] at hk
    have hm' := hm.mpr hh
    repeat' (first
      | refine c_Mo_isAsked g.2.1 (fun _ => ?_) (fun q => absurd ho q)
      | refine c_Mo_handOf g5.2.1 g5.2.2.1 ?_
      | refine br_t hm' ?_
      | refine c_Mo_goes g1 g g4 hp hq rfl rfl ?_
      | exact hk
      | (refine zs k_Mo_why rfl ?_; conv => whnf)
      | refine ⟨Nat.zero_lt_one, rfl, ?_⟩
      | refine ⟨rfl, ?_⟩
      | refine ⟨⟨Nat.zero_lt_one, rfl⟩, Nat.le_of_ble_eq_true rfl, ?_⟩
      | refine ⟨Nat.le_of_ble_eq_true rfl, Nat.le_of_ble_eq_true rfl, ?_⟩
      | refine ⟨(by first | exact Nat.zero_lt_one | assumption | omega), (by first | assumption | exact vp_in_nI (by omega) (by omega) | (unfold vp_in; decide)), ?_⟩
      | refine ⟨(by first | exact Nat.zero_lt_one | assumption | omega), rfl, ?_⟩
      | refine ⟨⟨(by first | exact Nat.zero_lt_one | assumption | omega), rfl⟩, Nat.le_of_ble_eq_true rfl, ?_⟩
      | refine ⟨(by first | exact Nat.zero_lt_one | assumption | omega), ?_⟩
      | refine ⟨Or.inl rfl, ?_⟩
      | refine ⟨Or.inr (Or.inl rfl), ?_⟩
      | refine ⟨Or.inr (Or.inr rfl), ?_⟩
      | refine ⟨Or.inr ⟨rfl, (by first | exact Or.inl rfl | exact Or.inr rfl | assumption)⟩, ?_⟩
      | refine ⟨fun h => absurd h (by decide), fun _ => ?_⟩
      | refine ⟨fun _ => ?_, fun h => absurd h (by decide)⟩
      | refine ⟨fun h => ?_, fun h => ?_⟩
      | fail)
  · rw [if_neg hh] at hk
    have hm' : ¬ mHd (μ 84 0) (μ 85 0) (nI p) (nI q) nh = -1 := fun e => hh (hm.mp e)
    repeat' (first
      | refine c_Mo_isAsked g.2.1 (fun _ => ?_) (fun q => absurd ho q)
      | refine c_Mo_handOf g5.2.1 g5.2.2.1 ?_
      | refine br_f hm' ?_
      | exact hk
      | (refine zs k_Mo_why rfl ?_; conv => whnf)
      | refine ⟨Nat.zero_lt_one, rfl, ?_⟩
      | refine ⟨rfl, ?_⟩
      | refine ⟨⟨Nat.zero_lt_one, rfl⟩, Nat.le_of_ble_eq_true rfl, ?_⟩
      | refine ⟨Nat.le_of_ble_eq_true rfl, Nat.le_of_ble_eq_true rfl, ?_⟩
      | refine ⟨(by first | exact Nat.zero_lt_one | assumption | omega), (by first | assumption | exact vp_in_nI (by omega) (by omega) | (unfold vp_in; decide)), ?_⟩
      | refine ⟨(by first | exact Nat.zero_lt_one | assumption | omega), rfl, ?_⟩
      | refine ⟨⟨(by first | exact Nat.zero_lt_one | assumption | omega), rfl⟩, Nat.le_of_ble_eq_true rfl, ?_⟩
      | refine ⟨(by first | exact Nat.zero_lt_one | assumption | omega), ?_⟩
      | refine ⟨Or.inl rfl, ?_⟩
      | refine ⟨Or.inr (Or.inl rfl), ?_⟩
      | refine ⟨Or.inr (Or.inr rfl), ?_⟩
      | refine ⟨Or.inr ⟨rfl, (by first | exact Or.inl rfl | exact Or.inr rfl | assumption)⟩, ?_⟩
      | refine ⟨fun h => absurd h (by decide), fun _ => ?_⟩
      | refine ⟨fun _ => ?_, fun h => absurd h (by decide)⟩
      | refine ⟨fun h => ?_, fun h => ?_⟩
      | fail)
theorem b_why {μ : zMu} {o day x y : Int32} (h : Rel μ) : Both m_De_why m_Mo_why [zI o, zI day, zI x, zI y] μ := by
  intro d K hK
  obtain ⟨ns, n, nr, nh, nt, nb, L, g1, g2, g3, g4, g5, g6, g7, g8, g9, g10, g11⟩ := id h
  have h20 := g2.2.2.1
  refine c_De_why g2 g4 g5 (fun a => hK _ _ (fun d K2 hK2 => ?_)) (fun p q a hp hq hpq ex ey => hK _ _ (fun d K2 hK2 => ?_))
  · exact c_Mo_why g1 g2 g4 g5 (fun _ => hK2 _ h) (fun p q b => absurd b a)
  · subst ex ey
    refine c_Mo_why g1 g2 g4 g5 (fun b => absurd a b) (fun p' q' _ hp' hq' _ ex ey => ?_)
    obtain rfl := (nI_eq (by omega) (by omega)).mp ex
    obtain rfl := (nI_eq (by omega) (by omega)).mp ey
    exact hK2 _ h
def cQu (μ : zMu) (o day : Int32) (nr nh p q : Nat) : Int32 := if pHand (μ 20 0) (μ 21 0) (nI p) (nI q) nh = 0 then (if pGo (cV μ o day p q) (cOc μ) nr = -1 then -1 else pFst (fun r => decide (cV μ o day p q r = -cV μ o day p q (pGo (cV μ o day p q) (cOc μ) nr).toNatClampNeg)) nr) else -1
theorem c_De_quarrel {d n nr nh ns : Nat} {μ : zMu} {o day x y : Int32} {K : Option zV → zMu → Prop} (g : gPe μ ns n) (g4 : gRu μ nr) (g5 : gHd μ nh) (h0 : ¬ okA n o day x y → K (some (zI (-1))) μ) (h1 : ∀ p q, okA n o day x y → p < n → q < n → p ≠ q → x = nI p → y = nI q → K (some (zI (cQu μ o day nr nh p q))) μ) : Ct (d + 5) m_De_quarrel [zR 0 0, zI o, zI day, zI x, zI y] μ K := by
  refine zmeet rfl (Nat.le_of_ble_eq_true rfl) (fun S => ?_)
  have h20 := g.2.2.1
  by_cases ho : okA n o day x y
  case neg =>
    have hk := h0 ho
    repeat' (first
      | refine c_De_isOccasion (fun i1 => ?_) (fun i1 => ?_)
      | refine c_De_areTwo g.1 (fun i2 => absurd ⟨i1.1, i1.2, i2⟩ ho) (fun i2 => ?_)
      | exact hk
      | (refine zs k_De_quarrel rfl ?_; conv => whnf)
      | refine ⟨Nat.zero_lt_one, rfl, ?_⟩
      | refine ⟨rfl, ?_⟩
      | refine ⟨⟨Nat.zero_lt_one, rfl⟩, Nat.le_of_ble_eq_true rfl, ?_⟩
      | refine ⟨Nat.le_of_ble_eq_true rfl, Nat.le_of_ble_eq_true rfl, ?_⟩
      | refine ⟨(by first | exact Nat.zero_lt_one | assumption | omega), (by first | assumption | exact vp_in_nI (by omega) (by omega) | (unfold vp_in; decide)), ?_⟩
      | refine ⟨(by first | exact Nat.zero_lt_one | assumption | omega), rfl, ?_⟩
      | refine ⟨⟨(by first | exact Nat.zero_lt_one | assumption | omega), rfl⟩, Nat.le_of_ble_eq_true rfl, ?_⟩
      | refine ⟨(by first | exact Nat.zero_lt_one | assumption | omega), ?_⟩
      | refine ⟨Or.inl rfl, ?_⟩
      | refine ⟨Or.inr (Or.inl rfl), ?_⟩
      | refine ⟨Or.inr (Or.inr rfl), ?_⟩
      | refine ⟨Or.inr ⟨rfl, (by first | exact Or.inl rfl | exact Or.inr rfl | assumption)⟩, ?_⟩
      | refine ⟨fun h => absurd h (by decide), fun _ => ?_⟩
      | refine ⟨fun _ => ?_, fun h => absurd h (by decide)⟩
      | refine ⟨fun h => ?_, fun h => ?_⟩
      | fail)
  obtain ⟨p, q, hp, hq, hpq, rfl, rfl⟩ := okA_of (by omega) ho
  have hk := h1 p q ho hp hq hpq rfl rfl
  have cp : (nI p).toNatClampNeg = p := nI_clamp (by omega)
  have cq : (nI q).toNatClampNeg = q := nI_clamp (by omega)
  unfold cQu at hk
  by_cases hh : pHand (μ 20 0) (μ 21 0) (nI p) (nI q) nh = 0
  · rw [if_pos hh] at hk
    repeat' (first
      | refine c_De_isOccasion (fun i1 => ?_) (fun i1 => absurd ⟨ho.1, ho.2.1⟩ i1)
      | refine c_De_areTwo g.1 (fun i2 => ?_) (fun i2 => absurd ho.2.2 i2)
      | refine c_Bo_toldByHand g5.1 g5.2.2.1 ?_
      | refine br_t hh ?_
      | refine c_Bo_contraryRule g4.1 g4.2.2.1 (gRu_ok g4) (vp_in_nI (by omega) (by omega)) (vp_in_nI (by omega) (by omega)) (fun G hG => ?_)
      | exact zKe hk (by rw [hG, cp, cq]) rfl
      | (refine zs k_De_quarrel rfl ?_; conv => whnf)
      | refine ⟨Nat.zero_lt_one, rfl, ?_⟩
      | refine ⟨rfl, ?_⟩
      | refine ⟨⟨Nat.zero_lt_one, rfl⟩, Nat.le_of_ble_eq_true rfl, ?_⟩
      | refine ⟨Nat.le_of_ble_eq_true rfl, Nat.le_of_ble_eq_true rfl, ?_⟩
      | refine ⟨(by first | exact Nat.zero_lt_one | assumption | omega), (by first | assumption | exact vp_in_nI (by omega) (by omega) | (unfold vp_in; decide)), ?_⟩
      | refine ⟨(by first | exact Nat.zero_lt_one | assumption | omega), rfl, ?_⟩
      | refine ⟨⟨(by first | exact Nat.zero_lt_one | assumption | omega), rfl⟩, Nat.le_of_ble_eq_true rfl, ?_⟩
      | refine ⟨(by first | exact Nat.zero_lt_one | assumption | omega), ?_⟩
      | refine ⟨Or.inl rfl, ?_⟩
      | refine ⟨Or.inr (Or.inl rfl), ?_⟩
      | refine ⟨Or.inr (Or.inr rfl), ?_⟩
      | refine ⟨Or.inr ⟨rfl, (by first | exact Or.inl rfl | exact Or.inr rfl | assumption)⟩, ?_⟩
      | refine ⟨fun h => absurd h (by decide), fun _ => ?_⟩
      | refine ⟨fun _ => ?_, fun h => absurd h (by decide)⟩
      | refine ⟨fun h => ?_, fun h => ?_⟩
      | fail)
  · rw [if_neg hh] at hk
    repeat' (first
      | refine c_De_isOccasion (fun i1 => ?_) (fun i1 => absurd ⟨ho.1, ho.2.1⟩ i1)
      | refine c_De_areTwo g.1 (fun i2 => ?_) (fun i2 => absurd ho.2.2 i2)
      | refine c_Bo_toldByHand g5.1 g5.2.2.1 ?_
      | refine br_f hh ?_
      | exact hk
      | (refine zs k_De_quarrel rfl ?_; conv => whnf)
      | refine ⟨Nat.zero_lt_one, rfl, ?_⟩
      | refine ⟨rfl, ?_⟩
      | refine ⟨⟨Nat.zero_lt_one, rfl⟩, Nat.le_of_ble_eq_true rfl, ?_⟩
      | refine ⟨Nat.le_of_ble_eq_true rfl, Nat.le_of_ble_eq_true rfl, ?_⟩
      | refine ⟨(by first | exact Nat.zero_lt_one | assumption | omega), (by first | assumption | exact vp_in_nI (by omega) (by omega) | (unfold vp_in; decide)), ?_⟩
      | refine ⟨(by first | exact Nat.zero_lt_one | assumption | omega), rfl, ?_⟩
      | refine ⟨⟨(by first | exact Nat.zero_lt_one | assumption | omega), rfl⟩, Nat.le_of_ble_eq_true rfl, ?_⟩
      | refine ⟨(by first | exact Nat.zero_lt_one | assumption | omega), ?_⟩
      | refine ⟨Or.inl rfl, ?_⟩
      | refine ⟨Or.inr (Or.inl rfl), ?_⟩
      | refine ⟨Or.inr (Or.inr rfl), ?_⟩
      | refine ⟨Or.inr ⟨rfl, (by first | exact Or.inl rfl | exact Or.inr rfl | assumption)⟩, ?_⟩
      | refine ⟨fun h => absurd h (by decide), fun _ => ?_⟩
      | refine ⟨fun _ => ?_, fun h => absurd h (by decide)⟩
      | refine ⟨fun h => ?_, fun h => ?_⟩
      | fail)
theorem cV_neg {a b : Int32} (ha : a = 0 ∨ a = 1 ∨ a = -1) (hb : b = 1 ∨ b = -1) : (0 ≤ a * b ↔ ¬ a = -b) := by
  rcases ha with rfl | rfl | rfl <;> rcases hb with rfl | rfl <;> decide
set_option maxHeartbeats 1000000 in
theorem c_Mo_quarrel {d n nr nh ns : Nat} {μ : zMu} {o day x y : Int32} {K : Option zV → zMu → Prop} (g1 : gSt μ ns) (g : gPe μ ns n) (g4 : gRu μ nr) (g5 : gHd μ nh) (h0 : ¬ okA n o day x y → K (some (zI (-1))) μ) (h1 : ∀ p q, okA n o day x y → p < n → q < n → p ≠ q → x = nI p → y = nI q → K (some (zI (cQu μ o day nr nh p q))) μ) : Ct (d + 6) m_Mo_quarrel [zR 48 0, zI o, zI day, zI x, zI y] μ K := by
  refine zmeet rfl (Nat.le_of_ble_eq_true rfl) (fun S => ?_)
  have h20 := g.2.2.1
  have h16 := g4.2.2.1
  by_cases ho : okA n o day x y
  case neg =>
    have hk := h0 ho
    repeat' (first
      | refine c_Mo_isAsked g.2.1 (fun q => absurd q ho) (fun _ => ?_)
      | exact hk
      | (refine zs k_Mo_quarrel rfl ?_; conv => whnf)
      | refine ⟨Nat.zero_lt_one, rfl, ?_⟩
      | refine ⟨rfl, ?_⟩
      | refine ⟨⟨Nat.zero_lt_one, rfl⟩, Nat.le_of_ble_eq_true rfl, ?_⟩
      | refine ⟨Nat.le_of_ble_eq_true rfl, Nat.le_of_ble_eq_true rfl, ?_⟩
      | refine ⟨(by first | exact Nat.zero_lt_one | assumption | omega), (by first | assumption | exact vp_in_nI (by omega) (by omega) | (unfold vp_in; decide)), ?_⟩
      | refine ⟨(by first | exact Nat.zero_lt_one | assumption | omega), rfl, ?_⟩
      | refine ⟨⟨(by first | exact Nat.zero_lt_one | assumption | omega), rfl⟩, Nat.le_of_ble_eq_true rfl, ?_⟩
      | refine ⟨(by first | exact Nat.zero_lt_one | assumption | omega), ?_⟩
      | refine ⟨Or.inl rfl, ?_⟩
      | refine ⟨Or.inr (Or.inl rfl), ?_⟩
      | refine ⟨Or.inr (Or.inr rfl), ?_⟩
      | refine ⟨Or.inr ⟨rfl, (by first | exact Or.inl rfl | exact Or.inr rfl | assumption)⟩, ?_⟩
      | refine ⟨fun h => absurd h (by decide), fun _ => ?_⟩
      | refine ⟨fun _ => ?_, fun h => absurd h (by decide)⟩
      | refine ⟨fun h => ?_, fun h => ?_⟩
      | fail)
  obtain ⟨p, q, hp, hq, hpq, rfl, rfl⟩ := okA_of (by omega) ho
  have hk := h1 p q ho hp hq hpq rfl rfl
  have hne : ¬ nI p = nI q := fun e => hpq ((nI_eq (by omega) (by omega)).mp e)
  have hm := mHd_0 g5 hne
  have hn := g4.2.1
  unfold cQu at hk
  by_cases hh : pHand (μ 20 0) (μ 21 0) (nI p) (nI q) nh = 0
  case neg =>
    rw [if_neg hh] at hk
    have hm' : ¬ mHd (μ 84 0) (μ 85 0) (nI p) (nI q) nh = -1 := fun e => hh (hm.mp e)
    repeat' (first
      | refine c_Mo_isAsked g.2.1 (fun _ => ?_) (fun q => absurd ho q)
      | refine c_Mo_handOf g5.2.1 g5.2.2.1 ?_
      | refine br_f hm' ?_
      | exact hk
      | (refine zs k_Mo_quarrel rfl ?_; conv => whnf)
      | refine ⟨Nat.zero_lt_one, rfl, ?_⟩
      | refine ⟨rfl, ?_⟩
      | refine ⟨⟨Nat.zero_lt_one, rfl⟩, Nat.le_of_ble_eq_true rfl, ?_⟩
      | refine ⟨Nat.le_of_ble_eq_true rfl, Nat.le_of_ble_eq_true rfl, ?_⟩
      | refine ⟨(by first | exact Nat.zero_lt_one | assumption | omega), (by first | assumption | exact vp_in_nI (by omega) (by omega) | (unfold vp_in; decide)), ?_⟩
      | refine ⟨(by first | exact Nat.zero_lt_one | assumption | omega), rfl, ?_⟩
      | refine ⟨⟨(by first | exact Nat.zero_lt_one | assumption | omega), rfl⟩, Nat.le_of_ble_eq_true rfl, ?_⟩
      | refine ⟨(by first | exact Nat.zero_lt_one | assumption | omega), ?_⟩
      | refine ⟨Or.inl rfl, ?_⟩
      | refine ⟨Or.inr (Or.inl rfl), ?_⟩
      | refine ⟨Or.inr (Or.inr rfl), ?_⟩
      | refine ⟨Or.inr ⟨rfl, (by first | exact Or.inl rfl | exact Or.inr rfl | assumption)⟩, ?_⟩
      | refine ⟨fun h => absurd h (by decide), fun _ => ?_⟩
      | refine ⟨fun _ => ?_, fun h => absurd h (by decide)⟩
      | refine ⟨fun h => ?_, fun h => ?_⟩
      | fail)
  rw [if_pos hh] at hk
  have hm' := hm.mpr hh
  rcases pGo_in (V := cV μ o day p q) (oc := cOc μ) (n := nr) h16 with w | ⟨G, hG, w, wV⟩
  · rw [if_pos w] at hk
    have L0 : ∀ v : Int32, v = 0 → zG S (d + 6) m_Mo_quarrel K 39 [some (zR 48 0), some (zI o), some (zI day), some (zI (nI p)), some (zI (nI q)), some (zI (pGo (cV μ o day p q) (cOc μ) nr)), some (zI v)] [] μ := by
      intro v hv
      subst hv
      refine zs k_Mo_quarrel rfl ?_; conv => whnf
      repeat' (first
        | refine br_t w ?_
        | exact hk
        | (refine zs k_Mo_quarrel rfl ?_; conv => whnf)
        | refine ⟨Nat.zero_lt_one, rfl, ?_⟩
        | refine ⟨rfl, ?_⟩
        | refine ⟨⟨Nat.zero_lt_one, rfl⟩, Nat.le_of_ble_eq_true rfl, ?_⟩
        | refine ⟨Nat.le_of_ble_eq_true rfl, Nat.le_of_ble_eq_true rfl, ?_⟩
        | refine ⟨(by first | exact Nat.zero_lt_one | assumption | omega), (by first | assumption | exact vp_in_nI (by omega) (by omega) | (unfold vp_in; decide)), ?_⟩
        | refine ⟨(by first | exact Nat.zero_lt_one | assumption | omega), rfl, ?_⟩
        | refine ⟨⟨(by first | exact Nat.zero_lt_one | assumption | omega), rfl⟩, Nat.le_of_ble_eq_true rfl, ?_⟩
        | refine ⟨(by first | exact Nat.zero_lt_one | assumption | omega), ?_⟩
        | refine ⟨Or.inl rfl, ?_⟩
        | refine ⟨Or.inr (Or.inl rfl), ?_⟩
        | refine ⟨Or.inr (Or.inr rfl), ?_⟩
        | refine ⟨Or.inr ⟨rfl, (by first | exact Or.inl rfl | exact Or.inr rfl | assumption)⟩, ?_⟩
        | refine ⟨fun h => absurd h (by decide), fun _ => ?_⟩
        | refine ⟨fun _ => ?_, fun h => absurd h (by decide)⟩
        | refine ⟨fun h => ?_, fun h => ?_⟩
        | fail)
    repeat' (first
      | refine c_Mo_isAsked g.2.1 (fun _ => ?_) (fun q => absurd ho q)
      | refine c_Mo_handOf g5.2.1 g5.2.2.1 ?_
      | refine br_t hm' ?_
      | refine c_Mo_goes g1 g g4 hp hq rfl rfl ?_
      | exact L0 _ rfl
      | (refine zs k_Mo_quarrel rfl ?_; conv => whnf)
      | refine ⟨Nat.zero_lt_one, rfl, ?_⟩
      | refine ⟨rfl, ?_⟩
      | refine ⟨⟨Nat.zero_lt_one, rfl⟩, Nat.le_of_ble_eq_true rfl, ?_⟩
      | refine ⟨Nat.le_of_ble_eq_true rfl, Nat.le_of_ble_eq_true rfl, ?_⟩
      | refine ⟨(by first | exact Nat.zero_lt_one | assumption | omega), (by first | assumption | exact vp_in_nI (by omega) (by omega) | (unfold vp_in; decide)), ?_⟩
      | refine ⟨(by first | exact Nat.zero_lt_one | assumption | omega), rfl, ?_⟩
      | refine ⟨⟨(by first | exact Nat.zero_lt_one | assumption | omega), rfl⟩, Nat.le_of_ble_eq_true rfl, ?_⟩
      | refine ⟨(by first | exact Nat.zero_lt_one | assumption | omega), ?_⟩
      | refine ⟨Or.inl rfl, ?_⟩
      | refine ⟨Or.inr (Or.inl rfl), ?_⟩
      | refine ⟨Or.inr (Or.inr rfl), ?_⟩
      | refine ⟨Or.inr ⟨rfl, (by first | exact Or.inl rfl | exact Or.inr rfl | assumption)⟩, ?_⟩
      | refine ⟨fun h => absurd h (by decide), fun _ => ?_⟩
      | refine ⟨fun _ => ?_, fun h => absurd h (by decide)⟩
      | refine ⟨fun h => ?_, fun h => ?_⟩
      | fail)
  · have w' : ¬ pGo (cV μ o day p q) (cOc μ) nr = -1 := by rw [w]; exact nI_nem1 (by omega)
    rw [if_neg w', w, nI_clamp (by omega)] at hk
    have hb : cV μ o day p q G = 1 ∨ cV μ o day p q G = -1 := (pV_c _ _ _ _ _ _).resolve_left wV
    have L : ∀ (k i : Nat) (v : Int32), i + k = nr → v = nI i → (∀ r, r < i → decide (cV μ o day p q r = -cV μ o day p q G) = false) → zG S (d + 6) m_Mo_quarrel K 39 [some (zR 48 0), some (zI o), some (zI day), some (zI (nI p)), some (zI (nI q)), some (zI (pGo (cV μ o day p q) (cOc μ) nr)), some (zI v)] [] μ := by
      intro k
      induction k with
      | zero =>
        intro i v hi hv hz
        subst hv
        obtain rfl : i = nr := by omega
        rw [pFst_none hz] at hk
        refine zs k_Mo_quarrel rfl ?_; conv => whnf
        repeat' (first
          | exact hk
          | (refine zs k_Mo_quarrel rfl ?_; conv => whnf)
          | refine br_t (by simp (disch := omega) only [hn, nI_leI, nI_ltI, nI_eq]; omega) ?_
          | refine br_f (by simp (disch := omega) only [hn, nI_leI, nI_ltI, nI_eq]; omega) ?_
          | refine ⟨Nat.zero_lt_one, rfl, ?_⟩
          | refine ⟨rfl, ?_⟩
          | refine ⟨⟨Nat.zero_lt_one, rfl⟩, Nat.le_of_ble_eq_true rfl, ?_⟩
          | refine ⟨Nat.le_of_ble_eq_true rfl, Nat.le_of_ble_eq_true rfl, ?_⟩
          | refine ⟨(by first | exact Nat.zero_lt_one | assumption | omega), (by first | assumption | exact vp_in_nI (by omega) (by omega) | (unfold vp_in; decide)), ?_⟩
          | refine ⟨(by first | exact Nat.zero_lt_one | assumption | omega), rfl, ?_⟩
          | refine ⟨⟨(by first | exact Nat.zero_lt_one | assumption | omega), rfl⟩, Nat.le_of_ble_eq_true rfl, ?_⟩
          | refine ⟨(by first | exact Nat.zero_lt_one | assumption | omega), ?_⟩
          | refine ⟨Or.inl rfl, ?_⟩
          | refine ⟨Or.inr (Or.inl rfl), ?_⟩
          | refine ⟨Or.inr (Or.inr rfl), ?_⟩
          | refine ⟨Or.inr ⟨rfl, (by first | exact Or.inl rfl | exact Or.inr rfl | assumption)⟩, ?_⟩
          | refine ⟨fun h => absurd h (by decide), fun _ => ?_⟩
          | refine ⟨fun _ => ?_, fun h => absurd h (by decide)⟩
          | refine ⟨fun h => ?_, fun h => ?_⟩
          | fail)
      | succ k ih =>
        intro i v hi hv hz
        subst hv
        have hneg := cV_neg (pV_c (cF μ) (cRu μ i) o day p q) hb
        by_cases hx : cV μ o day p q i = -cV μ o day p q G
        · have hx' : ¬ 0 ≤ pV (cF μ) (cRu μ i) o day p q * pV (cF μ) (cRu μ G) o day p q := fun e => hneg.mp e hx
          rw [pFst_hit hz (by rw [hx]; simp) (by omega) (by omega)] at hk
          refine zs k_Mo_quarrel rfl ?_; conv => whnf
          repeat' (first
            | refine br_f w' ?_
            | refine c_Mo_decided g1 g (by omega) (g4.2.2.2 i (by omega)) hp hq rfl rfl rfl ?_
            | refine c_Mo_decided g1 g (by omega) (g4.2.2.2 G hG) hp hq w rfl rfl ?_
            | refine br_f hx' ?_
            | exact hk
            | (refine zs k_Mo_quarrel rfl ?_; conv => whnf)
            | refine br_t (by simp (disch := omega) only [hn, nI_leI, nI_ltI, nI_eq]; omega) ?_
            | refine br_f (by simp (disch := omega) only [hn, nI_leI, nI_ltI, nI_eq]; omega) ?_
            | refine ⟨Nat.zero_lt_one, rfl, ?_⟩
            | refine ⟨rfl, ?_⟩
            | refine ⟨⟨Nat.zero_lt_one, rfl⟩, Nat.le_of_ble_eq_true rfl, ?_⟩
            | refine ⟨Nat.le_of_ble_eq_true rfl, Nat.le_of_ble_eq_true rfl, ?_⟩
            | refine ⟨(by first | exact Nat.zero_lt_one | assumption | omega), (by first | assumption | exact vp_in_nI (by omega) (by omega) | (unfold vp_in; decide)), ?_⟩
            | refine ⟨(by first | exact Nat.zero_lt_one | assumption | omega), rfl, ?_⟩
            | refine ⟨⟨(by first | exact Nat.zero_lt_one | assumption | omega), rfl⟩, Nat.le_of_ble_eq_true rfl, ?_⟩
            | refine ⟨(by first | exact Nat.zero_lt_one | assumption | omega), ?_⟩
            | refine ⟨Or.inl rfl, ?_⟩
            | refine ⟨Or.inr (Or.inl rfl), ?_⟩
            | refine ⟨Or.inr (Or.inr rfl), ?_⟩
            | refine ⟨Or.inr ⟨rfl, (by first | exact Or.inl rfl | exact Or.inr rfl | assumption)⟩, ?_⟩
            | refine ⟨fun h => absurd h (by decide), fun _ => ?_⟩
            | refine ⟨fun _ => ?_, fun h => absurd h (by decide)⟩
            | refine ⟨fun h => ?_, fun h => ?_⟩
            | fail)
        · have hx' : 0 ≤ pV (cF μ) (cRu μ i) o day p q * pV (cF μ) (cRu μ G) o day p q := hneg.mpr hx
          refine zs k_Mo_quarrel rfl ?_; conv => whnf
          repeat' (first
            | refine br_f w' ?_
            | refine c_Mo_decided g1 g (by omega) (g4.2.2.2 i (by omega)) hp hq rfl rfl rfl ?_
            | refine c_Mo_decided g1 g (by omega) (g4.2.2.2 G hG) hp hq w rfl rfl ?_
            | refine br_t hx' ?_
            | refine ih (i + 1) _ (by omega) (by exact nI_1 i) (lt_s hz (decide_eq_false hx))
            | (refine zs k_Mo_quarrel rfl ?_; conv => whnf)
            | refine br_t (by simp (disch := omega) only [hn, nI_leI, nI_ltI, nI_eq]; omega) ?_
            | refine br_f (by simp (disch := omega) only [hn, nI_leI, nI_ltI, nI_eq]; omega) ?_
            | refine ⟨Nat.zero_lt_one, rfl, ?_⟩
            | refine ⟨rfl, ?_⟩
            | refine ⟨⟨Nat.zero_lt_one, rfl⟩, Nat.le_of_ble_eq_true rfl, ?_⟩
            | refine ⟨Nat.le_of_ble_eq_true rfl, Nat.le_of_ble_eq_true rfl, ?_⟩
            | refine ⟨(by first | exact Nat.zero_lt_one | assumption | omega), (by first | assumption | exact vp_in_nI (by omega) (by omega) | (unfold vp_in; decide)), ?_⟩
            | refine ⟨(by first | exact Nat.zero_lt_one | assumption | omega), rfl, ?_⟩
            | refine ⟨⟨(by first | exact Nat.zero_lt_one | assumption | omega), rfl⟩, Nat.le_of_ble_eq_true rfl, ?_⟩
            | refine ⟨(by first | exact Nat.zero_lt_one | assumption | omega), ?_⟩
            | refine ⟨Or.inl rfl, ?_⟩
            | refine ⟨Or.inr (Or.inl rfl), ?_⟩
            | refine ⟨Or.inr (Or.inr rfl), ?_⟩
            | refine ⟨Or.inr ⟨rfl, (by first | exact Or.inl rfl | exact Or.inr rfl | assumption)⟩, ?_⟩
            | refine ⟨fun h => absurd h (by decide), fun _ => ?_⟩
            | refine ⟨fun _ => ?_, fun h => absurd h (by decide)⟩
            | refine ⟨fun h => ?_, fun h => ?_⟩
            | fail)
    repeat' (first
      | refine c_Mo_isAsked g.2.1 (fun _ => ?_) (fun q => absurd ho q)
      | refine c_Mo_handOf g5.2.1 g5.2.2.1 ?_
      | refine br_t hm' ?_
      | refine c_Mo_goes g1 g g4 hp hq rfl rfl ?_
      | exact L nr 0 _ (by omega) rfl (fun r hr => absurd hr (by omega))
      | (refine zs k_Mo_quarrel rfl ?_; conv => whnf)
      | refine ⟨Nat.zero_lt_one, rfl, ?_⟩
      | refine ⟨rfl, ?_⟩
      | refine ⟨⟨Nat.zero_lt_one, rfl⟩, Nat.le_of_ble_eq_true rfl, ?_⟩
      | refine ⟨Nat.le_of_ble_eq_true rfl, Nat.le_of_ble_eq_true rfl, ?_⟩
      | refine ⟨(by first | exact Nat.zero_lt_one | assumption | omega), (by first | assumption | exact vp_in_nI (by omega) (by omega) | (unfold vp_in; decide)), ?_⟩
      | refine ⟨(by first | exact Nat.zero_lt_one | assumption | omega), rfl, ?_⟩
      | refine ⟨⟨(by first | exact Nat.zero_lt_one | assumption | omega), rfl⟩, Nat.le_of_ble_eq_true rfl, ?_⟩
      | refine ⟨(by first | exact Nat.zero_lt_one | assumption | omega), ?_⟩
      | refine ⟨Or.inl rfl, ?_⟩
      | refine ⟨Or.inr (Or.inl rfl), ?_⟩
      | refine ⟨Or.inr (Or.inr rfl), ?_⟩
      | refine ⟨Or.inr ⟨rfl, (by first | exact Or.inl rfl | exact Or.inr rfl | assumption)⟩, ?_⟩
      | refine ⟨fun h => absurd h (by decide), fun _ => ?_⟩
      | refine ⟨fun _ => ?_, fun h => absurd h (by decide)⟩
      | refine ⟨fun h => ?_, fun h => ?_⟩
      | fail)
theorem b_quarrel {μ : zMu} {o day x y : Int32} (h : Rel μ) : Both m_De_quarrel m_Mo_quarrel [zI o, zI day, zI x, zI y] μ := by
  intro d K hK
  obtain ⟨ns, n, nr, nh, nt, nb, L, g1, g2, g3, g4, g5, g6, g7, g8, g9, g10, g11⟩ := id h
  have h20 := g2.2.2.1
  refine c_De_quarrel g2 g4 g5 (fun a => hK _ _ (fun d K2 hK2 => ?_)) (fun p q a hp hq hpq ex ey => hK _ _ (fun d K2 hK2 => ?_))
  · exact c_Mo_quarrel g1 g2 g4 g5 (fun _ => hK2 _ h) (fun p q b => absurd b a)
  · subst ex ey
    refine c_Mo_quarrel g1 g2 g4 g5 (fun b => absurd a b) (fun p' q' _ hp' hq' _ ex ey => ?_)
    obtain rfl := (nI_eq (by omega) (by omega)).mp ex
    obtain rfl := (nI_eq (by omega) (by omega)).mp ey
    exact hK2 _ h
