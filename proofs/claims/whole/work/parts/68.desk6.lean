/-! DESK: person -/
def okP (k r y : Int32) : Prop := 0 ≤ k ∧ k ≤ 5 ∧ 0 ≤ r ∧ r ≤ 9 ∧ 0 ≤ y ∧ y ≤ 9999
def pNo (ns n : Nat) (s k o : Int32) : Prop := ¬ (0 ≤ s ∧ s < nI ns) ∨ ((k = 3 ∨ k = 4) ∧ ¬ (0 ≤ o ∧ o < nI n))
def pFit (k4 k o : Int32) : Prop := ((k = 3 ∨ k = 4) ∧ (k4 = 0 ∨ (k = 3 ∧ k4 = 2))) ∨ (¬ (k = 3 ∨ k = 4) ∧ o = 0)
def cPer (μ : zMu) (n : Nat) (s k r y o : Int32) : zMu := zu (zu (cNew μ n s k r y o) 17 n 0 (cRank (cNew μ n s k r y o) n)) 17 n 1 (cPap (cNew μ n s k r y o) n)
theorem c_De_person {d ns n : Nat} {μ : zMu} {s k r y o : Int32} {K : Option zV → zMu → Prop} (hs : μ 1 0 0 = nI ns) (h10 : ns ≤ 10) (hn : μ 1 0 1 = nI n) (h20 : n ≤ 20)
    (h0 : pNo ns n s k o → K (some (zI (-1))) μ)
    (h1 : ¬ pNo ns n s k o → ¬ (okP k r y ∧ pFit (μ 17 o.toNatClampNeg 4) k o) → K (some (zI (-2))) μ)
    (h2 : ¬ pNo ns n s k o → okP k r y → pFit (μ 17 o.toNatClampNeg 4) k o → n = 20 → K (some (zI (-4))) μ)
    (h3 : ¬ pNo ns n s k o → okP k r y → pFit (μ 17 o.toNatClampNeg 4) k o → n < 20 → K (some (zI (nI n))) (cPer μ n s k r y (if k = 3 ∨ k = 4 then o else -1))) : Ct (d + 6) m_De_person [zR 0 0, zI s, zI k, zI r, zI y, zI o] μ K := by
  refine zmeet rfl (Nat.le_of_ble_eq_true rfl) (fun S => ?_)
  rcases zIx s (n := ns) (by omega) with ⟨s', hs', rfl⟩ | hs'
  case inr =>
    have hk := h0 (Or.inl hs')
    repeat' (first
      | refine c_Ro_hasState (fun h h' => absurd (by rw [← hs]; exact ⟨h, h'⟩) hs') (fun _ => ?_)
      | exact hk
      | (refine zs k_De_person rfl ?_; conv => whnf)
      | refine ⟨Nat.zero_lt_one, rfl, ?_⟩
      | refine ⟨rfl, ?_⟩
      | refine ⟨⟨Nat.zero_lt_one, rfl⟩, Nat.le_of_ble_eq_true rfl, ?_⟩
      | refine ⟨Nat.le_of_ble_eq_true rfl, Nat.le_of_ble_eq_true rfl, ?_⟩
      | refine ⟨(by first | exact Nat.zero_lt_one | assumption | omega), (by first | assumption | exact vp_in_nI (by omega) (by omega) | (unfold vp_in; decide)), ?_⟩
      | refine ⟨(by first | exact Nat.zero_lt_one | assumption | omega), rfl, ?_⟩
      | refine ⟨⟨(by first | exact Nat.zero_lt_one | assumption | omega), rfl⟩, Nat.le_of_ble_eq_true rfl, ?_⟩
      | refine ⟨(by first | exact Nat.zero_lt_one | assumption | omega), ?_⟩
      | refine ⟨Or.inl rfl, ?_⟩
      | refine ⟨Or.inr (Or.inl rfl), ?_⟩
      | refine ⟨Or.inr (Or.inr rfl), ?_⟩
      | refine ⟨Or.inr ⟨rfl, (by first | exact Or.inl rfl | exact Or.inr rfl | assumption)⟩, ?_⟩
      | refine ⟨fun h => absurd h (by decide), fun _ => ?_⟩
      | refine ⟨fun _ => ?_, fun h => absurd h (by decide)⟩
      | refine ⟨fun h => ?_, fun h => ?_⟩
      | fail)
  have hsy : 0 ≤ nI s' ∧ nI s' < μ 1 0 0 := by rw [hs]; exact zIx_y hs' (by omega)
  have hsv : vp_in (nI s') 10 := vp_in_nI (by omega) (by omega)
  have hcl : (μ 1 0 1).toNatClampNeg = n := by rw [hn]; exact nI_clamp (by omega)
  have hlast : ∀ o2 : Int32, n < 20 → (((k = 3 ∨ k = 4) → vp_in o2 20)) → vp_in (μ 1 0 1) 20 ∧ cOf (cNew μ (μ 1 0 1).toNatClampNeg (nI s') k r y o2) (μ 1 0 1).toNatClampNeg := fun o2 h hv => by
    refine ⟨by rw [hn]; exact vp_in_nI h (by omega), fun hk => ?_⟩
    rw [hcl] at *
    have e1 : cNew μ n (nI s') k r y o2 17 n 4 = k := by
      show zu (zu μ 17 n 4 k) 17 n 3 y 17 n 4 = k
      rw [zu_ne (fun q => absurd q.2.1 (by decide)), zu_eq]
    have e2 : cNew μ n (nI s') k r y o2 11 0 n = o2 := by
      show zu μ 11 0 n o2 11 0 n = o2
      rw [zu_eq]
    rw [e1] at hk
    rw [e2]
    exact hv hk
  by_cases hk : k = 3 ∨ k = 4
  case pos =>
    rcases zIx o (n := n) (by omega) with ⟨q, hq, rfl⟩ | ho
    case inr =>
      have hk1 := h0 (Or.inr ⟨hk, ho⟩)
      repeat' (first
        | refine c_Ro_hasState (fun _ _ => ?_) (fun h => absurd hsy h)
        | refine c_Ro_isOfAnother (fun _ => ?_) (fun h => absurd hk h)
        | refine c_Ro_hasPerson (fun h h' => absurd (by rw [← hn]; exact ⟨h, h'⟩) ho) (fun _ => ?_)
        | exact hk1
        | (refine zs k_De_person rfl ?_; conv => whnf)
        | refine ⟨Nat.zero_lt_one, rfl, ?_⟩
        | refine ⟨rfl, ?_⟩
        | refine ⟨⟨Nat.zero_lt_one, rfl⟩, Nat.le_of_ble_eq_true rfl, ?_⟩
        | refine ⟨Nat.le_of_ble_eq_true rfl, Nat.le_of_ble_eq_true rfl, ?_⟩
        | refine ⟨(by first | exact Nat.zero_lt_one | assumption | omega), (by first | assumption | exact vp_in_nI (by omega) (by omega) | (unfold vp_in; decide)), ?_⟩
        | refine ⟨(by first | exact Nat.zero_lt_one | assumption | omega), rfl, ?_⟩
        | refine ⟨⟨(by first | exact Nat.zero_lt_one | assumption | omega), rfl⟩, Nat.le_of_ble_eq_true rfl, ?_⟩
        | refine ⟨(by first | exact Nat.zero_lt_one | assumption | omega), ?_⟩
        | refine ⟨Or.inl rfl, ?_⟩
        | refine ⟨Or.inr (Or.inl rfl), ?_⟩
        | refine ⟨Or.inr (Or.inr rfl), ?_⟩
        | refine ⟨Or.inr ⟨rfl, (by first | exact Or.inl rfl | exact Or.inr rfl | assumption)⟩, ?_⟩
        | refine ⟨fun h => absurd h (by decide), fun _ => ?_⟩
        | refine ⟨fun _ => ?_, fun h => absurd h (by decide)⟩
        | refine ⟨fun h => ?_, fun h => ?_⟩
        | fail)
    have hqy : 0 ≤ nI q ∧ nI q < μ 1 0 1 := by rw [hn]; exact zIx_y hq (by omega)
    have hqv : vp_in (nI q) 20 := vp_in_nI (by omega) (by omega)
    have hno : ¬ pNo ns n (nI s') k (nI q) := fun h => h.elim (fun h => h (zIx_y hs' (by omega))) (fun h => h.2 (zIx_y hq (by omega)))
    by_cases hfit : μ 17 (nI q).toNatClampNeg 4 = 0 ∨ (k = 3 ∧ μ 17 (nI q).toNatClampNeg 4 = 2)
    case neg =>
      have hk1 := h1 hno (fun h => h.2.elim (fun z => hfit z.2) (fun z => z.1 hk))
      repeat' (first
        | refine c_Ro_hasState (fun _ _ => ?_) (fun h => absurd hsy h)
        | refine c_Ro_isOfAnother (fun _ => ?_) (fun h => absurd hk h)
        | refine c_Ro_hasPerson (fun _ _ => ?_) (fun h => absurd hqy h)
        | refine c_Ro_canBeOf hqv (fun h => absurd h hfit) (fun _ => ?_)
        | exact hk1
        | (refine zs k_De_person rfl ?_; conv => whnf)
        | refine ⟨Nat.zero_lt_one, rfl, ?_⟩
        | refine ⟨rfl, ?_⟩
        | refine ⟨⟨Nat.zero_lt_one, rfl⟩, Nat.le_of_ble_eq_true rfl, ?_⟩
        | refine ⟨Nat.le_of_ble_eq_true rfl, Nat.le_of_ble_eq_true rfl, ?_⟩
        | refine ⟨(by first | exact Nat.zero_lt_one | assumption | omega), (by first | assumption | exact vp_in_nI (by omega) (by omega) | (unfold vp_in; decide)), ?_⟩
        | refine ⟨(by first | exact Nat.zero_lt_one | assumption | omega), rfl, ?_⟩
        | refine ⟨⟨(by first | exact Nat.zero_lt_one | assumption | omega), rfl⟩, Nat.le_of_ble_eq_true rfl, ?_⟩
        | refine ⟨(by first | exact Nat.zero_lt_one | assumption | omega), ?_⟩
        | refine ⟨Or.inl rfl, ?_⟩
        | refine ⟨Or.inr (Or.inl rfl), ?_⟩
        | refine ⟨Or.inr (Or.inr rfl), ?_⟩
        | refine ⟨Or.inr ⟨rfl, (by first | exact Or.inl rfl | exact Or.inr rfl | assumption)⟩, ?_⟩
        | refine ⟨fun h => absurd h (by decide), fun _ => ?_⟩
        | refine ⟨fun _ => ?_, fun h => absurd h (by decide)⟩
        | refine ⟨fun h => ?_, fun h => ?_⟩
        | fail)
    by_cases hok : okP k r y
    case neg =>
      have hk1 := h1 hno (fun h => hok h.1)
      repeat' (first
        | refine c_Ro_hasState (fun _ _ => ?_) (fun h => absurd hsy h)
        | refine c_Ro_isOfAnother (fun _ => ?_) (fun h => absurd hk h)
        | refine c_Ro_hasPerson (fun _ _ => ?_) (fun h => absurd hqy h)
        | refine c_Ro_canBeOf hqv (fun _ => ?_) (fun h => absurd hfit h)
        | refine c_Ro_isPersonAsTold (fun h => absurd h hok) (fun _ => ?_)
        | exact hk1
        | (refine zs k_De_person rfl ?_; conv => whnf)
        | refine ⟨Nat.zero_lt_one, rfl, ?_⟩
        | refine ⟨rfl, ?_⟩
        | refine ⟨⟨Nat.zero_lt_one, rfl⟩, Nat.le_of_ble_eq_true rfl, ?_⟩
        | refine ⟨Nat.le_of_ble_eq_true rfl, Nat.le_of_ble_eq_true rfl, ?_⟩
        | refine ⟨(by first | exact Nat.zero_lt_one | assumption | omega), (by first | assumption | exact vp_in_nI (by omega) (by omega) | (unfold vp_in; decide)), ?_⟩
        | refine ⟨(by first | exact Nat.zero_lt_one | assumption | omega), rfl, ?_⟩
        | refine ⟨⟨(by first | exact Nat.zero_lt_one | assumption | omega), rfl⟩, Nat.le_of_ble_eq_true rfl, ?_⟩
        | refine ⟨(by first | exact Nat.zero_lt_one | assumption | omega), ?_⟩
        | refine ⟨Or.inl rfl, ?_⟩
        | refine ⟨Or.inr (Or.inl rfl), ?_⟩
        | refine ⟨Or.inr (Or.inr rfl), ?_⟩
        | refine ⟨Or.inr ⟨rfl, (by first | exact Or.inl rfl | exact Or.inr rfl | assumption)⟩, ?_⟩
        | refine ⟨fun h => absurd h (by decide), fun _ => ?_⟩
        | refine ⟨fun _ => ?_, fun h => absurd h (by decide)⟩
        | refine ⟨fun h => ?_, fun h => ?_⟩
        | fail)
    rcases Nat.lt_or_ge n 20 with hlt | hge
    · have hk1 := h3 hno hok (Or.inl ⟨hk, hfit⟩) hlt
      have hlt' : μ 1 0 1 < 20 := by rw [hn]; exact nI_lt (b := 20) hlt (by omega)
      obtain ⟨hv1, hv2⟩ := hlast (nI q) hlt (fun _ => hqv)
      rw [if_pos hk] at hk1
      repeat' (first
        | refine c_Ro_hasState (fun _ _ => ?_) (fun h => absurd hsy h)
        | refine c_Ro_isOfAnother (fun _ => ?_) (fun h => absurd hk h)
        | refine c_Ro_hasPerson (fun _ _ => ?_) (fun h => absurd hqy h)
        | refine c_Ro_canBeOf hqv (fun _ => ?_) (fun h => absurd hfit h)
        | refine c_Ro_isPersonAsTold (fun _ => ?_) (fun h => absurd hok h)
        | refine br_t hlt' ?_
        | refine c_Ro_addPerson hv1 hsv hv2 ?_
        | exact zKe hk1 hn (by rw [hcl]; rfl)
        | (refine zs k_De_person rfl ?_; conv => whnf)
        | refine ⟨Nat.zero_lt_one, rfl, ?_⟩
        | refine ⟨rfl, ?_⟩
        | refine ⟨⟨Nat.zero_lt_one, rfl⟩, Nat.le_of_ble_eq_true rfl, ?_⟩
        | refine ⟨Nat.le_of_ble_eq_true rfl, Nat.le_of_ble_eq_true rfl, ?_⟩
        | refine ⟨(by first | exact Nat.zero_lt_one | assumption | omega), (by first | assumption | exact vp_in_nI (by omega) (by omega) | (unfold vp_in; decide)), ?_⟩
        | refine ⟨(by first | exact Nat.zero_lt_one | assumption | omega), rfl, ?_⟩
        | refine ⟨⟨(by first | exact Nat.zero_lt_one | assumption | omega), rfl⟩, Nat.le_of_ble_eq_true rfl, ?_⟩
        | refine ⟨(by first | exact Nat.zero_lt_one | assumption | omega), ?_⟩
        | refine ⟨Or.inl rfl, ?_⟩
        | refine ⟨Or.inr (Or.inl rfl), ?_⟩
        | refine ⟨Or.inr (Or.inr rfl), ?_⟩
        | refine ⟨Or.inr ⟨rfl, (by first | exact Or.inl rfl | exact Or.inr rfl | assumption)⟩, ?_⟩
        | refine ⟨fun h => absurd h (by decide), fun _ => ?_⟩
        | refine ⟨fun _ => ?_, fun h => absurd h (by decide)⟩
        | refine ⟨fun h => ?_, fun h => ?_⟩
        | fail)
    · have hk1 := h2 hno hok (Or.inl ⟨hk, hfit⟩) (by omega)
      have hlt' : ¬ μ 1 0 1 < 20 := by rw [hn]; exact nI_nlt (b := 20) hge (by omega)
      repeat' (first
        | refine c_Ro_hasState (fun _ _ => ?_) (fun h => absurd hsy h)
        | refine c_Ro_isOfAnother (fun _ => ?_) (fun h => absurd hk h)
        | refine c_Ro_hasPerson (fun _ _ => ?_) (fun h => absurd hqy h)
        | refine c_Ro_canBeOf hqv (fun _ => ?_) (fun h => absurd hfit h)
        | refine c_Ro_isPersonAsTold (fun _ => ?_) (fun h => absurd hok h)
        | refine br_f hlt' ?_
        | exact hk1
        | (refine zs k_De_person rfl ?_; conv => whnf)
        | refine ⟨Nat.zero_lt_one, rfl, ?_⟩
        | refine ⟨rfl, ?_⟩
        | refine ⟨⟨Nat.zero_lt_one, rfl⟩, Nat.le_of_ble_eq_true rfl, ?_⟩
        | refine ⟨Nat.le_of_ble_eq_true rfl, Nat.le_of_ble_eq_true rfl, ?_⟩
        | refine ⟨(by first | exact Nat.zero_lt_one | assumption | omega), (by first | assumption | exact vp_in_nI (by omega) (by omega) | (unfold vp_in; decide)), ?_⟩
        | refine ⟨(by first | exact Nat.zero_lt_one | assumption | omega), rfl, ?_⟩
        | refine ⟨⟨(by first | exact Nat.zero_lt_one | assumption | omega), rfl⟩, Nat.le_of_ble_eq_true rfl, ?_⟩
        | refine ⟨(by first | exact Nat.zero_lt_one | assumption | omega), ?_⟩
        | refine ⟨Or.inl rfl, ?_⟩
        | refine ⟨Or.inr (Or.inl rfl), ?_⟩
        | refine ⟨Or.inr (Or.inr rfl), ?_⟩
        | refine ⟨Or.inr ⟨rfl, (by first | exact Or.inl rfl | exact Or.inr rfl | assumption)⟩, ?_⟩
        | refine ⟨fun h => absurd h (by decide), fun _ => ?_⟩
        | refine ⟨fun _ => ?_, fun h => absurd h (by decide)⟩
        | refine ⟨fun h => ?_, fun h => ?_⟩
        | fail)
  case neg =>
    have hno : ¬ pNo ns n (nI s') k o := fun h => h.elim (fun h => h (zIx_y hs' (by omega))) (fun h => hk h.1)
    by_cases hfit : o = 0
    case neg =>
      have hk1 := h1 hno (fun h => h.2.elim (fun z => hk z.1) (fun z => hfit z.2))
      repeat' (first
        | refine c_Ro_hasState (fun _ _ => ?_) (fun h => absurd hsy h)
        | refine c_Ro_isOfAnother (fun h => absurd h hk) (fun _ => ?_)
        | refine ⟨fun _ => ?_, fun h => absurd h hfit⟩
        | exact hk1
        | (refine zs k_De_person rfl ?_; conv => whnf)
        | refine ⟨Nat.zero_lt_one, rfl, ?_⟩
        | refine ⟨rfl, ?_⟩
        | refine ⟨⟨Nat.zero_lt_one, rfl⟩, Nat.le_of_ble_eq_true rfl, ?_⟩
        | refine ⟨Nat.le_of_ble_eq_true rfl, Nat.le_of_ble_eq_true rfl, ?_⟩
        | refine ⟨(by first | exact Nat.zero_lt_one | assumption | omega), (by first | assumption | exact vp_in_nI (by omega) (by omega) | (unfold vp_in; decide)), ?_⟩
        | refine ⟨(by first | exact Nat.zero_lt_one | assumption | omega), rfl, ?_⟩
        | refine ⟨⟨(by first | exact Nat.zero_lt_one | assumption | omega), rfl⟩, Nat.le_of_ble_eq_true rfl, ?_⟩
        | refine ⟨(by first | exact Nat.zero_lt_one | assumption | omega), ?_⟩
        | refine ⟨Or.inl rfl, ?_⟩
        | refine ⟨Or.inr (Or.inl rfl), ?_⟩
        | refine ⟨Or.inr (Or.inr rfl), ?_⟩
        | refine ⟨Or.inr ⟨rfl, (by first | exact Or.inl rfl | exact Or.inr rfl | assumption)⟩, ?_⟩
        | refine ⟨fun h => absurd h (by decide), fun _ => ?_⟩
        | refine ⟨fun _ => ?_, fun h => absurd h (by decide)⟩
        | refine ⟨fun h => ?_, fun h => ?_⟩
        | fail)
    by_cases hok : okP k r y
    case neg =>
      have hk1 := h1 hno (fun h => hok h.1)
      repeat' (first
        | refine c_Ro_hasState (fun _ _ => ?_) (fun h => absurd hsy h)
        | refine c_Ro_isOfAnother (fun h => absurd h hk) (fun _ => ?_)
        | refine ⟨fun h => absurd hfit h, fun _ => ?_⟩
        | refine c_Ro_isPersonAsTold (fun h => absurd h hok) (fun _ => ?_)
        | exact hk1
        | (refine zs k_De_person rfl ?_; conv => whnf)
        | refine ⟨Nat.zero_lt_one, rfl, ?_⟩
        | refine ⟨rfl, ?_⟩
        | refine ⟨⟨Nat.zero_lt_one, rfl⟩, Nat.le_of_ble_eq_true rfl, ?_⟩
        | refine ⟨Nat.le_of_ble_eq_true rfl, Nat.le_of_ble_eq_true rfl, ?_⟩
        | refine ⟨(by first | exact Nat.zero_lt_one | assumption | omega), (by first | assumption | exact vp_in_nI (by omega) (by omega) | (unfold vp_in; decide)), ?_⟩
        | refine ⟨(by first | exact Nat.zero_lt_one | assumption | omega), rfl, ?_⟩
        | refine ⟨⟨(by first | exact Nat.zero_lt_one | assumption | omega), rfl⟩, Nat.le_of_ble_eq_true rfl, ?_⟩
        | refine ⟨(by first | exact Nat.zero_lt_one | assumption | omega), ?_⟩
        | refine ⟨Or.inl rfl, ?_⟩
        | refine ⟨Or.inr (Or.inl rfl), ?_⟩
        | refine ⟨Or.inr (Or.inr rfl), ?_⟩
        | refine ⟨Or.inr ⟨rfl, (by first | exact Or.inl rfl | exact Or.inr rfl | assumption)⟩, ?_⟩
        | refine ⟨fun h => absurd h (by decide), fun _ => ?_⟩
        | refine ⟨fun _ => ?_, fun h => absurd h (by decide)⟩
        | refine ⟨fun h => ?_, fun h => ?_⟩
        | fail)
    rcases Nat.lt_or_ge n 20 with hlt | hge
    · have hk1 := h3 hno hok (Or.inr ⟨hk, hfit⟩) hlt
      have hlt' : μ 1 0 1 < 20 := by rw [hn]; exact nI_lt (b := 20) hlt (by omega)
      obtain ⟨hv1, hv2⟩ := hlast (-1) hlt (fun h => absurd h hk)
      rw [if_neg hk] at hk1
      repeat' (first
        | refine c_Ro_hasState (fun _ _ => ?_) (fun h => absurd hsy h)
        | refine c_Ro_isOfAnother (fun h => absurd h hk) (fun _ => ?_)
        | refine ⟨fun h => absurd hfit h, fun _ => ?_⟩
        | refine c_Ro_isPersonAsTold (fun _ => ?_) (fun h => absurd hok h)
        | refine br_t hlt' ?_
        | refine c_Ro_addPerson hv1 hsv hv2 ?_
        | exact zKe hk1 hn (by rw [hcl]; rfl)
        | (refine zs k_De_person rfl ?_; conv => whnf)
        | refine ⟨Nat.zero_lt_one, rfl, ?_⟩
        | refine ⟨rfl, ?_⟩
        | refine ⟨⟨Nat.zero_lt_one, rfl⟩, Nat.le_of_ble_eq_true rfl, ?_⟩
        | refine ⟨Nat.le_of_ble_eq_true rfl, Nat.le_of_ble_eq_true rfl, ?_⟩
        | refine ⟨(by first | exact Nat.zero_lt_one | assumption | omega), (by first | assumption | exact vp_in_nI (by omega) (by omega) | (unfold vp_in; decide)), ?_⟩
        | refine ⟨(by first | exact Nat.zero_lt_one | assumption | omega), rfl, ?_⟩
        | refine ⟨⟨(by first | exact Nat.zero_lt_one | assumption | omega), rfl⟩, Nat.le_of_ble_eq_true rfl, ?_⟩
        | refine ⟨(by first | exact Nat.zero_lt_one | assumption | omega), ?_⟩
        | refine ⟨Or.inl rfl, ?_⟩
        | refine ⟨Or.inr (Or.inl rfl), ?_⟩
        | refine ⟨Or.inr (Or.inr rfl), ?_⟩
        | refine ⟨Or.inr ⟨rfl, (by first | exact Or.inl rfl | exact Or.inr rfl | assumption)⟩, ?_⟩
        | refine ⟨fun h => absurd h (by decide), fun _ => ?_⟩
        | refine ⟨fun _ => ?_, fun h => absurd h (by decide)⟩
        | refine ⟨fun h => ?_, fun h => ?_⟩
        | fail)
    · have hk1 := h2 hno hok (Or.inr ⟨hk, hfit⟩) (by omega)
      have hlt' : ¬ μ 1 0 1 < 20 := by rw [hn]; exact nI_nlt (b := 20) hge (by omega)
      repeat' (first
        | refine c_Ro_hasState (fun _ _ => ?_) (fun h => absurd hsy h)
        | refine c_Ro_isOfAnother (fun h => absurd h hk) (fun _ => ?_)
        | refine ⟨fun h => absurd hfit h, fun _ => ?_⟩
        | refine c_Ro_isPersonAsTold (fun _ => ?_) (fun h => absurd hok h)
        | refine br_f hlt' ?_
        | exact hk1
        | (refine zs k_De_person rfl ?_; conv => whnf)
        | refine ⟨Nat.zero_lt_one, rfl, ?_⟩
        | refine ⟨rfl, ?_⟩
        | refine ⟨⟨Nat.zero_lt_one, rfl⟩, Nat.le_of_ble_eq_true rfl, ?_⟩
        | refine ⟨Nat.le_of_ble_eq_true rfl, Nat.le_of_ble_eq_true rfl, ?_⟩
        | refine ⟨(by first | exact Nat.zero_lt_one | assumption | omega), (by first | assumption | exact vp_in_nI (by omega) (by omega) | (unfold vp_in; decide)), ?_⟩
        | refine ⟨(by first | exact Nat.zero_lt_one | assumption | omega), rfl, ?_⟩
        | refine ⟨⟨(by first | exact Nat.zero_lt_one | assumption | omega), rfl⟩, Nat.le_of_ble_eq_true rfl, ?_⟩
        | refine ⟨(by first | exact Nat.zero_lt_one | assumption | omega), ?_⟩
        | refine ⟨Or.inl rfl, ?_⟩
        | refine ⟨Or.inr (Or.inl rfl), ?_⟩
        | refine ⟨Or.inr (Or.inr rfl), ?_⟩
        | refine ⟨Or.inr ⟨rfl, (by first | exact Or.inl rfl | exact Or.inr rfl | assumption)⟩, ?_⟩
        | refine ⟨fun h => absurd h (by decide), fun _ => ?_⟩
        | refine ⟨fun _ => ?_, fun h => absurd h (by decide)⟩
        | refine ⟨fun h => ?_, fun h => ?_⟩
        | fail)
def mPer (μ : zMu) (n : Nat) (s k r y o : Int32) : zMu := zu (zu (zu (zu (zu (zu (zu (zu μ 56 0 n s) 57 0 n k) 58 0 n r) 59 0 n y) 60 0 n 0) 61 0 n o) 62 0 n 1) 48 0 5 (nI (n + 1))
set_option maxHeartbeats 2000000 in
theorem c_Mo_person_3 {d ns n : Nat} {μ : zMu} {s r y o : Int32} {K : Option zV → zMu → Prop} (hs : μ 48 0 0 = nI ns) (h10 : ns ≤ 10) (hn : μ 48 0 5 = nI n) (h20 : n ≤ 20)
    (h0 : pNo ns n s 3 o → K (some (zI (-1))) μ)
    (h1 : ¬ pNo ns n s 3 o → ¬ (okP 3 r y ∧ pFit (μ 57 0 o.toNatClampNeg) 3 o) → K (some (zI (-2))) μ)
    (h2 : ¬ pNo ns n s 3 o → okP 3 r y → pFit (μ 57 0 o.toNatClampNeg) 3 o → n = 20 → K (some (zI (-4))) μ)
    (h3 : ¬ pNo ns n s 3 o → okP 3 r y → pFit (μ 57 0 o.toNatClampNeg) 3 o → n < 20 → K (some (zI (nI n))) (mPer μ n s 3 r y o)) : Ct (d + 1) m_Mo_person [zR 48 0, zI s, zI 3, zI r, zI y, zI o] μ K := by
  refine zmeet rfl (Nat.le_of_ble_eq_true rfl) (fun S => ?_)
  have hcl : (μ 48 0 5).toNatClampNeg = n := by rw [hn]; exact nI_clamp (by omega)
  have hfin : ∀ o2 : Int32, zu (zu (zu (zu (zu (zu (zu (zu μ 56 0 (μ 48 0 5).toNatClampNeg s) 57 0 (μ 48 0 5).toNatClampNeg 3) 58 0 (μ 48 0 5).toNatClampNeg r) 59 0 (μ 48 0 5).toNatClampNeg y) 60 0 (μ 48 0 5).toNatClampNeg 0) 61 0 (μ 48 0 5).toNatClampNeg o2) 62 0 (μ 48 0 5).toNatClampNeg 1) 48 0 5 (μ 48 0 5 + 1) = mPer μ n s 3 r y o2 := fun o2 => by
    rw [hcl, hn, nI_1]
    rfl
  have hans : μ 48 0 5 + 1 - 1 = nI n := by rw [hn, nI_1, nI_pred]
  have hv : n < 20 → vp_in (μ 48 0 5) 20 := fun h => by rw [hn]; exact vp_in_nI h (by omega)
  have hf20 : n < 20 → ¬ μ 48 0 5 = 20 := fun h => by rw [hn]; exact fun e => absurd ((nI_eq (b := 20) (by omega) (by omega)).mp e) (by omega)
  have hi0 : ∀ v : Int32, (0 ≤ v ∧ v ≤ 5) ∨ ¬ (0 ≤ v ∧ v ≤ 5) := fun v => Classical.em _
  have hk : (3 : Int32) = 3 ∨ (3 : Int32) = 4 := by decide
  by_cases hno : pNo ns n s 3 o
  case pos =>
    have hk1 := h0 hno
    repeat' (first
      | refine c_Mo_isState (fun _ => ?_) (fun _ => ?_)
      | refine c_Mo_isPerson (fun _ => ?_) (fun _ => ?_)
      | exact hk1
      | exact absurd hno (by rw [hs, hn] at *; unfold pNo; grind)
      | (refine zs k_Mo_person rfl ?_; conv => whnf)
      | refine ⟨Nat.zero_lt_one, rfl, ?_⟩
      | refine ⟨rfl, ?_⟩
      | refine ⟨⟨Nat.zero_lt_one, rfl⟩, Nat.le_of_ble_eq_true rfl, ?_⟩
      | refine ⟨Nat.le_of_ble_eq_true rfl, Nat.le_of_ble_eq_true rfl, ?_⟩
      | refine ⟨(by first | exact Nat.zero_lt_one | assumption | omega), (by first | assumption | exact vp_in_nI (by omega) (by omega) | (unfold vp_in; decide)), ?_⟩
      | refine ⟨(by first | exact Nat.zero_lt_one | assumption | omega), rfl, ?_⟩
      | refine ⟨⟨(by first | exact Nat.zero_lt_one | assumption | omega), rfl⟩, Nat.le_of_ble_eq_true rfl, ?_⟩
      | refine ⟨(by first | exact Nat.zero_lt_one | assumption | omega), ?_⟩
      | refine ⟨Or.inl rfl, ?_⟩
      | refine ⟨Or.inr (Or.inl rfl), ?_⟩
      | refine ⟨Or.inr (Or.inr rfl), ?_⟩
      | refine ⟨Or.inr ⟨rfl, (by first | exact Or.inl rfl | exact Or.inr rfl | assumption)⟩, ?_⟩
      | refine ⟨fun h => absurd h (by decide), fun _ => ?_⟩
      | refine ⟨fun _ => ?_, fun h => absurd h (by decide)⟩
      | refine ⟨fun h => ?_, fun h => ?_⟩
      | fail)
  case neg =>
    rcases zIx s (n := ns) (by omega) with ⟨s', hs', rfl⟩ | hs'
    case inr => exact absurd (Or.inl hs') hno
    rcases zIx o (n := n) (by omega) with ⟨q, hq, rfl⟩ | ho
    case inr => exact absurd (Or.inr ⟨hk, ho⟩) hno
    have hsy : 0 ≤ nI s' ∧ nI s' < μ 48 0 0 := by rw [hs]; exact zIx_y hs' (by omega)
    have hqy : 0 ≤ nI q ∧ nI q < μ 48 0 5 := by rw [hn]; exact zIx_y hq (by omega)
    have hqv : vp_in (nI q) 20 := vp_in_nI (by omega) (by omega)
    by_cases hok : okP 3 r y
    case neg =>
      have hk1 := h1 hno (fun h => hok h.1)
      have hok' : ¬ (((0 : Int32) ≤ 3 ∧ (3 : Int32) ≤ 5) ∧ (0 ≤ r ∧ r ≤ 9) ∧ (0 ≤ y ∧ y ≤ 9999)) := fun h => hok ⟨h.1.1, h.1.2, h.2.1.1, h.2.1.2, h.2.2.1, h.2.2.2⟩
      repeat' (first
        | refine c_Mo_isState (fun _ => ?_) (fun h => absurd hsy h)
        | refine c_Mo_isPerson (fun _ => ?_) (fun h => absurd hqy h)
        | refine c_Mo_isIn (lo := 0) (hi := 5) rfl rfl (fun i1 => ?_) (fun i1 => ?_)
        | refine c_Mo_isIn (lo := 0) (hi := 9) rfl rfl (fun i2 => ?_) (fun i2 => ?_)
        | refine c_Mo_isIn (lo := 0) (hi := 9999) rfl rfl (fun i3 => absurd ⟨i1, i2, i3⟩ hok') (fun i3 => ?_)
        | exact hk1
        | (refine zs k_Mo_person rfl ?_; conv => whnf)
        | refine ⟨Nat.zero_lt_one, rfl, ?_⟩
        | refine ⟨rfl, ?_⟩
        | refine ⟨⟨Nat.zero_lt_one, rfl⟩, Nat.le_of_ble_eq_true rfl, ?_⟩
        | refine ⟨Nat.le_of_ble_eq_true rfl, Nat.le_of_ble_eq_true rfl, ?_⟩
        | refine ⟨(by first | exact Nat.zero_lt_one | assumption | omega), (by first | assumption | exact vp_in_nI (by omega) (by omega) | (unfold vp_in; decide)), ?_⟩
        | refine ⟨(by first | exact Nat.zero_lt_one | assumption | omega), rfl, ?_⟩
        | refine ⟨⟨(by first | exact Nat.zero_lt_one | assumption | omega), rfl⟩, Nat.le_of_ble_eq_true rfl, ?_⟩
        | refine ⟨(by first | exact Nat.zero_lt_one | assumption | omega), ?_⟩
        | refine ⟨Or.inl rfl, ?_⟩
        | refine ⟨Or.inr (Or.inl rfl), ?_⟩
        | refine ⟨Or.inr (Or.inr rfl), ?_⟩
        | refine ⟨Or.inr ⟨rfl, (by first | exact Or.inl rfl | exact Or.inr rfl | assumption)⟩, ?_⟩
        | refine ⟨fun h => absurd h (by decide), fun _ => ?_⟩
        | refine ⟨fun _ => ?_, fun h => absurd h (by decide)⟩
        | refine ⟨fun h => ?_, fun h => ?_⟩
        | fail)
    have i1 : ((0 : Int32) ≤ 3 ∧ (3 : Int32) ≤ 5) := ⟨hok.1, hok.2.1⟩
    have i2 : (0 ≤ r ∧ r ≤ 9) := ⟨hok.2.2.1, hok.2.2.2.1⟩
    have i3 : (0 ≤ y ∧ y ≤ 9999) := hok.2.2.2.2
    by_cases hfit : μ 57 0 (nI q).toNatClampNeg = 0 ∨ ((3 : Int32) = 3 ∧ μ 57 0 (nI q).toNatClampNeg = 2)
    case neg =>
      have hk1 := h1 hno (fun h => h.2.elim (fun z => hfit z.2) (fun z => z.1 hk))
      have hf0 : ¬ μ 57 0 (nI q).toNatClampNeg = 0 := fun h => hfit (Or.inl h)
      have hf1 : (3 : Int32) = 3 → ¬ μ 57 0 (nI q).toNatClampNeg = 2 := fun h h' => hfit (Or.inr ⟨h, h'⟩)
      repeat' (first
        | refine c_Mo_isState (fun _ => ?_) (fun h => absurd hsy h)
        | refine c_Mo_isPerson (fun _ => ?_) (fun h => absurd hqy h)
        | refine c_Mo_isIn (lo := 0) (hi := 5) rfl rfl (fun _ => ?_) (fun h => absurd i1 h)
        | refine c_Mo_isIn (lo := 0) (hi := 9) rfl rfl (fun _ => ?_) (fun h => absurd i2 h)
        | refine c_Mo_isIn (lo := 0) (hi := 9999) rfl rfl (fun _ => ?_) (fun h => absurd i3 h)
        | refine br_f hf0 ?_
        | refine ⟨fun _ => ?_, fun h => absurd h (hf1 rfl)⟩
        | exact hk1
        | (refine zs k_Mo_person rfl ?_; conv => whnf)
        | refine ⟨Nat.zero_lt_one, rfl, ?_⟩
        | refine ⟨rfl, ?_⟩
        | refine ⟨⟨Nat.zero_lt_one, rfl⟩, Nat.le_of_ble_eq_true rfl, ?_⟩
        | refine ⟨Nat.le_of_ble_eq_true rfl, Nat.le_of_ble_eq_true rfl, ?_⟩
        | refine ⟨(by first | exact Nat.zero_lt_one | assumption | omega), (by first | assumption | exact vp_in_nI (by omega) (by omega) | (unfold vp_in; decide)), ?_⟩
        | refine ⟨(by first | exact Nat.zero_lt_one | assumption | omega), rfl, ?_⟩
        | refine ⟨⟨(by first | exact Nat.zero_lt_one | assumption | omega), rfl⟩, Nat.le_of_ble_eq_true rfl, ?_⟩
        | refine ⟨(by first | exact Nat.zero_lt_one | assumption | omega), ?_⟩
        | refine ⟨Or.inl rfl, ?_⟩
        | refine ⟨Or.inr (Or.inl rfl), ?_⟩
        | refine ⟨Or.inr (Or.inr rfl), ?_⟩
        | refine ⟨Or.inr ⟨rfl, (by first | exact Or.inl rfl | exact Or.inr rfl | assumption)⟩, ?_⟩
        | refine ⟨fun h => absurd h (by decide), fun _ => ?_⟩
        | refine ⟨fun _ => ?_, fun h => absurd h (by decide)⟩
        | refine ⟨fun h => ?_, fun h => ?_⟩
        | fail)
    rcases Nat.lt_or_ge n 20 with hlt | hge
    · have hk1 := h3 hno hok (Or.inl ⟨hk, hfit⟩) hlt
      have hv1 := hv hlt
      have hf1 := hf20 hlt
      have hff : ∀ h0 : ¬ μ 57 0 (nI q).toNatClampNeg = 0, (3 : Int32) = 3 ∧ μ 57 0 (nI q).toNatClampNeg = 2 := fun h0 => hfit.resolve_left h0
      repeat' (first
        | refine c_Mo_isState (fun _ => ?_) (fun h => absurd hsy h)
        | refine c_Mo_isPerson (fun _ => ?_) (fun h => absurd hqy h)
        | refine c_Mo_isIn (lo := 0) (hi := 5) rfl rfl (fun _ => ?_) (fun h => absurd i1 h)
        | refine c_Mo_isIn (lo := 0) (hi := 9) rfl rfl (fun _ => ?_) (fun h => absurd i2 h)
        | refine c_Mo_isIn (lo := 0) (hi := 9999) rfl rfl (fun _ => ?_) (fun h => absurd i3 h)
        | refine ⟨fun _ => ?_, fun h => absurd h hf1⟩
        | refine ⟨fun h => absurd (hff (by assumption)).1 h, fun _ => ?_⟩
        | refine ⟨fun h => absurd (hff (by assumption)).2 h, fun _ => ?_⟩
        | exact zKe hk1 hans (by exact hfin _)
        | (refine zs k_Mo_person rfl ?_; conv => whnf)
        | refine ⟨Nat.zero_lt_one, rfl, ?_⟩
        | refine ⟨rfl, ?_⟩
        | refine ⟨⟨Nat.zero_lt_one, rfl⟩, Nat.le_of_ble_eq_true rfl, ?_⟩
        | refine ⟨Nat.le_of_ble_eq_true rfl, Nat.le_of_ble_eq_true rfl, ?_⟩
        | refine ⟨(by first | exact Nat.zero_lt_one | assumption | omega), (by first | assumption | exact vp_in_nI (by omega) (by omega) | (unfold vp_in; decide)), ?_⟩
        | refine ⟨(by first | exact Nat.zero_lt_one | assumption | omega), rfl, ?_⟩
        | refine ⟨⟨(by first | exact Nat.zero_lt_one | assumption | omega), rfl⟩, Nat.le_of_ble_eq_true rfl, ?_⟩
        | refine ⟨(by first | exact Nat.zero_lt_one | assumption | omega), ?_⟩
        | refine ⟨Or.inl rfl, ?_⟩
        | refine ⟨Or.inr (Or.inl rfl), ?_⟩
        | refine ⟨Or.inr (Or.inr rfl), ?_⟩
        | refine ⟨Or.inr ⟨rfl, (by first | exact Or.inl rfl | exact Or.inr rfl | assumption)⟩, ?_⟩
        | refine ⟨fun h => absurd h (by decide), fun _ => ?_⟩
        | refine ⟨fun _ => ?_, fun h => absurd h (by decide)⟩
        | refine ⟨fun h => ?_, fun h => ?_⟩
        | fail)
    · have hk1 := h2 hno hok (Or.inl ⟨hk, hfit⟩) (by omega)
      have hf1 : μ 48 0 5 = 20 := by rw [hn, show n = 20 by omega]; rfl
      have hff : ∀ h0 : ¬ μ 57 0 (nI q).toNatClampNeg = 0, (3 : Int32) = 3 ∧ μ 57 0 (nI q).toNatClampNeg = 2 := fun h0 => hfit.resolve_left h0
      repeat' (first
        | refine c_Mo_isState (fun _ => ?_) (fun h => absurd hsy h)
        | refine c_Mo_isPerson (fun _ => ?_) (fun h => absurd hqy h)
        | refine c_Mo_isIn (lo := 0) (hi := 5) rfl rfl (fun _ => ?_) (fun h => absurd i1 h)
        | refine c_Mo_isIn (lo := 0) (hi := 9) rfl rfl (fun _ => ?_) (fun h => absurd i2 h)
        | refine c_Mo_isIn (lo := 0) (hi := 9999) rfl rfl (fun _ => ?_) (fun h => absurd i3 h)
        | refine ⟨fun h => absurd hf1 h, fun _ => ?_⟩
        | refine ⟨fun h => absurd (hff (by assumption)).1 h, fun _ => ?_⟩
        | refine ⟨fun h => absurd (hff (by assumption)).2 h, fun _ => ?_⟩
        | exact hk1
        | (refine zs k_Mo_person rfl ?_; conv => whnf)
        | refine ⟨Nat.zero_lt_one, rfl, ?_⟩
        | refine ⟨rfl, ?_⟩
        | refine ⟨⟨Nat.zero_lt_one, rfl⟩, Nat.le_of_ble_eq_true rfl, ?_⟩
        | refine ⟨Nat.le_of_ble_eq_true rfl, Nat.le_of_ble_eq_true rfl, ?_⟩
        | refine ⟨(by first | exact Nat.zero_lt_one | assumption | omega), (by first | assumption | exact vp_in_nI (by omega) (by omega) | (unfold vp_in; decide)), ?_⟩
        | refine ⟨(by first | exact Nat.zero_lt_one | assumption | omega), rfl, ?_⟩
        | refine ⟨⟨(by first | exact Nat.zero_lt_one | assumption | omega), rfl⟩, Nat.le_of_ble_eq_true rfl, ?_⟩
        | refine ⟨(by first | exact Nat.zero_lt_one | assumption | omega), ?_⟩
        | refine ⟨Or.inl rfl, ?_⟩
        | refine ⟨Or.inr (Or.inl rfl), ?_⟩
        | refine ⟨Or.inr (Or.inr rfl), ?_⟩
        | refine ⟨Or.inr ⟨rfl, (by first | exact Or.inl rfl | exact Or.inr rfl | assumption)⟩, ?_⟩
        | refine ⟨fun h => absurd h (by decide), fun _ => ?_⟩
        | refine ⟨fun _ => ?_, fun h => absurd h (by decide)⟩
        | refine ⟨fun h => ?_, fun h => ?_⟩
        | fail)
set_option maxHeartbeats 2000000 in
theorem c_Mo_person_4 {d ns n : Nat} {μ : zMu} {s r y o : Int32} {K : Option zV → zMu → Prop} (hs : μ 48 0 0 = nI ns) (h10 : ns ≤ 10) (hn : μ 48 0 5 = nI n) (h20 : n ≤ 20)
    (h0 : pNo ns n s 4 o → K (some (zI (-1))) μ)
    (h1 : ¬ pNo ns n s 4 o → ¬ (okP 4 r y ∧ pFit (μ 57 0 o.toNatClampNeg) 4 o) → K (some (zI (-2))) μ)
    (h2 : ¬ pNo ns n s 4 o → okP 4 r y → pFit (μ 57 0 o.toNatClampNeg) 4 o → n = 20 → K (some (zI (-4))) μ)
    (h3 : ¬ pNo ns n s 4 o → okP 4 r y → pFit (μ 57 0 o.toNatClampNeg) 4 o → n < 20 → K (some (zI (nI n))) (mPer μ n s 4 r y o)) : Ct (d + 1) m_Mo_person [zR 48 0, zI s, zI 4, zI r, zI y, zI o] μ K := by
  refine zmeet rfl (Nat.le_of_ble_eq_true rfl) (fun S => ?_)
  have hcl : (μ 48 0 5).toNatClampNeg = n := by rw [hn]; exact nI_clamp (by omega)
  have hfin : ∀ o2 : Int32, zu (zu (zu (zu (zu (zu (zu (zu μ 56 0 (μ 48 0 5).toNatClampNeg s) 57 0 (μ 48 0 5).toNatClampNeg 4) 58 0 (μ 48 0 5).toNatClampNeg r) 59 0 (μ 48 0 5).toNatClampNeg y) 60 0 (μ 48 0 5).toNatClampNeg 0) 61 0 (μ 48 0 5).toNatClampNeg o2) 62 0 (μ 48 0 5).toNatClampNeg 1) 48 0 5 (μ 48 0 5 + 1) = mPer μ n s 4 r y o2 := fun o2 => by
    rw [hcl, hn, nI_1]
    rfl
  have hans : μ 48 0 5 + 1 - 1 = nI n := by rw [hn, nI_1, nI_pred]
  have hv : n < 20 → vp_in (μ 48 0 5) 20 := fun h => by rw [hn]; exact vp_in_nI h (by omega)
  have hf20 : n < 20 → ¬ μ 48 0 5 = 20 := fun h => by rw [hn]; exact fun e => absurd ((nI_eq (b := 20) (by omega) (by omega)).mp e) (by omega)
  have hi0 : ∀ v : Int32, (0 ≤ v ∧ v ≤ 5) ∨ ¬ (0 ≤ v ∧ v ≤ 5) := fun v => Classical.em _
  have hk : (4 : Int32) = 3 ∨ (4 : Int32) = 4 := by decide
  by_cases hno : pNo ns n s 4 o
  case pos =>
    have hk1 := h0 hno
    repeat' (first
      | refine c_Mo_isState (fun _ => ?_) (fun _ => ?_)
      | refine c_Mo_isPerson (fun _ => ?_) (fun _ => ?_)
      | exact hk1
      | exact absurd hno (by rw [hs, hn] at *; unfold pNo; grind)
      | (refine zs k_Mo_person rfl ?_; conv => whnf)
      | refine ⟨Nat.zero_lt_one, rfl, ?_⟩
      | refine ⟨rfl, ?_⟩
      | refine ⟨⟨Nat.zero_lt_one, rfl⟩, Nat.le_of_ble_eq_true rfl, ?_⟩
      | refine ⟨Nat.le_of_ble_eq_true rfl, Nat.le_of_ble_eq_true rfl, ?_⟩
      | refine ⟨(by first | exact Nat.zero_lt_one | assumption | omega), (by first | assumption | exact vp_in_nI (by omega) (by omega) | (unfold vp_in; decide)), ?_⟩
      | refine ⟨(by first | exact Nat.zero_lt_one | assumption | omega), rfl, ?_⟩
      | refine ⟨⟨(by first | exact Nat.zero_lt_one | assumption | omega), rfl⟩, Nat.le_of_ble_eq_true rfl, ?_⟩
      | refine ⟨(by first | exact Nat.zero_lt_one | assumption | omega), ?_⟩
      | refine ⟨Or.inl rfl, ?_⟩
      | refine ⟨Or.inr (Or.inl rfl), ?_⟩
      | refine ⟨Or.inr (Or.inr rfl), ?_⟩
      | refine ⟨Or.inr ⟨rfl, (by first | exact Or.inl rfl | exact Or.inr rfl | assumption)⟩, ?_⟩
      | refine ⟨fun h => absurd h (by decide), fun _ => ?_⟩
      | refine ⟨fun _ => ?_, fun h => absurd h (by decide)⟩
      | refine ⟨fun h => ?_, fun h => ?_⟩
      | fail)
  case neg =>
    rcases zIx s (n := ns) (by omega) with ⟨s', hs', rfl⟩ | hs'
    case inr => exact absurd (Or.inl hs') hno
    rcases zIx o (n := n) (by omega) with ⟨q, hq, rfl⟩ | ho
    case inr => exact absurd (Or.inr ⟨hk, ho⟩) hno
    have hsy : 0 ≤ nI s' ∧ nI s' < μ 48 0 0 := by rw [hs]; exact zIx_y hs' (by omega)
    have hqy : 0 ≤ nI q ∧ nI q < μ 48 0 5 := by rw [hn]; exact zIx_y hq (by omega)
    have hqv : vp_in (nI q) 20 := vp_in_nI (by omega) (by omega)
    by_cases hok : okP 4 r y
    case neg =>
      have hk1 := h1 hno (fun h => hok h.1)
      have hok' : ¬ (((0 : Int32) ≤ 4 ∧ (4 : Int32) ≤ 5) ∧ (0 ≤ r ∧ r ≤ 9) ∧ (0 ≤ y ∧ y ≤ 9999)) := fun h => hok ⟨h.1.1, h.1.2, h.2.1.1, h.2.1.2, h.2.2.1, h.2.2.2⟩
      repeat' (first
        | refine c_Mo_isState (fun _ => ?_) (fun h => absurd hsy h)
        | refine c_Mo_isPerson (fun _ => ?_) (fun h => absurd hqy h)
        | refine c_Mo_isIn (lo := 0) (hi := 5) rfl rfl (fun i1 => ?_) (fun i1 => ?_)
        | refine c_Mo_isIn (lo := 0) (hi := 9) rfl rfl (fun i2 => ?_) (fun i2 => ?_)
        | refine c_Mo_isIn (lo := 0) (hi := 9999) rfl rfl (fun i3 => absurd ⟨i1, i2, i3⟩ hok') (fun i3 => ?_)
        | exact hk1
        | (refine zs k_Mo_person rfl ?_; conv => whnf)
        | refine ⟨Nat.zero_lt_one, rfl, ?_⟩
        | refine ⟨rfl, ?_⟩
        | refine ⟨⟨Nat.zero_lt_one, rfl⟩, Nat.le_of_ble_eq_true rfl, ?_⟩
        | refine ⟨Nat.le_of_ble_eq_true rfl, Nat.le_of_ble_eq_true rfl, ?_⟩
        | refine ⟨(by first | exact Nat.zero_lt_one | assumption | omega), (by first | assumption | exact vp_in_nI (by omega) (by omega) | (unfold vp_in; decide)), ?_⟩
        | refine ⟨(by first | exact Nat.zero_lt_one | assumption | omega), rfl, ?_⟩
        | refine ⟨⟨(by first | exact Nat.zero_lt_one | assumption | omega), rfl⟩, Nat.le_of_ble_eq_true rfl, ?_⟩
        | refine ⟨(by first | exact Nat.zero_lt_one | assumption | omega), ?_⟩
        | refine ⟨Or.inl rfl, ?_⟩
        | refine ⟨Or.inr (Or.inl rfl), ?_⟩
        | refine ⟨Or.inr (Or.inr rfl), ?_⟩
        | refine ⟨Or.inr ⟨rfl, (by first | exact Or.inl rfl | exact Or.inr rfl | assumption)⟩, ?_⟩
        | refine ⟨fun h => absurd h (by decide), fun _ => ?_⟩
        | refine ⟨fun _ => ?_, fun h => absurd h (by decide)⟩
        | refine ⟨fun h => ?_, fun h => ?_⟩
        | fail)
    have i1 : ((0 : Int32) ≤ 4 ∧ (4 : Int32) ≤ 5) := ⟨hok.1, hok.2.1⟩
    have i2 : (0 ≤ r ∧ r ≤ 9) := ⟨hok.2.2.1, hok.2.2.2.1⟩
    have i3 : (0 ≤ y ∧ y ≤ 9999) := hok.2.2.2.2
    by_cases hfit : μ 57 0 (nI q).toNatClampNeg = 0 ∨ ((4 : Int32) = 3 ∧ μ 57 0 (nI q).toNatClampNeg = 2)
    case neg =>
      have hk1 := h1 hno (fun h => h.2.elim (fun z => hfit z.2) (fun z => z.1 hk))
      have hf0 : ¬ μ 57 0 (nI q).toNatClampNeg = 0 := fun h => hfit (Or.inl h)
      have hf1 : (4 : Int32) = 3 → ¬ μ 57 0 (nI q).toNatClampNeg = 2 := fun h h' => hfit (Or.inr ⟨h, h'⟩)
      repeat' (first
        | refine c_Mo_isState (fun _ => ?_) (fun h => absurd hsy h)
        | refine c_Mo_isPerson (fun _ => ?_) (fun h => absurd hqy h)
        | refine c_Mo_isIn (lo := 0) (hi := 5) rfl rfl (fun _ => ?_) (fun h => absurd i1 h)
        | refine c_Mo_isIn (lo := 0) (hi := 9) rfl rfl (fun _ => ?_) (fun h => absurd i2 h)
        | refine c_Mo_isIn (lo := 0) (hi := 9999) rfl rfl (fun _ => ?_) (fun h => absurd i3 h)
        | refine br_f hf0 ?_
        | refine ⟨fun _ => ?_, fun h => absurd h (hf1 rfl)⟩
        | exact hk1
        | (refine zs k_Mo_person rfl ?_; conv => whnf)
        | refine ⟨Nat.zero_lt_one, rfl, ?_⟩
        | refine ⟨rfl, ?_⟩
        | refine ⟨⟨Nat.zero_lt_one, rfl⟩, Nat.le_of_ble_eq_true rfl, ?_⟩
        | refine ⟨Nat.le_of_ble_eq_true rfl, Nat.le_of_ble_eq_true rfl, ?_⟩
        | refine ⟨(by first | exact Nat.zero_lt_one | assumption | omega), (by first | assumption | exact vp_in_nI (by omega) (by omega) | (unfold vp_in; decide)), ?_⟩
        | refine ⟨(by first | exact Nat.zero_lt_one | assumption | omega), rfl, ?_⟩
        | refine ⟨⟨(by first | exact Nat.zero_lt_one | assumption | omega), rfl⟩, Nat.le_of_ble_eq_true rfl, ?_⟩
        | refine ⟨(by first | exact Nat.zero_lt_one | assumption | omega), ?_⟩
        | refine ⟨Or.inl rfl, ?_⟩
        | refine ⟨Or.inr (Or.inl rfl), ?_⟩
        | refine ⟨Or.inr (Or.inr rfl), ?_⟩
        | refine ⟨Or.inr ⟨rfl, (by first | exact Or.inl rfl | exact Or.inr rfl | assumption)⟩, ?_⟩
        | refine ⟨fun h => absurd h (by decide), fun _ => ?_⟩
        | refine ⟨fun _ => ?_, fun h => absurd h (by decide)⟩
        | refine ⟨fun h => ?_, fun h => ?_⟩
        | fail)
    rcases Nat.lt_or_ge n 20 with hlt | hge
    · have hk1 := h3 hno hok (Or.inl ⟨hk, hfit⟩) hlt
      have hv1 := hv hlt
      have hf1 := hf20 hlt
      have hff : ∀ h0 : ¬ μ 57 0 (nI q).toNatClampNeg = 0, (4 : Int32) = 3 ∧ μ 57 0 (nI q).toNatClampNeg = 2 := fun h0 => hfit.resolve_left h0
      repeat' (first
        | refine c_Mo_isState (fun _ => ?_) (fun h => absurd hsy h)
        | refine c_Mo_isPerson (fun _ => ?_) (fun h => absurd hqy h)
        | refine c_Mo_isIn (lo := 0) (hi := 5) rfl rfl (fun _ => ?_) (fun h => absurd i1 h)
        | refine c_Mo_isIn (lo := 0) (hi := 9) rfl rfl (fun _ => ?_) (fun h => absurd i2 h)
        | refine c_Mo_isIn (lo := 0) (hi := 9999) rfl rfl (fun _ => ?_) (fun h => absurd i3 h)
        | refine ⟨fun _ => ?_, fun h => absurd h hf1⟩
        | refine ⟨fun h => absurd (hff (by assumption)).1 h, fun _ => ?_⟩
        | refine ⟨fun h => absurd (hff (by assumption)).2 h, fun _ => ?_⟩
        | exact zKe hk1 hans (by exact hfin _)
        | (refine zs k_Mo_person rfl ?_; conv => whnf)
        | refine ⟨Nat.zero_lt_one, rfl, ?_⟩
        | refine ⟨rfl, ?_⟩
        | refine ⟨⟨Nat.zero_lt_one, rfl⟩, Nat.le_of_ble_eq_true rfl, ?_⟩
        | refine ⟨Nat.le_of_ble_eq_true rfl, Nat.le_of_ble_eq_true rfl, ?_⟩
        | refine ⟨(by first | exact Nat.zero_lt_one | assumption | omega), (by first | assumption | exact vp_in_nI (by omega) (by omega) | (unfold vp_in; decide)), ?_⟩
        | refine ⟨(by first | exact Nat.zero_lt_one | assumption | omega), rfl, ?_⟩
        | refine ⟨⟨(by first | exact Nat.zero_lt_one | assumption | omega), rfl⟩, Nat.le_of_ble_eq_true rfl, ?_⟩
        | refine ⟨(by first | exact Nat.zero_lt_one | assumption | omega), ?_⟩
        | refine ⟨Or.inl rfl, ?_⟩
        | refine ⟨Or.inr (Or.inl rfl), ?_⟩
        | refine ⟨Or.inr (Or.inr rfl), ?_⟩
        | refine ⟨Or.inr ⟨rfl, (by first | exact Or.inl rfl | exact Or.inr rfl | assumption)⟩, ?_⟩
        | refine ⟨fun h => absurd h (by decide), fun _ => ?_⟩
        | refine ⟨fun _ => ?_, fun h => absurd h (by decide)⟩
        | refine ⟨fun h => ?_, fun h => ?_⟩
        | fail)
    · have hk1 := h2 hno hok (Or.inl ⟨hk, hfit⟩) (by omega)
      have hf1 : μ 48 0 5 = 20 := by rw [hn, show n = 20 by omega]; rfl
      have hff : ∀ h0 : ¬ μ 57 0 (nI q).toNatClampNeg = 0, (4 : Int32) = 3 ∧ μ 57 0 (nI q).toNatClampNeg = 2 := fun h0 => hfit.resolve_left h0
      repeat' (first
        | refine c_Mo_isState (fun _ => ?_) (fun h => absurd hsy h)
        | refine c_Mo_isPerson (fun _ => ?_) (fun h => absurd hqy h)
        | refine c_Mo_isIn (lo := 0) (hi := 5) rfl rfl (fun _ => ?_) (fun h => absurd i1 h)
        | refine c_Mo_isIn (lo := 0) (hi := 9) rfl rfl (fun _ => ?_) (fun h => absurd i2 h)
        | refine c_Mo_isIn (lo := 0) (hi := 9999) rfl rfl (fun _ => ?_) (fun h => absurd i3 h)
        | refine ⟨fun h => absurd hf1 h, fun _ => ?_⟩
        | refine ⟨fun h => absurd (hff (by assumption)).1 h, fun _ => ?_⟩
        | refine ⟨fun h => absurd (hff (by assumption)).2 h, fun _ => ?_⟩
        | exact hk1
        | (refine zs k_Mo_person rfl ?_; conv => whnf)
        | refine ⟨Nat.zero_lt_one, rfl, ?_⟩
        | refine ⟨rfl, ?_⟩
        | refine ⟨⟨Nat.zero_lt_one, rfl⟩, Nat.le_of_ble_eq_true rfl, ?_⟩
        | refine ⟨Nat.le_of_ble_eq_true rfl, Nat.le_of_ble_eq_true rfl, ?_⟩
        | refine ⟨(by first | exact Nat.zero_lt_one | assumption | omega), (by first | assumption | exact vp_in_nI (by omega) (by omega) | (unfold vp_in; decide)), ?_⟩
        | refine ⟨(by first | exact Nat.zero_lt_one | assumption | omega), rfl, ?_⟩
        | refine ⟨⟨(by first | exact Nat.zero_lt_one | assumption | omega), rfl⟩, Nat.le_of_ble_eq_true rfl, ?_⟩
        | refine ⟨(by first | exact Nat.zero_lt_one | assumption | omega), ?_⟩
        | refine ⟨Or.inl rfl, ?_⟩
        | refine ⟨Or.inr (Or.inl rfl), ?_⟩
        | refine ⟨Or.inr (Or.inr rfl), ?_⟩
        | refine ⟨Or.inr ⟨rfl, (by first | exact Or.inl rfl | exact Or.inr rfl | assumption)⟩, ?_⟩
        | refine ⟨fun h => absurd h (by decide), fun _ => ?_⟩
        | refine ⟨fun _ => ?_, fun h => absurd h (by decide)⟩
        | refine ⟨fun h => ?_, fun h => ?_⟩
        | fail)
set_option maxHeartbeats 2000000 in
theorem c_Mo_person {d ns n : Nat} {μ : zMu} {s k r y o : Int32} {K : Option zV → zMu → Prop} (hs : μ 48 0 0 = nI ns) (h10 : ns ≤ 10) (hn : μ 48 0 5 = nI n) (h20 : n ≤ 20)
    (h0 : pNo ns n s k o → K (some (zI (-1))) μ)
    (h1 : ¬ pNo ns n s k o → ¬ (okP k r y ∧ pFit (μ 57 0 o.toNatClampNeg) k o) → K (some (zI (-2))) μ)
    (h2 : ¬ pNo ns n s k o → okP k r y → pFit (μ 57 0 o.toNatClampNeg) k o → n = 20 → K (some (zI (-4))) μ)
    (h3 : ¬ pNo ns n s k o → okP k r y → pFit (μ 57 0 o.toNatClampNeg) k o → n < 20 → K (some (zI (nI n))) (mPer μ n s k r y (if k = 3 ∨ k = 4 then o else -1))) : Ct (d + 1) m_Mo_person [zR 48 0, zI s, zI k, zI r, zI y, zI o] μ K := by
  by_cases hk : k = 3 ∨ k = 4
  case pos =>
    rcases hk with rfl | rfl
    · exact c_Mo_person_3 hs h10 hn h20 h0 h1 h2 (fun a b c e => by have := h3 a b c e; rw [if_pos (by decide)] at this; exact this)
    · exact c_Mo_person_4 hs h10 hn h20 h0 h1 h2 (fun a b c e => by have := h3 a b c e; rw [if_pos (by decide)] at this; exact this)
  case neg =>
    refine zmeet rfl (Nat.le_of_ble_eq_true rfl) (fun S => ?_)
    have hcl : (μ 48 0 5).toNatClampNeg = n := by rw [hn]; exact nI_clamp (by omega)
    have hfin : ∀ o2 : Int32, zu (zu (zu (zu (zu (zu (zu (zu μ 56 0 (μ 48 0 5).toNatClampNeg s) 57 0 (μ 48 0 5).toNatClampNeg k) 58 0 (μ 48 0 5).toNatClampNeg r) 59 0 (μ 48 0 5).toNatClampNeg y) 60 0 (μ 48 0 5).toNatClampNeg 0) 61 0 (μ 48 0 5).toNatClampNeg o2) 62 0 (μ 48 0 5).toNatClampNeg 1) 48 0 5 (μ 48 0 5 + 1) = mPer μ n s k r y o2 := fun o2 => by
      rw [hcl, hn, nI_1]
      rfl
    have hans : μ 48 0 5 + 1 - 1 = nI n := by rw [hn, nI_1, nI_pred]
    have hv : n < 20 → vp_in (μ 48 0 5) 20 := fun h => by rw [hn]; exact vp_in_nI h (by omega)
    have hf20 : n < 20 → ¬ μ 48 0 5 = 20 := fun h => by rw [hn]; exact fun e => absurd ((nI_eq (b := 20) (by omega) (by omega)).mp e) (by omega)
    have hi0 : ∀ v : Int32, (0 ≤ v ∧ v ≤ 5) ∨ ¬ (0 ≤ v ∧ v ≤ 5) := fun v => Classical.em _
    have hk3 : ¬ k = 3 := fun h => hk (Or.inl h)
    have hk4 : ¬ k = 4 := fun h => hk (Or.inr h)
    rcases zIx s (n := ns) (by omega) with ⟨s', hs', rfl⟩ | hs'
    case inr =>
      have hk1 := h0 (Or.inl hs')
      repeat' (first
        | refine br_f hk3 ?_
        | refine ⟨fun _ => ?_, fun h => absurd h hk4⟩
        | refine c_Mo_isState (fun h => absurd (by rw [← hs]; exact h) hs') (fun _ => ?_)
        | exact hk1
        | (refine zs k_Mo_person rfl ?_; conv => whnf)
        | refine ⟨Nat.zero_lt_one, rfl, ?_⟩
        | refine ⟨rfl, ?_⟩
        | refine ⟨⟨Nat.zero_lt_one, rfl⟩, Nat.le_of_ble_eq_true rfl, ?_⟩
        | refine ⟨Nat.le_of_ble_eq_true rfl, Nat.le_of_ble_eq_true rfl, ?_⟩
        | refine ⟨(by first | exact Nat.zero_lt_one | assumption | omega), (by first | assumption | exact vp_in_nI (by omega) (by omega) | (unfold vp_in; decide)), ?_⟩
        | refine ⟨(by first | exact Nat.zero_lt_one | assumption | omega), rfl, ?_⟩
        | refine ⟨⟨(by first | exact Nat.zero_lt_one | assumption | omega), rfl⟩, Nat.le_of_ble_eq_true rfl, ?_⟩
        | refine ⟨(by first | exact Nat.zero_lt_one | assumption | omega), ?_⟩
        | refine ⟨Or.inl rfl, ?_⟩
        | refine ⟨Or.inr (Or.inl rfl), ?_⟩
        | refine ⟨Or.inr (Or.inr rfl), ?_⟩
        | refine ⟨Or.inr ⟨rfl, (by first | exact Or.inl rfl | exact Or.inr rfl | assumption)⟩, ?_⟩
        | refine ⟨fun h => absurd h (by decide), fun _ => ?_⟩
        | refine ⟨fun _ => ?_, fun h => absurd h (by decide)⟩
        | refine ⟨fun h => ?_, fun h => ?_⟩
        | fail)
    have hsy : 0 ≤ nI s' ∧ nI s' < μ 48 0 0 := by rw [hs]; exact zIx_y hs' (by omega)
    have hno : ¬ pNo ns n (nI s') k o := fun h => h.elim (fun h => h (zIx_y hs' (by omega))) (fun h => hk h.1)
    by_cases hok : okP k r y
    case neg =>
      have hk1 := h1 hno (fun h => hok h.1)
      have hok' : ¬ ((0 ≤ k ∧ k ≤ 5) ∧ (0 ≤ r ∧ r ≤ 9) ∧ (0 ≤ y ∧ y ≤ 9999)) := fun h => hok ⟨h.1.1, h.1.2, h.2.1.1, h.2.1.2, h.2.2.1, h.2.2.2⟩
      repeat' (first
        | refine br_f hk3 ?_
        | refine ⟨fun _ => ?_, fun h => absurd h hk4⟩
        | refine c_Mo_isState (fun _ => ?_) (fun h => absurd hsy h)
        | refine c_Mo_isIn (lo := 0) (hi := 5) rfl rfl (fun i1 => ?_) (fun i1 => ?_)
        | refine c_Mo_isIn (lo := 0) (hi := 9) rfl rfl (fun i2 => ?_) (fun i2 => ?_)
        | refine c_Mo_isIn (lo := 0) (hi := 9999) rfl rfl (fun i3 => absurd ⟨i1, i2, i3⟩ hok') (fun i3 => ?_)
        | exact hk1
        | (refine zs k_Mo_person rfl ?_; conv => whnf)
        | refine ⟨Nat.zero_lt_one, rfl, ?_⟩
        | refine ⟨rfl, ?_⟩
        | refine ⟨⟨Nat.zero_lt_one, rfl⟩, Nat.le_of_ble_eq_true rfl, ?_⟩
        | refine ⟨Nat.le_of_ble_eq_true rfl, Nat.le_of_ble_eq_true rfl, ?_⟩
        | refine ⟨(by first | exact Nat.zero_lt_one | assumption | omega), (by first | assumption | exact vp_in_nI (by omega) (by omega) | (unfold vp_in; decide)), ?_⟩
        | refine ⟨(by first | exact Nat.zero_lt_one | assumption | omega), rfl, ?_⟩
        | refine ⟨⟨(by first | exact Nat.zero_lt_one | assumption | omega), rfl⟩, Nat.le_of_ble_eq_true rfl, ?_⟩
        | refine ⟨(by first | exact Nat.zero_lt_one | assumption | omega), ?_⟩
        | refine ⟨Or.inl rfl, ?_⟩
        | refine ⟨Or.inr (Or.inl rfl), ?_⟩
        | refine ⟨Or.inr (Or.inr rfl), ?_⟩
        | refine ⟨Or.inr ⟨rfl, (by first | exact Or.inl rfl | exact Or.inr rfl | assumption)⟩, ?_⟩
        | refine ⟨fun h => absurd h (by decide), fun _ => ?_⟩
        | refine ⟨fun _ => ?_, fun h => absurd h (by decide)⟩
        | refine ⟨fun h => ?_, fun h => ?_⟩
        | fail)
    have i1 : (0 ≤ k ∧ k ≤ 5) := ⟨hok.1, hok.2.1⟩
    have i2 : (0 ≤ r ∧ r ≤ 9) := ⟨hok.2.2.1, hok.2.2.2.1⟩
    have i3 : (0 ≤ y ∧ y ≤ 9999) := hok.2.2.2.2
    by_cases hfit : o = 0
    case neg =>
      have hk1 := h1 hno (fun h => h.2.elim (fun z => hk z.1) (fun z => hfit z.2))
      repeat' (first
        | refine br_f hk3 ?_
        | refine ⟨fun _ => ?_, fun h => absurd h hk4⟩
        | refine c_Mo_isState (fun _ => ?_) (fun h => absurd hsy h)
        | refine c_Mo_isIn (lo := 0) (hi := 5) rfl rfl (fun _ => ?_) (fun h => absurd i1 h)
        | refine c_Mo_isIn (lo := 0) (hi := 9) rfl rfl (fun _ => ?_) (fun h => absurd i2 h)
        | refine c_Mo_isIn (lo := 0) (hi := 9999) rfl rfl (fun _ => ?_) (fun h => absurd i3 h)
        | refine ⟨fun _ => ?_, fun h => absurd h hfit⟩
        | exact hk1
        | (refine zs k_Mo_person rfl ?_; conv => whnf)
        | refine ⟨Nat.zero_lt_one, rfl, ?_⟩
        | refine ⟨rfl, ?_⟩
        | refine ⟨⟨Nat.zero_lt_one, rfl⟩, Nat.le_of_ble_eq_true rfl, ?_⟩
        | refine ⟨Nat.le_of_ble_eq_true rfl, Nat.le_of_ble_eq_true rfl, ?_⟩
        | refine ⟨(by first | exact Nat.zero_lt_one | assumption | omega), (by first | assumption | exact vp_in_nI (by omega) (by omega) | (unfold vp_in; decide)), ?_⟩
        | refine ⟨(by first | exact Nat.zero_lt_one | assumption | omega), rfl, ?_⟩
        | refine ⟨⟨(by first | exact Nat.zero_lt_one | assumption | omega), rfl⟩, Nat.le_of_ble_eq_true rfl, ?_⟩
        | refine ⟨(by first | exact Nat.zero_lt_one | assumption | omega), ?_⟩
        | refine ⟨Or.inl rfl, ?_⟩
        | refine ⟨Or.inr (Or.inl rfl), ?_⟩
        | refine ⟨Or.inr (Or.inr rfl), ?_⟩
        | refine ⟨Or.inr ⟨rfl, (by first | exact Or.inl rfl | exact Or.inr rfl | assumption)⟩, ?_⟩
        | refine ⟨fun h => absurd h (by decide), fun _ => ?_⟩
        | refine ⟨fun _ => ?_, fun h => absurd h (by decide)⟩
        | refine ⟨fun h => ?_, fun h => ?_⟩
        | fail)
    rcases Nat.lt_or_ge n 20 with hlt | hge
    · have hk1 := h3 hno hok (Or.inr ⟨hk, hfit⟩) hlt
      rw [if_neg hk] at hk1
      have hv1 := hv hlt
      have hf1 := hf20 hlt
      repeat' (first
        | refine br_f hk3 ?_
        | refine ⟨fun _ => ?_, fun h => absurd h hk4⟩
        | refine c_Mo_isState (fun _ => ?_) (fun h => absurd hsy h)
        | refine c_Mo_isIn (lo := 0) (hi := 5) rfl rfl (fun _ => ?_) (fun h => absurd i1 h)
        | refine c_Mo_isIn (lo := 0) (hi := 9) rfl rfl (fun _ => ?_) (fun h => absurd i2 h)
        | refine c_Mo_isIn (lo := 0) (hi := 9999) rfl rfl (fun _ => ?_) (fun h => absurd i3 h)
        | refine ⟨fun h => absurd hfit h, fun _ => ?_⟩
        | refine ⟨fun _ => ?_, fun h => absurd h hf1⟩
        | exact zKe hk1 hans (by exact hfin _)
        | (refine zs k_Mo_person rfl ?_; conv => whnf)
        | refine ⟨Nat.zero_lt_one, rfl, ?_⟩
        | refine ⟨rfl, ?_⟩
        | refine ⟨⟨Nat.zero_lt_one, rfl⟩, Nat.le_of_ble_eq_true rfl, ?_⟩
        | refine ⟨Nat.le_of_ble_eq_true rfl, Nat.le_of_ble_eq_true rfl, ?_⟩
        | refine ⟨(by first | exact Nat.zero_lt_one | assumption | omega), (by first | assumption | exact vp_in_nI (by omega) (by omega) | (unfold vp_in; decide)), ?_⟩
        | refine ⟨(by first | exact Nat.zero_lt_one | assumption | omega), rfl, ?_⟩
        | refine ⟨⟨(by first | exact Nat.zero_lt_one | assumption | omega), rfl⟩, Nat.le_of_ble_eq_true rfl, ?_⟩
        | refine ⟨(by first | exact Nat.zero_lt_one | assumption | omega), ?_⟩
        | refine ⟨Or.inl rfl, ?_⟩
        | refine ⟨Or.inr (Or.inl rfl), ?_⟩
        | refine ⟨Or.inr (Or.inr rfl), ?_⟩
        | refine ⟨Or.inr ⟨rfl, (by first | exact Or.inl rfl | exact Or.inr rfl | assumption)⟩, ?_⟩
        | refine ⟨fun h => absurd h (by decide), fun _ => ?_⟩
        | refine ⟨fun _ => ?_, fun h => absurd h (by decide)⟩
        | refine ⟨fun h => ?_, fun h => ?_⟩
        | fail)
    · have hk1 := h2 hno hok (Or.inr ⟨hk, hfit⟩) (by omega)
      have hf1 : μ 48 0 5 = 20 := by rw [hn, show n = 20 by omega]; rfl
      repeat' (first
        | refine br_f hk3 ?_
        | refine ⟨fun _ => ?_, fun h => absurd h hk4⟩
        | refine c_Mo_isState (fun _ => ?_) (fun h => absurd hsy h)
        | refine c_Mo_isIn (lo := 0) (hi := 5) rfl rfl (fun _ => ?_) (fun h => absurd i1 h)
        | refine c_Mo_isIn (lo := 0) (hi := 9) rfl rfl (fun _ => ?_) (fun h => absurd i2 h)
        | refine c_Mo_isIn (lo := 0) (hi := 9999) rfl rfl (fun _ => ?_) (fun h => absurd i3 h)
        | refine ⟨fun h => absurd hfit h, fun _ => ?_⟩
        | refine ⟨fun h => absurd hf1 h, fun _ => ?_⟩
        | exact hk1
        | (refine zs k_Mo_person rfl ?_; conv => whnf)
        | refine ⟨Nat.zero_lt_one, rfl, ?_⟩
        | refine ⟨rfl, ?_⟩
        | refine ⟨⟨Nat.zero_lt_one, rfl⟩, Nat.le_of_ble_eq_true rfl, ?_⟩
        | refine ⟨Nat.le_of_ble_eq_true rfl, Nat.le_of_ble_eq_true rfl, ?_⟩
        | refine ⟨(by first | exact Nat.zero_lt_one | assumption | omega), (by first | assumption | exact vp_in_nI (by omega) (by omega) | (unfold vp_in; decide)), ?_⟩
        | refine ⟨(by first | exact Nat.zero_lt_one | assumption | omega), rfl, ?_⟩
        | refine ⟨⟨(by first | exact Nat.zero_lt_one | assumption | omega), rfl⟩, Nat.le_of_ble_eq_true rfl, ?_⟩
        | refine ⟨(by first | exact Nat.zero_lt_one | assumption | omega), ?_⟩
        | refine ⟨Or.inl rfl, ?_⟩
        | refine ⟨Or.inr (Or.inl rfl), ?_⟩
        | refine ⟨Or.inr (Or.inr rfl), ?_⟩
        | refine ⟨Or.inr ⟨rfl, (by first | exact Or.inl rfl | exact Or.inr rfl | assumption)⟩, ?_⟩
        | refine ⟨fun h => absurd h (by decide), fun _ => ?_⟩
        | refine ⟨fun _ => ?_, fun h => absurd h (by decide)⟩
        | refine ⟨fun h => ?_, fun h => ?_⟩
        | fail)
