/-! DESK: sit -/
theorem c_De_sit {d nt n ns : Nat} {μ : zMu} {x i p : Int32} {K : Option zV → zMu → Prop} (g : gPe μ ns n) (g6 : gTb μ nt n)
    (h0 : ¬ (stOk μ nt x i ∧ (p = -1 ∨ okI n p)) → K (some (zI (-5))) μ)
    (h1 : ∀ q, stOk μ nt x i → q < n → p = nI q → μ 10 0 q = 0 → K (some (zI (-3))) μ)
    (h2 : ∀ t j, stOk μ nt x i → t < nt → x = nI t → i = nI j → p = -1 → ∀ z, z ≤ 12 → μ 9 t 0 = nI z → j < z → K (some (zI (μ 40 t j))) (zu μ 40 t j (-1)))
    (h3 : ∀ t j q, stOk μ nt x i → t < nt → x = nI t → i = nI j → q < n → p = nI q → μ 10 0 q = 1 → ∀ z, z ≤ 12 → μ 9 t 0 = nI z → j < z → K (some (zI (μ 40 t j))) (zu (cOut μ t z (nI q)) 40 t j (nI q))) : Ct (d + 2) m_De_sit [zR 0 0, zI x, zI i, zI p] μ K := by
  refine zmeet rfl (Nat.le_of_ble_eq_true rfl) (fun S => ?_)
  have h4 := g6.2.2.1
  have h20 := g.2.2.1
  have hn := g.1
  by_cases hs : stOk μ nt x i
  case neg =>
    have hk := h0 (fun q => hs q.1)
    repeat' (first
      | refine c_Ha_hasSeat g6.1 h4 (fun t ht hx hi1 hi2 => absurd ⟨t, ht, hx, hi1, hi2⟩ hs) (fun _ => ?_)
      | exact hk
      | (refine zs k_De_sit rfl ?_; conv => whnf)
      | refine ⟨Nat.zero_lt_one, rfl, ?_⟩
      | refine ⟨rfl, ?_⟩
      | refine ⟨⟨Nat.zero_lt_one, rfl⟩, Nat.le_of_ble_eq_true rfl, ?_⟩
      | refine ⟨Nat.le_of_ble_eq_true rfl, Nat.le_of_ble_eq_true rfl, ?_⟩
      | refine ⟨(by first | exact Nat.zero_lt_one | assumption | omega), (by first | assumption | exact vp_in_nI (by omega) (by omega) | (unfold vp_in; decide)), ?_⟩
      | refine ⟨(by first | exact Nat.zero_lt_one | assumption | omega), rfl, ?_⟩
      | refine ⟨⟨(by first | exact Nat.zero_lt_one | assumption | omega), rfl⟩, Nat.le_of_ble_eq_true rfl, ?_⟩
      | refine ⟨(by first | exact Nat.zero_lt_one | assumption | omega), ?_⟩
      | refine ⟨Or.inl rfl, ?_⟩
      | refine ⟨Or.inr (Or.inl rfl), ?_⟩
      | refine ⟨Or.inr (Or.inr rfl), ?_⟩
      | refine ⟨Or.inr ⟨rfl, (by first | exact Or.inl rfl | exact Or.inr rfl | assumption)⟩, ?_⟩
      | refine ⟨fun h => absurd h (by decide), fun _ => ?_⟩
      | refine ⟨fun _ => ?_, fun h => absurd h (by decide)⟩
      | refine ⟨fun h => ?_, fun h => ?_⟩
      | fail)
  obtain ⟨t, j, z, ht, rfl, rfl, hj, hz, e9, e94⟩ := stOk_of g6 hs
  have ct : (nI t).toNatClampNeg = t := nI_clamp (by omega)
  have cj : (nI j).toNatClampNeg = j := nI_clamp (by omega)
  have hvt : vp_in (nI t) 4 := vp_in_nI (by omega) (by omega)
  have hlt : (nI t).toNatClampNeg < 4 := by omega
  have e9' : μ 9 (nI t).toNatClampNeg 0 = nI z := by rw [ct]; exact e9
  have hvj : vp_in (nI j) 12 := vp_in_nI (by omega) (by omega)
  by_cases hp : p = -1
  · subst hp
    have hk := h2 t j hs ht rfl rfl rfl z hz e9 hj
    repeat' (first
      | refine c_Ha_hasSeat g6.1 h4 (fun _ _ _ _ _ => ?_) (fun q => absurd hs q)
      | refine c_Tb_put hlt e9' hz hvj ?_
      | exact zKe hk (by rw [ct, cj]) (by rw [ct, cj, if_pos rfl])
      | (refine zs k_De_sit rfl ?_; conv => whnf)
      | refine ⟨Nat.zero_lt_one, rfl, ?_⟩
      | refine ⟨rfl, ?_⟩
      | refine ⟨⟨Nat.zero_lt_one, rfl⟩, Nat.le_of_ble_eq_true rfl, ?_⟩
      | refine ⟨Nat.le_of_ble_eq_true rfl, Nat.le_of_ble_eq_true rfl, ?_⟩
      | refine ⟨(by first | exact Nat.zero_lt_one | assumption | omega), (by first | assumption | exact vp_in_nI (by omega) (by omega) | (unfold vp_in; decide)), ?_⟩
      | refine ⟨(by first | exact Nat.zero_lt_one | assumption | omega), rfl, ?_⟩
      | refine ⟨⟨(by first | exact Nat.zero_lt_one | assumption | omega), rfl⟩, Nat.le_of_ble_eq_true rfl, ?_⟩
      | refine ⟨(by first | exact Nat.zero_lt_one | assumption | omega), ?_⟩
      | refine ⟨Or.inl rfl, ?_⟩
      | refine ⟨Or.inr (Or.inl rfl), ?_⟩
      | refine ⟨Or.inr (Or.inr rfl), ?_⟩
      | refine ⟨Or.inr ⟨rfl, (by first | exact Or.inl rfl | exact Or.inr rfl | assumption)⟩, ?_⟩
      | refine ⟨fun h => absurd h (by decide), fun _ => ?_⟩
      | refine ⟨fun _ => ?_, fun h => absurd h (by decide)⟩
      | refine ⟨fun h => ?_, fun h => ?_⟩
      | fail)
  rcases zIx p (n := n) (by omega) with ⟨q, hq, rfl⟩ | ho
  case inr =>
    have hk := h0 (fun w => w.2.elim hp ho)
    repeat' (first
      | refine c_Ha_hasSeat g6.1 h4 (fun _ _ _ _ _ => ?_) (fun q => absurd hs q)
      | refine br_f hp ?_
      | refine c_Ro_hasPerson (fun h h' => absurd (by rw [← hn]; exact ⟨h, h'⟩) ho) (fun _ => ?_)
      | exact hk
      | (refine zs k_De_sit rfl ?_; conv => whnf)
      | refine ⟨Nat.zero_lt_one, rfl, ?_⟩
      | refine ⟨rfl, ?_⟩
      | refine ⟨⟨Nat.zero_lt_one, rfl⟩, Nat.le_of_ble_eq_true rfl, ?_⟩
      | refine ⟨Nat.le_of_ble_eq_true rfl, Nat.le_of_ble_eq_true rfl, ?_⟩
      | refine ⟨(by first | exact Nat.zero_lt_one | assumption | omega), (by first | assumption | exact vp_in_nI (by omega) (by omega) | (unfold vp_in; decide)), ?_⟩
      | refine ⟨(by first | exact Nat.zero_lt_one | assumption | omega), rfl, ?_⟩
      | refine ⟨⟨(by first | exact Nat.zero_lt_one | assumption | omega), rfl⟩, Nat.le_of_ble_eq_true rfl, ?_⟩
      | refine ⟨(by first | exact Nat.zero_lt_one | assumption | omega), ?_⟩
      | refine ⟨Or.inl rfl, ?_⟩
      | refine ⟨Or.inr (Or.inl rfl), ?_⟩
      | refine ⟨Or.inr (Or.inr rfl), ?_⟩
      | refine ⟨Or.inr ⟨rfl, (by first | exact Or.inl rfl | exact Or.inr rfl | assumption)⟩, ?_⟩
      | refine ⟨fun h => absurd h (by decide), fun _ => ?_⟩
      | refine ⟨fun _ => ?_, fun h => absurd h (by decide)⟩
      | refine ⟨fun h => ?_, fun h => ?_⟩
      | fail)
  have hy : 0 ≤ nI q ∧ nI q < μ 1 0 1 := by rw [hn]; exact zIx_y hq (by omega)
  have cq : (nI q).toNatClampNeg = q := nI_clamp (by omega)
  rcases (g.2.2.2 q hq).2.1 with h10 | h10
  · have hk := h1 q hs hq rfl h10
    have h10' : μ 10 0 (nI q).toNatClampNeg = 0 := by rw [cq]; exact h10
    repeat' (first
      | refine c_Ha_hasSeat g6.1 h4 (fun _ _ _ _ _ => ?_) (fun q => absurd hs q)
      | refine br_f hp ?_
      | refine c_Ro_hasPerson (fun _ _ => ?_) (fun h => absurd hy h)
      | refine bn_f h10' ?_
      | exact hk
      | (refine zs k_De_sit rfl ?_; conv => whnf)
      | refine ⟨Nat.zero_lt_one, rfl, ?_⟩
      | refine ⟨rfl, ?_⟩
      | refine ⟨⟨Nat.zero_lt_one, rfl⟩, Nat.le_of_ble_eq_true rfl, ?_⟩
      | refine ⟨Nat.le_of_ble_eq_true rfl, Nat.le_of_ble_eq_true rfl, ?_⟩
      | refine ⟨(by first | exact Nat.zero_lt_one | assumption | omega), (by first | assumption | exact vp_in_nI (by omega) (by omega) | (unfold vp_in; decide)), ?_⟩
      | refine ⟨(by first | exact Nat.zero_lt_one | assumption | omega), rfl, ?_⟩
      | refine ⟨⟨(by first | exact Nat.zero_lt_one | assumption | omega), rfl⟩, Nat.le_of_ble_eq_true rfl, ?_⟩
      | refine ⟨(by first | exact Nat.zero_lt_one | assumption | omega), ?_⟩
      | refine ⟨Or.inl rfl, ?_⟩
      | refine ⟨Or.inr (Or.inl rfl), ?_⟩
      | refine ⟨Or.inr (Or.inr rfl), ?_⟩
      | refine ⟨Or.inr ⟨rfl, (by first | exact Or.inl rfl | exact Or.inr rfl | assumption)⟩, ?_⟩
      | refine ⟨fun h => absurd h (by decide), fun _ => ?_⟩
      | refine ⟨fun _ => ?_, fun h => absurd h (by decide)⟩
      | refine ⟨fun h => ?_, fun h => ?_⟩
      | fail)
  · have hk := h3 t j q hs ht rfl rfl hq rfl h10 z hz e9 hj
    have h10' : ¬ μ 10 0 (nI q).toNatClampNeg = 0 := by rw [cq, h10]; decide
    repeat' (first
      | refine c_Ha_hasSeat g6.1 h4 (fun _ _ _ _ _ => ?_) (fun q => absurd hs q)
      | refine br_f hp ?_
      | refine c_Ro_hasPerson (fun _ _ => ?_) (fun h => absurd hy h)
      | refine bn_t h10' ?_
      | refine c_Tb_put hlt e9' hz hvj ?_
      | exact zKe hk (by rw [ct, cj]) (by rw [ct, cj, if_neg hp])
      | (refine zs k_De_sit rfl ?_; conv => whnf)
      | refine ⟨Nat.zero_lt_one, rfl, ?_⟩
      | refine ⟨rfl, ?_⟩
      | refine ⟨⟨Nat.zero_lt_one, rfl⟩, Nat.le_of_ble_eq_true rfl, ?_⟩
      | refine ⟨Nat.le_of_ble_eq_true rfl, Nat.le_of_ble_eq_true rfl, ?_⟩
      | refine ⟨(by first | exact Nat.zero_lt_one | assumption | omega), (by first | assumption | exact vp_in_nI (by omega) (by omega) | (unfold vp_in; decide)), ?_⟩
      | refine ⟨(by first | exact Nat.zero_lt_one | assumption | omega), rfl, ?_⟩
      | refine ⟨⟨(by first | exact Nat.zero_lt_one | assumption | omega), rfl⟩, Nat.le_of_ble_eq_true rfl, ?_⟩
      | refine ⟨(by first | exact Nat.zero_lt_one | assumption | omega), ?_⟩
      | refine ⟨Or.inl rfl, ?_⟩
      | refine ⟨Or.inr (Or.inl rfl), ?_⟩
      | refine ⟨Or.inr (Or.inr rfl), ?_⟩
      | refine ⟨Or.inr ⟨rfl, (by first | exact Or.inl rfl | exact Or.inr rfl | assumption)⟩, ?_⟩
      | refine ⟨fun h => absurd h (by decide), fun _ => ?_⟩
      | refine ⟨fun _ => ?_, fun h => absurd h (by decide)⟩
      | refine ⟨fun h => ?_, fun h => ?_⟩
      | fail)
set_option maxHeartbeats 1000000 in
theorem c_Mo_sit {d nt n ns : Nat} {μ μ0 : zMu} {x i p : Int32} {K : Option zV → zMu → Prop} (e : ∀ f, f ≠ 40 → μ f = μ0 f) (g : gPe μ0 ns n) (g6 : gTb μ0 nt n)
    (h0 : ¬ (stOk μ0 nt x i ∧ (p = -1 ∨ okI n p)) → K (some (zI (-5))) μ)
    (h1 : ∀ q, stOk μ0 nt x i → q < n → p = nI q → μ0 10 0 q = 0 → K (some (zI (-3))) μ)
    (h2 : ∀ t j, stOk μ0 nt x i → t < nt → x = nI t → i = nI j → p = -1 → j < 12 → K (some (zI (μ0 40 t j))) (zu μ 95 0 (12 * t + j) (-1)))
    (h3 : ∀ t j q, stOk μ0 nt x i → t < nt → x = nI t → i = nI j → q < n → p = nI q → μ0 10 0 q = 1 → j < 12 → K (some (zI (μ0 40 t j))) (zu (mOutA μ (nI q) (12 * t) (12 * t + 12)) 95 0 (12 * t + j) (nI q))) : Ct (d + 1) m_Mo_sit [zR 48 0, zI x, zI i, zI p] μ K := by
  refine zmeet rfl (Nat.le_of_ble_eq_true rfl) (fun S => ?_)
  have h4 := g6.2.2.1
  have h20 := g.2.2.1
  have hn : μ 48 0 5 = nI n := by rw [e 48 (by omega)]; exact g.2.1
  have hnt : μ 48 0 42 = nI nt := by rw [e 48 (by omega)]; exact g6.2.1
  by_cases hs : stOk μ0 nt x i
  case neg =>
    have hk := h0 (fun q => hs q.1)
    rcases zIx x (n := nt) (by omega) with ⟨t, ht, rfl⟩ | q
    case inr =>
      have q' : ¬ (0 ≤ x ∧ x < μ 48 0 42) := by rw [hnt]; exact q
      repeat' (first
        | refine c_Mo_isTable (fun h => absurd h q') (fun _ => ?_)
        | exact hk
        | (refine zs k_Mo_sit rfl ?_; conv => whnf)
        | refine ⟨Nat.zero_lt_one, rfl, ?_⟩
        | refine ⟨rfl, ?_⟩
        | refine ⟨⟨Nat.zero_lt_one, rfl⟩, Nat.le_of_ble_eq_true rfl, ?_⟩
        | refine ⟨Nat.le_of_ble_eq_true rfl, Nat.le_of_ble_eq_true rfl, ?_⟩
        | refine ⟨(by first | exact Nat.zero_lt_one | assumption | omega), (by first | assumption | exact vp_in_nI (by omega) (by omega) | (unfold vp_in; decide)), ?_⟩
        | refine ⟨(by first | exact Nat.zero_lt_one | assumption | omega), rfl, ?_⟩
        | refine ⟨⟨(by first | exact Nat.zero_lt_one | assumption | omega), rfl⟩, Nat.le_of_ble_eq_true rfl, ?_⟩
        | refine ⟨(by first | exact Nat.zero_lt_one | assumption | omega), ?_⟩
        | refine ⟨Or.inl rfl, ?_⟩
        | refine ⟨Or.inr (Or.inl rfl), ?_⟩
        | refine ⟨Or.inr (Or.inr rfl), ?_⟩
        | refine ⟨Or.inr ⟨rfl, (by first | exact Or.inl rfl | exact Or.inr rfl | assumption)⟩, ?_⟩
        | refine ⟨fun h => absurd h (by decide), fun _ => ?_⟩
        | refine ⟨fun _ => ?_, fun h => absurd h (by decide)⟩
        | refine ⟨fun h => ?_, fun h => ?_⟩
        | fail)
    have hy : 0 ≤ nI t ∧ nI t < μ 48 0 42 := by rw [hnt]; exact zIx_y ht (by omega)
    obtain ⟨-, -, ⟨z, z1, z2, z3, z4, z5⟩, -⟩ := g6.2.2.2 t ht
    have ct : (nI t).toNatClampNeg = t := nI_clamp (by omega)
    have hvt : vp_in (nI t) 4 := vp_in_nI (by omega) (by omega)
    have e94 : μ 94 0 (nI t).toNatClampNeg = μ0 9 t 0 := by rw [ct, e 94 (by omega), z4, z3]
    have no : ¬ (¬ i < 0 ∧ ¬ μ 94 0 (nI t).toNatClampNeg ≤ i) := fun q => hs ⟨t, ht, rfl, by have := q.1; grind, by rw [← e94]; have := q.2; grind⟩
    by_cases i0 : i < 0
    · skip
      repeat' (first
        | refine c_Mo_isTable (fun _ => ?_) (fun h => absurd hy h)
        | refine br_t i0 ?_
        | exact hk
        | (refine zs k_Mo_sit rfl ?_; conv => whnf)
        | refine ⟨Nat.zero_lt_one, rfl, ?_⟩
        | refine ⟨rfl, ?_⟩
        | refine ⟨⟨Nat.zero_lt_one, rfl⟩, Nat.le_of_ble_eq_true rfl, ?_⟩
        | refine ⟨Nat.le_of_ble_eq_true rfl, Nat.le_of_ble_eq_true rfl, ?_⟩
        | refine ⟨(by first | exact Nat.zero_lt_one | assumption | omega), (by first | assumption | exact vp_in_nI (by omega) (by omega) | (unfold vp_in; decide)), ?_⟩
        | refine ⟨(by first | exact Nat.zero_lt_one | assumption | omega), rfl, ?_⟩
        | refine ⟨⟨(by first | exact Nat.zero_lt_one | assumption | omega), rfl⟩, Nat.le_of_ble_eq_true rfl, ?_⟩
        | refine ⟨(by first | exact Nat.zero_lt_one | assumption | omega), ?_⟩
        | refine ⟨Or.inl rfl, ?_⟩
        | refine ⟨Or.inr (Or.inl rfl), ?_⟩
        | refine ⟨Or.inr (Or.inr rfl), ?_⟩
        | refine ⟨Or.inr ⟨rfl, (by first | exact Or.inl rfl | exact Or.inr rfl | assumption)⟩, ?_⟩
        | refine ⟨fun h => absurd h (by decide), fun _ => ?_⟩
        | refine ⟨fun _ => ?_, fun h => absurd h (by decide)⟩
        | refine ⟨fun h => ?_, fun h => ?_⟩
        | fail)
    · have i1 : μ 94 0 (nI t).toNatClampNeg ≤ i := Classical.byContradiction (fun q => no ⟨i0, q⟩)
      repeat' (first
        | refine c_Mo_isTable (fun _ => ?_) (fun h => absurd hy h)
        | refine br_f i0 ?_
        | refine br_t i1 ?_
        | exact hk
        | (refine zs k_Mo_sit rfl ?_; conv => whnf)
        | refine ⟨Nat.zero_lt_one, rfl, ?_⟩
        | refine ⟨rfl, ?_⟩
        | refine ⟨⟨Nat.zero_lt_one, rfl⟩, Nat.le_of_ble_eq_true rfl, ?_⟩
        | refine ⟨Nat.le_of_ble_eq_true rfl, Nat.le_of_ble_eq_true rfl, ?_⟩
        | refine ⟨(by first | exact Nat.zero_lt_one | assumption | omega), (by first | assumption | exact vp_in_nI (by omega) (by omega) | (unfold vp_in; decide)), ?_⟩
        | refine ⟨(by first | exact Nat.zero_lt_one | assumption | omega), rfl, ?_⟩
        | refine ⟨⟨(by first | exact Nat.zero_lt_one | assumption | omega), rfl⟩, Nat.le_of_ble_eq_true rfl, ?_⟩
        | refine ⟨(by first | exact Nat.zero_lt_one | assumption | omega), ?_⟩
        | refine ⟨Or.inl rfl, ?_⟩
        | refine ⟨Or.inr (Or.inl rfl), ?_⟩
        | refine ⟨Or.inr (Or.inr rfl), ?_⟩
        | refine ⟨Or.inr ⟨rfl, (by first | exact Or.inl rfl | exact Or.inr rfl | assumption)⟩, ?_⟩
        | refine ⟨fun h => absurd h (by decide), fun _ => ?_⟩
        | refine ⟨fun _ => ?_, fun h => absurd h (by decide)⟩
        | refine ⟨fun h => ?_, fun h => ?_⟩
        | fail)
  obtain ⟨t, j, z, ht, rfl, rfl, hj, hz, e9, e94⟩ := stOk_of g6 hs
  have ct : (nI t).toNatClampNeg = t := nI_clamp (by omega)
  have hy : 0 ≤ nI t ∧ nI t < μ 48 0 42 := by rw [hnt]; exact zIx_y ht (by omega)
  have e94' : ¬ μ 94 0 (nI t).toNatClampNeg ≤ nI j := by rw [ct, e 94 (by omega), e94]; exact nI_ge hj (by omega)
  have hm : (12 : Int32) * nI t = nI (12 * t) := pk_mul 12 t
  have hm2 : (12 : Int32) * nI t + 12 = nI (12 * t + 12) := by rw [hm]; exact nI_add _ 12
  have m1 : (12 : Int32) * nI t + nI j = nI (12 * t + j) := by rw [hm, nI_add]
  have v1 : vp_in ((12 : Int32) * nI t + nI j) 48 := by rw [m1]; exact vp_in_nI (by omega) (by omega)
  have c1 : ((12 : Int32) * nI t + nI j).toNatClampNeg = 12 * t + j := by rw [m1]; exact nI_clamp (by omega)
  have e95 : μ 95 0 ((12 : Int32) * nI t + nI j).toNatClampNeg = μ0 40 t j := by rw [c1, e 95 (by omega)]; exact (g6.2.2.2 t ht).2.2.2.1 j (by omega)
  by_cases hp : p = -1
  · subst hp
    have hk := h2 t j hs ht rfl rfl rfl (by omega)
    have hle : ¬ (12 : Int32) * nI t + 12 ≤ 12 * nI t := by rw [hm2, hm]; exact nI_ge (by omega) (by omega)
    repeat' (first
      | refine c_Mo_isTable (fun _ => ?_) (fun h => absurd hy h)
      | refine br_f (nI_pos (by omega)) ?_
      | refine br_f e94' ?_
      | refine br_f hle ?_
      | exact zKe hk e95 (by rw [c1])
      | (refine zs k_Mo_sit rfl ?_; conv => whnf)
      | refine ⟨Nat.zero_lt_one, rfl, ?_⟩
      | refine ⟨rfl, ?_⟩
      | refine ⟨⟨Nat.zero_lt_one, rfl⟩, Nat.le_of_ble_eq_true rfl, ?_⟩
      | refine ⟨Nat.le_of_ble_eq_true rfl, Nat.le_of_ble_eq_true rfl, ?_⟩
      | refine ⟨(by first | exact Nat.zero_lt_one | assumption | omega), (by first | assumption | exact vp_in_nI (by omega) (by omega) | (unfold vp_in; decide)), ?_⟩
      | refine ⟨(by first | exact Nat.zero_lt_one | assumption | omega), rfl, ?_⟩
      | refine ⟨⟨(by first | exact Nat.zero_lt_one | assumption | omega), rfl⟩, Nat.le_of_ble_eq_true rfl, ?_⟩
      | refine ⟨(by first | exact Nat.zero_lt_one | assumption | omega), ?_⟩
      | refine ⟨Or.inl rfl, ?_⟩
      | refine ⟨Or.inr (Or.inl rfl), ?_⟩
      | refine ⟨Or.inr (Or.inr rfl), ?_⟩
      | refine ⟨Or.inr ⟨rfl, (by first | exact Or.inl rfl | exact Or.inr rfl | assumption)⟩, ?_⟩
      | refine ⟨fun h => absurd h (by decide), fun _ => ?_⟩
      | refine ⟨fun _ => ?_, fun h => absurd h (by decide)⟩
      | refine ⟨fun h => ?_, fun h => ?_⟩
      | fail)
  rcases zIx p (n := n) (by omega) with ⟨q, hq, rfl⟩ | ho
  case inr =>
    have hk := h0 (fun w => w.2.elim hp ho)
    repeat' (first
      | refine c_Mo_isTable (fun _ => ?_) (fun h => absurd hy h)
      | refine br_f (nI_pos (by omega)) ?_
      | refine br_f e94' ?_
      | refine br_f hp ?_
      | refine c_Mo_isPerson (fun h => absurd (by rw [← hn]; exact h) ho) (fun _ => ?_)
      | exact hk
      | (refine zs k_Mo_sit rfl ?_; conv => whnf)
      | refine ⟨Nat.zero_lt_one, rfl, ?_⟩
      | refine ⟨rfl, ?_⟩
      | refine ⟨⟨Nat.zero_lt_one, rfl⟩, Nat.le_of_ble_eq_true rfl, ?_⟩
      | refine ⟨Nat.le_of_ble_eq_true rfl, Nat.le_of_ble_eq_true rfl, ?_⟩
      | refine ⟨(by first | exact Nat.zero_lt_one | assumption | omega), (by first | assumption | exact vp_in_nI (by omega) (by omega) | (unfold vp_in; decide)), ?_⟩
      | refine ⟨(by first | exact Nat.zero_lt_one | assumption | omega), rfl, ?_⟩
      | refine ⟨⟨(by first | exact Nat.zero_lt_one | assumption | omega), rfl⟩, Nat.le_of_ble_eq_true rfl, ?_⟩
      | refine ⟨(by first | exact Nat.zero_lt_one | assumption | omega), ?_⟩
      | refine ⟨Or.inl rfl, ?_⟩
      | refine ⟨Or.inr (Or.inl rfl), ?_⟩
      | refine ⟨Or.inr (Or.inr rfl), ?_⟩
      | refine ⟨Or.inr ⟨rfl, (by first | exact Or.inl rfl | exact Or.inr rfl | assumption)⟩, ?_⟩
      | refine ⟨fun h => absurd h (by decide), fun _ => ?_⟩
      | refine ⟨fun _ => ?_, fun h => absurd h (by decide)⟩
      | refine ⟨fun h => ?_, fun h => ?_⟩
      | fail)
  have hyq : 0 ≤ nI q ∧ nI q < μ 48 0 5 := by rw [hn]; exact zIx_y hq (by omega)
  have cq : (nI q).toNatClampNeg = q := nI_clamp (by omega)
  have hvq : vp_in (nI q) 20 := vp_in_nI (by omega) (by omega)
  have e62 : μ 62 0 (nI q).toNatClampNeg = μ0 10 0 q := by rw [cq, e 62 (by omega)]; exact (g.2.2.2 q hq).1
  rcases (g.2.2.2 q hq).2.1 with h10 | h10
  · have hk := h1 q hs hq rfl h10
    have h10' : μ 62 0 (nI q).toNatClampNeg = 0 := e62.trans h10
    repeat' (first
      | refine c_Mo_isTable (fun _ => ?_) (fun h => absurd hy h)
      | refine br_f (nI_pos (by omega)) ?_
      | refine br_f e94' ?_
      | refine br_f hp ?_
      | refine c_Mo_isPerson (fun _ => ?_) (fun h => absurd hyq h)
      | refine bn_f h10' ?_
      | exact hk
      | (refine zs k_Mo_sit rfl ?_; conv => whnf)
      | refine ⟨Nat.zero_lt_one, rfl, ?_⟩
      | refine ⟨rfl, ?_⟩
      | refine ⟨⟨Nat.zero_lt_one, rfl⟩, Nat.le_of_ble_eq_true rfl, ?_⟩
      | refine ⟨Nat.le_of_ble_eq_true rfl, Nat.le_of_ble_eq_true rfl, ?_⟩
      | refine ⟨(by first | exact Nat.zero_lt_one | assumption | omega), (by first | assumption | exact vp_in_nI (by omega) (by omega) | (unfold vp_in; decide)), ?_⟩
      | refine ⟨(by first | exact Nat.zero_lt_one | assumption | omega), rfl, ?_⟩
      | refine ⟨⟨(by first | exact Nat.zero_lt_one | assumption | omega), rfl⟩, Nat.le_of_ble_eq_true rfl, ?_⟩
      | refine ⟨(by first | exact Nat.zero_lt_one | assumption | omega), ?_⟩
      | refine ⟨Or.inl rfl, ?_⟩
      | refine ⟨Or.inr (Or.inl rfl), ?_⟩
      | refine ⟨Or.inr (Or.inr rfl), ?_⟩
      | refine ⟨Or.inr ⟨rfl, (by first | exact Or.inl rfl | exact Or.inr rfl | assumption)⟩, ?_⟩
      | refine ⟨fun h => absurd h (by decide), fun _ => ?_⟩
      | refine ⟨fun _ => ?_, fun h => absurd h (by decide)⟩
      | refine ⟨fun h => ?_, fun h => ?_⟩
      | fail)
  · have hk := h3 t j q hs ht rfl rfl hq rfl h10 (by omega)
    have h10' : ¬ μ 62 0 (nI q).toNatClampNeg = 0 := by rw [e62, h10]; decide
    have L : ∀ (k i : Nat) (w : Int32) (μ1 : zMu), i + k = 12 → w = nI (12 * t + i) → μ1 = mOutA μ (nI q) (12 * t) (12 * t + i) → zG S (d + 1) m_Mo_sit K 74 [some (zR 48 0), some (zI (nI t)), some (zI (nI j)), some (zI (nI q)), some (zI (μ 95 0 ((12 : Int32) * nI t + nI j).toNatClampNeg)), some (zI w)] [] μ1 := by
      intro k
      induction k with
      | zero =>
        intro i w μ1 hi hw h1
        obtain rfl : i = 12 := by omega
        subst hw h1
        have hle : (12 : Int32) * nI t + 12 ≤ nI (12 * t + 12) := by rw [hm2]; exact nI_le (Nat.le_refl _) (by omega)
        refine zs k_Mo_sit rfl ?_; conv => whnf
        repeat' (first
          | refine br_t hle ?_
          | exact zKe hk e95 (by rw [c1])
          | (refine zs k_Mo_sit rfl ?_; conv => whnf)
          | refine ⟨Nat.zero_lt_one, rfl, ?_⟩
          | refine ⟨rfl, ?_⟩
          | refine ⟨⟨Nat.zero_lt_one, rfl⟩, Nat.le_of_ble_eq_true rfl, ?_⟩
          | refine ⟨Nat.le_of_ble_eq_true rfl, Nat.le_of_ble_eq_true rfl, ?_⟩
          | refine ⟨(by first | exact Nat.zero_lt_one | assumption | omega), (by first | assumption | exact vp_in_nI (by omega) (by omega) | (unfold vp_in; decide)), ?_⟩
          | refine ⟨(by first | exact Nat.zero_lt_one | assumption | omega), rfl, ?_⟩
          | refine ⟨⟨(by first | exact Nat.zero_lt_one | assumption | omega), rfl⟩, Nat.le_of_ble_eq_true rfl, ?_⟩
          | refine ⟨(by first | exact Nat.zero_lt_one | assumption | omega), ?_⟩
          | refine ⟨Or.inl rfl, ?_⟩
          | refine ⟨Or.inr (Or.inl rfl), ?_⟩
          | refine ⟨Or.inr (Or.inr rfl), ?_⟩
          | refine ⟨Or.inr ⟨rfl, (by first | exact Or.inl rfl | exact Or.inr rfl | assumption)⟩, ?_⟩
          | refine ⟨fun h => absurd h (by decide), fun _ => ?_⟩
          | refine ⟨fun _ => ?_, fun h => absurd h (by decide)⟩
          | refine ⟨fun h => ?_, fun h => ?_⟩
          | fail)
      | succ k ih =>
        intro i w μ1 hi hw h1
        subst hw
        have hle : ¬ (12 : Int32) * nI t + 12 ≤ nI (12 * t + i) := by rw [hm2]; exact nI_ge (by omega) (by omega)
        have ci : (nI (12 * t + i)).toNatClampNeg = 12 * t + i := nI_clamp (by omega)
        have e1 : μ1 95 0 (nI (12 * t + i)).toNatClampNeg = μ 95 0 (12 * t + i) := by rw [h1, ci]; exact mOutA_at
        by_cases hv : μ 95 0 (12 * t + i) = nI q
        · have hv' : μ1 95 0 (nI (12 * t + i)).toNatClampNeg = nI q := e1.trans hv
          refine zs k_Mo_sit rfl ?_; conv => whnf
          repeat' (first
            | refine br_f hle ?_
            | refine br_f hp ?_
            | refine bn_f hv' ?_
            | refine ih (i + 1) _ _ (by omega) (by exact nI_1 _) ?_
            | (refine zs k_Mo_sit rfl ?_; conv => whnf)
            | refine ⟨Nat.zero_lt_one, rfl, ?_⟩
            | refine ⟨rfl, ?_⟩
            | refine ⟨⟨Nat.zero_lt_one, rfl⟩, Nat.le_of_ble_eq_true rfl, ?_⟩
            | refine ⟨Nat.le_of_ble_eq_true rfl, Nat.le_of_ble_eq_true rfl, ?_⟩
            | refine ⟨(by first | exact Nat.zero_lt_one | assumption | omega), (by first | assumption | exact vp_in_nI (by omega) (by omega) | (unfold vp_in; decide)), ?_⟩
            | refine ⟨(by first | exact Nat.zero_lt_one | assumption | omega), rfl, ?_⟩
            | refine ⟨⟨(by first | exact Nat.zero_lt_one | assumption | omega), rfl⟩, Nat.le_of_ble_eq_true rfl, ?_⟩
            | refine ⟨(by first | exact Nat.zero_lt_one | assumption | omega), ?_⟩
            | refine ⟨Or.inl rfl, ?_⟩
            | refine ⟨Or.inr (Or.inl rfl), ?_⟩
            | refine ⟨Or.inr (Or.inr rfl), ?_⟩
            | refine ⟨Or.inr ⟨rfl, (by first | exact Or.inl rfl | exact Or.inr rfl | assumption)⟩, ?_⟩
            | refine ⟨fun h => absurd h (by decide), fun _ => ?_⟩
            | refine ⟨fun _ => ?_, fun h => absurd h (by decide)⟩
            | refine ⟨fun h => ?_, fun h => ?_⟩
            | fail)
          rw [ci, h1]
          exact mOutA_y (by omega) hv
        · have hv' : ¬ μ1 95 0 (nI (12 * t + i)).toNatClampNeg = nI q := by rw [e1]; exact hv
          refine zs k_Mo_sit rfl ?_; conv => whnf
          repeat' (first
            | refine br_f hle ?_
            | refine br_f hp ?_
            | refine bn_t hv' ?_
            | refine ih (i + 1) _ _ (by omega) (by exact nI_1 _) ?_
            | (refine zs k_Mo_sit rfl ?_; conv => whnf)
            | refine ⟨Nat.zero_lt_one, rfl, ?_⟩
            | refine ⟨rfl, ?_⟩
            | refine ⟨⟨Nat.zero_lt_one, rfl⟩, Nat.le_of_ble_eq_true rfl, ?_⟩
            | refine ⟨Nat.le_of_ble_eq_true rfl, Nat.le_of_ble_eq_true rfl, ?_⟩
            | refine ⟨(by first | exact Nat.zero_lt_one | assumption | omega), (by first | assumption | exact vp_in_nI (by omega) (by omega) | (unfold vp_in; decide)), ?_⟩
            | refine ⟨(by first | exact Nat.zero_lt_one | assumption | omega), rfl, ?_⟩
            | refine ⟨⟨(by first | exact Nat.zero_lt_one | assumption | omega), rfl⟩, Nat.le_of_ble_eq_true rfl, ?_⟩
            | refine ⟨(by first | exact Nat.zero_lt_one | assumption | omega), ?_⟩
            | refine ⟨Or.inl rfl, ?_⟩
            | refine ⟨Or.inr (Or.inl rfl), ?_⟩
            | refine ⟨Or.inr (Or.inr rfl), ?_⟩
            | refine ⟨Or.inr ⟨rfl, (by first | exact Or.inl rfl | exact Or.inr rfl | assumption)⟩, ?_⟩
            | refine ⟨fun h => absurd h (by decide), fun _ => ?_⟩
            | refine ⟨fun _ => ?_, fun h => absurd h (by decide)⟩
            | refine ⟨fun h => ?_, fun h => ?_⟩
            | fail)
          rw [e1, ci, h1]
          exact mOutA_n hv
    repeat' (first
      | refine c_Mo_isTable (fun _ => ?_) (fun h => absurd hy h)
      | refine br_f (nI_pos (by omega)) ?_
      | refine br_f e94' ?_
      | refine br_f hp ?_
      | refine c_Mo_isPerson (fun _ => ?_) (fun h => absurd hyq h)
      | refine bn_t h10' ?_
      | refine L 12 0 _ _ (by omega) (by exact hm) (by exact mOutA_0)
      | (refine zs k_Mo_sit rfl ?_; conv => whnf)
      | refine ⟨Nat.zero_lt_one, rfl, ?_⟩
      | refine ⟨rfl, ?_⟩
      | refine ⟨⟨Nat.zero_lt_one, rfl⟩, Nat.le_of_ble_eq_true rfl, ?_⟩
      | refine ⟨Nat.le_of_ble_eq_true rfl, Nat.le_of_ble_eq_true rfl, ?_⟩
      | refine ⟨(by first | exact Nat.zero_lt_one | assumption | omega), (by first | assumption | exact vp_in_nI (by omega) (by omega) | (unfold vp_in; decide)), ?_⟩
      | refine ⟨(by first | exact Nat.zero_lt_one | assumption | omega), rfl, ?_⟩
      | refine ⟨⟨(by first | exact Nat.zero_lt_one | assumption | omega), rfl⟩, Nat.le_of_ble_eq_true rfl, ?_⟩
      | refine ⟨(by first | exact Nat.zero_lt_one | assumption | omega), ?_⟩
      | refine ⟨Or.inl rfl, ?_⟩
      | refine ⟨Or.inr (Or.inl rfl), ?_⟩
      | refine ⟨Or.inr (Or.inr rfl), ?_⟩
      | refine ⟨Or.inr ⟨rfl, (by first | exact Or.inl rfl | exact Or.inr rfl | assumption)⟩, ?_⟩
      | refine ⟨fun h => absurd h (by decide), fun _ => ?_⟩
      | refine ⟨fun _ => ?_, fun h => absurd h (by decide)⟩
      | refine ⟨fun h => ?_, fun h => ?_⟩
      | fail)
/-- a row at one table has changed, alike on both sides -/
theorem Rel_row {μ M : zMu} {ns n nr nh nt nb t : Nat} {L : List zVt} {z : Nat} {a : Nat → Int32} (g1 : gSt μ ns) (g2 : gPe μ ns n) (g3 : gTp μ nb) (g4 : gRu μ nr) (g5 : gHd μ nh) (g6 : gTb μ nt n) (g7 : gFe μ) (g8 : gCo μ) (g9 : gVs μ L) (g10 : gWi μ) (g11 : gCs μ) (ht : t < nt) (m0 : ∀ f, f ≠ 40 → f ≠ 95 → M f = μ f) (m40 : ∀ u k, M 40 u k = if u = t ∧ k < 12 then a k else μ 40 u k) (m95 : ∀ k, ¬ (12 * t ≤ k ∧ k < 12 * t + 12) → M 95 0 k = μ 95 0 k) (m95t : ∀ k, k < 12 → M 95 0 (12 * t + k) = a k) (hz : μ 9 t 0 = nI z) (hz2 : z ≤ 12) (a1 : ∀ k, z ≤ k → k < 12 → a k = -1) (a2 : ∀ k, k < 12 → a k = -1 ∨ ∃ p, p < n ∧ a k = nI p ∧ μ 10 0 p = 1) (a3 : ∀ j k, j < k → k < 12 → a j = a k → a j = -1) : Rel M := by
  have h4 := g6.2.2.1
  have ef : ∀ l : List Nat, l.all (fun f => !([40, 95] : List Nat).contains f) = true → ∀ f, f ∈ l → M f = μ f := fun l hl f hf => by
    have := List.all_eq_true.mp hl f hf
    simp at this
    exact m0 f this.1 this.2
  have e48 : M 48 = μ 48 := ef [48] rfl 48 (by simp)
  refine ⟨ns, n, nr, nh, nt, nb, L, gSt_fr (ef _ rfl) (by rw [e48]) g1, gPe_fr (ef _ rfl) (by rw [e48]) g2, gTp_fr (ef _ rfl) (by rw [ef [2] rfl 2 (by simp)]) (by rw [e48]) g3, gRu_fr (ef _ rfl) (by rw [e48]) g4, gHd_fr (ef _ rfl) (by rw [e48]) g5, ⟨by rw [ef [5] rfl 5 (by simp)]; exact g6.1, by rw [e48]; exact g6.2.1, h4, fun u hu => ?_⟩, gFe_fr (ef _ rfl) g7, gCo_fr (ef _ rfl) g8, gVs_fr (ef _ rfl) (by rw [e48]) g9, gWi_fr (ef [7] rfl 7 (by simp)) (by rw [e48]) g10, gCs_fr (ef _ rfl) g11⟩
  obtain ⟨b1, b2, ⟨y, y1, y2, y3, y4, y5⟩, b4, b5, b6⟩ := g6.2.2.2 u hu
  unfold gT1
  rw [ef [9] rfl 9 (by simp), ef [93] rfl 93 (by simp), ef [94] rfl 94 (by simp), ef [10] rfl 10 (by simp)]
  by_cases q : u = t
  · subst q
    obtain rfl : y = z := (nI_eq (by omega) (by omega)).mp (y3.symm.trans hz)
    have f40 : ∀ k, k < 12 → M 40 u k = a k := fun k hk => by rw [m40, if_pos ⟨rfl, hk⟩]
    refine ⟨b1, b2, ⟨y, y1, y2, y3, y4, fun k h1 h2 => ?_⟩, fun k hk => ?_, fun k hk => ?_, fun j k hj hk => ?_⟩
    · rw [f40 k h2]
      exact a1 k h1 h2
    · rw [f40 k hk]
      exact m95t k hk
    · rw [f40 k hk]
      exact a2 k hk
    · rw [f40 k hk, f40 j (by omega)]
      exact a3 j k hj hk
  · have f40 : ∀ k, M 40 u k = μ 40 u k := fun k => by rw [m40, if_neg (fun w => q w.1)]
    refine ⟨b1, b2, ⟨y, y1, y2, y3, y4, fun k h1 h2 => ?_⟩, fun k hk => ?_, fun k hk => ?_, fun j k hj hk => ?_⟩
    · rw [f40]
      exact y5 k h1 h2
    · rw [f40, m95 _ (by omega)]
      exact b4 k hk
    · rw [f40]
      exact b5 k hk
    · rw [f40, f40]
      exact b6 j k hj hk
theorem b_sit {μ : zMu} {x i p : Int32} (h : Rel μ) : Both m_De_sit m_Mo_sit [zI x, zI i, zI p] μ := by
  intro d K hK
  obtain ⟨ns, n, nr, nh, nt, nb, L, g1, g2, g3, g4, g5, g6, g7, g8, g9, g10, g11⟩ := id h
  have h4 := g6.2.2.1
  have h20 := g2.2.2.1
  have e9u : ∀ u z z' : Nat, z ≤ 12 → z' ≤ 12 → μ 9 u 0 = nI z → μ 9 u 0 = nI z' → z = z' := fun u z z' h1 h2 e1 e2 => (nI_eq (by omega) (by omega)).mp (e1.symm.trans e2)
  refine c_De_sit g2 g6 (fun a => hK _ _ (fun d K2 hK2 => ?_)) (fun q a hq ep h0 => hK _ _ (fun d K2 hK2 => ?_)) (fun t j a ht ex ey ep z hz e9 hj => hK _ _ (fun d K2 hK2 => ?_)) (fun t j q a ht ex ey hq ep hpr z hz e9 hj => hK _ _ (fun d K2 hK2 => ?_))
  · exact c_Mo_sit (fun _ _ => rfl) g2 g6 (fun _ => hK2 _ h) (fun q b hq ep => absurd ⟨b, Or.inr (by rw [ep]; exact okI_i hq (by omega))⟩ a) (fun t j b ht ex ey ep => absurd ⟨b, Or.inl ep⟩ a) (fun t j q b ht ex ey hq ep => absurd ⟨b, Or.inr (by rw [ep]; exact okI_i hq (by omega))⟩ a)
  · subst ep
    refine c_Mo_sit (fun _ _ => rfl) g2 g6 (fun b => absurd ⟨a, Or.inr (okI_i hq (by omega))⟩ b) (fun q' b hq' ep _ => hK2 _ h) (fun t j b ht ex ey ep => absurd ep (nI_nem1 (by omega))) (fun t j q' b ht ex ey hq' ep hpr => ?_)
    obtain rfl := (nI_eq (by omega) (by omega)).mp ep
    exact absurd (h0.symm.trans hpr) (by decide)
  · subst ex ey ep
    refine c_Mo_sit (μ0 := μ) (fun f hf => ?_) g2 g6 (fun b => absurd ⟨a, Or.inl rfl⟩ b) (fun q' b hq' ep _ => absurd ep.symm (nI_nem1 (by omega))) (fun t' j' b ht' ex ey _ hj' => ?_) (fun t j q' b ht ex ey hq' ep hpr => absurd ep.symm (nI_nem1 (by omega)))
    · funext a b
      exact zu_ne (fun w => hf w.1)
    obtain rfl := (nI_eq (by omega) (by omega)).mp ex
    obtain rfl := (nI_eq (by omega) (by omega)).mp ey
    obtain ⟨b1, b2, ⟨y, y1, y2, y3, y4, y5⟩, b4, b5, b6⟩ := g6.2.2.2 t ht
    obtain rfl := e9u t _ _ y2 hz y3 e9
    refine hK2 _ (Rel_row (t := t) (z := y) (a := fun k => if k = j then -1 else μ 40 t k) g1 g2 g3 g4 g5 g6 g7 g8 g9 g10 g11 ht (fun f q1 q2 => ?_) (fun u k => ?_) (fun k hk => ?_) (fun k hk => ?_) y3 y2 (fun k h1 h2 => ?_) (fun k hk => ?_) (fun j' k hj' hk => ?_))
    · funext a b
      rw [zu_ne (fun w => q2 w.1), zu_ne (fun w => q1 w.1)]
    · rw [zu_ne (by omega)]
      by_cases w : u = t ∧ k = j
      · obtain ⟨rfl, rfl⟩ := w
        rw [zu_eq, if_pos ⟨rfl, by omega⟩, if_pos rfl]
      · rw [zu_ne (fun v => w ⟨v.2.2, v.2.1⟩)]
        by_cases w2 : u = t ∧ k < 12
        · obtain ⟨rfl, w3⟩ := w2
          rw [if_pos ⟨rfl, w3⟩, if_neg (fun v => w ⟨rfl, v⟩)]
        · rw [if_neg w2]
    · rw [zu_ne (by omega), zu_ne (by omega)]
    · by_cases w : k = j
      · rw [if_pos w, w, zu_eq]
      · rw [if_neg w, zu_ne (by omega), zu_ne (by omega)]
        exact b4 k hk
    · rw [if_neg (by omega)]
      exact y5 k h1 h2
    · by_cases w : k = j
      · rw [if_pos w]
        exact Or.inl rfl
      · rw [if_neg w]
        exact b5 k hk
    · by_cases w : j' = j
      · rw [if_pos w]
        exact fun _ => rfl
      · rw [if_neg w]
        by_cases w2 : k = j
        · rw [if_pos w2]
          exact fun v => v
        · rw [if_neg w2]
          exact b6 j' k hj' hk
  · subst ex ey ep
    have hqm : ¬ nI q = -1 := nI_nem1 (by omega)
    refine c_Mo_sit (μ0 := μ) (fun f hf => ?_) g2 g6 (fun b => absurd ⟨a, Or.inr (okI_i hq (by omega))⟩ b) (fun q' b hq' ep h0 => ?_) (fun t' j' b ht' ex ey ep hj' => absurd ep hqm) (fun t' j' q' b ht' ex ey hq' ep hpr' hj' => ?_)
    · funext a b
      rw [zu_ne (fun w => hf w.1)]
      exact if_neg (fun w => hf w.1)
    · obtain rfl := (nI_eq (by omega) (by omega)).mp ep
      exact absurd (hpr.symm.trans h0) (by decide)
    obtain rfl := (nI_eq (by omega) (by omega)).mp ex
    obtain rfl := (nI_eq (by omega) (by omega)).mp ey
    obtain rfl := (nI_eq (by omega) (by omega)).mp ep
    obtain ⟨b1, b2, ⟨y, y1, y2, y3, y4, y5⟩, b4, b5, b6⟩ := g6.2.2.2 t ht
    obtain rfl := e9u t _ _ y2 hz y3 e9
    refine hK2 _ (Rel_row (t := t) (z := y) (a := fun k => if k = j then nI q else if μ 40 t k = nI q then -1 else μ 40 t k) g1 g2 g3 g4 g5 g6 g7 g8 g9 g10 g11 ht (fun f q1 q2 => ?_) (fun u k => ?_) (fun k hk => ?_) (fun k hk => ?_) y3 y2 (fun k h1 h2 => ?_) (fun k hk => ?_) (fun j' k hj' hk => ?_))
    · funext a b
      rw [zu_ne (fun w => q2 w.1)]
      unfold mOutA
      rw [if_neg (fun w => q2 w.1), zu_ne (fun w => q1 w.1)]
      exact if_neg (fun w => q1 w.1)
    · rw [zu_ne (by omega)]
      unfold mOutA
      rw [if_neg (by omega)]
      by_cases w : u = t ∧ k = j
      · obtain ⟨rfl, rfl⟩ := w
        rw [zu_eq, if_pos ⟨rfl, by omega⟩, if_pos rfl]
      · rw [zu_ne (fun v => w ⟨v.2.2, v.2.1⟩)]
        unfold cOut
        by_cases w2 : u = t ∧ k < 12
        · obtain ⟨rfl, w3⟩ := w2
          rw [if_pos (show u = u ∧ k < 12 from ⟨rfl, w3⟩), if_neg (show ¬ k = j from fun v => w ⟨rfl, v⟩)]
          by_cases w4 : μ 40 u k = nI q
          · rcases Nat.lt_or_ge k y with w5 | w5
            · rw [if_pos ⟨rfl, rfl, w5, w4⟩, if_pos w4]
            · exact absurd ((y5 k w5 w3).symm.trans w4).symm hqm
          · rw [if_neg (fun v => w4 v.2.2.2), if_neg w4]
        · rw [if_neg w2, if_neg (fun v => w2 ⟨v.2.1, by omega⟩)]
    · rw [zu_ne (by omega)]
      unfold mOutA
      rw [if_neg (by omega), zu_ne (by omega)]
      exact if_neg (by omega)
    · have e95 : zu (cOut μ t y (nI q)) 40 t j (nI q) 95 0 (12 * t + k) = μ 40 t k := by
        rw [zu_ne (by omega)]
        exact (if_neg (by omega)).trans (b4 k hk)
      by_cases w : k = j
      · rw [if_pos w, w, zu_eq]
      · rw [if_neg w, zu_ne (by omega)]
        unfold mOutA
        rw [e95]
        by_cases w4 : μ 40 t k = nI q
        · rw [if_pos ⟨rfl, rfl, by omega, by omega, w4⟩, if_pos w4]
        · rw [if_neg (fun v => w4 v.2.2.2.2), if_neg w4]
    · rw [if_neg (by omega), y5 k h1 h2]
      split <;> rfl
    · by_cases w : k = j
      · rw [if_pos w]
        exact Or.inr ⟨q, hq, rfl, hpr⟩
      · rw [if_neg w]
        by_cases w4 : μ 40 t k = nI q
        · rw [if_pos w4]
          exact Or.inl rfl
        · rw [if_neg w4]
          exact b5 k hk
    · by_cases w : j' = j
      · rw [if_pos w, if_neg (by omega)]
        by_cases w4 : μ 40 t k = nI q
        · rw [if_pos w4]
          exact fun v => v
        · rw [if_neg w4]
          exact fun v => absurd v.symm w4
      · rw [if_neg w]
        by_cases w2 : k = j
        · rw [if_pos w2]
          by_cases w4 : μ 40 t j' = nI q
          · rw [if_pos w4]
            exact fun _ => rfl
          · rw [if_neg w4]
            exact fun v => absurd v w4
        · rw [if_neg w2]
          by_cases w4 : μ 40 t j' = nI q
          · rw [if_pos w4]
            exact fun _ => rfl
          · rw [if_neg w4]
            by_cases w5 : μ 40 t k = nI q
            · rw [if_pos w5]
              exact fun v => v
            · rw [if_neg w5]
              exact b6 j' k hj' hk
