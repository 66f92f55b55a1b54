/-! DESK: paper, person -/
theorem cOwn_cg {μ μ' : zMu} {r : Nat} (h4 : μ' 17 r 4 = μ 17 r 4) (h15 : μ' 15 0 r = μ 15 0 r) (h16 : μ' 16 0 r = μ 16 0 r) : cOwn μ' r = cOwn μ r := by
  unfold cOwn
  rw [h4, h15, h16]
theorem cRank_cg {μ μ' : zMu} {q : Nat} (h4 : μ' 17 q 4 = μ 17 q 4) (h11 : μ' 11 0 q = μ 11 0 q) (h0 : cOwn μ' q = cOwn μ q) (h : (μ 17 q 4 = 3 ∨ μ 17 q 4 = 4) → cOwn μ' (μ 11 0 q).toNatClampNeg = cOwn μ (μ 11 0 q).toNatClampNeg) : cRank μ' q = cRank μ q := by
  unfold cRank
  rw [h4, h11, h0]
  by_cases k3 : μ 17 q 4 = 3
  · rw [if_pos k3, if_pos k3, h (Or.inl k3)]
  · rw [if_neg k3, if_neg k3]
    by_cases k4 : μ 17 q 4 = 4
    · rw [if_pos k4, if_pos k4, h (Or.inr k4)]
    · rw [if_neg k4, if_neg k4]
theorem cPap_cg {μ μ' : zMu} {q : Nat} (h4 : μ' 17 q 4 = μ 17 q 4) (h11 : μ' 11 0 q = μ 11 0 q) (h0 : μ' 16 0 q = μ 16 0 q) (h : μ 17 q 4 = 3 → μ' 16 0 (μ 11 0 q).toNatClampNeg = μ 16 0 (μ 11 0 q).toNatClampNeg) : cPap μ' q = cPap μ q := by
  unfold cPap cPq
  rw [h4, h11]
  by_cases k3 : μ 17 q 4 = 3
  · rw [if_pos k3, h k3]
  · rw [if_neg k3, h0]
def okMi (y : Int32) : Prop := 0 ≤ y ∧ y ≤ 99999999
theorem gPe_of {μ : zMu} {ns n : Nat} (g : gPe μ ns n) : ∀ i, i < n → cOf μ i := fun i hi hk => by
  obtain ⟨q, hq, hq2⟩ := (g.2.2.2 i hi).2.2.2.2.2.2.2.2.2.2.2.2 hk
  have := g.2.2.1
  rw [hq2]
  exact vp_in_nI (by omega) (by omega)
theorem c_De_paper {d ns n : Nat} {μ : zMu} {x y : Int32} {K : Option zV → zMu → Prop} (g : gPe μ ns n) (h0 : ¬ (0 ≤ x ∧ x < nI n) → K (some (zI (-1))) μ) (h1 : ∀ p, p < n → x = nI p → ¬ okMi y → K (some (zI (-2))) μ) (h2 : ∀ p, p < n → x = nI p → okMi y → K (some (zI (μ 16 0 p))) (cHp (zu μ 16 0 p y) p n)) : Ct (d + 5) m_De_paper [zR 0 0, zI x, zI y] μ K := by
  refine zmeet rfl (Nat.le_of_ble_eq_true rfl) (fun S => ?_)
  have hn := g.1
  have h20 := g.2.2.1
  rcases zIx x (n := n) (by omega) with ⟨p, hp, rfl⟩ | hx
  · have hy := zIx_y hp (by omega)
    by_cases hm : okMi y
    · have hk := h2 p hp rfl hm
      unfold okMi at hm
      repeat' (first
        | refine c_Ro_hasPerson (fun _ _ => ?_) (fun h => absurd (by rw [hn]; exact hy) h)
        | refine br_f (by grind) ?_
        | refine br_t hm.2 ?_
        | refine c_Ro_handPaper hn h20 hp rfl (gPe_of g) ?_
        | exact hk
        | refine zs k_De_paper rfl ?_
        | refine ⟨Nat.zero_lt_one, rfl, ?_⟩
        | refine ⟨rfl, ?_⟩
        | refine ⟨⟨Nat.zero_lt_one, rfl⟩, Nat.le_of_ble_eq_true rfl, ?_⟩
        | refine ⟨Nat.le_of_ble_eq_true rfl, Nat.le_of_ble_eq_true rfl, ?_⟩
        | refine ⟨(by first | exact Nat.zero_lt_one | assumption | omega), (by first | assumption | exact vp_in_nI (by omega) (by omega) | (unfold vp_in; decide)), ?_⟩
        | refine ⟨(by first | exact Nat.zero_lt_one | assumption | omega), rfl, ?_⟩
        | refine ⟨⟨(by first | exact Nat.zero_lt_one | assumption | omega), rfl⟩, Nat.le_of_ble_eq_true rfl, ?_⟩
        | refine ⟨(by first | exact Nat.zero_lt_one | assumption | omega), ?_⟩
        | refine ⟨Or.inl rfl, ?_⟩
        | refine ⟨Or.inr (Or.inl rfl), ?_⟩
        | refine ⟨Or.inr (Or.inr rfl), ?_⟩
        | refine ⟨Or.inr ⟨rfl, (by first | exact Or.inl rfl | exact Or.inr rfl | assumption)⟩, ?_⟩
        | refine ⟨fun h => absurd h (by decide), fun _ => ?_⟩
        | refine ⟨fun _ => ?_, fun h => absurd h (by decide)⟩
        | refine ⟨fun h => ?_, fun h => ?_⟩
        | fail)
    · have hk := h1 p hp rfl hm
      unfold okMi at hm
      repeat' (first
        | refine c_Ro_hasPerson (fun _ _ => ?_) (fun h => absurd (by rw [hn]; exact hy) h)
        | exact hk
        | exact absurd (by grind) hm
        | refine zs k_De_paper rfl ?_
        | refine ⟨Nat.zero_lt_one, rfl, ?_⟩
        | refine ⟨rfl, ?_⟩
        | refine ⟨⟨Nat.zero_lt_one, rfl⟩, Nat.le_of_ble_eq_true rfl, ?_⟩
        | refine ⟨Nat.le_of_ble_eq_true rfl, Nat.le_of_ble_eq_true rfl, ?_⟩
        | refine ⟨(by first | exact Nat.zero_lt_one | assumption | omega), (by first | assumption | exact vp_in_nI (by omega) (by omega) | (unfold vp_in; decide)), ?_⟩
        | refine ⟨(by first | exact Nat.zero_lt_one | assumption | omega), rfl, ?_⟩
        | refine ⟨⟨(by first | exact Nat.zero_lt_one | assumption | omega), rfl⟩, Nat.le_of_ble_eq_true rfl, ?_⟩
        | refine ⟨(by first | exact Nat.zero_lt_one | assumption | omega), ?_⟩
        | refine ⟨Or.inl rfl, ?_⟩
        | refine ⟨Or.inr (Or.inl rfl), ?_⟩
        | refine ⟨Or.inr (Or.inr rfl), ?_⟩
        | refine ⟨Or.inr ⟨rfl, (by first | exact Or.inl rfl | exact Or.inr rfl | assumption)⟩, ?_⟩
        | refine ⟨fun h => absurd h (by decide), fun _ => ?_⟩
        | refine ⟨fun _ => ?_, fun h => absurd h (by decide)⟩
        | refine ⟨fun h => ?_, fun h => ?_⟩
        | fail)
  · have hk := h0 hx
    repeat' (first
      | refine c_Ro_hasPerson (fun h h' => absurd (by rw [← hn]; exact ⟨h, h'⟩) hx) (fun _ => ?_)
      | exact hk
      | refine zs k_De_paper rfl ?_
      | refine ⟨Nat.zero_lt_one, rfl, ?_⟩
      | refine ⟨rfl, ?_⟩
      | refine ⟨⟨Nat.zero_lt_one, rfl⟩, Nat.le_of_ble_eq_true rfl, ?_⟩
      | refine ⟨Nat.le_of_ble_eq_true rfl, Nat.le_of_ble_eq_true rfl, ?_⟩
      | refine ⟨(by first | exact Nat.zero_lt_one | assumption | omega), (by first | assumption | exact vp_in_nI (by omega) (by omega) | (unfold vp_in; decide)), ?_⟩
      | refine ⟨(by first | exact Nat.zero_lt_one | assumption | omega), rfl, ?_⟩
      | refine ⟨⟨(by first | exact Nat.zero_lt_one | assumption | omega), rfl⟩, Nat.le_of_ble_eq_true rfl, ?_⟩
      | refine ⟨(by first | exact Nat.zero_lt_one | assumption | omega), ?_⟩
      | refine ⟨Or.inl rfl, ?_⟩
      | refine ⟨Or.inr (Or.inl rfl), ?_⟩
      | refine ⟨Or.inr (Or.inr rfl), ?_⟩
      | refine ⟨Or.inr ⟨rfl, (by first | exact Or.inl rfl | exact Or.inr rfl | assumption)⟩, ?_⟩
      | refine ⟨fun h => absurd h (by decide), fun _ => ?_⟩
      | refine ⟨fun _ => ?_, fun h => absurd h (by decide)⟩
      | refine ⟨fun h => ?_, fun h => ?_⟩
      | fail)
theorem c_Mo_paper {d n : Nat} {μ : zMu} {x y : Int32} {K : Option zV → zMu → Prop} (hn : μ 48 0 5 = nI n) (h20 : n ≤ 20) (h0 : ¬ (0 ≤ x ∧ x < nI n) → K (some (zI (-1))) μ) (h1 : ∀ p, p < n → x = nI p → ¬ okMi y → K (some (zI (-2))) μ) (h2 : ∀ p, p < n → x = nI p → okMi y → K (some (zI (μ 60 0 p))) (zu μ 60 0 p y)) : Ct (d + 1) m_Mo_paper [zR 48 0, zI x, zI y] μ K := by
  refine zmeet rfl (Nat.le_of_ble_eq_true rfl) (fun S => ?_)
  rcases zIx x (n := n) (by omega) with ⟨p, hp, rfl⟩ | hx
  · have hy := zIx_y hp (by omega)
    have hc : (nI p).toNatClampNeg = p := nI_clamp (by omega)
    by_cases hm : okMi y
    · have hk := h2 p hp rfl hm
      repeat' (first
        | refine c_Mo_isPerson (fun _ => ?_) (fun h => absurd (by rw [hn]; exact hy) h)
        | refine c_Mo_isIn (lo := 0) (hi := 99999999) rfl rfl (fun hb => ?_) (fun hb => absurd hm hb)
        | exact zKe hk (by rw [hc]) (by rw [hc])
        | refine zs k_Mo_paper rfl ?_
        | refine ⟨Nat.zero_lt_one, rfl, ?_⟩
        | refine ⟨rfl, ?_⟩
        | refine ⟨⟨Nat.zero_lt_one, rfl⟩, Nat.le_of_ble_eq_true rfl, ?_⟩
        | refine ⟨Nat.le_of_ble_eq_true rfl, Nat.le_of_ble_eq_true rfl, ?_⟩
        | refine ⟨(by first | exact Nat.zero_lt_one | assumption | omega), (by first | assumption | exact vp_in_nI (by omega) (by omega) | (unfold vp_in; decide)), ?_⟩
        | refine ⟨(by first | exact Nat.zero_lt_one | assumption | omega), rfl, ?_⟩
        | refine ⟨⟨(by first | exact Nat.zero_lt_one | assumption | omega), rfl⟩, Nat.le_of_ble_eq_true rfl, ?_⟩
        | refine ⟨(by first | exact Nat.zero_lt_one | assumption | omega), ?_⟩
        | refine ⟨Or.inl rfl, ?_⟩
        | refine ⟨Or.inr (Or.inl rfl), ?_⟩
        | refine ⟨Or.inr (Or.inr rfl), ?_⟩
        | refine ⟨Or.inr ⟨rfl, (by first | exact Or.inl rfl | exact Or.inr rfl | assumption)⟩, ?_⟩
        | refine ⟨fun h => absurd h (by decide), fun _ => ?_⟩
        | refine ⟨fun _ => ?_, fun h => absurd h (by decide)⟩
        | refine ⟨fun h => ?_, fun h => ?_⟩
        | fail)
    · have hk := h1 p hp rfl hm
      repeat' (first
        | refine c_Mo_isPerson (fun _ => ?_) (fun h => absurd (by rw [hn]; exact hy) h)
        | refine c_Mo_isIn (lo := 0) (hi := 99999999) rfl rfl (fun hb => absurd hb hm) (fun hb => ?_)
        | exact hk
        | refine zs k_Mo_paper rfl ?_
        | refine ⟨Nat.zero_lt_one, rfl, ?_⟩
        | refine ⟨rfl, ?_⟩
        | refine ⟨⟨Nat.zero_lt_one, rfl⟩, Nat.le_of_ble_eq_true rfl, ?_⟩
        | refine ⟨Nat.le_of_ble_eq_true rfl, Nat.le_of_ble_eq_true rfl, ?_⟩
        | refine ⟨(by first | exact Nat.zero_lt_one | assumption | omega), (by first | assumption | exact vp_in_nI (by omega) (by omega) | (unfold vp_in; decide)), ?_⟩
        | refine ⟨(by first | exact Nat.zero_lt_one | assumption | omega), rfl, ?_⟩
        | refine ⟨⟨(by first | exact Nat.zero_lt_one | assumption | omega), rfl⟩, Nat.le_of_ble_eq_true rfl, ?_⟩
        | refine ⟨(by first | exact Nat.zero_lt_one | assumption | omega), ?_⟩
        | refine ⟨Or.inl rfl, ?_⟩
        | refine ⟨Or.inr (Or.inl rfl), ?_⟩
        | refine ⟨Or.inr (Or.inr rfl), ?_⟩
        | refine ⟨Or.inr ⟨rfl, (by first | exact Or.inl rfl | exact Or.inr rfl | assumption)⟩, ?_⟩
        | refine ⟨fun h => absurd h (by decide), fun _ => ?_⟩
        | refine ⟨fun _ => ?_, fun h => absurd h (by decide)⟩
        | refine ⟨fun h => ?_, fun h => ?_⟩
        | fail)
  · have hk := h0 hx
    repeat' (first
      | refine c_Mo_isPerson (fun h => absurd (by rw [← hn]; exact h) hx) (fun _ => ?_)
      | exact hk
      | refine zs k_Mo_paper rfl ?_
      | refine ⟨Nat.zero_lt_one, rfl, ?_⟩
      | refine ⟨rfl, ?_⟩
      | refine ⟨⟨Nat.zero_lt_one, rfl⟩, Nat.le_of_ble_eq_true rfl, ?_⟩
      | refine ⟨Nat.le_of_ble_eq_true rfl, Nat.le_of_ble_eq_true rfl, ?_⟩
      | refine ⟨(by first | exact Nat.zero_lt_one | assumption | omega), (by first | assumption | exact vp_in_nI (by omega) (by omega) | (unfold vp_in; decide)), ?_⟩
      | refine ⟨(by first | exact Nat.zero_lt_one | assumption | omega), rfl, ?_⟩
      | refine ⟨⟨(by first | exact Nat.zero_lt_one | assumption | omega), rfl⟩, Nat.le_of_ble_eq_true rfl, ?_⟩
      | refine ⟨(by first | exact Nat.zero_lt_one | assumption | omega), ?_⟩
      | refine ⟨Or.inl rfl, ?_⟩
      | refine ⟨Or.inr (Or.inl rfl), ?_⟩
      | refine ⟨Or.inr (Or.inr rfl), ?_⟩
      | refine ⟨Or.inr ⟨rfl, (by first | exact Or.inl rfl | exact Or.inr rfl | assumption)⟩, ?_⟩
      | refine ⟨fun h => absurd h (by decide), fun _ => ?_⟩
      | refine ⟨fun _ => ?_, fun h => absurd h (by decide)⟩
      | refine ⟨fun h => ?_, fun h => ?_⟩
      | fail)
theorem gPe_pap {μ : zMu} {ns n p : Nat} {y : Int32} (g : gPe μ ns n) (hp : p < n) (hy : okMi y) : gPe (zu (cHp (zu μ 16 0 p y) p n) 60 0 p y) ns n := by
  obtain ⟨g1, g2, h20, g4⟩ := g
  refine ⟨g1, g2, h20, fun q hq => ?_⟩
  obtain ⟨a1, a2, a3, a4, a5, a6, a7, a8, a9, a10, a11, a12, a13⟩ := g4 q hq
  have e16 : ∀ r, zu (cHp (zu μ 16 0 p y) p n) 60 0 p y 16 0 r = zu μ 16 0 p y 16 0 r := fun r => rfl
  have e17 : ∀ k, ¬ k = 0 → ¬ k = 1 → zu (cHp (zu μ 16 0 p y) p n) 60 0 p y 17 q k = μ 17 q k := fun k h0 h1 => by
    show cHp (zu μ 16 0 p y) p n 17 q k = _
    unfold cHp
    rw [if_neg (by omega), if_neg (by omega)]
    rfl
  have er : cRank (zu (cHp (zu μ 16 0 p y) p n) 60 0 p y) q = cRank (zu μ 16 0 p y) q := cHp_rank
  have ep : cPap (zu (cHp (zu μ 16 0 p y) p n) 60 0 p y) q = cPap (zu μ 16 0 p y) q := (cPap_cg (μ := cHp (zu μ 16 0 p y) p n) (μ' := zu (cHp (zu μ 16 0 p y) p n) 60 0 p y) rfl rfl rfl (fun _ => rfl)).trans cHp_pap
  have hpr : (μ 17 q 4 = 3 ∨ μ 17 q 4 = 4) → q < p → (μ 11 0 q).toNatClampNeg ≠ p := fun hk hqp => by
    obtain ⟨r, hr, hr2⟩ := a13 hk
    rw [hr2, nI_clamp (by omega)]
    omega
  refine ⟨a1, a2, a3, a4, ?_, ?_, ?_, ?_, ?_, ?_, ?_, ?_, ?_⟩
  · show zu μ 60 0 p y 60 0 q = zu μ 16 0 p y 16 0 q
    by_cases e : q = p
    · subst e
      rw [zu_eq, zu_eq]
    · rw [zu_ne (fun z => e z.2.1), zu_ne (fun z => e z.2.1)]
      exact a5
  · show 0 ≤ zu μ 16 0 p y 16 0 q
    by_cases e : q = p
    · subst e
      rw [zu_eq]
      exact hy.1
    · rw [zu_ne (fun z => e z.2.1)]
      exact a6
  · rw [e17 3 (by omega) (by omega)]
    exact a7
  · rw [e17 4 (by omega) (by omega)]
    exact a8
  · rw [e17 5 (by omega) (by omega)]
    exact a9
  · rw [e17 5 (by omega) (by omega), e17 2 (by omega) (by omega), e17 6 (by omega) (by omega)]
    exact a10
  · rw [er]
    show cHp (zu μ 16 0 p y) p n 17 q 0 = _
    unfold cHp
    rcases Nat.lt_or_ge q p with h | h
    · rw [if_neg (by omega), if_neg (by omega)]
      show μ 17 q 0 = _
      rw [a11]
      refine (cRank_cg (μ := μ) (μ' := zu μ 16 0 p y) rfl rfl (cOwn_cg rfl rfl (zu_ne (fun z => by omega))) (fun hk => cOwn_cg rfl rfl (zu_ne (fun z => hpr hk h z.2.1)))).symm
    · rw [if_pos (by omega)]
  · rw [ep]
    show cHp (zu μ 16 0 p y) p n 17 q 1 = _
    unfold cHp
    rcases Nat.lt_or_ge q p with h | h
    · rw [if_neg (by omega), if_neg (by omega)]
      show μ 17 q 1 = _
      rw [a12]
      refine (cPap_cg (μ := μ) (μ' := zu μ 16 0 p y) rfl rfl (zu_ne (fun z => by omega)) (fun hk => zu_ne (fun z => hpr (Or.inl hk) h z.2.1))).symm
    · rw [if_neg (by omega), if_pos (by omega)]
  · rw [e17 4 (by omega) (by omega)]
    exact a13
theorem b_paper {μ : zMu} {x y : Int32} (h : Rel μ) : Both m_De_paper m_Mo_paper [zI x, zI y] μ := by
  intro d K hK
  obtain ⟨ns, n, nr, nh, nt, nb, L, g1, g2, g3, g4, g5, g6, g7, g8, g9, g10, g11⟩ := id h
  have h20 := g2.2.2.1
  refine c_De_paper g2 (fun hb => hK _ _ (fun d K2 hK2 => ?_)) (fun p hp hx hb => hK _ _ (fun d K2 hK2 => ?_)) (fun p hp hx hb => hK _ _ (fun d K2 hK2 => ?_))
  · exact c_Mo_paper g2.2.1 h20 (fun _ => hK2 _ h) (fun p hp hx => absurd (by rw [hx]; exact zIx_y hp (by omega)) hb) (fun p hp hx => absurd (by rw [hx]; exact zIx_y hp (by omega)) hb)
  · subst hx
    exact c_Mo_paper g2.2.1 h20 (fun q => absurd (zIx_y hp (by omega)) q) (fun p' hp' hx _ => hK2 _ h) (fun p' hp' hx q => absurd q hb)
  · subst hx
    refine c_Mo_paper (n := n) g2.2.1 h20 (fun q => absurd (zIx_y hp (by omega)) q) (fun p' hp' hx q => absurd hb q) (fun p' hp' hx _ => ?_)
    obtain rfl := (nI_eq (by omega) (by omega)).mp hx
    refine zKe (hK2 _ ?_) ?_ rfl
    · have e5 : ∀ f, f ≠ 16 → f ≠ 17 → f ≠ 60 → zu (cHp (zu μ 16 0 p y) p n) 60 0 p y f = μ f := fun f q1 q2 q3 => by
        funext a b
        rw [zu_ne (fun z => q3 z.1), cHp_o q2, zu_ne (fun z => q1 z.1)]
      exact ⟨ns, n, nr, nh, nt, nb, L, g1, gPe_pap g2 hp hb, g3, g4, g5, gTb_fr (fun f hf => e5 f (by rintro rfl; simp at hf) (by rintro rfl; simp at hf) (by rintro rfl; simp at hf)) rfl g6, g7, g8, g9, g10, g11⟩
    · exact (g2.2.2.2 p hp).2.2.2.2.1
