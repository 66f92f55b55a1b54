/-! DESK: person: what holds again -/
theorem bn_t {c A B : Prop} (h : ¬ c) (a : A) : (¬ c → A) ∧ (c → B) := ⟨fun _ => a, fun z => absurd z h⟩
theorem bn_f {c A B : Prop} (h : c) (b : B) : (¬ c → A) ∧ (c → B) := ⟨fun z => absurd h z, fun _ => b⟩
theorem gTb_n {μ μ' : zMu} {nt n n' : Nat} (h : ∀ f, f ∈ [5, 9, 40, 93, 94, 95] → μ' f = μ f) (h10 : ∀ p, p < n → μ' 10 0 p = μ 10 0 p) (hn : n ≤ n') (h48 : μ' 48 0 42 = μ 48 0 42) (g : gTb μ nt n) : gTb μ' nt n' := by
  obtain ⟨g1, g2, g3, g4⟩ := g
  refine ⟨by rw [h 5 (by simp)]; exact g1, by rw [h48]; exact g2, g3, fun t ht => ?_⟩
  obtain ⟨a1, a2, a3, a4, a5, a6⟩ := g4 t ht
  unfold gT1
  rw [h 9 (by simp), h 40 (by simp), h 93 (by simp), h 94 (by simp), h 95 (by simp)]
  refine ⟨a1, a2, a3, a4, fun k hk => ?_, a6⟩
  rcases a5 k hk with q | ⟨p, hp, q1, q2⟩
  · exact Or.inl q
  · exact Or.inr ⟨p, by omega, q1, by rw [h10 p hp]; exact q2⟩
theorem gPe_new {μ : zMu} {ns n s' : Nat} {k r y o : Int32} (g1 : gSt μ ns) (g : gPe μ ns n) (hn : n < 20) (hs : s' < ns) (h3 : (k = 3 ∨ k = 4) → ∃ q, q < n ∧ o = nI q) : gPe (mPer (cPer μ n (nI s') k r y o) n (nI s') k r y o) ns (n + 1) := by
  have h10 := g1.2.2.1
  have hsc : (nI s').toNatClampNeg = s' := nI_clamp (by omega)
  obtain ⟨q1, q2, h20, g4⟩ := g
  have e17 : ∀ p k', p ≠ n → mPer (cPer μ n (nI s') k r y o) n (nI s') k r y o 17 p k' = μ 17 p k' := fun p k' hp => by
    unfold mPer cPer cNew
    repeat rw [zu_ne (fun z => by omega)]
  have e0 : ∀ f p, p ≠ n → f ≠ 1 → f ≠ 17 → f ≠ 48 → mPer (cPer μ n (nI s') k r y o) n (nI s') k r y o f 0 p = μ f 0 p := fun f p hp h1 h17 h48 => by
    unfold mPer cPer cNew
    repeat rw [zu_ne (fun z => by omega)]
  have em : ∀ f a b, f < 50 → f ≠ 48 → ¬ (f = 17 ∧ a = n ∧ (b = 0 ∨ b = 1)) → mPer (cPer μ n (nI s') k r y o) n (nI s') k r y o f a b = cNew μ n (nI s') k r y o f a b := fun f a b h1 h2 h3 => by
    unfold mPer cPer
    repeat rw [zu_ne (fun z => by omega)]
  have er : cRank (mPer (cPer μ n (nI s') k r y o) n (nI s') k r y o) n = cRank (cNew μ n (nI s') k r y o) n := cRank_cg (em 17 n 4 (by omega) (by omega) (by omega)) (em 11 0 n (by omega) (by omega) (by omega)) (cOwn_cg (em 17 _ 4 (by omega) (by omega) (by omega)) (em 15 0 _ (by omega) (by omega) (by omega)) (em 16 0 _ (by omega) (by omega) (by omega))) (fun _ => cOwn_cg (em 17 _ 4 (by omega) (by omega) (by omega)) (em 15 0 _ (by omega) (by omega) (by omega)) (em 16 0 _ (by omega) (by omega) (by omega)))
  have ep : cPap (mPer (cPer μ n (nI s') k r y o) n (nI s') k r y o) n = cPap (cNew μ n (nI s') k r y o) n := cPap_cg (em 17 n 4 (by omega) (by omega) (by omega)) (em 11 0 n (by omega) (by omega) (by omega)) (em 16 0 _ (by omega) (by omega) (by omega)) (fun _ => em 16 0 _ (by omega) (by omega) (by omega))
  have v17 : ∀ b, b ≠ 0 → b ≠ 1 → mPer (cPer μ n (nI s') k r y o) n (nI s') k r y o 17 n b = cNew μ n (nI s') k r y o 17 n b := fun b h0 h1 => em 17 n b (by omega) (by omega) (by omega)
  have w4 : cNew μ n (nI s') k r y o 17 n 4 = k := by
    unfold cNew
    (repeat rw [zu_ne (fun z => by omega)]); exact zu_eq
  have w3 : cNew μ n (nI s') k r y o 17 n 3 = y := by
    unfold cNew
    (repeat rw [zu_ne (fun z => by omega)]); exact zu_eq
  have w5 : cNew μ n (nI s') k r y o 17 n 5 = nI s' := by
    unfold cNew
    (repeat rw [zu_ne (fun z => by omega)]); exact zu_eq
  have w2 : cNew μ n (nI s') k r y o 17 n 2 = μ 13 0 s' := by
    unfold cNew
    (repeat rw [zu_ne (fun z => by omega)]); rw [zu_eq, hsc]
  have w6 : cNew μ n (nI s') k r y o 17 n 6 = μ 14 0 s' := by
    unfold cNew
    rw [zu_eq, hsc]
  have w11 : cNew μ n (nI s') k r y o 11 0 n = o := by
    unfold cNew
    (repeat rw [zu_ne (fun z => by omega)]); exact zu_eq
  refine ⟨?_, ?_, by omega, fun p hp => ?_⟩
  · show μ 1 0 1 + 1 = _
    rw [q1, nI_1]
  · rfl
  by_cases hpn : p = n
  · subst hpn
    refine ⟨?_, Or.inr ?_, ?_, ?_, ?_, ?_, ?_, ?_, ?_, ⟨s', hs, ?_, ?_, ?_⟩, ?_, ?_, ?_⟩
    · have a : mPer (cPer μ p (nI s') k r y o) p (nI s') k r y o 62 0 p = 1 := by
        unfold mPer
        (repeat rw [zu_ne (fun z => by omega)]); exact zu_eq
      rw [a, em 10 0 p (by omega) (by omega) (by omega)]
      unfold cNew
      (repeat rw [zu_ne (fun z => by omega)]); exact zu_eq.symm
    · rw [em 10 0 p (by omega) (by omega) (by omega)]
      unfold cNew
      (repeat rw [zu_ne (fun z => by omega)]); exact zu_eq
    · rw [em 11 0 p (by omega) (by omega) (by omega), w11]
      unfold mPer
      (repeat rw [zu_ne (fun z => by omega)]); exact zu_eq
    · rw [em 15 0 p (by omega) (by omega) (by omega)]
      have a : mPer (cPer μ p (nI s') k r y o) p (nI s') k r y o 58 0 p = r := by
        unfold mPer
        (repeat rw [zu_ne (fun z => by omega)]); exact zu_eq
      rw [a]
      unfold cNew
      (repeat rw [zu_ne (fun z => by omega)]); exact zu_eq.symm
    · rw [em 16 0 p (by omega) (by omega) (by omega)]
      have a : mPer (cPer μ p (nI s') k r y o) p (nI s') k r y o 60 0 p = 0 := by
        unfold mPer
        (repeat rw [zu_ne (fun z => by omega)]); exact zu_eq
      rw [a]
      unfold cNew
      (repeat rw [zu_ne (fun z => by omega)]); exact zu_eq.symm
    · rw [em 16 0 p (by omega) (by omega) (by omega)]
      have a : cNew μ p (nI s') k r y o 16 0 p = 0 := by
        unfold cNew
        (repeat rw [zu_ne (fun z => by omega)]); exact zu_eq
      rw [a]
      decide
    · rw [v17 3 (by omega) (by omega), w3]
      unfold mPer
      (repeat rw [zu_ne (fun z => by omega)]); exact zu_eq
    · rw [v17 4 (by omega) (by omega), w4]
      unfold mPer
      (repeat rw [zu_ne (fun z => by omega)]); exact zu_eq
    · rw [v17 5 (by omega) (by omega), w5]
      unfold mPer
      (repeat rw [zu_ne (fun z => by omega)]); exact zu_eq
    · rw [v17 5 (by omega) (by omega), w5]
    · rw [v17 2 (by omega) (by omega), w2]
      rfl
    · rw [v17 6 (by omega) (by omega), w6]
      rfl
    · rw [er]
      unfold mPer cPer
      (repeat rw [zu_ne (fun z => by omega)]); exact zu_eq
    · rw [ep]
      unfold mPer cPer
      (repeat rw [zu_ne (fun z => by omega)]); exact zu_eq
    · rw [v17 4 (by omega) (by omega), w4, em 11 0 p (by omega) (by omega) (by omega), w11]
      exact h3
  · obtain ⟨a1, a2, a3, a4, a5, a6, a7, a8, a9, ⟨s, hs1, b1, b2, b3⟩, a11, a12, a13⟩ := g4 p (by omega)
    have hq : (μ 17 p 4 = 3 ∨ μ 17 p 4 = 4) → (μ 11 0 p).toNatClampNeg ≠ n := fun hk => by
      obtain ⟨q, hq, hq2⟩ := a13 hk
      rw [hq2, nI_clamp (by omega)]
      omega
    have eo : ∀ q, q ≠ n → cOwn (mPer (cPer μ n (nI s') k r y o) n (nI s') k r y o) q = cOwn μ q := fun q hq => cOwn_cg (e17 q 4 hq) (e0 15 q hq (by omega) (by omega) (by omega)) (e0 16 q hq (by omega) (by omega) (by omega))
    refine ⟨?_, ?_, ?_, ?_, ?_, ?_, ?_, ?_, ?_, ⟨s, hs1, ?_, ?_, ?_⟩, ?_, ?_, ?_⟩
    · rw [e0 62 p hpn (by omega) (by omega) (by omega), e0 10 p hpn (by omega) (by omega) (by omega)]
      exact a1
    · rw [e0 10 p hpn (by omega) (by omega) (by omega)]
      exact a2
    · rw [e0 61 p hpn (by omega) (by omega) (by omega), e0 11 p hpn (by omega) (by omega) (by omega)]
      exact a3
    · rw [e0 58 p hpn (by omega) (by omega) (by omega), e0 15 p hpn (by omega) (by omega) (by omega)]
      exact a4
    · rw [e0 60 p hpn (by omega) (by omega) (by omega), e0 16 p hpn (by omega) (by omega) (by omega)]
      exact a5
    · rw [e0 16 p hpn (by omega) (by omega) (by omega)]
      exact a6
    · rw [e0 59 p hpn (by omega) (by omega) (by omega), e17 p 3 hpn]
      exact a7
    · rw [e0 57 p hpn (by omega) (by omega) (by omega), e17 p 4 hpn]
      exact a8
    · rw [e0 56 p hpn (by omega) (by omega) (by omega), e17 p 5 hpn]
      exact a9
    · rw [e17 p 5 hpn]
      exact b1
    · rw [e17 p 2 hpn]
      exact b2
    · rw [e17 p 6 hpn]
      exact b3
    · rw [e17 p 0 hpn, a11]
      exact (cRank_cg (e17 p 4 hpn) (e0 11 p hpn (by omega) (by omega) (by omega)) (eo p hpn) (fun hk => eo _ (hq hk))).symm
    · rw [e17 p 1 hpn, a12]
      exact (cPap_cg (e17 p 4 hpn) (e0 11 p hpn (by omega) (by omega) (by omega)) (e0 16 p hpn (by omega) (by omega) (by omega)) (fun hk => e0 16 _ (hq (Or.inl hk)) (by omega) (by omega) (by omega))).symm
    · rw [e17 p 4 hpn, e0 11 p hpn (by omega) (by omega) (by omega)]
      exact a13
theorem b_person {μ : zMu} {s k r y o : Int32} (h : Rel μ) : Both m_De_person m_Mo_person [zI s, zI k, zI r, zI y, zI o] μ := by
  intro d K hK
  obtain ⟨ns, n, nr, nh, nt, nb, L, g1, g2, g3, g4, g5, g6, g7, g8, g9, g10, g11⟩ := id h
  have h20 := g2.2.2.1
  have h10 := g1.2.2.1
  have hf : ¬ pNo ns n s k o → (pFit (μ 17 o.toNatClampNeg 4) k o ↔ pFit (μ 57 0 o.toNatClampNeg) k o) := fun hno => by
    by_cases hk : k = 3 ∨ k = 4
    · rcases zIx o (n := n) (by omega) with ⟨q, hq, rfl⟩ | ho
      · rw [nI_clamp (show q < 2 ^ 31 by omega), (g2.2.2.2 q hq).2.2.2.2.2.2.2.1]
      · exact absurd (Or.inr ⟨hk, ho⟩) hno
    · exact ⟨fun z => Or.inr (z.resolve_left (fun w => hk w.1)), fun z => Or.inr (z.resolve_left (fun w => hk w.1))⟩
  refine c_De_person g1.1 h10 g2.1 h20 (fun a => hK _ _ (fun d K2 hK2 => ?_)) (fun a b => hK _ _ (fun d K2 hK2 => ?_)) (fun a b c e => hK _ _ (fun d K2 hK2 => ?_)) (fun a b c e => hK _ _ (fun d K2 hK2 => ?_))
  · exact c_Mo_person g1.2.1 h10 g2.2.1 h20 (fun _ => hK2 _ h) (fun q => absurd a q) (fun q => absurd a q) (fun q => absurd a q)
  · exact c_Mo_person g1.2.1 h10 g2.2.1 h20 (fun q => absurd q a) (fun _ _ => hK2 _ h) (fun _ b1 c1 => absurd ⟨b1, (hf a).mpr c1⟩ b) (fun _ b1 c1 => absurd ⟨b1, (hf a).mpr c1⟩ b)
  · exact c_Mo_person g1.2.1 h10 g2.2.1 h20 (fun q => absurd q a) (fun _ q => absurd ⟨b, (hf a).mp c⟩ q) (fun _ _ _ _ => hK2 _ h) (fun _ _ _ q => absurd q (by omega))
  · rcases zIx s (n := ns) (by omega) with ⟨s', hs', rfl⟩ | hs'
    case inr => exact absurd (Or.inl hs') a
    have h3 : (k = 3 ∨ k = 4) → ∃ q, q < n ∧ (if k = 3 ∨ k = 4 then o else -1) = nI q := fun hk => by
      rcases zIx o (n := n) (by omega) with ⟨q, hq, rfl⟩ | ho
      · exact ⟨q, hq, if_pos hk⟩
      · exact absurd (Or.inr ⟨hk, ho⟩) a
    have gp := gPe_new (k := k) (r := r) (y := y) (o := if k = 3 ∨ k = 4 then o else -1) g1 g2 e hs' h3
    refine c_Mo_person (ns := ns) (n := n) g1.2.1 h10 g2.2.1 h20 (fun q => absurd q a) (fun _ q => absurd ⟨b, (hf a).mp c⟩ q) (fun _ _ _ q => absurd q (by omega)) (fun _ _ _ _ => hK2 _ ?_)
    generalize (if k = 3 ∨ k = 4 then o else -1) = o2 at gp ⊢
    refine ⟨ns, n + 1, nr, nh, nt, nb, L, g1, gp, g3, g4, g5, gTb_n (μ := μ) (n := n) (fun f hf => ?_) (fun p hp => ?_) (by omega) rfl g6, g7, g8, g9, g10, g11⟩
    · simp only [List.mem_cons, List.not_mem_nil, or_false] at hf
      funext a b
      unfold mPer cPer cNew
      repeat rw [zu_ne (fun z => by omega)]
    · unfold mPer cPer cNew
      repeat rw [zu_ne (fun z => by omega)]
/-! DESK: there -/
theorem g6_z {μ : zMu} {nt n : Nat} (g : gTb μ nt n) : ∀ t, t < nt → ∃ z, z ≤ 12 ∧ μ 9 t 0 = nI z := fun t ht => by
  obtain ⟨-, -, ⟨z, -, hz, h9, -⟩, -⟩ := g.2.2.2 t ht
  exact ⟨z, hz, h9⟩
theorem c_De_there {d ns n nt : Nat} {μ : zMu} {x y : Int32} {K : Option zV → zMu → Prop} (g : gPe μ ns n) (g6 : gTb μ nt n) (h0 : ¬ (0 ≤ x ∧ x < nI n) → K (some (zI (-1))) μ) (h1 : ∀ p, p < n → x = nI p → ¬ (y = 0 ∨ y = 1) → K (some (zI (-2))) μ) (h2 : ∀ p, p < n → x = nI p → y = 0 → K (some (zI (μ 10 0 p))) (cOutA (zu μ 10 0 p 0) (nI p) nt)) (h3 : ∀ p, p < n → x = nI p → y = 1 → K (some (zI (μ 10 0 p))) (zu μ 10 0 p 1)) : Ct (d + 2) m_De_there [zR 0 0, zI x, zI y] μ K := by
  refine zmeet rfl (Nat.le_of_ble_eq_true rfl) (fun S => ?_)
  have hn := g.1
  have h20 := g.2.2.1
  rcases zIx x (n := n) (by omega) with ⟨p, hp, rfl⟩ | hx
  case inr =>
    have hk := h0 hx
    repeat' (first
      | refine c_Ro_hasPerson (fun h h' => absurd (by rw [← hn]; exact ⟨h, h'⟩) hx) (fun _ => ?_)
      | exact hk
      | (refine zs k_De_there rfl ?_; conv => whnf)
      | refine ⟨Nat.zero_lt_one, rfl, ?_⟩
      | refine ⟨rfl, ?_⟩
      | refine ⟨⟨Nat.zero_lt_one, rfl⟩, Nat.le_of_ble_eq_true rfl, ?_⟩
      | refine ⟨Nat.le_of_ble_eq_true rfl, Nat.le_of_ble_eq_true rfl, ?_⟩
      | refine ⟨(by first | exact Nat.zero_lt_one | assumption | omega), (by first | assumption | exact vp_in_nI (by omega) (by omega) | (unfold vp_in; decide)), ?_⟩
      | refine ⟨(by first | exact Nat.zero_lt_one | assumption | omega), rfl, ?_⟩
      | refine ⟨⟨(by first | exact Nat.zero_lt_one | assumption | omega), rfl⟩, Nat.le_of_ble_eq_true rfl, ?_⟩
      | refine ⟨(by first | exact Nat.zero_lt_one | assumption | omega), ?_⟩
      | refine ⟨Or.inl rfl, ?_⟩
      | refine ⟨Or.inr (Or.inl rfl), ?_⟩
      | refine ⟨Or.inr (Or.inr rfl), ?_⟩
      | refine ⟨Or.inr ⟨rfl, (by first | exact Or.inl rfl | exact Or.inr rfl | assumption)⟩, ?_⟩
      | refine ⟨fun h => absurd h (by decide), fun _ => ?_⟩
      | refine ⟨fun _ => ?_, fun h => absurd h (by decide)⟩
      | refine ⟨fun h => ?_, fun h => ?_⟩
      | fail)
  have hy := zIx_y hp (by omega)
  have hc : (nI p).toNatClampNeg = p := nI_clamp (by omega)
  by_cases y0 : y = 0
  · subst y0
    have hk := h2 p hp rfl rfl
    have e5 : zu μ 10 0 (nI p).toNatClampNeg 0 5 0 0 = nI nt := g6.1
    have ez0 := g6_z g6
    have ez : ∀ t, t < nt → ∃ z, z ≤ 12 ∧ zu μ 10 0 (nI p).toNatClampNeg 0 9 t 0 = nI z := ez0
    repeat' (first
      | refine c_Ro_hasPerson (fun _ _ => ?_) (fun h => absurd (by rw [hn]; exact hy) h)
      | refine c_Ha_emptySeatsOf e5 g6.2.2.1 ez ?_
      | exact zKe hk (by rw [hc]) (by rw [hc])
      | (refine zs k_De_there rfl ?_; conv => whnf)
      | refine ⟨Nat.zero_lt_one, rfl, ?_⟩
      | refine ⟨rfl, ?_⟩
      | refine ⟨⟨Nat.zero_lt_one, rfl⟩, Nat.le_of_ble_eq_true rfl, ?_⟩
      | refine ⟨Nat.le_of_ble_eq_true rfl, Nat.le_of_ble_eq_true rfl, ?_⟩
      | refine ⟨(by first | exact Nat.zero_lt_one | assumption | omega), (by first | assumption | exact vp_in_nI (by omega) (by omega) | (unfold vp_in; decide)), ?_⟩
      | refine ⟨(by first | exact Nat.zero_lt_one | assumption | omega), rfl, ?_⟩
      | refine ⟨⟨(by first | exact Nat.zero_lt_one | assumption | omega), rfl⟩, Nat.le_of_ble_eq_true rfl, ?_⟩
      | refine ⟨(by first | exact Nat.zero_lt_one | assumption | omega), ?_⟩
      | refine ⟨Or.inl rfl, ?_⟩
      | refine ⟨Or.inr (Or.inl rfl), ?_⟩
      | refine ⟨Or.inr (Or.inr rfl), ?_⟩
      | refine ⟨Or.inr ⟨rfl, (by first | exact Or.inl rfl | exact Or.inr rfl | assumption)⟩, ?_⟩
      | refine ⟨fun h => absurd h (by decide), fun _ => ?_⟩
      | refine ⟨fun _ => ?_, fun h => absurd h (by decide)⟩
      | refine ⟨fun h => ?_, fun h => ?_⟩
      | fail)
  · by_cases y1 : y = 1
    · subst y1
      have hk := h3 p hp rfl rfl
      repeat' (first
        | refine c_Ro_hasPerson (fun _ _ => ?_) (fun h => absurd (by rw [hn]; exact hy) h)
        | exact zKe hk (by rw [hc]) (by rw [hc])
        | (refine zs k_De_there rfl ?_; conv => whnf)
        | refine ⟨Nat.zero_lt_one, rfl, ?_⟩
        | refine ⟨rfl, ?_⟩
        | refine ⟨⟨Nat.zero_lt_one, rfl⟩, Nat.le_of_ble_eq_true rfl, ?_⟩
        | refine ⟨Nat.le_of_ble_eq_true rfl, Nat.le_of_ble_eq_true rfl, ?_⟩
        | refine ⟨(by first | exact Nat.zero_lt_one | assumption | omega), (by first | assumption | exact vp_in_nI (by omega) (by omega) | (unfold vp_in; decide)), ?_⟩
        | refine ⟨(by first | exact Nat.zero_lt_one | assumption | omega), rfl, ?_⟩
        | refine ⟨⟨(by first | exact Nat.zero_lt_one | assumption | omega), rfl⟩, Nat.le_of_ble_eq_true rfl, ?_⟩
        | refine ⟨(by first | exact Nat.zero_lt_one | assumption | omega), ?_⟩
        | refine ⟨Or.inl rfl, ?_⟩
        | refine ⟨Or.inr (Or.inl rfl), ?_⟩
        | refine ⟨Or.inr (Or.inr rfl), ?_⟩
        | refine ⟨Or.inr ⟨rfl, (by first | exact Or.inl rfl | exact Or.inr rfl | assumption)⟩, ?_⟩
        | refine ⟨fun h => absurd h (by decide), fun _ => ?_⟩
        | refine ⟨fun _ => ?_, fun h => absurd h (by decide)⟩
        | refine ⟨fun h => ?_, fun h => ?_⟩
        | fail)
    · have hk := h1 p hp rfl (fun z => z.elim y0 y1)
      repeat' (first
        | refine c_Ro_hasPerson (fun _ _ => ?_) (fun h => absurd (by rw [hn]; exact hy) h)
        | refine br_f y0 ?_
        | refine br_f y1 ?_
        | exact hk
        | (refine zs k_De_there rfl ?_; conv => whnf)
        | refine ⟨Nat.zero_lt_one, rfl, ?_⟩
        | refine ⟨rfl, ?_⟩
        | refine ⟨⟨Nat.zero_lt_one, rfl⟩, Nat.le_of_ble_eq_true rfl, ?_⟩
        | refine ⟨Nat.le_of_ble_eq_true rfl, Nat.le_of_ble_eq_true rfl, ?_⟩
        | refine ⟨(by first | exact Nat.zero_lt_one | assumption | omega), (by first | assumption | exact vp_in_nI (by omega) (by omega) | (unfold vp_in; decide)), ?_⟩
        | refine ⟨(by first | exact Nat.zero_lt_one | assumption | omega), rfl, ?_⟩
        | refine ⟨⟨(by first | exact Nat.zero_lt_one | assumption | omega), rfl⟩, Nat.le_of_ble_eq_true rfl, ?_⟩
        | refine ⟨(by first | exact Nat.zero_lt_one | assumption | omega), ?_⟩
        | refine ⟨Or.inl rfl, ?_⟩
        | refine ⟨Or.inr (Or.inl rfl), ?_⟩
        | refine ⟨Or.inr (Or.inr rfl), ?_⟩
        | refine ⟨Or.inr ⟨rfl, (by first | exact Or.inl rfl | exact Or.inr rfl | assumption)⟩, ?_⟩
        | refine ⟨fun h => absurd h (by decide), fun _ => ?_⟩
        | refine ⟨fun _ => ?_, fun h => absurd h (by decide)⟩
        | refine ⟨fun h => ?_, fun h => ?_⟩
        | fail)
def mOutA (μ : zMu) (v : Int32) (lo i : Nat) : zMu := fun f a b => if f = 95 ∧ a = 0 ∧ lo ≤ b ∧ b < i ∧ μ 95 0 b = v then -1 else μ f a b
theorem mOutA_at {μ : zMu} {v : Int32} {lo i : Nat} : mOutA μ v lo i 95 0 i = μ 95 0 i := by
  unfold mOutA
  rw [if_neg (by omega)]
theorem mOutA_y {μ : zMu} {v : Int32} {lo i : Nat} (hl : lo ≤ i) (h : μ 95 0 i = v) : zu (mOutA μ v lo i) 95 0 i (-1) = mOutA μ v lo (i + 1) := by
  funext f a b
  simp only [zu, mOutA]
  by_cases e : f = 95 ∧ b = i ∧ a = 0
  · obtain ⟨rfl, rfl, rfl⟩ := e
    rw [if_pos ⟨rfl, rfl, rfl⟩, if_pos ⟨rfl, rfl, hl, by omega, h⟩]
  · rw [if_neg e]
    by_cases e2 : f = 95 ∧ a = 0 ∧ lo ≤ b ∧ b < i ∧ μ 95 0 b = v
    · rw [if_pos e2, if_pos ⟨e2.1, e2.2.1, e2.2.2.1, by omega, e2.2.2.2.2⟩]
    · rw [if_neg e2, if_neg (fun z => e2 ⟨z.1, z.2.1, z.2.2.1, by omega, z.2.2.2.2⟩)]
theorem mOutA_n {μ : zMu} {v : Int32} {lo i : Nat} (h : ¬ μ 95 0 i = v) : zu (mOutA μ v lo i) 95 0 i (μ 95 0 i) = mOutA μ v lo (i + 1) := by
  funext f a b
  simp only [zu, mOutA]
  by_cases e : f = 95 ∧ b = i ∧ a = 0
  · obtain ⟨rfl, rfl, rfl⟩ := e
    rw [if_pos ⟨rfl, rfl, rfl⟩, if_neg (fun z => h z.2.2.2.2)]
  · rw [if_neg e]
    by_cases e2 : f = 95 ∧ a = 0 ∧ lo ≤ b ∧ b < i ∧ μ 95 0 b = v
    · rw [if_pos e2, if_pos ⟨e2.1, e2.2.1, e2.2.2.1, by omega, e2.2.2.2.2⟩]
    · rw [if_neg e2, if_neg (fun z => e2 ⟨z.1, z.2.1, z.2.2.1, by omega, z.2.2.2.2⟩)]
theorem mOutA_0 {μ : zMu} {v : Int32} {lo : Nat} : μ = mOutA μ v lo lo := by
  funext f a b
  unfold mOutA
  rw [if_neg (by omega)]
theorem i01 {y : Int32} : (0 ≤ y ∧ y ≤ 1) ↔ (y = 0 ∨ y = 1) := by
  constructor
  · intro h
    obtain ⟨j, hj, rfl⟩ := nI_of2 (x := y) (M := 1) (n := 1) rfl (by grind) h.2
    match j, hj with
    | 0, _ => exact Or.inl rfl
    | 1, _ => exact Or.inr rfl
  · rintro (rfl | rfl) <;> decide
set_option maxHeartbeats 1000000 in
theorem c_Mo_there {d ns n : Nat} {μ μ0 : zMu} {x y : Int32} {K : Option zV → zMu → Prop} (hn : μ 48 0 5 = nI n) (h20 : n ≤ 20) (h62 : ∀ p, p < n → μ 62 0 p = μ0 10 0 p ∧ (μ0 10 0 p = 0 ∨ μ0 10 0 p = 1)) (h0 : ¬ (0 ≤ x ∧ x < nI n) → K (some (zI (-1))) μ) (h1 : ∀ p, p < n → x = nI p → ¬ (y = 0 ∨ y = 1) → K (some (zI (-2))) μ) (h2 : ∀ p, p < n → x = nI p → y = 0 → K (some (zI (μ0 10 0 p))) (mOutA (zu μ 62 0 p 0) (nI p) 0 48)) (h3 : ∀ p, p < n → x = nI p → y = 1 → K (some (zI (μ0 10 0 p))) (zu μ 62 0 p 1)) : Ct (d + 1) m_Mo_there [zR 48 0, zI x, zI y] μ K := by
  refine zmeet rfl (Nat.le_of_ble_eq_true rfl) (fun S => ?_)
  rcases zIx x (n := n) (by omega) with ⟨p, hp, rfl⟩ | hx
  case inr =>
    have hk := h0 hx
    repeat' (first
      | refine c_Mo_isPerson (fun h => absurd (by rw [← hn]; exact h) hx) (fun _ => ?_)
      | exact hk
      | (refine zs k_Mo_there rfl ?_; conv => whnf)
      | refine ⟨Nat.zero_lt_one, rfl, ?_⟩
      | refine ⟨rfl, ?_⟩
      | refine ⟨⟨Nat.zero_lt_one, rfl⟩, Nat.le_of_ble_eq_true rfl, ?_⟩
      | refine ⟨Nat.le_of_ble_eq_true rfl, Nat.le_of_ble_eq_true rfl, ?_⟩
      | refine ⟨(by first | exact Nat.zero_lt_one | assumption | omega), (by first | assumption | exact vp_in_nI (by omega) (by omega) | (unfold vp_in; decide)), ?_⟩
      | refine ⟨(by first | exact Nat.zero_lt_one | assumption | omega), rfl, ?_⟩
      | refine ⟨⟨(by first | exact Nat.zero_lt_one | assumption | omega), rfl⟩, Nat.le_of_ble_eq_true rfl, ?_⟩
      | refine ⟨(by first | exact Nat.zero_lt_one | assumption | omega), ?_⟩
      | refine ⟨Or.inl rfl, ?_⟩
      | refine ⟨Or.inr (Or.inl rfl), ?_⟩
      | refine ⟨Or.inr (Or.inr rfl), ?_⟩
      | refine ⟨Or.inr ⟨rfl, (by first | exact Or.inl rfl | exact Or.inr rfl | assumption)⟩, ?_⟩
      | refine ⟨fun h => absurd h (by decide), fun _ => ?_⟩
      | refine ⟨fun _ => ?_, fun h => absurd h (by decide)⟩
      | refine ⟨fun h => ?_, fun h => ?_⟩
      | fail)
  have hy := zIx_y hp (by omega)
  have hc : (nI p).toNatClampNeg = p := nI_clamp (by omega)
  obtain ⟨q1, q2⟩ := h62 p hp
  have q1' : μ 62 0 (nI p).toNatClampNeg = μ0 10 0 p := by rw [hc]; exact q1
  have fin : ∀ μ1 : zMu, ∀ l4 : Option zV, K (some (zI (μ0 10 0 p))) μ1 → zG S (d + 1) m_Mo_there K 95 [some (zR 48 0), some (zI (nI p)), some (zI y), some (zI (μ 62 0 (nI p).toNatClampNeg)), l4] [] μ1 := fun μ1 l4 hk => by
    rcases q2 with q2 | q2
    · rw [q2] at hk
      repeat' (first
        | refine br_t (by rw [q1']; exact q2) ?_
        | exact hk
        | (refine zs k_Mo_there rfl ?_; conv => whnf)
        | refine ⟨Nat.zero_lt_one, rfl, ?_⟩
        | refine ⟨rfl, ?_⟩
        | refine ⟨⟨Nat.zero_lt_one, rfl⟩, Nat.le_of_ble_eq_true rfl, ?_⟩
        | refine ⟨Nat.le_of_ble_eq_true rfl, Nat.le_of_ble_eq_true rfl, ?_⟩
        | refine ⟨(by first | exact Nat.zero_lt_one | assumption | omega), (by first | assumption | exact vp_in_nI (by omega) (by omega) | (unfold vp_in; decide)), ?_⟩
        | refine ⟨(by first | exact Nat.zero_lt_one | assumption | omega), rfl, ?_⟩
        | refine ⟨⟨(by first | exact Nat.zero_lt_one | assumption | omega), rfl⟩, Nat.le_of_ble_eq_true rfl, ?_⟩
        | refine ⟨(by first | exact Nat.zero_lt_one | assumption | omega), ?_⟩
        | refine ⟨Or.inl rfl, ?_⟩
        | refine ⟨Or.inr (Or.inl rfl), ?_⟩
        | refine ⟨Or.inr (Or.inr rfl), ?_⟩
        | refine ⟨Or.inr ⟨rfl, (by first | exact Or.inl rfl | exact Or.inr rfl | assumption)⟩, ?_⟩
        | refine ⟨fun h => absurd h (by decide), fun _ => ?_⟩
        | refine ⟨fun _ => ?_, fun h => absurd h (by decide)⟩
        | refine ⟨fun h => ?_, fun h => ?_⟩
        | fail)
    · rw [q2] at hk
      repeat' (first
        | refine br_f (by rw [q1', q2]; decide) ?_
        | exact hk
        | (refine zs k_Mo_there rfl ?_; conv => whnf)
        | refine ⟨Nat.zero_lt_one, rfl, ?_⟩
        | refine ⟨rfl, ?_⟩
        | refine ⟨⟨Nat.zero_lt_one, rfl⟩, Nat.le_of_ble_eq_true rfl, ?_⟩
        | refine ⟨Nat.le_of_ble_eq_true rfl, Nat.le_of_ble_eq_true rfl, ?_⟩
        | refine ⟨(by first | exact Nat.zero_lt_one | assumption | omega), (by first | assumption | exact vp_in_nI (by omega) (by omega) | (unfold vp_in; decide)), ?_⟩
        | refine ⟨(by first | exact Nat.zero_lt_one | assumption | omega), rfl, ?_⟩
        | refine ⟨⟨(by first | exact Nat.zero_lt_one | assumption | omega), rfl⟩, Nat.le_of_ble_eq_true rfl, ?_⟩
        | refine ⟨(by first | exact Nat.zero_lt_one | assumption | omega), ?_⟩
        | refine ⟨Or.inl rfl, ?_⟩
        | refine ⟨Or.inr (Or.inl rfl), ?_⟩
        | refine ⟨Or.inr (Or.inr rfl), ?_⟩
        | refine ⟨Or.inr ⟨rfl, (by first | exact Or.inl rfl | exact Or.inr rfl | assumption)⟩, ?_⟩
        | refine ⟨fun h => absurd h (by decide), fun _ => ?_⟩
        | refine ⟨fun _ => ?_, fun h => absurd h (by decide)⟩
        | refine ⟨fun h => ?_, fun h => ?_⟩
        | fail)
  by_cases y0 : y = 0
  · subst y0
    have hk := h2 p hp rfl rfl
    rw [← hc] at hk
    generalize hm0 : zu μ 62 0 (nI p).toNatClampNeg 0 = ν at hk
    rw [hc] at hk
    have L : ∀ (k i : Nat) (v : Int32) (μ1 : zMu), i + k = 48 → v = nI i → μ1 = mOutA ν (nI p) 0 i → zG S (d + 1) m_Mo_there K 49 [some (zR 48 0), some (zI (nI p)), some (zI 0), some (zI (μ 62 0 (nI p).toNatClampNeg)), some (zI v)] [] μ1 := by
      intro k
      induction k with
      | zero =>
        intro i v μ1 hi hv h1
        obtain rfl : i = 48 := by omega
        subst hv h1
        refine zs k_Mo_there rfl ?_; conv => whnf
        repeat' (first
          | refine br_t (by decide) ?_
          | refine fin _ _ hk
          | (refine zs k_Mo_there rfl ?_; conv => whnf)
          | refine ⟨Nat.zero_lt_one, rfl, ?_⟩
          | refine ⟨rfl, ?_⟩
          | refine ⟨⟨Nat.zero_lt_one, rfl⟩, Nat.le_of_ble_eq_true rfl, ?_⟩
          | refine ⟨Nat.le_of_ble_eq_true rfl, Nat.le_of_ble_eq_true rfl, ?_⟩
          | refine ⟨(by first | exact Nat.zero_lt_one | assumption | omega), (by first | assumption | exact vp_in_nI (by omega) (by omega) | (unfold vp_in; decide)), ?_⟩
          | refine ⟨(by first | exact Nat.zero_lt_one | assumption | omega), rfl, ?_⟩
          | refine ⟨⟨(by first | exact Nat.zero_lt_one | assumption | omega), rfl⟩, Nat.le_of_ble_eq_true rfl, ?_⟩
          | refine ⟨(by first | exact Nat.zero_lt_one | assumption | omega), ?_⟩
          | refine ⟨Or.inl rfl, ?_⟩
          | refine ⟨Or.inr (Or.inl rfl), ?_⟩
          | refine ⟨Or.inr (Or.inr rfl), ?_⟩
          | refine ⟨Or.inr ⟨rfl, (by first | exact Or.inl rfl | exact Or.inr rfl | assumption)⟩, ?_⟩
          | refine ⟨fun h => absurd h (by decide), fun _ => ?_⟩
          | refine ⟨fun _ => ?_, fun h => absurd h (by decide)⟩
          | refine ⟨fun h => ?_, fun h => ?_⟩
          | fail)
      | succ k ih =>
        intro i v μ1 hi hv h1
        subst hv
        have hci : (nI i).toNatClampNeg = i := nI_clamp (by omega)
        have e1 : μ1 95 0 (nI i).toNatClampNeg = ν 95 0 i := by rw [h1, hci]; exact mOutA_at
        by_cases hv : ν 95 0 i = nI p
        · have hv' : μ1 95 0 (nI i).toNatClampNeg = nI p := e1.trans hv
          refine zs k_Mo_there rfl ?_; conv => whnf
          repeat' (first
            | refine br_f (nI_ge (b := 48) (by omega) (by omega)) ?_
            | refine bn_f hv' ?_
            | refine ih (i + 1) _ _ (by omega) (by exact nI_1 i) ?_
            | (refine zs k_Mo_there rfl ?_; conv => whnf)
            | refine ⟨Nat.zero_lt_one, rfl, ?_⟩
            | refine ⟨rfl, ?_⟩
            | refine ⟨⟨Nat.zero_lt_one, rfl⟩, Nat.le_of_ble_eq_true rfl, ?_⟩
            | refine ⟨Nat.le_of_ble_eq_true rfl, Nat.le_of_ble_eq_true rfl, ?_⟩
            | refine ⟨(by first | exact Nat.zero_lt_one | assumption | omega), (by first | assumption | exact vp_in_nI (by omega) (by omega) | (unfold vp_in; decide)), ?_⟩
            | refine ⟨(by first | exact Nat.zero_lt_one | assumption | omega), rfl, ?_⟩
            | refine ⟨⟨(by first | exact Nat.zero_lt_one | assumption | omega), rfl⟩, Nat.le_of_ble_eq_true rfl, ?_⟩
            | refine ⟨(by first | exact Nat.zero_lt_one | assumption | omega), ?_⟩
            | refine ⟨Or.inl rfl, ?_⟩
            | refine ⟨Or.inr (Or.inl rfl), ?_⟩
            | refine ⟨Or.inr (Or.inr rfl), ?_⟩
            | refine ⟨Or.inr ⟨rfl, (by first | exact Or.inl rfl | exact Or.inr rfl | assumption)⟩, ?_⟩
            | refine ⟨fun h => absurd h (by decide), fun _ => ?_⟩
            | refine ⟨fun _ => ?_, fun h => absurd h (by decide)⟩
            | refine ⟨fun h => ?_, fun h => ?_⟩
            | fail)
          rw [hci, h1]
          exact mOutA_y (by omega) hv
        · have hv' : ¬ μ1 95 0 (nI i).toNatClampNeg = nI p := by rw [e1]; exact hv
          refine zs k_Mo_there rfl ?_; conv => whnf
          repeat' (first
            | refine br_f (nI_ge (b := 48) (by omega) (by omega)) ?_
            | refine bn_t hv' ?_
            | refine ih (i + 1) _ _ (by omega) (by exact nI_1 i) ?_
            | (refine zs k_Mo_there rfl ?_; conv => whnf)
            | refine ⟨Nat.zero_lt_one, rfl, ?_⟩
            | refine ⟨rfl, ?_⟩
            | refine ⟨⟨Nat.zero_lt_one, rfl⟩, Nat.le_of_ble_eq_true rfl, ?_⟩
            | refine ⟨Nat.le_of_ble_eq_true rfl, Nat.le_of_ble_eq_true rfl, ?_⟩
            | refine ⟨(by first | exact Nat.zero_lt_one | assumption | omega), (by first | assumption | exact vp_in_nI (by omega) (by omega) | (unfold vp_in; decide)), ?_⟩
            | refine ⟨(by first | exact Nat.zero_lt_one | assumption | omega), rfl, ?_⟩
            | refine ⟨⟨(by first | exact Nat.zero_lt_one | assumption | omega), rfl⟩, Nat.le_of_ble_eq_true rfl, ?_⟩
            | refine ⟨(by first | exact Nat.zero_lt_one | assumption | omega), ?_⟩
            | refine ⟨Or.inl rfl, ?_⟩
            | refine ⟨Or.inr (Or.inl rfl), ?_⟩
            | refine ⟨Or.inr (Or.inr rfl), ?_⟩
            | refine ⟨Or.inr ⟨rfl, (by first | exact Or.inl rfl | exact Or.inr rfl | assumption)⟩, ?_⟩
            | refine ⟨fun h => absurd h (by decide), fun _ => ?_⟩
            | refine ⟨fun _ => ?_, fun h => absurd h (by decide)⟩
            | refine ⟨fun h => ?_, fun h => ?_⟩
            | fail)
          rw [e1, hci, h1]
          exact mOutA_n hv
    repeat' (first
      | refine c_Mo_isPerson (fun _ => ?_) (fun h => absurd (by rw [hn]; exact hy) h)
      | refine c_Mo_isIn (lo := 0) (hi := 1) rfl rfl (fun _ => ?_) (fun hb => absurd (by decide) hb)
      | exact L 48 0 _ _ (by omega) rfl (by exact hm0.trans mOutA_0)
      | (refine zs k_Mo_there rfl ?_; conv => whnf)
      | refine ⟨Nat.zero_lt_one, rfl, ?_⟩
      | refine ⟨rfl, ?_⟩
      | refine ⟨⟨Nat.zero_lt_one, rfl⟩, Nat.le_of_ble_eq_true rfl, ?_⟩
      | refine ⟨Nat.le_of_ble_eq_true rfl, Nat.le_of_ble_eq_true rfl, ?_⟩
      | refine ⟨(by first | exact Nat.zero_lt_one | assumption | omega), (by first | assumption | exact vp_in_nI (by omega) (by omega) | (unfold vp_in; decide)), ?_⟩
      | refine ⟨(by first | exact Nat.zero_lt_one | assumption | omega), rfl, ?_⟩
      | refine ⟨⟨(by first | exact Nat.zero_lt_one | assumption | omega), rfl⟩, Nat.le_of_ble_eq_true rfl, ?_⟩
      | refine ⟨(by first | exact Nat.zero_lt_one | assumption | omega), ?_⟩
      | refine ⟨Or.inl rfl, ?_⟩
      | refine ⟨Or.inr (Or.inl rfl), ?_⟩
      | refine ⟨Or.inr (Or.inr rfl), ?_⟩
      | refine ⟨Or.inr ⟨rfl, (by first | exact Or.inl rfl | exact Or.inr rfl | assumption)⟩, ?_⟩
      | refine ⟨fun h => absurd h (by decide), fun _ => ?_⟩
      | refine ⟨fun _ => ?_, fun h => absurd h (by decide)⟩
      | refine ⟨fun h => ?_, fun h => ?_⟩
      | fail)
  · by_cases y1 : y = 1
    · subst y1
      have hk := h3 p hp rfl rfl
      rw [← hc] at hk
      generalize hm0 : zu μ 62 0 (nI p).toNatClampNeg 1 = ν at hk
      rw [hc] at hk
      repeat' (first
        | refine c_Mo_isPerson (fun _ => ?_) (fun h => absurd (by rw [hn]; exact hy) h)
        | refine c_Mo_isIn (lo := 0) (hi := 1) rfl rfl (fun _ => ?_) (fun hb => absurd (by decide) hb)
        | refine br_f (show ¬ (48 : Int32) ≤ 0 by decide) ?_
        | refine fin _ _ (by rw [show zu μ 62 0 (nI p).toNatClampNeg (vp_nar .boolean 1) = ν from hm0]; exact hk)
        | (refine zs k_Mo_there rfl ?_; conv => whnf)
        | refine ⟨Nat.zero_lt_one, rfl, ?_⟩
        | refine ⟨rfl, ?_⟩
        | refine ⟨⟨Nat.zero_lt_one, rfl⟩, Nat.le_of_ble_eq_true rfl, ?_⟩
        | refine ⟨Nat.le_of_ble_eq_true rfl, Nat.le_of_ble_eq_true rfl, ?_⟩
        | refine ⟨(by first | exact Nat.zero_lt_one | assumption | omega), (by first | assumption | exact vp_in_nI (by omega) (by omega) | (unfold vp_in; decide)), ?_⟩
        | refine ⟨(by first | exact Nat.zero_lt_one | assumption | omega), rfl, ?_⟩
        | refine ⟨⟨(by first | exact Nat.zero_lt_one | assumption | omega), rfl⟩, Nat.le_of_ble_eq_true rfl, ?_⟩
        | refine ⟨(by first | exact Nat.zero_lt_one | assumption | omega), ?_⟩
        | refine ⟨Or.inl rfl, ?_⟩
        | refine ⟨Or.inr (Or.inl rfl), ?_⟩
        | refine ⟨Or.inr (Or.inr rfl), ?_⟩
        | refine ⟨Or.inr ⟨rfl, (by first | exact Or.inl rfl | exact Or.inr rfl | assumption)⟩, ?_⟩
        | refine ⟨fun h => absurd h (by decide), fun _ => ?_⟩
        | refine ⟨fun _ => ?_, fun h => absurd h (by decide)⟩
        | refine ⟨fun h => ?_, fun h => ?_⟩
        | fail)
    · have hk := h1 p hp rfl (fun z => z.elim y0 y1)
      repeat' (first
        | refine c_Mo_isPerson (fun _ => ?_) (fun h => absurd (by rw [hn]; exact hy) h)
        | refine c_Mo_isIn (lo := 0) (hi := 1) rfl rfl (fun hb => absurd (i01.mp hb) (fun z => z.elim y0 y1)) (fun hb => ?_)
        | exact hk
        | (refine zs k_Mo_there rfl ?_; conv => whnf)
        | refine ⟨Nat.zero_lt_one, rfl, ?_⟩
        | refine ⟨rfl, ?_⟩
        | refine ⟨⟨Nat.zero_lt_one, rfl⟩, Nat.le_of_ble_eq_true rfl, ?_⟩
        | refine ⟨Nat.le_of_ble_eq_true rfl, Nat.le_of_ble_eq_true rfl, ?_⟩
        | refine ⟨(by first | exact Nat.zero_lt_one | assumption | omega), (by first | assumption | exact vp_in_nI (by omega) (by omega) | (unfold vp_in; decide)), ?_⟩
        | refine ⟨(by first | exact Nat.zero_lt_one | assumption | omega), rfl, ?_⟩
        | refine ⟨⟨(by first | exact Nat.zero_lt_one | assumption | omega), rfl⟩, Nat.le_of_ble_eq_true rfl, ?_⟩
        | refine ⟨(by first | exact Nat.zero_lt_one | assumption | omega), ?_⟩
        | refine ⟨Or.inl rfl, ?_⟩
        | refine ⟨Or.inr (Or.inl rfl), ?_⟩
        | refine ⟨Or.inr (Or.inr rfl), ?_⟩
        | refine ⟨Or.inr ⟨rfl, (by first | exact Or.inl rfl | exact Or.inr rfl | assumption)⟩, ?_⟩
        | refine ⟨fun h => absurd h (by decide), fun _ => ?_⟩
        | refine ⟨fun _ => ?_, fun h => absurd h (by decide)⟩
        | refine ⟨fun h => ?_, fun h => ?_⟩
        | fail)
theorem gPe_th {μ μ' : zMu} {ns n p : Nat} {v : Int32} (hv : v = 0 ∨ v = 1) (h : ∀ f, f ∈ [1, 11, 13, 14, 15, 16, 17, 56, 57, 58, 59, 60, 61] → μ' f = μ f) (h48 : μ' 48 0 5 = μ 48 0 5) (h10 : ∀ q, μ' 10 0 q = if q = p then v else μ 10 0 q) (h62 : ∀ q, μ' 62 0 q = if q = p then v else μ 62 0 q) (g : gPe μ ns n) : gPe μ' ns n := by
  obtain ⟨g1, g2, g3, g4⟩ := g
  refine ⟨by rw [h 1 (by simp)]; exact g1, by rw [h48]; exact g2, g3, fun q hq => ?_⟩
  have g5 := g4 q hq
  unfold gP1 cRank cPap cPq cOwn at *
  rw [h 11 (by simp), h 13 (by simp), h 14 (by simp), h 15 (by simp), h 16 (by simp), h 17 (by simp), h 56 (by simp), h 57 (by simp), h 58 (by simp), h 59 (by simp), h 60 (by simp), h 61 (by simp), h10, h62]
  obtain ⟨a1, a2, a3⟩ := g5
  refine ⟨?_, ?_, a3⟩
  · by_cases e : q = p
    · rw [if_pos e, if_pos e]
    · rw [if_neg e, if_neg e]
      exact a1
  · by_cases e : q = p
    · rw [if_pos e]
      exact hv
    · rw [if_neg e]
      exact a2
theorem b_there {μ : zMu} {x y : Int32} (h : Rel μ) : Both m_De_there m_Mo_there [zI x, zI y] μ := by
  intro d K hK
  obtain ⟨ns, n, nr, nh, nt, nb, L, g1, g2, g3, g4, g5, g6, g7, g8, g9, g10, g11⟩ := id h
  have h20 := g2.2.2.1
  have h62 : ∀ p, p < n → μ 62 0 p = μ 10 0 p ∧ (μ 10 0 p = 0 ∨ μ 10 0 p = 1) := fun p hp => ⟨(g2.2.2.2 p hp).1, (g2.2.2.2 p hp).2.1⟩
  refine c_De_there g2 g6 (fun hb => hK _ _ (fun d K2 hK2 => ?_)) (fun p hp hx hb => hK _ _ (fun d K2 hK2 => ?_)) (fun p hp hx hb => hK _ _ (fun d K2 hK2 => ?_)) (fun p hp hx hb => hK _ _ (fun d K2 hK2 => ?_))
  · exact c_Mo_there (ns := ns) g2.2.1 h20 h62 (fun _ => hK2 _ h) (fun p hp hx => absurd (by rw [hx]; exact zIx_y hp (by omega)) hb) (fun p hp hx => absurd (by rw [hx]; exact zIx_y hp (by omega)) hb) (fun p hp hx => absurd (by rw [hx]; exact zIx_y hp (by omega)) hb)
  · subst hx
    exact c_Mo_there (ns := ns) g2.2.1 h20 h62 (fun q => absurd (zIx_y hp (by omega)) q) (fun p' hp' hx _ => hK2 _ h) (fun p' hp' hx q => absurd (Or.inl q) hb) (fun p' hp' hx q => absurd (Or.inr q) hb)
  · subst hx hb
    refine c_Mo_there (ns := ns) (n := n) (μ0 := μ) g2.2.1 h20 h62 (fun q => absurd (zIx_y hp (by omega)) q) (fun p' hp' hx q => absurd (Or.inl rfl) q) (fun p' hp' hx _ => ?_) (fun p' hp' hx q => absurd q (by decide))
    obtain rfl := (nI_eq (by omega) (by omega)).mp hx
    refine hK2 _ ?_
    have e0 : ∀ f, f ≠ 10 → f ≠ 40 → f ≠ 62 → f ≠ 95 → mOutA (zu (cOutA (zu μ 10 0 p 0) (nI p) nt) 62 0 p 0) (nI p) 0 48 f = μ f := fun f q1 q2 q3 q4 => by
      funext a b
      unfold mOutA cOutA
      rw [if_neg (fun z => q4 z.1), zu_ne (fun z => q3 z.1), if_neg (fun z => q2 z.1), zu_ne (fun z => q1 z.1)]
    have e10 : ∀ q, mOutA (zu (cOutA (zu μ 10 0 p 0) (nI p) nt) 62 0 p 0) (nI p) 0 48 10 0 q = if q = p then 0 else μ 10 0 q := fun q => by
      unfold mOutA cOutA
      rw [if_neg (by omega), zu_ne (by omega), if_neg (by omega)]
      by_cases e : q = p
      · subst e
        rw [zu_eq, if_pos rfl]
      · rw [zu_ne (fun z => e z.2.1), if_neg e]
    have e62 : ∀ q, mOutA (zu (cOutA (zu μ 10 0 p 0) (nI p) nt) 62 0 p 0) (nI p) 0 48 62 0 q = if q = p then 0 else μ 62 0 q := fun q => by
      unfold mOutA cOutA
      rw [if_neg (by omega)]
      by_cases e : q = p
      · subst e
        rw [zu_eq, if_pos rfl]
      · rw [zu_ne (fun z => e z.2.1), if_neg e, if_neg (by omega), zu_ne (by omega)]
    have e40 : ∀ t k, mOutA (zu (cOutA (zu μ 10 0 p 0) (nI p) nt) 62 0 p 0) (nI p) 0 48 40 t k = if t < nt ∧ k < (μ 9 t 0).toNatClampNeg ∧ μ 40 t k = nI p then -1 else μ 40 t k := fun t k => by
      unfold mOutA cOutA
      rw [if_neg (by omega), zu_ne (by omega)]
      show (if 40 = 40 ∧ t < nt ∧ k < (μ 9 t 0).toNatClampNeg ∧ μ 40 t k = nI p then -1 else μ 40 t k) = _
      simp only [true_and]
    have e95 : ∀ b, mOutA (zu (cOutA (zu μ 10 0 p 0) (nI p) nt) 62 0 p 0) (nI p) 0 48 95 0 b = if b < 48 ∧ μ 95 0 b = nI p then -1 else μ 95 0 b := fun b => by
      show (if 95 = 95 ∧ 0 = 0 ∧ 0 ≤ b ∧ b < 48 ∧ μ 95 0 b = nI p then -1 else μ 95 0 b) = _
      simp only [true_and, Nat.zero_le]
    generalize mOutA (zu (cOutA (zu μ 10 0 p 0) (nI p) nt) 62 0 p 0) (nI p) 0 48 = M at *
    have e48 : M 48 = μ 48 := e0 48 (by omega) (by omega) (by omega) (by omega)
    have ef : ∀ l : List Nat, l.all (fun f => !([10, 40, 62, 95] : List Nat).contains f) = true → ∀ f, f ∈ l → M f = μ f := fun l hl f hf => by
      have := List.all_eq_true.mp hl f hf
      simp at this
      exact e0 f this.1 this.2.1 this.2.2.1 this.2.2.2
    refine ⟨ns, n, nr, nh, nt, nb, L, gSt_fr (ef _ rfl) (by rw [e48]) g1, gPe_th (Or.inl rfl) (ef _ rfl) (by rw [e48]) e10 e62 g2, gTp_fr (ef _ rfl) (by rw [ef [2] rfl 2 (by simp)]) (by rw [e48]) g3, gRu_fr (ef _ rfl) (by rw [e48]) g4, gHd_fr (ef _ rfl) (by rw [e48]) g5, ⟨?_, ?_, g6.2.2.1, fun t ht => ?_⟩, gFe_fr (ef _ rfl) g7, gCo_fr (ef _ rfl) g8, gVs_fr (ef _ rfl) (by rw [e48]) g9, gWi_fr (ef [7] rfl 7 (by simp)) (by rw [e48]) g10, gCs_fr (ef _ rfl) g11⟩
    · rw [ef [5] rfl 5 (by simp)]
      exact g6.1
    · rw [e48]
      exact g6.2.1
    · have h4 := g6.2.2.1
      obtain ⟨a1, a2, ⟨z, z1, z2, z3, z4, z5⟩, a4, a5, a6⟩ := g6.2.2.2 t ht
      have hzc : (μ 9 t 0).toNatClampNeg = z := by rw [z3]; exact nI_clamp (by omega)
      have e40' : ∀ k, k < 12 → M 40 t k = if μ 40 t k = nI p then -1 else μ 40 t k := fun k hk => by
        rw [e40, hzc]
        by_cases q : μ 40 t k = nI p
        · rcases Nat.lt_or_ge k z with hz | hz
          · rw [if_pos ⟨ht, hz, q⟩, if_pos q]
          · exact absurd (z5 k hz hk) (by rw [q]; exact nI_nem1 (by omega))
        · rw [if_neg (fun w => q w.2.2), if_neg q]
      unfold gT1
      rw [ef [9] rfl 9 (by simp), ef [93] rfl 93 (by simp), ef [94] rfl 94 (by simp)]
      refine ⟨a1, a2, ⟨z, z1, z2, z3, z4, fun k hk hk2 => ?_⟩, fun k hk => ?_, fun k hk => ?_, fun j k hj hk he => ?_⟩
      · rw [e40' k hk2, z5 k hk hk2]
        split <;> rfl
      · rw [e95, e40' k hk, a4 k hk]
        by_cases q : μ 40 t k = nI p
        · rw [if_pos ⟨by omega, q⟩, if_pos q]
        · rw [if_neg (fun w => q w.2), if_neg q]
      · rw [e40' k hk]
        by_cases q : μ 40 t k = nI p
        · rw [if_pos q]
          exact Or.inl rfl
        · rw [if_neg q]
          rcases a5 k hk with r | ⟨u, hu, r1, r2⟩
          · exact Or.inl r
          · refine Or.inr ⟨u, hu, r1, ?_⟩
            rw [e10, if_neg]
            · exact r2
            · rintro rfl
              exact q r1
      · rw [e40' j (by omega)] at he ⊢
        rw [e40' k hk] at he
        by_cases q : μ 40 t j = nI p
        · rw [if_pos q]
        · rw [if_neg q] at he ⊢
          by_cases q2 : μ 40 t k = nI p
          · rw [if_pos q2] at he
            exact he
          · rw [if_neg q2] at he
            exact a6 j k hj hk he
  · subst hx hb
    refine c_Mo_there (ns := ns) (n := n) (μ0 := μ) g2.2.1 h20 h62 (fun q => absurd (zIx_y hp (by omega)) q) (fun p' hp' hx q => absurd (Or.inr rfl) q) (fun p' hp' hx q => absurd q (by decide)) (fun p' hp' hx _ => ?_)
    obtain rfl := (nI_eq (by omega) (by omega)).mp hx
    refine hK2 _ ?_
    have e10 : ∀ q, zu (zu μ 10 0 p 1) 62 0 p 1 10 0 q = if q = p then 1 else μ 10 0 q := fun q => by
      rw [zu_ne (by omega)]
      by_cases e : q = p
      · subst e
        rw [zu_eq, if_pos rfl]
      · rw [zu_ne (fun z => e z.2.1), if_neg e]
    have e62 : ∀ q, zu (zu μ 10 0 p 1) 62 0 p 1 62 0 q = if q = p then 1 else μ 62 0 q := fun q => by
      by_cases e : q = p
      · subst e
        rw [zu_eq, if_pos rfl]
      · rw [zu_ne (fun z => e z.2.1), if_neg e, zu_ne (by omega)]
    have e0 : ∀ f, f ≠ 10 → f ≠ 62 → zu (zu μ 10 0 p 1) 62 0 p 1 f = μ f := fun f q1 q2 => by
      funext a b
      rw [zu_ne (fun z => q2 z.1), zu_ne (fun z => q1 z.1)]
    generalize zu (zu μ 10 0 p 1) 62 0 p 1 = M at *
    have e48 : M 48 = μ 48 := e0 48 (by omega) (by omega)
    have ef : ∀ l : List Nat, l.all (fun f => !([10, 62] : List Nat).contains f) = true → ∀ f, f ∈ l → M f = μ f := fun l hl f hf => by
      have := List.all_eq_true.mp hl f hf
      simp at this
      exact e0 f this.1 this.2
    refine ⟨ns, n, nr, nh, nt, nb, L, gSt_fr (ef _ rfl) (by rw [e48]) g1, gPe_th (Or.inr rfl) (ef _ rfl) (by rw [e48]) e10 e62 g2, gTp_fr (ef _ rfl) (by rw [ef [2] rfl 2 (by simp)]) (by rw [e48]) g3, gRu_fr (ef _ rfl) (by rw [e48]) g4, gHd_fr (ef _ rfl) (by rw [e48]) g5, ⟨?_, ?_, g6.2.2.1, fun t ht => ?_⟩, gFe_fr (ef _ rfl) g7, gCo_fr (ef _ rfl) g8, gVs_fr (ef _ rfl) (by rw [e48]) g9, gWi_fr (ef [7] rfl 7 (by simp)) (by rw [e48]) g10, gCs_fr (ef _ rfl) g11⟩
    · rw [ef [5] rfl 5 (by simp)]
      exact g6.1
    · rw [e48]
      exact g6.2.1
    · obtain ⟨a1, a2, a3, a4, a5, a6⟩ := g6.2.2.2 t ht
      unfold gT1
      rw [ef [9] rfl 9 (by simp), ef [40] rfl 40 (by simp), ef [93] rfl 93 (by simp), ef [94] rfl 94 (by simp), ef [95] rfl 95 (by simp)]
      refine ⟨a1, a2, a3, a4, fun k hk => ?_, a6⟩
      rcases a5 k hk with r | ⟨u, hu, r1, r2⟩
      · exact Or.inl r
      · refine Or.inr ⟨u, hu, r1, ?_⟩
        rw [e10]
        split
        · rfl
        · exact r2
/-! DESK: split, table, feud, talk -/
theorem set_lt {x : Int32} {n : Nat} (hn : n ≤ 20) : (¬ x < 0 ∧ x < 1 <<< (nI n &&& 31)) ↔ bN x < 2 ^ n := by
  have hp : 2 ^ n ≤ 2 ^ 20 := Nat.pow_le_pow_right (by omega) hn
  have e : (1 : Int32) <<< (nI n &&& 31) = nI (2 ^ n) := by
    have := pk_shlN (n := 1) (nI n &&& 31) n (bt_s n (by omega)) (by omega)
    rw [Nat.one_mul] at this
    exact this
  rw [e]
  constructor
  · rintro ⟨h1, h2⟩
    obtain ⟨j, hj, rfl⟩ := nI_of h1
    rw [bN_nI (by omega)]
    exact (nI_ltI hj (by omega)).mp h2
  · intro h
    have hx : x = nI (bN x) := bN_inj (by rw [bN_nI (bN_lt x)])
    rw [hx]
    exact ⟨nI_pos (by omega), nI_lt h (by omega)⟩
theorem bit_s {x : Int32} {n p : Nat} (hn : n ≤ 20) (hx : bN x < 2 ^ n) (hp : p < 32) : ((x >>> (nI p &&& 31)) &&& 1 = 1) ↔ zbit x (nI p) := by
  have hq : 2 ^ n ≤ 2 ^ 20 := Nat.pow_le_pow_right (by omega) hn
  have e : x = nI (bN x) := bN_inj (by rw [bN_nI (bN_lt x)])
  rw [zbit_iff hp, e, pk_shrN (by omega) (nI p &&& 31) p (bt_s p hp), bt_1, bt_is (Nat.mod_lt _ (by omega)), bN_nI (show bN x / 2 ^ p < 2 ^ 32 from Nat.lt_of_le_of_lt (Nat.div_le_self _ _) (by omega)), bN_nI (by omega), Nat.testBit_eq_decide_div_mod_eq, decide_eq_true_iff]
def okSp (x y w : Int32) (n : Nat) : Prop := okSt x y ∧ bN w < 2 ^ n
def cSp (μ : zMu) (ns n : Nat) (s x y w : Int32) : zMu := cMv (zu (zu (zu μ 13 0 ns x) 14 0 ns y) 1 0 0 (nI (ns + 1))) s (nI ns) w n
theorem c_De_split {d ns n : Nat} {μ : zMu} {s x y w : Int32} {K : Option zV → zMu → Prop} (hs : μ 1 0 0 = nI ns) (h10 : ns ≤ 10) (hn : μ 1 0 1 = nI n) (h20 : n ≤ 20) (h0 : ¬ (0 ≤ s ∧ s < nI ns) → K (some (zI (-1))) μ) (h1 : (0 ≤ s ∧ s < nI ns) → ¬ okSp x y w n → K (some (zI (-2))) μ) (h2 : (0 ≤ s ∧ s < nI ns) → okSp x y w n → ns = 10 → K (some (zI (-4))) μ) (h3 : (0 ≤ s ∧ s < nI ns) → okSp x y w n → ns < 10 → K (some (zI (nI ns))) (cSp μ ns n s x y w)) : Ct (d + 3) m_De_split [zR 0 0, zI s, zI x, zI y, zI w] μ K := by
  refine zmeet rfl (Nat.le_of_ble_eq_true rfl) (fun S => ?_)
  have hcl : (μ 1 0 0).toNatClampNeg = ns := by rw [hs]; exact nI_clamp (by omega)
  have hset : (w.toUInt32 >>> ((μ 1 0 1).toUInt32 &&& Int32.toUInt32 31)).toInt32 = 0 ↔ bN w < 2 ^ n := by rw [hn]; exact set_ok (by omega)
  by_cases hsx : 0 ≤ s ∧ s < nI ns
  case neg =>
    have hk := h0 hsx
    repeat' (first
      | refine c_Ro_hasState (fun h h' => absurd (by rw [← hs]; exact ⟨h, h'⟩) hsx) (fun _ => ?_)
      | exact hk
      | (refine zs k_De_split rfl ?_; conv => whnf)
      | refine ⟨Nat.zero_lt_one, rfl, ?_⟩
      | refine ⟨rfl, ?_⟩
      | refine ⟨⟨Nat.zero_lt_one, rfl⟩, Nat.le_of_ble_eq_true rfl, ?_⟩
      | refine ⟨Nat.le_of_ble_eq_true rfl, Nat.le_of_ble_eq_true rfl, ?_⟩
      | refine ⟨(by first | exact Nat.zero_lt_one | assumption | omega), (by first | assumption | exact vp_in_nI (by omega) (by omega) | (unfold vp_in; decide)), ?_⟩
      | refine ⟨(by first | exact Nat.zero_lt_one | assumption | omega), rfl, ?_⟩
      | refine ⟨⟨(by first | exact Nat.zero_lt_one | assumption | omega), rfl⟩, Nat.le_of_ble_eq_true rfl, ?_⟩
      | refine ⟨(by first | exact Nat.zero_lt_one | assumption | omega), ?_⟩
      | refine ⟨Or.inl rfl, ?_⟩
      | refine ⟨Or.inr (Or.inl rfl), ?_⟩
      | refine ⟨Or.inr (Or.inr rfl), ?_⟩
      | refine ⟨Or.inr ⟨rfl, (by first | exact Or.inl rfl | exact Or.inr rfl | assumption)⟩, ?_⟩
      | refine ⟨fun h => absurd h (by decide), fun _ => ?_⟩
      | refine ⟨fun _ => ?_, fun h => absurd h (by decide)⟩
      | refine ⟨fun h => ?_, fun h => ?_⟩
      | fail)
  have hsx' : 0 ≤ s ∧ s < μ 1 0 0 := by rw [hs]; exact hsx
  by_cases ho : okSp x y w n
  case neg =>
    have hk := h1 hsx ho
    repeat' (first
      | refine c_Ro_hasState (fun _ _ => ?_) (fun h => absurd hsx' h)
      | refine c_Ro_isStateAsTold (fun hb => ?_) (fun hb => ?_)
      | refine c_Ro_isSetOfPersons (fun hc => absurd ⟨hb, hset.mp hc⟩ ho) (fun hc => ?_)
      | exact hk
      | (refine zs k_De_split rfl ?_; conv => whnf)
      | refine ⟨Nat.zero_lt_one, rfl, ?_⟩
      | refine ⟨rfl, ?_⟩
      | refine ⟨⟨Nat.zero_lt_one, rfl⟩, Nat.le_of_ble_eq_true rfl, ?_⟩
      | refine ⟨Nat.le_of_ble_eq_true rfl, Nat.le_of_ble_eq_true rfl, ?_⟩
      | refine ⟨(by first | exact Nat.zero_lt_one | assumption | omega), (by first | assumption | exact vp_in_nI (by omega) (by omega) | (unfold vp_in; decide)), ?_⟩
      | refine ⟨(by first | exact Nat.zero_lt_one | assumption | omega), rfl, ?_⟩
      | refine ⟨⟨(by first | exact Nat.zero_lt_one | assumption | omega), rfl⟩, Nat.le_of_ble_eq_true rfl, ?_⟩
      | refine ⟨(by first | exact Nat.zero_lt_one | assumption | omega), ?_⟩
      | refine ⟨Or.inl rfl, ?_⟩
      | refine ⟨Or.inr (Or.inl rfl), ?_⟩
      | refine ⟨Or.inr (Or.inr rfl), ?_⟩
      | refine ⟨Or.inr ⟨rfl, (by first | exact Or.inl rfl | exact Or.inr rfl | assumption)⟩, ?_⟩
      | refine ⟨fun h => absurd h (by decide), fun _ => ?_⟩
      | refine ⟨fun _ => ?_, fun h => absurd h (by decide)⟩
      | refine ⟨fun h => ?_, fun h => ?_⟩
      | fail)
  rcases Nat.lt_or_ge ns 10 with h | h
  · have hk := h3 hsx ho h
    have hlt : μ 1 0 0 < 10 := by rw [hs]; exact nI_lt (b := 10) h (by omega)
    have hv : vp_in (μ 1 0 0) 10 := by rw [hs]; exact vp_in_nI h (by omega)
    have ea : μ 1 0 0 + 1 - 1 = nI ns := by rw [hs, nI_1, nI_pred]
    have em : zu (zu (zu μ 13 0 (μ 1 0 0).toNatClampNeg x) 14 0 (μ 1 0 0).toNatClampNeg y) 1 0 0 (μ 1 0 0 + 1) = zu (zu (zu μ 13 0 ns x) 14 0 ns y) 1 0 0 (nI (ns + 1)) := by rw [hcl, hs, nI_1]
    have hv2 : vp_in (μ 1 0 0 + 1 - 1) 10 := by rw [ea]; exact vp_in_nI h (by omega)
    repeat' (first
      | refine c_Ro_hasState (fun _ _ => ?_) (fun h => absurd hsx' h)
      | refine c_Ro_isStateAsTold (fun hb => ?_) (fun hb => absurd ho.1 hb)
      | refine c_Ro_isSetOfPersons (fun hc => ?_) (fun hc => absurd (hset.mpr ho.2) hc)
      | refine br_t hlt ?_
      | refine c_Ro_addState hv ?_
      | refine c_Ro_moveHome (n := n) (by exact hn) h20 hv2 ?_
      | exact zKe hk ea (by rw [em, ea]; rfl)
      | (refine zs k_De_split rfl ?_; conv => whnf)
      | refine ⟨Nat.zero_lt_one, rfl, ?_⟩
      | refine ⟨rfl, ?_⟩
      | refine ⟨⟨Nat.zero_lt_one, rfl⟩, Nat.le_of_ble_eq_true rfl, ?_⟩
      | refine ⟨Nat.le_of_ble_eq_true rfl, Nat.le_of_ble_eq_true rfl, ?_⟩
      | refine ⟨(by first | exact Nat.zero_lt_one | assumption | omega), (by first | assumption | exact vp_in_nI (by omega) (by omega) | (unfold vp_in; decide)), ?_⟩
      | refine ⟨(by first | exact Nat.zero_lt_one | assumption | omega), rfl, ?_⟩
      | refine ⟨⟨(by first | exact Nat.zero_lt_one | assumption | omega), rfl⟩, Nat.le_of_ble_eq_true rfl, ?_⟩
      | refine ⟨(by first | exact Nat.zero_lt_one | assumption | omega), ?_⟩
      | refine ⟨Or.inl rfl, ?_⟩
      | refine ⟨Or.inr (Or.inl rfl), ?_⟩
      | refine ⟨Or.inr (Or.inr rfl), ?_⟩
      | refine ⟨Or.inr ⟨rfl, (by first | exact Or.inl rfl | exact Or.inr rfl | assumption)⟩, ?_⟩
      | refine ⟨fun h => absurd h (by decide), fun _ => ?_⟩
      | refine ⟨fun _ => ?_, fun h => absurd h (by decide)⟩
      | refine ⟨fun h => ?_, fun h => ?_⟩
      | fail)
  · have hk := h2 hsx ho (by omega)
    have hlt : ¬ μ 1 0 0 < 10 := by rw [hs]; exact nI_nlt (b := 10) h (by omega)
    repeat' (first
      | refine c_Ro_hasState (fun _ _ => ?_) (fun h => absurd hsx' h)
      | refine c_Ro_isStateAsTold (fun hb => ?_) (fun hb => absurd ho.1 hb)
      | refine c_Ro_isSetOfPersons (fun hc => ?_) (fun hc => absurd (hset.mpr ho.2) hc)
      | refine br_f hlt ?_
      | exact hk
      | (refine zs k_De_split rfl ?_; conv => whnf)
      | refine ⟨Nat.zero_lt_one, rfl, ?_⟩
      | refine ⟨rfl, ?_⟩
      | refine ⟨⟨Nat.zero_lt_one, rfl⟩, Nat.le_of_ble_eq_true rfl, ?_⟩
      | refine ⟨Nat.le_of_ble_eq_true rfl, Nat.le_of_ble_eq_true rfl, ?_⟩
      | refine ⟨(by first | exact Nat.zero_lt_one | assumption | omega), (by first | assumption | exact vp_in_nI (by omega) (by omega) | (unfold vp_in; decide)), ?_⟩
      | refine ⟨(by first | exact Nat.zero_lt_one | assumption | omega), rfl, ?_⟩
      | refine ⟨⟨(by first | exact Nat.zero_lt_one | assumption | omega), rfl⟩, Nat.le_of_ble_eq_true rfl, ?_⟩
      | refine ⟨(by first | exact Nat.zero_lt_one | assumption | omega), ?_⟩
      | refine ⟨Or.inl rfl, ?_⟩
      | refine ⟨Or.inr (Or.inl rfl), ?_⟩
      | refine ⟨Or.inr (Or.inr rfl), ?_⟩
      | refine ⟨Or.inr ⟨rfl, (by first | exact Or.inl rfl | exact Or.inr rfl | assumption)⟩, ?_⟩
      | refine ⟨fun h => absurd h (by decide), fun _ => ?_⟩
      | refine ⟨fun _ => ?_, fun h => absurd h (by decide)⟩
      | refine ⟨fun h => ?_, fun h => ?_⟩
      | fail)
abbrev zbe (x p : Int32) : Prop := (x.toUInt32 >>> (p.toUInt32 &&& Int32.toUInt32 31)).toInt32 &&& 1 = 1
def mMv (μ : zMu) (s to w : Int32) (i : Nat) : zMu := fun f a b => if f = 56 ∧ a = 0 ∧ b < i ∧ zbe w (nI b) ∧ μ 56 0 b = s then to else μ f a b
set_option maxHeartbeats 1000000 in
theorem c_Mo_split {d ns n : Nat} {μ : zMu} {s x y w : Int32} {K : Option zV → zMu → Prop} (hs : μ 48 0 0 = nI ns) (h10 : ns ≤ 10) (hn : μ 48 0 5 = nI n) (h20 : n ≤ 20) (h0 : ¬ (0 ≤ s ∧ s < nI ns) → K (some (zI (-1))) μ) (h1 : (0 ≤ s ∧ s < nI ns) → ¬ okSp x y w n → K (some (zI (-2))) μ) (h2 : (0 ≤ s ∧ s < nI ns) → okSp x y w n → ns = 10 → K (some (zI (-4))) μ) (h3 : (0 ≤ s ∧ s < nI ns) → okSp x y w n → ns < 10 → K (some (zI (nI ns))) (mMv (zu (zu (zu μ 51 0 ns x) 52 0 ns y) 48 0 0 (nI (ns + 1))) s (nI ns) w n)) : Ct (d + 2) m_Mo_split [zR 48 0, zI s, zI x, zI y, zI w] μ K := by
  refine zmeet rfl (Nat.le_of_ble_eq_true rfl) (fun S => ?_)
  have hset : (¬ w < 0 ∧ w < 1 <<< (μ 48 0 5 &&& 31)) ↔ bN w < 2 ^ n := by rw [hn]; exact set_lt h20
  by_cases hsx : 0 ≤ s ∧ s < nI ns
  case neg =>
    have hk := h0 hsx
    repeat' (first
      | refine c_Mo_isState (fun h => absurd (by rw [← hs]; exact h) hsx) (fun _ => ?_)
      | exact hk
      | (refine zs k_Mo_split rfl ?_; conv => whnf)
      | refine ⟨Nat.zero_lt_one, rfl, ?_⟩
      | refine ⟨rfl, ?_⟩
      | refine ⟨⟨Nat.zero_lt_one, rfl⟩, Nat.le_of_ble_eq_true rfl, ?_⟩
      | refine ⟨Nat.le_of_ble_eq_true rfl, Nat.le_of_ble_eq_true rfl, ?_⟩
      | refine ⟨(by first | exact Nat.zero_lt_one | assumption | omega), (by first | assumption | exact vp_in_nI (by omega) (by omega) | (unfold vp_in; decide)), ?_⟩
      | refine ⟨(by first | exact Nat.zero_lt_one | assumption | omega), rfl, ?_⟩
      | refine ⟨⟨(by first | exact Nat.zero_lt_one | assumption | omega), rfl⟩, Nat.le_of_ble_eq_true rfl, ?_⟩
      | refine ⟨(by first | exact Nat.zero_lt_one | assumption | omega), ?_⟩
      | refine ⟨Or.inl rfl, ?_⟩
      | refine ⟨Or.inr (Or.inl rfl), ?_⟩
      | refine ⟨Or.inr (Or.inr rfl), ?_⟩
      | refine ⟨Or.inr ⟨rfl, (by first | exact Or.inl rfl | exact Or.inr rfl | assumption)⟩, ?_⟩
      | refine ⟨fun h => absurd h (by decide), fun _ => ?_⟩
      | refine ⟨fun _ => ?_, fun h => absurd h (by decide)⟩
      | refine ⟨fun h => ?_, fun h => ?_⟩
      | fail)
  have hsx' : 0 ≤ s ∧ s < μ 48 0 0 := by rw [hs]; exact hsx
  by_cases ho : okSp x y w n
  case neg =>
    have hk := h1 hsx ho
    repeat' (first
      | refine c_Mo_isState (fun _ => ?_) (fun h => absurd hsx' h)
      | refine c_Mo_isIn (lo := 0) (hi := 99) rfl rfl (fun hb => ?_) (fun hb => ?_)
      | refine c_Mo_isIn (lo := 0) (hi := 7) rfl rfl (fun hc => ?_) (fun hc => ?_)
      | exact hk
      | (refine zs k_Mo_split rfl ?_; conv => whnf)
      | refine ⟨Nat.zero_lt_one, rfl, ?_⟩
      | refine ⟨rfl, ?_⟩
      | refine ⟨⟨Nat.zero_lt_one, rfl⟩, Nat.le_of_ble_eq_true rfl, ?_⟩
      | refine ⟨Nat.le_of_ble_eq_true rfl, Nat.le_of_ble_eq_true rfl, ?_⟩
      | refine ⟨(by first | exact Nat.zero_lt_one | assumption | omega), (by first | assumption | exact vp_in_nI (by omega) (by omega) | (unfold vp_in; decide)), ?_⟩
      | refine ⟨(by first | exact Nat.zero_lt_one | assumption | omega), rfl, ?_⟩
      | refine ⟨⟨(by first | exact Nat.zero_lt_one | assumption | omega), rfl⟩, Nat.le_of_ble_eq_true rfl, ?_⟩
      | refine ⟨(by first | exact Nat.zero_lt_one | assumption | omega), ?_⟩
      | refine ⟨Or.inl rfl, ?_⟩
      | refine ⟨Or.inr (Or.inl rfl), ?_⟩
      | refine ⟨Or.inr (Or.inr rfl), ?_⟩
      | refine ⟨Or.inr ⟨rfl, (by first | exact Or.inl rfl | exact Or.inr rfl | assumption)⟩, ?_⟩
      | refine ⟨fun h => absurd h (by decide), fun _ => ?_⟩
      | refine ⟨fun _ => ?_, fun h => absurd h (by decide)⟩
      | refine ⟨fun h => ?_, fun h => ?_⟩
      | exact absurd ⟨⟨hb.1, hb.2, hc.1, lt8.mpr hc.2⟩, hset.mp ⟨by assumption, by assumption⟩⟩ ho
      | fail)
  have w0 : ¬ w < 0 := (hset.mpr ho.2).1
  have w1 : w < 1 <<< (μ 48 0 5 &&& 31) := (hset.mpr ho.2).2
  have c1 : (0 : Int32) ≤ x ∧ x ≤ 99 := ⟨ho.1.1, ho.1.2.1⟩
  have c2 : (0 : Int32) ≤ y ∧ y ≤ 7 := ⟨ho.1.2.2.1, lt8.mp ho.1.2.2.2⟩
  rcases Nat.lt_or_ge ns 10 with h | h
  · have hk := h3 hsx ho h
    have hlt : ¬ μ 48 0 0 = 10 := by rw [hs]; exact fun e => absurd ((nI_eq (b := 10) (by omega) (by omega)).mp e) (by omega)
    have e5 : zu (zu (zu μ 51 0 ns x) 52 0 ns y) 48 0 0 (nI (ns + 1)) 48 0 5 = nI n := hn
    generalize hν : zu (zu (zu μ 51 0 ns x) 52 0 ns y) 48 0 0 (nI (ns + 1)) = ν at hk e5
    have L : ∀ (k i : Nat) (v : Int32) (μ1 : zMu), i + k = n → v = nI i → μ1 = mMv ν s (nI ns) w i → zG S (d + 2) m_Mo_split K 76 [some (zR 48 0), some (zI s), some (zI x), some (zI y), some (zI w), some (zI (nI ns)), some (zI v)] [] μ1 := by
      intro k
      induction k with
      | zero =>
        intro i v μ1 hi hv hμ1
        obtain rfl : i = n := by omega
        subst hv hμ1
        have hle : mMv ν s (nI ns) w i 48 0 5 ≤ nI i := by
          show ν 48 0 5 ≤ nI i
          rw [e5]
          exact nI_le (Nat.le_refl i) (by omega)
        refine zs k_Mo_split rfl ?_; conv => whnf
        repeat' (first
          | refine br_t hle ?_
          | exact hk
          | (refine zs k_Mo_split rfl ?_; conv => whnf)
          | refine ⟨Nat.zero_lt_one, rfl, ?_⟩
          | refine ⟨rfl, ?_⟩
          | refine ⟨⟨Nat.zero_lt_one, rfl⟩, Nat.le_of_ble_eq_true rfl, ?_⟩
          | refine ⟨Nat.le_of_ble_eq_true rfl, Nat.le_of_ble_eq_true rfl, ?_⟩
          | refine ⟨(by first | exact Nat.zero_lt_one | assumption | omega), (by first | assumption | exact vp_in_nI (by omega) (by omega) | (unfold vp_in; decide)), ?_⟩
          | refine ⟨(by first | exact Nat.zero_lt_one | assumption | omega), rfl, ?_⟩
          | refine ⟨⟨(by first | exact Nat.zero_lt_one | assumption | omega), rfl⟩, Nat.le_of_ble_eq_true rfl, ?_⟩
          | refine ⟨(by first | exact Nat.zero_lt_one | assumption | omega), ?_⟩
          | refine ⟨Or.inl rfl, ?_⟩
          | refine ⟨Or.inr (Or.inl rfl), ?_⟩
          | refine ⟨Or.inr (Or.inr rfl), ?_⟩
          | refine ⟨Or.inr ⟨rfl, (by first | exact Or.inl rfl | exact Or.inr rfl | assumption)⟩, ?_⟩
          | refine ⟨fun h => absurd h (by decide), fun _ => ?_⟩
          | refine ⟨fun _ => ?_, fun h => absurd h (by decide)⟩
          | refine ⟨fun h => ?_, fun h => ?_⟩
          | fail)
      | succ k ih =>
        intro i v μ1 hi hv h1
        subst hv
        have hci : (nI i).toNatClampNeg = i := nI_clamp (by omega)
        have hle : ¬ μ1 48 0 5 ≤ nI i := by
          rw [h1]
          show ¬ ν 48 0 5 ≤ nI i
          rw [e5]
          exact nI_ge (by omega) (by omega)
        have e1 : μ1 56 0 (nI i).toNatClampNeg = ν 56 0 i := by
          rw [h1, hci]
          unfold mMv
          rw [if_neg (by omega)]
        have hb := bit_s (x := w) h20 ho.2 (p := i) (by omega)
        by_cases hz : zbe w (nI i) ∧ ν 56 0 i = s
        · have z1 := hb.mpr hz.1
          have z2 : μ1 56 0 (nI i).toNatClampNeg = s := e1.trans hz.2
          refine zs k_Mo_split rfl ?_; conv => whnf
          repeat' (first
            | refine br_f hle ?_
            | refine bn_f z1 ?_
            | refine bn_f z2 ?_
            | refine ih (i + 1) _ _ (by omega) (by exact nI_1 i) ?_
            | (refine zs k_Mo_split rfl ?_; conv => whnf)
            | refine ⟨Nat.zero_lt_one, rfl, ?_⟩
            | refine ⟨rfl, ?_⟩
            | refine ⟨⟨Nat.zero_lt_one, rfl⟩, Nat.le_of_ble_eq_true rfl, ?_⟩
            | refine ⟨Nat.le_of_ble_eq_true rfl, Nat.le_of_ble_eq_true rfl, ?_⟩
            | refine ⟨(by first | exact Nat.zero_lt_one | assumption | omega), (by first | assumption | exact vp_in_nI (by omega) (by omega) | (unfold vp_in; decide)), ?_⟩
            | refine ⟨(by first | exact Nat.zero_lt_one | assumption | omega), rfl, ?_⟩
            | refine ⟨⟨(by first | exact Nat.zero_lt_one | assumption | omega), rfl⟩, Nat.le_of_ble_eq_true rfl, ?_⟩
            | refine ⟨(by first | exact Nat.zero_lt_one | assumption | omega), ?_⟩
            | refine ⟨Or.inl rfl, ?_⟩
            | refine ⟨Or.inr (Or.inl rfl), ?_⟩
            | refine ⟨Or.inr (Or.inr rfl), ?_⟩
            | refine ⟨Or.inr ⟨rfl, (by first | exact Or.inl rfl | exact Or.inr rfl | assumption)⟩, ?_⟩
            | refine ⟨fun h => absurd h (by decide), fun _ => ?_⟩
            | refine ⟨fun _ => ?_, fun h => absurd h (by decide)⟩
            | refine ⟨fun h => ?_, fun h => ?_⟩
            | fail)
          rw [hci, h1]
          funext f a b
          simp only [zu, mMv]
          by_cases e : f = 56 ∧ b = i ∧ a = 0
          · obtain ⟨rfl, rfl, rfl⟩ := e
            rw [if_pos ⟨rfl, rfl, rfl⟩, if_pos ⟨rfl, rfl, by omega, hz⟩]
          · rw [if_neg e]
            by_cases e2 : f = 56 ∧ a = 0 ∧ b < i ∧ zbe w (nI b) ∧ ν 56 0 b = s
            · rw [if_pos e2, if_pos ⟨e2.1, e2.2.1, by omega, e2.2.2.2⟩]
            · rw [if_neg e2, if_neg (fun z => e2 ⟨z.1, z.2.1, by omega, z.2.2.2⟩)]
        · have same : zu μ1 56 0 i (ν 56 0 i) = mMv ν s (nI ns) w (i + 1) := by
            rw [h1]
            funext f a b
            simp only [zu, mMv]
            by_cases e : f = 56 ∧ b = i ∧ a = 0
            · obtain ⟨rfl, rfl, rfl⟩ := e
              rw [if_pos ⟨rfl, rfl, rfl⟩, if_neg (fun z => hz z.2.2.2)]
            · rw [if_neg e]
              by_cases e2 : f = 56 ∧ a = 0 ∧ b < i ∧ zbe w (nI b) ∧ ν 56 0 b = s
              · rw [if_pos e2, if_pos ⟨e2.1, e2.2.1, by omega, e2.2.2.2⟩]
              · rw [if_neg e2, if_neg (fun z => e2 ⟨z.1, z.2.1, by omega, z.2.2.2⟩)]
          by_cases hz1 : zbe w (nI i)
          · have z1 := hb.mpr hz1
            have z2 : ¬ μ1 56 0 (nI i).toNatClampNeg = s := by rw [e1]; exact fun q => hz ⟨hz1, q⟩
            refine zs k_Mo_split rfl ?_; conv => whnf
            repeat' (first
              | refine br_f hle ?_
              | refine bn_f z1 ?_
              | refine bn_t z2 ?_
              | refine ih (i + 1) _ _ (by omega) (by exact nI_1 i) ?_
              | (refine zs k_Mo_split rfl ?_; conv => whnf)
              | refine ⟨Nat.zero_lt_one, rfl, ?_⟩
              | refine ⟨rfl, ?_⟩
              | refine ⟨⟨Nat.zero_lt_one, rfl⟩, Nat.le_of_ble_eq_true rfl, ?_⟩
              | refine ⟨Nat.le_of_ble_eq_true rfl, Nat.le_of_ble_eq_true rfl, ?_⟩
              | refine ⟨(by first | exact Nat.zero_lt_one | assumption | omega), (by first | assumption | exact vp_in_nI (by omega) (by omega) | (unfold vp_in; decide)), ?_⟩
              | refine ⟨(by first | exact Nat.zero_lt_one | assumption | omega), rfl, ?_⟩
              | refine ⟨⟨(by first | exact Nat.zero_lt_one | assumption | omega), rfl⟩, Nat.le_of_ble_eq_true rfl, ?_⟩
              | refine ⟨(by first | exact Nat.zero_lt_one | assumption | omega), ?_⟩
              | refine ⟨Or.inl rfl, ?_⟩
              | refine ⟨Or.inr (Or.inl rfl), ?_⟩
              | refine ⟨Or.inr (Or.inr rfl), ?_⟩
              | refine ⟨Or.inr ⟨rfl, (by first | exact Or.inl rfl | exact Or.inr rfl | assumption)⟩, ?_⟩
              | refine ⟨fun h => absurd h (by decide), fun _ => ?_⟩
              | refine ⟨fun _ => ?_, fun h => absurd h (by decide)⟩
              | refine ⟨fun h => ?_, fun h => ?_⟩
              | fail)
            rw [e1, hci]
            exact same
          · have z1 : ¬ (w >>> (nI i &&& 31)) &&& 1 = 1 := fun q => hz1 (hb.mp q)
            refine zs k_Mo_split rfl ?_; conv => whnf
            repeat' (first
              | refine br_f hle ?_
              | refine bn_t z1 ?_
              | refine ih (i + 1) _ _ (by omega) (by exact nI_1 i) ?_
              | (refine zs k_Mo_split rfl ?_; conv => whnf)
              | refine ⟨Nat.zero_lt_one, rfl, ?_⟩
              | refine ⟨rfl, ?_⟩
              | refine ⟨⟨Nat.zero_lt_one, rfl⟩, Nat.le_of_ble_eq_true rfl, ?_⟩
              | refine ⟨Nat.le_of_ble_eq_true rfl, Nat.le_of_ble_eq_true rfl, ?_⟩
              | refine ⟨(by first | exact Nat.zero_lt_one | assumption | omega), (by first | assumption | exact vp_in_nI (by omega) (by omega) | (unfold vp_in; decide)), ?_⟩
              | refine ⟨(by first | exact Nat.zero_lt_one | assumption | omega), rfl, ?_⟩
              | refine ⟨⟨(by first | exact Nat.zero_lt_one | assumption | omega), rfl⟩, Nat.le_of_ble_eq_true rfl, ?_⟩
              | refine ⟨(by first | exact Nat.zero_lt_one | assumption | omega), ?_⟩
              | refine ⟨Or.inl rfl, ?_⟩
              | refine ⟨Or.inr (Or.inl rfl), ?_⟩
              | refine ⟨Or.inr (Or.inr rfl), ?_⟩
              | refine ⟨Or.inr ⟨rfl, (by first | exact Or.inl rfl | exact Or.inr rfl | assumption)⟩, ?_⟩
              | refine ⟨fun h => absurd h (by decide), fun _ => ?_⟩
              | refine ⟨fun _ => ?_, fun h => absurd h (by decide)⟩
              | refine ⟨fun h => ?_, fun h => ?_⟩
              | fail)
            rw [e1, hci]
            exact same
    repeat' (first
      | refine c_Mo_isState (fun _ => ?_) (fun h => absurd hsx' h)
      | refine c_Mo_isIn (lo := 0) (hi := 99) rfl rfl (fun hb => ?_) (fun hb => absurd c1 hb)
      | refine c_Mo_isIn (lo := 0) (hi := 7) rfl rfl (fun hc => ?_) (fun hc => absurd c2 hc)
      | refine br_f w0 ?_
      | refine br_t w1 ?_
      | refine bn_t hlt ?_
      | refine c_Mo_state (ns := ns) hs h10 (fun q => absurd ho.1 q) (fun _ q => absurd q (by omega)) (fun _ _ => ?_)
      | refine L n 0 _ _ (by omega) rfl ?_
      | (refine zs k_Mo_split rfl ?_; conv => whnf)
      | refine ⟨Nat.zero_lt_one, rfl, ?_⟩
      | refine ⟨rfl, ?_⟩
      | refine ⟨⟨Nat.zero_lt_one, rfl⟩, Nat.le_of_ble_eq_true rfl, ?_⟩
      | refine ⟨Nat.le_of_ble_eq_true rfl, Nat.le_of_ble_eq_true rfl, ?_⟩
      | refine ⟨(by first | exact Nat.zero_lt_one | assumption | omega), (by first | assumption | exact vp_in_nI (by omega) (by omega) | (unfold vp_in; decide)), ?_⟩
      | refine ⟨(by first | exact Nat.zero_lt_one | assumption | omega), rfl, ?_⟩
      | refine ⟨⟨(by first | exact Nat.zero_lt_one | assumption | omega), rfl⟩, Nat.le_of_ble_eq_true rfl, ?_⟩
      | refine ⟨(by first | exact Nat.zero_lt_one | assumption | omega), ?_⟩
      | refine ⟨Or.inl rfl, ?_⟩
      | refine ⟨Or.inr (Or.inl rfl), ?_⟩
      | refine ⟨Or.inr (Or.inr rfl), ?_⟩
      | refine ⟨Or.inr ⟨rfl, (by first | exact Or.inl rfl | exact Or.inr rfl | assumption)⟩, ?_⟩
      | refine ⟨fun h => absurd h (by decide), fun _ => ?_⟩
      | refine ⟨fun _ => ?_, fun h => absurd h (by decide)⟩
      | refine ⟨fun h => ?_, fun h => ?_⟩
      | fail)
    rw [hν]
    funext f a b
    unfold mMv
    rw [if_neg (by omega)]
  · have hk := h2 hsx ho (by omega)
    have hlt : μ 48 0 0 = 10 := by rw [hs, show ns = 10 by omega]; rfl
    repeat' (first
      | refine c_Mo_isState (fun _ => ?_) (fun h => absurd hsx' h)
      | refine c_Mo_isIn (lo := 0) (hi := 99) rfl rfl (fun hb => ?_) (fun hb => absurd c1 hb)
      | refine c_Mo_isIn (lo := 0) (hi := 7) rfl rfl (fun hc => ?_) (fun hc => absurd c2 hc)
      | refine br_f w0 ?_
      | refine br_t w1 ?_
      | refine bn_f hlt ?_
      | exact hk
      | (refine zs k_Mo_split rfl ?_; conv => whnf)
      | refine ⟨Nat.zero_lt_one, rfl, ?_⟩
      | refine ⟨rfl, ?_⟩
      | refine ⟨⟨Nat.zero_lt_one, rfl⟩, Nat.le_of_ble_eq_true rfl, ?_⟩
      | refine ⟨Nat.le_of_ble_eq_true rfl, Nat.le_of_ble_eq_true rfl, ?_⟩
      | refine ⟨(by first | exact Nat.zero_lt_one | assumption | omega), (by first | assumption | exact vp_in_nI (by omega) (by omega) | (unfold vp_in; decide)), ?_⟩
      | refine ⟨(by first | exact Nat.zero_lt_one | assumption | omega), rfl, ?_⟩
      | refine ⟨⟨(by first | exact Nat.zero_lt_one | assumption | omega), rfl⟩, Nat.le_of_ble_eq_true rfl, ?_⟩
      | refine ⟨(by first | exact Nat.zero_lt_one | assumption | omega), ?_⟩
      | refine ⟨Or.inl rfl, ?_⟩
      | refine ⟨Or.inr (Or.inl rfl), ?_⟩
      | refine ⟨Or.inr (Or.inr rfl), ?_⟩
      | refine ⟨Or.inr ⟨rfl, (by first | exact Or.inl rfl | exact Or.inr rfl | assumption)⟩, ?_⟩
      | refine ⟨fun h => absurd h (by decide), fun _ => ?_⟩
      | refine ⟨fun _ => ?_, fun h => absurd h (by decide)⟩
      | refine ⟨fun h => ?_, fun h => ?_⟩
      | fail)
theorem b_split {μ : zMu} {s x y w : Int32} (h : Rel μ) : Both m_De_split m_Mo_split [zI s, zI x, zI y, zI w] μ := by
  intro d K hK
  obtain ⟨ns, n, nr, nh, nt, nb, L, g1, g2, g3, g4, g5, g6, g7, g8, g9, g10, g11⟩ := id h
  have h20 := g2.2.2.1
  have h10 := g1.2.2.1
  refine c_De_split g1.1 h10 g2.1 h20 (fun a => hK _ _ (fun d K2 hK2 => ?_)) (fun a b => hK _ _ (fun d K2 hK2 => ?_)) (fun a b c => hK _ _ (fun d K2 hK2 => ?_)) (fun a b c => hK _ _ (fun d K2 hK2 => ?_))
  · exact c_Mo_split g1.2.1 h10 g2.2.1 h20 (fun _ => hK2 _ h) (fun q => absurd q a) (fun q => absurd q a) (fun q => absurd q a)
  · exact c_Mo_split g1.2.1 h10 g2.2.1 h20 (fun q => absurd a q) (fun _ _ => hK2 _ h) (fun _ q => absurd q b) (fun _ q => absurd q b)
  · exact c_Mo_split g1.2.1 h10 g2.2.1 h20 (fun q => absurd a q) (fun _ q => absurd b q) (fun _ _ _ => hK2 _ h) (fun _ _ q => absurd q (by omega))
  · refine c_Mo_split (ns := ns) (n := n) g1.2.1 h10 g2.2.1 h20 (fun q => absurd a q) (fun _ q => absurd b q) (fun _ _ q => absurd q (by omega)) (fun _ _ _ => hK2 _ ?_)
    have hnc : (nI ns).toNatClampNeg = ns := nI_clamp (by omega)
    have e0 : ∀ f, f ≠ 1 → f ≠ 13 → f ≠ 14 → f ≠ 17 → f ≠ 48 → f ≠ 51 → f ≠ 52 → f ≠ 56 → mMv (zu (zu (zu (cSp μ ns n s x y w) 51 0 ns x) 52 0 ns y) 48 0 0 (nI (ns + 1))) s (nI ns) w n f = μ f := fun f q1 q2 q3 q4 q5 q6 q7 q8 => by
      funext a b
      unfold mMv cSp
      rw [if_neg (fun z => q8 z.1), zu_ne (fun z => q5 z.1), zu_ne (fun z => q7 z.1), zu_ne (fun z => q6 z.1), cMv_o q4, zu_ne (fun z => q1 z.1), zu_ne (fun z => q3 z.1), zu_ne (fun z => q2 z.1)]
    have e48 : ∀ k, k ≠ 0 → mMv (zu (zu (zu (cSp μ ns n s x y w) 51 0 ns x) 52 0 ns y) 48 0 0 (nI (ns + 1))) s (nI ns) w n 48 0 k = μ 48 0 k := fun k hk => by
      unfold mMv cSp
      rw [if_neg (by omega), zu_ne (by omega), zu_ne (by omega), zu_ne (by omega), cMv_o (by decide), zu_ne (by omega), zu_ne (by omega), zu_ne (by omega)]
    have e1 : mMv (zu (zu (zu (cSp μ ns n s x y w) 51 0 ns x) 52 0 ns y) 48 0 0 (nI (ns + 1))) s (nI ns) w n 1 0 1 = μ 1 0 1 := by
      unfold mMv cSp
      rw [if_neg (by omega), zu_ne (by omega), zu_ne (by omega), zu_ne (by omega), cMv_o (by decide), zu_ne (by omega), zu_ne (by omega), zu_ne (by omega)]
    have e10 : mMv (zu (zu (zu (cSp μ ns n s x y w) 51 0 ns x) 52 0 ns y) 48 0 0 (nI (ns + 1))) s (nI ns) w n 1 0 0 = nI (ns + 1) := by
      unfold mMv cSp
      rw [if_neg (by omega), zu_ne (by omega), zu_ne (by omega), zu_ne (by omega), cMv_o (show (1 : Nat) ≠ 17 by omega), zu_eq]
    have e480 : mMv (zu (zu (zu (cSp μ ns n s x y w) 51 0 ns x) 52 0 ns y) 48 0 0 (nI (ns + 1))) s (nI ns) w n 48 0 0 = nI (ns + 1) := by
      unfold mMv
      rw [if_neg (by omega), zu_eq]
    have e13 : ∀ k, mMv (zu (zu (zu (cSp μ ns n s x y w) 51 0 ns x) 52 0 ns y) 48 0 0 (nI (ns + 1))) s (nI ns) w n 13 0 k = if k = ns then x else μ 13 0 k := fun k => by
      unfold mMv cSp
      rw [if_neg (by omega), zu_ne (by omega), zu_ne (by omega), zu_ne (by omega), cMv_o (by decide), zu_ne (by omega), zu_ne (by omega)]
      by_cases e : k = ns
      · rw [if_pos e, e, zu_eq]
      · rw [if_neg e, zu_ne (fun z => e z.2.1)]
    have e14 : ∀ k, mMv (zu (zu (zu (cSp μ ns n s x y w) 51 0 ns x) 52 0 ns y) 48 0 0 (nI (ns + 1))) s (nI ns) w n 14 0 k = if k = ns then y else μ 14 0 k := fun k => by
      unfold mMv cSp
      rw [if_neg (by omega), zu_ne (by omega), zu_ne (by omega), zu_ne (by omega), cMv_o (by decide), zu_ne (by omega)]
      by_cases e : k = ns
      · rw [if_pos e, e, zu_eq]
      · rw [if_neg e, zu_ne (fun z => e z.2.1), zu_ne (by omega)]
    have e51 : ∀ k, mMv (zu (zu (zu (cSp μ ns n s x y w) 51 0 ns x) 52 0 ns y) 48 0 0 (nI (ns + 1))) s (nI ns) w n 51 0 k = if k = ns then x else μ 51 0 k := fun k => by
      unfold mMv cSp
      rw [if_neg (by omega), zu_ne (by omega), zu_ne (by omega)]
      by_cases e : k = ns
      · rw [if_pos e, e, zu_eq]
      · rw [if_neg e, zu_ne (fun z => e z.2.1), cMv_o (by decide), zu_ne (by omega), zu_ne (by omega), zu_ne (by omega)]
    have e52 : ∀ k, mMv (zu (zu (zu (cSp μ ns n s x y w) 51 0 ns x) 52 0 ns y) 48 0 0 (nI (ns + 1))) s (nI ns) w n 52 0 k = if k = ns then y else μ 52 0 k := fun k => by
      unfold mMv cSp
      rw [if_neg (by omega), zu_ne (by omega)]
      by_cases e : k = ns
      · rw [if_pos e, e, zu_eq]
      · rw [if_neg e, zu_ne (fun z => e z.2.1), zu_ne (by omega), cMv_o (by decide), zu_ne (by omega), zu_ne (by omega), zu_ne (by omega)]
    have e56 : ∀ p, p < n → mMv (zu (zu (zu (cSp μ ns n s x y w) 51 0 ns x) 52 0 ns y) 48 0 0 (nI (ns + 1))) s (nI ns) w n 56 0 p = if zbe w (nI p) ∧ μ 56 0 p = s then nI ns else μ 56 0 p := fun p hp => by
      have e : zu (zu (zu (cSp μ ns n s x y w) 51 0 ns x) 52 0 ns y) 48 0 0 (nI (ns + 1)) 56 0 p = μ 56 0 p := by
        unfold cSp
        rw [zu_ne (by omega), zu_ne (by omega), zu_ne (by omega), cMv_o (by decide), zu_ne (by omega), zu_ne (by omega), zu_ne (by omega)]
      unfold mMv
      rw [e]
      by_cases q : zbe w (nI p) ∧ μ 56 0 p = s
      · rw [if_pos ⟨rfl, rfl, hp, q⟩, if_pos q]
      · rw [if_neg (fun z => q z.2.2.2), if_neg q]
    have e17 : ∀ p k, p < n → mMv (zu (zu (zu (cSp μ ns n s x y w) 51 0 ns x) 52 0 ns y) 48 0 0 (nI (ns + 1))) s (nI ns) w n 17 p k = if (zbe w (nI p) ∧ μ 17 p 5 = s) ∧ (k = 5 ∨ k = 2 ∨ k = 6) then (if k = 5 then nI ns else if k = 2 then x else y) else μ 17 p k := fun p k hp => by
      have f13 : zu (zu (zu μ 13 0 ns x) 14 0 ns y) 1 0 0 (nI (ns + 1)) 13 0 ns = x := by
        rw [zu_ne (by omega), zu_ne (by omega), zu_eq]
      have f14 : zu (zu (zu μ 13 0 ns x) 14 0 ns y) 1 0 0 (nI (ns + 1)) 14 0 ns = y := by
        rw [zu_ne (by omega), zu_eq]
      have f17 : ∀ a b, zu (zu (zu μ 13 0 ns x) 14 0 ns y) 1 0 0 (nI (ns + 1)) 17 a b = μ 17 a b := fun a b => rfl
      unfold mMv cSp
      rw [if_neg (by omega), zu_ne (by omega), zu_ne (by omega), zu_ne (by omega)]
      unfold cMv
      rw [hnc, f13, f14, f17, f17]
      by_cases q : (zbe w (nI p) ∧ μ 17 p 5 = s) ∧ (k = 5 ∨ k = 2 ∨ k = 6)
      · rw [if_pos ⟨rfl, hp, q.1.1, q.1.2, q.2⟩, if_pos q]
      · rw [if_neg (fun z => q ⟨⟨z.2.2.1, z.2.2.2.1⟩, z.2.2.2.2⟩), if_neg q]
    generalize mMv (zu (zu (zu (cSp μ ns n s x y w) 51 0 ns x) 52 0 ns y) 48 0 0 (nI (ns + 1))) s (nI ns) w n = M at *
    have ef : ∀ l : List Nat, l.all (fun f => !([1, 13, 14, 17, 48, 51, 52, 56] : List Nat).contains f) = true → ∀ f, f ∈ l → M f = μ f := fun l hl f hf => by
      have := List.all_eq_true.mp hl f hf
      simp at this
      exact e0 f this.1 this.2.1 this.2.2.1 this.2.2.2.1 this.2.2.2.2.1 this.2.2.2.2.2.1 this.2.2.2.2.2.2.1 this.2.2.2.2.2.2.2
    refine ⟨ns + 1, n, nr, nh, nt, nb, L, ⟨e10, e480, by omega, fun k hk => ?_⟩, ⟨e1.trans g2.1, (e48 5 (by omega)).trans g2.2.1, h20, fun p hp => ?_⟩, gTp_fr (ef _ rfl) (by rw [ef [2] rfl 2 (by simp)]) (e48 14 (by omega)) g3, gRu_fr (ef _ rfl) (e48 15 (by omega)) g4, gHd_fr (ef _ rfl) (e48 33 (by omega)) g5, gTb_fr (ef _ rfl) (e48 42 (by omega)) g6, gFe_fr (ef _ rfl) g7, gCo_fr (ef _ rfl) g8, gVs_fr (ef _ rfl) (e48 48 (by omega)) g9, gWi_fr (ef [7] rfl 7 (by simp)) (e48 52 (by omega)) g10, gCs_fr (ef _ rfl) g11⟩
    · rw [e51, e13, e52, e14]
      by_cases e : k = ns
      · rw [if_pos e, if_pos e, if_pos e, if_pos e]
        exact ⟨rfl, rfl, vp_8 b.1.2.2⟩
      · rw [if_neg e, if_neg e, if_neg e, if_neg e]
        exact g1.2.2.2 k (by omega)
    · obtain ⟨a1, a2, a3, a4, a5, a6, a7, a8, a9, ⟨s0, hs0, b1, b2, b3⟩, a11, a12, a13⟩ := g2.2.2.2 p hp
      have k0 : ∀ q k, q < n → k ≠ 5 → k ≠ 2 → k ≠ 6 → M 17 q k = μ 17 q k := fun q k hq h1 h2 h3 => by
        rw [e17 q k hq, if_neg (by omega)]
      have hqn : (μ 17 p 4 = 3 ∨ μ 17 p 4 = 4) → (μ 11 0 p).toNatClampNeg < n := fun hk => by
        obtain ⟨q, hq, hq2⟩ := a13 hk
        rw [hq2, nI_clamp (by omega)]
        omega
      have eo : ∀ q, q < n → cOwn M q = cOwn μ q := fun q hq => cOwn_cg (k0 q 4 hq (by omega) (by omega) (by omega)) (by rw [ef [15] rfl 15 (by simp)]) (by rw [ef [16] rfl 16 (by simp)])
      have er : cRank M p = cRank μ p := cRank_cg (k0 p 4 hp (by omega) (by omega) (by omega)) (by rw [ef [11] rfl 11 (by simp)]) (eo p hp) (fun hk => eo _ (hqn hk))
      have ep : cPap M p = cPap μ p := cPap_cg (k0 p 4 hp (by omega) (by omega) (by omega)) (by rw [ef [11] rfl 11 (by simp)]) (by rw [ef [16] rfl 16 (by simp)]) (fun hk => by rw [ef [16] rfl 16 (by simp)])
      unfold gP1
      rw [er, ep, ef [62] rfl 62 (by simp), ef [10] rfl 10 (by simp), ef [61] rfl 61 (by simp), ef [11] rfl 11 (by simp), ef [58] rfl 58 (by simp), ef [15] rfl 15 (by simp), ef [60] rfl 60 (by simp), ef [16] rfl 16 (by simp), ef [59] rfl 59 (by simp), ef [57] rfl 57 (by simp), k0 p 3 hp (by omega) (by omega) (by omega), k0 p 4 hp (by omega) (by omega) (by omega), k0 p 0 hp (by omega) (by omega) (by omega), k0 p 1 hp (by omega) (by omega) (by omega), e56 p hp, e17 p 5 hp, e17 p 2 hp, e17 p 6 hp, a9]
      by_cases q : zbe w (nI p) ∧ μ 17 p 5 = s
      · refine ⟨a1, a2, a3, a4, a5, a6, a7, a8, ?_, ⟨ns, by omega, ?_, ?_, ?_⟩, a11, a12, a13⟩
        · rw [if_pos q, if_pos ⟨q, by omega⟩, if_pos rfl]
        · rw [if_pos ⟨q, by omega⟩, if_pos rfl]
        · rw [if_pos ⟨q, by omega⟩, if_neg (by omega), if_pos rfl, e13, if_pos rfl]
        · rw [if_pos ⟨q, by omega⟩, if_neg (by omega), if_neg (by omega), e14, if_pos rfl]
      · refine ⟨a1, a2, a3, a4, a5, a6, a7, a8, ?_, ⟨s0, by omega, ?_, ?_, ?_⟩, a11, a12, a13⟩
        · rw [if_neg q, if_neg (fun z => q z.1)]
        · rw [if_neg (fun z => q z.1)]
          exact b1
        · rw [if_neg (fun z => q z.1), e13, if_neg (by omega)]
          exact b2
        · rw [if_neg (fun z => q z.1), e14, if_neg (by omega)]
          exact b3
/-! DESK: table, feud, talk -/
theorem mulI {a b : Nat} : (nI a : Int32) * nI b = nI (a * b) := pk_mul a b
def okTb (x y : Int32) : Prop := (x = 0 ∨ x = 1) ∧ 2 ≤ y ∧ y ≤ 12
theorem okTb_of {x y : Int32} (h : okTb x y) : ∃ z, 2 ≤ z ∧ z ≤ 12 ∧ y = nI z := by
  obtain ⟨j, hj, rfl⟩ := nI_of2 (x := y) (M := 12) (n := 12) rfl (by have := h.2.1; grind) h.2.2
  exact ⟨j, (nI_leI (a := 2) (by omega) (by omega)).mp h.2.1, hj, rfl⟩
def cTab (μ : zMu) (t : Nat) (x y : Int32) : zMu := zu (fun f i k => if f = 40 ∧ i = t ∧ k < 12 then -1 else (zu (zu μ 9 t 2 x) 9 t 0 y) f i k) 5 0 0 (nI (t + 1))
theorem c_De_table {d nt : Nat} {μ : zMu} {x y : Int32} {K : Option zV → zMu → Prop} (hn : μ 5 0 0 = nI nt) (h4 : nt ≤ 4) (h0 : ¬ okTb x y → K (some (zI (-2))) μ) (h1 : okTb x y → nt = 4 → K (some (zI (-4))) μ) (h2 : okTb x y → nt < 4 → K (some (zI (nI nt))) (cTab μ nt x y)) : Ct (d + 3) m_De_table [zR 0 0, zI x, zI y] μ K := by
  refine zmeet rfl (Nat.le_of_ble_eq_true rfl) (fun S => ?_)
  by_cases ho : okTb x y
  case neg =>
    have hk := h0 ho
    unfold okTb at ho
    repeat' (first
      | exact hk
      | (refine zs k_De_table rfl ?_; conv => whnf)
      | refine ⟨Nat.zero_lt_one, rfl, ?_⟩
      | refine ⟨rfl, ?_⟩
      | refine ⟨⟨Nat.zero_lt_one, rfl⟩, Nat.le_of_ble_eq_true rfl, ?_⟩
      | refine ⟨Nat.le_of_ble_eq_true rfl, Nat.le_of_ble_eq_true rfl, ?_⟩
      | refine ⟨(by first | exact Nat.zero_lt_one | assumption | omega), (by first | assumption | exact vp_in_nI (by omega) (by omega) | (unfold vp_in; decide)), ?_⟩
      | refine ⟨(by first | exact Nat.zero_lt_one | assumption | omega), rfl, ?_⟩
      | refine ⟨⟨(by first | exact Nat.zero_lt_one | assumption | omega), rfl⟩, Nat.le_of_ble_eq_true rfl, ?_⟩
      | refine ⟨(by first | exact Nat.zero_lt_one | assumption | omega), ?_⟩
      | refine ⟨Or.inl rfl, ?_⟩
      | refine ⟨Or.inr (Or.inl rfl), ?_⟩
      | refine ⟨Or.inr (Or.inr rfl), ?_⟩
      | refine ⟨Or.inr ⟨rfl, (by first | exact Or.inl rfl | exact Or.inr rfl | assumption)⟩, ?_⟩
      | refine ⟨fun h => absurd h (by decide), fun _ => ?_⟩
      | refine ⟨fun _ => ?_, fun h => absurd h (by decide)⟩
      | refine ⟨fun h => ?_, fun h => ?_⟩
      | exact absurd (by grind) ho
      | fail)
  obtain ⟨hx, y1, y2⟩ := id ho
  have hy1 : ¬ y < 2 := by grind
  rcases Nat.lt_or_ge nt 4 with h | h
  · have hk := h2 ho h
    have hlt : ¬ 4 ≤ μ 5 0 0 := by rw [hn]; exact nI_ge (b := 4) h (by omega)
    rcases hx with rfl | rfl
    · skip
      repeat' (first
        | refine br_f hy1 ?_
        | refine br_t y2 ?_
        | refine br_f hlt ?_
        | refine c_Ha_addTable h hn (Or.inl rfl) ?_
        | exact hk
        | (refine zs k_De_table rfl ?_; conv => whnf)
        | refine ⟨Nat.zero_lt_one, rfl, ?_⟩
        | refine ⟨rfl, ?_⟩
        | refine ⟨⟨Nat.zero_lt_one, rfl⟩, Nat.le_of_ble_eq_true rfl, ?_⟩
        | refine ⟨Nat.le_of_ble_eq_true rfl, Nat.le_of_ble_eq_true rfl, ?_⟩
        | refine ⟨(by first | exact Nat.zero_lt_one | assumption | omega), (by first | assumption | exact vp_in_nI (by omega) (by omega) | (unfold vp_in; decide)), ?_⟩
        | refine ⟨(by first | exact Nat.zero_lt_one | assumption | omega), rfl, ?_⟩
        | refine ⟨⟨(by first | exact Nat.zero_lt_one | assumption | omega), rfl⟩, Nat.le_of_ble_eq_true rfl, ?_⟩
        | refine ⟨(by first | exact Nat.zero_lt_one | assumption | omega), ?_⟩
        | refine ⟨Or.inl rfl, ?_⟩
        | refine ⟨Or.inr (Or.inl rfl), ?_⟩
        | refine ⟨Or.inr (Or.inr rfl), ?_⟩
        | refine ⟨Or.inr ⟨rfl, (by first | exact Or.inl rfl | exact Or.inr rfl | assumption)⟩, ?_⟩
        | refine ⟨fun h => absurd h (by decide), fun _ => ?_⟩
        | refine ⟨fun _ => ?_, fun h => absurd h (by decide)⟩
        | refine ⟨fun h => ?_, fun h => ?_⟩
        | fail)
    · skip
      repeat' (first
        | refine br_f hy1 ?_
        | refine br_t y2 ?_
        | refine br_f hlt ?_
        | refine c_Ha_addTable h hn (Or.inr rfl) ?_
        | exact hk
        | (refine zs k_De_table rfl ?_; conv => whnf)
        | refine ⟨Nat.zero_lt_one, rfl, ?_⟩
        | refine ⟨rfl, ?_⟩
        | refine ⟨⟨Nat.zero_lt_one, rfl⟩, Nat.le_of_ble_eq_true rfl, ?_⟩
        | refine ⟨Nat.le_of_ble_eq_true rfl, Nat.le_of_ble_eq_true rfl, ?_⟩
        | refine ⟨(by first | exact Nat.zero_lt_one | assumption | omega), (by first | assumption | exact vp_in_nI (by omega) (by omega) | (unfold vp_in; decide)), ?_⟩
        | refine ⟨(by first | exact Nat.zero_lt_one | assumption | omega), rfl, ?_⟩
        | refine ⟨⟨(by first | exact Nat.zero_lt_one | assumption | omega), rfl⟩, Nat.le_of_ble_eq_true rfl, ?_⟩
        | refine ⟨(by first | exact Nat.zero_lt_one | assumption | omega), ?_⟩
        | refine ⟨Or.inl rfl, ?_⟩
        | refine ⟨Or.inr (Or.inl rfl), ?_⟩
        | refine ⟨Or.inr (Or.inr rfl), ?_⟩
        | refine ⟨Or.inr ⟨rfl, (by first | exact Or.inl rfl | exact Or.inr rfl | assumption)⟩, ?_⟩
        | refine ⟨fun h => absurd h (by decide), fun _ => ?_⟩
        | refine ⟨fun _ => ?_, fun h => absurd h (by decide)⟩
        | refine ⟨fun h => ?_, fun h => ?_⟩
        | fail)
  · have hk := h1 ho (by omega)
    have hlt : 4 ≤ μ 5 0 0 := by rw [hn]; exact nI_le (a := 4) h (by omega)
    rcases hx with rfl | rfl
    · skip
      repeat' (first
        | refine br_f hy1 ?_
        | refine br_t y2 ?_
        | refine br_t hlt ?_
        | exact hk
        | (refine zs k_De_table rfl ?_; conv => whnf)
        | refine ⟨Nat.zero_lt_one, rfl, ?_⟩
        | refine ⟨rfl, ?_⟩
        | refine ⟨⟨Nat.zero_lt_one, rfl⟩, Nat.le_of_ble_eq_true rfl, ?_⟩
        | refine ⟨Nat.le_of_ble_eq_true rfl, Nat.le_of_ble_eq_true rfl, ?_⟩
        | refine ⟨(by first | exact Nat.zero_lt_one | assumption | omega), (by first | assumption | exact vp_in_nI (by omega) (by omega) | (unfold vp_in; decide)), ?_⟩
        | refine ⟨(by first | exact Nat.zero_lt_one | assumption | omega), rfl, ?_⟩
        | refine ⟨⟨(by first | exact Nat.zero_lt_one | assumption | omega), rfl⟩, Nat.le_of_ble_eq_true rfl, ?_⟩
        | refine ⟨(by first | exact Nat.zero_lt_one | assumption | omega), ?_⟩
        | refine ⟨Or.inl rfl, ?_⟩
        | refine ⟨Or.inr (Or.inl rfl), ?_⟩
        | refine ⟨Or.inr (Or.inr rfl), ?_⟩
        | refine ⟨Or.inr ⟨rfl, (by first | exact Or.inl rfl | exact Or.inr rfl | assumption)⟩, ?_⟩
        | refine ⟨fun h => absurd h (by decide), fun _ => ?_⟩
        | refine ⟨fun _ => ?_, fun h => absurd h (by decide)⟩
        | refine ⟨fun h => ?_, fun h => ?_⟩
        | fail)
    · skip
      repeat' (first
        | refine br_f hy1 ?_
        | refine br_t y2 ?_
        | refine br_t hlt ?_
        | exact hk
        | (refine zs k_De_table rfl ?_; conv => whnf)
        | refine ⟨Nat.zero_lt_one, rfl, ?_⟩
        | refine ⟨rfl, ?_⟩
        | refine ⟨⟨Nat.zero_lt_one, rfl⟩, Nat.le_of_ble_eq_true rfl, ?_⟩
        | refine ⟨Nat.le_of_ble_eq_true rfl, Nat.le_of_ble_eq_true rfl, ?_⟩
        | refine ⟨(by first | exact Nat.zero_lt_one | assumption | omega), (by first | assumption | exact vp_in_nI (by omega) (by omega) | (unfold vp_in; decide)), ?_⟩
        | refine ⟨(by first | exact Nat.zero_lt_one | assumption | omega), rfl, ?_⟩
        | refine ⟨⟨(by first | exact Nat.zero_lt_one | assumption | omega), rfl⟩, Nat.le_of_ble_eq_true rfl, ?_⟩
        | refine ⟨(by first | exact Nat.zero_lt_one | assumption | omega), ?_⟩
        | refine ⟨Or.inl rfl, ?_⟩
        | refine ⟨Or.inr (Or.inl rfl), ?_⟩
        | refine ⟨Or.inr (Or.inr rfl), ?_⟩
        | refine ⟨Or.inr ⟨rfl, (by first | exact Or.inl rfl | exact Or.inr rfl | assumption)⟩, ?_⟩
        | refine ⟨fun h => absurd h (by decide), fun _ => ?_⟩
        | refine ⟨fun _ => ?_, fun h => absurd h (by decide)⟩
        | refine ⟨fun h => ?_, fun h => ?_⟩
        | fail)
def mTab (μ : zMu) (t : Nat) (x y : Int32) : zMu := fun f a b => if f = 48 ∧ a = 0 ∧ b = 42 then nI (t + 1) else if f = 95 ∧ a = 0 ∧ 12 * t ≤ b ∧ b < 12 * t + 12 then -1 else zu (zu μ 93 0 t x) 94 0 t y f a b
set_option maxHeartbeats 1000000 in
theorem c_Mo_table {d nt : Nat} {μ : zMu} {x y : Int32} {K : Option zV → zMu → Prop} (hn : μ 48 0 42 = nI nt) (h4 : nt ≤ 4) (h0 : ¬ okTb x y → K (some (zI (-2))) μ) (h1 : okTb x y → nt = 4 → K (some (zI (-4))) μ) (h2 : okTb x y → nt < 4 → K (some (zI (nI nt))) (mTab μ nt x y)) : Ct (d + 1) m_Mo_table [zR 48 0, zI x, zI y] μ K := by
  refine zmeet rfl (Nat.le_of_ble_eq_true rfl) (fun S => ?_)
  by_cases ho : okTb x y
  case neg =>
    have hk := h0 ho
    repeat' (first
      | refine c_Mo_isIn (lo := 0) (hi := 1) rfl rfl (fun hb => ?_) (fun hb => ?_)
      | refine c_Mo_isIn (lo := 2) (hi := 12) rfl rfl (fun hc => absurd ⟨i01.mp hb, hc⟩ ho) (fun hc => ?_)
      | exact hk
      | (refine zs k_Mo_table rfl ?_; conv => whnf)
      | refine ⟨Nat.zero_lt_one, rfl, ?_⟩
      | refine ⟨rfl, ?_⟩
      | refine ⟨⟨Nat.zero_lt_one, rfl⟩, Nat.le_of_ble_eq_true rfl, ?_⟩
      | refine ⟨Nat.le_of_ble_eq_true rfl, Nat.le_of_ble_eq_true rfl, ?_⟩
      | refine ⟨(by first | exact Nat.zero_lt_one | assumption | omega), (by first | assumption | exact vp_in_nI (by omega) (by omega) | (unfold vp_in; decide)), ?_⟩
      | refine ⟨(by first | exact Nat.zero_lt_one | assumption | omega), rfl, ?_⟩
      | refine ⟨⟨(by first | exact Nat.zero_lt_one | assumption | omega), rfl⟩, Nat.le_of_ble_eq_true rfl, ?_⟩
      | refine ⟨(by first | exact Nat.zero_lt_one | assumption | omega), ?_⟩
      | refine ⟨Or.inl rfl, ?_⟩
      | refine ⟨Or.inr (Or.inl rfl), ?_⟩
      | refine ⟨Or.inr (Or.inr rfl), ?_⟩
      | refine ⟨Or.inr ⟨rfl, (by first | exact Or.inl rfl | exact Or.inr rfl | assumption)⟩, ?_⟩
      | refine ⟨fun h => absurd h (by decide), fun _ => ?_⟩
      | refine ⟨fun _ => ?_, fun h => absurd h (by decide)⟩
      | refine ⟨fun h => ?_, fun h => ?_⟩
      | fail)
  have hx := i01.mpr ho.1
  have hy := ho.2
  rcases Nat.lt_or_ge nt 4 with h | h
  · have hk := h2 ho h
    have hne : ¬ μ 48 0 42 = 4 := by rw [hn]; exact fun e => absurd ((nI_eq (b := 4) (by omega) (by omega)).mp e) (by omega)
    have hv : vp_in (μ 48 0 42) 4 := by rw [hn]; exact vp_in_nI h (by omega)
    have hcl : (μ 48 0 42).toNatClampNeg = nt := by rw [hn]; exact nI_clamp (by omega)
    have hm : (12 : Int32) * μ 48 0 42 = nI (12 * nt) := by rw [hn]; exact pk_mul 12 nt
    obtain ⟨ν, hν⟩ : ∃ ν, ν = zu (zu μ 93 0 nt x) 94 0 nt y := ⟨_, rfl⟩
    have n48 : ν 48 0 42 = nI nt := by rw [hν]; exact hn
    have L : ∀ (k i : Nat) (v : Int32) (μ1 : zMu), i + k = 12 → v = nI (12 * nt + i) → μ1 = (fun f a b => if f = 95 ∧ a = 0 ∧ 12 * nt ≤ b ∧ b < 12 * nt + i then -1 else ν f a b) → zG S (d + 1) m_Mo_table K 75 [some (zR 48 0), some (zI x), some (zI y), some (zI v)] [] μ1 := by
      intro k
      induction k with
      | zero =>
        intro i v μ1 hi hv h1
        obtain rfl : i = 12 := by omega
        subst hv
        have e48 : μ1 48 0 42 = nI nt := by rw [h1]; exact n48
        have hle : (12 : Int32) * μ1 48 0 42 + 12 ≤ nI (12 * nt + 12) := by
          rw [e48, show (12 : Int32) * nI nt = nI (12 * nt) from pk_mul 12 nt, show nI (12 * nt) + 12 = nI (12 * nt + 12) from nI_add _ 12]
          exact nI_le (Nat.le_refl _) (by omega)
        refine zs k_Mo_table rfl ?_; conv => whnf
        repeat' (first
          | refine br_t hle ?_
          | refine zKe hk ?_ ?_
          | (refine zs k_Mo_table rfl ?_; conv => whnf)
          | refine ⟨Nat.zero_lt_one, rfl, ?_⟩
          | refine ⟨rfl, ?_⟩
          | refine ⟨⟨Nat.zero_lt_one, rfl⟩, Nat.le_of_ble_eq_true rfl, ?_⟩
          | refine ⟨Nat.le_of_ble_eq_true rfl, Nat.le_of_ble_eq_true rfl, ?_⟩
          | refine ⟨(by first | exact Nat.zero_lt_one | assumption | omega), (by first | assumption | exact vp_in_nI (by omega) (by omega) | (unfold vp_in; decide)), ?_⟩
          | refine ⟨(by first | exact Nat.zero_lt_one | assumption | omega), rfl, ?_⟩
          | refine ⟨⟨(by first | exact Nat.zero_lt_one | assumption | omega), rfl⟩, Nat.le_of_ble_eq_true rfl, ?_⟩
          | refine ⟨(by first | exact Nat.zero_lt_one | assumption | omega), ?_⟩
          | refine ⟨Or.inl rfl, ?_⟩
          | refine ⟨Or.inr (Or.inl rfl), ?_⟩
          | refine ⟨Or.inr (Or.inr rfl), ?_⟩
          | refine ⟨Or.inr ⟨rfl, (by first | exact Or.inl rfl | exact Or.inr rfl | assumption)⟩, ?_⟩
          | refine ⟨fun h => absurd h (by decide), fun _ => ?_⟩
          | refine ⟨fun _ => ?_, fun h => absurd h (by decide)⟩
          | refine ⟨fun h => ?_, fun h => ?_⟩
          | fail)
        · show μ1 48 0 42 + 1 - 1 = _
          rw [e48, nI_1, nI_pred]
        · rw [e48, nI_1, h1, hν]
          funext f a b
          simp only [zu, mTab]
          by_cases q : f = 48 ∧ a = 0 ∧ b = 42
          · rw [if_pos ⟨q.1, q.2.2, q.2.1⟩, if_pos q]
          · rw [if_neg (fun z => q ⟨z.1, z.2.2, z.2.1⟩), if_neg q]
      | succ k ih =>
        intro i v μ1 hi hv h1
        subst hv
        have e48 : μ1 48 0 42 = nI nt := by rw [h1]; exact n48
        have hle : ¬ (12 : Int32) * μ1 48 0 42 + 12 ≤ nI (12 * nt + i) := by
          rw [e48, show (12 : Int32) * nI nt = nI (12 * nt) from pk_mul 12 nt, show nI (12 * nt) + 12 = nI (12 * nt + 12) from nI_add _ 12]
          exact nI_ge (by omega) (by omega)
        refine zs k_Mo_table rfl ?_; conv => whnf
        repeat' (first
          | refine br_f hle ?_
          | refine ih (i + 1) _ _ (by omega) (by exact nI_1 _) ?_
          | (refine zs k_Mo_table rfl ?_; conv => whnf)
          | refine ⟨Nat.zero_lt_one, rfl, ?_⟩
          | refine ⟨rfl, ?_⟩
          | refine ⟨⟨Nat.zero_lt_one, rfl⟩, Nat.le_of_ble_eq_true rfl, ?_⟩
          | refine ⟨Nat.le_of_ble_eq_true rfl, Nat.le_of_ble_eq_true rfl, ?_⟩
          | refine ⟨(by first | exact Nat.zero_lt_one | assumption | omega), (by first | assumption | exact vp_in_nI (by omega) (by omega) | (unfold vp_in; decide)), ?_⟩
          | refine ⟨(by first | exact Nat.zero_lt_one | assumption | omega), rfl, ?_⟩
          | refine ⟨⟨(by first | exact Nat.zero_lt_one | assumption | omega), rfl⟩, Nat.le_of_ble_eq_true rfl, ?_⟩
          | refine ⟨(by first | exact Nat.zero_lt_one | assumption | omega), ?_⟩
          | refine ⟨Or.inl rfl, ?_⟩
          | refine ⟨Or.inr (Or.inl rfl), ?_⟩
          | refine ⟨Or.inr (Or.inr rfl), ?_⟩
          | refine ⟨Or.inr ⟨rfl, (by first | exact Or.inl rfl | exact Or.inr rfl | assumption)⟩, ?_⟩
          | refine ⟨fun h => absurd h (by decide), fun _ => ?_⟩
          | refine ⟨fun _ => ?_, fun h => absurd h (by decide)⟩
          | refine ⟨fun h => ?_, fun h => ?_⟩
          | fail)
        rw [nI_clamp (show 12 * nt + i < 2 ^ 31 by omega), h1]
        funext f a b
        simp only [zu]
        by_cases q : f = 95 ∧ b = 12 * nt + i ∧ a = 0
        · rw [if_pos q, if_pos (by omega)]
        · rw [if_neg q]
          by_cases q2 : f = 95 ∧ a = 0 ∧ 12 * nt ≤ b ∧ b < 12 * nt + i
          · rw [if_pos q2, if_pos (by omega)]
          · rw [if_neg q2, if_neg (by omega)]
    rcases ho.1 with rfl | rfl
    · skip
      repeat' (first
        | refine c_Mo_isIn (lo := 0) (hi := 1) rfl rfl (fun hb => ?_) (fun hb => absurd hx hb)
        | refine c_Mo_isIn (lo := 2) (hi := 12) rfl rfl (fun hc => ?_) (fun hc => absurd hy hc)
        | refine bn_t hne ?_
        | refine L 12 0 _ _ (by omega) (by exact hm) ?_
        | (refine zs k_Mo_table rfl ?_; conv => whnf)
        | refine ⟨Nat.zero_lt_one, rfl, ?_⟩
        | refine ⟨rfl, ?_⟩
        | refine ⟨⟨Nat.zero_lt_one, rfl⟩, Nat.le_of_ble_eq_true rfl, ?_⟩
        | refine ⟨Nat.le_of_ble_eq_true rfl, Nat.le_of_ble_eq_true rfl, ?_⟩
        | refine ⟨(by first | exact Nat.zero_lt_one | assumption | omega), (by first | assumption | exact vp_in_nI (by omega) (by omega) | (unfold vp_in; decide)), ?_⟩
        | refine ⟨(by first | exact Nat.zero_lt_one | assumption | omega), rfl, ?_⟩
        | refine ⟨⟨(by first | exact Nat.zero_lt_one | assumption | omega), rfl⟩, Nat.le_of_ble_eq_true rfl, ?_⟩
        | refine ⟨(by first | exact Nat.zero_lt_one | assumption | omega), ?_⟩
        | refine ⟨Or.inl rfl, ?_⟩
        | refine ⟨Or.inr (Or.inl rfl), ?_⟩
        | refine ⟨Or.inr (Or.inr rfl), ?_⟩
        | refine ⟨Or.inr ⟨rfl, (by first | exact Or.inl rfl | exact Or.inr rfl | assumption)⟩, ?_⟩
        | refine ⟨fun h => absurd h (by decide), fun _ => ?_⟩
        | refine ⟨fun _ => ?_, fun h => absurd h (by decide)⟩
        | refine ⟨fun h => ?_, fun h => ?_⟩
        | fail)
      show zu (zu μ 93 0 (μ 48 0 42).toNatClampNeg 0) 94 0 (μ 48 0 42).toNatClampNeg y = _
      rw [hν, hcl]
      funext f a b
      rw [if_neg (by omega)]
      rfl
    · skip
      repeat' (first
        | refine c_Mo_isIn (lo := 0) (hi := 1) rfl rfl (fun hb => ?_) (fun hb => absurd hx hb)
        | refine c_Mo_isIn (lo := 2) (hi := 12) rfl rfl (fun hc => ?_) (fun hc => absurd hy hc)
        | refine bn_t hne ?_
        | refine L 12 0 _ _ (by omega) (by exact hm) ?_
        | (refine zs k_Mo_table rfl ?_; conv => whnf)
        | refine ⟨Nat.zero_lt_one, rfl, ?_⟩
        | refine ⟨rfl, ?_⟩
        | refine ⟨⟨Nat.zero_lt_one, rfl⟩, Nat.le_of_ble_eq_true rfl, ?_⟩
        | refine ⟨Nat.le_of_ble_eq_true rfl, Nat.le_of_ble_eq_true rfl, ?_⟩
        | refine ⟨(by first | exact Nat.zero_lt_one | assumption | omega), (by first | assumption | exact vp_in_nI (by omega) (by omega) | (unfold vp_in; decide)), ?_⟩
        | refine ⟨(by first | exact Nat.zero_lt_one | assumption | omega), rfl, ?_⟩
        | refine ⟨⟨(by first | exact Nat.zero_lt_one | assumption | omega), rfl⟩, Nat.le_of_ble_eq_true rfl, ?_⟩
        | refine ⟨(by first | exact Nat.zero_lt_one | assumption | omega), ?_⟩
        | refine ⟨Or.inl rfl, ?_⟩
        | refine ⟨Or.inr (Or.inl rfl), ?_⟩
        | refine ⟨Or.inr (Or.inr rfl), ?_⟩
        | refine ⟨Or.inr ⟨rfl, (by first | exact Or.inl rfl | exact Or.inr rfl | assumption)⟩, ?_⟩
        | refine ⟨fun h => absurd h (by decide), fun _ => ?_⟩
        | refine ⟨fun _ => ?_, fun h => absurd h (by decide)⟩
        | refine ⟨fun h => ?_, fun h => ?_⟩
        | fail)
      show zu (zu μ 93 0 (μ 48 0 42).toNatClampNeg 1) 94 0 (μ 48 0 42).toNatClampNeg y = _
      rw [hν, hcl]
      funext f a b
      rw [if_neg (by omega)]
      rfl
  · have hk := h1 ho (by omega)
    have hne : μ 48 0 42 = 4 := by rw [hn, show nt = 4 by omega]; rfl
    repeat' (first
      | refine c_Mo_isIn (lo := 0) (hi := 1) rfl rfl (fun hb => ?_) (fun hb => absurd hx hb)
      | refine c_Mo_isIn (lo := 2) (hi := 12) rfl rfl (fun hc => ?_) (fun hc => absurd hy hc)
      | refine bn_f hne ?_
      | exact hk
      | (refine zs k_Mo_table rfl ?_; conv => whnf)
      | refine ⟨Nat.zero_lt_one, rfl, ?_⟩
      | refine ⟨rfl, ?_⟩
      | refine ⟨⟨Nat.zero_lt_one, rfl⟩, Nat.le_of_ble_eq_true rfl, ?_⟩
      | refine ⟨Nat.le_of_ble_eq_true rfl, Nat.le_of_ble_eq_true rfl, ?_⟩
      | refine ⟨(by first | exact Nat.zero_lt_one | assumption | omega), (by first | assumption | exact vp_in_nI (by omega) (by omega) | (unfold vp_in; decide)), ?_⟩
      | refine ⟨(by first | exact Nat.zero_lt_one | assumption | omega), rfl, ?_⟩
      | refine ⟨⟨(by first | exact Nat.zero_lt_one | assumption | omega), rfl⟩, Nat.le_of_ble_eq_true rfl, ?_⟩
      | refine ⟨(by first | exact Nat.zero_lt_one | assumption | omega), ?_⟩
      | refine ⟨Or.inl rfl, ?_⟩
      | refine ⟨Or.inr (Or.inl rfl), ?_⟩
      | refine ⟨Or.inr (Or.inr rfl), ?_⟩
      | refine ⟨Or.inr ⟨rfl, (by first | exact Or.inl rfl | exact Or.inr rfl | assumption)⟩, ?_⟩
      | refine ⟨fun h => absurd h (by decide), fun _ => ?_⟩
      | refine ⟨fun _ => ?_, fun h => absurd h (by decide)⟩
      | refine ⟨fun h => ?_, fun h => ?_⟩
      | fail)
theorem b_table {μ : zMu} {x y : Int32} (h : Rel μ) : Both m_De_table m_Mo_table [zI x, zI y] μ := by
  intro d K hK
  obtain ⟨ns, n, nr, nh, nt, nb, L, g1, g2, g3, g4, g5, g6, g7, g8, g9, g10, g11⟩ := id h
  have h4 := g6.2.2.1
  refine c_De_table g6.1 h4 (fun a => hK _ _ (fun d K2 hK2 => ?_)) (fun a b => hK _ _ (fun d K2 hK2 => ?_)) (fun a b => hK _ _ (fun d K2 hK2 => ?_))
  · exact c_Mo_table g6.2.1 h4 (fun _ => hK2 _ h) (fun q => absurd q a) (fun q => absurd q a)
  · exact c_Mo_table g6.2.1 h4 (fun q => absurd a q) (fun _ _ => hK2 _ h) (fun _ q => absurd q (by omega))
  · refine c_Mo_table (nt := nt) g6.2.1 h4 (fun q => absurd a q) (fun _ q => absurd q (by omega)) (fun _ _ => hK2 _ ?_)
    obtain ⟨z, z1, z2, rfl⟩ := okTb_of a
    have e0 : ∀ f, f ≠ 5 → f ≠ 9 → f ≠ 40 → f ≠ 48 → f ≠ 93 → f ≠ 94 → f ≠ 95 → mTab (cTab μ nt x (nI z)) nt x (nI z) f = μ f := fun f q1 q2 q3 q4 q5 q6 q7 => by
      funext a b
      unfold mTab cTab
      rw [if_neg (fun z => q4 z.1), if_neg (fun z => q7 z.1), zu_ne (fun z => q6 z.1), zu_ne (fun z => q5 z.1), zu_ne (fun z => q1 z.1), if_neg (fun z => q3 z.1), zu_ne (fun z => q2 z.1), zu_ne (fun z => q2 z.1)]
    have e48 : ∀ k, k ≠ 42 → mTab (cTab μ nt x (nI z)) nt x (nI z) 48 0 k = μ 48 0 k := fun k hk => by
      unfold mTab cTab
      rw [if_neg (by omega), if_neg (by omega), zu_ne (by omega), zu_ne (by omega), zu_ne (by omega), if_neg (by omega), zu_ne (by omega), zu_ne (by omega)]
    have e9 : ∀ t, t ≠ nt → ∀ k, mTab (cTab μ nt x (nI z)) nt x (nI z) 9 t k = μ 9 t k := fun t ht k => by
      unfold mTab cTab
      rw [if_neg (by omega), if_neg (by omega), zu_ne (by omega), zu_ne (by omega), zu_ne (by omega), if_neg (by omega), zu_ne (by omega), zu_ne (by omega)]
    have e90 : mTab (cTab μ nt x (nI z)) nt x (nI z) 9 nt 0 = nI z := by
      unfold mTab cTab
      rw [if_neg (by omega), if_neg (by omega), zu_ne (by omega), zu_ne (by omega), zu_ne (by omega), if_neg (by omega), zu_eq]
    have e92 : mTab (cTab μ nt x (nI z)) nt x (nI z) 9 nt 2 = x := by
      unfold mTab cTab
      rw [if_neg (by omega), if_neg (by omega), zu_ne (by omega), zu_ne (by omega), zu_ne (by omega), if_neg (by omega), zu_ne (by omega), zu_eq]
    have e93 : ∀ t, mTab (cTab μ nt x (nI z)) nt x (nI z) 93 0 t = if t = nt then x else μ 93 0 t := fun t => by
      unfold mTab cTab
      rw [if_neg (by omega), if_neg (by omega), zu_ne (by omega)]
      by_cases e : t = nt
      · rw [if_pos e, e, zu_eq]
      · rw [if_neg e, zu_ne (by omega), zu_ne (by omega), if_neg (by omega), zu_ne (by omega), zu_ne (by omega)]
    have e94 : ∀ t, mTab (cTab μ nt x (nI z)) nt x (nI z) 94 0 t = if t = nt then nI z else μ 94 0 t := fun t => by
      unfold mTab cTab
      rw [if_neg (by omega), if_neg (by omega)]
      by_cases e : t = nt
      · rw [if_pos e, e, zu_eq]
      · rw [if_neg e, zu_ne (by omega), zu_ne (by omega), zu_ne (by omega), if_neg (by omega), zu_ne (by omega), zu_ne (by omega)]
    have e95 : ∀ k, mTab (cTab μ nt x (nI z)) nt x (nI z) 95 0 k = if 12 * nt ≤ k ∧ k < 12 * nt + 12 then -1 else μ 95 0 k := fun k => by
      unfold mTab cTab
      rw [if_neg (by omega)]
      by_cases e : 12 * nt ≤ k ∧ k < 12 * nt + 12
      · rw [if_pos e, if_pos ⟨rfl, rfl, e⟩]
      · rw [if_neg e, if_neg (by omega), zu_ne (by omega), zu_ne (by omega), zu_ne (by omega), if_neg (by omega), zu_ne (by omega), zu_ne (by omega)]
    have e40 : ∀ t k, mTab (cTab μ nt x (nI z)) nt x (nI z) 40 t k = if t = nt ∧ k < 12 then -1 else μ 40 t k := fun t k => by
      unfold mTab cTab
      rw [if_neg (by omega), if_neg (by omega), zu_ne (by omega), zu_ne (by omega), zu_ne (by omega)]
      by_cases e : t = nt ∧ k < 12
      · rw [if_pos e, if_pos ⟨rfl, e⟩]
      · rw [if_neg e, if_neg (by omega), zu_ne (by omega), zu_ne (by omega)]
    have e5 : mTab (cTab μ nt x (nI z)) nt x (nI z) 5 0 0 = nI (nt + 1) := by
      unfold mTab cTab
      rw [if_neg (by omega), if_neg (by omega), zu_ne (by omega), zu_ne (by omega), zu_eq]
    have e482 : mTab (cTab μ nt x (nI z)) nt x (nI z) 48 0 42 = nI (nt + 1) := by
      unfold mTab
      rw [if_pos ⟨rfl, rfl, rfl⟩]
    generalize mTab (cTab μ nt x (nI z)) nt x (nI z) = M at *
    have ef : ∀ l : List Nat, l.all (fun f => !([5, 9, 40, 48, 93, 94, 95] : List Nat).contains f) = true → ∀ f, f ∈ l → M f = μ f := fun l hl f hf => by
      have := List.all_eq_true.mp hl f hf
      simp at this
      exact e0 f this.1 this.2.1 this.2.2.1 this.2.2.2.1 this.2.2.2.2.1 this.2.2.2.2.2.1 this.2.2.2.2.2.2
    refine ⟨ns, n, nr, nh, nt + 1, nb, L, gSt_fr (ef _ rfl) (e48 0 (by omega)) g1, gPe_fr (ef _ rfl) (e48 5 (by omega)) g2, gTp_fr (ef _ rfl) (by rw [ef [2] rfl 2 (by simp)]) (e48 14 (by omega)) g3, gRu_fr (ef _ rfl) (e48 15 (by omega)) g4, gHd_fr (ef _ rfl) (e48 33 (by omega)) g5, ⟨e5, e482, by omega, fun t ht => ?_⟩, gFe_fr (ef _ rfl) g7, gCo_fr (ef _ rfl) g8, gVs_fr (ef _ rfl) (e48 48 (by omega)) g9, gWi_fr (ef [7] rfl 7 (by simp)) (e48 52 (by omega)) g10, gCs_fr (ef _ rfl) g11⟩
    by_cases e : t = nt
    · subst e
      have f40 : ∀ k, k < 12 → M 40 t k = -1 := fun k hk => by rw [e40, if_pos ⟨rfl, hk⟩]
      refine ⟨?_, ?_, ⟨z, z1, z2, e90, ?_, fun k _ hk => f40 k hk⟩, fun k hk => ?_, fun k hk => Or.inl (f40 k hk), fun j k hj hk _ => f40 j (by omega)⟩
      · rw [e92]
        exact a.1
      · rw [e93, if_pos rfl, e92]
      · rw [e94, if_pos rfl]
      · rw [e95, if_pos (by omega), f40 k hk]
    · obtain ⟨a1, a2, ⟨z', c1, c2, c3, c4, c5⟩, a4, a5, a6⟩ := g6.2.2.2 t (by omega)
      have f40 : ∀ k, M 40 t k = μ 40 t k := fun k => by rw [e40, if_neg (by omega)]
      unfold gT1
      rw [e9 t e, e9 t e, e93, if_neg e, e94, if_neg e, ef [10] rfl 10 (by simp)]
      refine ⟨a1, a2, ⟨z', c1, c2, c3, c4, fun k h1 h2 => ?_⟩, fun k hk => ?_, fun k hk => ?_, fun j k hj hk => ?_⟩
      · rw [f40]
        exact c5 k h1 h2
      · rw [f40, e95, if_neg (by omega)]
        exact a4 k hk
      · rw [f40]
        exact a5 k hk
      · rw [f40, f40]
        exact a6 j k hj hk
/-! DESK: feud, talk -/
abbrev okI (n : Nat) (x : Int32) : Prop := 0 ≤ x ∧ x < nI n
theorem c_De_feud {d ns : Nat} {μ : zMu} {x y z : Int32} {K : Option zV → zMu → Prop} (hs : μ 1 0 0 = nI ns) (h10 : ns ≤ 10) (h0 : ¬ (okI ns x ∧ okI ns y) → K (some (zI (-1))) μ) (h1 : okI ns x ∧ okI ns y → ¬ (¬ x = y ∧ (z = 0 ∨ z = 1)) → K (some (zI (-2))) μ) (h2 : ∀ a b, a < ns → b < ns → x = nI a → y = nI b → a ≠ b → (z = 0 ∨ z = 1) → K (some (zI (μ 36 a b))) (zu (zu μ 36 a b z) 36 b a z)) : Ct (d + 1) m_De_feud [zR 0 0, zI x, zI y, zI z] μ K := by
  refine zmeet rfl (Nat.le_of_ble_eq_true rfl) (fun S => ?_)
  by_cases ho : okI ns x ∧ okI ns y
  case neg =>
    have hk := h0 ho
    unfold okI at ho
    rw [← hs] at ho
    repeat' (first
      | refine c_Ro_hasState (fun q1 q2 => ?_) (fun q => ?_)
      | exact hk
      | (refine zs k_De_feud rfl ?_; conv => whnf)
      | refine ⟨Nat.zero_lt_one, rfl, ?_⟩
      | refine ⟨rfl, ?_⟩
      | refine ⟨⟨Nat.zero_lt_one, rfl⟩, Nat.le_of_ble_eq_true rfl, ?_⟩
      | refine ⟨Nat.le_of_ble_eq_true rfl, Nat.le_of_ble_eq_true rfl, ?_⟩
      | refine ⟨(by first | exact Nat.zero_lt_one | assumption | omega), (by first | assumption | exact vp_in_nI (by omega) (by omega) | (unfold vp_in; decide)), ?_⟩
      | refine ⟨(by first | exact Nat.zero_lt_one | assumption | omega), rfl, ?_⟩
      | refine ⟨⟨(by first | exact Nat.zero_lt_one | assumption | omega), rfl⟩, Nat.le_of_ble_eq_true rfl, ?_⟩
      | refine ⟨(by first | exact Nat.zero_lt_one | assumption | omega), ?_⟩
      | refine ⟨Or.inl rfl, ?_⟩
      | refine ⟨Or.inr (Or.inl rfl), ?_⟩
      | refine ⟨Or.inr (Or.inr rfl), ?_⟩
      | refine ⟨Or.inr ⟨rfl, (by first | exact Or.inl rfl | exact Or.inr rfl | assumption)⟩, ?_⟩
      | refine ⟨fun h => absurd h (by decide), fun _ => ?_⟩
      | refine ⟨fun _ => ?_, fun h => absurd h (by decide)⟩
      | refine ⟨fun h => ?_, fun h => ?_⟩
      | exact absurd (by grind) ho
      | fail)
  have hx : 0 ≤ x ∧ x < μ 1 0 0 := by rw [hs]; exact ho.1
  have hy : 0 ≤ y ∧ y < μ 1 0 0 := by rw [hs]; exact ho.2
  by_cases hz : ¬ x = y ∧ (z = 0 ∨ z = 1)
  case neg =>
    have hk := h1 ho hz
    repeat' (first
      | refine c_Ro_hasState (fun q1 q2 => ?_) (fun q => absurd hx q)
      | refine c_Ro_hasState (fun q1 q2 => ?_) (fun q => absurd hy q)
      | exact hk
      | (refine zs k_De_feud rfl ?_; conv => whnf)
      | refine ⟨Nat.zero_lt_one, rfl, ?_⟩
      | refine ⟨rfl, ?_⟩
      | refine ⟨⟨Nat.zero_lt_one, rfl⟩, Nat.le_of_ble_eq_true rfl, ?_⟩
      | refine ⟨Nat.le_of_ble_eq_true rfl, Nat.le_of_ble_eq_true rfl, ?_⟩
      | refine ⟨(by first | exact Nat.zero_lt_one | assumption | omega), (by first | assumption | exact vp_in_nI (by omega) (by omega) | (unfold vp_in; decide)), ?_⟩
      | refine ⟨(by first | exact Nat.zero_lt_one | assumption | omega), rfl, ?_⟩
      | refine ⟨⟨(by first | exact Nat.zero_lt_one | assumption | omega), rfl⟩, Nat.le_of_ble_eq_true rfl, ?_⟩
      | refine ⟨(by first | exact Nat.zero_lt_one | assumption | omega), ?_⟩
      | refine ⟨Or.inl rfl, ?_⟩
      | refine ⟨Or.inr (Or.inl rfl), ?_⟩
      | refine ⟨Or.inr (Or.inr rfl), ?_⟩
      | refine ⟨Or.inr ⟨rfl, (by first | exact Or.inl rfl | exact Or.inr rfl | assumption)⟩, ?_⟩
      | refine ⟨fun h => absurd h (by decide), fun _ => ?_⟩
      | refine ⟨fun _ => ?_, fun h => absurd h (by decide)⟩
      | refine ⟨fun h => ?_, fun h => ?_⟩
      | exact absurd (by grind) hz
      | fail)
  rcases zIx x (n := ns) (by omega) with ⟨a, ha, rfl⟩ | q
  case inr => exact absurd ho.1 q
  rcases zIx y (n := ns) (by omega) with ⟨b, hb, rfl⟩ | q
  case inr => exact absurd ho.2 q
  have hk := h2 a b ha hb rfl rfl (fun e => hz.1 (by rw [e])) hz.2
  have ca : (nI a).toNatClampNeg = a := nI_clamp (by omega)
  have cb : (nI b).toNatClampNeg = b := nI_clamp (by omega)
  have z0 := hz.1
  rcases hz.2 with rfl | rfl
  · skip
    repeat' (first
      | refine c_Ro_hasState (fun q1 q2 => ?_) (fun q => absurd hx q)
      | refine c_Ro_hasState (fun q1 q2 => ?_) (fun q => absurd hy q)
      | refine br_f z0 ?_
      | refine c_Ha_setFeud (vp_in_nI (by omega) (by omega)) (vp_in_nI (by omega) (by omega)) ?_
      | exact zKe hk (by rw [ca, cb]) (by rw [ca, cb])
      | (refine zs k_De_feud rfl ?_; conv => whnf)
      | refine ⟨Nat.zero_lt_one, rfl, ?_⟩
      | refine ⟨rfl, ?_⟩
      | refine ⟨⟨Nat.zero_lt_one, rfl⟩, Nat.le_of_ble_eq_true rfl, ?_⟩
      | refine ⟨Nat.le_of_ble_eq_true rfl, Nat.le_of_ble_eq_true rfl, ?_⟩
      | refine ⟨(by first | exact Nat.zero_lt_one | assumption | omega), (by first | assumption | exact vp_in_nI (by omega) (by omega) | (unfold vp_in; decide)), ?_⟩
      | refine ⟨(by first | exact Nat.zero_lt_one | assumption | omega), rfl, ?_⟩
      | refine ⟨⟨(by first | exact Nat.zero_lt_one | assumption | omega), rfl⟩, Nat.le_of_ble_eq_true rfl, ?_⟩
      | refine ⟨(by first | exact Nat.zero_lt_one | assumption | omega), ?_⟩
      | refine ⟨Or.inl rfl, ?_⟩
      | refine ⟨Or.inr (Or.inl rfl), ?_⟩
      | refine ⟨Or.inr (Or.inr rfl), ?_⟩
      | refine ⟨Or.inr ⟨rfl, (by first | exact Or.inl rfl | exact Or.inr rfl | assumption)⟩, ?_⟩
      | refine ⟨fun h => absurd h (by decide), fun _ => ?_⟩
      | refine ⟨fun _ => ?_, fun h => absurd h (by decide)⟩
      | refine ⟨fun h => ?_, fun h => ?_⟩
      | fail)
  · skip
    repeat' (first
      | refine c_Ro_hasState (fun q1 q2 => ?_) (fun q => absurd hx q)
      | refine c_Ro_hasState (fun q1 q2 => ?_) (fun q => absurd hy q)
      | refine br_f z0 ?_
      | refine c_Ha_setFeud (vp_in_nI (by omega) (by omega)) (vp_in_nI (by omega) (by omega)) ?_
      | exact zKe hk (by rw [ca, cb]) (by rw [ca, cb])
      | (refine zs k_De_feud rfl ?_; conv => whnf)
      | refine ⟨Nat.zero_lt_one, rfl, ?_⟩
      | refine ⟨rfl, ?_⟩
      | refine ⟨⟨Nat.zero_lt_one, rfl⟩, Nat.le_of_ble_eq_true rfl, ?_⟩
      | refine ⟨Nat.le_of_ble_eq_true rfl, Nat.le_of_ble_eq_true rfl, ?_⟩
      | refine ⟨(by first | exact Nat.zero_lt_one | assumption | omega), (by first | assumption | exact vp_in_nI (by omega) (by omega) | (unfold vp_in; decide)), ?_⟩
      | refine ⟨(by first | exact Nat.zero_lt_one | assumption | omega), rfl, ?_⟩
      | refine ⟨⟨(by first | exact Nat.zero_lt_one | assumption | omega), rfl⟩, Nat.le_of_ble_eq_true rfl, ?_⟩
      | refine ⟨(by first | exact Nat.zero_lt_one | assumption | omega), ?_⟩
      | refine ⟨Or.inl rfl, ?_⟩
      | refine ⟨Or.inr (Or.inl rfl), ?_⟩
      | refine ⟨Or.inr (Or.inr rfl), ?_⟩
      | refine ⟨Or.inr ⟨rfl, (by first | exact Or.inl rfl | exact Or.inr rfl | assumption)⟩, ?_⟩
      | refine ⟨fun h => absurd h (by decide), fun _ => ?_⟩
      | refine ⟨fun _ => ?_, fun h => absurd h (by decide)⟩
      | refine ⟨fun h => ?_, fun h => ?_⟩
      | fail)
set_option maxHeartbeats 1000000 in
theorem c_Mo_feud {d ns : Nat} {μ μ0 : zMu} {x y z : Int32} {K : Option zV → zMu → Prop} (hs : μ 48 0 0 = nI ns) (h10 : ns ≤ 10) (h53 : ∀ a b, a < 10 → b < 10 → μ 53 0 (10 * a + b) = μ0 36 a b ∧ (μ0 36 a b = 0 ∨ μ0 36 a b = 1)) (h0 : ¬ (okI ns x ∧ okI ns y) → K (some (zI (-1))) μ) (h1 : okI ns x ∧ okI ns y → ¬ (¬ x = y ∧ (z = 0 ∨ z = 1)) → K (some (zI (-2))) μ) (h2 : ∀ a b, a < ns → b < ns → x = nI a → y = nI b → a ≠ b → (z = 0 ∨ z = 1) → K (some (zI (μ0 36 a b))) (zu (zu μ 53 0 (10 * a + b) z) 53 0 (10 * b + a) z)) : Ct (d + 1) m_Mo_feud [zR 48 0, zI x, zI y, zI z] μ K := by
  refine zmeet rfl (Nat.le_of_ble_eq_true rfl) (fun S => ?_)
  by_cases ho : okI ns x ∧ okI ns y
  case neg =>
    have hk := h0 ho
    unfold okI at ho
    rw [← hs] at ho
    repeat' (first
      | refine c_Mo_isState (fun q1 => ?_) (fun q => ?_)
      | exact hk
      | (refine zs k_Mo_feud rfl ?_; conv => whnf)
      | refine ⟨Nat.zero_lt_one, rfl, ?_⟩
      | refine ⟨rfl, ?_⟩
      | refine ⟨⟨Nat.zero_lt_one, rfl⟩, Nat.le_of_ble_eq_true rfl, ?_⟩
      | refine ⟨Nat.le_of_ble_eq_true rfl, Nat.le_of_ble_eq_true rfl, ?_⟩
      | refine ⟨(by first | exact Nat.zero_lt_one | assumption | omega), (by first | assumption | exact vp_in_nI (by omega) (by omega) | (unfold vp_in; decide)), ?_⟩
      | refine ⟨(by first | exact Nat.zero_lt_one | assumption | omega), rfl, ?_⟩
      | refine ⟨⟨(by first | exact Nat.zero_lt_one | assumption | omega), rfl⟩, Nat.le_of_ble_eq_true rfl, ?_⟩
      | refine ⟨(by first | exact Nat.zero_lt_one | assumption | omega), ?_⟩
      | refine ⟨Or.inl rfl, ?_⟩
      | refine ⟨Or.inr (Or.inl rfl), ?_⟩
      | refine ⟨Or.inr (Or.inr rfl), ?_⟩
      | refine ⟨Or.inr ⟨rfl, (by first | exact Or.inl rfl | exact Or.inr rfl | assumption)⟩, ?_⟩
      | refine ⟨fun h => absurd h (by decide), fun _ => ?_⟩
      | refine ⟨fun _ => ?_, fun h => absurd h (by decide)⟩
      | refine ⟨fun h => ?_, fun h => ?_⟩
      | exact absurd (by grind) ho
      | fail)
  have hx : 0 ≤ x ∧ x < μ 48 0 0 := by rw [hs]; exact ho.1
  have hy : 0 ≤ y ∧ y < μ 48 0 0 := by rw [hs]; exact ho.2
  by_cases hz : ¬ x = y ∧ (z = 0 ∨ z = 1)
  case neg =>
    have hk := h1 ho hz
    repeat' (first
      | refine c_Mo_isState (fun q1 => ?_) (fun q => absurd hx q)
      | refine c_Mo_isState (fun q1 => ?_) (fun q => absurd hy q)
      | refine c_Mo_isIn (lo := 0) (hi := 1) rfl rfl (fun hb => absurd ⟨by assumption, i01.mp hb⟩ hz) (fun hb => ?_)
      | exact hk
      | (refine zs k_Mo_feud rfl ?_; conv => whnf)
      | refine ⟨Nat.zero_lt_one, rfl, ?_⟩
      | refine ⟨rfl, ?_⟩
      | refine ⟨⟨Nat.zero_lt_one, rfl⟩, Nat.le_of_ble_eq_true rfl, ?_⟩
      | refine ⟨Nat.le_of_ble_eq_true rfl, Nat.le_of_ble_eq_true rfl, ?_⟩
      | refine ⟨(by first | exact Nat.zero_lt_one | assumption | omega), (by first | assumption | exact vp_in_nI (by omega) (by omega) | (unfold vp_in; decide)), ?_⟩
      | refine ⟨(by first | exact Nat.zero_lt_one | assumption | omega), rfl, ?_⟩
      | refine ⟨⟨(by first | exact Nat.zero_lt_one | assumption | omega), rfl⟩, Nat.le_of_ble_eq_true rfl, ?_⟩
      | refine ⟨(by first | exact Nat.zero_lt_one | assumption | omega), ?_⟩
      | refine ⟨Or.inl rfl, ?_⟩
      | refine ⟨Or.inr (Or.inl rfl), ?_⟩
      | refine ⟨Or.inr (Or.inr rfl), ?_⟩
      | refine ⟨Or.inr ⟨rfl, (by first | exact Or.inl rfl | exact Or.inr rfl | assumption)⟩, ?_⟩
      | refine ⟨fun h => absurd h (by decide), fun _ => ?_⟩
      | refine ⟨fun _ => ?_, fun h => absurd h (by decide)⟩
      | refine ⟨fun h => ?_, fun h => ?_⟩
      | fail)
  rcases zIx x (n := ns) (by omega) with ⟨a, ha, rfl⟩ | q
  case inr => exact absurd ho.1 q
  rcases zIx y (n := ns) (by omega) with ⟨b, hb, rfl⟩ | q
  case inr => exact absurd ho.2 q
  have hab : a ≠ b := fun e => hz.1 (by rw [e])
  have hk := h2 a b ha hb rfl rfl hab hz.2
  have m1 : (10 : Int32) * nI a + nI b = nI (10 * a + b) := by rw [show (10 : Int32) * nI a = nI (10 * a) from pk_mul 10 a, nI_add]
  have m2 : (10 : Int32) * nI b + nI a = nI (10 * b + a) := by rw [show (10 : Int32) * nI b = nI (10 * b) from pk_mul 10 b, nI_add]
  have v1 : vp_in ((10 : Int32) * nI a + nI b) 100 := by rw [m1]; exact vp_in_nI (by omega) (by omega)
  have v2 : vp_in ((10 : Int32) * nI b + nI a) 100 := by rw [m2]; exact vp_in_nI (by omega) (by omega)
  have c1 : ((10 : Int32) * nI a + nI b).toNatClampNeg = 10 * a + b := by rw [m1]; exact nI_clamp (by omega)
  have c2 : ((10 : Int32) * nI b + nI a).toNatClampNeg = 10 * b + a := by rw [m2]; exact nI_clamp (by omega)
  obtain ⟨q53, q2⟩ := h53 a b (by omega) (by omega)
  rw [← c1] at q53
  have z0 := hz.1
  have zi := i01.mpr hz.2
  rw [← c1, ← c2] at hk
  rcases hz.2 with rfl | rfl
  · rcases q2 with q2 | q2
    · rw [q2] at q53 hk
      repeat' (first
        | refine c_Mo_isState (fun q1 => ?_) (fun q => absurd hx q)
        | refine c_Mo_isState (fun q1 => ?_) (fun q => absurd hy q)
        | refine br_f z0 ?_
        | refine c_Mo_isIn (lo := 0) (hi := 1) rfl rfl (fun hb => ?_) (fun hb => absurd zi hb)
        | refine br_t q53 ?_
        | exact hk
        | (refine zs k_Mo_feud rfl ?_; conv => whnf)
        | refine ⟨Nat.zero_lt_one, rfl, ?_⟩
        | refine ⟨rfl, ?_⟩
        | refine ⟨⟨Nat.zero_lt_one, rfl⟩, Nat.le_of_ble_eq_true rfl, ?_⟩
        | refine ⟨Nat.le_of_ble_eq_true rfl, Nat.le_of_ble_eq_true rfl, ?_⟩
        | refine ⟨(by first | exact Nat.zero_lt_one | assumption | omega), (by first | assumption | exact vp_in_nI (by omega) (by omega) | (unfold vp_in; decide)), ?_⟩
        | refine ⟨(by first | exact Nat.zero_lt_one | assumption | omega), rfl, ?_⟩
        | refine ⟨⟨(by first | exact Nat.zero_lt_one | assumption | omega), rfl⟩, Nat.le_of_ble_eq_true rfl, ?_⟩
        | refine ⟨(by first | exact Nat.zero_lt_one | assumption | omega), ?_⟩
        | refine ⟨Or.inl rfl, ?_⟩
        | refine ⟨Or.inr (Or.inl rfl), ?_⟩
        | refine ⟨Or.inr (Or.inr rfl), ?_⟩
        | refine ⟨Or.inr ⟨rfl, (by first | exact Or.inl rfl | exact Or.inr rfl | assumption)⟩, ?_⟩
        | refine ⟨fun h => absurd h (by decide), fun _ => ?_⟩
        | refine ⟨fun _ => ?_, fun h => absurd h (by decide)⟩
        | refine ⟨fun h => ?_, fun h => ?_⟩
        | fail)
    · rw [q2] at q53 hk
      repeat' (first
        | refine c_Mo_isState (fun q1 => ?_) (fun q => absurd hx q)
        | refine c_Mo_isState (fun q1 => ?_) (fun q => absurd hy q)
        | refine br_f z0 ?_
        | refine c_Mo_isIn (lo := 0) (hi := 1) rfl rfl (fun hb => ?_) (fun hb => absurd zi hb)
        | refine br_f (by rw [q53]; decide) ?_
        | exact hk
        | (refine zs k_Mo_feud rfl ?_; conv => whnf)
        | refine ⟨Nat.zero_lt_one, rfl, ?_⟩
        | refine ⟨rfl, ?_⟩
        | refine ⟨⟨Nat.zero_lt_one, rfl⟩, Nat.le_of_ble_eq_true rfl, ?_⟩
        | refine ⟨Nat.le_of_ble_eq_true rfl, Nat.le_of_ble_eq_true rfl, ?_⟩
        | refine ⟨(by first | exact Nat.zero_lt_one | assumption | omega), (by first | assumption | exact vp_in_nI (by omega) (by omega) | (unfold vp_in; decide)), ?_⟩
        | refine ⟨(by first | exact Nat.zero_lt_one | assumption | omega), rfl, ?_⟩
        | refine ⟨⟨(by first | exact Nat.zero_lt_one | assumption | omega), rfl⟩, Nat.le_of_ble_eq_true rfl, ?_⟩
        | refine ⟨(by first | exact Nat.zero_lt_one | assumption | omega), ?_⟩
        | refine ⟨Or.inl rfl, ?_⟩
        | refine ⟨Or.inr (Or.inl rfl), ?_⟩
        | refine ⟨Or.inr (Or.inr rfl), ?_⟩
        | refine ⟨Or.inr ⟨rfl, (by first | exact Or.inl rfl | exact Or.inr rfl | assumption)⟩, ?_⟩
        | refine ⟨fun h => absurd h (by decide), fun _ => ?_⟩
        | refine ⟨fun _ => ?_, fun h => absurd h (by decide)⟩
        | refine ⟨fun h => ?_, fun h => ?_⟩
        | fail)
  · rcases q2 with q2 | q2
    · rw [q2] at q53 hk
      repeat' (first
        | refine c_Mo_isState (fun q1 => ?_) (fun q => absurd hx q)
        | refine c_Mo_isState (fun q1 => ?_) (fun q => absurd hy q)
        | refine br_f z0 ?_
        | refine c_Mo_isIn (lo := 0) (hi := 1) rfl rfl (fun hb => ?_) (fun hb => absurd zi hb)
        | refine br_t q53 ?_
        | exact hk
        | (refine zs k_Mo_feud rfl ?_; conv => whnf)
        | refine ⟨Nat.zero_lt_one, rfl, ?_⟩
        | refine ⟨rfl, ?_⟩
        | refine ⟨⟨Nat.zero_lt_one, rfl⟩, Nat.le_of_ble_eq_true rfl, ?_⟩
        | refine ⟨Nat.le_of_ble_eq_true rfl, Nat.le_of_ble_eq_true rfl, ?_⟩
        | refine ⟨(by first | exact Nat.zero_lt_one | assumption | omega), (by first | assumption | exact vp_in_nI (by omega) (by omega) | (unfold vp_in; decide)), ?_⟩
        | refine ⟨(by first | exact Nat.zero_lt_one | assumption | omega), rfl, ?_⟩
        | refine ⟨⟨(by first | exact Nat.zero_lt_one | assumption | omega), rfl⟩, Nat.le_of_ble_eq_true rfl, ?_⟩
        | refine ⟨(by first | exact Nat.zero_lt_one | assumption | omega), ?_⟩
        | refine ⟨Or.inl rfl, ?_⟩
        | refine ⟨Or.inr (Or.inl rfl), ?_⟩
        | refine ⟨Or.inr (Or.inr rfl), ?_⟩
        | refine ⟨Or.inr ⟨rfl, (by first | exact Or.inl rfl | exact Or.inr rfl | assumption)⟩, ?_⟩
        | refine ⟨fun h => absurd h (by decide), fun _ => ?_⟩
        | refine ⟨fun _ => ?_, fun h => absurd h (by decide)⟩
        | refine ⟨fun h => ?_, fun h => ?_⟩
        | fail)
    · rw [q2] at q53 hk
      repeat' (first
        | refine c_Mo_isState (fun q1 => ?_) (fun q => absurd hx q)
        | refine c_Mo_isState (fun q1 => ?_) (fun q => absurd hy q)
        | refine br_f z0 ?_
        | refine c_Mo_isIn (lo := 0) (hi := 1) rfl rfl (fun hb => ?_) (fun hb => absurd zi hb)
        | refine br_f (by rw [q53]; decide) ?_
        | exact hk
        | (refine zs k_Mo_feud rfl ?_; conv => whnf)
        | refine ⟨Nat.zero_lt_one, rfl, ?_⟩
        | refine ⟨rfl, ?_⟩
        | refine ⟨⟨Nat.zero_lt_one, rfl⟩, Nat.le_of_ble_eq_true rfl, ?_⟩
        | refine ⟨Nat.le_of_ble_eq_true rfl, Nat.le_of_ble_eq_true rfl, ?_⟩
        | refine ⟨(by first | exact Nat.zero_lt_one | assumption | omega), (by first | assumption | exact vp_in_nI (by omega) (by omega) | (unfold vp_in; decide)), ?_⟩
        | refine ⟨(by first | exact Nat.zero_lt_one | assumption | omega), rfl, ?_⟩
        | refine ⟨⟨(by first | exact Nat.zero_lt_one | assumption | omega), rfl⟩, Nat.le_of_ble_eq_true rfl, ?_⟩
        | refine ⟨(by first | exact Nat.zero_lt_one | assumption | omega), ?_⟩
        | refine ⟨Or.inl rfl, ?_⟩
        | refine ⟨Or.inr (Or.inl rfl), ?_⟩
        | refine ⟨Or.inr (Or.inr rfl), ?_⟩
        | refine ⟨Or.inr ⟨rfl, (by first | exact Or.inl rfl | exact Or.inr rfl | assumption)⟩, ?_⟩
        | refine ⟨fun h => absurd h (by decide), fun _ => ?_⟩
        | refine ⟨fun _ => ?_, fun h => absurd h (by decide)⟩
        | refine ⟨fun h => ?_, fun h => ?_⟩
        | fail)
theorem okI_i {n a : Nat} (h : a < n) (hn : n < 2 ^ 31) : okI n (nI a) := zIx_y h hn
theorem b_feud {μ : zMu} {x y z : Int32} (h : Rel μ) : Both m_De_feud m_Mo_feud [zI x, zI y, zI z] μ := by
  intro d K hK
  obtain ⟨ns, n, nr, nh, nt, nb, L, g1, g2, g3, g4, g5, g6, g7, g8, g9, g10, g11⟩ := id h
  have h10 := g1.2.2.1
  have h53 : ∀ a b, a < 10 → b < 10 → μ 53 0 (10 * a + b) = μ 36 a b ∧ (μ 36 a b = 0 ∨ μ 36 a b = 1) := fun a b ha hb => ⟨(g7 a b ha hb).2.1, (g7 a b ha hb).1⟩
  refine c_De_feud g1.1 h10 (fun a => hK _ _ (fun d K2 hK2 => ?_)) (fun a b => hK _ _ (fun d K2 hK2 => ?_)) (fun a b ha hb ex ey hab hz => hK _ _ (fun d K2 hK2 => ?_))
  · exact c_Mo_feud g1.2.1 h10 h53 (fun _ => hK2 _ h) (fun q => absurd q a) (fun a' b' ha hb ex ey => absurd ⟨by rw [ex]; exact okI_i ha (by omega), by rw [ey]; exact okI_i hb (by omega)⟩ a)
  · exact c_Mo_feud g1.2.1 h10 h53 (fun q => absurd a q) (fun _ _ => hK2 _ h) (fun a' b' ha hb ex ey hab hz => absurd ⟨by rw [ex, ey]; exact fun e => hab ((nI_eq (by omega) (by omega)).mp e), hz⟩ b)
  · subst ex ey
    have hi : okI ns (nI a) ∧ okI ns (nI b) := ⟨okI_i ha (by omega), okI_i hb (by omega)⟩
    refine c_Mo_feud (ns := ns) (μ0 := μ) g1.2.1 h10 h53 (fun q => absurd hi q) (fun _ q => absurd ⟨fun e => hab ((nI_eq (by omega) (by omega)).mp e), hz⟩ q) (fun a' b' ha' hb' ex ey _ _ => ?_)
    obtain rfl := (nI_eq (by omega) (by omega)).mp ex
    obtain rfl := (nI_eq (by omega) (by omega)).mp ey
    refine hK2 _ ⟨ns, n, nr, nh, nt, nb, L, g1, g2, g3, g4, g5, g6, fun i j hi hj => ?_, g8, g9, g10, g11⟩
    have e36 : ∀ i j, zu (zu (zu (zu μ 36 a b z) 36 b a z) 53 0 (10 * a + b) z) 53 0 (10 * b + a) z 36 i j = if (i = a ∧ j = b) ∨ (i = b ∧ j = a) then z else μ 36 i j := fun i j => by
      rw [zu_ne (by omega), zu_ne (by omega)]
      by_cases q1 : i = b ∧ j = a
      · rw [if_pos (Or.inr q1), q1.1, q1.2, zu_eq]
      · rw [zu_ne (by omega)]
        by_cases q2 : i = a ∧ j = b
        · rw [if_pos (Or.inl q2), q2.1, q2.2, zu_eq]
        · rw [zu_ne (by omega), if_neg (by omega)]
    have e53 : ∀ k, zu (zu (zu (zu μ 36 a b z) 36 b a z) 53 0 (10 * a + b) z) 53 0 (10 * b + a) z 53 0 k = if k = 10 * a + b ∨ k = 10 * b + a then z else μ 53 0 k := fun k => by
      by_cases q1 : k = 10 * b + a
      · rw [if_pos (Or.inr q1), q1, zu_eq]
      · rw [zu_ne (by omega)]
        by_cases q2 : k = 10 * a + b
        · rw [if_pos (Or.inl q2), q2, zu_eq]
        · rw [zu_ne (by omega), zu_ne (by omega), zu_ne (by omega), if_neg (by omega)]
    obtain ⟨a1, a2, a3⟩ := g7 i j hi hj
    rw [e36, e36, e53]
    by_cases q : (i = a ∧ j = b) ∨ (i = b ∧ j = a)
    · rw [if_pos q, if_pos (by omega), if_pos (by omega)]
      exact ⟨hz, rfl, rfl⟩
    · rw [if_neg q, if_neg (by omega), if_neg (by omega)]
      exact ⟨a1, a2, a3⟩
def okTk (x y z : Int32) : Prop := 0 ≤ x ∧ x < 8 ∧ 0 ≤ y ∧ y < 8 ∧ ¬ x = y ∧ 0 ≤ z ∧ z ≤ 9
theorem okTk_of {x y z : Int32} (h : okTk x y z) : ∃ a b c, a < 8 ∧ b < 8 ∧ a ≠ b ∧ c ≤ 9 ∧ x = nI a ∧ y = nI b ∧ z = nI c := by
  obtain ⟨h1, h2, h3, h4, h5, h6, h7⟩ := h
  rcases zIx x (n := 8) (by omega) with ⟨a, ha, rfl⟩ | q
  case inr => exact absurd ⟨h1, h2⟩ q
  rcases zIx y (n := 8) (by omega) with ⟨b, hb, rfl⟩ | q
  case inr => exact absurd ⟨h3, h4⟩ q
  obtain ⟨c, hc, rfl⟩ := nI_of2 (x := z) (M := 9) (n := 9) rfl (by grind) h7
  exact ⟨a, b, c, ha, hb, fun e => h5 (by rw [e]), hc, rfl, rfl, rfl⟩
theorem c_De_talk {d : Nat} {μ : zMu} {x y z : Int32} {K : Option zV → zMu → Prop} (h0 : ¬ okTk x y z → K (some (zI (-2))) μ) (h2 : ∀ a b, okTk x y z → a < 8 → b < 8 → x = nI a → y = nI b → K (some (zI (μ 38 a b))) (zu (zu μ 38 a b z) 38 b a z)) : Ct (d + 1) m_De_talk [zR 0 0, zI x, zI y, zI z] μ K := by
  refine zmeet rfl (Nat.le_of_ble_eq_true rfl) (fun S => ?_)
  by_cases ho : okTk x y z
  case neg =>
    have hk := h0 ho
    unfold okTk at ho
    repeat' (first
      | refine c_Ro_isTongue (fun _ _ => ?_) (fun _ => ?_)
      | exact hk
      | (refine zs k_De_talk rfl ?_; conv => whnf)
      | refine ⟨Nat.zero_lt_one, rfl, ?_⟩
      | refine ⟨rfl, ?_⟩
      | refine ⟨⟨Nat.zero_lt_one, rfl⟩, Nat.le_of_ble_eq_true rfl, ?_⟩
      | refine ⟨Nat.le_of_ble_eq_true rfl, Nat.le_of_ble_eq_true rfl, ?_⟩
      | refine ⟨(by first | exact Nat.zero_lt_one | assumption | omega), (by first | assumption | exact vp_in_nI (by omega) (by omega) | (unfold vp_in; decide)), ?_⟩
      | refine ⟨(by first | exact Nat.zero_lt_one | assumption | omega), rfl, ?_⟩
      | refine ⟨⟨(by first | exact Nat.zero_lt_one | assumption | omega), rfl⟩, Nat.le_of_ble_eq_true rfl, ?_⟩
      | refine ⟨(by first | exact Nat.zero_lt_one | assumption | omega), ?_⟩
      | refine ⟨Or.inl rfl, ?_⟩
      | refine ⟨Or.inr (Or.inl rfl), ?_⟩
      | refine ⟨Or.inr (Or.inr rfl), ?_⟩
      | refine ⟨Or.inr ⟨rfl, (by first | exact Or.inl rfl | exact Or.inr rfl | assumption)⟩, ?_⟩
      | refine ⟨fun h => absurd h (by decide), fun _ => ?_⟩
      | refine ⟨fun _ => ?_, fun h => absurd h (by decide)⟩
      | refine ⟨fun h => ?_, fun h => ?_⟩
      | exact absurd (by grind) ho
      | fail)
  obtain ⟨a, b, c, ha, hb, hab, hc, rfl, rfl, rfl⟩ := okTk_of ho
  have hk := h2 a b ho ha hb rfl rfl
  have ca : (nI a).toNatClampNeg = a := nI_clamp (by omega)
  have cb : (nI b).toNatClampNeg = b := nI_clamp (by omega)
  have t1 : 0 ≤ nI a ∧ nI a < 8 := ⟨ho.1, ho.2.1⟩
  have t2 : 0 ≤ nI b ∧ nI b < 8 := ⟨ho.2.2.1, ho.2.2.2.1⟩
  have t3 := ho.2.2.2.2.1
  have t4 : ¬ nI c < 0 := nI_pos (by omega)
  have t5 := ho.2.2.2.2.2.2
  repeat' (first
    | refine c_Ro_isTongue (fun _ _ => ?_) (fun q => absurd t1 q)
    | refine c_Ro_isTongue (fun _ _ => ?_) (fun q => absurd t2 q)
    | refine br_f t3 ?_
    | refine br_f t4 ?_
    | refine br_t t5 ?_
    | refine c_Ha_setCost (vp_in_nI (by omega) (by omega)) (vp_in_nI (by omega) (by omega)) ?_
    | exact zKe hk (by rw [ca, cb]) (by rw [ca, cb])
    | (refine zs k_De_talk rfl ?_; conv => whnf)
    | refine ⟨Nat.zero_lt_one, rfl, ?_⟩
    | refine ⟨rfl, ?_⟩
    | refine ⟨⟨Nat.zero_lt_one, rfl⟩, Nat.le_of_ble_eq_true rfl, ?_⟩
    | refine ⟨Nat.le_of_ble_eq_true rfl, Nat.le_of_ble_eq_true rfl, ?_⟩
    | refine ⟨(by first | exact Nat.zero_lt_one | assumption | omega), (by first | assumption | exact vp_in_nI (by omega) (by omega) | (unfold vp_in; decide)), ?_⟩
    | refine ⟨(by first | exact Nat.zero_lt_one | assumption | omega), rfl, ?_⟩
    | refine ⟨⟨(by first | exact Nat.zero_lt_one | assumption | omega), rfl⟩, Nat.le_of_ble_eq_true rfl, ?_⟩
    | refine ⟨(by first | exact Nat.zero_lt_one | assumption | omega), ?_⟩
    | refine ⟨Or.inl rfl, ?_⟩
    | refine ⟨Or.inr (Or.inl rfl), ?_⟩
    | refine ⟨Or.inr (Or.inr rfl), ?_⟩
    | refine ⟨Or.inr ⟨rfl, (by first | exact Or.inl rfl | exact Or.inr rfl | assumption)⟩, ?_⟩
    | refine ⟨fun h => absurd h (by decide), fun _ => ?_⟩
    | refine ⟨fun _ => ?_, fun h => absurd h (by decide)⟩
    | refine ⟨fun h => ?_, fun h => ?_⟩
    | fail)
theorem c_Mo_talk {d : Nat} {μ : zMu} {x y z : Int32} {K : Option zV → zMu → Prop} (h0 : ¬ okTk x y z → K (some (zI (-2))) μ) (h2 : ∀ a b, okTk x y z → a < 8 → b < 8 → x = nI a → y = nI b → K (some (zI (μ 54 0 (8 * a + b)))) (zu (zu μ 54 0 (8 * a + b) z) 54 0 (8 * b + a) z)) : Ct (d + 1) m_Mo_talk [zR 48 0, zI x, zI y, zI z] μ K := by
  refine zmeet rfl (Nat.le_of_ble_eq_true rfl) (fun S => ?_)
  by_cases ho : okTk x y z
  case neg =>
    have hk := h0 ho
    have ho' : ¬ ((0 ≤ x ∧ x ≤ 7) ∧ (0 ≤ y ∧ y ≤ 7) ∧ ¬ x = y ∧ 0 ≤ z ∧ z ≤ 9) := fun q => ho ⟨q.1.1, lt8.mpr q.1.2, q.2.1.1, lt8.mpr q.2.1.2, q.2.2⟩
    repeat' (first
      | refine c_Mo_isIn (x := x) (lo := 0) (hi := 7) rfl rfl (fun i1 => ?_) (fun i1 => ?_)
      | refine c_Mo_isIn (x := y) (lo := 0) (hi := 7) rfl rfl (fun i2 => ?_) (fun i2 => ?_)
      | refine c_Mo_isIn (x := z) (lo := 0) (hi := 9) rfl rfl (fun i3 => absurd ⟨i1, i2, by assumption, i3⟩ ho') (fun i3 => ?_)
      | exact hk
      | (refine zs k_Mo_talk rfl ?_; conv => whnf)
      | refine ⟨Nat.zero_lt_one, rfl, ?_⟩
      | refine ⟨rfl, ?_⟩
      | refine ⟨⟨Nat.zero_lt_one, rfl⟩, Nat.le_of_ble_eq_true rfl, ?_⟩
      | refine ⟨Nat.le_of_ble_eq_true rfl, Nat.le_of_ble_eq_true rfl, ?_⟩
      | refine ⟨(by first | exact Nat.zero_lt_one | assumption | omega), (by first | assumption | exact vp_in_nI (by omega) (by omega) | (unfold vp_in; decide)), ?_⟩
      | refine ⟨(by first | exact Nat.zero_lt_one | assumption | omega), rfl, ?_⟩
      | refine ⟨⟨(by first | exact Nat.zero_lt_one | assumption | omega), rfl⟩, Nat.le_of_ble_eq_true rfl, ?_⟩
      | refine ⟨(by first | exact Nat.zero_lt_one | assumption | omega), ?_⟩
      | refine ⟨Or.inl rfl, ?_⟩
      | refine ⟨Or.inr (Or.inl rfl), ?_⟩
      | refine ⟨Or.inr (Or.inr rfl), ?_⟩
      | refine ⟨Or.inr ⟨rfl, (by first | exact Or.inl rfl | exact Or.inr rfl | assumption)⟩, ?_⟩
      | refine ⟨fun h => absurd h (by decide), fun _ => ?_⟩
      | refine ⟨fun _ => ?_, fun h => absurd h (by decide)⟩
      | refine ⟨fun h => ?_, fun h => ?_⟩
      | fail)
  obtain ⟨a, b, c, ha, hb, hab, hc, rfl, rfl, rfl⟩ := okTk_of ho
  have hk := h2 a b ho ha hb rfl rfl
  have t1 : 0 ≤ nI a ∧ nI a ≤ 7 := ⟨ho.1, lt8.mp ho.2.1⟩
  have t2 : 0 ≤ nI b ∧ nI b ≤ 7 := ⟨ho.2.2.1, lt8.mp ho.2.2.2.1⟩
  have t3 := ho.2.2.2.2.1
  have t5 : 0 ≤ nI c ∧ nI c ≤ 9 := ho.2.2.2.2.2
  have m1 : (8 : Int32) * nI a + nI b = nI (8 * a + b) := by rw [show (8 : Int32) * nI a = nI (8 * a) from pk_mul 8 a, nI_add]
  have m2 : (8 : Int32) * nI b + nI a = nI (8 * b + a) := by rw [show (8 : Int32) * nI b = nI (8 * b) from pk_mul 8 b, nI_add]
  have v1 : vp_in ((8 : Int32) * nI a + nI b) 64 := by rw [m1]; exact vp_in_nI (by omega) (by omega)
  have v2 : vp_in ((8 : Int32) * nI b + nI a) 64 := by rw [m2]; exact vp_in_nI (by omega) (by omega)
  have c1 : ((8 : Int32) * nI a + nI b).toNatClampNeg = 8 * a + b := by rw [m1]; exact nI_clamp (by omega)
  have c2 : ((8 : Int32) * nI b + nI a).toNatClampNeg = 8 * b + a := by rw [m2]; exact nI_clamp (by omega)
  rw [← c1, ← c2] at hk
  repeat' (first
    | refine c_Mo_isIn (x := nI a) (lo := 0) (hi := 7) rfl rfl (fun i1 => ?_) (fun i1 => absurd t1 i1)
    | refine c_Mo_isIn (x := nI b) (lo := 0) (hi := 7) rfl rfl (fun i2 => ?_) (fun i2 => absurd t2 i2)
    | refine c_Mo_isIn (x := nI c) (lo := 0) (hi := 9) rfl rfl (fun i3 => ?_) (fun i3 => absurd t5 i3)
    | refine br_f t3 ?_
    | exact hk
    | (refine zs k_Mo_talk rfl ?_; conv => whnf)
    | refine ⟨Nat.zero_lt_one, rfl, ?_⟩
    | refine ⟨rfl, ?_⟩
    | refine ⟨⟨Nat.zero_lt_one, rfl⟩, Nat.le_of_ble_eq_true rfl, ?_⟩
    | refine ⟨Nat.le_of_ble_eq_true rfl, Nat.le_of_ble_eq_true rfl, ?_⟩
    | refine ⟨(by first | exact Nat.zero_lt_one | assumption | omega), (by first | assumption | exact vp_in_nI (by omega) (by omega) | (unfold vp_in; decide)), ?_⟩
    | refine ⟨(by first | exact Nat.zero_lt_one | assumption | omega), rfl, ?_⟩
    | refine ⟨⟨(by first | exact Nat.zero_lt_one | assumption | omega), rfl⟩, Nat.le_of_ble_eq_true rfl, ?_⟩
    | refine ⟨(by first | exact Nat.zero_lt_one | assumption | omega), ?_⟩
    | refine ⟨Or.inl rfl, ?_⟩
    | refine ⟨Or.inr (Or.inl rfl), ?_⟩
    | refine ⟨Or.inr (Or.inr rfl), ?_⟩
    | refine ⟨Or.inr ⟨rfl, (by first | exact Or.inl rfl | exact Or.inr rfl | assumption)⟩, ?_⟩
    | refine ⟨fun h => absurd h (by decide), fun _ => ?_⟩
    | refine ⟨fun _ => ?_, fun h => absurd h (by decide)⟩
    | refine ⟨fun h => ?_, fun h => ?_⟩
    | fail)
theorem b_talk {μ : zMu} {x y z : Int32} (h : Rel μ) : Both m_De_talk m_Mo_talk [zI x, zI y, zI z] μ := by
  intro d K hK
  obtain ⟨ns, n, nr, nh, nt, nb, L, g1, g2, g3, g4, g5, g6, g7, g8, g9, g10, g11⟩ := id h
  refine c_De_talk (fun a => hK _ _ (fun d K2 hK2 => ?_)) (fun a b ho ha hb ex ey => hK _ _ (fun d K2 hK2 => ?_))
  · exact c_Mo_talk (fun _ => hK2 _ h) (fun a' b' q => absurd q a)
  · refine c_Mo_talk (fun q => absurd ho q) (fun a' b' _ ha' hb' ex' ey' => ?_)
    rw [ex] at ex'
    rw [ey] at ey'
    obtain rfl := (nI_eq (by omega) (by omega)).mp ex'
    obtain rfl := (nI_eq (by omega) (by omega)).mp ey'
    obtain ⟨c, hc, rfl⟩ := nI_of2 (x := z) (M := 9) (n := 9) rfl (by have := ho.2.2.2.2.2.1; grind) ho.2.2.2.2.2.2
    refine zKe (hK2 _ ?_) (g8 a b ha hb).2.1 rfl
    refine ⟨ns, n, nr, nh, nt, nb, L, g1, g2, g3, g4, g5, g6, g7, fun i j hi hj => ?_, g9, g10, g11⟩
    have e36 : ∀ i j, zu (zu (zu (zu μ 38 a b (nI c)) 38 b a (nI c)) 54 0 (8 * a + b) (nI c)) 54 0 (8 * b + a) (nI c) 38 i j = if (i = a ∧ j = b) ∨ (i = b ∧ j = a) then nI c else μ 38 i j := fun i j => by
      rw [zu_ne (by omega), zu_ne (by omega)]
      by_cases q1 : i = b ∧ j = a
      · rw [if_pos (Or.inr q1), q1.1, q1.2, zu_eq]
      · rw [zu_ne (by omega)]
        by_cases q2 : i = a ∧ j = b
        · rw [if_pos (Or.inl q2), q2.1, q2.2, zu_eq]
        · rw [zu_ne (by omega), if_neg (by omega)]
    have e53 : ∀ k, zu (zu (zu (zu μ 38 a b (nI c)) 38 b a (nI c)) 54 0 (8 * a + b) (nI c)) 54 0 (8 * b + a) (nI c) 54 0 k = if k = 8 * a + b ∨ k = 8 * b + a then nI c else μ 54 0 k := fun k => by
      by_cases q1 : k = 8 * b + a
      · rw [if_pos (Or.inr q1), q1, zu_eq]
      · rw [zu_ne (by omega)]
        by_cases q2 : k = 8 * a + b
        · rw [if_pos (Or.inl q2), q2, zu_eq]
        · rw [zu_ne (by omega), zu_ne (by omega), zu_ne (by omega), if_neg (by omega)]
    obtain ⟨a1, a2, a3⟩ := g8 i j hi hj
    rw [e36, e36, e53]
    by_cases q : (i = a ∧ j = b) ∨ (i = b ∧ j = a)
    · rw [if_pos q, if_pos (by omega), if_pos (by omega)]
      exact ⟨⟨c, hc, rfl⟩, rfl, rfl⟩
    · rw [if_neg q, if_neg (by omega), if_neg (by omega)]
      exact ⟨a1, a2, a3⟩
/-! DESK: seat, close, sit -/
def stOk (μ : zMu) (nt : Nat) (x i : Int32) : Prop := ∃ t, t < nt ∧ x = nI t ∧ 0 ≤ i ∧ i < μ 9 t 0
theorem stOk_of {μ : zMu} {nt n : Nat} {x i : Int32} (g : gTb μ nt n) (h : stOk μ nt x i) : ∃ t j z, t < nt ∧ x = nI t ∧ i = nI j ∧ j < z ∧ z ≤ 12 ∧ μ 9 t 0 = nI z ∧ μ 94 0 t = nI z := by
  obtain ⟨t, ht, hx, h0, h1⟩ := h
  obtain ⟨-, -, ⟨z, z1, z2, z3, z4, z5⟩, -⟩ := g.2.2.2 t ht
  rw [z3] at h1
  rcases zIx i (n := z) (by omega) with ⟨j, hj, rfl⟩ | q
  · exact ⟨t, j, z, ht, hx, rfl, hj, z2, z3, z4⟩
  · exact absurd ⟨h0, h1⟩ q
theorem c_De_seat {d nt n : Nat} {μ : zMu} {x i : Int32} {K : Option zV → zMu → Prop} (g : gTb μ nt n) (h0 : ¬ stOk μ nt x i → K (some (zI (-1))) μ) (h1 : ∀ t j, stOk μ nt x i → t < nt → j < 12 → x = nI t → i = nI j → K (some (zI (μ 40 t j))) μ) : Ct (d + 2) m_De_seat [zR 0 0, zI x, zI i] μ K := by
  refine zmeet rfl (Nat.le_of_ble_eq_true rfl) (fun S => ?_)
  have h4 := g.2.2.1
  by_cases ho : stOk μ nt x i
  case neg =>
    have hk := h0 ho
    repeat' (first
      | refine c_Ha_hasSeat g.1 h4 (fun t ht hx hi1 hi2 => absurd ⟨t, ht, hx, hi1, hi2⟩ ho) (fun _ => ?_)
      | exact hk
      | (refine zs k_De_seat rfl ?_; conv => whnf)
      | refine ⟨Nat.zero_lt_one, rfl, ?_⟩
      | refine ⟨rfl, ?_⟩
      | refine ⟨⟨Nat.zero_lt_one, rfl⟩, Nat.le_of_ble_eq_true rfl, ?_⟩
      | refine ⟨Nat.le_of_ble_eq_true rfl, Nat.le_of_ble_eq_true rfl, ?_⟩
      | refine ⟨(by first | exact Nat.zero_lt_one | assumption | omega), (by first | assumption | exact vp_in_nI (by omega) (by omega) | (unfold vp_in; decide)), ?_⟩
      | refine ⟨(by first | exact Nat.zero_lt_one | assumption | omega), rfl, ?_⟩
      | refine ⟨⟨(by first | exact Nat.zero_lt_one | assumption | omega), rfl⟩, Nat.le_of_ble_eq_true rfl, ?_⟩
      | refine ⟨(by first | exact Nat.zero_lt_one | assumption | omega), ?_⟩
      | refine ⟨Or.inl rfl, ?_⟩
      | refine ⟨Or.inr (Or.inl rfl), ?_⟩
      | refine ⟨Or.inr (Or.inr rfl), ?_⟩
      | refine ⟨Or.inr ⟨rfl, (by first | exact Or.inl rfl | exact Or.inr rfl | assumption)⟩, ?_⟩
      | refine ⟨fun h => absurd h (by decide), fun _ => ?_⟩
      | refine ⟨fun _ => ?_, fun h => absurd h (by decide)⟩
      | refine ⟨fun h => ?_, fun h => ?_⟩
      | fail)
  obtain ⟨t, j, z, ht, rfl, rfl, hj, hz, e9, e94⟩ := stOk_of g ho
  have hk := h1 t j ho ht (by omega) rfl rfl
  have ct : (nI t).toNatClampNeg = t := nI_clamp (by omega)
  have cj : (nI j).toNatClampNeg = j := nI_clamp (by omega)
  have hvt : vp_in (nI t) 4 := vp_in_nI (by omega) (by omega)
  have hlt : (nI t).toNatClampNeg < 4 := by omega
  repeat' (first
    | refine c_Ha_hasSeat g.1 h4 (fun _ _ _ _ _ => ?_) (fun q => absurd ho q)
    | exact zKe hk (by rw [ct, cj]) rfl
    | (refine zs k_De_seat rfl ?_; conv => whnf)
    | refine ⟨Nat.zero_lt_one, rfl, ?_⟩
    | refine ⟨rfl, ?_⟩
    | refine ⟨⟨Nat.zero_lt_one, rfl⟩, Nat.le_of_ble_eq_true rfl, ?_⟩
    | refine ⟨Nat.le_of_ble_eq_true rfl, Nat.le_of_ble_eq_true rfl, ?_⟩
    | refine ⟨(by first | exact Nat.zero_lt_one | assumption | omega), (by first | assumption | exact vp_in_nI (by omega) (by omega) | (unfold vp_in; decide)), ?_⟩
    | refine ⟨(by first | exact Nat.zero_lt_one | assumption | omega), rfl, ?_⟩
    | refine ⟨⟨(by first | exact Nat.zero_lt_one | assumption | omega), rfl⟩, Nat.le_of_ble_eq_true rfl, ?_⟩
    | refine ⟨(by first | exact Nat.zero_lt_one | assumption | omega), ?_⟩
    | refine ⟨Or.inl rfl, ?_⟩
    | refine ⟨Or.inr (Or.inl rfl), ?_⟩
    | refine ⟨Or.inr (Or.inr rfl), ?_⟩
    | refine ⟨Or.inr ⟨rfl, (by first | exact Or.inl rfl | exact Or.inr rfl | assumption)⟩, ?_⟩
    | refine ⟨fun h => absurd h (by decide), fun _ => ?_⟩
    | refine ⟨fun _ => ?_, fun h => absurd h (by decide)⟩
    | refine ⟨fun h => ?_, fun h => ?_⟩
    | fail)
theorem c_Mo_seat {d nt n : Nat} {μ : zMu} {x i : Int32} {K : Option zV → zMu → Prop} (g : gTb μ nt n) (h0 : ¬ stOk μ nt x i → K (some (zI (-1))) μ) (h1 : ∀ t j, stOk μ nt x i → t < nt → j < 12 → x = nI t → i = nI j → K (some (zI (μ 40 t j))) μ) : Ct (d + 1) m_Mo_seat [zR 48 0, zI x, zI i] μ K := by
  refine zmeet rfl (Nat.le_of_ble_eq_true rfl) (fun S => ?_)
  have h4 := g.2.2.1
  have hn := g.2.1
  by_cases ho : stOk μ nt x i
  case neg =>
    have hk := h0 ho
    rcases zIx x (n := nt) (by omega) with ⟨t, ht, rfl⟩ | q
    case inr =>
      have q' : ¬ (0 ≤ x ∧ x < μ 48 0 42) := by rw [hn]; exact q
      repeat' (first
        | refine c_Mo_isTable (fun h => absurd h q') (fun _ => ?_)
        | exact hk
        | (refine zs k_Mo_seat rfl ?_; conv => whnf)
        | refine ⟨Nat.zero_lt_one, rfl, ?_⟩
        | refine ⟨rfl, ?_⟩
        | refine ⟨⟨Nat.zero_lt_one, rfl⟩, Nat.le_of_ble_eq_true rfl, ?_⟩
        | refine ⟨Nat.le_of_ble_eq_true rfl, Nat.le_of_ble_eq_true rfl, ?_⟩
        | refine ⟨(by first | exact Nat.zero_lt_one | assumption | omega), (by first | assumption | exact vp_in_nI (by omega) (by omega) | (unfold vp_in; decide)), ?_⟩
        | refine ⟨(by first | exact Nat.zero_lt_one | assumption | omega), rfl, ?_⟩
        | refine ⟨⟨(by first | exact Nat.zero_lt_one | assumption | omega), rfl⟩, Nat.le_of_ble_eq_true rfl, ?_⟩
        | refine ⟨(by first | exact Nat.zero_lt_one | assumption | omega), ?_⟩
        | refine ⟨Or.inl rfl, ?_⟩
        | refine ⟨Or.inr (Or.inl rfl), ?_⟩
        | refine ⟨Or.inr (Or.inr rfl), ?_⟩
        | refine ⟨Or.inr ⟨rfl, (by first | exact Or.inl rfl | exact Or.inr rfl | assumption)⟩, ?_⟩
        | refine ⟨fun h => absurd h (by decide), fun _ => ?_⟩
        | refine ⟨fun _ => ?_, fun h => absurd h (by decide)⟩
        | refine ⟨fun h => ?_, fun h => ?_⟩
        | fail)
    have hy : 0 ≤ nI t ∧ nI t < μ 48 0 42 := by rw [hn]; exact zIx_y ht (by omega)
    obtain ⟨-, -, ⟨z, z1, z2, z3, z4, z5⟩, -⟩ := g.2.2.2 t ht
    have ct : (nI t).toNatClampNeg = t := nI_clamp (by omega)
    have hvt : vp_in (nI t) 4 := vp_in_nI (by omega) (by omega)
    have e94 : μ 94 0 (nI t).toNatClampNeg = μ 9 t 0 := by rw [ct, z4, z3]
    have no : ¬ (¬ i < 0 ∧ i < μ 94 0 (nI t).toNatClampNeg) := fun q => ho ⟨t, ht, rfl, by have := q.1; grind, by rw [← e94]; exact q.2⟩
    repeat' (first
      | refine c_Mo_isTable (fun _ => ?_) (fun h => absurd hy h)
      | exact hk
      | (refine zs k_Mo_seat rfl ?_; conv => whnf)
      | refine ⟨Nat.zero_lt_one, rfl, ?_⟩
      | refine ⟨rfl, ?_⟩
      | refine ⟨⟨Nat.zero_lt_one, rfl⟩, Nat.le_of_ble_eq_true rfl, ?_⟩
      | refine ⟨Nat.le_of_ble_eq_true rfl, Nat.le_of_ble_eq_true rfl, ?_⟩
      | refine ⟨(by first | exact Nat.zero_lt_one | assumption | omega), (by first | assumption | exact vp_in_nI (by omega) (by omega) | (unfold vp_in; decide)), ?_⟩
      | refine ⟨(by first | exact Nat.zero_lt_one | assumption | omega), rfl, ?_⟩
      | refine ⟨⟨(by first | exact Nat.zero_lt_one | assumption | omega), rfl⟩, Nat.le_of_ble_eq_true rfl, ?_⟩
      | refine ⟨(by first | exact Nat.zero_lt_one | assumption | omega), ?_⟩
      | refine ⟨Or.inl rfl, ?_⟩
      | refine ⟨Or.inr (Or.inl rfl), ?_⟩
      | refine ⟨Or.inr (Or.inr rfl), ?_⟩
      | refine ⟨Or.inr ⟨rfl, (by first | exact Or.inl rfl | exact Or.inr rfl | assumption)⟩, ?_⟩
      | refine ⟨fun h => absurd h (by decide), fun _ => ?_⟩
      | refine ⟨fun _ => ?_, fun h => absurd h (by decide)⟩
      | refine ⟨fun h => ?_, fun h => ?_⟩
      | exact absurd ⟨by assumption, by grind⟩ no
      | fail)
  obtain ⟨t, j, z, ht, rfl, rfl, hj, hz, e9, e94⟩ := stOk_of g ho
  have hk := h1 t j ho ht (by omega) rfl rfl
  have ct : (nI t).toNatClampNeg = t := nI_clamp (by omega)
  have hy : 0 ≤ nI t ∧ nI t < μ 48 0 42 := by rw [hn]; exact zIx_y ht (by omega)
  have e94' : ¬ μ 94 0 (nI t).toNatClampNeg ≤ nI j := by rw [ct, e94]; exact nI_ge hj (by omega)
  have m1 : (12 : Int32) * nI t + nI j = nI (12 * t + j) := by rw [show (12 : Int32) * nI t = nI (12 * t) from pk_mul 12 t, nI_add]
  have v1 : vp_in ((12 : Int32) * nI t + nI j) 48 := by rw [m1]; exact vp_in_nI (by omega) (by omega)
  have c1 : ((12 : Int32) * nI t + nI j).toNatClampNeg = 12 * t + j := by rw [m1]; exact nI_clamp (by omega)
  have e95 : μ 95 0 ((12 : Int32) * nI t + nI j).toNatClampNeg = μ 40 t j := by rw [c1]; exact (g.2.2.2 t ht).2.2.2.1 j (by omega)
  repeat' (first
    | refine c_Mo_isTable (fun _ => ?_) (fun h => absurd hy h)
    | refine br_f (nI_pos (by omega)) ?_
    | refine br_f e94' ?_
    | exact zKe hk e95 rfl
    | (refine zs k_Mo_seat rfl ?_; conv => whnf)
    | refine ⟨Nat.zero_lt_one, rfl, ?_⟩
    | refine ⟨rfl, ?_⟩
    | refine ⟨⟨Nat.zero_lt_one, rfl⟩, Nat.le_of_ble_eq_true rfl, ?_⟩
    | refine ⟨Nat.le_of_ble_eq_true rfl, Nat.le_of_ble_eq_true rfl, ?_⟩
    | refine ⟨(by first | exact Nat.zero_lt_one | assumption | omega), (by first | assumption | exact vp_in_nI (by omega) (by omega) | (unfold vp_in; decide)), ?_⟩
    | refine ⟨(by first | exact Nat.zero_lt_one | assumption | omega), rfl, ?_⟩
    | refine ⟨⟨(by first | exact Nat.zero_lt_one | assumption | omega), rfl⟩, Nat.le_of_ble_eq_true rfl, ?_⟩
    | refine ⟨(by first | exact Nat.zero_lt_one | assumption | omega), ?_⟩
    | refine ⟨Or.inl rfl, ?_⟩
    | refine ⟨Or.inr (Or.inl rfl), ?_⟩
    | refine ⟨Or.inr (Or.inr rfl), ?_⟩
    | refine ⟨Or.inr ⟨rfl, (by first | exact Or.inl rfl | exact Or.inr rfl | assumption)⟩, ?_⟩
    | refine ⟨fun h => absurd h (by decide), fun _ => ?_⟩
    | refine ⟨fun _ => ?_, fun h => absurd h (by decide)⟩
    | refine ⟨fun h => ?_, fun h => ?_⟩
    | fail)
theorem b_seat {μ : zMu} {x y : Int32} (h : Rel μ) : Both m_De_seat m_Mo_seat [zI x, zI y] μ := by
  intro d K hK
  obtain ⟨ns, n, nr, nh, nt, nb, L, g1, g2, g3, g4, g5, g6, g7, g8, g9, g10, g11⟩ := id h
  have h4 := g6.2.2.1
  refine c_De_seat g6 (fun a => hK _ _ (fun d K2 hK2 => ?_)) (fun t j ho ht hj ex ey => hK _ _ (fun d K2 hK2 => ?_))
  · exact c_Mo_seat g6 (fun _ => hK2 _ h) (fun t j q => absurd q a)
  · subst ex ey
    refine c_Mo_seat g6 (fun q => absurd ho q) (fun t' j' _ ht' hj' ex ey => ?_)
    obtain rfl := (nI_eq (by omega) (by omega)).mp ex
    obtain rfl := (nI_eq (by omega) (by omega)).mp ey
    exact hK2 _ h
-- ---- close
theorem pUp_inv {a : Nat → Int32} (hd : ∀ j k, j < k → k < 12 → a j = a k → a j = -1) : ∀ i, i ≤ 12 → (∀ k, i ≤ k → (pUp a i).2 k = a k) ∧ (∀ k, (pUp a i).1 ≤ k → k < i → (pUp a i).2 k = -1) ∧ (∀ k, k < 12 → (pUp a i).2 k = -1 ∨ ∃ j, j < 12 ∧ (pUp a i).2 k = a j) ∧ (∀ j k, j < k → k < 12 → (pUp a i).2 j = (pUp a i).2 k → (pUp a i).2 j = -1)
  | 0, _ => ⟨fun _ _ => rfl, fun k h1 h2 => absurd h2 (by omega), fun k hk => Or.inr ⟨k, hk, rfl⟩, hd⟩
  | i + 1, hi => by
    obtain ⟨h1, h2, h3, h4⟩ := pUp_inv hd i (by omega)
    have hle := pUp_le a i
    rw [pUp]
    generalize hr : pUp a i = r at *
    obtain ⟨m, b⟩ := r
    dsimp only at *
    by_cases q : b i = -1
    · rw [if_pos q]
      refine ⟨fun k hk => h1 k (by omega), fun k hk1 hk2 => ?_, h3, h4⟩
      rcases Nat.lt_or_ge k i with w | w
      · exact h2 k hk1 w
      · obtain rfl : k = i := by omega
        exact q
    · rw [if_neg q]
      have ev : ∀ k, upd (upd b i (-1)) m (b i) k = if k = m then b i else if k = i then -1 else b k := fun k => by
        simp only [upd]
      refine ⟨fun k hk => ?_, fun k hk1 hk2 => ?_, fun k hk => ?_, fun j k hj hk => ?_⟩
      · show upd (upd b i (-1)) m (b i) k = a k
        rw [ev, if_neg (by omega), if_neg (by omega)]
        exact h1 k (by omega)
      · show upd (upd b i (-1)) m (b i) k = -1
        have hk1' : m + 1 ≤ k := hk1
        rw [ev, if_neg (by omega)]
        by_cases w : k = i
        · rw [if_pos w]
        · rw [if_neg w]
          exact h2 k (by omega) (by omega)
      · show upd (upd b i (-1)) m (b i) k = -1 ∨ ∃ j, j < 12 ∧ upd (upd b i (-1)) m (b i) k = a j
        rw [ev]
        by_cases w1 : k = m
        · rw [if_pos w1]
          exact h3 i (by omega)
        · rw [if_neg w1]
          by_cases w : k = i
          · rw [if_pos w]
            exact Or.inl rfl
          · rw [if_neg w]
            exact h3 k hk
      · show upd (upd b i (-1)) m (b i) j = upd (upd b i (-1)) m (b i) k → upd (upd b i (-1)) m (b i) j = -1
        rw [ev, ev]
        intro he
        by_cases j1 : j = m
        · rw [if_pos j1] at he ⊢
          rw [if_neg (by omega)] at he
          by_cases k2 : k = i
          · rw [if_pos k2] at he
            exact he
          · rw [if_neg k2] at he
            rcases Nat.lt_or_ge i k with w | w
            · exact h4 i k w hk he
            · rw [he]
              exact h2 k (by omega) (by omega)
        · rw [if_neg j1] at he ⊢
          by_cases j2 : j = i
          · rw [if_pos j2]
          · rw [if_neg j2] at he ⊢
            by_cases k1 : k = m
            · rw [if_pos k1] at he
              rcases Nat.lt_or_ge j i with w | w
              · exact h4 j i w (by omega) he
              · exact absurd w (by omega)
            · rw [if_neg k1] at he
              by_cases k2 : k = i
              · rw [if_pos k2] at he
                exact he
              · rw [if_neg k2] at he
                exact h4 j k hj hk he
theorem pUp_z {a : Nat → Int32} (hd : ∀ j k, j < k → k < 12 → a j = a k → a j = -1) {z : Nat} (hz : ∀ k, z ≤ k → k < 12 → a k = -1) : ∀ j, z + j ≤ 12 → pUp a (z + j) = pUp a z
  | 0, _ => rfl
  | j + 1, hj => by
    have ih := pUp_z hd hz j (by omega)
    have h1 := (pUp_inv hd (z + j) (by omega)).1 (z + j) (Nat.le_refl _)
    show pUp a (z + j + 1) = _
    rw [pUp, if_pos (h1.trans (hz _ (by omega) (by omega)))]
    exact ih
theorem c_De_close {d nt n : Nat} {μ : zMu} {x : Int32} {K : Option zV → zMu → Prop} (g : gTb μ nt n) (h0 : ¬ okI nt x → K (some (zI (-1))) μ) (h1 : ∀ t, t < nt → x = nI t → K (some (zI (nI (pUp (μ 40 t) 12).1))) (cRow μ 40 t (pUp (μ 40 t) 12).2)) : Ct (d + 1) m_De_close [zR 0 0, zI x] μ K := by
  refine zmeet rfl (Nat.le_of_ble_eq_true rfl) (fun S => ?_)
  have h4 := g.2.2.1
  rcases zIx x (n := nt) (by omega) with ⟨t, ht, rfl⟩ | q
  case inr =>
    have hk := h0 q
    repeat' (first
      | refine c_Ha_hasTable (fun h h' => absurd (by rw [← g.1]; exact ⟨h, h'⟩) q) (fun _ => ?_)
      | exact hk
      | (refine zs k_De_close rfl ?_; conv => whnf)
      | refine ⟨Nat.zero_lt_one, rfl, ?_⟩
      | refine ⟨rfl, ?_⟩
      | refine ⟨⟨Nat.zero_lt_one, rfl⟩, Nat.le_of_ble_eq_true rfl, ?_⟩
      | refine ⟨Nat.le_of_ble_eq_true rfl, Nat.le_of_ble_eq_true rfl, ?_⟩
      | refine ⟨(by first | exact Nat.zero_lt_one | assumption | omega), (by first | assumption | exact vp_in_nI (by omega) (by omega) | (unfold vp_in; decide)), ?_⟩
      | refine ⟨(by first | exact Nat.zero_lt_one | assumption | omega), rfl, ?_⟩
      | refine ⟨⟨(by first | exact Nat.zero_lt_one | assumption | omega), rfl⟩, Nat.le_of_ble_eq_true rfl, ?_⟩
      | refine ⟨(by first | exact Nat.zero_lt_one | assumption | omega), ?_⟩
      | refine ⟨Or.inl rfl, ?_⟩
      | refine ⟨Or.inr (Or.inl rfl), ?_⟩
      | refine ⟨Or.inr (Or.inr rfl), ?_⟩
      | refine ⟨Or.inr ⟨rfl, (by first | exact Or.inl rfl | exact Or.inr rfl | assumption)⟩, ?_⟩
      | refine ⟨fun h => absurd h (by decide), fun _ => ?_⟩
      | refine ⟨fun _ => ?_, fun h => absurd h (by decide)⟩
      | refine ⟨fun h => ?_, fun h => ?_⟩
      | fail)
  have hk := h1 t ht rfl
  have hy : 0 ≤ nI t ∧ nI t < μ 5 0 0 := by rw [g.1]; exact zIx_y ht (by omega)
  obtain ⟨-, -, ⟨z, z1, z2, z3, z4, z5⟩, a4, a5, a6⟩ := g.2.2.2 t ht
  have hu := pUp_z a6 z5 (12 - z) (by omega)
  rw [show z + (12 - z) = 12 by omega] at hu
  rw [hu] at hk
  have ct : (nI t).toNatClampNeg = t := nI_clamp (by omega)
  have hvt : vp_in (nI t) 4 := vp_in_nI (by omega) (by omega)
  have hlt : (nI t).toNatClampNeg < 4 := by omega
  have e9 : μ 9 (nI t).toNatClampNeg 0 = nI z := by rw [ct]; exact z3
  rw [← ct] at hk
  repeat' (first
    | refine c_Ha_hasTable (fun _ _ => ?_) (fun h => absurd hy h)
    | refine c_Tb_moveUp hlt e9 z2 ?_
    | exact hk
    | (refine zs k_De_close rfl ?_; conv => whnf)
    | refine ⟨Nat.zero_lt_one, rfl, ?_⟩
    | refine ⟨rfl, ?_⟩
    | refine ⟨⟨Nat.zero_lt_one, rfl⟩, Nat.le_of_ble_eq_true rfl, ?_⟩
    | refine ⟨Nat.le_of_ble_eq_true rfl, Nat.le_of_ble_eq_true rfl, ?_⟩
    | refine ⟨(by first | exact Nat.zero_lt_one | assumption | omega), (by first | assumption | exact vp_in_nI (by omega) (by omega) | (unfold vp_in; decide)), ?_⟩
    | refine ⟨(by first | exact Nat.zero_lt_one | assumption | omega), rfl, ?_⟩
    | refine ⟨⟨(by first | exact Nat.zero_lt_one | assumption | omega), rfl⟩, Nat.le_of_ble_eq_true rfl, ?_⟩
    | refine ⟨(by first | exact Nat.zero_lt_one | assumption | omega), ?_⟩
    | refine ⟨Or.inl rfl, ?_⟩
    | refine ⟨Or.inr (Or.inl rfl), ?_⟩
    | refine ⟨Or.inr (Or.inr rfl), ?_⟩
    | refine ⟨Or.inr ⟨rfl, (by first | exact Or.inl rfl | exact Or.inr rfl | assumption)⟩, ?_⟩
    | refine ⟨fun h => absurd h (by decide), fun _ => ?_⟩
    | refine ⟨fun _ => ?_, fun h => absurd h (by decide)⟩
    | refine ⟨fun h => ?_, fun h => ?_⟩
    | fail)
set_option maxHeartbeats 1000000 in
theorem c_Mo_close {d nt : Nat} {μ : zMu} {x : Int32} {a : Nat → Nat → Int32} {K : Option zV → zMu → Prop} (hn : μ 48 0 42 = nI nt) (h4 : nt ≤ 4) (ha : ∀ t, t < nt → ∀ k, k < 12 → μ 95 0 (12 * t + k) = a t k) (hd : ∀ t, t < nt → ∀ j k, j < k → k < 12 → a t j = a t k → a t j = -1) (h0 : ¬ okI nt x → K (some (zI (-1))) μ) (h1 : ∀ t μ', t < nt → x = nI t → (∀ f, f ≠ 95 → μ' f = μ f) → (∀ k, ¬ (12 * t ≤ k ∧ k < 12 * t + 12) → μ' 95 0 k = μ 95 0 k) → (∀ k, k < 12 → μ' 95 0 (12 * t + k) = (pUp (a t) 12).2 k) → K (some (zI (nI (pUp (a t) 12).1))) μ') : Ct (d + 1) m_Mo_close [zR 48 0, zI x] μ K := by
  refine zmeet rfl (Nat.le_of_ble_eq_true rfl) (fun S => ?_)
  rcases zIx x (n := nt) (by omega) with ⟨t, ht, rfl⟩ | q
  case inr =>
    have hk := h0 q
    repeat' (first
      | refine c_Mo_isTable (fun h => absurd (by rw [← hn]; exact h) q) (fun _ => ?_)
      | exact hk
      | (refine zs k_Mo_close rfl ?_; conv => whnf)
      | refine ⟨Nat.zero_lt_one, rfl, ?_⟩
      | refine ⟨rfl, ?_⟩
      | refine ⟨⟨Nat.zero_lt_one, rfl⟩, Nat.le_of_ble_eq_true rfl, ?_⟩
      | refine ⟨Nat.le_of_ble_eq_true rfl, Nat.le_of_ble_eq_true rfl, ?_⟩
      | refine ⟨(by first | exact Nat.zero_lt_one | assumption | omega), (by first | assumption | exact vp_in_nI (by omega) (by omega) | (unfold vp_in; decide)), ?_⟩
      | refine ⟨(by first | exact Nat.zero_lt_one | assumption | omega), rfl, ?_⟩
      | refine ⟨⟨(by first | exact Nat.zero_lt_one | assumption | omega), rfl⟩, Nat.le_of_ble_eq_true rfl, ?_⟩
      | refine ⟨(by first | exact Nat.zero_lt_one | assumption | omega), ?_⟩
      | refine ⟨Or.inl rfl, ?_⟩
      | refine ⟨Or.inr (Or.inl rfl), ?_⟩
      | refine ⟨Or.inr (Or.inr rfl), ?_⟩
      | refine ⟨Or.inr ⟨rfl, (by first | exact Or.inl rfl | exact Or.inr rfl | assumption)⟩, ?_⟩
      | refine ⟨fun h => absurd h (by decide), fun _ => ?_⟩
      | refine ⟨fun _ => ?_, fun h => absurd h (by decide)⟩
      | refine ⟨fun h => ?_, fun h => ?_⟩
      | fail)
  have hy : 0 ≤ nI t ∧ nI t < μ 48 0 42 := by rw [hn]; exact zIx_y ht (by omega)
  have hm : (12 : Int32) * nI t = nI (12 * t) := pk_mul 12 t
  have hm2 : (12 : Int32) * nI t + 12 = nI (12 * t + 12) := by rw [hm]; exact nI_add _ 12
  have L : ∀ (k i : Nat) (v w : Int32) (l4 : Option zV) (μ1 : zMu), i + k = 12 → v = nI (pUp (a t) i).1 → w = nI (12 * t + i) → (∀ f, f ≠ 95 → μ1 f = μ f) → (∀ k, ¬ (12 * t ≤ k ∧ k < 12 * t + 12) → μ1 95 0 k = μ 95 0 k) → (∀ k, k < 12 → μ1 95 0 (12 * t + k) = (pUp (a t) i).2 k) → zG S (d + 1) m_Mo_close K 17 [some (zR 48 0), some (zI (nI t)), some (zI v), some (zI w), l4] [] μ1 := by
    intro k
    induction k with
    | zero =>
      intro i v w l4 μ1 hi hv hw e1 e2 e3
      obtain rfl : i = 12 := by omega
      subst hv hw
      have hk := h1 t μ1 ht rfl e1 e2 e3
      have hle : (12 : Int32) * nI t + 12 ≤ nI (12 * t + 12) := by rw [hm2]; exact nI_le (Nat.le_refl _) (by omega)
      refine zs k_Mo_close rfl ?_; conv => whnf
      repeat' (first
        | refine br_t hle ?_
        | exact hk
        | (refine zs k_Mo_close rfl ?_; conv => whnf)
        | refine ⟨Nat.zero_lt_one, rfl, ?_⟩
        | refine ⟨rfl, ?_⟩
        | refine ⟨⟨Nat.zero_lt_one, rfl⟩, Nat.le_of_ble_eq_true rfl, ?_⟩
        | refine ⟨Nat.le_of_ble_eq_true rfl, Nat.le_of_ble_eq_true rfl, ?_⟩
        | refine ⟨(by first | exact Nat.zero_lt_one | assumption | omega), (by first | assumption | exact vp_in_nI (by omega) (by omega) | (unfold vp_in; decide)), ?_⟩
        | refine ⟨(by first | exact Nat.zero_lt_one | assumption | omega), rfl, ?_⟩
        | refine ⟨⟨(by first | exact Nat.zero_lt_one | assumption | omega), rfl⟩, Nat.le_of_ble_eq_true rfl, ?_⟩
        | refine ⟨(by first | exact Nat.zero_lt_one | assumption | omega), ?_⟩
        | refine ⟨Or.inl rfl, ?_⟩
        | refine ⟨Or.inr (Or.inl rfl), ?_⟩
        | refine ⟨Or.inr (Or.inr rfl), ?_⟩
        | refine ⟨Or.inr ⟨rfl, (by first | exact Or.inl rfl | exact Or.inr rfl | assumption)⟩, ?_⟩
        | refine ⟨fun h => absurd h (by decide), fun _ => ?_⟩
        | refine ⟨fun _ => ?_, fun h => absurd h (by decide)⟩
        | refine ⟨fun h => ?_, fun h => ?_⟩
        | fail)
    | succ k ih =>
      intro i v w l4 μ1 hi hv hw e1 e2 e3
      subst hv hw
      have hlp := pUp_le (a t) i
      have hle : ¬ (12 : Int32) * nI t + 12 ≤ nI (12 * t + i) := by rw [hm2]; exact nI_ge (by omega) (by omega)
      have ci : (nI (12 * t + i)).toNatClampNeg = 12 * t + i := nI_clamp (by omega)
      have ei : μ1 95 0 (nI (12 * t + i)).toNatClampNeg = (pUp (a t) i).2 i := by rw [ci]; exact e3 i (by omega)
      have mm : (12 : Int32) * nI t + nI (pUp (a t) i).1 = nI (12 * t + (pUp (a t) i).1) := by rw [hm, nI_add]
      have vv : vp_in ((12 : Int32) * nI t + nI (pUp (a t) i).1) 48 := by rw [mm]; exact vp_in_nI (by omega) (by omega)
      have cm : ((12 : Int32) * nI t + nI (pUp (a t) i).1).toNatClampNeg = 12 * t + (pUp (a t) i).1 := by rw [mm]; exact nI_clamp (by omega)
      have inv := (pUp_inv (hd t ht) i (by omega)).2.1
      by_cases q : (pUp (a t) i).2 i = -1
      · have q' : μ1 95 0 (nI (12 * t + i)).toNatClampNeg = -1 := ei.trans q
        have hu : pUp (a t) (i + 1) = pUp (a t) i := by rw [pUp, if_pos q]
        refine zs k_Mo_close rfl ?_; conv => whnf
        repeat' (first
          | refine br_f hle ?_
          | refine br_t q' ?_
          | refine ih (i + 1) _ _ _ _ (by omega) (by rw [hu]) (by exact nI_1 _) (fun f hf => ?_) (fun k hk => ?_) (fun k hk => ?_)
          | (refine zs k_Mo_close rfl ?_; conv => whnf)
          | refine ⟨Nat.zero_lt_one, rfl, ?_⟩
          | refine ⟨rfl, ?_⟩
          | refine ⟨⟨Nat.zero_lt_one, rfl⟩, Nat.le_of_ble_eq_true rfl, ?_⟩
          | refine ⟨Nat.le_of_ble_eq_true rfl, Nat.le_of_ble_eq_true rfl, ?_⟩
          | refine ⟨(by first | exact Nat.zero_lt_one | assumption | omega), (by first | assumption | exact vp_in_nI (by omega) (by omega) | (unfold vp_in; decide)), ?_⟩
          | refine ⟨(by first | exact Nat.zero_lt_one | assumption | omega), rfl, ?_⟩
          | refine ⟨⟨(by first | exact Nat.zero_lt_one | assumption | omega), rfl⟩, Nat.le_of_ble_eq_true rfl, ?_⟩
          | refine ⟨(by first | exact Nat.zero_lt_one | assumption | omega), ?_⟩
          | refine ⟨Or.inl rfl, ?_⟩
          | refine ⟨Or.inr (Or.inl rfl), ?_⟩
          | refine ⟨Or.inr (Or.inr rfl), ?_⟩
          | refine ⟨Or.inr ⟨rfl, (by first | exact Or.inl rfl | exact Or.inr rfl | assumption)⟩, ?_⟩
          | refine ⟨fun h => absurd h (by decide), fun _ => ?_⟩
          | refine ⟨fun _ => ?_, fun h => absurd h (by decide)⟩
          | refine ⟨fun h => ?_, fun h => ?_⟩
          | fail)
        · funext p r
          rw [zu_ne (fun z => hf z.1), e1 f hf]
        · rw [ci, zu_ne (by omega)]
          exact e2 k hk
        · rw [ci, hu]
          by_cases w : k = i
          · subst w
            rw [zu_eq]
            exact q.symm
          · rw [zu_ne (by omega)]
            exact e3 k hk
      · have q' : ¬ μ1 95 0 (nI (12 * t + i)).toNatClampNeg = -1 := by rw [ei]; exact q
        have hu : pUp (a t) (i + 1) = ((pUp (a t) i).1 + 1, upd (upd (pUp (a t) i).2 i (-1)) (pUp (a t) i).1 ((pUp (a t) i).2 i)) := by rw [pUp, if_neg q]
        refine zs k_Mo_close rfl ?_; conv => whnf
        repeat' (first
          | refine br_f hle ?_
          | refine br_f q' ?_
          | refine ih (i + 1) _ _ _ _ (by omega) (by rw [hu]; exact nI_1 _) (by exact nI_1 _) (fun f hf => ?_) (fun k hk => ?_) (fun k hk => ?_)
          | (refine zs k_Mo_close rfl ?_; conv => whnf)
          | refine ⟨Nat.zero_lt_one, rfl, ?_⟩
          | refine ⟨rfl, ?_⟩
          | refine ⟨⟨Nat.zero_lt_one, rfl⟩, Nat.le_of_ble_eq_true rfl, ?_⟩
          | refine ⟨Nat.le_of_ble_eq_true rfl, Nat.le_of_ble_eq_true rfl, ?_⟩
          | refine ⟨(by first | exact Nat.zero_lt_one | assumption | omega), (by first | assumption | exact vp_in_nI (by omega) (by omega) | (unfold vp_in; decide)), ?_⟩
          | refine ⟨(by first | exact Nat.zero_lt_one | assumption | omega), rfl, ?_⟩
          | refine ⟨⟨(by first | exact Nat.zero_lt_one | assumption | omega), rfl⟩, Nat.le_of_ble_eq_true rfl, ?_⟩
          | refine ⟨(by first | exact Nat.zero_lt_one | assumption | omega), ?_⟩
          | refine ⟨Or.inl rfl, ?_⟩
          | refine ⟨Or.inr (Or.inl rfl), ?_⟩
          | refine ⟨Or.inr (Or.inr rfl), ?_⟩
          | refine ⟨Or.inr ⟨rfl, (by first | exact Or.inl rfl | exact Or.inr rfl | assumption)⟩, ?_⟩
          | refine ⟨fun h => absurd h (by decide), fun _ => ?_⟩
          | refine ⟨fun _ => ?_, fun h => absurd h (by decide)⟩
          | refine ⟨fun h => ?_, fun h => ?_⟩
          | fail)
        · funext p r
          rw [zu_ne (fun z => hf z.1), zu_ne (fun z => hf z.1), e1 f hf]
        · rw [cm, ci, zu_ne (by omega), zu_ne (by omega)]
          exact e2 k hk
        · rw [cm, ci, hu]
          show _ = upd (upd (pUp (a t) i).2 i (-1)) (pUp (a t) i).1 ((pUp (a t) i).2 i) k
          simp only [upd]
          by_cases w : k = (pUp (a t) i).1
          · rw [if_pos w, w, zu_eq, e3 i (by omega)]
          · rw [if_neg w, zu_ne (by omega)]
            by_cases w2 : k = i
            · rw [if_pos w2, w2, zu_eq]
            · rw [if_neg w2, zu_ne (by omega)]
              exact e3 k hk
  repeat' (first
    | refine c_Mo_isTable (fun _ => ?_) (fun h => absurd hy h)
    | refine L 12 0 _ _ _ _ (by omega) rfl (by exact hm) (fun _ _ => rfl) (fun _ _ => rfl) (ha t ht)
    | (refine zs k_Mo_close rfl ?_; conv => whnf)
    | refine ⟨Nat.zero_lt_one, rfl, ?_⟩
    | refine ⟨rfl, ?_⟩
    | refine ⟨⟨Nat.zero_lt_one, rfl⟩, Nat.le_of_ble_eq_true rfl, ?_⟩
    | refine ⟨Nat.le_of_ble_eq_true rfl, Nat.le_of_ble_eq_true rfl, ?_⟩
    | refine ⟨(by first | exact Nat.zero_lt_one | assumption | omega), (by first | assumption | exact vp_in_nI (by omega) (by omega) | (unfold vp_in; decide)), ?_⟩
    | refine ⟨(by first | exact Nat.zero_lt_one | assumption | omega), rfl, ?_⟩
    | refine ⟨⟨(by first | exact Nat.zero_lt_one | assumption | omega), rfl⟩, Nat.le_of_ble_eq_true rfl, ?_⟩
    | refine ⟨(by first | exact Nat.zero_lt_one | assumption | omega), ?_⟩
    | refine ⟨Or.inl rfl, ?_⟩
    | refine ⟨Or.inr (Or.inl rfl), ?_⟩
    | refine ⟨Or.inr (Or.inr rfl), ?_⟩
    | refine ⟨Or.inr ⟨rfl, (by first | exact Or.inl rfl | exact Or.inr rfl | assumption)⟩, ?_⟩
    | refine ⟨fun h => absurd h (by decide), fun _ => ?_⟩
    | refine ⟨fun _ => ?_, fun h => absurd h (by decide)⟩
    | refine ⟨fun h => ?_, fun h => ?_⟩
    | fail)
theorem b_close {μ : zMu} {x : Int32} (h : Rel μ) : Both m_De_close m_Mo_close [zI x] μ := by
  intro d K hK
  obtain ⟨ns, n, nr, nh, nt, nb, L, g1, g2, g3, g4, g5, g6, g7, g8, g9, g10, g11⟩ := id h
  have h4 := g6.2.2.1
  have ha : ∀ t, t < nt → ∀ k, k < 12 → μ 95 0 (12 * t + k) = μ 40 t k := fun t ht => (g6.2.2.2 t ht).2.2.2.1
  have hd : ∀ t, t < nt → ∀ j k, j < k → k < 12 → μ 40 t j = μ 40 t k → μ 40 t j = -1 := fun t ht => (g6.2.2.2 t ht).2.2.2.2.2
  refine c_De_close g6 (fun a => hK _ _ (fun d K2 hK2 => ?_)) (fun t ht ex => hK _ _ (fun d K2 hK2 => ?_))
  · exact c_Mo_close (a := μ 40) g6.2.1 h4 ha hd (fun _ => hK2 _ h) (fun t μ' ht ex => absurd (by rw [ex]; exact okI_i ht (by omega)) a)
  · subst ex
    have e95 : ∀ t' k, cRow μ 40 t (pUp (μ 40 t) 12).2 95 0 (12 * t' + k) = μ 95 0 (12 * t' + k) := fun _ _ => rfl
    refine c_Mo_close (a := μ 40) (nt := nt) g6.2.1 h4 (fun t' ht' k hk => (e95 t' k).trans (ha t' ht' k hk)) hd (fun q => absurd (okI_i ht (by omega)) q) (fun t' M ht' ex e0 e2 e3 => ?_)
    obtain rfl := (nI_eq (by omega) (by omega)).mp ex
    refine hK2 _ ?_
    have m0 : ∀ f, f ≠ 40 → f ≠ 95 → M f = μ f := fun f q1 q2 => by
      rw [e0 f q2]
      funext a b
      exact if_neg (fun z => q1 z.1)
    have m40 : ∀ u k, M 40 u k = if u = t then (pUp (μ 40 t) 12).2 k else μ 40 u k := fun u k => by
      rw [e0 40 (by omega)]
      unfold cRow
      simp only [true_and]
    have ef : ∀ l : List Nat, l.all (fun f => !([40, 95] : List Nat).contains f) = true → ∀ f, f ∈ l → M f = μ f := fun l hl f hf => by
      have := List.all_eq_true.mp hl f hf
      simp at this
      exact m0 f this.1 this.2
    have e48 : M 48 = μ 48 := ef [48] rfl 48 (by simp)
    refine ⟨ns, n, nr, nh, nt, nb, L, gSt_fr (ef _ rfl) (by rw [e48]) g1, gPe_fr (ef _ rfl) (by rw [e48]) g2, gTp_fr (ef _ rfl) (by rw [ef [2] rfl 2 (by simp)]) (by rw [e48]) g3, gRu_fr (ef _ rfl) (by rw [e48]) g4, gHd_fr (ef _ rfl) (by rw [e48]) g5, ⟨by rw [ef [5] rfl 5 (by simp)]; exact g6.1, by rw [e48]; exact g6.2.1, h4, fun u hu => ?_⟩, gFe_fr (ef _ rfl) g7, gCo_fr (ef _ rfl) g8, gVs_fr (ef _ rfl) (by rw [e48]) g9, gWi_fr (ef [7] rfl 7 (by simp)) (by rw [e48]) g10, gCs_fr (ef _ rfl) g11⟩
    obtain ⟨a1, a2, ⟨z, z1, z2, z3, z4, z5⟩, a4, a5, a6⟩ := g6.2.2.2 u hu
    unfold gT1
    rw [ef [9] rfl 9 (by simp), ef [93] rfl 93 (by simp), ef [94] rfl 94 (by simp), ef [10] rfl 10 (by simp)]
    by_cases q : u = t
    · subst q
      obtain ⟨i1, i2, i3, i4⟩ := pUp_inv a6 12 (Nat.le_refl _)
      have iu := pUp_z a6 z5 (12 - z) (by omega)
      rw [show z + (12 - z) = 12 by omega] at iu
      have ile := pUp_le (μ 40 u) z
      have f40 : ∀ k, M 40 u k = (pUp (μ 40 u) 12).2 k := fun k => by rw [m40, if_pos rfl]
      refine ⟨a1, a2, ⟨z, z1, z2, z3, z4, fun k h1 h2 => ?_⟩, fun k hk => ?_, fun k hk => ?_, fun j k hj hk => ?_⟩
      · rw [f40]
        exact i2 k (by rw [iu]; omega) h2
      · rw [f40]
        exact e3 k hk
      · rw [f40]
        rcases i3 k hk with r | ⟨j, hj, r⟩
        · exact Or.inl r
        · rw [r]
          exact a5 j hj
      · rw [f40, f40]
        exact i4 j k hj hk
    · have f40 : ∀ k, M 40 u k = μ 40 u k := fun k => by rw [m40, if_neg q]
      refine ⟨a1, a2, ⟨z, z1, z2, z3, z4, fun k h1 h2 => ?_⟩, fun k hk => ?_, fun k hk => ?_, fun j k hj hk => ?_⟩
      · rw [f40]
        exact z5 k h1 h2
      · rw [f40, e2 _ (by omega)]
        exact a4 k hk
      · rw [f40]
        exact a5 k hk
      · rw [f40, f40]
        exact a6 j k hj hk
/-! DESK: sit -/
theorem c_De_sit {d nt n ns : Nat} {μ : zMu} {x i p : Int32} {K : Option zV → zMu → Prop} (g : gPe μ ns n) (g6 : gTb μ nt n)
    (h0 : ¬ (stOk μ nt x i ∧ (p = -1 ∨ okI n p)) → K (some (zI (-5))) μ)
    (h1 : ∀ q, stOk μ nt x i → q < n → p = nI q → μ 10 0 q = 0 → K (some (zI (-3))) μ)
    (h2 : ∀ t j, stOk μ nt x i → t < nt → x = nI t → i = nI j → p = -1 → ∀ z, z ≤ 12 → μ 9 t 0 = nI z → j < z → K (some (zI (μ 40 t j))) (zu μ 40 t j (-1)))
    (h3 : ∀ t j q, stOk μ nt x i → t < nt → x = nI t → i = nI j → q < n → p = nI q → μ 10 0 q = 1 → ∀ z, z ≤ 12 → μ 9 t 0 = nI z → j < z → K (some (zI (μ 40 t j))) (zu (cOut μ t z (nI q)) 40 t j (nI q))) : Ct (d + 2) m_De_sit [zR 0 0, zI x, zI i, zI p] μ K := by
  refine zmeet rfl (Nat.le_of_ble_eq_true rfl) (fun S => ?_)
  have h4 := g6.2.2.1
  have h20 := g.2.2.1
  have hn := g.1
  by_cases hs : stOk μ nt x i
  case neg =>
    have hk := h0 (fun q => hs q.1)
    repeat' (first
      | refine c_Ha_hasSeat g6.1 h4 (fun t ht hx hi1 hi2 => absurd ⟨t, ht, hx, hi1, hi2⟩ hs) (fun _ => ?_)
      | exact hk
      | (refine zs k_De_sit rfl ?_; conv => whnf)
      | refine ⟨Nat.zero_lt_one, rfl, ?_⟩
      | refine ⟨rfl, ?_⟩
      | refine ⟨⟨Nat.zero_lt_one, rfl⟩, Nat.le_of_ble_eq_true rfl, ?_⟩
      | refine ⟨Nat.le_of_ble_eq_true rfl, Nat.le_of_ble_eq_true rfl, ?_⟩
      | refine ⟨(by first | exact Nat.zero_lt_one | assumption | omega), (by first | assumption | exact vp_in_nI (by omega) (by omega) | (unfold vp_in; decide)), ?_⟩
      | refine ⟨(by first | exact Nat.zero_lt_one | assumption | omega), rfl, ?_⟩
      | refine ⟨⟨(by first | exact Nat.zero_lt_one | assumption | omega), rfl⟩, Nat.le_of_ble_eq_true rfl, ?_⟩
      | refine ⟨(by first | exact Nat.zero_lt_one | assumption | omega), ?_⟩
      | refine ⟨Or.inl rfl, ?_⟩
      | refine ⟨Or.inr (Or.inl rfl), ?_⟩
      | refine ⟨Or.inr (Or.inr rfl), ?_⟩
      | refine ⟨Or.inr ⟨rfl, (by first | exact Or.inl rfl | exact Or.inr rfl | assumption)⟩, ?_⟩
      | refine ⟨fun h => absurd h (by decide), fun _ => ?_⟩
      | refine ⟨fun _ => ?_, fun h => absurd h (by decide)⟩
      | refine ⟨fun h => ?_, fun h => ?_⟩
      | fail)
  obtain ⟨t, j, z, ht, rfl, rfl, hj, hz, e9, e94⟩ := stOk_of g6 hs
  have ct : (nI t).toNatClampNeg = t := nI_clamp (by omega)
  have cj : (nI j).toNatClampNeg = j := nI_clamp (by omega)
  have hvt : vp_in (nI t) 4 := vp_in_nI (by omega) (by omega)
  have hlt : (nI t).toNatClampNeg < 4 := by omega
  have e9' : μ 9 (nI t).toNatClampNeg 0 = nI z := by rw [ct]; exact e9
  have hvj : vp_in (nI j) 12 := vp_in_nI (by omega) (by omega)
  by_cases hp : p = -1
  · subst hp
    have hk := h2 t j hs ht rfl rfl rfl z hz e9 hj
    repeat' (first
      | refine c_Ha_hasSeat g6.1 h4 (fun _ _ _ _ _ => ?_) (fun q => absurd hs q)
      | refine c_Tb_put hlt e9' hz hvj ?_
      | exact zKe hk (by rw [ct, cj]) (by rw [ct, cj, if_pos rfl])
      | (refine zs k_De_sit rfl ?_; conv => whnf)
      | refine ⟨Nat.zero_lt_one, rfl, ?_⟩
      | refine ⟨rfl, ?_⟩
      | refine ⟨⟨Nat.zero_lt_one, rfl⟩, Nat.le_of_ble_eq_true rfl, ?_⟩
      | refine ⟨Nat.le_of_ble_eq_true rfl, Nat.le_of_ble_eq_true rfl, ?_⟩
      | refine ⟨(by first | exact Nat.zero_lt_one | assumption | omega), (by first | assumption | exact vp_in_nI (by omega) (by omega) | (unfold vp_in; decide)), ?_⟩
      | refine ⟨(by first | exact Nat.zero_lt_one | assumption | omega), rfl, ?_⟩
      | refine ⟨⟨(by first | exact Nat.zero_lt_one | assumption | omega), rfl⟩, Nat.le_of_ble_eq_true rfl, ?_⟩
      | refine ⟨(by first | exact Nat.zero_lt_one | assumption | omega), ?_⟩
      | refine ⟨Or.inl rfl, ?_⟩
      | refine ⟨Or.inr (Or.inl rfl), ?_⟩
      | refine ⟨Or.inr (Or.inr rfl), ?_⟩
      | refine ⟨Or.inr ⟨rfl, (by first | exact Or.inl rfl | exact Or.inr rfl | assumption)⟩, ?_⟩
      | refine ⟨fun h => absurd h (by decide), fun _ => ?_⟩
      | refine ⟨fun _ => ?_, fun h => absurd h (by decide)⟩
      | refine ⟨fun h => ?_, fun h => ?_⟩
      | fail)
  rcases zIx p (n := n) (by omega) with ⟨q, hq, rfl⟩ | ho
  case inr =>
    have hk := h0 (fun w => w.2.elim hp ho)
    repeat' (first
      | refine c_Ha_hasSeat g6.1 h4 (fun _ _ _ _ _ => ?_) (fun q => absurd hs q)
      | refine br_f hp ?_
      | refine c_Ro_hasPerson (fun h h' => absurd (by rw [← hn]; exact ⟨h, h'⟩) ho) (fun _ => ?_)
      | exact hk
      | (refine zs k_De_sit rfl ?_; conv => whnf)
      | refine ⟨Nat.zero_lt_one, rfl, ?_⟩
      | refine ⟨rfl, ?_⟩
      | refine ⟨⟨Nat.zero_lt_one, rfl⟩, Nat.le_of_ble_eq_true rfl, ?_⟩
      | refine ⟨Nat.le_of_ble_eq_true rfl, Nat.le_of_ble_eq_true rfl, ?_⟩
      | refine ⟨(by first | exact Nat.zero_lt_one | assumption | omega), (by first | assumption | exact vp_in_nI (by omega) (by omega) | (unfold vp_in; decide)), ?_⟩
      | refine ⟨(by first | exact Nat.zero_lt_one | assumption | omega), rfl, ?_⟩
      | refine ⟨⟨(by first | exact Nat.zero_lt_one | assumption | omega), rfl⟩, Nat.le_of_ble_eq_true rfl, ?_⟩
      | refine ⟨(by first | exact Nat.zero_lt_one | assumption | omega), ?_⟩
      | refine ⟨Or.inl rfl, ?_⟩
      | refine ⟨Or.inr (Or.inl rfl), ?_⟩
      | refine ⟨Or.inr (Or.inr rfl), ?_⟩
      | refine ⟨Or.inr ⟨rfl, (by first | exact Or.inl rfl | exact Or.inr rfl | assumption)⟩, ?_⟩
      | refine ⟨fun h => absurd h (by decide), fun _ => ?_⟩
      | refine ⟨fun _ => ?_, fun h => absurd h (by decide)⟩
      | refine ⟨fun h => ?_, fun h => ?_⟩
      | fail)
  have hy : 0 ≤ nI q ∧ nI q < μ 1 0 1 := by rw [hn]; exact zIx_y hq (by omega)
  have cq : (nI q).toNatClampNeg = q := nI_clamp (by omega)
  rcases (g.2.2.2 q hq).2.1 with h10 | h10
  · have hk := h1 q hs hq rfl h10
    have h10' : μ 10 0 (nI q).toNatClampNeg = 0 := by rw [cq]; exact h10
    repeat' (first
      | refine c_Ha_hasSeat g6.1 h4 (fun _ _ _ _ _ => ?_) (fun q => absurd hs q)
      | refine br_f hp ?_
      | refine c_Ro_hasPerson (fun _ _ => ?_) (fun h => absurd hy h)
      | refine bn_f h10' ?_
      | exact hk
      | (refine zs k_De_sit rfl ?_; conv => whnf)
      | refine ⟨Nat.zero_lt_one, rfl, ?_⟩
      | refine ⟨rfl, ?_⟩
      | refine ⟨⟨Nat.zero_lt_one, rfl⟩, Nat.le_of_ble_eq_true rfl, ?_⟩
      | refine ⟨Nat.le_of_ble_eq_true rfl, Nat.le_of_ble_eq_true rfl, ?_⟩
      | refine ⟨(by first | exact Nat.zero_lt_one | assumption | omega), (by first | assumption | exact vp_in_nI (by omega) (by omega) | (unfold vp_in; decide)), ?_⟩
      | refine ⟨(by first | exact Nat.zero_lt_one | assumption | omega), rfl, ?_⟩
      | refine ⟨⟨(by first | exact Nat.zero_lt_one | assumption | omega), rfl⟩, Nat.le_of_ble_eq_true rfl, ?_⟩
      | refine ⟨(by first | exact Nat.zero_lt_one | assumption | omega), ?_⟩
      | refine ⟨Or.inl rfl, ?_⟩
      | refine ⟨Or.inr (Or.inl rfl), ?_⟩
      | refine ⟨Or.inr (Or.inr rfl), ?_⟩
      | refine ⟨Or.inr ⟨rfl, (by first | exact Or.inl rfl | exact Or.inr rfl | assumption)⟩, ?_⟩
      | refine ⟨fun h => absurd h (by decide), fun _ => ?_⟩
      | refine ⟨fun _ => ?_, fun h => absurd h (by decide)⟩
      | refine ⟨fun h => ?_, fun h => ?_⟩
      | fail)
  · have hk := h3 t j q hs ht rfl rfl hq rfl h10 z hz e9 hj
    have h10' : ¬ μ 10 0 (nI q).toNatClampNeg = 0 := by rw [cq, h10]; decide
    repeat' (first
      | refine c_Ha_hasSeat g6.1 h4 (fun _ _ _ _ _ => ?_) (fun q => absurd hs q)
      | refine br_f hp ?_
      | refine c_Ro_hasPerson (fun _ _ => ?_) (fun h => absurd hy h)
      | refine bn_t h10' ?_
      | refine c_Tb_put hlt e9' hz hvj ?_
      | exact zKe hk (by rw [ct, cj]) (by rw [ct, cj, if_neg hp])
      | (refine zs k_De_sit rfl ?_; conv => whnf)
      | refine ⟨Nat.zero_lt_one, rfl, ?_⟩
      | refine ⟨rfl, ?_⟩
      | refine ⟨⟨Nat.zero_lt_one, rfl⟩, Nat.le_of_ble_eq_true rfl, ?_⟩
      | refine ⟨Nat.le_of_ble_eq_true rfl, Nat.le_of_ble_eq_true rfl, ?_⟩
      | refine ⟨(by first | exact Nat.zero_lt_one | assumption | omega), (by first | assumption | exact vp_in_nI (by omega) (by omega) | (unfold vp_in; decide)), ?_⟩
      | refine ⟨(by first | exact Nat.zero_lt_one | assumption | omega), rfl, ?_⟩
      | refine ⟨⟨(by first | exact Nat.zero_lt_one | assumption | omega), rfl⟩, Nat.le_of_ble_eq_true rfl, ?_⟩
      | refine ⟨(by first | exact Nat.zero_lt_one | assumption | omega), ?_⟩
      | refine ⟨Or.inl rfl, ?_⟩
      | refine ⟨Or.inr (Or.inl rfl), ?_⟩
      | refine ⟨Or.inr (Or.inr rfl), ?_⟩
      | refine ⟨Or.inr ⟨rfl, (by first | exact Or.inl rfl | exact Or.inr rfl | assumption)⟩, ?_⟩
      | refine ⟨fun h => absurd h (by decide), fun _ => ?_⟩
      | refine ⟨fun _ => ?_, fun h => absurd h (by decide)⟩
      | refine ⟨fun h => ?_, fun h => ?_⟩
      | fail)
set_option maxHeartbeats 1000000 in
theorem c_Mo_sit {d nt n ns : Nat} {μ μ0 : zMu} {x i p : Int32} {K : Option zV → zMu → Prop} (e : ∀ f, f ≠ 40 → μ f = μ0 f) (g : gPe μ0 ns n) (g6 : gTb μ0 nt n)
    (h0 : ¬ (stOk μ0 nt x i ∧ (p = -1 ∨ okI n p)) → K (some (zI (-5))) μ)
    (h1 : ∀ q, stOk μ0 nt x i → q < n → p = nI q → μ0 10 0 q = 0 → K (some (zI (-3))) μ)
    (h2 : ∀ t j, stOk μ0 nt x i → t < nt → x = nI t → i = nI j → p = -1 → j < 12 → K (some (zI (μ0 40 t j))) (zu μ 95 0 (12 * t + j) (-1)))
    (h3 : ∀ t j q, stOk μ0 nt x i → t < nt → x = nI t → i = nI j → q < n → p = nI q → μ0 10 0 q = 1 → j < 12 → K (some (zI (μ0 40 t j))) (zu (mOutA μ (nI q) (12 * t) (12 * t + 12)) 95 0 (12 * t + j) (nI q))) : Ct (d + 1) m_Mo_sit [zR 48 0, zI x, zI i, zI p] μ K := by
  refine zmeet rfl (Nat.le_of_ble_eq_true rfl) (fun S => ?_)
  have h4 := g6.2.2.1
  have h20 := g.2.2.1
  have hn : μ 48 0 5 = nI n := by rw [e 48 (by omega)]; exact g.2.1
  have hnt : μ 48 0 42 = nI nt := by rw [e 48 (by omega)]; exact g6.2.1
  by_cases hs : stOk μ0 nt x i
  case neg =>
    have hk := h0 (fun q => hs q.1)
    rcases zIx x (n := nt) (by omega) with ⟨t, ht, rfl⟩ | q
    case inr =>
      have q' : ¬ (0 ≤ x ∧ x < μ 48 0 42) := by rw [hnt]; exact q
      repeat' (first
        | refine c_Mo_isTable (fun h => absurd h q') (fun _ => ?_)
        | exact hk
        | (refine zs k_Mo_sit rfl ?_; conv => whnf)
        | refine ⟨Nat.zero_lt_one, rfl, ?_⟩
        | refine ⟨rfl, ?_⟩
        | refine ⟨⟨Nat.zero_lt_one, rfl⟩, Nat.le_of_ble_eq_true rfl, ?_⟩
        | refine ⟨Nat.le_of_ble_eq_true rfl, Nat.le_of_ble_eq_true rfl, ?_⟩
        | refine ⟨(by first | exact Nat.zero_lt_one | assumption | omega), (by first | assumption | exact vp_in_nI (by omega) (by omega) | (unfold vp_in; decide)), ?_⟩
        | refine ⟨(by first | exact Nat.zero_lt_one | assumption | omega), rfl, ?_⟩
        | refine ⟨⟨(by first | exact Nat.zero_lt_one | assumption | omega), rfl⟩, Nat.le_of_ble_eq_true rfl, ?_⟩
        | refine ⟨(by first | exact Nat.zero_lt_one | assumption | omega), ?_⟩
        | refine ⟨Or.inl rfl, ?_⟩
        | refine ⟨Or.inr (Or.inl rfl), ?_⟩
        | refine ⟨Or.inr (Or.inr rfl), ?_⟩
        | refine ⟨Or.inr ⟨rfl, (by first | exact Or.inl rfl | exact Or.inr rfl | assumption)⟩, ?_⟩
        | refine ⟨fun h => absurd h (by decide), fun _ => ?_⟩
        | refine ⟨fun _ => ?_, fun h => absurd h (by decide)⟩
        | refine ⟨fun h => ?_, fun h => ?_⟩
        | fail)
    have hy : 0 ≤ nI t ∧ nI t < μ 48 0 42 := by rw [hnt]; exact zIx_y ht (by omega)
    obtain ⟨-, -, ⟨z, z1, z2, z3, z4, z5⟩, -⟩ := g6.2.2.2 t ht
    have ct : (nI t).toNatClampNeg = t := nI_clamp (by omega)
    have hvt : vp_in (nI t) 4 := vp_in_nI (by omega) (by omega)
    have e94 : μ 94 0 (nI t).toNatClampNeg = μ0 9 t 0 := by rw [ct, e 94 (by omega), z4, z3]
    have no : ¬ (¬ i < 0 ∧ ¬ μ 94 0 (nI t).toNatClampNeg ≤ i) := fun q => hs ⟨t, ht, rfl, by have := q.1; grind, by rw [← e94]; have := q.2; grind⟩
    by_cases i0 : i < 0
    · skip
      repeat' (first
        | refine c_Mo_isTable (fun _ => ?_) (fun h => absurd hy h)
        | refine br_t i0 ?_
        | exact hk
        | (refine zs k_Mo_sit rfl ?_; conv => whnf)
        | refine ⟨Nat.zero_lt_one, rfl, ?_⟩
        | refine ⟨rfl, ?_⟩
        | refine ⟨⟨Nat.zero_lt_one, rfl⟩, Nat.le_of_ble_eq_true rfl, ?_⟩
        | refine ⟨Nat.le_of_ble_eq_true rfl, Nat.le_of_ble_eq_true rfl, ?_⟩
        | refine ⟨(by first | exact Nat.zero_lt_one | assumption | omega), (by first | assumption | exact vp_in_nI (by omega) (by omega) | (unfold vp_in; decide)), ?_⟩
        | refine ⟨(by first | exact Nat.zero_lt_one | assumption | omega), rfl, ?_⟩
        | refine ⟨⟨(by first | exact Nat.zero_lt_one | assumption | omega), rfl⟩, Nat.le_of_ble_eq_true rfl, ?_⟩
        | refine ⟨(by first | exact Nat.zero_lt_one | assumption | omega), ?_⟩
        | refine ⟨Or.inl rfl, ?_⟩
        | refine ⟨Or.inr (Or.inl rfl), ?_⟩
        | refine ⟨Or.inr (Or.inr rfl), ?_⟩
        | refine ⟨Or.inr ⟨rfl, (by first | exact Or.inl rfl | exact Or.inr rfl | assumption)⟩, ?_⟩
        | refine ⟨fun h => absurd h (by decide), fun _ => ?_⟩
        | refine ⟨fun _ => ?_, fun h => absurd h (by decide)⟩
        | refine ⟨fun h => ?_, fun h => ?_⟩
        | fail)
    · have i1 : μ 94 0 (nI t).toNatClampNeg ≤ i := Classical.byContradiction (fun q => no ⟨i0, q⟩)
      repeat' (first
        | refine c_Mo_isTable (fun _ => ?_) (fun h => absurd hy h)
        | refine br_f i0 ?_
        | refine br_t i1 ?_
        | exact hk
        | (refine zs k_Mo_sit rfl ?_; conv => whnf)
        | refine ⟨Nat.zero_lt_one, rfl, ?_⟩
        | refine ⟨rfl, ?_⟩
        | refine ⟨⟨Nat.zero_lt_one, rfl⟩, Nat.le_of_ble_eq_true rfl, ?_⟩
        | refine ⟨Nat.le_of_ble_eq_true rfl, Nat.le_of_ble_eq_true rfl, ?_⟩
        | refine ⟨(by first | exact Nat.zero_lt_one | assumption | omega), (by first | assumption | exact vp_in_nI (by omega) (by omega) | (unfold vp_in; decide)), ?_⟩
        | refine ⟨(by first | exact Nat.zero_lt_one | assumption | omega), rfl, ?_⟩
        | refine ⟨⟨(by first | exact Nat.zero_lt_one | assumption | omega), rfl⟩, Nat.le_of_ble_eq_true rfl, ?_⟩
        | refine ⟨(by first | exact Nat.zero_lt_one | assumption | omega), ?_⟩
        | refine ⟨Or.inl rfl, ?_⟩
        | refine ⟨Or.inr (Or.inl rfl), ?_⟩
        | refine ⟨Or.inr (Or.inr rfl), ?_⟩
        | refine ⟨Or.inr ⟨rfl, (by first | exact Or.inl rfl | exact Or.inr rfl | assumption)⟩, ?_⟩
        | refine ⟨fun h => absurd h (by decide), fun _ => ?_⟩
        | refine ⟨fun _ => ?_, fun h => absurd h (by decide)⟩
        | refine ⟨fun h => ?_, fun h => ?_⟩
        | fail)
  obtain ⟨t, j, z, ht, rfl, rfl, hj, hz, e9, e94⟩ := stOk_of g6 hs
  have ct : (nI t).toNatClampNeg = t := nI_clamp (by omega)
  have hy : 0 ≤ nI t ∧ nI t < μ 48 0 42 := by rw [hnt]; exact zIx_y ht (by omega)
  have e94' : ¬ μ 94 0 (nI t).toNatClampNeg ≤ nI j := by rw [ct, e 94 (by omega), e94]; exact nI_ge hj (by omega)
  have hm : (12 : Int32) * nI t = nI (12 * t) := pk_mul 12 t
  have hm2 : (12 : Int32) * nI t + 12 = nI (12 * t + 12) := by rw [hm]; exact nI_add _ 12
  have m1 : (12 : Int32) * nI t + nI j = nI (12 * t + j) := by rw [hm, nI_add]
  have v1 : vp_in ((12 : Int32) * nI t + nI j) 48 := by rw [m1]; exact vp_in_nI (by omega) (by omega)
  have c1 : ((12 : Int32) * nI t + nI j).toNatClampNeg = 12 * t + j := by rw [m1]; exact nI_clamp (by omega)
  have e95 : μ 95 0 ((12 : Int32) * nI t + nI j).toNatClampNeg = μ0 40 t j := by rw [c1, e 95 (by omega)]; exact (g6.2.2.2 t ht).2.2.2.1 j (by omega)
  by_cases hp : p = -1
  · subst hp
    have hk := h2 t j hs ht rfl rfl rfl (by omega)
    have hle : ¬ (12 : Int32) * nI t + 12 ≤ 12 * nI t := by rw [hm2, hm]; exact nI_ge (by omega) (by omega)
    repeat' (first
      | refine c_Mo_isTable (fun _ => ?_) (fun h => absurd hy h)
      | refine br_f (nI_pos (by omega)) ?_
      | refine br_f e94' ?_
      | refine br_f hle ?_
      | exact zKe hk e95 (by rw [c1])
      | (refine zs k_Mo_sit rfl ?_; conv => whnf)
      | refine ⟨Nat.zero_lt_one, rfl, ?_⟩
      | refine ⟨rfl, ?_⟩
      | refine ⟨⟨Nat.zero_lt_one, rfl⟩, Nat.le_of_ble_eq_true rfl, ?_⟩
      | refine ⟨Nat.le_of_ble_eq_true rfl, Nat.le_of_ble_eq_true rfl, ?_⟩
      | refine ⟨(by first | exact Nat.zero_lt_one | assumption | omega), (by first | assumption | exact vp_in_nI (by omega) (by omega) | (unfold vp_in; decide)), ?_⟩
      | refine ⟨(by first | exact Nat.zero_lt_one | assumption | omega), rfl, ?_⟩
      | refine ⟨⟨(by first | exact Nat.zero_lt_one | assumption | omega), rfl⟩, Nat.le_of_ble_eq_true rfl, ?_⟩
      | refine ⟨(by first | exact Nat.zero_lt_one | assumption | omega), ?_⟩
      | refine ⟨Or.inl rfl, ?_⟩
      | refine ⟨Or.inr (Or.inl rfl), ?_⟩
      | refine ⟨Or.inr (Or.inr rfl), ?_⟩
      | refine ⟨Or.inr ⟨rfl, (by first | exact Or.inl rfl | exact Or.inr rfl | assumption)⟩, ?_⟩
      | refine ⟨fun h => absurd h (by decide), fun _ => ?_⟩
      | refine ⟨fun _ => ?_, fun h => absurd h (by decide)⟩
      | refine ⟨fun h => ?_, fun h => ?_⟩
      | fail)
  rcases zIx p (n := n) (by omega) with ⟨q, hq, rfl⟩ | ho
  case inr =>
    have hk := h0 (fun w => w.2.elim hp ho)
    repeat' (first
      | refine c_Mo_isTable (fun _ => ?_) (fun h => absurd hy h)
      | refine br_f (nI_pos (by omega)) ?_
      | refine br_f e94' ?_
      | refine br_f hp ?_
      | refine c_Mo_isPerson (fun h => absurd (by rw [← hn]; exact h) ho) (fun _ => ?_)
      | exact hk
      | (refine zs k_Mo_sit rfl ?_; conv => whnf)
      | refine ⟨Nat.zero_lt_one, rfl, ?_⟩
      | refine ⟨rfl, ?_⟩
      | refine ⟨⟨Nat.zero_lt_one, rfl⟩, Nat.le_of_ble_eq_true rfl, ?_⟩
      | refine ⟨Nat.le_of_ble_eq_true rfl, Nat.le_of_ble_eq_true rfl, ?_⟩
      | refine ⟨(by first | exact Nat.zero_lt_one | assumption | omega), (by first | assumption | exact vp_in_nI (by omega) (by omega) | (unfold vp_in; decide)), ?_⟩
      | refine ⟨(by first | exact Nat.zero_lt_one | assumption | omega), rfl, ?_⟩
      | refine ⟨⟨(by first | exact Nat.zero_lt_one | assumption | omega), rfl⟩, Nat.le_of_ble_eq_true rfl, ?_⟩
      | refine ⟨(by first | exact Nat.zero_lt_one | assumption | omega), ?_⟩
      | refine ⟨Or.inl rfl, ?_⟩
      | refine ⟨Or.inr (Or.inl rfl), ?_⟩
      | refine ⟨Or.inr (Or.inr rfl), ?_⟩
      | refine ⟨Or.inr ⟨rfl, (by first | exact Or.inl rfl | exact Or.inr rfl | assumption)⟩, ?_⟩
      | refine ⟨fun h => absurd h (by decide), fun _ => ?_⟩
      | refine ⟨fun _ => ?_, fun h => absurd h (by decide)⟩
      | refine ⟨fun h => ?_, fun h => ?_⟩
      | fail)
  have hyq : 0 ≤ nI q ∧ nI q < μ 48 0 5 := by rw [hn]; exact zIx_y hq (by omega)
  have cq : (nI q).toNatClampNeg = q := nI_clamp (by omega)
  have hvq : vp_in (nI q) 20 := vp_in_nI (by omega) (by omega)
  have e62 : μ 62 0 (nI q).toNatClampNeg = μ0 10 0 q := by rw [cq, e 62 (by omega)]; exact (g.2.2.2 q hq).1
  rcases (g.2.2.2 q hq).2.1 with h10 | h10
  · have hk := h1 q hs hq rfl h10
    have h10' : μ 62 0 (nI q).toNatClampNeg = 0 := e62.trans h10
    repeat' (first
      | refine c_Mo_isTable (fun _ => ?_) (fun h => absurd hy h)
      | refine br_f (nI_pos (by omega)) ?_
      | refine br_f e94' ?_
      | refine br_f hp ?_
      | refine c_Mo_isPerson (fun _ => ?_) (fun h => absurd hyq h)
      | refine bn_f h10' ?_
      | exact hk
      | (refine zs k_Mo_sit rfl ?_; conv => whnf)
      | refine ⟨Nat.zero_lt_one, rfl, ?_⟩
      | refine ⟨rfl, ?_⟩
      | refine ⟨⟨Nat.zero_lt_one, rfl⟩, Nat.le_of_ble_eq_true rfl, ?_⟩
      | refine ⟨Nat.le_of_ble_eq_true rfl, Nat.le_of_ble_eq_true rfl, ?_⟩
      | refine ⟨(by first | exact Nat.zero_lt_one | assumption | omega), (by first | assumption | exact vp_in_nI (by omega) (by omega) | (unfold vp_in; decide)), ?_⟩
      | refine ⟨(by first | exact Nat.zero_lt_one | assumption | omega), rfl, ?_⟩
      | refine ⟨⟨(by first | exact Nat.zero_lt_one | assumption | omega), rfl⟩, Nat.le_of_ble_eq_true rfl, ?_⟩
      | refine ⟨(by first | exact Nat.zero_lt_one | assumption | omega), ?_⟩
      | refine ⟨Or.inl rfl, ?_⟩
      | refine ⟨Or.inr (Or.inl rfl), ?_⟩
      | refine ⟨Or.inr (Or.inr rfl), ?_⟩
      | refine ⟨Or.inr ⟨rfl, (by first | exact Or.inl rfl | exact Or.inr rfl | assumption)⟩, ?_⟩
      | refine ⟨fun h => absurd h (by decide), fun _ => ?_⟩
      | refine ⟨fun _ => ?_, fun h => absurd h (by decide)⟩
      | refine ⟨fun h => ?_, fun h => ?_⟩
      | fail)
  · have hk := h3 t j q hs ht rfl rfl hq rfl h10 (by omega)
    have h10' : ¬ μ 62 0 (nI q).toNatClampNeg = 0 := by rw [e62, h10]; decide
    have L : ∀ (k i : Nat) (w : Int32) (μ1 : zMu), i + k = 12 → w = nI (12 * t + i) → μ1 = mOutA μ (nI q) (12 * t) (12 * t + i) → zG S (d + 1) m_Mo_sit K 74 [some (zR 48 0), some (zI (nI t)), some (zI (nI j)), some (zI (nI q)), some (zI (μ 95 0 ((12 : Int32) * nI t + nI j).toNatClampNeg)), some (zI w)] [] μ1 := by
      intro k
      induction k with
      | zero =>
        intro i w μ1 hi hw h1
        obtain rfl : i = 12 := by omega
        subst hw h1
        have hle : (12 : Int32) * nI t + 12 ≤ nI (12 * t + 12) := by rw [hm2]; exact nI_le (Nat.le_refl _) (by omega)
        refine zs k_Mo_sit rfl ?_; conv => whnf
        repeat' (first
          | refine br_t hle ?_
          | exact zKe hk e95 (by rw [c1])
          | (refine zs k_Mo_sit rfl ?_; conv => whnf)
          | refine ⟨Nat.zero_lt_one, rfl, ?_⟩
          | refine ⟨rfl, ?_⟩
          | refine ⟨⟨Nat.zero_lt_one, rfl⟩, Nat.le_of_ble_eq_true rfl, ?_⟩
          | refine ⟨Nat.le_of_ble_eq_true rfl, Nat.le_of_ble_eq_true rfl, ?_⟩
          | refine ⟨(by first | exact Nat.zero_lt_one | assumption | omega), (by first | assumption | exact vp_in_nI (by omega) (by omega) | (unfold vp_in; decide)), ?_⟩
          | refine ⟨(by first | exact Nat.zero_lt_one | assumption | omega), rfl, ?_⟩
          | refine ⟨⟨(by first | exact Nat.zero_lt_one | assumption | omega), rfl⟩, Nat.le_of_ble_eq_true rfl, ?_⟩
          | refine ⟨(by first | exact Nat.zero_lt_one | assumption | omega), ?_⟩
          | refine ⟨Or.inl rfl, ?_⟩
          | refine ⟨Or.inr (Or.inl rfl), ?_⟩
          | refine ⟨Or.inr (Or.inr rfl), ?_⟩
          | refine ⟨Or.inr ⟨rfl, (by first | exact Or.inl rfl | exact Or.inr rfl | assumption)⟩, ?_⟩
          | refine ⟨fun h => absurd h (by decide), fun _ => ?_⟩
          | refine ⟨fun _ => ?_, fun h => absurd h (by decide)⟩
          | refine ⟨fun h => ?_, fun h => ?_⟩
          | fail)
      | succ k ih =>
        intro i w μ1 hi hw h1
        subst hw
        have hle : ¬ (12 : Int32) * nI t + 12 ≤ nI (12 * t + i) := by rw [hm2]; exact nI_ge (by omega) (by omega)
        have ci : (nI (12 * t + i)).toNatClampNeg = 12 * t + i := nI_clamp (by omega)
        have e1 : μ1 95 0 (nI (12 * t + i)).toNatClampNeg = μ 95 0 (12 * t + i) := by rw [h1, ci]; exact mOutA_at
        by_cases hv : μ 95 0 (12 * t + i) = nI q
        · have hv' : μ1 95 0 (nI (12 * t + i)).toNatClampNeg = nI q := e1.trans hv
          refine zs k_Mo_sit rfl ?_; conv => whnf
          repeat' (first
            | refine br_f hle ?_
            | refine br_f hp ?_
            | refine bn_f hv' ?_
            | refine ih (i + 1) _ _ (by omega) (by exact nI_1 _) ?_
            | (refine zs k_Mo_sit rfl ?_; conv => whnf)
            | refine ⟨Nat.zero_lt_one, rfl, ?_⟩
            | refine ⟨rfl, ?_⟩
            | refine ⟨⟨Nat.zero_lt_one, rfl⟩, Nat.le_of_ble_eq_true rfl, ?_⟩
            | refine ⟨Nat.le_of_ble_eq_true rfl, Nat.le_of_ble_eq_true rfl, ?_⟩
            | refine ⟨(by first | exact Nat.zero_lt_one | assumption | omega), (by first | assumption | exact vp_in_nI (by omega) (by omega) | (unfold vp_in; decide)), ?_⟩
            | refine ⟨(by first | exact Nat.zero_lt_one | assumption | omega), rfl, ?_⟩
            | refine ⟨⟨(by first | exact Nat.zero_lt_one | assumption | omega), rfl⟩, Nat.le_of_ble_eq_true rfl, ?_⟩
            | refine ⟨(by first | exact Nat.zero_lt_one | assumption | omega), ?_⟩
            | refine ⟨Or.inl rfl, ?_⟩
            | refine ⟨Or.inr (Or.inl rfl), ?_⟩
            | refine ⟨Or.inr (Or.inr rfl), ?_⟩
            | refine ⟨Or.inr ⟨rfl, (by first | exact Or.inl rfl | exact Or.inr rfl | assumption)⟩, ?_⟩
            | refine ⟨fun h => absurd h (by decide), fun _ => ?_⟩
            | refine ⟨fun _ => ?_, fun h => absurd h (by decide)⟩
            | refine ⟨fun h => ?_, fun h => ?_⟩
            | fail)
          rw [ci, h1]
          exact mOutA_y (by omega) hv
        · have hv' : ¬ μ1 95 0 (nI (12 * t + i)).toNatClampNeg = nI q := by rw [e1]; exact hv
          refine zs k_Mo_sit rfl ?_; conv => whnf
          repeat' (first
            | refine br_f hle ?_
            | refine br_f hp ?_
            | refine bn_t hv' ?_
            | refine ih (i + 1) _ _ (by omega) (by exact nI_1 _) ?_
            | (refine zs k_Mo_sit rfl ?_; conv => whnf)
            | refine ⟨Nat.zero_lt_one, rfl, ?_⟩
            | refine ⟨rfl, ?_⟩
            | refine ⟨⟨Nat.zero_lt_one, rfl⟩, Nat.le_of_ble_eq_true rfl, ?_⟩
            | refine ⟨Nat.le_of_ble_eq_true rfl, Nat.le_of_ble_eq_true rfl, ?_⟩
            | refine ⟨(by first | exact Nat.zero_lt_one | assumption | omega), (by first | assumption | exact vp_in_nI (by omega) (by omega) | (unfold vp_in; decide)), ?_⟩
            | refine ⟨(by first | exact Nat.zero_lt_one | assumption | omega), rfl, ?_⟩
            | refine ⟨⟨(by first | exact Nat.zero_lt_one | assumption | omega), rfl⟩, Nat.le_of_ble_eq_true rfl, ?_⟩
            | refine ⟨(by first | exact Nat.zero_lt_one | assumption | omega), ?_⟩
            | refine ⟨Or.inl rfl, ?_⟩
            | refine ⟨Or.inr (Or.inl rfl), ?_⟩
            | refine ⟨Or.inr (Or.inr rfl), ?_⟩
            | refine ⟨Or.inr ⟨rfl, (by first | exact Or.inl rfl | exact Or.inr rfl | assumption)⟩, ?_⟩
            | refine ⟨fun h => absurd h (by decide), fun _ => ?_⟩
            | refine ⟨fun _ => ?_, fun h => absurd h (by decide)⟩
            | refine ⟨fun h => ?_, fun h => ?_⟩
            | fail)
          rw [e1, ci, h1]
          exact mOutA_n hv
    repeat' (first
      | refine c_Mo_isTable (fun _ => ?_) (fun h => absurd hy h)
      | refine br_f (nI_pos (by omega)) ?_
      | refine br_f e94' ?_
      | refine br_f hp ?_
      | refine c_Mo_isPerson (fun _ => ?_) (fun h => absurd hyq h)
      | refine bn_t h10' ?_
      | refine L 12 0 _ _ (by omega) (by exact hm) (by exact mOutA_0)
      | (refine zs k_Mo_sit rfl ?_; conv => whnf)
      | refine ⟨Nat.zero_lt_one, rfl, ?_⟩
      | refine ⟨rfl, ?_⟩
      | refine ⟨⟨Nat.zero_lt_one, rfl⟩, Nat.le_of_ble_eq_true rfl, ?_⟩
      | refine ⟨Nat.le_of_ble_eq_true rfl, Nat.le_of_ble_eq_true rfl, ?_⟩
      | refine ⟨(by first | exact Nat.zero_lt_one | assumption | omega), (by first | assumption | exact vp_in_nI (by omega) (by omega) | (unfold vp_in; decide)), ?_⟩
      | refine ⟨(by first | exact Nat.zero_lt_one | assumption | omega), rfl, ?_⟩
      | refine ⟨⟨(by first | exact Nat.zero_lt_one | assumption | omega), rfl⟩, Nat.le_of_ble_eq_true rfl, ?_⟩
      | refine ⟨(by first | exact Nat.zero_lt_one | assumption | omega), ?_⟩
      | refine ⟨Or.inl rfl, ?_⟩
      | refine ⟨Or.inr (Or.inl rfl), ?_⟩
      | refine ⟨Or.inr (Or.inr rfl), ?_⟩
      | refine ⟨Or.inr ⟨rfl, (by first | exact Or.inl rfl | exact Or.inr rfl | assumption)⟩, ?_⟩
      | refine ⟨fun h => absurd h (by decide), fun _ => ?_⟩
      | refine ⟨fun _ => ?_, fun h => absurd h (by decide)⟩
      | refine ⟨fun h => ?_, fun h => ?_⟩
      | fail)
/-- a row at one table has changed, alike on both sides -/
theorem Rel_row {μ M : zMu} {ns n nr nh nt nb t : Nat} {L : List zVt} {z : Nat} {a : Nat → Int32} (g1 : gSt μ ns) (g2 : gPe μ ns n) (g3 : gTp μ nb) (g4 : gRu μ nr) (g5 : gHd μ nh) (g6 : gTb μ nt n) (g7 : gFe μ) (g8 : gCo μ) (g9 : gVs μ L) (g10 : gWi μ) (g11 : gCs μ) (ht : t < nt) (m0 : ∀ f, f ≠ 40 → f ≠ 95 → M f = μ f) (m40 : ∀ u k, M 40 u k = if u = t ∧ k < 12 then a k else μ 40 u k) (m95 : ∀ k, ¬ (12 * t ≤ k ∧ k < 12 * t + 12) → M 95 0 k = μ 95 0 k) (m95t : ∀ k, k < 12 → M 95 0 (12 * t + k) = a k) (hz : μ 9 t 0 = nI z) (hz2 : z ≤ 12) (a1 : ∀ k, z ≤ k → k < 12 → a k = -1) (a2 : ∀ k, k < 12 → a k = -1 ∨ ∃ p, p < n ∧ a k = nI p ∧ μ 10 0 p = 1) (a3 : ∀ j k, j < k → k < 12 → a j = a k → a j = -1) : Rel M := by
  have h4 := g6.2.2.1
  have ef : ∀ l : List Nat, l.all (fun f => !([40, 95] : List Nat).contains f) = true → ∀ f, f ∈ l → M f = μ f := fun l hl f hf => by
    have := List.all_eq_true.mp hl f hf
    simp at this
    exact m0 f this.1 this.2
  have e48 : M 48 = μ 48 := ef [48] rfl 48 (by simp)
  refine ⟨ns, n, nr, nh, nt, nb, L, gSt_fr (ef _ rfl) (by rw [e48]) g1, gPe_fr (ef _ rfl) (by rw [e48]) g2, gTp_fr (ef _ rfl) (by rw [ef [2] rfl 2 (by simp)]) (by rw [e48]) g3, gRu_fr (ef _ rfl) (by rw [e48]) g4, gHd_fr (ef _ rfl) (by rw [e48]) g5, ⟨by rw [ef [5] rfl 5 (by simp)]; exact g6.1, by rw [e48]; exact g6.2.1, h4, fun u hu => ?_⟩, gFe_fr (ef _ rfl) g7, gCo_fr (ef _ rfl) g8, gVs_fr (ef _ rfl) (by rw [e48]) g9, gWi_fr (ef [7] rfl 7 (by simp)) (by rw [e48]) g10, gCs_fr (ef _ rfl) g11⟩
  obtain ⟨b1, b2, ⟨y, y1, y2, y3, y4, y5⟩, b4, b5, b6⟩ := g6.2.2.2 u hu
  unfold gT1
  rw [ef [9] rfl 9 (by simp), ef [93] rfl 93 (by simp), ef [94] rfl 94 (by simp), ef [10] rfl 10 (by simp)]
  by_cases q : u = t
  · subst q
    obtain rfl : y = z := (nI_eq (by omega) (by omega)).mp (y3.symm.trans hz)
    have f40 : ∀ k, k < 12 → M 40 u k = a k := fun k hk => by rw [m40, if_pos ⟨rfl, hk⟩]
    refine ⟨b1, b2, ⟨y, y1, y2, y3, y4, fun k h1 h2 => ?_⟩, fun k hk => ?_, fun k hk => ?_, fun j k hj hk => ?_⟩
    · rw [f40 k h2]
      exact a1 k h1 h2
    · rw [f40 k hk]
      exact m95t k hk
    · rw [f40 k hk]
      exact a2 k hk
    · rw [f40 k hk, f40 j (by omega)]
      exact a3 j k hj hk
  · have f40 : ∀ k, M 40 u k = μ 40 u k := fun k => by rw [m40, if_neg (fun w => q w.1)]
    refine ⟨b1, b2, ⟨y, y1, y2, y3, y4, fun k h1 h2 => ?_⟩, fun k hk => ?_, fun k hk => ?_, fun j k hj hk => ?_⟩
    · rw [f40]
      exact y5 k h1 h2
    · rw [f40, m95 _ (by omega)]
      exact b4 k hk
    · rw [f40]
      exact b5 k hk
    · rw [f40, f40]
      exact b6 j k hj hk
theorem b_sit {μ : zMu} {x i p : Int32} (h : Rel μ) : Both m_De_sit m_Mo_sit [zI x, zI i, zI p] μ := by
  intro d K hK
  obtain ⟨ns, n, nr, nh, nt, nb, L, g1, g2, g3, g4, g5, g6, g7, g8, g9, g10, g11⟩ := id h
  have h4 := g6.2.2.1
  have h20 := g2.2.2.1
  have e9u : ∀ u z z' : Nat, z ≤ 12 → z' ≤ 12 → μ 9 u 0 = nI z → μ 9 u 0 = nI z' → z = z' := fun u z z' h1 h2 e1 e2 => (nI_eq (by omega) (by omega)).mp (e1.symm.trans e2)
  refine c_De_sit g2 g6 (fun a => hK _ _ (fun d K2 hK2 => ?_)) (fun q a hq ep h0 => hK _ _ (fun d K2 hK2 => ?_)) (fun t j a ht ex ey ep z hz e9 hj => hK _ _ (fun d K2 hK2 => ?_)) (fun t j q a ht ex ey hq ep hpr z hz e9 hj => hK _ _ (fun d K2 hK2 => ?_))
  · exact c_Mo_sit (fun _ _ => rfl) g2 g6 (fun _ => hK2 _ h) (fun q b hq ep => absurd ⟨b, Or.inr (by rw [ep]; exact okI_i hq (by omega))⟩ a) (fun t j b ht ex ey ep => absurd ⟨b, Or.inl ep⟩ a) (fun t j q b ht ex ey hq ep => absurd ⟨b, Or.inr (by rw [ep]; exact okI_i hq (by omega))⟩ a)
  · subst ep
    refine c_Mo_sit (fun _ _ => rfl) g2 g6 (fun b => absurd ⟨a, Or.inr (okI_i hq (by omega))⟩ b) (fun q' b hq' ep _ => hK2 _ h) (fun t j b ht ex ey ep => absurd ep (nI_nem1 (by omega))) (fun t j q' b ht ex ey hq' ep hpr => ?_)
    obtain rfl := (nI_eq (by omega) (by omega)).mp ep
    exact absurd (h0.symm.trans hpr) (by decide)
  · subst ex ey ep
    refine c_Mo_sit (μ0 := μ) (fun f hf => ?_) g2 g6 (fun b => absurd ⟨a, Or.inl rfl⟩ b) (fun q' b hq' ep _ => absurd ep.symm (nI_nem1 (by omega))) (fun t' j' b ht' ex ey _ hj' => ?_) (fun t j q' b ht ex ey hq' ep hpr => absurd ep.symm (nI_nem1 (by omega)))
    · funext a b
      exact zu_ne (fun w => hf w.1)
    obtain rfl := (nI_eq (by omega) (by omega)).mp ex
    obtain rfl := (nI_eq (by omega) (by omega)).mp ey
    obtain ⟨b1, b2, ⟨y, y1, y2, y3, y4, y5⟩, b4, b5, b6⟩ := g6.2.2.2 t ht
    obtain rfl := e9u t _ _ y2 hz y3 e9
    refine hK2 _ (Rel_row (t := t) (z := y) (a := fun k => if k = j then -1 else μ 40 t k) g1 g2 g3 g4 g5 g6 g7 g8 g9 g10 g11 ht (fun f q1 q2 => ?_) (fun u k => ?_) (fun k hk => ?_) (fun k hk => ?_) y3 y2 (fun k h1 h2 => ?_) (fun k hk => ?_) (fun j' k hj' hk => ?_))
    · funext a b
      rw [zu_ne (fun w => q2 w.1), zu_ne (fun w => q1 w.1)]
    · rw [zu_ne (by omega)]
      by_cases w : u = t ∧ k = j
      · obtain ⟨rfl, rfl⟩ := w
        rw [zu_eq, if_pos ⟨rfl, by omega⟩, if_pos rfl]
      · rw [zu_ne (fun v => w ⟨v.2.2, v.2.1⟩)]
        by_cases w2 : u = t ∧ k < 12
        · obtain ⟨rfl, w3⟩ := w2
          rw [if_pos ⟨rfl, w3⟩, if_neg (fun v => w ⟨rfl, v⟩)]
        · rw [if_neg w2]
    · rw [zu_ne (by omega), zu_ne (by omega)]
    · by_cases w : k = j
      · rw [if_pos w, w, zu_eq]
      · rw [if_neg w, zu_ne (by omega), zu_ne (by omega)]
        exact b4 k hk
    · rw [if_neg (by omega)]
      exact y5 k h1 h2
    · by_cases w : k = j
      · rw [if_pos w]
        exact Or.inl rfl
      · rw [if_neg w]
        exact b5 k hk
    · by_cases w : j' = j
      · rw [if_pos w]
        exact fun _ => rfl
      · rw [if_neg w]
        by_cases w2 : k = j
        · rw [if_pos w2]
          exact fun v => v
        · rw [if_neg w2]
          exact b6 j' k hj' hk
  · subst ex ey ep
    have hqm : ¬ nI q = -1 := nI_nem1 (by omega)
    refine c_Mo_sit (μ0 := μ) (fun f hf => ?_) g2 g6 (fun b => absurd ⟨a, Or.inr (okI_i hq (by omega))⟩ b) (fun q' b hq' ep h0 => ?_) (fun t' j' b ht' ex ey ep hj' => absurd ep hqm) (fun t' j' q' b ht' ex ey hq' ep hpr' hj' => ?_)
    · funext a b
      rw [zu_ne (fun w => hf w.1)]
      exact if_neg (fun w => hf w.1)
    · obtain rfl := (nI_eq (by omega) (by omega)).mp ep
      exact absurd (hpr.symm.trans h0) (by decide)
    obtain rfl := (nI_eq (by omega) (by omega)).mp ex
    obtain rfl := (nI_eq (by omega) (by omega)).mp ey
    obtain rfl := (nI_eq (by omega) (by omega)).mp ep
    obtain ⟨b1, b2, ⟨y, y1, y2, y3, y4, y5⟩, b4, b5, b6⟩ := g6.2.2.2 t ht
    obtain rfl := e9u t _ _ y2 hz y3 e9
    refine hK2 _ (Rel_row (t := t) (z := y) (a := fun k => if k = j then nI q else if μ 40 t k = nI q then -1 else μ 40 t k) g1 g2 g3 g4 g5 g6 g7 g8 g9 g10 g11 ht (fun f q1 q2 => ?_) (fun u k => ?_) (fun k hk => ?_) (fun k hk => ?_) y3 y2 (fun k h1 h2 => ?_) (fun k hk => ?_) (fun j' k hj' hk => ?_))
    · funext a b
      rw [zu_ne (fun w => q2 w.1)]
      unfold mOutA
      rw [if_neg (fun w => q2 w.1), zu_ne (fun w => q1 w.1)]
      exact if_neg (fun w => q1 w.1)
    · rw [zu_ne (by omega)]
      unfold mOutA
      rw [if_neg (by omega)]
      by_cases w : u = t ∧ k = j
      · obtain ⟨rfl, rfl⟩ := w
        rw [zu_eq, if_pos ⟨rfl, by omega⟩, if_pos rfl]
      · rw [zu_ne (fun v => w ⟨v.2.2, v.2.1⟩)]
        unfold cOut
        by_cases w2 : u = t ∧ k < 12
        · obtain ⟨rfl, w3⟩ := w2
          rw [if_pos (show u = u ∧ k < 12 from ⟨rfl, w3⟩), if_neg (show ¬ k = j from fun v => w ⟨rfl, v⟩)]
          by_cases w4 : μ 40 u k = nI q
          · rcases Nat.lt_or_ge k y with w5 | w5
            · rw [if_pos ⟨rfl, rfl, w5, w4⟩, if_pos w4]
            · exact absurd ((y5 k w5 w3).symm.trans w4).symm hqm
          · rw [if_neg (fun v => w4 v.2.2.2), if_neg w4]
        · rw [if_neg w2, if_neg (fun v => w2 ⟨v.2.1, by omega⟩)]
    · rw [zu_ne (by omega)]
      unfold mOutA
      rw [if_neg (by omega), zu_ne (by omega)]
      exact if_neg (by omega)
    · have e95 : zu (cOut μ t y (nI q)) 40 t j (nI q) 95 0 (12 * t + k) = μ 40 t k := by
        rw [zu_ne (by omega)]
        exact (if_neg (by omega)).trans (b4 k hk)
      by_cases w : k = j
      · rw [if_pos w, w, zu_eq]
      · rw [if_neg w, zu_ne (by omega)]
        unfold mOutA
        rw [e95]
        by_cases w4 : μ 40 t k = nI q
        · rw [if_pos ⟨rfl, rfl, by omega, by omega, w4⟩, if_pos w4]
        · rw [if_neg (fun v => w4 v.2.2.2.2), if_neg w4]
    · rw [if_neg (by omega), y5 k h1 h2]
      split <;> rfl
    · by_cases w : k = j
      · rw [if_pos w]
        exact Or.inr ⟨q, hq, rfl, hpr⟩
      · rw [if_neg w]
        by_cases w4 : μ 40 t k = nI q
        · rw [if_pos w4]
          exact Or.inl rfl
        · rw [if_neg w4]
          exact b5 k hk
    · by_cases w : j' = j
      · rw [if_pos w, if_neg (by omega)]
        by_cases w4 : μ 40 t k = nI q
        · rw [if_pos w4]
          exact fun v => v
        · rw [if_neg w4]
          exact fun v => absurd v.symm w4
      · rw [if_neg w]
        by_cases w2 : k = j
        · rw [if_pos w2]
          by_cases w4 : μ 40 t j' = nI q
          · rw [if_pos w4]
            exact fun _ => rfl
          · rw [if_neg w4]
            exact fun v => absurd v w4
        · rw [if_neg w2]
          by_cases w4 : μ 40 t j' = nI q
          · rw [if_pos w4]
            exact fun _ => rfl
          · rw [if_neg w4]
            by_cases w5 : μ 40 t k = nI q
            · rw [if_pos w5]
              exact fun v => v
            · rw [if_neg w5]
              exact b6 j' k hj' hk
/-! DESK: visit, card, owes -/
theorem pFst_cg {P P' : Nat → Bool} : ∀ {n : Nat}, (∀ v, v < n → P v = P' v) → pFst P n = pFst P' n
  | 0, _ => rfl
  | n + 1, h => by
    rw [pFst, pFst, pFst_cg (fun v hv => h v (by omega)), h n (by omega)]
theorem pCt_cg {P P' : Nat → Bool} : ∀ {n : Nat}, (∀ v, v < n → P v = P' v) → pCt P n = pCt P' n
  | 0, _ => rfl
  | n + 1, h => by
    rw [pCt, pCt, pCt_cg (fun v hv => h v (by omega)), h n (by omega)]
theorem pNth_cg {P P' : Nat → Bool} {j : Int32} {n : Nat} (h : ∀ v, v < n → P v = P' v) : pNth P j n = pNth P' j n := by
  unfold pNth
  refine pFst_cg (fun v hv => ?_)
  rw [h v hv, pCt_cg (fun w hw => h w (by omega))]
def mRem (μ : zMu) (v n : Nat) : zMu := fun f i k => if (f = 99 ∨ f = 100 ∨ f = 101) ∧ i = 0 then pRem (μ f i) v n k else μ f i k
set_option maxHeartbeats 1000000 in
theorem c_Mo_forget {d n v : Nat} {μ : zMu} {K : Option zV → zMu → Prop} (hn : μ 48 0 48 = nI (n + 1)) (h40 : n + 1 ≤ 40) (hv : v ≤ n) (hK : K none (mRem (zu μ 48 0 48 (nI n)) v n)) : Ct d m_Mo_forget [zR 48 0, zI (nI v)] μ K := by
  refine zmeet rfl (Nat.le_of_ble_eq_true rfl) (fun S => ?_)
  have L : ∀ (k i : Nat) (x : Int32) (μ1 : zMu), i + k = n → v ≤ i → x = nI i → μ1 = mRem (zu μ 48 0 48 (nI n)) v i → zG S d m_Mo_forget K 12 [some (zR 48 0), some (zI (nI v)), some (zI x)] [] μ1 := by
    intro k
    induction k with
    | zero =>
      intro i x μ1 hi hvi hx hm
      subst hx hm
      obtain rfl : i = n := by omega
      have hz : mRem (zu μ 48 0 48 (nI i)) v i 48 0 48 = nI i := rfl
      refine zs k_Mo_forget rfl ?_; conv => whnf
      repeat' (first
        | exact hK
        | (refine zs k_Mo_forget rfl ?_; conv => whnf)
        | refine br_t (by simp (disch := omega) only [hz, nI_leI, nI_ltI, nI_eq]; omega) ?_
        | refine br_f (by simp (disch := omega) only [hz, nI_leI, nI_ltI, nI_eq]; omega) ?_
        | refine ⟨Nat.zero_lt_one, rfl, ?_⟩
        | refine ⟨rfl, ?_⟩
        | refine ⟨⟨Nat.zero_lt_one, rfl⟩, Nat.le_of_ble_eq_true rfl, ?_⟩
        | refine ⟨Nat.le_of_ble_eq_true rfl, Nat.le_of_ble_eq_true rfl, ?_⟩
        | refine ⟨(by first | exact Nat.zero_lt_one | assumption | omega), (by first | assumption | exact vp_in_nI (by omega) (by omega) | (unfold vp_in; decide)), ?_⟩
        | refine ⟨(by first | exact Nat.zero_lt_one | assumption | omega), rfl, ?_⟩
        | refine ⟨⟨(by first | exact Nat.zero_lt_one | assumption | omega), rfl⟩, Nat.le_of_ble_eq_true rfl, ?_⟩
        | refine ⟨(by first | exact Nat.zero_lt_one | assumption | omega), ?_⟩
        | refine ⟨Or.inl rfl, ?_⟩
        | refine ⟨Or.inr (Or.inl rfl), ?_⟩
        | refine ⟨Or.inr (Or.inr rfl), ?_⟩
        | refine ⟨Or.inr ⟨rfl, (by first | exact Or.inl rfl | exact Or.inr rfl | assumption)⟩, ?_⟩
        | refine ⟨fun h => absurd h (by decide), fun _ => ?_⟩
        | refine ⟨fun _ => ?_, fun h => absurd h (by decide)⟩
        | refine ⟨fun h => ?_, fun h => ?_⟩
        | fail)
    | succ k ih =>
      intro i x μ1 hi hvi hx hm
      subst hx
      have hz : μ1 48 0 48 = nI n := by rw [hm]; rfl
      have hc : (nI i).toNatClampNeg = i := nI_clamp (by omega)
      have hc1 : (nI i + 1).toNatClampNeg = i + 1 := by rw [nI_1, nI_clamp (by omega)]
      have hv1 : vp_in (nI i + 1) 40 := by rw [nI_1]; exact vp_in_nI (by omega) (by omega)
      refine zs k_Mo_forget rfl ?_; conv => whnf
      repeat' (first
        | refine ih (i + 1) _ _ (by omega) (by omega) (by exact nI_1 i) ?_
        | (refine zs k_Mo_forget rfl ?_; conv => whnf)
        | refine br_t (by simp (disch := omega) only [hz, nI_leI, nI_ltI, nI_eq]; omega) ?_
        | refine br_f (by simp (disch := omega) only [hz, nI_leI, nI_ltI, nI_eq]; omega) ?_
        | refine ⟨Nat.zero_lt_one, rfl, ?_⟩
        | refine ⟨rfl, ?_⟩
        | refine ⟨⟨Nat.zero_lt_one, rfl⟩, Nat.le_of_ble_eq_true rfl, ?_⟩
        | refine ⟨Nat.le_of_ble_eq_true rfl, Nat.le_of_ble_eq_true rfl, ?_⟩
        | refine ⟨(by first | exact Nat.zero_lt_one | assumption | omega), (by first | assumption | exact vp_in_nI (by omega) (by omega) | (unfold vp_in; decide)), ?_⟩
        | refine ⟨(by first | exact Nat.zero_lt_one | assumption | omega), rfl, ?_⟩
        | refine ⟨⟨(by first | exact Nat.zero_lt_one | assumption | omega), rfl⟩, Nat.le_of_ble_eq_true rfl, ?_⟩
        | refine ⟨(by first | exact Nat.zero_lt_one | assumption | omega), ?_⟩
        | refine ⟨Or.inl rfl, ?_⟩
        | refine ⟨Or.inr (Or.inl rfl), ?_⟩
        | refine ⟨Or.inr (Or.inr rfl), ?_⟩
        | refine ⟨Or.inr ⟨rfl, (by first | exact Or.inl rfl | exact Or.inr rfl | assumption)⟩, ?_⟩
        | refine ⟨fun h => absurd h (by decide), fun _ => ?_⟩
        | refine ⟨fun _ => ?_, fun h => absurd h (by decide)⟩
        | refine ⟨fun h => ?_, fun h => ?_⟩
        | fail)
      rw [hc, hc1, hm]
      funext f a b
      simp only [mRem, pRem, zu]
      grind
  repeat' (first
    | refine L (n - v) v _ _ (by omega) (Nat.le_refl v) rfl ?_
    | (refine zs k_Mo_forget rfl ?_; conv => whnf)
    | refine ⟨Nat.zero_lt_one, rfl, ?_⟩
    | refine ⟨rfl, ?_⟩
    | refine ⟨⟨Nat.zero_lt_one, rfl⟩, Nat.le_of_ble_eq_true rfl, ?_⟩
    | refine ⟨Nat.le_of_ble_eq_true rfl, Nat.le_of_ble_eq_true rfl, ?_⟩
    | refine ⟨(by first | exact Nat.zero_lt_one | assumption | omega), (by first | assumption | exact vp_in_nI (by omega) (by omega) | (unfold vp_in; decide)), ?_⟩
    | refine ⟨(by first | exact Nat.zero_lt_one | assumption | omega), rfl, ?_⟩
    | refine ⟨⟨(by first | exact Nat.zero_lt_one | assumption | omega), rfl⟩, Nat.le_of_ble_eq_true rfl, ?_⟩
    | refine ⟨(by first | exact Nat.zero_lt_one | assumption | omega), ?_⟩
    | refine ⟨Or.inl rfl, ?_⟩
    | refine ⟨Or.inr (Or.inl rfl), ?_⟩
    | refine ⟨Or.inr (Or.inr rfl), ?_⟩
    | refine ⟨Or.inr ⟨rfl, (by first | exact Or.inl rfl | exact Or.inr rfl | assumption)⟩, ?_⟩
    | refine ⟨fun h => absurd h (by decide), fun _ => ?_⟩
    | refine ⟨fun _ => ?_, fun h => absurd h (by decide)⟩
    | refine ⟨fun h => ?_, fun h => ?_⟩
    | fail)
  funext f a b
  simp only [mRem, pRem, zu, hn, nI_pred]
  grind

theorem mVs_rem {μ : zMu} {L : List zVt} {v : Nat} (h : mVs μ L) (hv : v < L.length) : mVs (mRem (zu μ 48 0 48 (nI (L.length - 1))) v (L.length - 1)) (L.eraseIdx v) := by
  obtain ⟨h1, h3⟩ := h
  have hl : (L.eraseIdx v).length = L.length - 1 := List.length_eraseIdx_of_lt hv
  refine ⟨by rw [hl]; rfl, fun k e he => ?_⟩
  have hk : k < L.length - 1 := by
    have := (List.getElem?_eq_some_iff.mp he).1
    omega
  rw [List.getElem?_eraseIdx] at he
  have e46 : mRem (zu μ 48 0 48 (nI (L.length - 1))) v (L.length - 1) 99 0 k = if v ≤ k ∧ k < L.length - 1 then μ 99 0 (k + 1) else μ 99 0 k := rfl
  have e45 : mRem (zu μ 48 0 48 (nI (L.length - 1))) v (L.length - 1) 100 0 k = if v ≤ k ∧ k < L.length - 1 then μ 100 0 (k + 1) else μ 100 0 k := rfl
  have e47 : mRem (zu μ 48 0 48 (nI (L.length - 1))) v (L.length - 1) 101 0 k = if v ≤ k ∧ k < L.length - 1 then μ 101 0 (k + 1) else μ 101 0 k := rfl
  rw [e46, e45, e47]
  by_cases hvk : k < v
  · rw [if_pos hvk] at he
    rw [if_neg (by omega), if_neg (by omega), if_neg (by omega)]
    exact h3 k e he
  · rw [if_neg hvk] at he
    rw [if_pos (by omega), if_pos (by omega), if_pos (by omega)]
    exact h3 (k + 1) e he
/-- of the model's state only the visits have changed -/
def zOnv (μ μ' : zMu) : Prop := (∀ f, f ∉ [48, 99, 100, 101] → μ' f = μ f) ∧ ∀ k, k ≠ 48 → μ' 48 0 k = μ 48 0 k
theorem zOnv_tr {μ μ' μ'' : zMu} (h : zOnv μ μ') (h' : zOnv μ' μ'') : zOnv μ μ'' := ⟨fun f hf => (h'.1 f hf).trans (h.1 f hf), fun k hk => (h'.2 k hk).trans (h.2 k hk)⟩
theorem mRem_onv {μ : zMu} {x : Int32} {v n : Nat} : zOnv μ (mRem (zu μ 48 0 48 x) v n) := by
  refine ⟨fun f hf => ?_, fun k hk => ?_⟩
  · simp only [List.mem_cons, List.not_mem_nil, or_false, not_or] at hf
    funext a b
    simp only [mRem, zu]
    rw [if_neg (by omega), if_neg (by omega)]
  · simp only [mRem, zu]
    rw [if_neg (by omega), if_neg (by omega)]
/-- the first that matches -/
def lF (L : List zVt) (x y : Int32) : Int32 := pFst (fun v => match L[v]? with
  | some e => pMt x y e
  | none => false) L.length
theorem lF_c {μ : zMu} {L : List zVt} {x y : Int32} (h : cVs μ L) : pFst (fun v => decide (μ 46 0 v = x) && decide (μ 45 0 v = y)) L.length = lF L x y := by
  refine pFst_cg (fun v hv => ?_)
  obtain ⟨e, he⟩ : ∃ e, L[v]? = some e := ⟨L[v], List.getElem?_eq_getElem hv⟩
  obtain ⟨a, b, c⟩ := h.2.2 v e he
  rw [he, a, b]
  rfl
theorem lF_m {μ : zMu} {L : List zVt} {x y : Int32} (h : mVs μ L) : pFst (fun v => decide (μ 99 0 v = x) && decide (μ 100 0 v = y)) L.length = lF L x y := by
  refine pFst_cg (fun v hv => ?_)
  obtain ⟨e, he⟩ : ∃ e, L[v]? = some e := ⟨L[v], List.getElem?_eq_getElem hv⟩
  obtain ⟨a, b, c⟩ := h.2 v e he
  rw [he, a, b]
  rfl
theorem lF_in {L : List zVt} {x y : Int32} (h : L.length ≤ 40) : (lF L x y = -1 ∧ L.countP (pMt x y) = 0) ∨ ∃ v e, v < L.length ∧ lF L x y = nI v ∧ L[v]? = some e ∧ pMt x y e = true := by
  rcases pFst_in (P := fun v => match L[v]? with
    | some e => pMt x y e
    | none => false) (n := L.length) (by omega) with q | ⟨v, hv, q1, q2, q3⟩
  · refine Or.inl ⟨q, ?_⟩
    have hq := pFst_m1 (n := L.length) (by omega) q
    rw [List.countP_eq_zero]
    intro e he
    obtain ⟨v, hv, rfl⟩ := List.getElem_of_mem he
    have := hq v hv
    rw [List.getElem?_eq_getElem hv] at this
    dsimp only at this
    rw [this]
    simp
  · refine Or.inr ⟨v, L[v], hv, q1, List.getElem?_eq_getElem hv, ?_⟩
    rw [List.getElem?_eq_getElem hv] at q2
    exact q2
theorem er_flt {L : List zVt} {v : Nat} {e : zVt} {p : zVt → Bool} (hv : L[v]? = some e) (he : p e = true) : (L.eraseIdx v).filter (fun e => !p e) = L.filter (fun e => !p e) ∧ (L.eraseIdx v).countP p + 1 = L.countP p := by
  have hlt := (List.getElem?_eq_some_iff.mp hv).1
  have hL : L = L.take v ++ e :: L.drop (v + 1) := by
    have h1 := List.take_append_drop v L
    rw [List.drop_eq_getElem_cons hlt, (List.getElem?_eq_some_iff.mp hv).2] at h1
    exact h1.symm
  have hE : L.eraseIdx v = L.take v ++ L.drop (v + 1) := List.eraseIdx_eq_take_drop_succ L v
  rw [hE]
  constructor
  · conv => rhs; rw [hL]
    rw [List.filter_append, List.filter_append, List.filter_cons_of_neg (by simp [he])]
  · conv => rhs; rw [hL]
    rw [List.countP_append, List.countP_append, List.countP_cons_of_pos he]
    omega
theorem c_Mo_oldest {d n : Nat} {μ : zMu} {x y : Int32} {K : Option zV → zMu → Prop} (hn : μ 48 0 48 = nI n) (h40 : n ≤ 40) (hK : K (some (zI (pFst (fun v => decide (μ 99 0 v = x) && decide (μ 100 0 v = y)) n))) μ) : Ct d m_Mo_oldest [zR 48 0, zI x, zI y] μ K := by
  refine zmeet rfl (Nat.le_of_ble_eq_true rfl) (fun S => ?_)
  have L : ∀ (k i : Nat) (v : Int32), i + k = n → v = nI i → (∀ r, r < i → (decide (μ 99 0 r = x) && decide (μ 100 0 r = y)) = false) → zG S d m_Mo_oldest K 2 [some (zR 48 0), some (zI x), some (zI y), some (zI v)] [] μ := by
    intro k
    induction k with
    | zero =>
      intro i v hi hv hz
      subst hv
      obtain rfl : i = n := by omega
      rw [pFst_none hz] at hK
      refine zs k_Mo_oldest rfl ?_; conv => whnf
      repeat' (first
        | exact hK
        | (refine zs k_Mo_oldest rfl ?_; conv => whnf)
        | refine br_t (by simp (disch := omega) only [hn, nI_leI, nI_ltI, nI_eq]; omega) ?_
        | refine br_f (by simp (disch := omega) only [hn, nI_leI, nI_ltI, nI_eq]; omega) ?_
        | refine ⟨Nat.zero_lt_one, rfl, ?_⟩
        | refine ⟨rfl, ?_⟩
        | refine ⟨⟨Nat.zero_lt_one, rfl⟩, Nat.le_of_ble_eq_true rfl, ?_⟩
        | refine ⟨Nat.le_of_ble_eq_true rfl, Nat.le_of_ble_eq_true rfl, ?_⟩
        | refine ⟨(by first | exact Nat.zero_lt_one | assumption | omega), (by first | assumption | exact vp_in_nI (by omega) (by omega) | (unfold vp_in; decide)), ?_⟩
        | refine ⟨(by first | exact Nat.zero_lt_one | assumption | omega), rfl, ?_⟩
        | refine ⟨⟨(by first | exact Nat.zero_lt_one | assumption | omega), rfl⟩, Nat.le_of_ble_eq_true rfl, ?_⟩
        | refine ⟨(by first | exact Nat.zero_lt_one | assumption | omega), ?_⟩
        | refine ⟨Or.inl rfl, ?_⟩
        | refine ⟨Or.inr (Or.inl rfl), ?_⟩
        | refine ⟨Or.inr (Or.inr rfl), ?_⟩
        | refine ⟨Or.inr ⟨rfl, (by first | exact Or.inl rfl | exact Or.inr rfl | assumption)⟩, ?_⟩
        | refine ⟨fun h => absurd h (by decide), fun _ => ?_⟩
        | refine ⟨fun _ => ?_, fun h => absurd h (by decide)⟩
        | refine ⟨fun h => ?_, fun h => ?_⟩
        | fail)
    | succ k ih =>
      intro i v hi hv hz
      subst hv
      have hc : (nI i).toNatClampNeg = i := nI_clamp (by omega)
      refine zs k_Mo_oldest rfl ?_; conv => whnf
      repeat' (first
        | refine ih (i + 1) _ (by omega) (by exact nI_1 i) (lt_s hz (by rw [hc] at *; simp [*]))
        | refine zKe hK (by rw [pFst_hit hz (by rw [hc] at *; simp [*]) (by omega) (by omega)]) rfl
        | (refine zs k_Mo_oldest rfl ?_; conv => whnf)
        | refine br_t (by simp (disch := omega) only [hn, nI_leI, nI_ltI, nI_eq]; omega) ?_
        | refine br_f (by simp (disch := omega) only [hn, nI_leI, nI_ltI, nI_eq]; omega) ?_
        | refine ⟨Nat.zero_lt_one, rfl, ?_⟩
        | refine ⟨rfl, ?_⟩
        | refine ⟨⟨Nat.zero_lt_one, rfl⟩, Nat.le_of_ble_eq_true rfl, ?_⟩
        | refine ⟨Nat.le_of_ble_eq_true rfl, Nat.le_of_ble_eq_true rfl, ?_⟩
        | refine ⟨(by first | exact Nat.zero_lt_one | assumption | omega), (by first | assumption | exact vp_in_nI (by omega) (by omega) | (unfold vp_in; decide)), ?_⟩
        | refine ⟨(by first | exact Nat.zero_lt_one | assumption | omega), rfl, ?_⟩
        | refine ⟨⟨(by first | exact Nat.zero_lt_one | assumption | omega), rfl⟩, Nat.le_of_ble_eq_true rfl, ?_⟩
        | refine ⟨(by first | exact Nat.zero_lt_one | assumption | omega), ?_⟩
        | refine ⟨Or.inl rfl, ?_⟩
        | refine ⟨Or.inr (Or.inl rfl), ?_⟩
        | refine ⟨Or.inr (Or.inr rfl), ?_⟩
        | refine ⟨Or.inr ⟨rfl, (by first | exact Or.inl rfl | exact Or.inr rfl | assumption)⟩, ?_⟩
        | refine ⟨fun h => absurd h (by decide), fun _ => ?_⟩
        | refine ⟨fun _ => ?_, fun h => absurd h (by decide)⟩
        | refine ⟨fun h => ?_, fun h => ?_⟩
        | fail)
  repeat' (first
    | exact L n 0 _ (by omega) rfl (fun r hr => absurd hr (by omega))
    | (refine zs k_Mo_oldest rfl ?_; conv => whnf)
    | refine ⟨Nat.zero_lt_one, rfl, ?_⟩
    | refine ⟨rfl, ?_⟩
    | refine ⟨⟨Nat.zero_lt_one, rfl⟩, Nat.le_of_ble_eq_true rfl, ?_⟩
    | refine ⟨Nat.le_of_ble_eq_true rfl, Nat.le_of_ble_eq_true rfl, ?_⟩
    | refine ⟨(by first | exact Nat.zero_lt_one | assumption | omega), (by first | assumption | exact vp_in_nI (by omega) (by omega) | (unfold vp_in; decide)), ?_⟩
    | refine ⟨(by first | exact Nat.zero_lt_one | assumption | omega), rfl, ?_⟩
    | refine ⟨⟨(by first | exact Nat.zero_lt_one | assumption | omega), rfl⟩, Nat.le_of_ble_eq_true rfl, ?_⟩
    | refine ⟨(by first | exact Nat.zero_lt_one | assumption | omega), ?_⟩
    | refine ⟨Or.inl rfl, ?_⟩
    | refine ⟨Or.inr (Or.inl rfl), ?_⟩
    | refine ⟨Or.inr (Or.inr rfl), ?_⟩
    | refine ⟨Or.inr ⟨rfl, (by first | exact Or.inl rfl | exact Or.inr rfl | assumption)⟩, ?_⟩
    | refine ⟨fun h => absurd h (by decide), fun _ => ?_⟩
    | refine ⟨fun _ => ?_, fun h => absurd h (by decide)⟩
    | refine ⟨fun h => ?_, fun h => ?_⟩
    | fail)
theorem l_oldest {d : Nat} {μ : zMu} {x y : Int32} {L : List zVt} {K : Option zV → zMu → Prop} (hL : mVs μ L) (h40 : L.length ≤ 40) (hK : K (some (zI (lF L x y))) μ) : Ct d m_Mo_oldest [zR 48 0, zI x, zI y] μ K := by
  refine c_Mo_oldest hL.1 h40 ?_
  rw [lF_m hL]
  exact hK
theorem l_forget {d v : Nat} {μ : zMu} {w : Int32} {L : List zVt} {K : Option zV → zMu → Prop} (hL : mVs μ L) (h40 : L.length ≤ 40) (hv : v < L.length) (hw : w = nI v) (hK : ∀ μ', zOnv μ μ' → mVs μ' (L.eraseIdx v) → K none μ') : Ct d m_Mo_forget [zR 48 0, zI w] μ K := by
  subst hw
  refine c_Mo_forget (n := L.length - 1) (by rw [show L.length - 1 + 1 = L.length by omega]; exact hL.1) (by omega) (by omega) (hK _ mRem_onv (mVs_rem hL hv))
/-! card -/
theorem c_Mo_card {d n : Nat} {μ : zMu} {x y : Int32} {L : List zVt} {K : Option zV → zMu → Prop} (hn : μ 48 0 5 = nI n) (hL : mVs μ L) (h40 : L.length ≤ 40) (h0 : ¬ (okI n x ∧ okI n y) → K (some (zI (-1))) μ) (h1 : okI n x ∧ okI n y → ∀ μ', zOnv μ μ' → mVs μ' (L.filter (fun e => !pMt x y e)) → K (some (zI (nI (L.countP (pMt x y))))) μ') : Ct (d + 1) m_Mo_card [zR 48 0, zI x, zI y] μ K := by
  refine zmeet rfl (Nat.le_of_ble_eq_true rfl) (fun S => ?_)
  by_cases ho : okI n x ∧ okI n y
  case neg =>
    have hk := h0 ho
    unfold okI at ho
    rw [← hn] at ho
    repeat' (first
      | refine c_Mo_isPerson (fun q1 => ?_) (fun q => ?_)
      | exact hk
      | (refine zs k_Mo_card rfl ?_; conv => whnf)
      | refine ⟨Nat.zero_lt_one, rfl, ?_⟩
      | refine ⟨rfl, ?_⟩
      | refine ⟨⟨Nat.zero_lt_one, rfl⟩, Nat.le_of_ble_eq_true rfl, ?_⟩
      | refine ⟨Nat.le_of_ble_eq_true rfl, Nat.le_of_ble_eq_true rfl, ?_⟩
      | refine ⟨(by first | exact Nat.zero_lt_one | assumption | omega), (by first | assumption | exact vp_in_nI (by omega) (by omega) | (unfold vp_in; decide)), ?_⟩
      | refine ⟨(by first | exact Nat.zero_lt_one | assumption | omega), rfl, ?_⟩
      | refine ⟨⟨(by first | exact Nat.zero_lt_one | assumption | omega), rfl⟩, Nat.le_of_ble_eq_true rfl, ?_⟩
      | refine ⟨(by first | exact Nat.zero_lt_one | assumption | omega), ?_⟩
      | refine ⟨Or.inl rfl, ?_⟩
      | refine ⟨Or.inr (Or.inl rfl), ?_⟩
      | refine ⟨Or.inr (Or.inr rfl), ?_⟩
      | refine ⟨Or.inr ⟨rfl, (by first | exact Or.inl rfl | exact Or.inr rfl | assumption)⟩, ?_⟩
      | refine ⟨fun h => absurd h (by decide), fun _ => ?_⟩
      | refine ⟨fun _ => ?_, fun h => absurd h (by decide)⟩
      | refine ⟨fun h => ?_, fun h => ?_⟩
      | exact absurd (by grind) ho
      | fail)
  have hx : 0 ≤ x ∧ x < μ 48 0 5 := by rw [hn]; exact ho.1
  have hy : 0 ≤ y ∧ y < μ 48 0 5 := by rw [hn]; exact ho.2
  have H : ∀ (m : Nat) (L1 : List zVt) (c : Int32) (μ1 : zMu), L1.countP (pMt x y) = m → L1.length ≤ 40 → L1.filter (fun e => !pMt x y e) = L.filter (fun e => !pMt x y e) → c = nI (L.countP (pMt x y) - m) → m ≤ L.countP (pMt x y) → zOnv μ μ1 → mVs μ1 L1 → zG S (d + 1) m_Mo_card K 20 [some (zR 48 0), some (zI x), some (zI y), some (zI c)] [] μ1 := by
    intro m
    induction m with
    | zero =>
      intro L1 c μ1 hm hl hf hc hle ho1 hv
      subst hc
      have hF : lF L1 x y = -1 := by
        rcases lF_in (x := x) (y := y) hl with q | ⟨v, e, q1, q2, q3, q4⟩
        · exact q.1
        · rw [List.countP_eq_zero] at hm
          exact absurd q4 (hm e (List.mem_of_getElem? q3))
      have hk := h1 ho μ1 ho1 (by
        have hL1 : L1.filter (fun e => !pMt x y e) = L1 := List.filter_eq_self.mpr (fun e he => by
          rw [List.countP_eq_zero] at hm
          have := hm e he
          simpa using this)
        rw [← hf, hL1]
        exact hv)
      refine zs k_Mo_card rfl ?_; conv => whnf
      repeat' (first
        | refine l_oldest hv hl ?_
        | refine br_t hF ?_
        | exact hk
        | (refine zs k_Mo_card rfl ?_; conv => whnf)
        | refine ⟨Nat.zero_lt_one, rfl, ?_⟩
        | refine ⟨rfl, ?_⟩
        | refine ⟨⟨Nat.zero_lt_one, rfl⟩, Nat.le_of_ble_eq_true rfl, ?_⟩
        | refine ⟨Nat.le_of_ble_eq_true rfl, Nat.le_of_ble_eq_true rfl, ?_⟩
        | refine ⟨(by first | exact Nat.zero_lt_one | assumption | omega), (by first | assumption | exact vp_in_nI (by omega) (by omega) | (unfold vp_in; decide)), ?_⟩
        | refine ⟨(by first | exact Nat.zero_lt_one | assumption | omega), rfl, ?_⟩
        | refine ⟨⟨(by first | exact Nat.zero_lt_one | assumption | omega), rfl⟩, Nat.le_of_ble_eq_true rfl, ?_⟩
        | refine ⟨(by first | exact Nat.zero_lt_one | assumption | omega), ?_⟩
        | refine ⟨Or.inl rfl, ?_⟩
        | refine ⟨Or.inr (Or.inl rfl), ?_⟩
        | refine ⟨Or.inr (Or.inr rfl), ?_⟩
        | refine ⟨Or.inr ⟨rfl, (by first | exact Or.inl rfl | exact Or.inr rfl | assumption)⟩, ?_⟩
        | refine ⟨fun h => absurd h (by decide), fun _ => ?_⟩
        | refine ⟨fun _ => ?_, fun h => absurd h (by decide)⟩
        | refine ⟨fun h => ?_, fun h => ?_⟩
        | fail)
    | succ m ih =>
      intro L1 c μ1 hm hl hf hc hle ho1 hv
      subst hc
      rcases lF_in (x := x) (y := y) hl with q | ⟨v, e, q1, q2, q3, q4⟩
      · exact absurd q.2 (by omega)
      obtain ⟨f1, f2⟩ := er_flt (p := pMt x y) q3 q4
      have hF : ¬ lF L1 x y = -1 := by rw [q2]; exact nI_nem1 (by omega)
      have hl2 : (L1.eraseIdx v).length ≤ 40 := by rw [List.length_eraseIdx_of_lt q1]; omega
      refine zs k_Mo_card rfl ?_; conv => whnf
      repeat' (first
        | refine l_oldest hv hl ?_
        | refine br_f hF ?_
        | refine l_forget hv hl q1 q2 (fun μ2 o2 v2 => ?_)
        | refine ih (L1.eraseIdx v) _ _ (by omega) hl2 (f1.trans hf) ?_ (by omega) (zOnv_tr ho1 o2) v2
        | (refine zs k_Mo_card rfl ?_; conv => whnf)
        | refine ⟨Nat.zero_lt_one, rfl, ?_⟩
        | refine ⟨rfl, ?_⟩
        | refine ⟨⟨Nat.zero_lt_one, rfl⟩, Nat.le_of_ble_eq_true rfl, ?_⟩
        | refine ⟨Nat.le_of_ble_eq_true rfl, Nat.le_of_ble_eq_true rfl, ?_⟩
        | refine ⟨(by first | exact Nat.zero_lt_one | assumption | omega), (by first | assumption | exact vp_in_nI (by omega) (by omega) | (unfold vp_in; decide)), ?_⟩
        | refine ⟨(by first | exact Nat.zero_lt_one | assumption | omega), rfl, ?_⟩
        | refine ⟨⟨(by first | exact Nat.zero_lt_one | assumption | omega), rfl⟩, Nat.le_of_ble_eq_true rfl, ?_⟩
        | refine ⟨(by first | exact Nat.zero_lt_one | assumption | omega), ?_⟩
        | refine ⟨Or.inl rfl, ?_⟩
        | refine ⟨Or.inr (Or.inl rfl), ?_⟩
        | refine ⟨Or.inr (Or.inr rfl), ?_⟩
        | refine ⟨Or.inr ⟨rfl, (by first | exact Or.inl rfl | exact Or.inr rfl | assumption)⟩, ?_⟩
        | refine ⟨fun h => absurd h (by decide), fun _ => ?_⟩
        | refine ⟨fun _ => ?_, fun h => absurd h (by decide)⟩
        | refine ⟨fun h => ?_, fun h => ?_⟩
        | fail)
      rw [nI_1]
      congr 1
      omega
  repeat' (first
    | refine c_Mo_isPerson (x := x) (fun q1 => ?_) (fun q => absurd hx q)
    | refine c_Mo_isPerson (x := y) (fun q1 => ?_) (fun q => absurd hy q)
    | refine H (L.countP (pMt x y)) L _ _ rfl h40 rfl (by rw [Nat.sub_self]; rfl) (Nat.le_refl _) ⟨fun _ _ => rfl, fun _ _ => rfl⟩ hL
    | (refine zs k_Mo_card rfl ?_; conv => whnf)
    | refine ⟨Nat.zero_lt_one, rfl, ?_⟩
    | refine ⟨rfl, ?_⟩
    | refine ⟨⟨Nat.zero_lt_one, rfl⟩, Nat.le_of_ble_eq_true rfl, ?_⟩
    | refine ⟨Nat.le_of_ble_eq_true rfl, Nat.le_of_ble_eq_true rfl, ?_⟩
    | refine ⟨(by first | exact Nat.zero_lt_one | assumption | omega), (by first | assumption | exact vp_in_nI (by omega) (by omega) | (unfold vp_in; decide)), ?_⟩
    | refine ⟨(by first | exact Nat.zero_lt_one | assumption | omega), rfl, ?_⟩
    | refine ⟨⟨(by first | exact Nat.zero_lt_one | assumption | omega), rfl⟩, Nat.le_of_ble_eq_true rfl, ?_⟩
    | refine ⟨(by first | exact Nat.zero_lt_one | assumption | omega), ?_⟩
    | refine ⟨Or.inl rfl, ?_⟩
    | refine ⟨Or.inr (Or.inl rfl), ?_⟩
    | refine ⟨Or.inr (Or.inr rfl), ?_⟩
    | refine ⟨Or.inr ⟨rfl, (by first | exact Or.inl rfl | exact Or.inr rfl | assumption)⟩, ?_⟩
    | refine ⟨fun h => absurd h (by decide), fun _ => ?_⟩
    | refine ⟨fun _ => ?_, fun h => absurd h (by decide)⟩
    | refine ⟨fun h => ?_, fun h => ?_⟩
    | fail)
theorem c_De_card {d n : Nat} {μ : zMu} {x y : Int32} {L : List zVt} {K : Option zV → zMu → Prop} (hn : μ 1 0 1 = nI n) (hL : cVs μ L) (h0 : ¬ (okI n x ∧ okI n y) → K (some (zI (-1))) μ) (h1 : okI n x ∧ okI n y → ∀ μ', zOnl [7, 45, 46, 47] μ μ' → μ' 7 0 1 = μ 7 0 1 → cVs μ' (L.filter (fun e => !pMt x y e)) → K (some (zI (nI (L.countP (pMt x y))))) μ') : Ct (d + 2) m_De_card [zR 0 0, zI x, zI y] μ K := by
  refine zmeet rfl (Nat.le_of_ble_eq_true rfl) (fun S => ?_)
  by_cases ho : okI n x ∧ okI n y
  case neg =>
    have hk := h0 ho
    unfold okI at ho
    rw [← hn] at ho
    repeat' (first
      | refine c_Ro_hasPerson (fun q1 q2 => ?_) (fun q => ?_)
      | exact hk
      | (refine zs k_De_card rfl ?_; conv => whnf)
      | refine ⟨Nat.zero_lt_one, rfl, ?_⟩
      | refine ⟨rfl, ?_⟩
      | refine ⟨⟨Nat.zero_lt_one, rfl⟩, Nat.le_of_ble_eq_true rfl, ?_⟩
      | refine ⟨Nat.le_of_ble_eq_true rfl, Nat.le_of_ble_eq_true rfl, ?_⟩
      | refine ⟨(by first | exact Nat.zero_lt_one | assumption | omega), (by first | assumption | exact vp_in_nI (by omega) (by omega) | (unfold vp_in; decide)), ?_⟩
      | refine ⟨(by first | exact Nat.zero_lt_one | assumption | omega), rfl, ?_⟩
      | refine ⟨⟨(by first | exact Nat.zero_lt_one | assumption | omega), rfl⟩, Nat.le_of_ble_eq_true rfl, ?_⟩
      | refine ⟨(by first | exact Nat.zero_lt_one | assumption | omega), ?_⟩
      | refine ⟨Or.inl rfl, ?_⟩
      | refine ⟨Or.inr (Or.inl rfl), ?_⟩
      | refine ⟨Or.inr (Or.inr rfl), ?_⟩
      | refine ⟨Or.inr ⟨rfl, (by first | exact Or.inl rfl | exact Or.inr rfl | assumption)⟩, ?_⟩
      | refine ⟨fun h => absurd h (by decide), fun _ => ?_⟩
      | refine ⟨fun _ => ?_, fun h => absurd h (by decide)⟩
      | refine ⟨fun h => ?_, fun h => ?_⟩
      | exact absurd (by grind) ho
      | fail)
  have hx : 0 ≤ x ∧ x < μ 1 0 1 := by rw [hn]; exact ho.1
  have hy : 0 ≤ y ∧ y < μ 1 0 1 := by rw [hn]; exact ho.2
  repeat' (first
    | refine c_Ro_hasPerson (x := x) (fun _ _ => ?_) (fun q => absurd hx q)
    | refine c_Ro_hasPerson (x := y) (fun _ _ => ?_) (fun q => absurd hy q)
    | refine c_Ca_settleAll hL (fun μ' o1 o2 o3 => ?_)
    | exact h1 ho μ' o1 o2 o3
    | (refine zs k_De_card rfl ?_; conv => whnf)
    | refine ⟨Nat.zero_lt_one, rfl, ?_⟩
    | refine ⟨rfl, ?_⟩
    | refine ⟨⟨Nat.zero_lt_one, rfl⟩, Nat.le_of_ble_eq_true rfl, ?_⟩
    | refine ⟨Nat.le_of_ble_eq_true rfl, Nat.le_of_ble_eq_true rfl, ?_⟩
    | refine ⟨(by first | exact Nat.zero_lt_one | assumption | omega), (by first | assumption | exact vp_in_nI (by omega) (by omega) | (unfold vp_in; decide)), ?_⟩
    | refine ⟨(by first | exact Nat.zero_lt_one | assumption | omega), rfl, ?_⟩
    | refine ⟨⟨(by first | exact Nat.zero_lt_one | assumption | omega), rfl⟩, Nat.le_of_ble_eq_true rfl, ?_⟩
    | refine ⟨(by first | exact Nat.zero_lt_one | assumption | omega), ?_⟩
    | refine ⟨Or.inl rfl, ?_⟩
    | refine ⟨Or.inr (Or.inl rfl), ?_⟩
    | refine ⟨Or.inr (Or.inr rfl), ?_⟩
    | refine ⟨Or.inr ⟨rfl, (by first | exact Or.inl rfl | exact Or.inr rfl | assumption)⟩, ?_⟩
    | refine ⟨fun h => absurd h (by decide), fun _ => ?_⟩
    | refine ⟨fun _ => ?_, fun h => absurd h (by decide)⟩
    | refine ⟨fun h => ?_, fun h => ?_⟩
    | fail)
/-- the visits alone have changed, alike on both sides -/
theorem Rel_vs {μ M : zMu} {L : List zVt} (h : Rel μ) (m0 : ∀ f, f ∉ [7, 45, 46, 47, 48, 99, 100, 101] → M f = μ f) (m7 : M 7 0 1 = μ 7 0 1) (m48 : ∀ k, k ≠ 48 → M 48 0 k = μ 48 0 k) (hc : cVs M L) (hm : mVs M L) : Rel M := by
  obtain ⟨ns, n, nr, nh, nt, nb, L0, g1, g2, g3, g4, g5, g6, g7, g8, g9, g10, g11⟩ := h
  have ef : ∀ l : List Nat, l.all (fun f => !([7, 45, 46, 47, 48, 99, 100, 101] : List Nat).contains f) = true → ∀ f, f ∈ l → M f = μ f := fun l hl f hf => m0 f (fun q => by
    have := List.all_eq_true.mp hl f hf
    simp only [Bool.not_eq_true', List.contains_eq_mem, decide_eq_false_iff_not] at this
    exact this q)
  refine ⟨ns, n, nr, nh, nt, nb, L, gSt_fr (ef _ rfl) (m48 0 (by omega)) g1, gPe_fr (ef _ rfl) (m48 5 (by omega)) g2, gTp_fr (ef _ rfl) (by rw [ef [2] rfl 2 (by simp)]) (m48 14 (by omega)) g3, gRu_fr (ef _ rfl) (m48 15 (by omega)) g4, gHd_fr (ef _ rfl) (m48 33 (by omega)) g5, gTb_fr (ef _ rfl) (m48 42 (by omega)) g6, gFe_fr (ef _ rfl) g7, gCo_fr (ef _ rfl) g8, ⟨hc, hm⟩, ?_, gCs_fr (ef _ rfl) g11⟩
  unfold gWi at *
  rw [m7, m48 52 (by omega)]
  exact g10
theorem mVs_c {μ M : zMu} {L : List zVt} (h : zOnl [7, 45, 46, 47] μ M) (g : mVs μ L) : mVs M L := by
  unfold mVs at *
  rw [h 48 (by simp), h 99 (by simp), h 100 (by simp), h 101 (by simp)]
  exact g
theorem cVs_m {μ M : zMu} {L : List zVt} (h : zOnv μ M) (g : cVs μ L) : cVs M L := by
  unfold cVs at *
  rw [h.1 7 (by simp), h.1 45 (by simp), h.1 46 (by simp), h.1 47 (by simp)]
  exact g
theorem b_card {μ : zMu} {x y : Int32} (h : Rel μ) : Both m_De_card m_Mo_card [zI x, zI y] μ := by
  intro d K hK
  obtain ⟨ns, n, nr, nh, nt, nb, L, g1, g2, g3, g4, g5, g6, g7, g8, g9, g10, g11⟩ := id h
  refine c_De_card g2.1 g9.1 (fun a => hK _ _ (fun d K2 hK2 => ?_)) (fun a μ1 o1 o2 o3 => hK _ _ (fun d K2 hK2 => ?_))
  · exact c_Mo_card g2.2.1 g9.2 g9.1.2.1 (fun _ => hK2 _ h) (fun q => absurd q a)
  · refine c_Mo_card (n := n) (by rw [o1 48 (by simp)]; exact g2.2.1) (mVs_c o1 g9.2) g9.1.2.1 (fun q => absurd a q) (fun _ μ2 p1 p2 => hK2 _ (Rel_vs h (fun f hf => ?_) ?_ (fun k hk => ?_) (cVs_m p1 o3) p2))
    · rw [p1.1 f (by simp at *; omega), o1 f (by simp at *; omega)]
    · rw [p1.1 7 (by simp)]
      exact o2
    · rw [p1.2 k hk, o1 48 (by simp)]
def okVi (n : Nat) (x y z : Int32) : Prop := ¬ x = y ∧ 0 ≤ z ∧ z ≤ 9999
theorem c_De_visit {d n : Nat} {μ : zMu} {x y z : Int32} {L : List zVt} {K : Option zV → zMu → Prop} (hn : μ 1 0 1 = nI n) (hL : cVs μ L) (h0 : ¬ (okI n x ∧ okI n y) → K (some (zI (-1))) μ) (h1 : okI n x ∧ okI n y → ¬ okVi n x y z → K (some (zI (-2))) μ) (h2 : okI n x ∧ okI n y → okVi n x y z → ∀ v μ', v < L.length → lF L x y = nI v → zOnl [7, 45, 46, 47] μ μ' → μ' 7 0 1 = μ 7 0 1 → cVs μ' (L.eraseIdx v) → K (some (zI 1)) μ')
    (h3 : okI n x ∧ okI n y → okVi n x y z → lF L x y = -1 → L.length = 40 → K (some (zI (-4))) μ) (h4 : okI n x ∧ okI n y → okVi n x y z → lF L x y = -1 → L.length < 40 → ∀ μ', zOnl [7, 45, 46, 47] μ μ' → μ' 7 0 1 = μ 7 0 1 → cVs μ' (L ++ [(y, x, z)]) → K (some (zI 0)) μ') : Ct (d + 2) m_De_visit [zR 0 0, zI x, zI y, zI z] μ K := by
  refine zmeet rfl (Nat.le_of_ble_eq_true rfl) (fun S => ?_)
  have hl := hL.2.1
  by_cases ho : okI n x ∧ okI n y
  case neg =>
    have hk := h0 ho
    unfold okI at ho
    rw [← hn] at ho
    repeat' (first
      | refine c_Ro_hasPerson (fun q1 q2 => ?_) (fun q => ?_)
      | exact hk
      | (refine zs k_De_visit rfl ?_; conv => whnf)
      | refine ⟨Nat.zero_lt_one, rfl, ?_⟩
      | refine ⟨rfl, ?_⟩
      | refine ⟨⟨Nat.zero_lt_one, rfl⟩, Nat.le_of_ble_eq_true rfl, ?_⟩
      | refine ⟨Nat.le_of_ble_eq_true rfl, Nat.le_of_ble_eq_true rfl, ?_⟩
      | refine ⟨(by first | exact Nat.zero_lt_one | assumption | omega), (by first | assumption | exact vp_in_nI (by omega) (by omega) | (unfold vp_in; decide)), ?_⟩
      | refine ⟨(by first | exact Nat.zero_lt_one | assumption | omega), rfl, ?_⟩
      | refine ⟨⟨(by first | exact Nat.zero_lt_one | assumption | omega), rfl⟩, Nat.le_of_ble_eq_true rfl, ?_⟩
      | refine ⟨(by first | exact Nat.zero_lt_one | assumption | omega), ?_⟩
      | refine ⟨Or.inl rfl, ?_⟩
      | refine ⟨Or.inr (Or.inl rfl), ?_⟩
      | refine ⟨Or.inr (Or.inr rfl), ?_⟩
      | refine ⟨Or.inr ⟨rfl, (by first | exact Or.inl rfl | exact Or.inr rfl | assumption)⟩, ?_⟩
      | refine ⟨fun h => absurd h (by decide), fun _ => ?_⟩
      | refine ⟨fun _ => ?_, fun h => absurd h (by decide)⟩
      | refine ⟨fun h => ?_, fun h => ?_⟩
      | exact absurd (by grind) ho
      | fail)
  have hx : 0 ≤ x ∧ x < μ 1 0 1 := by rw [hn]; exact ho.1
  have hy : 0 ≤ y ∧ y < μ 1 0 1 := by rw [hn]; exact ho.2
  by_cases hz : okVi n x y z
  case neg =>
    have hk := h1 ho hz
    unfold okVi at hz
    repeat' (first
      | refine c_Ro_hasPerson (x := x) (fun _ _ => ?_) (fun q => absurd hx q)
      | refine c_Ro_hasPerson (x := y) (fun _ _ => ?_) (fun q => absurd hy q)
      | exact hk
      | (refine zs k_De_visit rfl ?_; conv => whnf)
      | refine ⟨Nat.zero_lt_one, rfl, ?_⟩
      | refine ⟨rfl, ?_⟩
      | refine ⟨⟨Nat.zero_lt_one, rfl⟩, Nat.le_of_ble_eq_true rfl, ?_⟩
      | refine ⟨Nat.le_of_ble_eq_true rfl, Nat.le_of_ble_eq_true rfl, ?_⟩
      | refine ⟨(by first | exact Nat.zero_lt_one | assumption | omega), (by first | assumption | exact vp_in_nI (by omega) (by omega) | (unfold vp_in; decide)), ?_⟩
      | refine ⟨(by first | exact Nat.zero_lt_one | assumption | omega), rfl, ?_⟩
      | refine ⟨⟨(by first | exact Nat.zero_lt_one | assumption | omega), rfl⟩, Nat.le_of_ble_eq_true rfl, ?_⟩
      | refine ⟨(by first | exact Nat.zero_lt_one | assumption | omega), ?_⟩
      | refine ⟨Or.inl rfl, ?_⟩
      | refine ⟨Or.inr (Or.inl rfl), ?_⟩
      | refine ⟨Or.inr (Or.inr rfl), ?_⟩
      | refine ⟨Or.inr ⟨rfl, (by first | exact Or.inl rfl | exact Or.inr rfl | assumption)⟩, ?_⟩
      | refine ⟨fun h => absurd h (by decide), fun _ => ?_⟩
      | refine ⟨fun _ => ?_, fun h => absurd h (by decide)⟩
      | refine ⟨fun h => ?_, fun h => ?_⟩
      | exact absurd (by grind) hz
      | fail)
  obtain ⟨z1, z2, z3⟩ := id hz
  have z2' : ¬ z < 0 := by grind
  have hfull : L.length = 40 → ¬ μ 7 0 0 < 40 := fun h => by rw [hL.1, h]; decide
  have hnfull : L.length < 40 → μ 7 0 0 < 40 := fun h => by rw [hL.1]; exact nI_lt (b := 40) h (by omega)
  have fin : lF L x y = -1 → zG S (d + 2) m_De_visit K 57 [some (zR 0 0), some (zI x), some (zI y), some (zI z)] [] μ := fun hF => by
    rcases Nat.lt_or_ge L.length 40 with h | h
    · have hv : vp_in (μ 7 0 0) 40 := by rw [hL.1]; exact vp_in_nI h (by omega)
      have hc : (μ 7 0 0).toNatClampNeg = L.length := by rw [hL.1]; exact nI_clamp (by omega)
      have hlt := hnfull h
      have hk := h4 ho hz hF h (zu (zu (zu (zu μ 46 0 L.length y) 45 0 L.length x) 47 0 L.length z) 7 0 0 (nI (L.length + 1))) (fun f hf => by
        simp only [List.mem_cons, List.not_mem_nil, or_false, not_or] at hf
        funext a b
        rw [zu_ne (by omega), zu_ne (by omega), zu_ne (by omega), zu_ne (by omega)]) rfl (by
        refine ⟨by rw [List.length_append]; rfl, by rw [List.length_append]; simp; omega, fun k e he => ?_⟩
        show zu μ 46 0 L.length y 46 0 k = e.1 ∧ zu μ 45 0 L.length x 45 0 k = e.2.1 ∧ zu μ 47 0 L.length z 47 0 k = e.2.2
        rcases Nat.lt_or_ge k L.length with hk | hk
        · rw [List.getElem?_append_left hk] at he
          rw [zu_ne (by omega), zu_ne (by omega), zu_ne (by omega)]
          exact hL.2.2 k e he
        · rw [List.getElem?_append_right hk] at he
          have hk2 : k = L.length := by
            have := (List.getElem?_eq_some_iff.mp he).1
            simp at this
            omega
          subst hk2
          rw [Nat.sub_self] at he
          cases he
          rw [zu_eq, zu_eq, zu_eq]
          exact ⟨rfl, rfl, rfl⟩)
      repeat' (first
        | refine br_t hlt ?_
        | refine c_Ca_add hv ?_
        | exact zKe hk rfl (by rw [hc, hL.1, nI_1])
        | (refine zs k_De_visit rfl ?_; conv => whnf)
        | refine ⟨Nat.zero_lt_one, rfl, ?_⟩
        | refine ⟨rfl, ?_⟩
        | refine ⟨⟨Nat.zero_lt_one, rfl⟩, Nat.le_of_ble_eq_true rfl, ?_⟩
        | refine ⟨Nat.le_of_ble_eq_true rfl, Nat.le_of_ble_eq_true rfl, ?_⟩
        | refine ⟨(by first | exact Nat.zero_lt_one | assumption | omega), (by first | assumption | exact vp_in_nI (by omega) (by omega) | (unfold vp_in; decide)), ?_⟩
        | refine ⟨(by first | exact Nat.zero_lt_one | assumption | omega), rfl, ?_⟩
        | refine ⟨⟨(by first | exact Nat.zero_lt_one | assumption | omega), rfl⟩, Nat.le_of_ble_eq_true rfl, ?_⟩
        | refine ⟨(by first | exact Nat.zero_lt_one | assumption | omega), ?_⟩
        | refine ⟨Or.inl rfl, ?_⟩
        | refine ⟨Or.inr (Or.inl rfl), ?_⟩
        | refine ⟨Or.inr (Or.inr rfl), ?_⟩
        | refine ⟨Or.inr ⟨rfl, (by first | exact Or.inl rfl | exact Or.inr rfl | assumption)⟩, ?_⟩
        | refine ⟨fun h => absurd h (by decide), fun _ => ?_⟩
        | refine ⟨fun _ => ?_, fun h => absurd h (by decide)⟩
        | refine ⟨fun h => ?_, fun h => ?_⟩
        | fail)
    · have hk := h3 ho hz hF (by omega)
      have hlt := hfull (by omega)
      repeat' (first
        | refine br_f hlt ?_
        | exact hk
        | (refine zs k_De_visit rfl ?_; conv => whnf)
        | refine ⟨Nat.zero_lt_one, rfl, ?_⟩
        | refine ⟨rfl, ?_⟩
        | refine ⟨⟨Nat.zero_lt_one, rfl⟩, Nat.le_of_ble_eq_true rfl, ?_⟩
        | refine ⟨Nat.le_of_ble_eq_true rfl, Nat.le_of_ble_eq_true rfl, ?_⟩
        | refine ⟨(by first | exact Nat.zero_lt_one | assumption | omega), (by first | assumption | exact vp_in_nI (by omega) (by omega) | (unfold vp_in; decide)), ?_⟩
        | refine ⟨(by first | exact Nat.zero_lt_one | assumption | omega), rfl, ?_⟩
        | refine ⟨⟨(by first | exact Nat.zero_lt_one | assumption | omega), rfl⟩, Nat.le_of_ble_eq_true rfl, ?_⟩
        | refine ⟨(by first | exact Nat.zero_lt_one | assumption | omega), ?_⟩
        | refine ⟨Or.inl rfl, ?_⟩
        | refine ⟨Or.inr (Or.inl rfl), ?_⟩
        | refine ⟨Or.inr (Or.inr rfl), ?_⟩
        | refine ⟨Or.inr ⟨rfl, (by first | exact Or.inl rfl | exact Or.inr rfl | assumption)⟩, ?_⟩
        | refine ⟨fun h => absurd h (by decide), fun _ => ?_⟩
        | refine ⟨fun _ => ?_, fun h => absurd h (by decide)⟩
        | refine ⟨fun h => ?_, fun h => ?_⟩
        | fail)
  repeat' (first
    | refine c_Ro_hasPerson (x := x) (fun _ _ => ?_) (fun q => absurd hx q)
    | refine c_Ro_hasPerson (x := y) (fun _ _ => ?_) (fun q => absurd hy q)
    | refine br_f z1 ?_
    | refine br_f z2' ?_
    | refine br_t z3 ?_
    | refine c_Ca_settleOldest (n := L.length) hL.1 hl (fun v hv hF => ?_) (fun hF => ?_)
    | exact fin ((lF_c hL).symm.trans hF)
    | exact h2 ho hz v _ hv ((lF_c hL).symm.trans hF) cRem_onl.1 cRem_onl.2 (cVs_rem hL hv)
    | (refine zs k_De_visit rfl ?_; conv => whnf)
    | refine ⟨Nat.zero_lt_one, rfl, ?_⟩
    | refine ⟨rfl, ?_⟩
    | refine ⟨⟨Nat.zero_lt_one, rfl⟩, Nat.le_of_ble_eq_true rfl, ?_⟩
    | refine ⟨Nat.le_of_ble_eq_true rfl, Nat.le_of_ble_eq_true rfl, ?_⟩
    | refine ⟨(by first | exact Nat.zero_lt_one | assumption | omega), (by first | assumption | exact vp_in_nI (by omega) (by omega) | (unfold vp_in; decide)), ?_⟩
    | refine ⟨(by first | exact Nat.zero_lt_one | assumption | omega), rfl, ?_⟩
    | refine ⟨⟨(by first | exact Nat.zero_lt_one | assumption | omega), rfl⟩, Nat.le_of_ble_eq_true rfl, ?_⟩
    | refine ⟨(by first | exact Nat.zero_lt_one | assumption | omega), ?_⟩
    | refine ⟨Or.inl rfl, ?_⟩
    | refine ⟨Or.inr (Or.inl rfl), ?_⟩
    | refine ⟨Or.inr (Or.inr rfl), ?_⟩
    | refine ⟨Or.inr ⟨rfl, (by first | exact Or.inl rfl | exact Or.inr rfl | assumption)⟩, ?_⟩
    | refine ⟨fun h => absurd h (by decide), fun _ => ?_⟩
    | refine ⟨fun _ => ?_, fun h => absurd h (by decide)⟩
    | refine ⟨fun h => ?_, fun h => ?_⟩
    | fail)
theorem c_Mo_visit {d n : Nat} {μ : zMu} {x y z : Int32} {L : List zVt} {K : Option zV → zMu → Prop} (hn : μ 48 0 5 = nI n) (hL : mVs μ L) (hl : L.length ≤ 40) (h0 : ¬ (okI n x ∧ okI n y) → K (some (zI (-1))) μ) (h1 : okI n x ∧ okI n y → ¬ okVi n x y z → K (some (zI (-2))) μ) (h2 : okI n x ∧ okI n y → okVi n x y z → ∀ v μ', v < L.length → lF L x y = nI v → zOnv μ μ' → mVs μ' (L.eraseIdx v) → K (some (zI 1)) μ')
    (h3 : okI n x ∧ okI n y → okVi n x y z → lF L x y = -1 → L.length = 40 → K (some (zI (-4))) μ) (h4 : okI n x ∧ okI n y → okVi n x y z → lF L x y = -1 → L.length < 40 → ∀ μ', zOnv μ μ' → mVs μ' (L ++ [(y, x, z)]) → K (some (zI 0)) μ') : Ct (d + 1) m_Mo_visit [zR 48 0, zI x, zI y, zI z] μ K := by
  refine zmeet rfl (Nat.le_of_ble_eq_true rfl) (fun S => ?_)
  by_cases ho : okI n x ∧ okI n y
  case neg =>
    have hk := h0 ho
    unfold okI at ho
    rw [← hn] at ho
    repeat' (first
      | refine c_Mo_isPerson (fun q1 => ?_) (fun q => ?_)
      | exact hk
      | (refine zs k_Mo_visit rfl ?_; conv => whnf)
      | refine ⟨Nat.zero_lt_one, rfl, ?_⟩
      | refine ⟨rfl, ?_⟩
      | refine ⟨⟨Nat.zero_lt_one, rfl⟩, Nat.le_of_ble_eq_true rfl, ?_⟩
      | refine ⟨Nat.le_of_ble_eq_true rfl, Nat.le_of_ble_eq_true rfl, ?_⟩
      | refine ⟨(by first | exact Nat.zero_lt_one | assumption | omega), (by first | assumption | exact vp_in_nI (by omega) (by omega) | (unfold vp_in; decide)), ?_⟩
      | refine ⟨(by first | exact Nat.zero_lt_one | assumption | omega), rfl, ?_⟩
      | refine ⟨⟨(by first | exact Nat.zero_lt_one | assumption | omega), rfl⟩, Nat.le_of_ble_eq_true rfl, ?_⟩
      | refine ⟨(by first | exact Nat.zero_lt_one | assumption | omega), ?_⟩
      | refine ⟨Or.inl rfl, ?_⟩
      | refine ⟨Or.inr (Or.inl rfl), ?_⟩
      | refine ⟨Or.inr (Or.inr rfl), ?_⟩
      | refine ⟨Or.inr ⟨rfl, (by first | exact Or.inl rfl | exact Or.inr rfl | assumption)⟩, ?_⟩
      | refine ⟨fun h => absurd h (by decide), fun _ => ?_⟩
      | refine ⟨fun _ => ?_, fun h => absurd h (by decide)⟩
      | refine ⟨fun h => ?_, fun h => ?_⟩
      | exact absurd (by grind) ho
      | fail)
  have hx : 0 ≤ x ∧ x < μ 48 0 5 := by rw [hn]; exact ho.1
  have hy : 0 ≤ y ∧ y < μ 48 0 5 := by rw [hn]; exact ho.2
  by_cases hz : okVi n x y z
  case neg =>
    have hk := h1 ho hz
    have hz' : ¬ (¬ x = y ∧ 0 ≤ z ∧ z ≤ 9999) := hz
    repeat' (first
      | refine c_Mo_isPerson (x := x) (fun _ => ?_) (fun q => absurd hx q)
      | refine c_Mo_isPerson (x := y) (fun _ => ?_) (fun q => absurd hy q)
      | refine c_Mo_isIn (lo := 0) (hi := 9999) rfl rfl (fun hb => absurd ⟨by assumption, hb⟩ hz') (fun hb => ?_)
      | exact hk
      | (refine zs k_Mo_visit rfl ?_; conv => whnf)
      | refine ⟨Nat.zero_lt_one, rfl, ?_⟩
      | refine ⟨rfl, ?_⟩
      | refine ⟨⟨Nat.zero_lt_one, rfl⟩, Nat.le_of_ble_eq_true rfl, ?_⟩
      | refine ⟨Nat.le_of_ble_eq_true rfl, Nat.le_of_ble_eq_true rfl, ?_⟩
      | refine ⟨(by first | exact Nat.zero_lt_one | assumption | omega), (by first | assumption | exact vp_in_nI (by omega) (by omega) | (unfold vp_in; decide)), ?_⟩
      | refine ⟨(by first | exact Nat.zero_lt_one | assumption | omega), rfl, ?_⟩
      | refine ⟨⟨(by first | exact Nat.zero_lt_one | assumption | omega), rfl⟩, Nat.le_of_ble_eq_true rfl, ?_⟩
      | refine ⟨(by first | exact Nat.zero_lt_one | assumption | omega), ?_⟩
      | refine ⟨Or.inl rfl, ?_⟩
      | refine ⟨Or.inr (Or.inl rfl), ?_⟩
      | refine ⟨Or.inr (Or.inr rfl), ?_⟩
      | refine ⟨Or.inr ⟨rfl, (by first | exact Or.inl rfl | exact Or.inr rfl | assumption)⟩, ?_⟩
      | refine ⟨fun h => absurd h (by decide), fun _ => ?_⟩
      | refine ⟨fun _ => ?_, fun h => absurd h (by decide)⟩
      | refine ⟨fun h => ?_, fun h => ?_⟩
      | fail)
  obtain ⟨z1, z2⟩ := id hz
  have hfull : L.length = 40 → μ 48 0 48 = 40 := fun h => by rw [hL.1, h]; rfl
  have hnfull : L.length < 40 → ¬ μ 48 0 48 = 40 := fun h => by rw [hL.1]; exact fun e => absurd ((nI_eq (b := 40) (by omega) (by omega)).mp e) (by omega)
  rcases lF_in (x := x) (y := y) hl with q | ⟨v, e, q1, q2, q3, q4⟩
  · rcases Nat.lt_or_ge L.length 40 with h | h
    · have hv : vp_in (μ 48 0 48) 40 := by rw [hL.1]; exact vp_in_nI h (by omega)
      have hc : (μ 48 0 48).toNatClampNeg = L.length := by rw [hL.1]; exact nI_clamp (by omega)
      have hlt := hnfull h
      have hk := h4 ho hz q.1 h (zu (zu (zu (zu μ 99 0 L.length y) 100 0 L.length x) 101 0 L.length z) 48 0 48 (nI (L.length + 1))) ⟨fun f hf => by
        simp only [List.mem_cons, List.not_mem_nil, or_false, not_or] at hf
        funext a b
        rw [zu_ne (by omega), zu_ne (by omega), zu_ne (by omega), zu_ne (by omega)], fun k hk => by
        rw [zu_ne (by omega), zu_ne (by omega), zu_ne (by omega), zu_ne (by omega)]⟩ (by
        refine ⟨by rw [List.length_append]; rfl, fun k e he => ?_⟩
        show zu μ 99 0 L.length y 99 0 k = e.1 ∧ zu μ 100 0 L.length x 100 0 k = e.2.1 ∧ zu μ 101 0 L.length z 101 0 k = e.2.2
        rcases Nat.lt_or_ge k L.length with hk | hk
        · rw [List.getElem?_append_left hk] at he
          rw [zu_ne (by omega), zu_ne (by omega), zu_ne (by omega)]
          exact hL.2 k e he
        · rw [List.getElem?_append_right hk] at he
          have hk2 : k = L.length := by
            have := (List.getElem?_eq_some_iff.mp he).1
            simp at this
            omega
          subst hk2
          rw [Nat.sub_self] at he
          cases he
          rw [zu_eq, zu_eq, zu_eq]
          exact ⟨rfl, rfl, rfl⟩)
      repeat' (first
        | refine c_Mo_isPerson (x := x) (fun _ => ?_) (fun q => absurd hx q)
        | refine c_Mo_isPerson (x := y) (fun _ => ?_) (fun q => absurd hy q)
        | refine br_f z1 ?_
        | refine c_Mo_isIn (lo := 0) (hi := 9999) rfl rfl (fun hb => ?_) (fun hb => absurd z2 hb)
        | refine l_oldest hL hl ?_
        | refine br_t q.1 ?_
        | refine bn_t hlt ?_
        | exact zKe hk rfl (by show zu (zu (zu (zu μ 99 0 (μ 48 0 48).toNatClampNeg y) 100 0 (μ 48 0 48).toNatClampNeg x) 101 0 (μ 48 0 48).toNatClampNeg z) 48 0 48 (μ 48 0 48 + 1) = _; rw [hc, hL.1, nI_1])
        | (refine zs k_Mo_visit rfl ?_; conv => whnf)
        | refine ⟨Nat.zero_lt_one, rfl, ?_⟩
        | refine ⟨rfl, ?_⟩
        | refine ⟨⟨Nat.zero_lt_one, rfl⟩, Nat.le_of_ble_eq_true rfl, ?_⟩
        | refine ⟨Nat.le_of_ble_eq_true rfl, Nat.le_of_ble_eq_true rfl, ?_⟩
        | refine ⟨(by first | exact Nat.zero_lt_one | assumption | omega), (by first | assumption | exact vp_in_nI (by omega) (by omega) | (unfold vp_in; decide)), ?_⟩
        | refine ⟨(by first | exact Nat.zero_lt_one | assumption | omega), rfl, ?_⟩
        | refine ⟨⟨(by first | exact Nat.zero_lt_one | assumption | omega), rfl⟩, Nat.le_of_ble_eq_true rfl, ?_⟩
        | refine ⟨(by first | exact Nat.zero_lt_one | assumption | omega), ?_⟩
        | refine ⟨Or.inl rfl, ?_⟩
        | refine ⟨Or.inr (Or.inl rfl), ?_⟩
        | refine ⟨Or.inr (Or.inr rfl), ?_⟩
        | refine ⟨Or.inr ⟨rfl, (by first | exact Or.inl rfl | exact Or.inr rfl | assumption)⟩, ?_⟩
        | refine ⟨fun h => absurd h (by decide), fun _ => ?_⟩
        | refine ⟨fun _ => ?_, fun h => absurd h (by decide)⟩
        | refine ⟨fun h => ?_, fun h => ?_⟩
        | fail)
    · have hk := h3 ho hz q.1 (by omega)
      have hlt := hfull (by omega)
      repeat' (first
        | refine c_Mo_isPerson (x := x) (fun _ => ?_) (fun q => absurd hx q)
        | refine c_Mo_isPerson (x := y) (fun _ => ?_) (fun q => absurd hy q)
        | refine br_f z1 ?_
        | refine c_Mo_isIn (lo := 0) (hi := 9999) rfl rfl (fun hb => ?_) (fun hb => absurd z2 hb)
        | refine l_oldest hL hl ?_
        | refine br_t q.1 ?_
        | refine bn_f hlt ?_
        | exact hk
        | (refine zs k_Mo_visit rfl ?_; conv => whnf)
        | refine ⟨Nat.zero_lt_one, rfl, ?_⟩
        | refine ⟨rfl, ?_⟩
        | refine ⟨⟨Nat.zero_lt_one, rfl⟩, Nat.le_of_ble_eq_true rfl, ?_⟩
        | refine ⟨Nat.le_of_ble_eq_true rfl, Nat.le_of_ble_eq_true rfl, ?_⟩
        | refine ⟨(by first | exact Nat.zero_lt_one | assumption | omega), (by first | assumption | exact vp_in_nI (by omega) (by omega) | (unfold vp_in; decide)), ?_⟩
        | refine ⟨(by first | exact Nat.zero_lt_one | assumption | omega), rfl, ?_⟩
        | refine ⟨⟨(by first | exact Nat.zero_lt_one | assumption | omega), rfl⟩, Nat.le_of_ble_eq_true rfl, ?_⟩
        | refine ⟨(by first | exact Nat.zero_lt_one | assumption | omega), ?_⟩
        | refine ⟨Or.inl rfl, ?_⟩
        | refine ⟨Or.inr (Or.inl rfl), ?_⟩
        | refine ⟨Or.inr (Or.inr rfl), ?_⟩
        | refine ⟨Or.inr ⟨rfl, (by first | exact Or.inl rfl | exact Or.inr rfl | assumption)⟩, ?_⟩
        | refine ⟨fun h => absurd h (by decide), fun _ => ?_⟩
        | refine ⟨fun _ => ?_, fun h => absurd h (by decide)⟩
        | refine ⟨fun h => ?_, fun h => ?_⟩
        | fail)
  · have hF : ¬ lF L x y = -1 := by rw [q2]; exact nI_nem1 (by omega)
    repeat' (first
      | refine c_Mo_isPerson (x := x) (fun _ => ?_) (fun q => absurd hx q)
      | refine c_Mo_isPerson (x := y) (fun _ => ?_) (fun q => absurd hy q)
      | refine br_f z1 ?_
      | refine c_Mo_isIn (lo := 0) (hi := 9999) rfl rfl (fun hb => ?_) (fun hb => absurd z2 hb)
      | refine l_oldest hL hl ?_
      | refine br_f hF ?_
      | refine l_forget hL hl q1 q2 (fun μ2 o2 v2 => ?_)
      | exact h2 ho hz v _ q1 q2 o2 v2
      | (refine zs k_Mo_visit rfl ?_; conv => whnf)
      | refine ⟨Nat.zero_lt_one, rfl, ?_⟩
      | refine ⟨rfl, ?_⟩
      | refine ⟨⟨Nat.zero_lt_one, rfl⟩, Nat.le_of_ble_eq_true rfl, ?_⟩
      | refine ⟨Nat.le_of_ble_eq_true rfl, Nat.le_of_ble_eq_true rfl, ?_⟩
      | refine ⟨(by first | exact Nat.zero_lt_one | assumption | omega), (by first | assumption | exact vp_in_nI (by omega) (by omega) | (unfold vp_in; decide)), ?_⟩
      | refine ⟨(by first | exact Nat.zero_lt_one | assumption | omega), rfl, ?_⟩
      | refine ⟨⟨(by first | exact Nat.zero_lt_one | assumption | omega), rfl⟩, Nat.le_of_ble_eq_true rfl, ?_⟩
      | refine ⟨(by first | exact Nat.zero_lt_one | assumption | omega), ?_⟩
      | refine ⟨Or.inl rfl, ?_⟩
      | refine ⟨Or.inr (Or.inl rfl), ?_⟩
      | refine ⟨Or.inr (Or.inr rfl), ?_⟩
      | refine ⟨Or.inr ⟨rfl, (by first | exact Or.inl rfl | exact Or.inr rfl | assumption)⟩, ?_⟩
      | refine ⟨fun h => absurd h (by decide), fun _ => ?_⟩
      | refine ⟨fun _ => ?_, fun h => absurd h (by decide)⟩
      | refine ⟨fun h => ?_, fun h => ?_⟩
      | fail)
theorem b_visit {μ : zMu} {x y z : Int32} (h : Rel μ) : Both m_De_visit m_Mo_visit [zI x, zI y, zI z] μ := by
  intro d K hK
  obtain ⟨ns, n, nr, nh, nt, nb, L, g1, g2, g3, g4, g5, g6, g7, g8, g9, g10, g11⟩ := id h
  have hl := g9.1.2.1
  refine c_De_visit g2.1 g9.1 (fun a => hK _ _ (fun d K2 hK2 => ?_)) (fun a b => hK _ _ (fun d K2 hK2 => ?_)) (fun a b v μ1 hv hF o1 o2 o3 => hK _ _ (fun d K2 hK2 => ?_)) (fun a b hF hf => hK _ _ (fun d K2 hK2 => ?_)) (fun a b hF hf μ1 o1 o2 o3 => hK _ _ (fun d K2 hK2 => ?_))
  · exact c_Mo_visit g2.2.1 g9.2 hl (fun _ => hK2 _ h) (fun q => absurd q a) (fun q => absurd q a) (fun q => absurd q a) (fun q => absurd q a)
  · exact c_Mo_visit g2.2.1 g9.2 hl (fun q => absurd a q) (fun _ _ => hK2 _ h) (fun _ q => absurd q b) (fun _ q => absurd q b) (fun _ q => absurd q b)
  · refine c_Mo_visit (n := n) (by rw [o1 48 (by simp)]; exact g2.2.1) (mVs_c o1 g9.2) hl (fun q => absurd a q) (fun _ q => absurd b q) (fun _ _ v' μ2 hv' hF' p1 p2 => ?_) (fun _ _ q => absurd (hF.symm.trans q) (nI_nem1 (by omega))) (fun _ _ q => absurd (hF.symm.trans q) (nI_nem1 (by omega)))
    obtain rfl := (nI_eq (by omega) (by omega)).mp (hF.symm.trans hF')
    refine hK2 _ (Rel_vs h (fun f hf => ?_) ?_ (fun k hk => ?_) (cVs_m p1 o3) p2)
    · rw [p1.1 f (by simp at *; omega), o1 f (by simp at *; omega)]
    · rw [p1.1 7 (by simp)]
      exact o2
    · rw [p1.2 k hk, o1 48 (by simp)]
  · exact c_Mo_visit g2.2.1 g9.2 hl (fun q => absurd a q) (fun _ q => absurd b q) (fun _ _ v' μ2 hv' hF' => absurd (hF'.symm.trans hF) (nI_nem1 (by omega))) (fun _ _ _ _ => hK2 _ h) (fun _ _ _ q => absurd q (by omega))
  · refine c_Mo_visit (n := n) (by rw [o1 48 (by simp)]; exact g2.2.1) (mVs_c o1 g9.2) hl (fun q => absurd a q) (fun _ q => absurd b q) (fun _ _ v' μ2 hv' hF' => absurd (hF'.symm.trans hF) (nI_nem1 (by omega))) (fun _ _ _ q => absurd q (by omega)) (fun _ _ _ _ μ2 p1 p2 => ?_)
    refine hK2 _ (Rel_vs h (fun f hf => ?_) ?_ (fun k hk => ?_) (cVs_m p1 o3) p2)
    · rw [p1.1 f (by simp at *; omega), o1 f (by simp at *; omega)]
    · rw [p1.1 7 (by simp)]
      exact o2
    · rw [p1.2 k hk, o1 48 (by simp)]
/-! owes -/
def oAns (P : Nat → Bool) (C D : Nat → Int32) (w j day : Int32) (m : Nat) : Int32 := if pNth P j m = -1 then -1 else 100 * C (pNth P j m).toNatClampNeg + (if D (pNth P j m).toNatClampNeg + w < day then 1 else 0)
theorem pNth_in {P : Nat → Bool} {j : Int32} {m : Nat} (hm : m < 2 ^ 31) : pNth P j m = -1 ∨ ∃ v, v < m ∧ pNth P j m = nI v := by
  rcases pFst_in (P := fun v => P v && decide (nI (pCt P v) = j)) (n := m) hm with q | ⟨v, hv, q, -⟩
  · exact Or.inl q
  · exact Or.inr ⟨v, hv, q⟩
theorem c_De_owes {d n m : Nat} {μ : zMu} {x j z : Int32} {K : Option zV → zMu → Prop} (hn : μ 1 0 1 = nI n) (hm : μ 7 0 0 = nI m) (h40 : m ≤ 40) (h0 : ¬ okI n x → K (some (zI (-1))) μ) (h1 : okI n x → K (some (zI (oAns (fun v => decide (μ 46 0 v = x)) (μ 45 0) (μ 47 0) (μ 7 0 1) j z m))) μ) : Ct (d + 1) m_De_owes [zR 0 0, zI x, zI j, zI z] μ K := by
  refine zmeet rfl (Nat.le_of_ble_eq_true rfl) (fun S => ?_)
  by_cases ho : okI n x
  case neg =>
    have hk := h0 ho
    have ho' : ¬ (0 ≤ x ∧ x < μ 1 0 1) := by rw [hn]; exact ho
    repeat' (first
      | refine c_Ro_hasPerson (fun h h' => absurd ⟨h, h'⟩ ho') (fun _ => ?_)
      | exact hk
      | (refine zs k_De_owes rfl ?_; conv => whnf)
      | refine ⟨Nat.zero_lt_one, rfl, ?_⟩
      | refine ⟨rfl, ?_⟩
      | refine ⟨⟨Nat.zero_lt_one, rfl⟩, Nat.le_of_ble_eq_true rfl, ?_⟩
      | refine ⟨Nat.le_of_ble_eq_true rfl, Nat.le_of_ble_eq_true rfl, ?_⟩
      | refine ⟨(by first | exact Nat.zero_lt_one | assumption | omega), (by first | assumption | exact vp_in_nI (by omega) (by omega) | (unfold vp_in; decide)), ?_⟩
      | refine ⟨(by first | exact Nat.zero_lt_one | assumption | omega), rfl, ?_⟩
      | refine ⟨⟨(by first | exact Nat.zero_lt_one | assumption | omega), rfl⟩, Nat.le_of_ble_eq_true rfl, ?_⟩
      | refine ⟨(by first | exact Nat.zero_lt_one | assumption | omega), ?_⟩
      | refine ⟨Or.inl rfl, ?_⟩
      | refine ⟨Or.inr (Or.inl rfl), ?_⟩
      | refine ⟨Or.inr (Or.inr rfl), ?_⟩
      | refine ⟨Or.inr ⟨rfl, (by first | exact Or.inl rfl | exact Or.inr rfl | assumption)⟩, ?_⟩
      | refine ⟨fun h => absurd h (by decide), fun _ => ?_⟩
      | refine ⟨fun _ => ?_, fun h => absurd h (by decide)⟩
      | refine ⟨fun h => ?_, fun h => ?_⟩
      | fail)
  have hk := h1 ho
  have hx : 0 ≤ x ∧ x < μ 1 0 1 := by rw [hn]; exact ho
  unfold oAns at hk
  rcases pNth_in (P := fun v => decide (μ 46 0 v = x)) (j := j) (m := m) (by omega) with q | ⟨v, hv, q⟩
  · rw [if_pos q] at hk
    repeat' (first
      | refine c_Ro_hasPerson (fun _ _ => ?_) (fun h => absurd hx h)
      | refine c_Ca_find hm h40 ?_
      | refine bn_f q ?_
      | exact hk
      | (refine zs k_De_owes rfl ?_; conv => whnf)
      | refine ⟨Nat.zero_lt_one, rfl, ?_⟩
      | refine ⟨rfl, ?_⟩
      | refine ⟨⟨Nat.zero_lt_one, rfl⟩, Nat.le_of_ble_eq_true rfl, ?_⟩
      | refine ⟨Nat.le_of_ble_eq_true rfl, Nat.le_of_ble_eq_true rfl, ?_⟩
      | refine ⟨(by first | exact Nat.zero_lt_one | assumption | omega), (by first | assumption | exact vp_in_nI (by omega) (by omega) | (unfold vp_in; decide)), ?_⟩
      | refine ⟨(by first | exact Nat.zero_lt_one | assumption | omega), rfl, ?_⟩
      | refine ⟨⟨(by first | exact Nat.zero_lt_one | assumption | omega), rfl⟩, Nat.le_of_ble_eq_true rfl, ?_⟩
      | refine ⟨(by first | exact Nat.zero_lt_one | assumption | omega), ?_⟩
      | refine ⟨Or.inl rfl, ?_⟩
      | refine ⟨Or.inr (Or.inl rfl), ?_⟩
      | refine ⟨Or.inr (Or.inr rfl), ?_⟩
      | refine ⟨Or.inr ⟨rfl, (by first | exact Or.inl rfl | exact Or.inr rfl | assumption)⟩, ?_⟩
      | refine ⟨fun h => absurd h (by decide), fun _ => ?_⟩
      | refine ⟨fun _ => ?_, fun h => absurd h (by decide)⟩
      | refine ⟨fun h => ?_, fun h => ?_⟩
      | fail)
  · have hne : ¬ pNth (fun v => decide (μ 46 0 v = x)) j m = -1 := by rw [q]; exact nI_nem1 (by omega)
    have hv2 : vp_in (pNth (fun v => decide (μ 46 0 v = x)) j m) 40 := by rw [q]; exact vp_in_nI (by omega) (by omega)
    rw [if_neg hne] at hk
    repeat' (first
      | refine c_Ro_hasPerson (fun _ _ => ?_) (fun h => absurd hx h)
      | refine c_Ca_find hm h40 ?_
      | refine bn_t hne ?_
      | refine c_Ca_isLate hv2 (fun hb => ?_) (fun hb => ?_)
      | exact zKe hk (by rw [if_pos (by assumption)]) rfl
      | exact zKe hk (by rw [if_neg (by assumption)]) rfl
      | (refine zs k_De_owes rfl ?_; conv => whnf)
      | refine ⟨Nat.zero_lt_one, rfl, ?_⟩
      | refine ⟨rfl, ?_⟩
      | refine ⟨⟨Nat.zero_lt_one, rfl⟩, Nat.le_of_ble_eq_true rfl, ?_⟩
      | refine ⟨Nat.le_of_ble_eq_true rfl, Nat.le_of_ble_eq_true rfl, ?_⟩
      | refine ⟨(by first | exact Nat.zero_lt_one | assumption | omega), (by first | assumption | exact vp_in_nI (by omega) (by omega) | (unfold vp_in; decide)), ?_⟩
      | refine ⟨(by first | exact Nat.zero_lt_one | assumption | omega), rfl, ?_⟩
      | refine ⟨⟨(by first | exact Nat.zero_lt_one | assumption | omega), rfl⟩, Nat.le_of_ble_eq_true rfl, ?_⟩
      | refine ⟨(by first | exact Nat.zero_lt_one | assumption | omega), ?_⟩
      | refine ⟨Or.inl rfl, ?_⟩
      | refine ⟨Or.inr (Or.inl rfl), ?_⟩
      | refine ⟨Or.inr (Or.inr rfl), ?_⟩
      | refine ⟨Or.inr ⟨rfl, (by first | exact Or.inl rfl | exact Or.inr rfl | assumption)⟩, ?_⟩
      | refine ⟨fun h => absurd h (by decide), fun _ => ?_⟩
      | refine ⟨fun _ => ?_, fun h => absurd h (by decide)⟩
      | refine ⟨fun h => ?_, fun h => ?_⟩
      | fail)
set_option maxHeartbeats 1000000 in
theorem c_Mo_owes {d n m : Nat} {μ : zMu} {x j z : Int32} {K : Option zV → zMu → Prop} (hn : μ 48 0 5 = nI n) (hm : μ 48 0 48 = nI m) (h40 : m ≤ 40) (h0 : ¬ okI n x → K (some (zI (-1))) μ) (h1 : okI n x → K (some (zI (oAns (fun v => decide (μ 99 0 v = x)) (μ 100 0) (μ 101 0) (μ 48 0 52) j z m))) μ) : Ct (d + 1) m_Mo_owes [zR 48 0, zI x, zI j, zI z] μ K := by
  refine zmeet rfl (Nat.le_of_ble_eq_true rfl) (fun S => ?_)
  by_cases ho : okI n x
  case neg =>
    have hk := h0 ho
    have ho' : ¬ (0 ≤ x ∧ x < μ 48 0 5) := by rw [hn]; exact ho
    repeat' (first
      | refine c_Mo_isPerson (fun h => absurd h ho') (fun _ => ?_)
      | exact hk
      | (refine zs k_Mo_owes rfl ?_; conv => whnf)
      | refine ⟨Nat.zero_lt_one, rfl, ?_⟩
      | refine ⟨rfl, ?_⟩
      | refine ⟨⟨Nat.zero_lt_one, rfl⟩, Nat.le_of_ble_eq_true rfl, ?_⟩
      | refine ⟨Nat.le_of_ble_eq_true rfl, Nat.le_of_ble_eq_true rfl, ?_⟩
      | refine ⟨(by first | exact Nat.zero_lt_one | assumption | omega), (by first | assumption | exact vp_in_nI (by omega) (by omega) | (unfold vp_in; decide)), ?_⟩
      | refine ⟨(by first | exact Nat.zero_lt_one | assumption | omega), rfl, ?_⟩
      | refine ⟨⟨(by first | exact Nat.zero_lt_one | assumption | omega), rfl⟩, Nat.le_of_ble_eq_true rfl, ?_⟩
      | refine ⟨(by first | exact Nat.zero_lt_one | assumption | omega), ?_⟩
      | refine ⟨Or.inl rfl, ?_⟩
      | refine ⟨Or.inr (Or.inl rfl), ?_⟩
      | refine ⟨Or.inr (Or.inr rfl), ?_⟩
      | refine ⟨Or.inr ⟨rfl, (by first | exact Or.inl rfl | exact Or.inr rfl | assumption)⟩, ?_⟩
      | refine ⟨fun h => absurd h (by decide), fun _ => ?_⟩
      | refine ⟨fun _ => ?_, fun h => absurd h (by decide)⟩
      | refine ⟨fun h => ?_, fun h => ?_⟩
      | fail)
  have hk := h1 ho
  have hx : 0 ≤ x ∧ x < μ 48 0 5 := by rw [hn]; exact ho
  unfold oAns at hk
  generalize hP : (fun v => decide (μ 99 0 v = x)) = P at hk
  have hPv : ∀ v, P v = decide (μ 99 0 v = x) := fun v => by rw [← hP]
  by_cases hj : 0 ≤ j
  case neg =>
    have q : pNth P j m = -1 := by
      unfold pNth
      refine pFst_none (fun v hv => ?_)
      rw [Bool.and_eq_false_iff]
      refine Or.inr (decide_eq_false (fun e => hj ?_))
      rw [← e]
      exact nI_pos' (by have := pCt_le P v; omega)
    rw [if_pos q] at hk
    repeat' (first
      | refine c_Mo_isPerson (fun _ => ?_) (fun h => absurd hx h)
      | refine br_f hj ?_
      | exact hk
      | (refine zs k_Mo_owes rfl ?_; conv => whnf)
      | refine ⟨Nat.zero_lt_one, rfl, ?_⟩
      | refine ⟨rfl, ?_⟩
      | refine ⟨⟨Nat.zero_lt_one, rfl⟩, Nat.le_of_ble_eq_true rfl, ?_⟩
      | refine ⟨Nat.le_of_ble_eq_true rfl, Nat.le_of_ble_eq_true rfl, ?_⟩
      | refine ⟨(by first | exact Nat.zero_lt_one | assumption | omega), (by first | assumption | exact vp_in_nI (by omega) (by omega) | (unfold vp_in; decide)), ?_⟩
      | refine ⟨(by first | exact Nat.zero_lt_one | assumption | omega), rfl, ?_⟩
      | refine ⟨⟨(by first | exact Nat.zero_lt_one | assumption | omega), rfl⟩, Nat.le_of_ble_eq_true rfl, ?_⟩
      | refine ⟨(by first | exact Nat.zero_lt_one | assumption | omega), ?_⟩
      | refine ⟨Or.inl rfl, ?_⟩
      | refine ⟨Or.inr (Or.inl rfl), ?_⟩
      | refine ⟨Or.inr (Or.inr rfl), ?_⟩
      | refine ⟨Or.inr ⟨rfl, (by first | exact Or.inl rfl | exact Or.inr rfl | assumption)⟩, ?_⟩
      | refine ⟨fun h => absurd h (by decide), fun _ => ?_⟩
      | refine ⟨fun _ => ?_, fun h => absurd h (by decide)⟩
      | refine ⟨fun h => ?_, fun h => ?_⟩
      | fail)
  have Lp : ∀ (k i : Nat) (l v : Int32), i + k = m → v = nI i → l = j - nI (pCt P i) → (∀ r, r < i → (P r && decide (nI (pCt P r) = j)) = false) → zG S (d + 1) m_Mo_owes K 20 [some (zR 48 0), some (zI x), some (zI j), some (zI z), some (zI l), some (zI v)] [] μ := by
    intro k
    induction k with
    | zero =>
      intro i l v hi hv hl hz
      subst hv
      obtain rfl : i = m := by omega
      have q : pNth P j i = -1 := pFst_none hz
      rw [if_pos q] at hk
      refine zs k_Mo_owes rfl ?_; conv => whnf
      repeat' (first
        | exact hk
        | (refine zs k_Mo_owes rfl ?_; conv => whnf)
        | refine br_t (by simp (disch := omega) only [hm, nI_leI, nI_ltI, nI_eq]; omega) ?_
        | refine br_f (by simp (disch := omega) only [hm, nI_leI, nI_ltI, nI_eq]; omega) ?_
        | refine ⟨Nat.zero_lt_one, rfl, ?_⟩
        | refine ⟨rfl, ?_⟩
        | refine ⟨⟨Nat.zero_lt_one, rfl⟩, Nat.le_of_ble_eq_true rfl, ?_⟩
        | refine ⟨Nat.le_of_ble_eq_true rfl, Nat.le_of_ble_eq_true rfl, ?_⟩
        | refine ⟨(by first | exact Nat.zero_lt_one | assumption | omega), (by first | assumption | exact vp_in_nI (by omega) (by omega) | (unfold vp_in; decide)), ?_⟩
        | refine ⟨(by first | exact Nat.zero_lt_one | assumption | omega), rfl, ?_⟩
        | refine ⟨⟨(by first | exact Nat.zero_lt_one | assumption | omega), rfl⟩, Nat.le_of_ble_eq_true rfl, ?_⟩
        | refine ⟨(by first | exact Nat.zero_lt_one | assumption | omega), ?_⟩
        | refine ⟨Or.inl rfl, ?_⟩
        | refine ⟨Or.inr (Or.inl rfl), ?_⟩
        | refine ⟨Or.inr (Or.inr rfl), ?_⟩
        | refine ⟨Or.inr ⟨rfl, (by first | exact Or.inl rfl | exact Or.inr rfl | assumption)⟩, ?_⟩
        | refine ⟨fun h => absurd h (by decide), fun _ => ?_⟩
        | refine ⟨fun _ => ?_, fun h => absurd h (by decide)⟩
        | refine ⟨fun h => ?_, fun h => ?_⟩
        | fail)
    | succ k ih =>
      intro i l v hi hv hl hz
      subst hv
      have hc : (nI i).toNatClampNeg = i := nI_clamp (by omega)
      have hp : pCt P (i + 1) = pCt P i + (if P i then 1 else 0) := rfl
      by_cases hP1 : μ 99 0 i = x
      · have hP1' : μ 99 0 (nI i).toNatClampNeg = x := by rw [hc]; exact hP1
        have hPi : P i = true := by rw [hPv, hP1]; simp
        rw [hPi, if_pos rfl] at hp
        by_cases hl0 : l = 0
        · have hjp : nI (pCt P i) = j := by rw [hl] at hl0; grind
          have q : pNth P j m = nI i := pFst_hit hz (by rw [hPi, hjp]; simp) (by omega) (by omega)
          rw [q, if_neg (nI_nem1 (by omega)), hc] at hk
          refine zs k_Mo_owes rfl ?_; conv => whnf
          repeat' (first
            | refine bn_f hP1' ?_
            | refine bn_f hl0 ?_
            | exact zKe hk (by rw [hc] at *; rw [if_pos (by grind)]) rfl
            | exact zKe hk (by rw [hc] at *; rw [if_neg (by grind)]) rfl
            | (refine zs k_Mo_owes rfl ?_; conv => whnf)
            | refine br_t (by simp (disch := omega) only [hm, nI_leI, nI_ltI, nI_eq]; omega) ?_
            | refine br_f (by simp (disch := omega) only [hm, nI_leI, nI_ltI, nI_eq]; omega) ?_
            | refine ⟨Nat.zero_lt_one, rfl, ?_⟩
            | refine ⟨rfl, ?_⟩
            | refine ⟨⟨Nat.zero_lt_one, rfl⟩, Nat.le_of_ble_eq_true rfl, ?_⟩
            | refine ⟨Nat.le_of_ble_eq_true rfl, Nat.le_of_ble_eq_true rfl, ?_⟩
            | refine ⟨(by first | exact Nat.zero_lt_one | assumption | omega), (by first | assumption | exact vp_in_nI (by omega) (by omega) | (unfold vp_in; decide)), ?_⟩
            | refine ⟨(by first | exact Nat.zero_lt_one | assumption | omega), rfl, ?_⟩
            | refine ⟨⟨(by first | exact Nat.zero_lt_one | assumption | omega), rfl⟩, Nat.le_of_ble_eq_true rfl, ?_⟩
            | refine ⟨(by first | exact Nat.zero_lt_one | assumption | omega), ?_⟩
            | refine ⟨Or.inl rfl, ?_⟩
            | refine ⟨Or.inr (Or.inl rfl), ?_⟩
            | refine ⟨Or.inr (Or.inr rfl), ?_⟩
            | refine ⟨Or.inr ⟨rfl, (by first | exact Or.inl rfl | exact Or.inr rfl | assumption)⟩, ?_⟩
            | refine ⟨fun h => absurd h (by decide), fun _ => ?_⟩
            | refine ⟨fun _ => ?_, fun h => absurd h (by decide)⟩
            | refine ⟨fun h => ?_, fun h => ?_⟩
            | fail)
        · have hjp : ¬ nI (pCt P i) = j := fun e => hl0 (by rw [hl, e]; grind)
          refine zs k_Mo_owes rfl ?_; conv => whnf
          repeat' (first
            | refine bn_f hP1' ?_
            | refine bn_t hl0 ?_
            | refine ih (i + 1) _ _ (by omega) (by exact nI_1 i) ?_ (lt_s hz (by rw [hPi]; simpa using hjp))
            | (refine zs k_Mo_owes rfl ?_; conv => whnf)
            | refine br_t (by simp (disch := omega) only [hm, nI_leI, nI_ltI, nI_eq]; omega) ?_
            | refine br_f (by simp (disch := omega) only [hm, nI_leI, nI_ltI, nI_eq]; omega) ?_
            | refine ⟨Nat.zero_lt_one, rfl, ?_⟩
            | refine ⟨rfl, ?_⟩
            | refine ⟨⟨Nat.zero_lt_one, rfl⟩, Nat.le_of_ble_eq_true rfl, ?_⟩
            | refine ⟨Nat.le_of_ble_eq_true rfl, Nat.le_of_ble_eq_true rfl, ?_⟩
            | refine ⟨(by first | exact Nat.zero_lt_one | assumption | omega), (by first | assumption | exact vp_in_nI (by omega) (by omega) | (unfold vp_in; decide)), ?_⟩
            | refine ⟨(by first | exact Nat.zero_lt_one | assumption | omega), rfl, ?_⟩
            | refine ⟨⟨(by first | exact Nat.zero_lt_one | assumption | omega), rfl⟩, Nat.le_of_ble_eq_true rfl, ?_⟩
            | refine ⟨(by first | exact Nat.zero_lt_one | assumption | omega), ?_⟩
            | refine ⟨Or.inl rfl, ?_⟩
            | refine ⟨Or.inr (Or.inl rfl), ?_⟩
            | refine ⟨Or.inr (Or.inr rfl), ?_⟩
            | refine ⟨Or.inr ⟨rfl, (by first | exact Or.inl rfl | exact Or.inr rfl | assumption)⟩, ?_⟩
            | refine ⟨fun h => absurd h (by decide), fun _ => ?_⟩
            | refine ⟨fun _ => ?_, fun h => absurd h (by decide)⟩
            | refine ⟨fun h => ?_, fun h => ?_⟩
            | fail)
          rw [hp, ← nI_1, hl]
          grind
      · have hP1' : ¬ μ 99 0 (nI i).toNatClampNeg = x := by rw [hc]; exact hP1
        have hPi : P i = false := by rw [hPv]; simpa using hP1
        rw [hPi] at hp
        refine zs k_Mo_owes rfl ?_; conv => whnf
        repeat' (first
          | refine bn_t hP1' ?_
          | refine ih (i + 1) _ _ (by omega) (by exact nI_1 i) ?_ (lt_s hz (by rw [hPi]; rfl))
          | (refine zs k_Mo_owes rfl ?_; conv => whnf)
          | refine br_t (by simp (disch := omega) only [hm, nI_leI, nI_ltI, nI_eq]; omega) ?_
          | refine br_f (by simp (disch := omega) only [hm, nI_leI, nI_ltI, nI_eq]; omega) ?_
          | refine ⟨Nat.zero_lt_one, rfl, ?_⟩
          | refine ⟨rfl, ?_⟩
          | refine ⟨⟨Nat.zero_lt_one, rfl⟩, Nat.le_of_ble_eq_true rfl, ?_⟩
          | refine ⟨Nat.le_of_ble_eq_true rfl, Nat.le_of_ble_eq_true rfl, ?_⟩
          | refine ⟨(by first | exact Nat.zero_lt_one | assumption | omega), (by first | assumption | exact vp_in_nI (by omega) (by omega) | (unfold vp_in; decide)), ?_⟩
          | refine ⟨(by first | exact Nat.zero_lt_one | assumption | omega), rfl, ?_⟩
          | refine ⟨⟨(by first | exact Nat.zero_lt_one | assumption | omega), rfl⟩, Nat.le_of_ble_eq_true rfl, ?_⟩
          | refine ⟨(by first | exact Nat.zero_lt_one | assumption | omega), ?_⟩
          | refine ⟨Or.inl rfl, ?_⟩
          | refine ⟨Or.inr (Or.inl rfl), ?_⟩
          | refine ⟨Or.inr (Or.inr rfl), ?_⟩
          | refine ⟨Or.inr ⟨rfl, (by first | exact Or.inl rfl | exact Or.inr rfl | assumption)⟩, ?_⟩
          | refine ⟨fun h => absurd h (by decide), fun _ => ?_⟩
          | refine ⟨fun _ => ?_, fun h => absurd h (by decide)⟩
          | refine ⟨fun h => ?_, fun h => ?_⟩
          | fail)
        rw [hp, hl]
        rfl
  repeat' (first
    | refine c_Mo_isPerson (fun _ => ?_) (fun h => absurd hx h)
    | refine br_t hj ?_
    | refine Lp m 0 _ _ (by omega) rfl (by show j = j - 0; grind) (fun r hr => absurd hr (by omega))
    | (refine zs k_Mo_owes rfl ?_; conv => whnf)
    | refine ⟨Nat.zero_lt_one, rfl, ?_⟩
    | refine ⟨rfl, ?_⟩
    | refine ⟨⟨Nat.zero_lt_one, rfl⟩, Nat.le_of_ble_eq_true rfl, ?_⟩
    | refine ⟨Nat.le_of_ble_eq_true rfl, Nat.le_of_ble_eq_true rfl, ?_⟩
    | refine ⟨(by first | exact Nat.zero_lt_one | assumption | omega), (by first | assumption | exact vp_in_nI (by omega) (by omega) | (unfold vp_in; decide)), ?_⟩
    | refine ⟨(by first | exact Nat.zero_lt_one | assumption | omega), rfl, ?_⟩
    | refine ⟨⟨(by first | exact Nat.zero_lt_one | assumption | omega), rfl⟩, Nat.le_of_ble_eq_true rfl, ?_⟩
    | refine ⟨(by first | exact Nat.zero_lt_one | assumption | omega), ?_⟩
    | refine ⟨Or.inl rfl, ?_⟩
    | refine ⟨Or.inr (Or.inl rfl), ?_⟩
    | refine ⟨Or.inr (Or.inr rfl), ?_⟩
    | refine ⟨Or.inr ⟨rfl, (by first | exact Or.inl rfl | exact Or.inr rfl | assumption)⟩, ?_⟩
    | refine ⟨fun h => absurd h (by decide), fun _ => ?_⟩
    | refine ⟨fun _ => ?_, fun h => absurd h (by decide)⟩
    | refine ⟨fun h => ?_, fun h => ?_⟩
    | fail)
theorem b_owes {μ : zMu} {x j z : Int32} (h : Rel μ) : Both m_De_owes m_Mo_owes [zI x, zI j, zI z] μ := by
  intro d K hK
  obtain ⟨ns, n, nr, nh, nt, nb, L, g1, g2, g3, g4, g5, g6, g7, g8, g9, g10, g11⟩ := id h
  have hl := g9.1.2.1
  refine c_De_owes g2.1 g9.1.1 hl (fun a => hK _ _ (fun d K2 hK2 => ?_)) (fun a => hK _ _ (fun d K2 hK2 => ?_))
  · exact c_Mo_owes g2.2.1 g9.2.1 hl (fun _ => hK2 _ h) (fun q => absurd q a)
  · refine c_Mo_owes (n := n) (m := L.length) g2.2.1 g9.2.1 hl (fun q => absurd a q) (fun _ => zKe (hK2 _ h) ?_ rfl)
    have hv : ∀ v, v < L.length → μ 99 0 v = μ 46 0 v ∧ μ 100 0 v = μ 45 0 v ∧ μ 101 0 v = μ 47 0 v := fun v hv => by
      have he : L[v]? = some L[v] := List.getElem?_eq_getElem hv
      obtain ⟨a, b, c⟩ := g9.1.2.2 v _ he
      obtain ⟨a', b', c'⟩ := g9.2.2 v _ he
      exact ⟨a'.trans a.symm, b'.trans b.symm, c'.trans c.symm⟩
    unfold oAns
    rw [pNth_cg (P := fun v => decide (μ 99 0 v = x)) (P' := fun v => decide (μ 46 0 v = x)) (fun v hv' => by rw [(hv v hv').1])]
    rcases pNth_in (P := fun v => decide (μ 46 0 v = x)) (j := j) (m := L.length) (by omega) with q | ⟨v, hv', q⟩
    · rw [if_pos q, if_pos q]
    · rw [q, nI_clamp (by omega), (hv v hv').2.1, (hv v hv').2.2, g10]
/-! MODEL: rules -/
set_option maxHeartbeats 1000000 in
theorem c_Mo_holds {d ns n r j p q : Nat} {μ : zMu} {t x y : Int32} {K : Option zV → zMu → Prop} (g1 : gSt μ ns) (g : gPe μ ns n) (hr : r < 16) (gr : gR1 μ r) (hj : j < (μ 8 r 4).toNatClampNeg) (hp : p < n) (hq : q < n) (ht : t = nI (4 * r + j)) (hx : x = nI p) (hy : y = nI q) (h1 : pTest (cF μ) ((cRu μ r).2.2.2.2.2.2.2 j) p q = true → K (some (zI 1)) μ) (h0 : pTest (cF μ) ((cRu μ r).2.2.2.2.2.2.2 j) p q = false → K (some (zI 0)) μ) : Ct (d + 2) m_Mo_holds [zR 48 0, zI t, zI x, zI y] μ K := by
  subst ht hx hy
  have h20 := g.2.2.1
  obtain ⟨⟨k1, ⟨m, hm4, hm⟩, k3, k4, k5⟩, -, -, -, -, -, -, -, hts, -⟩ := gr
  have hmc : (μ 8 r 4).toNatClampNeg = m := by rw [hm]; exact nI_clamp (by omega)
  obtain ⟨f1, f2⟩ := k5 j hj
  obtain ⟨t1, t2, t3, t4, t5, t6⟩ := hts j hj
  have hj4 : j < 4 := by omega
  have hc : (nI (4 * r + j)).toNatClampNeg = 4 * r + j := nI_clamp (by omega)
  rw [← hc] at t1 t2 t4 t5 t6
  obtain ⟨f, hf7, hff⟩ := vp_in_of f1 (by omega)
  have t4' := t4.trans hff
  have e0 : pTest (cF μ) ((cRu μ r).2.2.2.2.2.2.2 j) p q = (pIs (μ 25 r j) (if μ 23 r j = 0 then μ 17 p f else μ 17 q f) (μ 26 r j) != decide (μ 22 r j = 1)) := by
    show (pIs (μ 25 r j) (μ 17 (if μ 23 r j = 0 then p else q) (μ 24 r j).toNatClampNeg) (μ 26 r j) != decide (μ 22 r j = 1)) = _
    rw [hff, nI_clamp (by omega)]
    by_cases hb : μ 23 r j = 0
    · rw [if_pos hb, if_pos hb]
    · rw [if_neg hb, if_neg hb]
  rw [e0] at h1 h0
  rw [← t1, ← t5, ← t6] at h1 h0
  rw [← t1] at f2
  have hvt : vp_in (nI (4 * r + j)) 64 := vp_in_nI (by omega) (by omega)
  by_cases hb : μ 23 r j = 0
  · rw [if_pos hb] at h1 h0
    have hb' := t2.trans hb
    unfold pIs at h1 h0
    clear hts k5 t1 t2 t3 t4 t5 t6 k1 k3 k4 hm e0 f1
    refine zmeet rfl (Nat.le_of_ble_eq_true rfl) (fun S => ?_)
    repeat' (first
      | refine br_t hb' ?_
      | refine c_Mo_field (p := p) (f := f) g1 g hp hf7 rfl t4' ?_
      | exact h1 (by grind)
      | exact h0 (by grind)
      | (refine zs k_Mo_holds rfl ?_; conv => whnf)
      | refine ⟨Nat.zero_lt_one, rfl, ?_⟩
      | refine ⟨rfl, ?_⟩
      | refine ⟨⟨Nat.zero_lt_one, rfl⟩, Nat.le_of_ble_eq_true rfl, ?_⟩
      | refine ⟨Nat.le_of_ble_eq_true rfl, Nat.le_of_ble_eq_true rfl, ?_⟩
      | refine ⟨(by first | exact Nat.zero_lt_one | assumption | omega), (by first | assumption | exact vp_in_nI (by omega) (by omega) | (unfold vp_in; decide)), ?_⟩
      | refine ⟨(by first | exact Nat.zero_lt_one | assumption | omega), rfl, ?_⟩
      | refine ⟨⟨(by first | exact Nat.zero_lt_one | assumption | omega), rfl⟩, Nat.le_of_ble_eq_true rfl, ?_⟩
      | refine ⟨(by first | exact Nat.zero_lt_one | assumption | omega), ?_⟩
      | refine ⟨Or.inl rfl, ?_⟩
      | refine ⟨Or.inr (Or.inl rfl), ?_⟩
      | refine ⟨Or.inr (Or.inr rfl), ?_⟩
      | refine ⟨Or.inr ⟨rfl, (by first | exact Or.inl rfl | exact Or.inr rfl | assumption)⟩, ?_⟩
      | refine ⟨fun h => absurd h (by decide), fun _ => ?_⟩
      | refine ⟨fun _ => ?_, fun h => absurd h (by decide)⟩
      | refine ⟨fun h => ?_, fun h => ?_⟩
      | fail)
  · rw [if_neg hb] at h1 h0
    have hb' : ¬ μ 74 0 (nI (4 * r + j)).toNatClampNeg = 0 := by rw [t2]; exact hb
    unfold pIs at h1 h0
    clear hts k5 t1 t2 t3 t4 t5 t6 k1 k3 k4 hm e0 f1
    refine zmeet rfl (Nat.le_of_ble_eq_true rfl) (fun S => ?_)
    repeat' (first
      | refine br_f hb' ?_
      | refine c_Mo_field (p := q) (f := f) g1 g hq hf7 rfl t4' ?_
      | exact h1 (by grind)
      | exact h0 (by grind)
      | (refine zs k_Mo_holds rfl ?_; conv => whnf)
      | refine ⟨Nat.zero_lt_one, rfl, ?_⟩
      | refine ⟨rfl, ?_⟩
      | refine ⟨⟨Nat.zero_lt_one, rfl⟩, Nat.le_of_ble_eq_true rfl, ?_⟩
      | refine ⟨Nat.le_of_ble_eq_true rfl, Nat.le_of_ble_eq_true rfl, ?_⟩
      | refine ⟨(by first | exact Nat.zero_lt_one | assumption | omega), (by first | assumption | exact vp_in_nI (by omega) (by omega) | (unfold vp_in; decide)), ?_⟩
      | refine ⟨(by first | exact Nat.zero_lt_one | assumption | omega), rfl, ?_⟩
      | refine ⟨⟨(by first | exact Nat.zero_lt_one | assumption | omega), rfl⟩, Nat.le_of_ble_eq_true rfl, ?_⟩
      | refine ⟨(by first | exact Nat.zero_lt_one | assumption | omega), ?_⟩
      | refine ⟨Or.inl rfl, ?_⟩
      | refine ⟨Or.inr (Or.inl rfl), ?_⟩
      | refine ⟨Or.inr (Or.inr rfl), ?_⟩
      | refine ⟨Or.inr ⟨rfl, (by first | exact Or.inl rfl | exact Or.inr rfl | assumption)⟩, ?_⟩
      | refine ⟨fun h => absurd h (by decide), fun _ => ?_⟩
      | refine ⟨fun _ => ?_, fun h => absurd h (by decide)⟩
      | refine ⟨fun h => ?_, fun h => ?_⟩
      | fail)
set_option maxHeartbeats 2000000 in
theorem c_Mo_areTested {d ns n r p q : Nat} {μ : zMu} {v x y : Int32} {K : Option zV → zMu → Prop} (g1 : gSt μ ns) (g : gPe μ ns n) (hr : r < 16) (gr : gR1 μ r) (hp : p < n) (hq : q < n) (hv : v = nI r) (hx : x = nI p) (hy : y = nI q) (h1 : pHolds (cF μ) (cRu μ r) p q = true → K (some (zI 1)) μ) (h0 : pHolds (cF μ) (cRu μ r) p q = false → K (some (zI 0)) μ) : Ct (d + 3) m_Mo_areTested [zR 48 0, zI v, zI x, zI y] μ K := by
  subst hv hx hy
  refine zmeet rfl (Nat.le_of_ble_eq_true rfl) (fun S => ?_)
  obtain ⟨⟨k1, ⟨m, hm4, hm⟩, k3, k4, k5⟩, -, -, -, e69, -, -, e72, -, hz⟩ := id gr
  have hmc : (μ 8 r 4).toNatClampNeg = m := by rw [hm]; exact nI_clamp (by omega)
  have hc : (nI r).toNatClampNeg = r := nI_clamp (by omega)
  have hvr : vp_in (nI r) 16 := vp_in_nI hr (by omega)
  have h4 : (4 : Int32) * nI r = nI (4 * r) := pk_mul 4 r
  have e72' : μ 72 0 (nI r).toNatClampNeg = nI m := by rw [hc, e72]; exact hm
  have e69' : μ 69 0 (nI r).toNatClampNeg = μ 8 r 3 := by rw [hc]; exact e69
  have h4m : (4 : Int32) * nI r + μ 72 0 (nI r).toNatClampNeg = nI (4 * r + m) := by rw [h4, e72', nI_add]
  have hpH : pHolds (cF μ) (cRu μ r) p q = if μ 8 r 3 = 0 then pAll (cF μ) (cRu μ r) p q m else pAny (cF μ) (cRu μ r) p q m := by
    show (if μ 8 r 3 = 0 then pAll (cF μ) (cRu μ r) p q (μ 8 r 4).toNatClampNeg else pAny (cF μ) (cRu μ r) p q (μ 8 r 4).toNatClampNeg) = _
    rw [hmc]
  rw [hpH] at h1 h0
  have hm0 : μ 72 0 (nI r).toNatClampNeg = 0 → μ 8 r 3 = 0 ∧ m = 0 := fun h => by
    rw [e72'] at h
    have : m = 0 := (nI_eq (b := 0) (by omega) (by omega)).mp h
    exact ⟨hz (by rw [hm, this]; rfl), this⟩
  generalize hA : pAll (cF μ) (cRu μ r) p q = A at h1 h0
  generalize hO : pAny (cF μ) (cRu μ r) p q = O at h1 h0
  have A0 : A 0 = true := by rw [← hA]; rfl
  have As : ∀ i, A (i + 1) = (A i && pTest (cF μ) ((cRu μ r).2.2.2.2.2.2.2 i) p q) := fun i => by rw [← hA]; rfl
  have Os : ∀ i, O (i + 1) = (O i || pTest (cF μ) ((cRu μ r).2.2.2.2.2.2.2 i) p q) := fun i => by rw [← hO]; rfl
  have O0 : O 0 = false := by rw [← hO]; rfl
  have L : ∀ (k i : Nat) (a o w : Int32) (l7 : Option zV), i + k = m → w = nI (4 * r + i) → ((A i = true ∧ a = 1) ∨ (A i = false ∧ a = 0)) → ((O i = true ∧ o = 1) ∨ (O i = false ∧ o = 0)) → zG S (d + 3) m_Mo_areTested K 11 [some (zR 48 0), some (zI (nI r)), some (zI (nI p)), some (zI (nI q)), some (zI a), some (zI o), some (zI w), l7] [] μ := by
    intro k
    induction k with
    | zero =>
      intro i a o w l7 hi hw ha ho
      obtain rfl : i = m := by omega
      subst hw
      have hle : (4 : Int32) * nI r + μ 72 0 (nI r).toNatClampNeg ≤ nI (4 * r + i) := by rw [h4m]; exact nI_le (Nat.le_refl _) (by omega)
      rcases ha with ⟨ha, rfl⟩ | ⟨ha, rfl⟩ <;> rcases ho with ⟨ho, rfl⟩ | ⟨ho, rfl⟩
      all_goals
        rw [ha, ho] at h1 h0
        refine zs k_Mo_areTested rfl ?_; conv => whnf
        repeat' (first
          | refine br_t hle ?_
          | exact h1 (by grind)
          | exact h0 (by grind)
          | (refine zs k_Mo_areTested rfl ?_; conv => whnf)
          | refine ⟨Nat.zero_lt_one, rfl, ?_⟩
          | refine ⟨rfl, ?_⟩
          | refine ⟨⟨Nat.zero_lt_one, rfl⟩, Nat.le_of_ble_eq_true rfl, ?_⟩
          | refine ⟨Nat.le_of_ble_eq_true rfl, Nat.le_of_ble_eq_true rfl, ?_⟩
          | refine ⟨(by first | exact Nat.zero_lt_one | assumption | omega), (by first | assumption | exact vp_in_nI (by omega) (by omega) | (unfold vp_in; decide)), ?_⟩
          | refine ⟨(by first | exact Nat.zero_lt_one | assumption | omega), rfl, ?_⟩
          | refine ⟨⟨(by first | exact Nat.zero_lt_one | assumption | omega), rfl⟩, Nat.le_of_ble_eq_true rfl, ?_⟩
          | refine ⟨(by first | exact Nat.zero_lt_one | assumption | omega), ?_⟩
          | refine ⟨Or.inl rfl, ?_⟩
          | refine ⟨Or.inr (Or.inl rfl), ?_⟩
          | refine ⟨Or.inr (Or.inr rfl), ?_⟩
          | refine ⟨Or.inr ⟨rfl, (by first | exact Or.inl rfl | exact Or.inr rfl | assumption)⟩, ?_⟩
          | refine ⟨fun h => absurd h (by decide), fun _ => ?_⟩
          | refine ⟨fun _ => ?_, fun h => absurd h (by decide)⟩
          | refine ⟨fun h => ?_, fun h => ?_⟩
          | fail)
    | succ k ih =>
      intro i a o w l7 hi hw ha ho
      subst hw
      have hle : ¬ (4 : Int32) * nI r + μ 72 0 (nI r).toNatClampNeg ≤ nI (4 * r + i) := by rw [h4m]; exact nI_ge (by omega) (by omega)
      have hj : i < (μ 8 r 4).toNatClampNeg := by omega
      have A1 := As i
      have O1 := Os i
      rcases ha with ⟨ha, rfl⟩ | ⟨ha, rfl⟩ <;> rcases ho with ⟨ho, rfl⟩ | ⟨ho, rfl⟩
      all_goals
        refine zs k_Mo_areTested rfl ?_; conv => whnf
        repeat' (first
          | refine br_f hle ?_
          | refine c_Mo_holds (j := i) g1 g hr gr hj hp hq rfl rfl rfl (fun hb => ?_) (fun hb => ?_)
          | refine ih (i + 1) _ _ _ _ (by omega) (by exact nI_1 _) (by rw [A1, hb, ha]; decide) (by rw [O1, hb, ho]; decide)
          | (refine zs k_Mo_areTested rfl ?_; conv => whnf)
          | refine ⟨Nat.zero_lt_one, rfl, ?_⟩
          | refine ⟨rfl, ?_⟩
          | refine ⟨⟨Nat.zero_lt_one, rfl⟩, Nat.le_of_ble_eq_true rfl, ?_⟩
          | refine ⟨Nat.le_of_ble_eq_true rfl, Nat.le_of_ble_eq_true rfl, ?_⟩
          | refine ⟨(by first | exact Nat.zero_lt_one | assumption | omega), (by first | assumption | exact vp_in_nI (by omega) (by omega) | (unfold vp_in; decide)), ?_⟩
          | refine ⟨(by first | exact Nat.zero_lt_one | assumption | omega), rfl, ?_⟩
          | refine ⟨⟨(by first | exact Nat.zero_lt_one | assumption | omega), rfl⟩, Nat.le_of_ble_eq_true rfl, ?_⟩
          | refine ⟨(by first | exact Nat.zero_lt_one | assumption | omega), ?_⟩
          | refine ⟨Or.inl rfl, ?_⟩
          | refine ⟨Or.inr (Or.inl rfl), ?_⟩
          | refine ⟨Or.inr (Or.inr rfl), ?_⟩
          | refine ⟨Or.inr ⟨rfl, (by first | exact Or.inl rfl | exact Or.inr rfl | assumption)⟩, ?_⟩
          | refine ⟨fun h => absurd h (by decide), fun _ => ?_⟩
          | refine ⟨fun _ => ?_, fun h => absurd h (by decide)⟩
          | refine ⟨fun h => ?_, fun h => ?_⟩
          | fail)
  repeat' (first
    | refine L m 0 _ _ _ _ (by omega) (by exact h4) (Or.inl ⟨A0, rfl⟩) (Or.inr ⟨O0, rfl⟩)
    | (refine zs k_Mo_areTested rfl ?_; conv => whnf)
    | refine ⟨Nat.zero_lt_one, rfl, ?_⟩
    | refine ⟨rfl, ?_⟩
    | refine ⟨⟨Nat.zero_lt_one, rfl⟩, Nat.le_of_ble_eq_true rfl, ?_⟩
    | refine ⟨Nat.le_of_ble_eq_true rfl, Nat.le_of_ble_eq_true rfl, ?_⟩
    | refine ⟨(by first | exact Nat.zero_lt_one | assumption | omega), (by first | assumption | exact vp_in_nI (by omega) (by omega) | (unfold vp_in; decide)), ?_⟩
    | refine ⟨(by first | exact Nat.zero_lt_one | assumption | omega), rfl, ?_⟩
    | refine ⟨⟨(by first | exact Nat.zero_lt_one | assumption | omega), rfl⟩, Nat.le_of_ble_eq_true rfl, ?_⟩
    | refine ⟨(by first | exact Nat.zero_lt_one | assumption | omega), ?_⟩
    | refine ⟨Or.inl rfl, ?_⟩
    | refine ⟨Or.inr (Or.inl rfl), ?_⟩
    | refine ⟨Or.inr (Or.inr rfl), ?_⟩
    | refine ⟨Or.inr ⟨rfl, (by first | exact Or.inl rfl | exact Or.inr rfl | assumption)⟩, ?_⟩
    | refine ⟨fun h => absurd h (by decide), fun _ => ?_⟩
    | refine ⟨fun _ => ?_, fun h => absurd h (by decide)⟩
    | refine ⟨fun h => ?_, fun h => ?_⟩
    | fail)
theorem pV_c (F : Nat → Nat → Int32) (u : rU) (o day : Int32) (x y : Nat) : pV F u o day x y = 0 ∨ pV F u o day x y = 1 ∨ pV F u o day x y = -1 := by
  unfold pV
  split
  · exact Or.inl rfl
  · split
    · exact Or.inr (Or.inr rfl)
    · exact Or.inr (Or.inl rfl)
set_option maxHeartbeats 2000000 in
theorem c_Mo_decided {d ns n r p q : Nat} {μ : zMu} {v o day x y : Int32} {K : Option zV → zMu → Prop} (g1 : gSt μ ns) (g : gPe μ ns n) (hr : r < 16) (gr : gR1 μ r) (hp : p < n) (hq : q < n) (hv : v = nI r) (hx : x = nI p) (hy : y = nI q) (hK : K (some (zI (pV (cF μ) (cRu μ r) o day p q))) μ) : Ct (d + 4) m_Mo_decided [zR 48 0, zI v, zI o, zI day, zI x, zI y] μ K := by
  subst hv hx hy
  refine zmeet rfl (Nat.le_of_ble_eq_true rfl) (fun S => ?_)
  obtain ⟨⟨k1, -⟩, eoc, e67, e68, -, e70, e71, -, -, -⟩ := id gr
  have hc : (nI r).toNatClampNeg = r := nI_clamp (by omega)
  have hvr : vp_in (nI r) 16 := vp_in_nI hr (by omega)
  obtain ⟨f, hf7, hff⟩ := vp_in_of k1 (by omega)
  have e67' : μ 67 0 (nI r).toNatClampNeg = nI f := by rw [hc, e67]; exact hff
  rw [← hc] at e70 e71 e68 eoc
  have eoc' : (μ 66 0 (nI r).toNatClampNeg = 10 ∨ μ 66 0 (nI r).toNatClampNeg = o) ↔ (μ 8 (nI r).toNatClampNeg 0 = -1 ∨ μ 8 (nI r).toNatClampNeg 0 = o) := by
    rcases eoc with ⟨a, b⟩ | ⟨a, b, c⟩
    · rw [a, b]
      simp
    · rw [c]
      have n1 : ¬ μ 8 (nI r).toNatClampNeg 0 = -1 := fun e => absurd a (by rw [e]; decide)
      have n2 : ¬ μ 8 (nI r).toNatClampNeg 0 = 10 := fun e => absurd b (by rw [e]; decide)
      simp [n1, n2]
  have hpV : pV (cF μ) (cRu μ r) o day p q = if μ 17 p f = μ 17 q f ∨ ¬ ((μ 70 0 (nI r).toNatClampNeg ≤ day ∧ day < μ 71 0 (nI r).toNatClampNeg ∧ (μ 66 0 (nI r).toNatClampNeg = 10 ∨ μ 66 0 (nI r).toNatClampNeg = o)) ∧ (pHolds (cF μ) (cRu μ r) p q = true ∨ pHolds (cF μ) (cRu μ r) q p = true)) then 0 else if (μ 17 p f < μ 17 q f ↔ μ 8 (nI r).toNatClampNeg 2 = 1) then -1 else 1 := by
    have hif : (μ 17 p f = μ 17 q f ∨ ¬ (μ 8 r 5 ≤ day ∧ day < μ 8 r 6 ∧ (μ 8 r 0 = -1 ∨ μ 8 r 0 = o)) ∨ (pHolds (cF μ) (cRu μ r) p q = false ∧ pHolds (cF μ) (cRu μ r) q p = false)) ↔ (μ 17 p f = μ 17 q f ∨ ¬ ((μ 70 0 (nI r).toNatClampNeg ≤ day ∧ day < μ 71 0 (nI r).toNatClampNeg ∧ (μ 66 0 (nI r).toNatClampNeg = 10 ∨ μ 66 0 (nI r).toNatClampNeg = o)) ∧ (pHolds (cF μ) (cRu μ r) p q = true ∨ pHolds (cF μ) (cRu μ r) q p = true))) := by
      rw [eoc', e70, e71, hc]
      cases pHolds (cF μ) (cRu μ r) p q <;> cases pHolds (cF μ) (cRu μ r) q p <;> simp
    have e1 : pV (cF μ) (cRu μ r) o day p q = if μ 17 p f = μ 17 q f ∨ ¬ (μ 8 r 5 ≤ day ∧ day < μ 8 r 6 ∧ (μ 8 r 0 = -1 ∨ μ 8 r 0 = o)) ∨ (pHolds (cF μ) (cRu μ r) p q = false ∧ pHolds (cF μ) (cRu μ r) q p = false) then 0 else if (μ 17 p f < μ 17 q f ↔ μ 8 (nI r).toNatClampNeg 2 = 1) then -1 else 1 := by
      rw [hc]
      have ef : (μ 8 r 1).toNatClampNeg = f := by rw [hff]; exact nI_clamp (by omega)
      rw [← ef]
      rfl
    rw [e1]
    by_cases hh : μ 17 p f = μ 17 q f ∨ ¬ (μ 8 r 5 ≤ day ∧ day < μ 8 r 6 ∧ (μ 8 r 0 = -1 ∨ μ 8 r 0 = o)) ∨ (pHolds (cF μ) (cRu μ r) p q = false ∧ pHolds (cF μ) (cRu μ r) q p = false)
    · rw [if_pos hh, if_pos (hif.mp hh)]
    · rw [if_neg hh, if_neg (fun w => hh (hif.mpr w))]
  rw [hpV] at hK
  generalize hG : ((μ 70 0 (nI r).toNatClampNeg ≤ day ∧ day < μ 71 0 (nI r).toNatClampNeg ∧ (μ 66 0 (nI r).toNatClampNeg = 10 ∨ μ 66 0 (nI r).toNatClampNeg = o)) ∧ (pHolds (cF μ) (cRu μ r) p q = true ∨ pHolds (cF μ) (cRu μ r) q p = true)) = G at hK
  have fin : ∀ gd : Int32, ((gd = 1 ∧ G) ∨ (gd = 0 ∧ ¬ G)) → zG S (d + 4) m_Mo_decided K 70 [some (zR 48 0), some (zI (nI r)), some (zI o), some (zI day), some (zI (nI p)), some (zI (nI q)), none, none, none] [zI gd] μ := fun gd hgd => by
    rcases e68 with ⟨d0, u0⟩ | ⟨d0, u0⟩
    · rw [d0] at hK
      rcases hgd with ⟨rfl, hg⟩ | ⟨rfl, hg⟩
      all_goals
        repeat' (first
          | refine c_Mo_field (p := p) (f := f) g1 g hp hf7 rfl e67' ?_
          | refine c_Mo_field (p := q) (f := f) g1 g hq hf7 rfl e67' ?_
          | exact zKe hK (by grind) rfl
          | (refine zs k_Mo_decided rfl ?_; conv => whnf)
          | refine ⟨Nat.zero_lt_one, rfl, ?_⟩
          | refine ⟨rfl, ?_⟩
          | refine ⟨⟨Nat.zero_lt_one, rfl⟩, Nat.le_of_ble_eq_true rfl, ?_⟩
          | refine ⟨Nat.le_of_ble_eq_true rfl, Nat.le_of_ble_eq_true rfl, ?_⟩
          | refine ⟨(by first | exact Nat.zero_lt_one | assumption | omega), (by first | assumption | exact vp_in_nI (by omega) (by omega) | (unfold vp_in; decide)), ?_⟩
          | refine ⟨(by first | exact Nat.zero_lt_one | assumption | omega), rfl, ?_⟩
          | refine ⟨⟨(by first | exact Nat.zero_lt_one | assumption | omega), rfl⟩, Nat.le_of_ble_eq_true rfl, ?_⟩
          | refine ⟨(by first | exact Nat.zero_lt_one | assumption | omega), ?_⟩
          | refine ⟨Or.inl rfl, ?_⟩
          | refine ⟨Or.inr (Or.inl rfl), ?_⟩
          | refine ⟨Or.inr (Or.inr rfl), ?_⟩
          | refine ⟨Or.inr ⟨rfl, (by first | exact Or.inl rfl | exact Or.inr rfl | assumption)⟩, ?_⟩
          | refine ⟨fun h => absurd h (by decide), fun _ => ?_⟩
          | refine ⟨fun _ => ?_, fun h => absurd h (by decide)⟩
          | refine ⟨fun h => ?_, fun h => ?_⟩
          | fail)
    · rw [d0] at hK
      rcases hgd with ⟨rfl, hg⟩ | ⟨rfl, hg⟩
      all_goals
        repeat' (first
          | refine c_Mo_field (p := p) (f := f) g1 g hp hf7 rfl e67' ?_
          | refine c_Mo_field (p := q) (f := f) g1 g hq hf7 rfl e67' ?_
          | exact zKe hK (by grind) rfl
          | (refine zs k_Mo_decided rfl ?_; conv => whnf)
          | refine ⟨Nat.zero_lt_one, rfl, ?_⟩
          | refine ⟨rfl, ?_⟩
          | refine ⟨⟨Nat.zero_lt_one, rfl⟩, Nat.le_of_ble_eq_true rfl, ?_⟩
          | refine ⟨Nat.le_of_ble_eq_true rfl, Nat.le_of_ble_eq_true rfl, ?_⟩
          | refine ⟨(by first | exact Nat.zero_lt_one | assumption | omega), (by first | assumption | exact vp_in_nI (by omega) (by omega) | (unfold vp_in; decide)), ?_⟩
          | refine ⟨(by first | exact Nat.zero_lt_one | assumption | omega), rfl, ?_⟩
          | refine ⟨⟨(by first | exact Nat.zero_lt_one | assumption | omega), rfl⟩, Nat.le_of_ble_eq_true rfl, ?_⟩
          | refine ⟨(by first | exact Nat.zero_lt_one | assumption | omega), ?_⟩
          | refine ⟨Or.inl rfl, ?_⟩
          | refine ⟨Or.inr (Or.inl rfl), ?_⟩
          | refine ⟨Or.inr (Or.inr rfl), ?_⟩
          | refine ⟨Or.inr ⟨rfl, (by first | exact Or.inl rfl | exact Or.inr rfl | assumption)⟩, ?_⟩
          | refine ⟨fun h => absurd h (by decide), fun _ => ?_⟩
          | refine ⟨fun _ => ?_, fun h => absurd h (by decide)⟩
          | refine ⟨fun h => ?_, fun h => ?_⟩
          | fail)
  repeat' (first
    | refine c_Mo_areTested (p := p) (q := q) g1 g hr gr hp hq rfl rfl rfl (fun t1 => ?_) (fun t1 => ?_)
    | refine c_Mo_areTested (p := q) (q := p) g1 g hr gr hq hp rfl rfl rfl (fun t2 => ?_) (fun t2 => ?_)
    | exact fin _ (Or.inl ⟨rfl, by rw [← hG]; grind⟩)
    | exact fin _ (Or.inr ⟨rfl, by rw [← hG]; grind⟩)
    | (refine zs k_Mo_decided rfl ?_; conv => whnf)
    | refine ⟨Nat.zero_lt_one, rfl, ?_⟩
    | refine ⟨rfl, ?_⟩
    | refine ⟨⟨Nat.zero_lt_one, rfl⟩, Nat.le_of_ble_eq_true rfl, ?_⟩
    | refine ⟨Nat.le_of_ble_eq_true rfl, Nat.le_of_ble_eq_true rfl, ?_⟩
    | refine ⟨(by first | exact Nat.zero_lt_one | assumption | omega), (by first | assumption | exact vp_in_nI (by omega) (by omega) | (unfold vp_in; decide)), ?_⟩
    | refine ⟨(by first | exact Nat.zero_lt_one | assumption | omega), rfl, ?_⟩
    | refine ⟨⟨(by first | exact Nat.zero_lt_one | assumption | omega), rfl⟩, Nat.le_of_ble_eq_true rfl, ?_⟩
    | refine ⟨(by first | exact Nat.zero_lt_one | assumption | omega), ?_⟩
    | refine ⟨Or.inl rfl, ?_⟩
    | refine ⟨Or.inr (Or.inl rfl), ?_⟩
    | refine ⟨Or.inr (Or.inr rfl), ?_⟩
    | refine ⟨Or.inr ⟨rfl, (by first | exact Or.inl rfl | exact Or.inr rfl | assumption)⟩, ?_⟩
    | refine ⟨fun h => absurd h (by decide), fun _ => ?_⟩
    | refine ⟨fun _ => ?_, fun h => absurd h (by decide)⟩
    | refine ⟨fun h => ?_, fun h => ?_⟩
    | fail)
def okA (n : Nat) (o day x y : Int32) : Prop := (0 ≤ o ∧ o ≤ 9) ∧ 0 ≤ day ∧ okI n x ∧ okI n y ∧ ¬ x = y
theorem c_Mo_isAsked {d n : Nat} {μ : zMu} {o day x y : Int32} {K : Option zV → zMu → Prop} (hn : μ 48 0 5 = nI n) (h1 : okA n o day x y → K (some (zI 1)) μ) (h0 : ¬ okA n o day x y → K (some (zI 0)) μ) : Ct (d + 1) m_Mo_isAsked [zR 48 0, zI o, zI day, zI x, zI y] μ K := by
  refine zmeet rfl (Nat.le_of_ble_eq_true rfl) (fun S => ?_)
  unfold okA okI at h1 h0
  rw [← hn] at h1 h0
  repeat' (first
    | refine c_Mo_isIn (lo := 0) (hi := 9) rfl rfl (fun _ => ?_) (fun _ => ?_)
    | refine c_Mo_isPerson (fun _ => ?_) (fun _ => ?_)
    | exact h0 (by grind)
    | exact h1 (by grind)
    | (refine zs k_Mo_isAsked rfl ?_; conv => whnf)
    | refine ⟨Nat.zero_lt_one, rfl, ?_⟩
    | refine ⟨rfl, ?_⟩
    | refine ⟨⟨Nat.zero_lt_one, rfl⟩, Nat.le_of_ble_eq_true rfl, ?_⟩
    | refine ⟨Nat.le_of_ble_eq_true rfl, Nat.le_of_ble_eq_true rfl, ?_⟩
    | refine ⟨(by first | exact Nat.zero_lt_one | assumption | omega), (by first | assumption | exact vp_in_nI (by omega) (by omega) | (unfold vp_in; decide)), ?_⟩
    | refine ⟨(by first | exact Nat.zero_lt_one | assumption | omega), rfl, ?_⟩
    | refine ⟨⟨(by first | exact Nat.zero_lt_one | assumption | omega), rfl⟩, Nat.le_of_ble_eq_true rfl, ?_⟩
    | refine ⟨(by first | exact Nat.zero_lt_one | assumption | omega), ?_⟩
    | refine ⟨Or.inl rfl, ?_⟩
    | refine ⟨Or.inr (Or.inl rfl), ?_⟩
    | refine ⟨Or.inr (Or.inr rfl), ?_⟩
    | refine ⟨Or.inr ⟨rfl, (by first | exact Or.inl rfl | exact Or.inr rfl | assumption)⟩, ?_⟩
    | refine ⟨fun h => absurd h (by decide), fun _ => ?_⟩
    | refine ⟨fun _ => ?_, fun h => absurd h (by decide)⟩
    | refine ⟨fun h => ?_, fun h => ?_⟩
    | fail)
theorem c_De_isOccasion {d : Nat} {μ : zMu} {o day : Int32} {K : Option zV → zMu → Prop} (h1 : (0 ≤ o ∧ o ≤ 9) ∧ 0 ≤ day → K (some (zI 1)) μ) (h0 : ¬ ((0 ≤ o ∧ o ≤ 9) ∧ 0 ≤ day) → K (some (zI 0)) μ) : Ct d m_De_isOccasion [zI o, zI day] μ K := by
  refine zmeet rfl (Nat.le_of_ble_eq_true rfl) (fun S => ?_)
  repeat' (first
    | exact h0 (by grind)
    | exact h1 (by grind)
    | (refine zs k_De_isOccasion rfl ?_; conv => whnf)
    | refine ⟨Nat.zero_lt_one, rfl, ?_⟩
    | refine ⟨rfl, ?_⟩
    | refine ⟨⟨Nat.zero_lt_one, rfl⟩, Nat.le_of_ble_eq_true rfl, ?_⟩
    | refine ⟨Nat.le_of_ble_eq_true rfl, Nat.le_of_ble_eq_true rfl, ?_⟩
    | refine ⟨(by first | exact Nat.zero_lt_one | assumption | omega), (by first | assumption | exact vp_in_nI (by omega) (by omega) | (unfold vp_in; decide)), ?_⟩
    | refine ⟨(by first | exact Nat.zero_lt_one | assumption | omega), rfl, ?_⟩
    | refine ⟨⟨(by first | exact Nat.zero_lt_one | assumption | omega), rfl⟩, Nat.le_of_ble_eq_true rfl, ?_⟩
    | refine ⟨(by first | exact Nat.zero_lt_one | assumption | omega), ?_⟩
    | refine ⟨Or.inl rfl, ?_⟩
    | refine ⟨Or.inr (Or.inl rfl), ?_⟩
    | refine ⟨Or.inr (Or.inr rfl), ?_⟩
    | refine ⟨Or.inr ⟨rfl, (by first | exact Or.inl rfl | exact Or.inr rfl | assumption)⟩, ?_⟩
    | refine ⟨fun h => absurd h (by decide), fun _ => ?_⟩
    | refine ⟨fun _ => ?_, fun h => absurd h (by decide)⟩
    | refine ⟨fun h => ?_, fun h => ?_⟩
    | fail)
theorem c_Mo_isOccasion {d : Nat} {μ : zMu} {o day : Int32} {K : Option zV → zMu → Prop} (h1 : (0 ≤ o ∧ o ≤ 9) ∧ 0 ≤ day → K (some (zI 1)) μ) (h0 : ¬ ((0 ≤ o ∧ o ≤ 9) ∧ 0 ≤ day) → K (some (zI 0)) μ) : Ct (d + 1) m_Mo_isOccasion [zI o, zI day] μ K := by
  refine zmeet rfl (Nat.le_of_ble_eq_true rfl) (fun S => ?_)
  repeat' (first
    | refine c_Mo_isIn (lo := 0) (hi := 9) rfl rfl (fun _ => ?_) (fun _ => ?_)
    | exact h0 (by grind)
    | exact h1 (by grind)
    | (refine zs k_Mo_isOccasion rfl ?_; conv => whnf)
    | refine ⟨Nat.zero_lt_one, rfl, ?_⟩
    | refine ⟨rfl, ?_⟩
    | refine ⟨⟨Nat.zero_lt_one, rfl⟩, Nat.le_of_ble_eq_true rfl, ?_⟩
    | refine ⟨Nat.le_of_ble_eq_true rfl, Nat.le_of_ble_eq_true rfl, ?_⟩
    | refine ⟨(by first | exact Nat.zero_lt_one | assumption | omega), (by first | assumption | exact vp_in_nI (by omega) (by omega) | (unfold vp_in; decide)), ?_⟩
    | refine ⟨(by first | exact Nat.zero_lt_one | assumption | omega), rfl, ?_⟩
    | refine ⟨⟨(by first | exact Nat.zero_lt_one | assumption | omega), rfl⟩, Nat.le_of_ble_eq_true rfl, ?_⟩
    | refine ⟨(by first | exact Nat.zero_lt_one | assumption | omega), ?_⟩
    | refine ⟨Or.inl rfl, ?_⟩
    | refine ⟨Or.inr (Or.inl rfl), ?_⟩
    | refine ⟨Or.inr (Or.inr rfl), ?_⟩
    | refine ⟨Or.inr ⟨rfl, (by first | exact Or.inl rfl | exact Or.inr rfl | assumption)⟩, ?_⟩
    | refine ⟨fun h => absurd h (by decide), fun _ => ?_⟩
    | refine ⟨fun _ => ?_, fun h => absurd h (by decide)⟩
    | refine ⟨fun h => ?_, fun h => ?_⟩
    | fail)
theorem c_De_areTwo {d n : Nat} {μ : zMu} {x y : Int32} {K : Option zV → zMu → Prop} (hn : μ 1 0 1 = nI n) (h1 : okI n x ∧ okI n y ∧ ¬ x = y → K (some (zI 1)) μ) (h0 : ¬ (okI n x ∧ okI n y ∧ ¬ x = y) → K (some (zI 0)) μ) : Ct (d + 1) m_De_areTwo [zR 0 0, zI x, zI y] μ K := by
  refine zmeet rfl (Nat.le_of_ble_eq_true rfl) (fun S => ?_)
  unfold okI at h1 h0
  rw [← hn] at h1 h0
  repeat' (first
    | refine c_Ro_hasPerson (fun _ _ => ?_) (fun _ => ?_)
    | exact h0 (by grind)
    | exact h1 (by grind)
    | (refine zs k_De_areTwo rfl ?_; conv => whnf)
    | refine ⟨Nat.zero_lt_one, rfl, ?_⟩
    | refine ⟨rfl, ?_⟩
    | refine ⟨⟨Nat.zero_lt_one, rfl⟩, Nat.le_of_ble_eq_true rfl, ?_⟩
    | refine ⟨Nat.le_of_ble_eq_true rfl, Nat.le_of_ble_eq_true rfl, ?_⟩
    | refine ⟨(by first | exact Nat.zero_lt_one | assumption | omega), (by first | assumption | exact vp_in_nI (by omega) (by omega) | (unfold vp_in; decide)), ?_⟩
    | refine ⟨(by first | exact Nat.zero_lt_one | assumption | omega), rfl, ?_⟩
    | refine ⟨⟨(by first | exact Nat.zero_lt_one | assumption | omega), rfl⟩, Nat.le_of_ble_eq_true rfl, ?_⟩
    | refine ⟨(by first | exact Nat.zero_lt_one | assumption | omega), ?_⟩
    | refine ⟨Or.inl rfl, ?_⟩
    | refine ⟨Or.inr (Or.inl rfl), ?_⟩
    | refine ⟨Or.inr (Or.inr rfl), ?_⟩
    | refine ⟨Or.inr ⟨rfl, (by first | exact Or.inl rfl | exact Or.inr rfl | assumption)⟩, ?_⟩
    | refine ⟨fun h => absurd h (by decide), fun _ => ?_⟩
    | refine ⟨fun _ => ?_, fun h => absurd h (by decide)⟩
    | refine ⟨fun h => ?_, fun h => ?_⟩
    | fail)
theorem okA_of {n : Nat} {o day x y : Int32} (hn : n < 2 ^ 31) (h : okA n o day x y) : ∃ p q, p < n ∧ q < n ∧ p ≠ q ∧ x = nI p ∧ y = nI q := by
  obtain ⟨-, -, hx, hy, hne⟩ := h
  rcases zIx x hn with ⟨p, hp, rfl⟩ | q
  case inr => exact absurd hx q
  rcases zIx y hn with ⟨q, hq, rfl⟩ | q
  case inr => exact absurd hy q
  exact ⟨p, q, hp, hq, fun e => hne (by rw [e]), rfl, rfl⟩
/-! DESK: decides, ends, hand, ahead, why, quarrel -/
theorem gRu_ok {μ : zMu} {nr : Nat} (g : gRu μ nr) : ∀ r, r < nr → cRok μ r := fun r hr => (g.2.2.2 r hr).1
theorem c_De_decides {d n nr ns : Nat} {μ : zMu} {v o day x y : Int32} {K : Option zV → zMu → Prop} (g : gPe μ ns n) (g4 : gRu μ nr) (h0 : ¬ (okI nr v ∧ okA n o day x y) → K (some (zI (-2))) μ) (h1 : ∀ r p q, okA n o day x y → r < nr → p < n → q < n → v = nI r → x = nI p → y = nI q → K (some (zI (pV (cF μ) (cRu μ r) o day p q))) μ) : Ct (d + 3) m_De_decides [zR 0 0, zI v, zI o, zI day, zI x, zI y] μ K := by
  refine zmeet rfl (Nat.le_of_ble_eq_true rfl) (fun S => ?_)
  have h20 := g.2.2.1
  have h16 := g4.2.2.1
  by_cases hv : okI nr v
  case neg =>
    have hk := h0 (fun q => hv q.1)
    have hv' : ¬ (0 ≤ v ∧ v < μ 3 0 0) := by rw [g4.1]; exact hv
    repeat' (first
      | refine c_Bo_hasRule (fun h h' => absurd ⟨h, h'⟩ hv') (fun _ => ?_)
      | exact hk
      | (refine zs k_De_decides rfl ?_; conv => whnf)
      | refine ⟨Nat.zero_lt_one, rfl, ?_⟩
      | refine ⟨rfl, ?_⟩
      | refine ⟨⟨Nat.zero_lt_one, rfl⟩, Nat.le_of_ble_eq_true rfl, ?_⟩
      | refine ⟨Nat.le_of_ble_eq_true rfl, Nat.le_of_ble_eq_true rfl, ?_⟩
      | refine ⟨(by first | exact Nat.zero_lt_one | assumption | omega), (by first | assumption | exact vp_in_nI (by omega) (by omega) | (unfold vp_in; decide)), ?_⟩
      | refine ⟨(by first | exact Nat.zero_lt_one | assumption | omega), rfl, ?_⟩
      | refine ⟨⟨(by first | exact Nat.zero_lt_one | assumption | omega), rfl⟩, Nat.le_of_ble_eq_true rfl, ?_⟩
      | refine ⟨(by first | exact Nat.zero_lt_one | assumption | omega), ?_⟩
      | refine ⟨Or.inl rfl, ?_⟩
      | refine ⟨Or.inr (Or.inl rfl), ?_⟩
      | refine ⟨Or.inr (Or.inr rfl), ?_⟩
      | refine ⟨Or.inr ⟨rfl, (by first | exact Or.inl rfl | exact Or.inr rfl | assumption)⟩, ?_⟩
      | refine ⟨fun h => absurd h (by decide), fun _ => ?_⟩
      | refine ⟨fun _ => ?_, fun h => absurd h (by decide)⟩
      | refine ⟨fun h => ?_, fun h => ?_⟩
      | fail)
  have hv' : 0 ≤ v ∧ v < μ 3 0 0 := by rw [g4.1]; exact hv
  by_cases ho : okA n o day x y
  case neg =>
    have hk := h0 (fun q => ho q.2)
    repeat' (first
      | refine c_Bo_hasRule (fun _ _ => ?_) (fun h => absurd hv' h)
      | refine c_De_isOccasion (fun i1 => ?_) (fun i1 => ?_)
      | refine c_De_areTwo g.1 (fun i2 => absurd ⟨i1.1, i1.2, i2⟩ ho) (fun i2 => ?_)
      | exact hk
      | (refine zs k_De_decides rfl ?_; conv => whnf)
      | refine ⟨Nat.zero_lt_one, rfl, ?_⟩
      | refine ⟨rfl, ?_⟩
      | refine ⟨⟨Nat.zero_lt_one, rfl⟩, Nat.le_of_ble_eq_true rfl, ?_⟩
      | refine ⟨Nat.le_of_ble_eq_true rfl, Nat.le_of_ble_eq_true rfl, ?_⟩
      | refine ⟨(by first | exact Nat.zero_lt_one | assumption | omega), (by first | assumption | exact vp_in_nI (by omega) (by omega) | (unfold vp_in; decide)), ?_⟩
      | refine ⟨(by first | exact Nat.zero_lt_one | assumption | omega), rfl, ?_⟩
      | refine ⟨⟨(by first | exact Nat.zero_lt_one | assumption | omega), rfl⟩, Nat.le_of_ble_eq_true rfl, ?_⟩
      | refine ⟨(by first | exact Nat.zero_lt_one | assumption | omega), ?_⟩
      | refine ⟨Or.inl rfl, ?_⟩
      | refine ⟨Or.inr (Or.inl rfl), ?_⟩
      | refine ⟨Or.inr (Or.inr rfl), ?_⟩
      | refine ⟨Or.inr ⟨rfl, (by first | exact Or.inl rfl | exact Or.inr rfl | assumption)⟩, ?_⟩
      | refine ⟨fun h => absurd h (by decide), fun _ => ?_⟩
      | refine ⟨fun _ => ?_, fun h => absurd h (by decide)⟩
      | refine ⟨fun h => ?_, fun h => ?_⟩
      | fail)
  obtain ⟨p, q, hp, hq, hpq, rfl, rfl⟩ := okA_of (by omega) ho
  rcases zIx v (n := nr) (by omega) with ⟨r, hr, rfl⟩ | w
  case inr => exact absurd hv w
  have hk := h1 r p q ho hr hp hq rfl rfl rfl
  have cr : (nI r).toNatClampNeg = r := nI_clamp (by omega)
  have cp : (nI p).toNatClampNeg = p := nI_clamp (by omega)
  have cq : (nI q).toNatClampNeg = q := nI_clamp (by omega)
  have hvr : vp_in (nI r) 16 := vp_in_nI (by omega) (by omega)
  have hlr : (nI r).toNatClampNeg < 16 := by omega
  have hok : cRok μ (nI r).toNatClampNeg := by rw [cr]; exact gRu_ok g4 r hr
  repeat' (first
    | refine c_Bo_hasRule (fun _ _ => ?_) (fun h => absurd hv' h)
    | refine c_De_isOccasion (fun i1 => ?_) (fun i1 => absurd ⟨ho.1, ho.2.1⟩ i1)
    | refine c_De_areTwo g.1 (fun i2 => ?_) (fun i2 => absurd ho.2.2 i2)
    | refine c_Ru_verdict hlr hok (vp_in_nI (by omega) (by omega)) (vp_in_nI (by omega) (by omega)) ?_
    | exact zKe hk (by rw [cr, cp, cq]) rfl
    | (refine zs k_De_decides rfl ?_; conv => whnf)
    | refine ⟨Nat.zero_lt_one, rfl, ?_⟩
    | refine ⟨rfl, ?_⟩
    | refine ⟨⟨Nat.zero_lt_one, rfl⟩, Nat.le_of_ble_eq_true rfl, ?_⟩
    | refine ⟨Nat.le_of_ble_eq_true rfl, Nat.le_of_ble_eq_true rfl, ?_⟩
    | refine ⟨(by first | exact Nat.zero_lt_one | assumption | omega), (by first | assumption | exact vp_in_nI (by omega) (by omega) | (unfold vp_in; decide)), ?_⟩
    | refine ⟨(by first | exact Nat.zero_lt_one | assumption | omega), rfl, ?_⟩
    | refine ⟨⟨(by first | exact Nat.zero_lt_one | assumption | omega), rfl⟩, Nat.le_of_ble_eq_true rfl, ?_⟩
    | refine ⟨(by first | exact Nat.zero_lt_one | assumption | omega), ?_⟩
    | refine ⟨Or.inl rfl, ?_⟩
    | refine ⟨Or.inr (Or.inl rfl), ?_⟩
    | refine ⟨Or.inr (Or.inr rfl), ?_⟩
    | refine ⟨Or.inr ⟨rfl, (by first | exact Or.inl rfl | exact Or.inr rfl | assumption)⟩, ?_⟩
    | refine ⟨fun h => absurd h (by decide), fun _ => ?_⟩
    | refine ⟨fun _ => ?_, fun h => absurd h (by decide)⟩
    | refine ⟨fun h => ?_, fun h => ?_⟩
    | fail)
theorem c_Mo_decides {d n nr ns : Nat} {μ : zMu} {v o day x y : Int32} {K : Option zV → zMu → Prop} (g1 : gSt μ ns) (g : gPe μ ns n) (g4 : gRu μ nr) (h0 : ¬ (okI nr v ∧ okA n o day x y) → K (some (zI (-2))) μ) (h1 : ∀ r p q, okA n o day x y → r < nr → p < n → q < n → v = nI r → x = nI p → y = nI q → K (some (zI (pV (cF μ) (cRu μ r) o day p q))) μ) : Ct (d + 5) m_Mo_decides [zR 48 0, zI v, zI o, zI day, zI x, zI y] μ K := by
  refine zmeet rfl (Nat.le_of_ble_eq_true rfl) (fun S => ?_)
  have h20 := g.2.2.1
  have h16 := g4.2.2.1
  by_cases hv : okI nr v
  case neg =>
    have hk := h0 (fun q => hv q.1)
    unfold okI at hv
    rw [← g4.2.1] at hv
    by_cases v0 : v < 0
    · skip
      repeat' (first
        | refine br_t v0 ?_
        | exact hk
        | (refine zs k_Mo_decides rfl ?_; conv => whnf)
        | refine ⟨Nat.zero_lt_one, rfl, ?_⟩
        | refine ⟨rfl, ?_⟩
        | refine ⟨⟨Nat.zero_lt_one, rfl⟩, Nat.le_of_ble_eq_true rfl, ?_⟩
        | refine ⟨Nat.le_of_ble_eq_true rfl, Nat.le_of_ble_eq_true rfl, ?_⟩
        | refine ⟨(by first | exact Nat.zero_lt_one | assumption | omega), (by first | assumption | exact vp_in_nI (by omega) (by omega) | (unfold vp_in; decide)), ?_⟩
        | refine ⟨(by first | exact Nat.zero_lt_one | assumption | omega), rfl, ?_⟩
        | refine ⟨⟨(by first | exact Nat.zero_lt_one | assumption | omega), rfl⟩, Nat.le_of_ble_eq_true rfl, ?_⟩
        | refine ⟨(by first | exact Nat.zero_lt_one | assumption | omega), ?_⟩
        | refine ⟨Or.inl rfl, ?_⟩
        | refine ⟨Or.inr (Or.inl rfl), ?_⟩
        | refine ⟨Or.inr (Or.inr rfl), ?_⟩
        | refine ⟨Or.inr ⟨rfl, (by first | exact Or.inl rfl | exact Or.inr rfl | assumption)⟩, ?_⟩
        | refine ⟨fun h => absurd h (by decide), fun _ => ?_⟩
        | refine ⟨fun _ => ?_, fun h => absurd h (by decide)⟩
        | refine ⟨fun h => ?_, fun h => ?_⟩
        | fail)
    · have v1 : μ 48 0 15 ≤ v := by grind
      repeat' (first
        | refine br_f v0 ?_
        | refine br_t v1 ?_
        | exact hk
        | (refine zs k_Mo_decides rfl ?_; conv => whnf)
        | refine ⟨Nat.zero_lt_one, rfl, ?_⟩
        | refine ⟨rfl, ?_⟩
        | refine ⟨⟨Nat.zero_lt_one, rfl⟩, Nat.le_of_ble_eq_true rfl, ?_⟩
        | refine ⟨Nat.le_of_ble_eq_true rfl, Nat.le_of_ble_eq_true rfl, ?_⟩
        | refine ⟨(by first | exact Nat.zero_lt_one | assumption | omega), (by first | assumption | exact vp_in_nI (by omega) (by omega) | (unfold vp_in; decide)), ?_⟩
        | refine ⟨(by first | exact Nat.zero_lt_one | assumption | omega), rfl, ?_⟩
        | refine ⟨⟨(by first | exact Nat.zero_lt_one | assumption | omega), rfl⟩, Nat.le_of_ble_eq_true rfl, ?_⟩
        | refine ⟨(by first | exact Nat.zero_lt_one | assumption | omega), ?_⟩
        | refine ⟨Or.inl rfl, ?_⟩
        | refine ⟨Or.inr (Or.inl rfl), ?_⟩
        | refine ⟨Or.inr (Or.inr rfl), ?_⟩
        | refine ⟨Or.inr ⟨rfl, (by first | exact Or.inl rfl | exact Or.inr rfl | assumption)⟩, ?_⟩
        | refine ⟨fun h => absurd h (by decide), fun _ => ?_⟩
        | refine ⟨fun _ => ?_, fun h => absurd h (by decide)⟩
        | refine ⟨fun h => ?_, fun h => ?_⟩
        | fail)
  have v0 : ¬ v < 0 := by have := hv.1; grind
  have v1 : ¬ μ 48 0 15 ≤ v := by rw [g4.2.1]; have := hv.2; grind
  by_cases ho : okA n o day x y
  case neg =>
    have hk := h0 (fun q => ho q.2)
    repeat' (first
      | refine br_f v0 ?_
      | refine br_f v1 ?_
      | refine c_Mo_isAsked g.2.1 (fun q => absurd q ho) (fun _ => ?_)
      | exact hk
      | (refine zs k_Mo_decides rfl ?_; conv => whnf)
      | refine ⟨Nat.zero_lt_one, rfl, ?_⟩
      | refine ⟨rfl, ?_⟩
      | refine ⟨⟨Nat.zero_lt_one, rfl⟩, Nat.le_of_ble_eq_true rfl, ?_⟩
      | refine ⟨Nat.le_of_ble_eq_true rfl, Nat.le_of_ble_eq_true rfl, ?_⟩
      | refine ⟨(by first | exact Nat.zero_lt_one | assumption | omega), (by first | assumption | exact vp_in_nI (by omega) (by omega) | (unfold vp_in; decide)), ?_⟩
      | refine ⟨(by first | exact Nat.zero_lt_one | assumption | omega), rfl, ?_⟩
      | refine ⟨⟨(by first | exact Nat.zero_lt_one | assumption | omega), rfl⟩, Nat.le_of_ble_eq_true rfl, ?_⟩
      | refine ⟨(by first | exact Nat.zero_lt_one | assumption | omega), ?_⟩
      | refine ⟨Or.inl rfl, ?_⟩
      | refine ⟨Or.inr (Or.inl rfl), ?_⟩
      | refine ⟨Or.inr (Or.inr rfl), ?_⟩
      | refine ⟨Or.inr ⟨rfl, (by first | exact Or.inl rfl | exact Or.inr rfl | assumption)⟩, ?_⟩
      | refine ⟨fun h => absurd h (by decide), fun _ => ?_⟩
      | refine ⟨fun _ => ?_, fun h => absurd h (by decide)⟩
      | refine ⟨fun h => ?_, fun h => ?_⟩
      | fail)
  obtain ⟨p, q, hp, hq, hpq, rfl, rfl⟩ := okA_of (by omega) ho
  rcases zIx v (n := nr) (by omega) with ⟨r, hr, rfl⟩ | w
  case inr => exact absurd hv w
  have hk := h1 r p q ho hr hp hq rfl rfl rfl
  repeat' (first
    | refine br_f v0 ?_
    | refine br_f v1 ?_
    | refine c_Mo_isAsked g.2.1 (fun _ => ?_) (fun q => absurd ho q)
    | refine c_Mo_decided g1 g (by omega) (g4.2.2.2 r hr) hp hq rfl rfl rfl ?_
    | exact hk
    | (refine zs k_Mo_decides rfl ?_; conv => whnf)
    | refine ⟨Nat.zero_lt_one, rfl, ?_⟩
    | refine ⟨rfl, ?_⟩
    | refine ⟨⟨Nat.zero_lt_one, rfl⟩, Nat.le_of_ble_eq_true rfl, ?_⟩
    | refine ⟨Nat.le_of_ble_eq_true rfl, Nat.le_of_ble_eq_true rfl, ?_⟩
    | refine ⟨(by first | exact Nat.zero_lt_one | assumption | omega), (by first | assumption | exact vp_in_nI (by omega) (by omega) | (unfold vp_in; decide)), ?_⟩
    | refine ⟨(by first | exact Nat.zero_lt_one | assumption | omega), rfl, ?_⟩
    | refine ⟨⟨(by first | exact Nat.zero_lt_one | assumption | omega), rfl⟩, Nat.le_of_ble_eq_true rfl, ?_⟩
    | refine ⟨(by first | exact Nat.zero_lt_one | assumption | omega), ?_⟩
    | refine ⟨Or.inl rfl, ?_⟩
    | refine ⟨Or.inr (Or.inl rfl), ?_⟩
    | refine ⟨Or.inr (Or.inr rfl), ?_⟩
    | refine ⟨Or.inr ⟨rfl, (by first | exact Or.inl rfl | exact Or.inr rfl | assumption)⟩, ?_⟩
    | refine ⟨fun h => absurd h (by decide), fun _ => ?_⟩
    | refine ⟨fun _ => ?_, fun h => absurd h (by decide)⟩
    | refine ⟨fun h => ?_, fun h => ?_⟩
    | fail)
theorem b_decides {μ : zMu} {v o day x y : Int32} (h : Rel μ) : Both m_De_decides m_Mo_decides [zI v, zI o, zI day, zI x, zI y] μ := by
  intro d K hK
  obtain ⟨ns, n, nr, nh, nt, nb, L, g1, g2, g3, g4, g5, g6, g7, g8, g9, g10, g11⟩ := id h
  have h20 := g2.2.2.1
  have h16 := g4.2.2.1
  refine c_De_decides g2 g4 (fun a => hK _ _ (fun d K2 hK2 => ?_)) (fun r p q a hr hp hq ev ex ey => hK _ _ (fun d K2 hK2 => ?_))
  · exact c_Mo_decides g1 g2 g4 (fun _ => hK2 _ h) (fun r p q b hr hp hq ev => absurd ⟨by rw [ev]; exact okI_i hr (by omega), b⟩ a)
  · subst ev ex ey
    refine c_Mo_decides g1 g2 g4 (fun b => absurd ⟨okI_i hr (by omega), a⟩ b) (fun r' p' q' _ hr' hp' hq' ev ex ey => ?_)
    obtain rfl := (nI_eq (by omega) (by omega)).mp ev
    obtain rfl := (nI_eq (by omega) (by omega)).mp ex
    obtain rfl := (nI_eq (by omega) (by omega)).mp ey
    exact hK2 _ h
theorem c_De_ends {d nr : Nat} {μ : zMu} {v y : Int32} {K : Option zV → zMu → Prop} (g4 : gRu μ nr) (h0 : ¬ okI nr v → K (some (zI (-1))) μ) (h1 : ∀ r, r < nr → v = nI r → ¬ (μ 8 r 5 < y ∧ y < μ 8 r 6) → K (some (zI (-2))) μ) (h2 : ∀ r, r < nr → v = nI r → (μ 8 r 5 < y ∧ y < μ 8 r 6) → K (some (zI (μ 8 r 6))) (zu μ 8 r 6 y)) : Ct (d + 1) m_De_ends [zR 0 0, zI v, zI y] μ K := by
  refine zmeet rfl (Nat.le_of_ble_eq_true rfl) (fun S => ?_)
  have h16 := g4.2.2.1
  rcases zIx v (n := nr) (by omega) with ⟨r, hr, rfl⟩ | hv
  case inr =>
    have hk := h0 hv
    repeat' (first
      | refine c_Bo_hasRule (fun h h' => absurd (by rw [← g4.1]; exact ⟨h, h'⟩) hv) (fun _ => ?_)
      | exact hk
      | (refine zs k_De_ends rfl ?_; conv => whnf)
      | refine ⟨Nat.zero_lt_one, rfl, ?_⟩
      | refine ⟨rfl, ?_⟩
      | refine ⟨⟨Nat.zero_lt_one, rfl⟩, Nat.le_of_ble_eq_true rfl, ?_⟩
      | refine ⟨Nat.le_of_ble_eq_true rfl, Nat.le_of_ble_eq_true rfl, ?_⟩
      | refine ⟨(by first | exact Nat.zero_lt_one | assumption | omega), (by first | assumption | exact vp_in_nI (by omega) (by omega) | (unfold vp_in; decide)), ?_⟩
      | refine ⟨(by first | exact Nat.zero_lt_one | assumption | omega), rfl, ?_⟩
      | refine ⟨⟨(by first | exact Nat.zero_lt_one | assumption | omega), rfl⟩, Nat.le_of_ble_eq_true rfl, ?_⟩
      | refine ⟨(by first | exact Nat.zero_lt_one | assumption | omega), ?_⟩
      | refine ⟨Or.inl rfl, ?_⟩
      | refine ⟨Or.inr (Or.inl rfl), ?_⟩
      | refine ⟨Or.inr (Or.inr rfl), ?_⟩
      | refine ⟨Or.inr ⟨rfl, (by first | exact Or.inl rfl | exact Or.inr rfl | assumption)⟩, ?_⟩
      | refine ⟨fun h => absurd h (by decide), fun _ => ?_⟩
      | refine ⟨fun _ => ?_, fun h => absurd h (by decide)⟩
      | refine ⟨fun h => ?_, fun h => ?_⟩
      | fail)
  have hv' : 0 ≤ nI r ∧ nI r < μ 3 0 0 := by rw [g4.1]; exact zIx_y hr (by omega)
  have cr : (nI r).toNatClampNeg = r := nI_clamp (by omega)
  have hvr : vp_in (nI r) 16 := vp_in_nI (by omega) (by omega)
  have hlr : (nI r).toNatClampNeg < 16 := by omega
  by_cases ho : μ 8 r 5 < y ∧ y < μ 8 r 6
  · have hk := h2 r hr rfl ho
    rw [← cr] at hk ho
    have o1 : ¬ y ≤ μ 8 (nI r).toNatClampNeg 5 := by have := ho.1; grind
    repeat' (first
      | refine c_Bo_hasRule (fun _ _ => ?_) (fun h => absurd hv' h)
      | refine br_f o1 ?_
      | refine br_t ho.2 ?_
      | exact hk
      | (refine zs k_De_ends rfl ?_; conv => whnf)
      | refine ⟨Nat.zero_lt_one, rfl, ?_⟩
      | refine ⟨rfl, ?_⟩
      | refine ⟨⟨Nat.zero_lt_one, rfl⟩, Nat.le_of_ble_eq_true rfl, ?_⟩
      | refine ⟨Nat.le_of_ble_eq_true rfl, Nat.le_of_ble_eq_true rfl, ?_⟩
      | refine ⟨(by first | exact Nat.zero_lt_one | assumption | omega), (by first | assumption | exact vp_in_nI (by omega) (by omega) | (unfold vp_in; decide)), ?_⟩
      | refine ⟨(by first | exact Nat.zero_lt_one | assumption | omega), rfl, ?_⟩
      | refine ⟨⟨(by first | exact Nat.zero_lt_one | assumption | omega), rfl⟩, Nat.le_of_ble_eq_true rfl, ?_⟩
      | refine ⟨(by first | exact Nat.zero_lt_one | assumption | omega), ?_⟩
      | refine ⟨Or.inl rfl, ?_⟩
      | refine ⟨Or.inr (Or.inl rfl), ?_⟩
      | refine ⟨Or.inr (Or.inr rfl), ?_⟩
      | refine ⟨Or.inr ⟨rfl, (by first | exact Or.inl rfl | exact Or.inr rfl | assumption)⟩, ?_⟩
      | refine ⟨fun h => absurd h (by decide), fun _ => ?_⟩
      | refine ⟨fun _ => ?_, fun h => absurd h (by decide)⟩
      | refine ⟨fun h => ?_, fun h => ?_⟩
      | fail)
  · have hk := h1 r hr rfl ho
    rw [← cr] at ho
    repeat' (first
      | refine c_Bo_hasRule (fun _ _ => ?_) (fun h => absurd hv' h)
      | exact hk
      | (refine zs k_De_ends rfl ?_; conv => whnf)
      | refine ⟨Nat.zero_lt_one, rfl, ?_⟩
      | refine ⟨rfl, ?_⟩
      | refine ⟨⟨Nat.zero_lt_one, rfl⟩, Nat.le_of_ble_eq_true rfl, ?_⟩
      | refine ⟨Nat.le_of_ble_eq_true rfl, Nat.le_of_ble_eq_true rfl, ?_⟩
      | refine ⟨(by first | exact Nat.zero_lt_one | assumption | omega), (by first | assumption | exact vp_in_nI (by omega) (by omega) | (unfold vp_in; decide)), ?_⟩
      | refine ⟨(by first | exact Nat.zero_lt_one | assumption | omega), rfl, ?_⟩
      | refine ⟨⟨(by first | exact Nat.zero_lt_one | assumption | omega), rfl⟩, Nat.le_of_ble_eq_true rfl, ?_⟩
      | refine ⟨(by first | exact Nat.zero_lt_one | assumption | omega), ?_⟩
      | refine ⟨Or.inl rfl, ?_⟩
      | refine ⟨Or.inr (Or.inl rfl), ?_⟩
      | refine ⟨Or.inr (Or.inr rfl), ?_⟩
      | refine ⟨Or.inr ⟨rfl, (by first | exact Or.inl rfl | exact Or.inr rfl | assumption)⟩, ?_⟩
      | refine ⟨fun h => absurd h (by decide), fun _ => ?_⟩
      | refine ⟨fun _ => ?_, fun h => absurd h (by decide)⟩
      | refine ⟨fun h => ?_, fun h => ?_⟩
      | exact absurd (by grind) ho
      | fail)
theorem c_Mo_ends {d nr : Nat} {μ : zMu} {v y : Int32} {K : Option zV → zMu → Prop} (hn : μ 48 0 15 = nI nr) (h16 : nr ≤ 16) (h0 : ¬ okI nr v → K (some (zI (-1))) μ) (h1 : ∀ r, r < nr → v = nI r → ¬ (μ 70 0 r < y ∧ y < μ 71 0 r) → K (some (zI (-2))) μ) (h2 : ∀ r, r < nr → v = nI r → (μ 70 0 r < y ∧ y < μ 71 0 r) → K (some (zI (μ 71 0 r))) (zu μ 71 0 r y)) : Ct (d + 1) m_Mo_ends [zR 48 0, zI v, zI y] μ K := by
  refine zmeet rfl (Nat.le_of_ble_eq_true rfl) (fun S => ?_)
  rcases zIx v (n := nr) (by omega) with ⟨r, hr, rfl⟩ | hv
  case inr =>
    have hk := h0 hv
    rw [← hn] at hv
    by_cases v0 : v < 0
    · skip
      repeat' (first
        | refine br_t v0 ?_
        | exact hk
        | (refine zs k_Mo_ends rfl ?_; conv => whnf)
        | refine ⟨Nat.zero_lt_one, rfl, ?_⟩
        | refine ⟨rfl, ?_⟩
        | refine ⟨⟨Nat.zero_lt_one, rfl⟩, Nat.le_of_ble_eq_true rfl, ?_⟩
        | refine ⟨Nat.le_of_ble_eq_true rfl, Nat.le_of_ble_eq_true rfl, ?_⟩
        | refine ⟨(by first | exact Nat.zero_lt_one | assumption | omega), (by first | assumption | exact vp_in_nI (by omega) (by omega) | (unfold vp_in; decide)), ?_⟩
        | refine ⟨(by first | exact Nat.zero_lt_one | assumption | omega), rfl, ?_⟩
        | refine ⟨⟨(by first | exact Nat.zero_lt_one | assumption | omega), rfl⟩, Nat.le_of_ble_eq_true rfl, ?_⟩
        | refine ⟨(by first | exact Nat.zero_lt_one | assumption | omega), ?_⟩
        | refine ⟨Or.inl rfl, ?_⟩
        | refine ⟨Or.inr (Or.inl rfl), ?_⟩
        | refine ⟨Or.inr (Or.inr rfl), ?_⟩
        | refine ⟨Or.inr ⟨rfl, (by first | exact Or.inl rfl | exact Or.inr rfl | assumption)⟩, ?_⟩
        | refine ⟨fun h => absurd h (by decide), fun _ => ?_⟩
        | refine ⟨fun _ => ?_, fun h => absurd h (by decide)⟩
        | refine ⟨fun h => ?_, fun h => ?_⟩
        | fail)
    · have v1 : ¬ v < μ 48 0 15 := by grind
      repeat' (first
        | refine br_f v0 ?_
        | refine br_f v1 ?_
        | exact hk
        | (refine zs k_Mo_ends rfl ?_; conv => whnf)
        | refine ⟨Nat.zero_lt_one, rfl, ?_⟩
        | refine ⟨rfl, ?_⟩
        | refine ⟨⟨Nat.zero_lt_one, rfl⟩, Nat.le_of_ble_eq_true rfl, ?_⟩
        | refine ⟨Nat.le_of_ble_eq_true rfl, Nat.le_of_ble_eq_true rfl, ?_⟩
        | refine ⟨(by first | exact Nat.zero_lt_one | assumption | omega), (by first | assumption | exact vp_in_nI (by omega) (by omega) | (unfold vp_in; decide)), ?_⟩
        | refine ⟨(by first | exact Nat.zero_lt_one | assumption | omega), rfl, ?_⟩
        | refine ⟨⟨(by first | exact Nat.zero_lt_one | assumption | omega), rfl⟩, Nat.le_of_ble_eq_true rfl, ?_⟩
        | refine ⟨(by first | exact Nat.zero_lt_one | assumption | omega), ?_⟩
        | refine ⟨Or.inl rfl, ?_⟩
        | refine ⟨Or.inr (Or.inl rfl), ?_⟩
        | refine ⟨Or.inr (Or.inr rfl), ?_⟩
        | refine ⟨Or.inr ⟨rfl, (by first | exact Or.inl rfl | exact Or.inr rfl | assumption)⟩, ?_⟩
        | refine ⟨fun h => absurd h (by decide), fun _ => ?_⟩
        | refine ⟨fun _ => ?_, fun h => absurd h (by decide)⟩
        | refine ⟨fun h => ?_, fun h => ?_⟩
        | fail)
  have v0 : ¬ nI r < 0 := nI_pos (by omega)
  have v1 : nI r < μ 48 0 15 := by rw [hn]; exact nI_lt hr (by omega)
  have cr : (nI r).toNatClampNeg = r := nI_clamp (by omega)
  have hvr : vp_in (nI r) 16 := vp_in_nI (by omega) (by omega)
  by_cases ho : μ 70 0 r < y ∧ y < μ 71 0 r
  · have hk := h2 r hr rfl ho
    rw [← cr] at hk ho
    have o1 : ¬ y ≤ μ 70 0 (nI r).toNatClampNeg := by have := ho.1; grind
    repeat' (first
      | refine br_f v0 ?_
      | refine br_t v1 ?_
      | refine br_f o1 ?_
      | refine br_t ho.2 ?_
      | exact hk
      | (refine zs k_Mo_ends rfl ?_; conv => whnf)
      | refine ⟨Nat.zero_lt_one, rfl, ?_⟩
      | refine ⟨rfl, ?_⟩
      | refine ⟨⟨Nat.zero_lt_one, rfl⟩, Nat.le_of_ble_eq_true rfl, ?_⟩
      | refine ⟨Nat.le_of_ble_eq_true rfl, Nat.le_of_ble_eq_true rfl, ?_⟩
      | refine ⟨(by first | exact Nat.zero_lt_one | assumption | omega), (by first | assumption | exact vp_in_nI (by omega) (by omega) | (unfold vp_in; decide)), ?_⟩
      | refine ⟨(by first | exact Nat.zero_lt_one | assumption | omega), rfl, ?_⟩
      | refine ⟨⟨(by first | exact Nat.zero_lt_one | assumption | omega), rfl⟩, Nat.le_of_ble_eq_true rfl, ?_⟩
      | refine ⟨(by first | exact Nat.zero_lt_one | assumption | omega), ?_⟩
      | refine ⟨Or.inl rfl, ?_⟩
      | refine ⟨Or.inr (Or.inl rfl), ?_⟩
      | refine ⟨Or.inr (Or.inr rfl), ?_⟩
      | refine ⟨Or.inr ⟨rfl, (by first | exact Or.inl rfl | exact Or.inr rfl | assumption)⟩, ?_⟩
      | refine ⟨fun h => absurd h (by decide), fun _ => ?_⟩
      | refine ⟨fun _ => ?_, fun h => absurd h (by decide)⟩
      | refine ⟨fun h => ?_, fun h => ?_⟩
      | fail)
  · have hk := h1 r hr rfl ho
    rw [← cr] at ho
    repeat' (first
      | refine br_f v0 ?_
      | refine br_t v1 ?_
      | exact hk
      | (refine zs k_Mo_ends rfl ?_; conv => whnf)
      | refine ⟨Nat.zero_lt_one, rfl, ?_⟩
      | refine ⟨rfl, ?_⟩
      | refine ⟨⟨Nat.zero_lt_one, rfl⟩, Nat.le_of_ble_eq_true rfl, ?_⟩
      | refine ⟨Nat.le_of_ble_eq_true rfl, Nat.le_of_ble_eq_true rfl, ?_⟩
      | refine ⟨(by first | exact Nat.zero_lt_one | assumption | omega), (by first | assumption | exact vp_in_nI (by omega) (by omega) | (unfold vp_in; decide)), ?_⟩
      | refine ⟨(by first | exact Nat.zero_lt_one | assumption | omega), rfl, ?_⟩
      | refine ⟨⟨(by first | exact Nat.zero_lt_one | assumption | omega), rfl⟩, Nat.le_of_ble_eq_true rfl, ?_⟩
      | refine ⟨(by first | exact Nat.zero_lt_one | assumption | omega), ?_⟩
      | refine ⟨Or.inl rfl, ?_⟩
      | refine ⟨Or.inr (Or.inl rfl), ?_⟩
      | refine ⟨Or.inr (Or.inr rfl), ?_⟩
      | refine ⟨Or.inr ⟨rfl, (by first | exact Or.inl rfl | exact Or.inr rfl | assumption)⟩, ?_⟩
      | refine ⟨fun h => absurd h (by decide), fun _ => ?_⟩
      | refine ⟨fun _ => ?_, fun h => absurd h (by decide)⟩
      | refine ⟨fun h => ?_, fun h => ?_⟩
      | exact absurd (by grind) ho
      | fail)
theorem b_ends {μ : zMu} {v y : Int32} (h : Rel μ) : Both m_De_ends m_Mo_ends [zI v, zI y] μ := by
  intro d K hK
  obtain ⟨ns, n, nr, nh, nt, nb, L, g1, g2, g3, g4, g5, g6, g7, g8, g9, g10, g11⟩ := id h
  have h16 := g4.2.2.1
  have e5 : ∀ r, r < nr → μ 70 0 r = μ 8 r 5 := fun r hr => (g4.2.2.2 r hr).2.2.2.2.2.1
  have e6 : ∀ r, r < nr → μ 71 0 r = μ 8 r 6 := fun r hr => (g4.2.2.2 r hr).2.2.2.2.2.2.1
  refine c_De_ends g4 (fun a => hK _ _ (fun d K2 hK2 => ?_)) (fun r hr ev a => hK _ _ (fun d K2 hK2 => ?_)) (fun r hr ev a => hK _ _ (fun d K2 hK2 => ?_))
  · exact c_Mo_ends g4.2.1 h16 (fun _ => hK2 _ h) (fun r hr ev => absurd (by rw [ev]; exact okI_i hr (by omega)) a) (fun r hr ev => absurd (by rw [ev]; exact okI_i hr (by omega)) a)
  · subst ev
    refine c_Mo_ends g4.2.1 h16 (fun q => absurd (okI_i hr (by omega)) q) (fun r' hr' ev _ => hK2 _ h) (fun r' hr' ev b => ?_)
    obtain rfl := (nI_eq (by omega) (by omega)).mp ev
    rw [e5 r hr, e6 r hr] at b
    exact absurd b a
  · subst ev
    refine c_Mo_ends (nr := nr) g4.2.1 h16 (fun q => absurd (okI_i hr (by omega)) q) (fun r' hr' ev b => ?_) (fun r' hr' ev b => ?_)
    · obtain rfl := (nI_eq (by omega) (by omega)).mp ev
      refine absurd ?_ b
      show μ 70 0 r < y ∧ y < μ 71 0 r
      rw [e5 r hr, e6 r hr]
      exact a
    · obtain rfl := (nI_eq (by omega) (by omega)).mp ev
      refine zKe (hK2 _ ?_) ?_ rfl
      · refine ⟨ns, n, nr, nh, nt, nb, L, g1, g2, g3, ⟨g4.1, g4.2.1, h16, fun k hk => ?_⟩, g5, g6, g7, g8, g9, g10, g11⟩
        have e8 : ∀ j, j ≠ 6 → zu (zu μ 8 r 6 y) 71 0 r y 8 k j = μ 8 k j := fun j hj => by
          rw [zu_ne (by omega), zu_ne (by omega)]
        have e86 : zu (zu μ 8 r 6 y) 71 0 r y 8 k 6 = if k = r then y else μ 8 k 6 := by
          rw [zu_ne (by omega)]
          by_cases q : k = r
          · rw [if_pos q, q, zu_eq]
          · rw [if_neg q, zu_ne (by omega)]
        have e71 : zu (zu μ 8 r 6 y) 71 0 r y 71 0 k = if k = r then y else μ 71 0 k := by
          by_cases q : k = r
          · rw [if_pos q, q, zu_eq]
          · rw [if_neg q, zu_ne (by omega), zu_ne (by omega)]
        obtain ⟨a1, a2, a3, a4, a5, a6, a7, a8, a9, a10⟩ := g4.2.2.2 k hk
        unfold gR1 cRok at *
        rw [e8 0 (by omega), e8 1 (by omega), e8 2 (by omega), e8 3 (by omega), e8 4 (by omega), e8 5 (by omega), e86, e71]
        refine ⟨a1, a2, a3, a4, a5, a6, ?_, a8, a9, a10⟩
        by_cases q : k = r
        · rw [if_pos q, if_pos q]
        · rw [if_neg q, if_neg q]
          exact a7
      · exact e6 r hr
theorem c_De_hand {d n nh : Nat} {μ : zMu} {x y : Int32} {K : Option zV → zMu → Prop} (hn : μ 1 0 1 = nI n) (hh : μ 3 0 1 = nI nh) (h20 : nh ≤ 20) (h0 : ¬ (okI n x ∧ okI n y) → K (some (zI (-1))) μ) (h1 : okI n x ∧ okI n y → x = y → K (some (zI (-2))) μ) (h2 : okI n x ∧ okI n y → ¬ x = y → nh = 20 → K (some (zI (-4))) μ) (h3 : okI n x ∧ okI n y → ¬ x = y → nh < 20 → K (some (zI (nI (nh + 1)))) (zu (zu (zu μ 20 0 nh x) 21 0 nh y) 3 0 1 (nI (nh + 1)))) : Ct (d + 1) m_De_hand [zR 0 0, zI x, zI y] μ K := by
  refine zmeet rfl (Nat.le_of_ble_eq_true rfl) (fun S => ?_)
  by_cases ho : okI n x ∧ okI n y
  case neg =>
    have hk := h0 ho
    unfold okI at ho
    rw [← hn] at ho
    repeat' (first
      | refine c_Ro_hasPerson (fun q1 q2 => ?_) (fun q => ?_)
      | exact hk
      | (refine zs k_De_hand rfl ?_; conv => whnf)
      | refine ⟨Nat.zero_lt_one, rfl, ?_⟩
      | refine ⟨rfl, ?_⟩
      | refine ⟨⟨Nat.zero_lt_one, rfl⟩, Nat.le_of_ble_eq_true rfl, ?_⟩
      | refine ⟨Nat.le_of_ble_eq_true rfl, Nat.le_of_ble_eq_true rfl, ?_⟩
      | refine ⟨(by first | exact Nat.zero_lt_one | assumption | omega), (by first | assumption | exact vp_in_nI (by omega) (by omega) | (unfold vp_in; decide)), ?_⟩
      | refine ⟨(by first | exact Nat.zero_lt_one | assumption | omega), rfl, ?_⟩
      | refine ⟨⟨(by first | exact Nat.zero_lt_one | assumption | omega), rfl⟩, Nat.le_of_ble_eq_true rfl, ?_⟩
      | refine ⟨(by first | exact Nat.zero_lt_one | assumption | omega), ?_⟩
      | refine ⟨Or.inl rfl, ?_⟩
      | refine ⟨Or.inr (Or.inl rfl), ?_⟩
      | refine ⟨Or.inr (Or.inr rfl), ?_⟩
      | refine ⟨Or.inr ⟨rfl, (by first | exact Or.inl rfl | exact Or.inr rfl | assumption)⟩, ?_⟩
      | refine ⟨fun h => absurd h (by decide), fun _ => ?_⟩
      | refine ⟨fun _ => ?_, fun h => absurd h (by decide)⟩
      | refine ⟨fun h => ?_, fun h => ?_⟩
      | exact absurd (by grind) ho
      | fail)
  have hx : 0 ≤ x ∧ x < μ 1 0 1 := by rw [hn]; exact ho.1
  have hy : 0 ≤ y ∧ y < μ 1 0 1 := by rw [hn]; exact ho.2
  by_cases he : x = y
  · have hk := h1 ho he
    repeat' (first
      | refine c_Ro_hasPerson (x := x) (fun _ _ => ?_) (fun q => absurd hx q)
      | refine c_Ro_hasPerson (x := y) (fun _ _ => ?_) (fun q => absurd hy q)
      | refine bn_f he ?_
      | exact hk
      | (refine zs k_De_hand rfl ?_; conv => whnf)
      | refine ⟨Nat.zero_lt_one, rfl, ?_⟩
      | refine ⟨rfl, ?_⟩
      | refine ⟨⟨Nat.zero_lt_one, rfl⟩, Nat.le_of_ble_eq_true rfl, ?_⟩
      | refine ⟨Nat.le_of_ble_eq_true rfl, Nat.le_of_ble_eq_true rfl, ?_⟩
      | refine ⟨(by first | exact Nat.zero_lt_one | assumption | omega), (by first | assumption | exact vp_in_nI (by omega) (by omega) | (unfold vp_in; decide)), ?_⟩
      | refine ⟨(by first | exact Nat.zero_lt_one | assumption | omega), rfl, ?_⟩
      | refine ⟨⟨(by first | exact Nat.zero_lt_one | assumption | omega), rfl⟩, Nat.le_of_ble_eq_true rfl, ?_⟩
      | refine ⟨(by first | exact Nat.zero_lt_one | assumption | omega), ?_⟩
      | refine ⟨Or.inl rfl, ?_⟩
      | refine ⟨Or.inr (Or.inl rfl), ?_⟩
      | refine ⟨Or.inr (Or.inr rfl), ?_⟩
      | refine ⟨Or.inr ⟨rfl, (by first | exact Or.inl rfl | exact Or.inr rfl | assumption)⟩, ?_⟩
      | refine ⟨fun h => absurd h (by decide), fun _ => ?_⟩
      | refine ⟨fun _ => ?_, fun h => absurd h (by decide)⟩
      | refine ⟨fun h => ?_, fun h => ?_⟩
      | fail)
  rcases Nat.lt_or_ge nh 20 with h | h
  · have hk := h3 ho he h
    have hc : (μ 3 0 1).toNatClampNeg = nh := by rw [hh]; exact nI_clamp (by omega)
    have hlt : ¬ 20 ≤ μ 3 0 1 := by rw [hh]; exact nI_ge (b := 20) h (by omega)
    have hv : vp_in (μ 3 0 1) 20 := by rw [hh]; exact vp_in_nI h (by omega)
    repeat' (first
      | refine c_Ro_hasPerson (x := x) (fun _ _ => ?_) (fun q => absurd hx q)
      | refine c_Ro_hasPerson (x := y) (fun _ _ => ?_) (fun q => absurd hy q)
      | refine bn_t he ?_
      | refine br_f hlt ?_
      | refine c_Bo_addHand hv ?_
      | exact zKe hk (by rw [hh, nI_1]) (by rw [hc, hh, nI_1])
      | (refine zs k_De_hand rfl ?_; conv => whnf)
      | refine ⟨Nat.zero_lt_one, rfl, ?_⟩
      | refine ⟨rfl, ?_⟩
      | refine ⟨⟨Nat.zero_lt_one, rfl⟩, Nat.le_of_ble_eq_true rfl, ?_⟩
      | refine ⟨Nat.le_of_ble_eq_true rfl, Nat.le_of_ble_eq_true rfl, ?_⟩
      | refine ⟨(by first | exact Nat.zero_lt_one | assumption | omega), (by first | assumption | exact vp_in_nI (by omega) (by omega) | (unfold vp_in; decide)), ?_⟩
      | refine ⟨(by first | exact Nat.zero_lt_one | assumption | omega), rfl, ?_⟩
      | refine ⟨⟨(by first | exact Nat.zero_lt_one | assumption | omega), rfl⟩, Nat.le_of_ble_eq_true rfl, ?_⟩
      | refine ⟨(by first | exact Nat.zero_lt_one | assumption | omega), ?_⟩
      | refine ⟨Or.inl rfl, ?_⟩
      | refine ⟨Or.inr (Or.inl rfl), ?_⟩
      | refine ⟨Or.inr (Or.inr rfl), ?_⟩
      | refine ⟨Or.inr ⟨rfl, (by first | exact Or.inl rfl | exact Or.inr rfl | assumption)⟩, ?_⟩
      | refine ⟨fun h => absurd h (by decide), fun _ => ?_⟩
      | refine ⟨fun _ => ?_, fun h => absurd h (by decide)⟩
      | refine ⟨fun h => ?_, fun h => ?_⟩
      | fail)
  · have hk := h2 ho he (by omega)
    have hlt : 20 ≤ μ 3 0 1 := by rw [hh]; exact nI_le (a := 20) h (by omega)
    repeat' (first
      | refine c_Ro_hasPerson (x := x) (fun _ _ => ?_) (fun q => absurd hx q)
      | refine c_Ro_hasPerson (x := y) (fun _ _ => ?_) (fun q => absurd hy q)
      | refine bn_t he ?_
      | refine br_t hlt ?_
      | exact hk
      | (refine zs k_De_hand rfl ?_; conv => whnf)
      | refine ⟨Nat.zero_lt_one, rfl, ?_⟩
      | refine ⟨rfl, ?_⟩
      | refine ⟨⟨Nat.zero_lt_one, rfl⟩, Nat.le_of_ble_eq_true rfl, ?_⟩
      | refine ⟨Nat.le_of_ble_eq_true rfl, Nat.le_of_ble_eq_true rfl, ?_⟩
      | refine ⟨(by first | exact Nat.zero_lt_one | assumption | omega), (by first | assumption | exact vp_in_nI (by omega) (by omega) | (unfold vp_in; decide)), ?_⟩
      | refine ⟨(by first | exact Nat.zero_lt_one | assumption | omega), rfl, ?_⟩
      | refine ⟨⟨(by first | exact Nat.zero_lt_one | assumption | omega), rfl⟩, Nat.le_of_ble_eq_true rfl, ?_⟩
      | refine ⟨(by first | exact Nat.zero_lt_one | assumption | omega), ?_⟩
      | refine ⟨Or.inl rfl, ?_⟩
      | refine ⟨Or.inr (Or.inl rfl), ?_⟩
      | refine ⟨Or.inr (Or.inr rfl), ?_⟩
      | refine ⟨Or.inr ⟨rfl, (by first | exact Or.inl rfl | exact Or.inr rfl | assumption)⟩, ?_⟩
      | refine ⟨fun h => absurd h (by decide), fun _ => ?_⟩
      | refine ⟨fun _ => ?_, fun h => absurd h (by decide)⟩
      | refine ⟨fun h => ?_, fun h => ?_⟩
      | fail)
theorem c_Mo_hand {d n nh : Nat} {μ : zMu} {x y : Int32} {K : Option zV → zMu → Prop} (hn : μ 48 0 5 = nI n) (hh : μ 48 0 33 = nI nh) (h20 : nh ≤ 20) (h0 : ¬ (okI n x ∧ okI n y) → K (some (zI (-1))) μ) (h1 : okI n x ∧ okI n y → x = y → K (some (zI (-2))) μ) (h2 : okI n x ∧ okI n y → ¬ x = y → nh = 20 → K (some (zI (-4))) μ) (h3 : okI n x ∧ okI n y → ¬ x = y → nh < 20 → K (some (zI (nI (nh + 1)))) (zu (zu (zu μ 84 0 nh x) 85 0 nh y) 48 0 33 (nI (nh + 1)))) : Ct (d + 1) m_Mo_hand [zR 48 0, zI x, zI y] μ K := by
  refine zmeet rfl (Nat.le_of_ble_eq_true rfl) (fun S => ?_)
  by_cases ho : okI n x ∧ okI n y
  case neg =>
    have hk := h0 ho
    unfold okI at ho
    rw [← hn] at ho
    repeat' (first
      | refine c_Mo_isPerson (fun q1 => ?_) (fun q => ?_)
      | exact hk
      | (refine zs k_Mo_hand rfl ?_; conv => whnf)
      | refine ⟨Nat.zero_lt_one, rfl, ?_⟩
      | refine ⟨rfl, ?_⟩
      | refine ⟨⟨Nat.zero_lt_one, rfl⟩, Nat.le_of_ble_eq_true rfl, ?_⟩
      | refine ⟨Nat.le_of_ble_eq_true rfl, Nat.le_of_ble_eq_true rfl, ?_⟩
      | refine ⟨(by first | exact Nat.zero_lt_one | assumption | omega), (by first | assumption | exact vp_in_nI (by omega) (by omega) | (unfold vp_in; decide)), ?_⟩
      | refine ⟨(by first | exact Nat.zero_lt_one | assumption | omega), rfl, ?_⟩
      | refine ⟨⟨(by first | exact Nat.zero_lt_one | assumption | omega), rfl⟩, Nat.le_of_ble_eq_true rfl, ?_⟩
      | refine ⟨(by first | exact Nat.zero_lt_one | assumption | omega), ?_⟩
      | refine ⟨Or.inl rfl, ?_⟩
      | refine ⟨Or.inr (Or.inl rfl), ?_⟩
      | refine ⟨Or.inr (Or.inr rfl), ?_⟩
      | refine ⟨Or.inr ⟨rfl, (by first | exact Or.inl rfl | exact Or.inr rfl | assumption)⟩, ?_⟩
      | refine ⟨fun h => absurd h (by decide), fun _ => ?_⟩
      | refine ⟨fun _ => ?_, fun h => absurd h (by decide)⟩
      | refine ⟨fun h => ?_, fun h => ?_⟩
      | exact absurd (by grind) ho
      | fail)
  have hx : 0 ≤ x ∧ x < μ 48 0 5 := by rw [hn]; exact ho.1
  have hy : 0 ≤ y ∧ y < μ 48 0 5 := by rw [hn]; exact ho.2
  by_cases he : x = y
  · have hk := h1 ho he
    repeat' (first
      | refine c_Mo_isPerson (x := x) (fun _ => ?_) (fun q => absurd hx q)
      | refine c_Mo_isPerson (x := y) (fun _ => ?_) (fun q => absurd hy q)
      | refine bn_f he ?_
      | exact hk
      | (refine zs k_Mo_hand rfl ?_; conv => whnf)
      | refine ⟨Nat.zero_lt_one, rfl, ?_⟩
      | refine ⟨rfl, ?_⟩
      | refine ⟨⟨Nat.zero_lt_one, rfl⟩, Nat.le_of_ble_eq_true rfl, ?_⟩
      | refine ⟨Nat.le_of_ble_eq_true rfl, Nat.le_of_ble_eq_true rfl, ?_⟩
      | refine ⟨(by first | exact Nat.zero_lt_one | assumption | omega), (by first | assumption | exact vp_in_nI (by omega) (by omega) | (unfold vp_in; decide)), ?_⟩
      | refine ⟨(by first | exact Nat.zero_lt_one | assumption | omega), rfl, ?_⟩
      | refine ⟨⟨(by first | exact Nat.zero_lt_one | assumption | omega), rfl⟩, Nat.le_of_ble_eq_true rfl, ?_⟩
      | refine ⟨(by first | exact Nat.zero_lt_one | assumption | omega), ?_⟩
      | refine ⟨Or.inl rfl, ?_⟩
      | refine ⟨Or.inr (Or.inl rfl), ?_⟩
      | refine ⟨Or.inr (Or.inr rfl), ?_⟩
      | refine ⟨Or.inr ⟨rfl, (by first | exact Or.inl rfl | exact Or.inr rfl | assumption)⟩, ?_⟩
      | refine ⟨fun h => absurd h (by decide), fun _ => ?_⟩
      | refine ⟨fun _ => ?_, fun h => absurd h (by decide)⟩
      | refine ⟨fun h => ?_, fun h => ?_⟩
      | fail)
  rcases Nat.lt_or_ge nh 20 with h | h
  · have hk := h3 ho he h
    have hc : (μ 48 0 33).toNatClampNeg = nh := by rw [hh]; exact nI_clamp (by omega)
    have hlt : ¬ μ 48 0 33 = 20 := by rw [hh]; exact fun e => absurd ((nI_eq (b := 20) (by omega) (by omega)).mp e) (by omega)
    have hv : vp_in (μ 48 0 33) 20 := by rw [hh]; exact vp_in_nI h (by omega)
    repeat' (first
      | refine c_Mo_isPerson (x := x) (fun _ => ?_) (fun q => absurd hx q)
      | refine c_Mo_isPerson (x := y) (fun _ => ?_) (fun q => absurd hy q)
      | refine bn_t he ?_
      | refine bn_t hlt ?_
      | exact zKe hk (by show μ 48 0 33 + 1 = _; rw [hh, nI_1]) (by show zu (zu (zu μ 84 0 (μ 48 0 33).toNatClampNeg x) 85 0 (μ 48 0 33).toNatClampNeg y) 48 0 33 (μ 48 0 33 + 1) = _; rw [hc, hh, nI_1])
      | (refine zs k_Mo_hand rfl ?_; conv => whnf)
      | refine ⟨Nat.zero_lt_one, rfl, ?_⟩
      | refine ⟨rfl, ?_⟩
      | refine ⟨⟨Nat.zero_lt_one, rfl⟩, Nat.le_of_ble_eq_true rfl, ?_⟩
      | refine ⟨Nat.le_of_ble_eq_true rfl, Nat.le_of_ble_eq_true rfl, ?_⟩
      | refine ⟨(by first | exact Nat.zero_lt_one | assumption | omega), (by first | assumption | exact vp_in_nI (by omega) (by omega) | (unfold vp_in; decide)), ?_⟩
      | refine ⟨(by first | exact Nat.zero_lt_one | assumption | omega), rfl, ?_⟩
      | refine ⟨⟨(by first | exact Nat.zero_lt_one | assumption | omega), rfl⟩, Nat.le_of_ble_eq_true rfl, ?_⟩
      | refine ⟨(by first | exact Nat.zero_lt_one | assumption | omega), ?_⟩
      | refine ⟨Or.inl rfl, ?_⟩
      | refine ⟨Or.inr (Or.inl rfl), ?_⟩
      | refine ⟨Or.inr (Or.inr rfl), ?_⟩
      | refine ⟨Or.inr ⟨rfl, (by first | exact Or.inl rfl | exact Or.inr rfl | assumption)⟩, ?_⟩
      | refine ⟨fun h => absurd h (by decide), fun _ => ?_⟩
      | refine ⟨fun _ => ?_, fun h => absurd h (by decide)⟩
      | refine ⟨fun h => ?_, fun h => ?_⟩
      | fail)
  · have hk := h2 ho he (by omega)
    have hlt : μ 48 0 33 = 20 := by rw [hh, show nh = 20 by omega]; rfl
    repeat' (first
      | refine c_Mo_isPerson (x := x) (fun _ => ?_) (fun q => absurd hx q)
      | refine c_Mo_isPerson (x := y) (fun _ => ?_) (fun q => absurd hy q)
      | refine bn_t he ?_
      | refine bn_f hlt ?_
      | exact hk
      | (refine zs k_Mo_hand rfl ?_; conv => whnf)
      | refine ⟨Nat.zero_lt_one, rfl, ?_⟩
      | refine ⟨rfl, ?_⟩
      | refine ⟨⟨Nat.zero_lt_one, rfl⟩, Nat.le_of_ble_eq_true rfl, ?_⟩
      | refine ⟨Nat.le_of_ble_eq_true rfl, Nat.le_of_ble_eq_true rfl, ?_⟩
      | refine ⟨(by first | exact Nat.zero_lt_one | assumption | omega), (by first | assumption | exact vp_in_nI (by omega) (by omega) | (unfold vp_in; decide)), ?_⟩
      | refine ⟨(by first | exact Nat.zero_lt_one | assumption | omega), rfl, ?_⟩
      | refine ⟨⟨(by first | exact Nat.zero_lt_one | assumption | omega), rfl⟩, Nat.le_of_ble_eq_true rfl, ?_⟩
      | refine ⟨(by first | exact Nat.zero_lt_one | assumption | omega), ?_⟩
      | refine ⟨Or.inl rfl, ?_⟩
      | refine ⟨Or.inr (Or.inl rfl), ?_⟩
      | refine ⟨Or.inr (Or.inr rfl), ?_⟩
      | refine ⟨Or.inr ⟨rfl, (by first | exact Or.inl rfl | exact Or.inr rfl | assumption)⟩, ?_⟩
      | refine ⟨fun h => absurd h (by decide), fun _ => ?_⟩
      | refine ⟨fun _ => ?_, fun h => absurd h (by decide)⟩
      | refine ⟨fun h => ?_, fun h => ?_⟩
      | fail)
theorem b_hand {μ : zMu} {x y : Int32} (h : Rel μ) : Both m_De_hand m_Mo_hand [zI x, zI y] μ := by
  intro d K hK
  obtain ⟨ns, n, nr, nh, nt, nb, L, g1, g2, g3, g4, g5, g6, g7, g8, g9, g10, g11⟩ := id h
  have h20 := g5.2.2.1
  refine c_De_hand g2.1 g5.1 h20 (fun a => hK _ _ (fun d K2 hK2 => ?_)) (fun a b => hK _ _ (fun d K2 hK2 => ?_)) (fun a b c => hK _ _ (fun d K2 hK2 => ?_)) (fun a b c => hK _ _ (fun d K2 hK2 => ?_))
  · exact c_Mo_hand g2.2.1 g5.2.1 h20 (fun _ => hK2 _ h) (fun q => absurd q a) (fun q => absurd q a) (fun q => absurd q a)
  · exact c_Mo_hand g2.2.1 g5.2.1 h20 (fun q => absurd a q) (fun _ _ => hK2 _ h) (fun _ q => absurd b q) (fun _ q => absurd b q)
  · exact c_Mo_hand g2.2.1 g5.2.1 h20 (fun q => absurd a q) (fun _ q => absurd q b) (fun _ _ _ => hK2 _ h) (fun _ _ q => absurd q (by omega))
  · refine c_Mo_hand (n := n) (nh := nh) g2.2.1 g5.2.1 h20 (fun q => absurd a q) (fun _ q => absurd q b) (fun _ _ q => absurd q (by omega)) (fun _ _ _ => hK2 _ ?_)
    refine ⟨ns, n, nr, nh + 1, nt, nb, L, g1, g2, g3, g4, ⟨rfl, rfl, by omega, fun k hk => ?_⟩, g6, g7, g8, g9, g10, g11⟩
    show zu μ 84 0 nh x 84 0 k = zu μ 20 0 nh x 20 0 k ∧ zu μ 85 0 nh y 85 0 k = zu μ 21 0 nh y 21 0 k
    by_cases q : k = nh
    · subst q
      rw [zu_eq, zu_eq, zu_eq, zu_eq]
      exact ⟨rfl, rfl⟩
    · rw [zu_ne (by omega), zu_ne (by omega), zu_ne (by omega), zu_ne (by omega)]
      exact g5.2.2.2 k (by omega)
-- ---- who is ahead
def mHd (hx hy : Nat → Int32) (x y : Int32) : Nat → Int32
  | 0 => -1
  | k + 1 => if (hx k = x ∧ hy k = y) ∨ (hx k = y ∧ hy k = x) then nI k else mHd hx hy x y k
theorem mHd_p {hx hy : Nat → Int32} {x y : Int32} (hne : ¬ x = y) : ∀ n, n < 2 ^ 31 → (mHd hx hy x y n = -1 ∧ pHand hx hy x y n = 0) ∨ ∃ j, j < n ∧ mHd hx hy x y n = nI j ∧ ((hx j = x ∧ pHand hx hy x y n = 1) ∨ (¬ hx j = x ∧ pHand hx hy x y n = -1))
  | 0, _ => Or.inl ⟨rfl, rfl⟩
  | n + 1, hn => by
    simp only [mHd, pHand]
    by_cases h1 : hx n = x ∧ hy n = y
    · rw [if_pos (Or.inl h1), if_pos h1]
      exact Or.inr ⟨n, by omega, rfl, Or.inl ⟨h1.1, rfl⟩⟩
    · by_cases h2 : hx n = y ∧ hy n = x
      · rw [if_pos (Or.inr h2), if_neg h1, if_pos h2]
        exact Or.inr ⟨n, by omega, rfl, Or.inr ⟨fun e => hne (e.symm.trans h2.1), rfl⟩⟩
      · rw [if_neg (fun w => w.elim h1 h2), if_neg h1, if_neg h2]
        rcases mHd_p hne n (by omega) with q | ⟨j, hj, q⟩
        · exact Or.inl q
        · exact Or.inr ⟨j, by omega, q⟩
theorem c_Mo_handOf {d nh : Nat} {μ : zMu} {x y : Int32} {K : Option zV → zMu → Prop} (hh : μ 48 0 33 = nI nh) (h20 : nh ≤ 20) (hK : K (some (zI (mHd (μ 84 0) (μ 85 0) x y nh))) μ) : Ct d m_Mo_handOf [zR 48 0, zI x, zI y] μ K := by
  refine zmeet rfl (Nat.le_of_ble_eq_true rfl) (fun S => ?_)
  have L : ∀ (k i : Nat) (f v : Int32), i + k = nh → v = nI i → f = mHd (μ 84 0) (μ 85 0) x y i → zG S d m_Mo_handOf K 5 [some (zR 48 0), some (zI x), some (zI y), some (zI f), some (zI v)] [] μ := by
    intro k
    induction k with
    | zero =>
      intro i f v hi hv hf
      subst hv hf
      obtain rfl : i = nh := by omega
      refine zs k_Mo_handOf rfl ?_; conv => whnf
      repeat' (first
        | exact hK
        | (refine zs k_Mo_handOf rfl ?_; conv => whnf)
        | refine br_t (by simp (disch := omega) only [hh, nI_leI, nI_ltI, nI_eq]; omega) ?_
        | refine br_f (by simp (disch := omega) only [hh, nI_leI, nI_ltI, nI_eq]; omega) ?_
        | refine ⟨Nat.zero_lt_one, rfl, ?_⟩
        | refine ⟨rfl, ?_⟩
        | refine ⟨⟨Nat.zero_lt_one, rfl⟩, Nat.le_of_ble_eq_true rfl, ?_⟩
        | refine ⟨Nat.le_of_ble_eq_true rfl, Nat.le_of_ble_eq_true rfl, ?_⟩
        | refine ⟨(by first | exact Nat.zero_lt_one | assumption | omega), (by first | assumption | exact vp_in_nI (by omega) (by omega) | (unfold vp_in; decide)), ?_⟩
        | refine ⟨(by first | exact Nat.zero_lt_one | assumption | omega), rfl, ?_⟩
        | refine ⟨⟨(by first | exact Nat.zero_lt_one | assumption | omega), rfl⟩, Nat.le_of_ble_eq_true rfl, ?_⟩
        | refine ⟨(by first | exact Nat.zero_lt_one | assumption | omega), ?_⟩
        | refine ⟨Or.inl rfl, ?_⟩
        | refine ⟨Or.inr (Or.inl rfl), ?_⟩
        | refine ⟨Or.inr (Or.inr rfl), ?_⟩
        | refine ⟨Or.inr ⟨rfl, (by first | exact Or.inl rfl | exact Or.inr rfl | assumption)⟩, ?_⟩
        | refine ⟨fun h => absurd h (by decide), fun _ => ?_⟩
        | refine ⟨fun _ => ?_, fun h => absurd h (by decide)⟩
        | refine ⟨fun h => ?_, fun h => ?_⟩
        | fail)
    | succ k ih =>
      intro i f v hi hv hf
      subst hv
      have hc : (nI i).toNatClampNeg = i := nI_clamp (by omega)
      have hs : mHd (μ 84 0) (μ 85 0) x y (i + 1) = if (μ 84 0 (nI i).toNatClampNeg = x ∧ μ 85 0 (nI i).toNatClampNeg = y) ∨ (μ 84 0 (nI i).toNatClampNeg = y ∧ μ 85 0 (nI i).toNatClampNeg = x) then nI i else f := by rw [hf, hc]; rfl
      refine zs k_Mo_handOf rfl ?_; conv => whnf
      repeat' (first
        | refine ih (i + 1) _ _ (by omega) (by exact nI_1 i) (by rw [hs]; grind)
        | (refine zs k_Mo_handOf rfl ?_; conv => whnf)
        | refine br_t (by simp (disch := omega) only [hh, nI_leI, nI_ltI, nI_eq]; omega) ?_
        | refine br_f (by simp (disch := omega) only [hh, nI_leI, nI_ltI, nI_eq]; omega) ?_
        | refine ⟨Nat.zero_lt_one, rfl, ?_⟩
        | refine ⟨rfl, ?_⟩
        | refine ⟨⟨Nat.zero_lt_one, rfl⟩, Nat.le_of_ble_eq_true rfl, ?_⟩
        | refine ⟨Nat.le_of_ble_eq_true rfl, Nat.le_of_ble_eq_true rfl, ?_⟩
        | refine ⟨(by first | exact Nat.zero_lt_one | assumption | omega), (by first | assumption | exact vp_in_nI (by omega) (by omega) | (unfold vp_in; decide)), ?_⟩
        | refine ⟨(by first | exact Nat.zero_lt_one | assumption | omega), rfl, ?_⟩
        | refine ⟨⟨(by first | exact Nat.zero_lt_one | assumption | omega), rfl⟩, Nat.le_of_ble_eq_true rfl, ?_⟩
        | refine ⟨(by first | exact Nat.zero_lt_one | assumption | omega), ?_⟩
        | refine ⟨Or.inl rfl, ?_⟩
        | refine ⟨Or.inr (Or.inl rfl), ?_⟩
        | refine ⟨Or.inr (Or.inr rfl), ?_⟩
        | refine ⟨Or.inr ⟨rfl, (by first | exact Or.inl rfl | exact Or.inr rfl | assumption)⟩, ?_⟩
        | refine ⟨fun h => absurd h (by decide), fun _ => ?_⟩
        | refine ⟨fun _ => ?_, fun h => absurd h (by decide)⟩
        | refine ⟨fun h => ?_, fun h => ?_⟩
        | fail)
  repeat' (first
    | exact L nh 0 _ _ (by omega) rfl rfl
    | (refine zs k_Mo_handOf rfl ?_; conv => whnf)
    | refine ⟨Nat.zero_lt_one, rfl, ?_⟩
    | refine ⟨rfl, ?_⟩
    | refine ⟨⟨Nat.zero_lt_one, rfl⟩, Nat.le_of_ble_eq_true rfl, ?_⟩
    | refine ⟨Nat.le_of_ble_eq_true rfl, Nat.le_of_ble_eq_true rfl, ?_⟩
    | refine ⟨(by first | exact Nat.zero_lt_one | assumption | omega), (by first | assumption | exact vp_in_nI (by omega) (by omega) | (unfold vp_in; decide)), ?_⟩
    | refine ⟨(by first | exact Nat.zero_lt_one | assumption | omega), rfl, ?_⟩
    | refine ⟨⟨(by first | exact Nat.zero_lt_one | assumption | omega), rfl⟩, Nat.le_of_ble_eq_true rfl, ?_⟩
    | refine ⟨(by first | exact Nat.zero_lt_one | assumption | omega), ?_⟩
    | refine ⟨Or.inl rfl, ?_⟩
    | refine ⟨Or.inr (Or.inl rfl), ?_⟩
    | refine ⟨Or.inr (Or.inr rfl), ?_⟩
    | refine ⟨Or.inr ⟨rfl, (by first | exact Or.inl rfl | exact Or.inr rfl | assumption)⟩, ?_⟩
    | refine ⟨fun h => absurd h (by decide), fun _ => ?_⟩
    | refine ⟨fun _ => ?_, fun h => absurd h (by decide)⟩
    | refine ⟨fun h => ?_, fun h => ?_⟩
    | fail)
theorem pHand_cg {hx hy hx' hy' : Nat → Int32} {x y : Int32} : ∀ {n : Nat}, (∀ k, k < n → hx' k = hx k ∧ hy' k = hy k) → pHand hx' hy' x y n = pHand hx hy x y n
  | 0, _ => rfl
  | n + 1, h => by
    rw [pHand, pHand, (h n (by omega)).1, (h n (by omega)).2, pHand_cg (fun k hk => h k (by omega))]
set_option maxHeartbeats 1000000 in
theorem c_Mo_goes {d n nr ns p q : Nat} {μ : zMu} {o day x y : Int32} {K : Option zV → zMu → Prop} (g1 : gSt μ ns) (g : gPe μ ns n) (g4 : gRu μ nr) (hp : p < n) (hq : q < n) (hx : x = nI p) (hy : y = nI q) (hK : K (some (zI (pGo (cV μ o day p q) (cOc μ) nr))) μ) : Ct (d + 5) m_Mo_goes [zR 48 0, zI o, zI day, zI x, zI y] μ K := by
  subst hx hy
  refine zmeet rfl (Nat.le_of_ble_eq_true rfl) (fun S => ?_)
  have h16 := g4.2.2.1
  have hn := g4.2.1
  have L : ∀ (k i : Nat) (b v : Int32), i + k = nr → v = nI i → b = pGo (cV μ o day p q) (cOc μ) i → zG S (d + 5) m_Mo_goes K 6 [some (zR 48 0), some (zI o), some (zI day), some (zI (nI p)), some (zI (nI q)), some (zI b), some (zI v)] [] μ := by
    intro k
    induction k with
    | zero =>
      intro i b v hi hv hb
      subst hv hb
      obtain rfl : i = nr := by omega
      refine zs k_Mo_goes rfl ?_; conv => whnf
      repeat' (first
        | exact hK
        | (refine zs k_Mo_goes rfl ?_; conv => whnf)
        | refine br_t (by simp (disch := omega) only [hn, nI_leI, nI_ltI, nI_eq]; omega) ?_
        | refine br_f (by simp (disch := omega) only [hn, nI_leI, nI_ltI, nI_eq]; omega) ?_
        | refine ⟨Nat.zero_lt_one, rfl, ?_⟩
        | refine ⟨rfl, ?_⟩
        | refine ⟨⟨Nat.zero_lt_one, rfl⟩, Nat.le_of_ble_eq_true rfl, ?_⟩
        | refine ⟨Nat.le_of_ble_eq_true rfl, Nat.le_of_ble_eq_true rfl, ?_⟩
        | refine ⟨(by first | exact Nat.zero_lt_one | assumption | omega), (by first | assumption | exact vp_in_nI (by omega) (by omega) | (unfold vp_in; decide)), ?_⟩
        | refine ⟨(by first | exact Nat.zero_lt_one | assumption | omega), rfl, ?_⟩
        | refine ⟨⟨(by first | exact Nat.zero_lt_one | assumption | omega), rfl⟩, Nat.le_of_ble_eq_true rfl, ?_⟩
        | refine ⟨(by first | exact Nat.zero_lt_one | assumption | omega), ?_⟩
        | refine ⟨Or.inl rfl, ?_⟩
        | refine ⟨Or.inr (Or.inl rfl), ?_⟩
        | refine ⟨Or.inr (Or.inr rfl), ?_⟩
        | refine ⟨Or.inr ⟨rfl, (by first | exact Or.inl rfl | exact Or.inr rfl | assumption)⟩, ?_⟩
        | refine ⟨fun h => absurd h (by decide), fun _ => ?_⟩
        | refine ⟨fun _ => ?_, fun h => absurd h (by decide)⟩
        | refine ⟨fun h => ?_, fun h => ?_⟩
        | fail)
    | succ k ih =>
      intro i b v hi hv hb
      subst hv
      have hc : (nI i).toNatClampNeg = i := nI_clamp (by omega)
      have hs : pGo (cV μ o day p q) (cOc μ) (i + 1) = if pV (cF μ) (cRu μ i) o day p q = 0 then b else if b = -1 ∨ ¬ cOc μ i = -1 ∨ cOc μ b.toNatClampNeg = -1 then nI i else b := by rw [hb]; rfl
      have oc : ∀ r, r < nr → (μ 66 0 r < 10 ↔ ¬ cOc μ r = -1) ∧ (μ 66 0 r = 10 ↔ cOc μ r = -1) := fun r hr => by
        rcases (g4.2.2.2 r hr).2.1 with ⟨a, c⟩ | ⟨a, b', c⟩
        · rw [c, show cOc μ r = -1 from a]
          exact ⟨by decide, by decide⟩
        · have n1 : ¬ cOc μ r = -1 := fun e => absurd a (by rw [show μ 8 r 0 = -1 from e]; decide)
          rw [c]
          refine ⟨⟨fun _ => n1, fun _ => ?_⟩, ⟨fun e => absurd b' (by rw [e]; decide), fun e => absurd e n1⟩⟩
          grind
      have o1 := (oc i (by omega)).1
      rw [← hc] at o1
      have hbv : ¬ b = -1 → vp_in b 16 ∧ (μ 66 0 b.toNatClampNeg = 10 ↔ cOc μ b.toNatClampNeg = -1) := fun h => by
        rcases pGo_in (V := cV μ o day p q) (oc := cOc μ) (n := i) (by omega) with q | ⟨r, hr, q, -⟩
        · exact absurd (hb.trans q) h
        · rw [hb, q, nI_clamp (by omega)]
          exact ⟨vp_in_nI (by omega) (by omega), (oc r (by omega)).2⟩
      rw [hc] at o1
      have o1' : μ 66 0 (nI i).toNatClampNeg < 10 ↔ ¬ cOc μ i = -1 := by rw [hc]; exact o1
      by_cases hV : pV (cF μ) (cRu μ i) o day p q = 0
      · rw [if_pos hV] at hs
        refine zs k_Mo_goes rfl ?_; conv => whnf
        repeat' (first
          | refine c_Mo_decided g1 g (by omega) (g4.2.2.2 i (by omega)) hp hq rfl rfl rfl ?_
          | refine br_t hV ?_
          | refine ih (i + 1) _ _ (by omega) (by exact nI_1 i) hs.symm
          | (refine zs k_Mo_goes rfl ?_; conv => whnf)
          | refine br_t (by simp (disch := omega) only [hn, nI_leI, nI_ltI, nI_eq]; omega) ?_
          | refine br_f (by simp (disch := omega) only [hn, nI_leI, nI_ltI, nI_eq]; omega) ?_
          | refine ⟨Nat.zero_lt_one, rfl, ?_⟩
          | refine ⟨rfl, ?_⟩
          | refine ⟨⟨Nat.zero_lt_one, rfl⟩, Nat.le_of_ble_eq_true rfl, ?_⟩
          | refine ⟨Nat.le_of_ble_eq_true rfl, Nat.le_of_ble_eq_true rfl, ?_⟩
          | refine ⟨(by first | exact Nat.zero_lt_one | assumption | omega), (by first | assumption | exact vp_in_nI (by omega) (by omega) | (unfold vp_in; decide)), ?_⟩
          | refine ⟨(by first | exact Nat.zero_lt_one | assumption | omega), rfl, ?_⟩
          | refine ⟨⟨(by first | exact Nat.zero_lt_one | assumption | omega), rfl⟩, Nat.le_of_ble_eq_true rfl, ?_⟩
          | refine ⟨(by first | exact Nat.zero_lt_one | assumption | omega), ?_⟩
          | refine ⟨Or.inl rfl, ?_⟩
          | refine ⟨Or.inr (Or.inl rfl), ?_⟩
          | refine ⟨Or.inr (Or.inr rfl), ?_⟩
          | refine ⟨Or.inr ⟨rfl, (by first | exact Or.inl rfl | exact Or.inr rfl | assumption)⟩, ?_⟩
          | refine ⟨fun h => absurd h (by decide), fun _ => ?_⟩
          | refine ⟨fun _ => ?_, fun h => absurd h (by decide)⟩
          | refine ⟨fun h => ?_, fun h => ?_⟩
          | fail)
      · rw [if_neg hV] at hs
        by_cases hb1 : b = -1
        · rw [if_pos (Or.inl hb1)] at hs
          refine zs k_Mo_goes rfl ?_; conv => whnf
          repeat' (first
            | refine c_Mo_decided g1 g (by omega) (g4.2.2.2 i (by omega)) hp hq rfl rfl rfl ?_
            | refine br_f hV ?_
            | refine br_t hb1 ?_
            | refine ih (i + 1) _ _ (by omega) (by exact nI_1 i) hs.symm
            | (refine zs k_Mo_goes rfl ?_; conv => whnf)
            | refine br_t (by simp (disch := omega) only [hn, nI_leI, nI_ltI, nI_eq]; omega) ?_
            | refine br_f (by simp (disch := omega) only [hn, nI_leI, nI_ltI, nI_eq]; omega) ?_
            | refine ⟨Nat.zero_lt_one, rfl, ?_⟩
            | refine ⟨rfl, ?_⟩
            | refine ⟨⟨Nat.zero_lt_one, rfl⟩, Nat.le_of_ble_eq_true rfl, ?_⟩
            | refine ⟨Nat.le_of_ble_eq_true rfl, Nat.le_of_ble_eq_true rfl, ?_⟩
            | refine ⟨(by first | exact Nat.zero_lt_one | assumption | omega), (by first | assumption | exact vp_in_nI (by omega) (by omega) | (unfold vp_in; decide)), ?_⟩
            | refine ⟨(by first | exact Nat.zero_lt_one | assumption | omega), rfl, ?_⟩
            | refine ⟨⟨(by first | exact Nat.zero_lt_one | assumption | omega), rfl⟩, Nat.le_of_ble_eq_true rfl, ?_⟩
            | refine ⟨(by first | exact Nat.zero_lt_one | assumption | omega), ?_⟩
            | refine ⟨Or.inl rfl, ?_⟩
            | refine ⟨Or.inr (Or.inl rfl), ?_⟩
            | refine ⟨Or.inr (Or.inr rfl), ?_⟩
            | refine ⟨Or.inr ⟨rfl, (by first | exact Or.inl rfl | exact Or.inr rfl | assumption)⟩, ?_⟩
            | refine ⟨fun h => absurd h (by decide), fun _ => ?_⟩
            | refine ⟨fun _ => ?_, fun h => absurd h (by decide)⟩
            | refine ⟨fun h => ?_, fun h => ?_⟩
            | fail)
        · obtain ⟨v1, v2⟩ := hbv hb1
          refine zs k_Mo_goes rfl ?_; conv => whnf
          repeat' (first
            | refine c_Mo_decided g1 g (by omega) (g4.2.2.2 i (by omega)) hp hq rfl rfl rfl ?_
            | refine br_f hV ?_
            | refine br_f hb1 ?_
            | refine ih (i + 1) _ _ (by omega) (by exact nI_1 i) (by rw [hs]; first | rw [if_pos (by grind)] | rw [if_neg (by grind)])
            | (refine zs k_Mo_goes rfl ?_; conv => whnf)
            | refine br_t (by simp (disch := omega) only [hn, nI_leI, nI_ltI, nI_eq]; omega) ?_
            | refine br_f (by simp (disch := omega) only [hn, nI_leI, nI_ltI, nI_eq]; omega) ?_
            | refine ⟨Nat.zero_lt_one, rfl, ?_⟩
            | refine ⟨rfl, ?_⟩
            | refine ⟨⟨Nat.zero_lt_one, rfl⟩, Nat.le_of_ble_eq_true rfl, ?_⟩
            | refine ⟨Nat.le_of_ble_eq_true rfl, Nat.le_of_ble_eq_true rfl, ?_⟩
            | refine ⟨(by first | exact Nat.zero_lt_one | assumption | omega), (by first | assumption | exact vp_in_nI (by omega) (by omega) | (unfold vp_in; decide)), ?_⟩
            | refine ⟨(by first | exact Nat.zero_lt_one | assumption | omega), rfl, ?_⟩
            | refine ⟨⟨(by first | exact Nat.zero_lt_one | assumption | omega), rfl⟩, Nat.le_of_ble_eq_true rfl, ?_⟩
            | refine ⟨(by first | exact Nat.zero_lt_one | assumption | omega), ?_⟩
            | refine ⟨Or.inl rfl, ?_⟩
            | refine ⟨Or.inr (Or.inl rfl), ?_⟩
            | refine ⟨Or.inr (Or.inr rfl), ?_⟩
            | refine ⟨Or.inr ⟨rfl, (by first | exact Or.inl rfl | exact Or.inr rfl | assumption)⟩, ?_⟩
            | refine ⟨fun h => absurd h (by decide), fun _ => ?_⟩
            | refine ⟨fun _ => ?_, fun h => absurd h (by decide)⟩
            | refine ⟨fun h => ?_, fun h => ?_⟩
            | fail)
  repeat' (first
    | exact L nr 0 _ _ (by omega) rfl rfl
    | (refine zs k_Mo_goes rfl ?_; conv => whnf)
    | refine ⟨Nat.zero_lt_one, rfl, ?_⟩
    | refine ⟨rfl, ?_⟩
    | refine ⟨⟨Nat.zero_lt_one, rfl⟩, Nat.le_of_ble_eq_true rfl, ?_⟩
    | refine ⟨Nat.le_of_ble_eq_true rfl, Nat.le_of_ble_eq_true rfl, ?_⟩
    | refine ⟨(by first | exact Nat.zero_lt_one | assumption | omega), (by first | assumption | exact vp_in_nI (by omega) (by omega) | (unfold vp_in; decide)), ?_⟩
    | refine ⟨(by first | exact Nat.zero_lt_one | assumption | omega), rfl, ?_⟩
    | refine ⟨⟨(by first | exact Nat.zero_lt_one | assumption | omega), rfl⟩, Nat.le_of_ble_eq_true rfl, ?_⟩
    | refine ⟨(by first | exact Nat.zero_lt_one | assumption | omega), ?_⟩
    | refine ⟨Or.inl rfl, ?_⟩
    | refine ⟨Or.inr (Or.inl rfl), ?_⟩
    | refine ⟨Or.inr (Or.inr rfl), ?_⟩
    | refine ⟨Or.inr ⟨rfl, (by first | exact Or.inl rfl | exact Or.inr rfl | assumption)⟩, ?_⟩
    | refine ⟨fun h => absurd h (by decide), fun _ => ?_⟩
    | refine ⟨fun _ => ?_, fun h => absurd h (by decide)⟩
    | refine ⟨fun h => ?_, fun h => ?_⟩
    | fail)
theorem c_Mo_first {d n nr nh ns p q : Nat} {μ : zMu} {o day x y : Int32} {K : Option zV → zMu → Prop} (g1 : gSt μ ns) (g : gPe μ ns n) (g4 : gRu μ nr) (g5 : gHd μ nh) (hp : p < n) (hq : q < n) (hpq : p ≠ q) (hx : x = nI p) (hy : y = nI q) (hK : K (some (zI (cLdr μ o day nr nh p q))) μ) : Ct (d + 6) m_Mo_first [zR 48 0, zI o, zI day, zI x, zI y] μ K := by
  subst hx hy
  refine zmeet rfl (Nat.le_of_ble_eq_true rfl) (fun S => ?_)
  have h20 := g.2.2.1
  have hh20 := g5.2.2.1
  have h16 := g4.2.2.1
  have hne : ¬ nI p = nI q := fun e => hpq ((nI_eq (by omega) (by omega)).mp e)
  unfold cLdr pLd at hK
  rw [← pHand_cg (hx' := μ 84 0) (hy' := μ 85 0) g5.2.2.2] at hK
  rcases mHd_p (hx := μ 84 0) (hy := μ 85 0) hne nh (by omega) with ⟨q1, q2⟩ | ⟨j, hj, q1, q2⟩
  · rw [q2, if_neg (by simp)] at hK
    rcases pGo_in (V := cV μ o day p q) (oc := cOc μ) (n := nr) h16 with w | ⟨r, hr, w, -⟩
    · rw [if_pos w] at hK
      repeat' (first
        | refine c_Mo_handOf g5.2.1 hh20 ?_
        | refine br_t q1 ?_
        | refine c_Mo_goes g1 g g4 hp hq rfl rfl ?_
        | refine bn_f w ?_
        | exact hK
        | (refine zs k_Mo_first rfl ?_; conv => whnf)
        | refine ⟨Nat.zero_lt_one, rfl, ?_⟩
        | refine ⟨rfl, ?_⟩
        | refine ⟨⟨Nat.zero_lt_one, rfl⟩, Nat.le_of_ble_eq_true rfl, ?_⟩
        | refine ⟨Nat.le_of_ble_eq_true rfl, Nat.le_of_ble_eq_true rfl, ?_⟩
        | refine ⟨(by first | exact Nat.zero_lt_one | assumption | omega), (by first | assumption | exact vp_in_nI (by omega) (by omega) | (unfold vp_in; decide)), ?_⟩
        | refine ⟨(by first | exact Nat.zero_lt_one | assumption | omega), rfl, ?_⟩
        | refine ⟨⟨(by first | exact Nat.zero_lt_one | assumption | omega), rfl⟩, Nat.le_of_ble_eq_true rfl, ?_⟩
        | refine ⟨(by first | exact Nat.zero_lt_one | assumption | omega), ?_⟩
        | refine ⟨Or.inl rfl, ?_⟩
        | refine ⟨Or.inr (Or.inl rfl), ?_⟩
        | refine ⟨Or.inr (Or.inr rfl), ?_⟩
        | refine ⟨Or.inr ⟨rfl, (by first | exact Or.inl rfl | exact Or.inr rfl | assumption)⟩, ?_⟩
        | refine ⟨fun h => absurd h (by decide), fun _ => ?_⟩
        | refine ⟨fun _ => ?_, fun h => absurd h (by decide)⟩
        | refine ⟨fun h => ?_, fun h => ?_⟩
        | fail)
    · have w' : ¬ pGo (cV μ o day p q) (cOc μ) nr = -1 := by rw [w]; exact nI_nem1 (by omega)
      rw [if_neg w', w, nI_clamp (by omega)] at hK
      repeat' (first
        | refine c_Mo_handOf g5.2.1 hh20 ?_
        | refine br_t q1 ?_
        | refine c_Mo_goes g1 g g4 hp hq rfl rfl ?_
        | refine bn_t w' ?_
        | refine c_Mo_decided g1 g (by omega) (g4.2.2.2 r hr) hp hq w rfl rfl ?_
        | exact hK
        | (refine zs k_Mo_first rfl ?_; conv => whnf)
        | refine ⟨Nat.zero_lt_one, rfl, ?_⟩
        | refine ⟨rfl, ?_⟩
        | refine ⟨⟨Nat.zero_lt_one, rfl⟩, Nat.le_of_ble_eq_true rfl, ?_⟩
        | refine ⟨Nat.le_of_ble_eq_true rfl, Nat.le_of_ble_eq_true rfl, ?_⟩
        | refine ⟨(by first | exact Nat.zero_lt_one | assumption | omega), (by first | assumption | exact vp_in_nI (by omega) (by omega) | (unfold vp_in; decide)), ?_⟩
        | refine ⟨(by first | exact Nat.zero_lt_one | assumption | omega), rfl, ?_⟩
        | refine ⟨⟨(by first | exact Nat.zero_lt_one | assumption | omega), rfl⟩, Nat.le_of_ble_eq_true rfl, ?_⟩
        | refine ⟨(by first | exact Nat.zero_lt_one | assumption | omega), ?_⟩
        | refine ⟨Or.inl rfl, ?_⟩
        | refine ⟨Or.inr (Or.inl rfl), ?_⟩
        | refine ⟨Or.inr (Or.inr rfl), ?_⟩
        | refine ⟨Or.inr ⟨rfl, (by first | exact Or.inl rfl | exact Or.inr rfl | assumption)⟩, ?_⟩
        | refine ⟨fun h => absurd h (by decide), fun _ => ?_⟩
        | refine ⟨fun _ => ?_, fun h => absurd h (by decide)⟩
        | refine ⟨fun h => ?_, fun h => ?_⟩
        | fail)
  · have q1' : ¬ mHd (μ 84 0) (μ 85 0) (nI p) (nI q) nh = -1 := by rw [q1]; exact nI_nem1 (by omega)
    have hv : vp_in (mHd (μ 84 0) (μ 85 0) (nI p) (nI q) nh) 20 := by rw [q1]; exact vp_in_nI (by omega) (by omega)
    have hc : (mHd (μ 84 0) (μ 85 0) (nI p) (nI q) nh).toNatClampNeg = j := by rw [q1]; exact nI_clamp (by omega)
    rcases q2 with ⟨w, q2⟩ | ⟨w, q2⟩
    · rw [q2, if_pos (by decide)] at hK
      have w' : μ 84 0 (mHd (μ 84 0) (μ 85 0) (nI p) (nI q) nh).toNatClampNeg = nI p := by rw [hc]; exact w
      repeat' (first
        | refine c_Mo_handOf g5.2.1 hh20 ?_
        | refine br_f q1' ?_
        | refine bn_f w' ?_
        | exact hK
        | (refine zs k_Mo_first rfl ?_; conv => whnf)
        | refine ⟨Nat.zero_lt_one, rfl, ?_⟩
        | refine ⟨rfl, ?_⟩
        | refine ⟨⟨Nat.zero_lt_one, rfl⟩, Nat.le_of_ble_eq_true rfl, ?_⟩
        | refine ⟨Nat.le_of_ble_eq_true rfl, Nat.le_of_ble_eq_true rfl, ?_⟩
        | refine ⟨(by first | exact Nat.zero_lt_one | assumption | omega), (by first | assumption | exact vp_in_nI (by omega) (by omega) | (unfold vp_in; decide)), ?_⟩
        | refine ⟨(by first | exact Nat.zero_lt_one | assumption | omega), rfl, ?_⟩
        | refine ⟨⟨(by first | exact Nat.zero_lt_one | assumption | omega), rfl⟩, Nat.le_of_ble_eq_true rfl, ?_⟩
        | refine ⟨(by first | exact Nat.zero_lt_one | assumption | omega), ?_⟩
        | refine ⟨Or.inl rfl, ?_⟩
        | refine ⟨Or.inr (Or.inl rfl), ?_⟩
        | refine ⟨Or.inr (Or.inr rfl), ?_⟩
        | refine ⟨Or.inr ⟨rfl, (by first | exact Or.inl rfl | exact Or.inr rfl | assumption)⟩, ?_⟩
        | refine ⟨fun h => absurd h (by decide), fun _ => ?_⟩
        | refine ⟨fun _ => ?_, fun h => absurd h (by decide)⟩
        | refine ⟨fun h => ?_, fun h => ?_⟩
        | fail)
    · rw [q2, if_pos (by decide)] at hK
      have w' : ¬ μ 84 0 (mHd (μ 84 0) (μ 85 0) (nI p) (nI q) nh).toNatClampNeg = nI p := by rw [hc]; exact w
      repeat' (first
        | refine c_Mo_handOf g5.2.1 hh20 ?_
        | refine br_f q1' ?_
        | refine bn_t w' ?_
        | exact hK
        | (refine zs k_Mo_first rfl ?_; conv => whnf)
        | refine ⟨Nat.zero_lt_one, rfl, ?_⟩
        | refine ⟨rfl, ?_⟩
        | refine ⟨⟨Nat.zero_lt_one, rfl⟩, Nat.le_of_ble_eq_true rfl, ?_⟩
        | refine ⟨Nat.le_of_ble_eq_true rfl, Nat.le_of_ble_eq_true rfl, ?_⟩
        | refine ⟨(by first | exact Nat.zero_lt_one | assumption | omega), (by first | assumption | exact vp_in_nI (by omega) (by omega) | (unfold vp_in; decide)), ?_⟩
        | refine ⟨(by first | exact Nat.zero_lt_one | assumption | omega), rfl, ?_⟩
        | refine ⟨⟨(by first | exact Nat.zero_lt_one | assumption | omega), rfl⟩, Nat.le_of_ble_eq_true rfl, ?_⟩
        | refine ⟨(by first | exact Nat.zero_lt_one | assumption | omega), ?_⟩
        | refine ⟨Or.inl rfl, ?_⟩
        | refine ⟨Or.inr (Or.inl rfl), ?_⟩
        | refine ⟨Or.inr (Or.inr rfl), ?_⟩
        | refine ⟨Or.inr ⟨rfl, (by first | exact Or.inl rfl | exact Or.inr rfl | assumption)⟩, ?_⟩
        | refine ⟨fun h => absurd h (by decide), fun _ => ?_⟩
        | refine ⟨fun _ => ?_, fun h => absurd h (by decide)⟩
        | refine ⟨fun h => ?_, fun h => ?_⟩
        | fail)
/-! DESK: ahead, why, quarrel -/
theorem c_De_ahead {d n nr nh ns : Nat} {μ : zMu} {o day x y : Int32} {K : Option zV → zMu → Prop} (g : gPe μ ns n) (g4 : gRu μ nr) (g5 : gHd μ nh) (h0 : ¬ okA n o day x y → K (some (zI (-2))) μ) (h1 : ∀ p q, okA n o day x y → p < n → q < n → p ≠ q → x = nI p → y = nI q → K (some (zI (cLdr μ o day nr nh p q))) μ) : Ct (d + 5) m_De_ahead [zR 0 0, zI o, zI day, zI x, zI y] μ K := by
  refine zmeet rfl (Nat.le_of_ble_eq_true rfl) (fun S => ?_)
  have h20 := g.2.2.1
  by_cases ho : okA n o day x y
  case neg =>
    have hk := h0 ho
    repeat' (first
      | refine c_De_isOccasion (fun i1 => ?_) (fun i1 => ?_)
      | refine c_De_areTwo g.1 (fun i2 => absurd ⟨i1.1, i1.2, i2⟩ ho) (fun i2 => ?_)
      | exact hk
      | (refine zs k_De_ahead rfl ?_; conv => whnf)
      | refine ⟨Nat.zero_lt_one, rfl, ?_⟩
      | refine ⟨rfl, ?_⟩
      | refine ⟨⟨Nat.zero_lt_one, rfl⟩, Nat.le_of_ble_eq_true rfl, ?_⟩
      | refine ⟨Nat.le_of_ble_eq_true rfl, Nat.le_of_ble_eq_true rfl, ?_⟩
      | refine ⟨(by first | exact Nat.zero_lt_one | assumption | omega), (by first | assumption | exact vp_in_nI (by omega) (by omega) | (unfold vp_in; decide)), ?_⟩
      | refine ⟨(by first | exact Nat.zero_lt_one | assumption | omega), rfl, ?_⟩
      | refine ⟨⟨(by first | exact Nat.zero_lt_one | assumption | omega), rfl⟩, Nat.le_of_ble_eq_true rfl, ?_⟩
      | refine ⟨(by first | exact Nat.zero_lt_one | assumption | omega), ?_⟩
      | refine ⟨Or.inl rfl, ?_⟩
      | refine ⟨Or.inr (Or.inl rfl), ?_⟩
      | refine ⟨Or.inr (Or.inr rfl), ?_⟩
      | refine ⟨Or.inr ⟨rfl, (by first | exact Or.inl rfl | exact Or.inr rfl | assumption)⟩, ?_⟩
      | refine ⟨fun h => absurd h (by decide), fun _ => ?_⟩
      | refine ⟨fun _ => ?_, fun h => absurd h (by decide)⟩
      | refine ⟨fun h => ?_, fun h => ?_⟩
      | fail)
  obtain ⟨p, q, hp, hq, hpq, rfl, rfl⟩ := okA_of (by omega) ho
  have hk := h1 p q ho hp hq hpq rfl rfl
  have cp : (nI p).toNatClampNeg = p := nI_clamp (by omega)
  have cq : (nI q).toNatClampNeg = q := nI_clamp (by omega)
  repeat' (first
    | refine c_De_isOccasion (fun i1 => ?_) (fun i1 => absurd ⟨ho.1, ho.2.1⟩ i1)
    | refine c_De_areTwo g.1 (fun i2 => ?_) (fun i2 => absurd ho.2.2 i2)
    | refine c_Bo_leader g4.1 g4.2.2.1 g5.1 g5.2.2.1 (gRu_ok g4) (vp_in_nI (by omega) (by omega)) (vp_in_nI (by omega) (by omega)) ?_
    | exact zKe hk (by rw [cp, cq]; rfl) rfl
    | (refine zs k_De_ahead rfl ?_; conv => whnf)
    | refine ⟨Nat.zero_lt_one, rfl, ?_⟩
    | refine ⟨rfl, ?_⟩
    | refine ⟨⟨Nat.zero_lt_one, rfl⟩, Nat.le_of_ble_eq_true rfl, ?_⟩
    | refine ⟨Nat.le_of_ble_eq_true rfl, Nat.le_of_ble_eq_true rfl, ?_⟩
    | refine ⟨(by first | exact Nat.zero_lt_one | assumption | omega), (by first | assumption | exact vp_in_nI (by omega) (by omega) | (unfold vp_in; decide)), ?_⟩
    | refine ⟨(by first | exact Nat.zero_lt_one | assumption | omega), rfl, ?_⟩
    | refine ⟨⟨(by first | exact Nat.zero_lt_one | assumption | omega), rfl⟩, Nat.le_of_ble_eq_true rfl, ?_⟩
    | refine ⟨(by first | exact Nat.zero_lt_one | assumption | omega), ?_⟩
    | refine ⟨Or.inl rfl, ?_⟩
    | refine ⟨Or.inr (Or.inl rfl), ?_⟩
    | refine ⟨Or.inr (Or.inr rfl), ?_⟩
    | refine ⟨Or.inr ⟨rfl, (by first | exact Or.inl rfl | exact Or.inr rfl | assumption)⟩, ?_⟩
    | refine ⟨fun h => absurd h (by decide), fun _ => ?_⟩
    | refine ⟨fun _ => ?_, fun h => absurd h (by decide)⟩
    | refine ⟨fun h => ?_, fun h => ?_⟩
    | fail)
theorem c_Mo_ahead {d n nr nh ns : Nat} {μ : zMu} {o day x y : Int32} {K : Option zV → zMu → Prop} (g1 : gSt μ ns) (g : gPe μ ns n) (g4 : gRu μ nr) (g5 : gHd μ nh) (h0 : ¬ okA n o day x y → K (some (zI (-2))) μ) (h1 : ∀ p q, okA n o day x y → p < n → q < n → p ≠ q → x = nI p → y = nI q → K (some (zI (cLdr μ o day nr nh p q))) μ) : Ct (d + 7) m_Mo_ahead [zR 48 0, zI o, zI day, zI x, zI y] μ K := by
  refine zmeet rfl (Nat.le_of_ble_eq_true rfl) (fun S => ?_)
  have h20 := g.2.2.1
  by_cases ho : okA n o day x y
  case neg =>
    have hk := h0 ho
    repeat' (first
      | refine c_Mo_isAsked g.2.1 (fun q => absurd q ho) (fun _ => ?_)
      | exact hk
      | (refine zs k_Mo_ahead rfl ?_; conv => whnf)
      | refine ⟨Nat.zero_lt_one, rfl, ?_⟩
      | refine ⟨rfl, ?_⟩
      | refine ⟨⟨Nat.zero_lt_one, rfl⟩, Nat.le_of_ble_eq_true rfl, ?_⟩
      | refine ⟨Nat.le_of_ble_eq_true rfl, Nat.le_of_ble_eq_true rfl, ?_⟩
      | refine ⟨(by first | exact Nat.zero_lt_one | assumption | omega), (by first | assumption | exact vp_in_nI (by omega) (by omega) | (unfold vp_in; decide)), ?_⟩
      | refine ⟨(by first | exact Nat.zero_lt_one | assumption | omega), rfl, ?_⟩
      | refine ⟨⟨(by first | exact Nat.zero_lt_one | assumption | omega), rfl⟩, Nat.le_of_ble_eq_true rfl, ?_⟩
      | refine ⟨(by first | exact Nat.zero_lt_one | assumption | omega), ?_⟩
      | refine ⟨Or.inl rfl, ?_⟩
      | refine ⟨Or.inr (Or.inl rfl), ?_⟩
      | refine ⟨Or.inr (Or.inr rfl), ?_⟩
      | refine ⟨Or.inr ⟨rfl, (by first | exact Or.inl rfl | exact Or.inr rfl | assumption)⟩, ?_⟩
      | refine ⟨fun h => absurd h (by decide), fun _ => ?_⟩
      | refine ⟨fun _ => ?_, fun h => absurd h (by decide)⟩
      | refine ⟨fun h => ?_, fun h => ?_⟩
      | fail)
  obtain ⟨p, q, hp, hq, hpq, rfl, rfl⟩ := okA_of (by omega) ho
  have hk := h1 p q ho hp hq hpq rfl rfl
  repeat' (first
    | refine c_Mo_isAsked g.2.1 (fun _ => ?_) (fun q => absurd ho q)
    | refine c_Mo_first g1 g g4 g5 hp hq hpq rfl rfl ?_
    | exact hk
    | (refine zs k_Mo_ahead rfl ?_; conv => whnf)
    | refine ⟨Nat.zero_lt_one, rfl, ?_⟩
    | refine ⟨rfl, ?_⟩
    | refine ⟨⟨Nat.zero_lt_one, rfl⟩, Nat.le_of_ble_eq_true rfl, ?_⟩
    | refine ⟨Nat.le_of_ble_eq_true rfl, Nat.le_of_ble_eq_true rfl, ?_⟩
    | refine ⟨(by first | exact Nat.zero_lt_one | assumption | omega), (by first | assumption | exact vp_in_nI (by omega) (by omega) | (unfold vp_in; decide)), ?_⟩
    | refine ⟨(by first | exact Nat.zero_lt_one | assumption | omega), rfl, ?_⟩
    | refine ⟨⟨(by first | exact Nat.zero_lt_one | assumption | omega), rfl⟩, Nat.le_of_ble_eq_true rfl, ?_⟩
    | refine ⟨(by first | exact Nat.zero_lt_one | assumption | omega), ?_⟩
    | refine ⟨Or.inl rfl, ?_⟩
    | refine ⟨Or.inr (Or.inl rfl), ?_⟩
    | refine ⟨Or.inr (Or.inr rfl), ?_⟩
    | refine ⟨Or.inr ⟨rfl, (by first | exact Or.inl rfl | exact Or.inr rfl | assumption)⟩, ?_⟩
    | refine ⟨fun h => absurd h (by decide), fun _ => ?_⟩
    | refine ⟨fun _ => ?_, fun h => absurd h (by decide)⟩
    | refine ⟨fun h => ?_, fun h => ?_⟩
    | fail)
theorem b_ahead {μ : zMu} {o day x y : Int32} (h : Rel μ) : Both m_De_ahead m_Mo_ahead [zI o, zI day, zI x, zI y] μ := by
  intro d K hK
  obtain ⟨ns, n, nr, nh, nt, nb, L, g1, g2, g3, g4, g5, g6, g7, g8, g9, g10, g11⟩ := id h
  have h20 := g2.2.2.1
  refine c_De_ahead g2 g4 g5 (fun a => hK _ _ (fun d K2 hK2 => ?_)) (fun p q a hp hq hpq ex ey => hK _ _ (fun d K2 hK2 => ?_))
  · exact c_Mo_ahead g1 g2 g4 g5 (fun _ => hK2 _ h) (fun p q b => absurd b a)
  · subst ex ey
    refine c_Mo_ahead g1 g2 g4 g5 (fun b => absurd a b) (fun p' q' _ hp' hq' _ ex ey => ?_)
    obtain rfl := (nI_eq (by omega) (by omega)).mp ex
    obtain rfl := (nI_eq (by omega) (by omega)).mp ey
    exact hK2 _ h
def cWhy (μ : zMu) (o day : Int32) (nr nh p q : Nat) : Int32 := if pHand (μ 20 0) (μ 21 0) (nI p) (nI q) nh = 0 then pGo (cV μ o day p q) (cOc μ) nr else 100
theorem c_De_why {d n nr nh ns : Nat} {μ : zMu} {o day x y : Int32} {K : Option zV → zMu → Prop} (g : gPe μ ns n) (g4 : gRu μ nr) (g5 : gHd μ nh) (h0 : ¬ okA n o day x y → K (some (zI (-1))) μ) (h1 : ∀ p q, okA n o day x y → p < n → q < n → p ≠ q → x = nI p → y = nI q → K (some (zI (cWhy μ o day nr nh p q))) μ) : Ct (d + 4) m_De_why [zR 0 0, zI o, zI day, zI x, zI y] μ K := by
  refine zmeet rfl (Nat.le_of_ble_eq_true rfl) (fun S => ?_)
  have h20 := g.2.2.1
  by_cases ho : okA n o day x y
  case neg =>
    have hk := h0 ho
    repeat' (first
      | refine c_De_isOccasion (fun i1 => ?_) (fun i1 => ?_)
      | refine c_De_areTwo g.1 (fun i2 => absurd ⟨i1.1, i1.2, i2⟩ ho) (fun i2 => ?_)
      | exact hk
      | (refine zs k_De_why rfl ?_; conv => whnf)
      | refine ⟨Nat.zero_lt_one, rfl, ?_⟩
      | refine ⟨rfl, ?_⟩
      | refine ⟨⟨Nat.zero_lt_one, rfl⟩, Nat.le_of_ble_eq_true rfl, ?_⟩
      | refine ⟨Nat.le_of_ble_eq_true rfl, Nat.le_of_ble_eq_true rfl, ?_⟩
      | refine ⟨(by first | exact Nat.zero_lt_one | assumption | omega), (by first | assumption | exact vp_in_nI (by omega) (by omega) | (unfold vp_in; decide)), ?_⟩
      | refine ⟨(by first | exact Nat.zero_lt_one | assumption | omega), rfl, ?_⟩
      | refine ⟨⟨(by first | exact Nat.zero_lt_one | assumption | omega), rfl⟩, Nat.le_of_ble_eq_true rfl, ?_⟩
      | refine ⟨(by first | exact Nat.zero_lt_one | assumption | omega), ?_⟩
      | refine ⟨Or.inl rfl, ?_⟩
      | refine ⟨Or.inr (Or.inl rfl), ?_⟩
      | refine ⟨Or.inr (Or.inr rfl), ?_⟩
      | refine ⟨Or.inr ⟨rfl, (by first | exact Or.inl rfl | exact Or.inr rfl | assumption)⟩, ?_⟩
      | refine ⟨fun h => absurd h (by decide), fun _ => ?_⟩
      | refine ⟨fun _ => ?_, fun h => absurd h (by decide)⟩
      | refine ⟨fun h => ?_, fun h => ?_⟩
      | fail)
  obtain ⟨p, q, hp, hq, hpq, rfl, rfl⟩ := okA_of (by omega) ho
  have hk := h1 p q ho hp hq hpq rfl rfl
  have cp : (nI p).toNatClampNeg = p := nI_clamp (by omega)
  have cq : (nI q).toNatClampNeg = q := nI_clamp (by omega)
  unfold cWhy at hk
  by_cases hh : pHand (μ 20 0) (μ 21 0) (nI p) (nI q) nh = 0
  · rw [if_pos hh] at hk
    repeat' (first
      | refine c_De_isOccasion (fun i1 => ?_) (fun i1 => absurd ⟨ho.1, ho.2.1⟩ i1)
      | refine c_De_areTwo g.1 (fun i2 => ?_) (fun i2 => absurd ho.2.2 i2)
      | refine c_Bo_toldByHand g5.1 g5.2.2.1 ?_
      | refine br_t hh ?_
      | refine c_Bo_goingRule g4.1 g4.2.2.1 (gRu_ok g4) (vp_in_nI (by omega) (by omega)) (vp_in_nI (by omega) (by omega)) ?_
      | exact zKe hk (by rw [cp, cq]) rfl
      | (refine zs k_De_why rfl ?_; conv => whnf)
      | refine ⟨Nat.zero_lt_one, rfl, ?_⟩
      | refine ⟨rfl, ?_⟩
      | refine ⟨⟨Nat.zero_lt_one, rfl⟩, Nat.le_of_ble_eq_true rfl, ?_⟩
      | refine ⟨Nat.le_of_ble_eq_true rfl, Nat.le_of_ble_eq_true rfl, ?_⟩
      | refine ⟨(by first | exact Nat.zero_lt_one | assumption | omega), (by first | assumption | exact vp_in_nI (by omega) (by omega) | (unfold vp_in; decide)), ?_⟩
      | refine ⟨(by first | exact Nat.zero_lt_one | assumption | omega), rfl, ?_⟩
      | refine ⟨⟨(by first | exact Nat.zero_lt_one | assumption | omega), rfl⟩, Nat.le_of_ble_eq_true rfl, ?_⟩
      | refine ⟨(by first | exact Nat.zero_lt_one | assumption | omega), ?_⟩
      | refine ⟨Or.inl rfl, ?_⟩
      | refine ⟨Or.inr (Or.inl rfl), ?_⟩
      | refine ⟨Or.inr (Or.inr rfl), ?_⟩
      | refine ⟨Or.inr ⟨rfl, (by first | exact Or.inl rfl | exact Or.inr rfl | assumption)⟩, ?_⟩
      | refine ⟨fun h => absurd h (by decide), fun _ => ?_⟩
      | refine ⟨fun _ => ?_, fun h => absurd h (by decide)⟩
      | refine ⟨fun h => ?_, fun h => ?_⟩
      | fail)
  · rw [if_neg hh] at hk
    repeat' (first
      | refine c_De_isOccasion (fun i1 => ?_) (fun i1 => absurd ⟨ho.1, ho.2.1⟩ i1)
      | refine c_De_areTwo g.1 (fun i2 => ?_) (fun i2 => absurd ho.2.2 i2)
      | refine c_Bo_toldByHand g5.1 g5.2.2.1 ?_
      | refine br_f hh ?_
      | exact hk
      | (refine zs k_De_why rfl ?_; conv => whnf)
      | refine ⟨Nat.zero_lt_one, rfl, ?_⟩
      | refine ⟨rfl, ?_⟩
      | refine ⟨⟨Nat.zero_lt_one, rfl⟩, Nat.le_of_ble_eq_true rfl, ?_⟩
      | refine ⟨Nat.le_of_ble_eq_true rfl, Nat.le_of_ble_eq_true rfl, ?_⟩
      | refine ⟨(by first | exact Nat.zero_lt_one | assumption | omega), (by first | assumption | exact vp_in_nI (by omega) (by omega) | (unfold vp_in; decide)), ?_⟩
      | refine ⟨(by first | exact Nat.zero_lt_one | assumption | omega), rfl, ?_⟩
      | refine ⟨⟨(by first | exact Nat.zero_lt_one | assumption | omega), rfl⟩, Nat.le_of_ble_eq_true rfl, ?_⟩
      | refine ⟨(by first | exact Nat.zero_lt_one | assumption | omega), ?_⟩
      | refine ⟨Or.inl rfl, ?_⟩
      | refine ⟨Or.inr (Or.inl rfl), ?_⟩
      | refine ⟨Or.inr (Or.inr rfl), ?_⟩
      | refine ⟨Or.inr ⟨rfl, (by first | exact Or.inl rfl | exact Or.inr rfl | assumption)⟩, ?_⟩
      | refine ⟨fun h => absurd h (by decide), fun _ => ?_⟩
      | refine ⟨fun _ => ?_, fun h => absurd h (by decide)⟩
      | refine ⟨fun h => ?_, fun h => ?_⟩
      | fail)
theorem mHd_0 {μ : zMu} {nh p q : Nat} (g5 : gHd μ nh) (hpq : ¬ nI p = nI q) : mHd (μ 84 0) (μ 85 0) (nI p) (nI q) nh = -1 ↔ pHand (μ 20 0) (μ 21 0) (nI p) (nI q) nh = 0 := by
  have h20 := g5.2.2.1
  rw [← pHand_cg (hx' := μ 84 0) (hy' := μ 85 0) g5.2.2.2]
  rcases mHd_p (hx := μ 84 0) (hy := μ 85 0) hpq nh (by omega) with ⟨q1, q2⟩ | ⟨j, hj, q1, q2⟩
  · rw [q1, q2]
    simp
  · rw [q1]
    constructor
    · intro e
      exact absurd e (nI_nem1 (by omega))
    · intro e
      rcases q2 with ⟨-, q2⟩ | ⟨-, q2⟩
      · exact absurd (q2.symm.trans e) (by decide)
      · exact absurd (q2.symm.trans e) (by decide)
theorem c_Mo_why {d n nr nh ns : Nat} {μ : zMu} {o day x y : Int32} {K : Option zV → zMu → Prop} (g1 : gSt μ ns) (g : gPe μ ns n) (g4 : gRu μ nr) (g5 : gHd μ nh) (h0 : ¬ okA n o day x y → K (some (zI (-1))) μ) (h1 : ∀ p q, okA n o day x y → p < n → q < n → p ≠ q → x = nI p → y = nI q → K (some (zI (cWhy μ o day nr nh p q))) μ) : Ct (d + 6) m_Mo_why [zR 48 0, zI o, zI day, zI x, zI y] μ K := by
  refine zmeet rfl (Nat.le_of_ble_eq_true rfl) (fun S => ?_)
  have h20 := g.2.2.1
  by_cases ho : okA n o day x y
  case neg =>
    have hk := h0 ho
    repeat' (first
      | refine c_Mo_isAsked g.2.1 (fun q => absurd q ho) (fun _ => ?_)
      | exact hk
      | (refine zs k_Mo_why rfl ?_; conv => whnf)
      | refine ⟨Nat.zero_lt_one, rfl, ?_⟩
      | refine ⟨rfl, ?_⟩
      | refine ⟨⟨Nat.zero_lt_one, rfl⟩, Nat.le_of_ble_eq_true rfl, ?_⟩
      | refine ⟨Nat.le_of_ble_eq_true rfl, Nat.le_of_ble_eq_true rfl, ?_⟩
      | refine ⟨(by first | exact Nat.zero_lt_one | assumption | omega), (by first | assumption | exact vp_in_nI (by omega) (by omega) | (unfold vp_in; decide)), ?_⟩
      | refine ⟨(by first | exact Nat.zero_lt_one | assumption | omega), rfl, ?_⟩
      | refine ⟨⟨(by first | exact Nat.zero_lt_one | assumption | omega), rfl⟩, Nat.le_of_ble_eq_true rfl, ?_⟩
      | refine ⟨(by first | exact Nat.zero_lt_one | assumption | omega), ?_⟩
      | refine ⟨Or.inl rfl, ?_⟩
      | refine ⟨Or.inr (Or.inl rfl), ?_⟩
      | refine ⟨Or.inr (Or.inr rfl), ?_⟩
      | refine ⟨Or.inr ⟨rfl, (by first | exact Or.inl rfl | exact Or.inr rfl | assumption)⟩, ?_⟩
      | refine ⟨fun h => absurd h (by decide), fun _ => ?_⟩
      | refine ⟨fun _ => ?_, fun h => absurd h (by decide)⟩
      | refine ⟨fun h => ?_, fun h => ?_⟩
      | fail)
  obtain ⟨p, q, hp, hq, hpq, rfl, rfl⟩ := okA_of (by omega) ho
  have hk := h1 p q ho hp hq hpq rfl rfl
  have hne : ¬ nI p = nI q := fun e => hpq ((nI_eq (by omega) (by omega)).mp e)
  have hm := mHd_0 g5 hne
  unfold cWhy at hk
  by_cases hh : pHand (μ 20 0) (μ 21 0) (nI p) (nI q) nh = 0
  · rw [if_pos hh] at hk
    have hm' := hm.mpr hh
    repeat' (first
      | refine c_Mo_isAsked g.2.1 (fun _ => ?_) (fun q => absurd ho q)
      | refine c_Mo_handOf g5.2.1 g5.2.2.1 ?_
      | refine br_t hm' ?_
      | refine c_Mo_goes g1 g g4 hp hq rfl rfl ?_
      | exact hk
      | (refine zs k_Mo_why rfl ?_; conv => whnf)
      | refine ⟨Nat.zero_lt_one, rfl, ?_⟩
      | refine ⟨rfl, ?_⟩
      | refine ⟨⟨Nat.zero_lt_one, rfl⟩, Nat.le_of_ble_eq_true rfl, ?_⟩
      | refine ⟨Nat.le_of_ble_eq_true rfl, Nat.le_of_ble_eq_true rfl, ?_⟩
      | refine ⟨(by first | exact Nat.zero_lt_one | assumption | omega), (by first | assumption | exact vp_in_nI (by omega) (by omega) | (unfold vp_in; decide)), ?_⟩
      | refine ⟨(by first | exact Nat.zero_lt_one | assumption | omega), rfl, ?_⟩
      | refine ⟨⟨(by first | exact Nat.zero_lt_one | assumption | omega), rfl⟩, Nat.le_of_ble_eq_true rfl, ?_⟩
      | refine ⟨(by first | exact Nat.zero_lt_one | assumption | omega), ?_⟩
      | refine ⟨Or.inl rfl, ?_⟩
      | refine ⟨Or.inr (Or.inl rfl), ?_⟩
      | refine ⟨Or.inr (Or.inr rfl), ?_⟩
      | refine ⟨Or.inr ⟨rfl, (by first | exact Or.inl rfl | exact Or.inr rfl | assumption)⟩, ?_⟩
      | refine ⟨fun h => absurd h (by decide), fun _ => ?_⟩
      | refine ⟨fun _ => ?_, fun h => absurd h (by decide)⟩
      | refine ⟨fun h => ?_, fun h => ?_⟩
      | fail)
  · rw [if_neg hh] at hk
    have hm' : ¬ mHd (μ 84 0) (μ 85 0) (nI p) (nI q) nh = -1 := fun e => hh (hm.mp e)
    repeat' (first
      | refine c_Mo_isAsked g.2.1 (fun _ => ?_) (fun q => absurd ho q)
      | refine c_Mo_handOf g5.2.1 g5.2.2.1 ?_
      | refine br_f hm' ?_
      | exact hk
      | (refine zs k_Mo_why rfl ?_; conv => whnf)
      | refine ⟨Nat.zero_lt_one, rfl, ?_⟩
      | refine ⟨rfl, ?_⟩
      | refine ⟨⟨Nat.zero_lt_one, rfl⟩, Nat.le_of_ble_eq_true rfl, ?_⟩
      | refine ⟨Nat.le_of_ble_eq_true rfl, Nat.le_of_ble_eq_true rfl, ?_⟩
      | refine ⟨(by first | exact Nat.zero_lt_one | assumption | omega), (by first | assumption | exact vp_in_nI (by omega) (by omega) | (unfold vp_in; decide)), ?_⟩
      | refine ⟨(by first | exact Nat.zero_lt_one | assumption | omega), rfl, ?_⟩
      | refine ⟨⟨(by first | exact Nat.zero_lt_one | assumption | omega), rfl⟩, Nat.le_of_ble_eq_true rfl, ?_⟩
      | refine ⟨(by first | exact Nat.zero_lt_one | assumption | omega), ?_⟩
      | refine ⟨Or.inl rfl, ?_⟩
      | refine ⟨Or.inr (Or.inl rfl), ?_⟩
      | refine ⟨Or.inr (Or.inr rfl), ?_⟩
      | refine ⟨Or.inr ⟨rfl, (by first | exact Or.inl rfl | exact Or.inr rfl | assumption)⟩, ?_⟩
      | refine ⟨fun h => absurd h (by decide), fun _ => ?_⟩
      | refine ⟨fun _ => ?_, fun h => absurd h (by decide)⟩
      | refine ⟨fun h => ?_, fun h => ?_⟩
      | fail)
theorem b_why {μ : zMu} {o day x y : Int32} (h : Rel μ) : Both m_De_why m_Mo_why [zI o, zI day, zI x, zI y] μ := by
  intro d K hK
  obtain ⟨ns, n, nr, nh, nt, nb, L, g1, g2, g3, g4, g5, g6, g7, g8, g9, g10, g11⟩ := id h
  have h20 := g2.2.2.1
  refine c_De_why g2 g4 g5 (fun a => hK _ _ (fun d K2 hK2 => ?_)) (fun p q a hp hq hpq ex ey => hK _ _ (fun d K2 hK2 => ?_))
  · exact c_Mo_why g1 g2 g4 g5 (fun _ => hK2 _ h) (fun p q b => absurd b a)
  · subst ex ey
    refine c_Mo_why g1 g2 g4 g5 (fun b => absurd a b) (fun p' q' _ hp' hq' _ ex ey => ?_)
    obtain rfl := (nI_eq (by omega) (by omega)).mp ex
    obtain rfl := (nI_eq (by omega) (by omega)).mp ey
    exact hK2 _ h
def cQu (μ : zMu) (o day : Int32) (nr nh p q : Nat) : Int32 := if pHand (μ 20 0) (μ 21 0) (nI p) (nI q) nh = 0 then (if pGo (cV μ o day p q) (cOc μ) nr = -1 then -1 else pFst (fun r => decide (cV μ o day p q r = -cV μ o day p q (pGo (cV μ o day p q) (cOc μ) nr).toNatClampNeg)) nr) else -1
theorem c_De_quarrel {d n nr nh ns : Nat} {μ : zMu} {o day x y : Int32} {K : Option zV → zMu → Prop} (g : gPe μ ns n) (g4 : gRu μ nr) (g5 : gHd μ nh) (h0 : ¬ okA n o day x y → K (some (zI (-1))) μ) (h1 : ∀ p q, okA n o day x y → p < n → q < n → p ≠ q → x = nI p → y = nI q → K (some (zI (cQu μ o day nr nh p q))) μ) : Ct (d + 5) m_De_quarrel [zR 0 0, zI o, zI day, zI x, zI y] μ K := by
  refine zmeet rfl (Nat.le_of_ble_eq_true rfl) (fun S => ?_)
  have h20 := g.2.2.1
  by_cases ho : okA n o day x y
  case neg =>
    have hk := h0 ho
    repeat' (first
      | refine c_De_isOccasion (fun i1 => ?_) (fun i1 => ?_)
      | refine c_De_areTwo g.1 (fun i2 => absurd ⟨i1.1, i1.2, i2⟩ ho) (fun i2 => ?_)
      | exact hk
      | (refine zs k_De_quarrel rfl ?_; conv => whnf)
      | refine ⟨Nat.zero_lt_one, rfl, ?_⟩
      | refine ⟨rfl, ?_⟩
      | refine ⟨⟨Nat.zero_lt_one, rfl⟩, Nat.le_of_ble_eq_true rfl, ?_⟩
      | refine ⟨Nat.le_of_ble_eq_true rfl, Nat.le_of_ble_eq_true rfl, ?_⟩
      | refine ⟨(by first | exact Nat.zero_lt_one | assumption | omega), (by first | assumption | exact vp_in_nI (by omega) (by omega) | (unfold vp_in; decide)), ?_⟩
      | refine ⟨(by first | exact Nat.zero_lt_one | assumption | omega), rfl, ?_⟩
      | refine ⟨⟨(by first | exact Nat.zero_lt_one | assumption | omega), rfl⟩, Nat.le_of_ble_eq_true rfl, ?_⟩
      | refine ⟨(by first | exact Nat.zero_lt_one | assumption | omega), ?_⟩
      | refine ⟨Or.inl rfl, ?_⟩
      | refine ⟨Or.inr (Or.inl rfl), ?_⟩
      | refine ⟨Or.inr (Or.inr rfl), ?_⟩
      | refine ⟨Or.inr ⟨rfl, (by first | exact Or.inl rfl | exact Or.inr rfl | assumption)⟩, ?_⟩
      | refine ⟨fun h => absurd h (by decide), fun _ => ?_⟩
      | refine ⟨fun _ => ?_, fun h => absurd h (by decide)⟩
      | refine ⟨fun h => ?_, fun h => ?_⟩
      | fail)
  obtain ⟨p, q, hp, hq, hpq, rfl, rfl⟩ := okA_of (by omega) ho
  have hk := h1 p q ho hp hq hpq rfl rfl
  have cp : (nI p).toNatClampNeg = p := nI_clamp (by omega)
  have cq : (nI q).toNatClampNeg = q := nI_clamp (by omega)
  unfold cQu at hk
  by_cases hh : pHand (μ 20 0) (μ 21 0) (nI p) (nI q) nh = 0
  · rw [if_pos hh] at hk
    repeat' (first
      | refine c_De_isOccasion (fun i1 => ?_) (fun i1 => absurd ⟨ho.1, ho.2.1⟩ i1)
      | refine c_De_areTwo g.1 (fun i2 => ?_) (fun i2 => absurd ho.2.2 i2)
      | refine c_Bo_toldByHand g5.1 g5.2.2.1 ?_
      | refine br_t hh ?_
      | refine c_Bo_contraryRule g4.1 g4.2.2.1 (gRu_ok g4) (vp_in_nI (by omega) (by omega)) (vp_in_nI (by omega) (by omega)) (fun G hG => ?_)
      | exact zKe hk (by rw [hG, cp, cq]) rfl
      | (refine zs k_De_quarrel rfl ?_; conv => whnf)
      | refine ⟨Nat.zero_lt_one, rfl, ?_⟩
      | refine ⟨rfl, ?_⟩
      | refine ⟨⟨Nat.zero_lt_one, rfl⟩, Nat.le_of_ble_eq_true rfl, ?_⟩
      | refine ⟨Nat.le_of_ble_eq_true rfl, Nat.le_of_ble_eq_true rfl, ?_⟩
      | refine ⟨(by first | exact Nat.zero_lt_one | assumption | omega), (by first | assumption | exact vp_in_nI (by omega) (by omega) | (unfold vp_in; decide)), ?_⟩
      | refine ⟨(by first | exact Nat.zero_lt_one | assumption | omega), rfl, ?_⟩
      | refine ⟨⟨(by first | exact Nat.zero_lt_one | assumption | omega), rfl⟩, Nat.le_of_ble_eq_true rfl, ?_⟩
      | refine ⟨(by first | exact Nat.zero_lt_one | assumption | omega), ?_⟩
      | refine ⟨Or.inl rfl, ?_⟩
      | refine ⟨Or.inr (Or.inl rfl), ?_⟩
      | refine ⟨Or.inr (Or.inr rfl), ?_⟩
      | refine ⟨Or.inr ⟨rfl, (by first | exact Or.inl rfl | exact Or.inr rfl | assumption)⟩, ?_⟩
      | refine ⟨fun h => absurd h (by decide), fun _ => ?_⟩
      | refine ⟨fun _ => ?_, fun h => absurd h (by decide)⟩
      | refine ⟨fun h => ?_, fun h => ?_⟩
      | fail)
  · rw [if_neg hh] at hk
    repeat' (first
      | refine c_De_isOccasion (fun i1 => ?_) (fun i1 => absurd ⟨ho.1, ho.2.1⟩ i1)
      | refine c_De_areTwo g.1 (fun i2 => ?_) (fun i2 => absurd ho.2.2 i2)
      | refine c_Bo_toldByHand g5.1 g5.2.2.1 ?_
      | refine br_f hh ?_
      | exact hk
      | (refine zs k_De_quarrel rfl ?_; conv => whnf)
      | refine ⟨Nat.zero_lt_one, rfl, ?_⟩
      | refine ⟨rfl, ?_⟩
      | refine ⟨⟨Nat.zero_lt_one, rfl⟩, Nat.le_of_ble_eq_true rfl, ?_⟩
      | refine ⟨Nat.le_of_ble_eq_true rfl, Nat.le_of_ble_eq_true rfl, ?_⟩
      | refine ⟨(by first | exact Nat.zero_lt_one | assumption | omega), (by first | assumption | exact vp_in_nI (by omega) (by omega) | (unfold vp_in; decide)), ?_⟩
      | refine ⟨(by first | exact Nat.zero_lt_one | assumption | omega), rfl, ?_⟩
      | refine ⟨⟨(by first | exact Nat.zero_lt_one | assumption | omega), rfl⟩, Nat.le_of_ble_eq_true rfl, ?_⟩
      | refine ⟨(by first | exact Nat.zero_lt_one | assumption | omega), ?_⟩
      | refine ⟨Or.inl rfl, ?_⟩
      | refine ⟨Or.inr (Or.inl rfl), ?_⟩
      | refine ⟨Or.inr (Or.inr rfl), ?_⟩
      | refine ⟨Or.inr ⟨rfl, (by first | exact Or.inl rfl | exact Or.inr rfl | assumption)⟩, ?_⟩
      | refine ⟨fun h => absurd h (by decide), fun _ => ?_⟩
      | refine ⟨fun _ => ?_, fun h => absurd h (by decide)⟩
      | refine ⟨fun h => ?_, fun h => ?_⟩
      | fail)
theorem cV_neg {a b : Int32} (ha : a = 0 ∨ a = 1 ∨ a = -1) (hb : b = 1 ∨ b = -1) : (0 ≤ a * b ↔ ¬ a = -b) := by
  rcases ha with rfl | rfl | rfl <;> rcases hb with rfl | rfl <;> decide
set_option maxHeartbeats 1000000 in
theorem c_Mo_quarrel {d n nr nh ns : Nat} {μ : zMu} {o day x y : Int32} {K : Option zV → zMu → Prop} (g1 : gSt μ ns) (g : gPe μ ns n) (g4 : gRu μ nr) (g5 : gHd μ nh) (h0 : ¬ okA n o day x y → K (some (zI (-1))) μ) (h1 : ∀ p q, okA n o day x y → p < n → q < n → p ≠ q → x = nI p → y = nI q → K (some (zI (cQu μ o day nr nh p q))) μ) : Ct (d + 6) m_Mo_quarrel [zR 48 0, zI o, zI day, zI x, zI y] μ K := by
  refine zmeet rfl (Nat.le_of_ble_eq_true rfl) (fun S => ?_)
  have h20 := g.2.2.1
  have h16 := g4.2.2.1
  by_cases ho : okA n o day x y
  case neg =>
    have hk := h0 ho
    repeat' (first
      | refine c_Mo_isAsked g.2.1 (fun q => absurd q ho) (fun _ => ?_)
      | exact hk
      | (refine zs k_Mo_quarrel rfl ?_; conv => whnf)
      | refine ⟨Nat.zero_lt_one, rfl, ?_⟩
      | refine ⟨rfl, ?_⟩
      | refine ⟨⟨Nat.zero_lt_one, rfl⟩, Nat.le_of_ble_eq_true rfl, ?_⟩
      | refine ⟨Nat.le_of_ble_eq_true rfl, Nat.le_of_ble_eq_true rfl, ?_⟩
      | refine ⟨(by first | exact Nat.zero_lt_one | assumption | omega), (by first | assumption | exact vp_in_nI (by omega) (by omega) | (unfold vp_in; decide)), ?_⟩
      | refine ⟨(by first | exact Nat.zero_lt_one | assumption | omega), rfl, ?_⟩
      | refine ⟨⟨(by first | exact Nat.zero_lt_one | assumption | omega), rfl⟩, Nat.le_of_ble_eq_true rfl, ?_⟩
      | refine ⟨(by first | exact Nat.zero_lt_one | assumption | omega), ?_⟩
      | refine ⟨Or.inl rfl, ?_⟩
      | refine ⟨Or.inr (Or.inl rfl), ?_⟩
      | refine ⟨Or.inr (Or.inr rfl), ?_⟩
      | refine ⟨Or.inr ⟨rfl, (by first | exact Or.inl rfl | exact Or.inr rfl | assumption)⟩, ?_⟩
      | refine ⟨fun h => absurd h (by decide), fun _ => ?_⟩
      | refine ⟨fun _ => ?_, fun h => absurd h (by decide)⟩
      | refine ⟨fun h => ?_, fun h => ?_⟩
      | fail)
  obtain ⟨p, q, hp, hq, hpq, rfl, rfl⟩ := okA_of (by omega) ho
  have hk := h1 p q ho hp hq hpq rfl rfl
  have hne : ¬ nI p = nI q := fun e => hpq ((nI_eq (by omega) (by omega)).mp e)
  have hm := mHd_0 g5 hne
  have hn := g4.2.1
  unfold cQu at hk
  by_cases hh : pHand (μ 20 0) (μ 21 0) (nI p) (nI q) nh = 0
  case neg =>
    rw [if_neg hh] at hk
    have hm' : ¬ mHd (μ 84 0) (μ 85 0) (nI p) (nI q) nh = -1 := fun e => hh (hm.mp e)
    repeat' (first
      | refine c_Mo_isAsked g.2.1 (fun _ => ?_) (fun q => absurd ho q)
      | refine c_Mo_handOf g5.2.1 g5.2.2.1 ?_
      | refine br_f hm' ?_
      | exact hk
      | (refine zs k_Mo_quarrel rfl ?_; conv => whnf)
      | refine ⟨Nat.zero_lt_one, rfl, ?_⟩
      | refine ⟨rfl, ?_⟩
      | refine ⟨⟨Nat.zero_lt_one, rfl⟩, Nat.le_of_ble_eq_true rfl, ?_⟩
      | refine ⟨Nat.le_of_ble_eq_true rfl, Nat.le_of_ble_eq_true rfl, ?_⟩
      | refine ⟨(by first | exact Nat.zero_lt_one | assumption | omega), (by first | assumption | exact vp_in_nI (by omega) (by omega) | (unfold vp_in; decide)), ?_⟩
      | refine ⟨(by first | exact Nat.zero_lt_one | assumption | omega), rfl, ?_⟩
      | refine ⟨⟨(by first | exact Nat.zero_lt_one | assumption | omega), rfl⟩, Nat.le_of_ble_eq_true rfl, ?_⟩
      | refine ⟨(by first | exact Nat.zero_lt_one | assumption | omega), ?_⟩
      | refine ⟨Or.inl rfl, ?_⟩
      | refine ⟨Or.inr (Or.inl rfl), ?_⟩
      | refine ⟨Or.inr (Or.inr rfl), ?_⟩
      | refine ⟨Or.inr ⟨rfl, (by first | exact Or.inl rfl | exact Or.inr rfl | assumption)⟩, ?_⟩
      | refine ⟨fun h => absurd h (by decide), fun _ => ?_⟩
      | refine ⟨fun _ => ?_, fun h => absurd h (by decide)⟩
      | refine ⟨fun h => ?_, fun h => ?_⟩
      | fail)
  rw [if_pos hh] at hk
  have hm' := hm.mpr hh
  rcases pGo_in (V := cV μ o day p q) (oc := cOc μ) (n := nr) h16 with w | ⟨G, hG, w, wV⟩
  · rw [if_pos w] at hk
    have L0 : ∀ v : Int32, v = 0 → zG S (d + 6) m_Mo_quarrel K 39 [some (zR 48 0), some (zI o), some (zI day), some (zI (nI p)), some (zI (nI q)), some (zI (pGo (cV μ o day p q) (cOc μ) nr)), some (zI v)] [] μ := by
      intro v hv
      subst hv
      refine zs k_Mo_quarrel rfl ?_; conv => whnf
      repeat' (first
        | refine br_t w ?_
        | exact hk
        | (refine zs k_Mo_quarrel rfl ?_; conv => whnf)
        | refine ⟨Nat.zero_lt_one, rfl, ?_⟩
        | refine ⟨rfl, ?_⟩
        | refine ⟨⟨Nat.zero_lt_one, rfl⟩, Nat.le_of_ble_eq_true rfl, ?_⟩
        | refine ⟨Nat.le_of_ble_eq_true rfl, Nat.le_of_ble_eq_true rfl, ?_⟩
        | refine ⟨(by first | exact Nat.zero_lt_one | assumption | omega), (by first | assumption | exact vp_in_nI (by omega) (by omega) | (unfold vp_in; decide)), ?_⟩
        | refine ⟨(by first | exact Nat.zero_lt_one | assumption | omega), rfl, ?_⟩
        | refine ⟨⟨(by first | exact Nat.zero_lt_one | assumption | omega), rfl⟩, Nat.le_of_ble_eq_true rfl, ?_⟩
        | refine ⟨(by first | exact Nat.zero_lt_one | assumption | omega), ?_⟩
        | refine ⟨Or.inl rfl, ?_⟩
        | refine ⟨Or.inr (Or.inl rfl), ?_⟩
        | refine ⟨Or.inr (Or.inr rfl), ?_⟩
        | refine ⟨Or.inr ⟨rfl, (by first | exact Or.inl rfl | exact Or.inr rfl | assumption)⟩, ?_⟩
        | refine ⟨fun h => absurd h (by decide), fun _ => ?_⟩
        | refine ⟨fun _ => ?_, fun h => absurd h (by decide)⟩
        | refine ⟨fun h => ?_, fun h => ?_⟩
        | fail)
    repeat' (first
      | refine c_Mo_isAsked g.2.1 (fun _ => ?_) (fun q => absurd ho q)
      | refine c_Mo_handOf g5.2.1 g5.2.2.1 ?_
      | refine br_t hm' ?_
      | refine c_Mo_goes g1 g g4 hp hq rfl rfl ?_
      | exact L0 _ rfl
      | (refine zs k_Mo_quarrel rfl ?_; conv => whnf)
      | refine ⟨Nat.zero_lt_one, rfl, ?_⟩
      | refine ⟨rfl, ?_⟩
      | refine ⟨⟨Nat.zero_lt_one, rfl⟩, Nat.le_of_ble_eq_true rfl, ?_⟩
      | refine ⟨Nat.le_of_ble_eq_true rfl, Nat.le_of_ble_eq_true rfl, ?_⟩
      | refine ⟨(by first | exact Nat.zero_lt_one | assumption | omega), (by first | assumption | exact vp_in_nI (by omega) (by omega) | (unfold vp_in; decide)), ?_⟩
      | refine ⟨(by first | exact Nat.zero_lt_one | assumption | omega), rfl, ?_⟩
      | refine ⟨⟨(by first | exact Nat.zero_lt_one | assumption | omega), rfl⟩, Nat.le_of_ble_eq_true rfl, ?_⟩
      | refine ⟨(by first | exact Nat.zero_lt_one | assumption | omega), ?_⟩
      | refine ⟨Or.inl rfl, ?_⟩
      | refine ⟨Or.inr (Or.inl rfl), ?_⟩
      | refine ⟨Or.inr (Or.inr rfl), ?_⟩
      | refine ⟨Or.inr ⟨rfl, (by first | exact Or.inl rfl | exact Or.inr rfl | assumption)⟩, ?_⟩
      | refine ⟨fun h => absurd h (by decide), fun _ => ?_⟩
      | refine ⟨fun _ => ?_, fun h => absurd h (by decide)⟩
      | refine ⟨fun h => ?_, fun h => ?_⟩
      | fail)
  · have w' : ¬ pGo (cV μ o day p q) (cOc μ) nr = -1 := by rw [w]; exact nI_nem1 (by omega)
    rw [if_neg w', w, nI_clamp (by omega)] at hk
    have hb : cV μ o day p q G = 1 ∨ cV μ o day p q G = -1 := (pV_c _ _ _ _ _ _).resolve_left wV
    have L : ∀ (k i : Nat) (v : Int32), i + k = nr → v = nI i → (∀ r, r < i → decide (cV μ o day p q r = -cV μ o day p q G) = false) → zG S (d + 6) m_Mo_quarrel K 39 [some (zR 48 0), some (zI o), some (zI day), some (zI (nI p)), some (zI (nI q)), some (zI (pGo (cV μ o day p q) (cOc μ) nr)), some (zI v)] [] μ := by
      intro k
      induction k with
      | zero =>
        intro i v hi hv hz
        subst hv
        obtain rfl : i = nr := by omega
        rw [pFst_none hz] at hk
        refine zs k_Mo_quarrel rfl ?_; conv => whnf
        repeat' (first
          | exact hk
          | (refine zs k_Mo_quarrel rfl ?_; conv => whnf)
          | refine br_t (by simp (disch := omega) only [hn, nI_leI, nI_ltI, nI_eq]; omega) ?_
          | refine br_f (by simp (disch := omega) only [hn, nI_leI, nI_ltI, nI_eq]; omega) ?_
          | refine ⟨Nat.zero_lt_one, rfl, ?_⟩
          | refine ⟨rfl, ?_⟩
          | refine ⟨⟨Nat.zero_lt_one, rfl⟩, Nat.le_of_ble_eq_true rfl, ?_⟩
          | refine ⟨Nat.le_of_ble_eq_true rfl, Nat.le_of_ble_eq_true rfl, ?_⟩
          | refine ⟨(by first | exact Nat.zero_lt_one | assumption | omega), (by first | assumption | exact vp_in_nI (by omega) (by omega) | (unfold vp_in; decide)), ?_⟩
          | refine ⟨(by first | exact Nat.zero_lt_one | assumption | omega), rfl, ?_⟩
          | refine ⟨⟨(by first | exact Nat.zero_lt_one | assumption | omega), rfl⟩, Nat.le_of_ble_eq_true rfl, ?_⟩
          | refine ⟨(by first | exact Nat.zero_lt_one | assumption | omega), ?_⟩
          | refine ⟨Or.inl rfl, ?_⟩
          | refine ⟨Or.inr (Or.inl rfl), ?_⟩
          | refine ⟨Or.inr (Or.inr rfl), ?_⟩
          | refine ⟨Or.inr ⟨rfl, (by first | exact Or.inl rfl | exact Or.inr rfl | assumption)⟩, ?_⟩
          | refine ⟨fun h => absurd h (by decide), fun _ => ?_⟩
          | refine ⟨fun _ => ?_, fun h => absurd h (by decide)⟩
          | refine ⟨fun h => ?_, fun h => ?_⟩
          | fail)
      | succ k ih =>
        intro i v hi hv hz
        subst hv
        have hneg := cV_neg (pV_c (cF μ) (cRu μ i) o day p q) hb
        by_cases hx : cV μ o day p q i = -cV μ o day p q G
        · have hx' : ¬ 0 ≤ pV (cF μ) (cRu μ i) o day p q * pV (cF μ) (cRu μ G) o day p q := fun e => hneg.mp e hx
          rw [pFst_hit hz (by rw [hx]; simp) (by omega) (by omega)] at hk
          refine zs k_Mo_quarrel rfl ?_; conv => whnf
          repeat' (first
            | refine br_f w' ?_
            | refine c_Mo_decided g1 g (by omega) (g4.2.2.2 i (by omega)) hp hq rfl rfl rfl ?_
            | refine c_Mo_decided g1 g (by omega) (g4.2.2.2 G hG) hp hq w rfl rfl ?_
            | refine br_f hx' ?_
            | exact hk
            | (refine zs k_Mo_quarrel rfl ?_; conv => whnf)
            | refine br_t (by simp (disch := omega) only [hn, nI_leI, nI_ltI, nI_eq]; omega) ?_
            | refine br_f (by simp (disch := omega) only [hn, nI_leI, nI_ltI, nI_eq]; omega) ?_
            | refine ⟨Nat.zero_lt_one, rfl, ?_⟩
            | refine ⟨rfl, ?_⟩
            | refine ⟨⟨Nat.zero_lt_one, rfl⟩, Nat.le_of_ble_eq_true rfl, ?_⟩
            | refine ⟨Nat.le_of_ble_eq_true rfl, Nat.le_of_ble_eq_true rfl, ?_⟩
            | refine ⟨(by first | exact Nat.zero_lt_one | assumption | omega), (by first | assumption | exact vp_in_nI (by omega) (by omega) | (unfold vp_in; decide)), ?_⟩
            | refine ⟨(by first | exact Nat.zero_lt_one | assumption | omega), rfl, ?_⟩
            | refine ⟨⟨(by first | exact Nat.zero_lt_one | assumption | omega), rfl⟩, Nat.le_of_ble_eq_true rfl, ?_⟩
            | refine ⟨(by first | exact Nat.zero_lt_one | assumption | omega), ?_⟩
            | refine ⟨Or.inl rfl, ?_⟩
            | refine ⟨Or.inr (Or.inl rfl), ?_⟩
            | refine ⟨Or.inr (Or.inr rfl), ?_⟩
            | refine ⟨Or.inr ⟨rfl, (by first | exact Or.inl rfl | exact Or.inr rfl | assumption)⟩, ?_⟩
            | refine ⟨fun h => absurd h (by decide), fun _ => ?_⟩
            | refine ⟨fun _ => ?_, fun h => absurd h (by decide)⟩
            | refine ⟨fun h => ?_, fun h => ?_⟩
            | fail)
        · have hx' : 0 ≤ pV (cF μ) (cRu μ i) o day p q * pV (cF μ) (cRu μ G) o day p q := hneg.mpr hx
          refine zs k_Mo_quarrel rfl ?_; conv => whnf
          repeat' (first
            | refine br_f w' ?_
            | refine c_Mo_decided g1 g (by omega) (g4.2.2.2 i (by omega)) hp hq rfl rfl rfl ?_
            | refine c_Mo_decided g1 g (by omega) (g4.2.2.2 G hG) hp hq w rfl rfl ?_
            | refine br_t hx' ?_
            | refine ih (i + 1) _ (by omega) (by exact nI_1 i) (lt_s hz (decide_eq_false hx))
            | (refine zs k_Mo_quarrel rfl ?_; conv => whnf)
            | refine br_t (by simp (disch := omega) only [hn, nI_leI, nI_ltI, nI_eq]; omega) ?_
            | refine br_f (by simp (disch := omega) only [hn, nI_leI, nI_ltI, nI_eq]; omega) ?_
            | refine ⟨Nat.zero_lt_one, rfl, ?_⟩
            | refine ⟨rfl, ?_⟩
            | refine ⟨⟨Nat.zero_lt_one, rfl⟩, Nat.le_of_ble_eq_true rfl, ?_⟩
            | refine ⟨Nat.le_of_ble_eq_true rfl, Nat.le_of_ble_eq_true rfl, ?_⟩
            | refine ⟨(by first | exact Nat.zero_lt_one | assumption | omega), (by first | assumption | exact vp_in_nI (by omega) (by omega) | (unfold vp_in; decide)), ?_⟩
            | refine ⟨(by first | exact Nat.zero_lt_one | assumption | omega), rfl, ?_⟩
            | refine ⟨⟨(by first | exact Nat.zero_lt_one | assumption | omega), rfl⟩, Nat.le_of_ble_eq_true rfl, ?_⟩
            | refine ⟨(by first | exact Nat.zero_lt_one | assumption | omega), ?_⟩
            | refine ⟨Or.inl rfl, ?_⟩
            | refine ⟨Or.inr (Or.inl rfl), ?_⟩
            | refine ⟨Or.inr (Or.inr rfl), ?_⟩
            | refine ⟨Or.inr ⟨rfl, (by first | exact Or.inl rfl | exact Or.inr rfl | assumption)⟩, ?_⟩
            | refine ⟨fun h => absurd h (by decide), fun _ => ?_⟩
            | refine ⟨fun _ => ?_, fun h => absurd h (by decide)⟩
            | refine ⟨fun h => ?_, fun h => ?_⟩
            | fail)
    repeat' (first
      | refine c_Mo_isAsked g.2.1 (fun _ => ?_) (fun q => absurd ho q)
      | refine c_Mo_handOf g5.2.1 g5.2.2.1 ?_
      | refine br_t hm' ?_
      | refine c_Mo_goes g1 g g4 hp hq rfl rfl ?_
      | exact L nr 0 _ (by omega) rfl (fun r hr => absurd hr (by omega))
      | (refine zs k_Mo_quarrel rfl ?_; conv => whnf)
      | refine ⟨Nat.zero_lt_one, rfl, ?_⟩
      | refine ⟨rfl, ?_⟩
      | refine ⟨⟨Nat.zero_lt_one, rfl⟩, Nat.le_of_ble_eq_true rfl, ?_⟩
      | refine ⟨Nat.le_of_ble_eq_true rfl, Nat.le_of_ble_eq_true rfl, ?_⟩
      | refine ⟨(by first | exact Nat.zero_lt_one | assumption | omega), (by first | assumption | exact vp_in_nI (by omega) (by omega) | (unfold vp_in; decide)), ?_⟩
      | refine ⟨(by first | exact Nat.zero_lt_one | assumption | omega), rfl, ?_⟩
      | refine ⟨⟨(by first | exact Nat.zero_lt_one | assumption | omega), rfl⟩, Nat.le_of_ble_eq_true rfl, ?_⟩
      | refine ⟨(by first | exact Nat.zero_lt_one | assumption | omega), ?_⟩
      | refine ⟨Or.inl rfl, ?_⟩
      | refine ⟨Or.inr (Or.inl rfl), ?_⟩
      | refine ⟨Or.inr (Or.inr rfl), ?_⟩
      | refine ⟨Or.inr ⟨rfl, (by first | exact Or.inl rfl | exact Or.inr rfl | assumption)⟩, ?_⟩
      | refine ⟨fun h => absurd h (by decide), fun _ => ?_⟩
      | refine ⟨fun _ => ?_, fun h => absurd h (by decide)⟩
      | refine ⟨fun h => ?_, fun h => ?_⟩
      | fail)
theorem b_quarrel {μ : zMu} {o day x y : Int32} (h : Rel μ) : Both m_De_quarrel m_Mo_quarrel [zI o, zI day, zI x, zI y] μ := by
  intro d K hK
  obtain ⟨ns, n, nr, nh, nt, nb, L, g1, g2, g3, g4, g5, g6, g7, g8, g9, g10, g11⟩ := id h
  have h20 := g2.2.2.1
  refine c_De_quarrel g2 g4 g5 (fun a => hK _ _ (fun d K2 hK2 => ?_)) (fun p q a hp hq hpq ex ey => hK _ _ (fun d K2 hK2 => ?_))
  · exact c_Mo_quarrel g1 g2 g4 g5 (fun _ => hK2 _ h) (fun p q b => absurd b a)
  · subst ex ey
    refine c_Mo_quarrel g1 g2 g4 g5 (fun b => absurd a b) (fun p' q' _ hp' hq' _ ex ey => ?_)
    obtain rfl := (nI_eq (by omega) (by omega)).mp ex
    obtain rfl := (nI_eq (by omega) (by omega)).mp ey
    exact hK2 _ h
