/-! DESK: person: what holds again -/
theorem bn_t {c A B : Prop} (h : ¬ c) (a : A) : (¬ c → A) ∧ (c → B) := ⟨fun _ => a, fun z => absurd z h⟩
theorem bn_f {c A B : Prop} (h : c) (b : B) : (¬ c → A) ∧ (c → B) := ⟨fun z => absurd h z, fun _ => b⟩
theorem gTb_n {μ μ' : zMu} {nt n n' : Nat} (h : ∀ f, f ∈ [5, 9, 40, 93, 94, 95] → μ' f = μ f) (h10 : ∀ p, p < n → μ' 10 0 p = μ 10 0 p) (hn : n ≤ n') (h48 : μ' 48 0 42 = μ 48 0 42) (g : gTb μ nt n) : gTb μ' nt n' := by
  obtain ⟨g1, g2, g3, g4⟩ := g
  refine ⟨by rw [h 5 (by simp)]; exact g1, by rw [h48]; exact g2, g3, fun t ht => ?_⟩
  obtain ⟨a1, a2, a3, a4, a5, a6⟩ := g4 t ht
  unfold gT1
  rw [h 9 (by simp), h 40 (by simp), h 93 (by simp), h 94 (by simp), h 95 (by simp)]
  refine ⟨a1, a2, a3, a4, fun k hk => ?_, a6⟩
  rcases a5 k hk with q | ⟨p, hp, q1, q2⟩
  · exact Or.inl q
  · exact Or.inr ⟨p, by omega, q1, by rw [h10 p hp]; exact q2⟩
theorem gPe_new {μ : zMu} {ns n s' : Nat} {k r y o : Int32} (g1 : gSt μ ns) (g : gPe μ ns n) (hn : n < 20) (hs : s' < ns) (h3 : (k = 3 ∨ k = 4) → ∃ q, q < n ∧ o = nI q) : gPe (mPer (cPer μ n (nI s') k r y o) n (nI s') k r y o) ns (n + 1) := by
  have h10 := g1.2.2.1
  have hsc : (nI s').toNatClampNeg = s' := nI_clamp (by omega)
  obtain ⟨q1, q2, h20, g4⟩ := g
  have e17 : ∀ p k', p ≠ n → mPer (cPer μ n (nI s') k r y o) n (nI s') k r y o 17 p k' = μ 17 p k' := fun p k' hp => by
    unfold mPer cPer cNew
    repeat rw [zu_ne (fun z => by omega)]
  have e0 : ∀ f p, p ≠ n → f ≠ 1 → f ≠ 17 → f ≠ 48 → mPer (cPer μ n (nI s') k r y o) n (nI s') k r y o f 0 p = μ f 0 p := fun f p hp h1 h17 h48 => by
    unfold mPer cPer cNew
    repeat rw [zu_ne (fun z => by omega)]
  have em : ∀ f a b, f < 50 → f ≠ 48 → ¬ (f = 17 ∧ a = n ∧ (b = 0 ∨ b = 1)) → mPer (cPer μ n (nI s') k r y o) n (nI s') k r y o f a b = cNew μ n (nI s') k r y o f a b := fun f a b h1 h2 h3 => by
    unfold mPer cPer
    repeat rw [zu_ne (fun z => by omega)]
  have er : cRank (mPer (cPer μ n (nI s') k r y o) n (nI s') k r y o) n = cRank (cNew μ n (nI s') k r y o) n := cRank_cg (em 17 n 4 (by omega) (by omega) (by omega)) (em 11 0 n (by omega) (by omega) (by omega)) (cOwn_cg (em 17 _ 4 (by omega) (by omega) (by omega)) (em 15 0 _ (by omega) (by omega) (by omega)) (em 16 0 _ (by omega) (by omega) (by omega))) (fun _ => cOwn_cg (em 17 _ 4 (by omega) (by omega) (by omega)) (em 15 0 _ (by omega) (by omega) (by omega)) (em 16 0 _ (by omega) (by omega) (by omega)))
  have ep : cPap (mPer (cPer μ n (nI s') k r y o) n (nI s') k r y o) n = cPap (cNew μ n (nI s') k r y o) n := cPap_cg (em 17 n 4 (by omega) (by omega) (by omega)) (em 11 0 n (by omega) (by omega) (by omega)) (em 16 0 _ (by omega) (by omega) (by omega)) (fun _ => em 16 0 _ (by omega) (by omega) (by omega))
  have v17 : ∀ b, b ≠ 0 → b ≠ 1 → mPer (cPer μ n (nI s') k r y o) n (nI s') k r y o 17 n b = cNew μ n (nI s') k r y o 17 n b := fun b h0 h1 => em 17 n b (by omega) (by omega) (by omega)
  have w4 : cNew μ n (nI s') k r y o 17 n 4 = k := by
    unfold cNew
    (repeat rw [zu_ne (fun z => by omega)]); exact zu_eq
  have w3 : cNew μ n (nI s') k r y o 17 n 3 = y := by
    unfold cNew
    (repeat rw [zu_ne (fun z => by omega)]); exact zu_eq
  have w5 : cNew μ n (nI s') k r y o 17 n 5 = nI s' := by
    unfold cNew
    (repeat rw [zu_ne (fun z => by omega)]); exact zu_eq
  have w2 : cNew μ n (nI s') k r y o 17 n 2 = μ 13 0 s' := by
    unfold cNew
    (repeat rw [zu_ne (fun z => by omega)]); rw [zu_eq, hsc]
  have w6 : cNew μ n (nI s') k r y o 17 n 6 = μ 14 0 s' := by
    unfold cNew
    rw [zu_eq, hsc]
  have w11 : cNew μ n (nI s') k r y o 11 0 n = o := by
    unfold cNew
    (repeat rw [zu_ne (fun z => by omega)]); exact zu_eq
  refine ⟨?_, ?_, by omega, fun p hp => ?_⟩
  · show μ 1 0 1 + 1 = _
    rw [q1, nI_1]
  · rfl
  by_cases hpn : p = n
  · subst hpn
    refine ⟨?_, Or.inr ?_, ?_, ?_, ?_, ?_, ?_, ?_, ?_, ⟨s', hs, ?_, ?_, ?_⟩, ?_, ?_, ?_⟩
    · have a : mPer (cPer μ p (nI s') k r y o) p (nI s') k r y o 62 0 p = 1 := by
        unfold mPer
        (repeat rw [zu_ne (fun z => by omega)]); exact zu_eq
      rw [a, em 10 0 p (by omega) (by omega) (by omega)]
      unfold cNew
      (repeat rw [zu_ne (fun z => by omega)]); exact zu_eq.symm
    · rw [em 10 0 p (by omega) (by omega) (by omega)]
      unfold cNew
      (repeat rw [zu_ne (fun z => by omega)]); exact zu_eq
    · rw [em 11 0 p (by omega) (by omega) (by omega), w11]
      unfold mPer
      (repeat rw [zu_ne (fun z => by omega)]); exact zu_eq
    · rw [em 15 0 p (by omega) (by omega) (by omega)]
      have a : mPer (cPer μ p (nI s') k r y o) p (nI s') k r y o 58 0 p = r := by
        unfold mPer
        (repeat rw [zu_ne (fun z => by omega)]); exact zu_eq
      rw [a]
      unfold cNew
      (repeat rw [zu_ne (fun z => by omega)]); exact zu_eq.symm
    · rw [em 16 0 p (by omega) (by omega) (by omega)]
      have a : mPer (cPer μ p (nI s') k r y o) p (nI s') k r y o 60 0 p = 0 := by
        unfold mPer
        (repeat rw [zu_ne (fun z => by omega)]); exact zu_eq
      rw [a]
      unfold cNew
      (repeat rw [zu_ne (fun z => by omega)]); exact zu_eq.symm
    · rw [em 16 0 p (by omega) (by omega) (by omega)]
      have a : cNew μ p (nI s') k r y o 16 0 p = 0 := by
        unfold cNew
        (repeat rw [zu_ne (fun z => by omega)]); exact zu_eq
      rw [a]
      decide
    · rw [v17 3 (by omega) (by omega), w3]
      unfold mPer
      (repeat rw [zu_ne (fun z => by omega)]); exact zu_eq
    · rw [v17 4 (by omega) (by omega), w4]
      unfold mPer
      (repeat rw [zu_ne (fun z => by omega)]); exact zu_eq
    · rw [v17 5 (by omega) (by omega), w5]
      unfold mPer
      (repeat rw [zu_ne (fun z => by omega)]); exact zu_eq
    · rw [v17 5 (by omega) (by omega), w5]
    · rw [v17 2 (by omega) (by omega), w2]
      rfl
    · rw [v17 6 (by omega) (by omega), w6]
      rfl
    · rw [er]
      unfold mPer cPer
      (repeat rw [zu_ne (fun z => by omega)]); exact zu_eq
    · rw [ep]
      unfold mPer cPer
      (repeat rw [zu_ne (fun z => by omega)]); exact zu_eq
    · rw [v17 4 (by omega) (by omega), w4, em 11 0 p (by omega) (by omega) (by omega), w11]
      exact h3
  · obtain ⟨a1, a2, a3, a4, a5, a6, a7, a8, a9, ⟨s, hs1, b1, b2, b3⟩, a11, a12, a13⟩ := g4 p (by omega)
    have hq : (μ 17 p 4 = 3 ∨ μ 17 p 4 = 4) → (μ 11 0 p).toNatClampNeg ≠ n := fun hk => by
      obtain ⟨q, hq, hq2⟩ := a13 hk
      rw [hq2, nI_clamp (by omega)]
      omega
    have eo : ∀ q, q ≠ n → cOwn (mPer (cPer μ n (nI s') k r y o) n (nI s') k r y o) q = cOwn μ q := fun q hq => cOwn_cg (e17 q 4 hq) (e0 15 q hq (by omega) (by omega) (by omega)) (e0 16 q hq (by omega) (by omega) (by omega))
    refine ⟨?_, ?_, ?_, ?_, ?_, ?_, ?_, ?_, ?_, ⟨s, hs1, ?_, ?_, ?_⟩, ?_, ?_, ?_⟩
    · rw [e0 62 p hpn (by omega) (by omega) (by omega), e0 10 p hpn (by omega) (by omega) (by omega)]
      exact a1
    · rw [e0 10 p hpn (by omega) (by omega) (by omega)]
      exact a2
    · rw [e0 61 p hpn (by omega) (by omega) (by omega), e0 11 p hpn (by omega) (by omega) (by omega)]
      exact a3
    · rw [e0 58 p hpn (by omega) (by omega) (by omega), e0 15 p hpn (by omega) (by omega) (by omega)]
      exact a4
    · rw [e0 60 p hpn (by omega) (by omega) (by omega), e0 16 p hpn (by omega) (by omega) (by omega)]
      exact a5
    · rw [e0 16 p hpn (by omega) (by omega) (by omega)]
      exact a6
    · rw [e0 59 p hpn (by omega) (by omega) (by omega), e17 p 3 hpn]
      exact a7
    · rw [e0 57 p hpn (by omega) (by omega) (by omega), e17 p 4 hpn]
      exact a8
    · rw [e0 56 p hpn (by omega) (by omega) (by omega), e17 p 5 hpn]
      exact a9
    · rw [e17 p 5 hpn]
      exact b1
    · rw [e17 p 2 hpn]
      exact b2
    · rw [e17 p 6 hpn]
      exact b3
    · rw [e17 p 0 hpn, a11]
      exact (cRank_cg (e17 p 4 hpn) (e0 11 p hpn (by omega) (by omega) (by omega)) (eo p hpn) (fun hk => eo _ (hq hk))).symm
    · rw [e17 p 1 hpn, a12]
      exact (cPap_cg (e17 p 4 hpn) (e0 11 p hpn (by omega) (by omega) (by omega)) (e0 16 p hpn (by omega) (by omega) (by omega)) (fun hk => e0 16 _ (hq (Or.inl hk)) (by omega) (by omega) (by omega))).symm
    · rw [e17 p 4 hpn, e0 11 p hpn (by omega) (by omega) (by omega)]
      exact a13
theorem b_person {μ : zMu} {s k r y o : Int32} (h : Rel μ) : Both m_De_person m_Mo_person [zI s, zI k, zI r, zI y, zI o] μ := by
  intro d K hK
  obtain ⟨ns, n, nr, nh, nt, nb, L, g1, g2, g3, g4, g5, g6, g7, g8, g9, g10, g11⟩ := id h
  have h20 := g2.2.2.1
  have h10 := g1.2.2.1
  have hf : ¬ pNo ns n s k o → (pFit (μ 17 o.toNatClampNeg 4) k o ↔ pFit (μ 57 0 o.toNatClampNeg) k o) := fun hno => by
    by_cases hk : k = 3 ∨ k = 4
    · rcases zIx o (n := n) (by omega) with ⟨q, hq, rfl⟩ | ho
      · rw [nI_clamp (show q < 2 ^ 31 by omega), (g2.2.2.2 q hq).2.2.2.2.2.2.2.1]
      · exact absurd (Or.inr ⟨hk, ho⟩) hno
    · exact ⟨fun z => Or.inr (z.resolve_left (fun w => hk w.1)), fun z => Or.inr (z.resolve_left (fun w => hk w.1))⟩
  refine c_De_person g1.1 h10 g2.1 h20 (fun a => hK _ _ (fun d K2 hK2 => ?_)) (fun a b => hK _ _ (fun d K2 hK2 => ?_)) (fun a b c e => hK _ _ (fun d K2 hK2 => ?_)) (fun a b c e => hK _ _ (fun d K2 hK2 => ?_))
  · exact c_Mo_person g1.2.1 h10 g2.2.1 h20 (fun _ => hK2 _ h) (fun q => absurd a q) (fun q => absurd a q) (fun q => absurd a q)
  · exact c_Mo_person g1.2.1 h10 g2.2.1 h20 (fun q => absurd q a) (fun _ _ => hK2 _ h) (fun _ b1 c1 => absurd ⟨b1, (hf a).mpr c1⟩ b) (fun _ b1 c1 => absurd ⟨b1, (hf a).mpr c1⟩ b)
  · exact c_Mo_person g1.2.1 h10 g2.2.1 h20 (fun q => absurd q a) (fun _ q => absurd ⟨b, (hf a).mp c⟩ q) (fun _ _ _ _ => hK2 _ h) (fun _ _ _ q => absurd q (by omega))
  · rcases zIx s (n := ns) (by omega) with ⟨s', hs', rfl⟩ | hs'
    case inr => exact absurd (Or.inl hs') a
    have h3 : (k = 3 ∨ k = 4) → ∃ q, q < n ∧ (if k = 3 ∨ k = 4 then o else -1) = nI q := fun hk => by
      rcases zIx o (n := n) (by omega) with ⟨q, hq, rfl⟩ | ho
      · exact ⟨q, hq, if_pos hk⟩
      · exact absurd (Or.inr ⟨hk, ho⟩) a
    have gp := gPe_new (k := k) (r := r) (y := y) (o := if k = 3 ∨ k = 4 then o else -1) g1 g2 e hs' h3
    refine c_Mo_person (ns := ns) (n := n) g1.2.1 h10 g2.2.1 h20 (fun q => absurd q a) (fun _ q => absurd ⟨b, (hf a).mp c⟩ q) (fun _ _ _ q => absurd q (by omega)) (fun _ _ _ _ => hK2 _ ?_)
    generalize (if k = 3 ∨ k = 4 then o else -1) = o2 at gp ⊢
    refine ⟨ns, n + 1, nr, nh, nt, nb, L, g1, gp, g3, g4, g5, gTb_n (μ := μ) (n := n) (fun f hf => ?_) (fun p hp => ?_) (by omega) rfl g6, g7, g8, g9, g10, g11⟩
    · simp only [List.mem_cons, List.not_mem_nil, or_false] at hf
      funext a b
      unfold mPer cPer cNew
      repeat rw [zu_ne (fun z => by omega)]
    · unfold mPer cPer cNew
      repeat rw [zu_ne (fun z => by omega)]
