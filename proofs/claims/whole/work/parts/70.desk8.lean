/-! DESK: there -/
theorem g6_z {μ : zMu} {nt n : Nat} (g : gTb μ nt n) : ∀ t, t < nt → ∃ z, z ≤ 12 ∧ μ 9 t 0 = nI z := fun t ht => by
  obtain ⟨-, -, ⟨z, -, hz, h9, -⟩, -⟩ := g.2.2.2 t ht
  exact ⟨z, hz, h9⟩
theorem c_De_there {d ns n nt : Nat} {μ : zMu} {x y : Int32} {K : Option zV → zMu → Prop} (g : gPe μ ns n) (g6 : gTb μ nt n) (h0 : ¬ (0 ≤ x ∧ x < nI n) → K (some (zI (-1))) μ) (h1 : ∀ p, p < n → x = nI p → ¬ (y = 0 ∨ y = 1) → K (some (zI (-2))) μ) (h2 : ∀ p, p < n → x = nI p → y = 0 → K (some (zI (μ 10 0 p))) (cOutA (zu μ 10 0 p 0) (nI p) nt)) (h3 : ∀ p, p < n → x = nI p → y = 1 → K (some (zI (μ 10 0 p))) (zu μ 10 0 p 1)) : Ct (d + 2) m_De_there [zR 0 0, zI x, zI y] μ K := by
  refine zmeet rfl (Nat.le_of_ble_eq_true rfl) (fun S => ?_)
  have hn := g.1
  have h20 := g.2.2.1
  rcases zIx x (n := n) (by omega) with ⟨p, hp, rfl⟩ | hx
  case inr =>
    have hk := h0 hx
    repeat' (first
      | refine c_Ro_hasPerson (fun h h' => absurd (by rw [← hn]; exact ⟨h, h'⟩) hx) (fun _ => ?_)
      | exact hk
      | (refine zs k_De_there rfl ?_; conv => whnf)
      | refine ⟨Nat.zero_lt_one, rfl, ?_⟩
      | refine ⟨rfl, ?_⟩
      | refine ⟨⟨Nat.zero_lt_one, rfl⟩, Nat.le_of_ble_eq_true rfl, ?_⟩
      | refine ⟨Nat.le_of_ble_eq_true rfl, Nat.le_of_ble_eq_true rfl, ?_⟩
      | refine ⟨(by first | exact Nat.zero_lt_one | assumption | omega), (by first | assumption | exact vp_in_nI (by omega) (by omega) | (unfold vp_in; decide)), ?_⟩
      | refine ⟨(by first | exact Nat.zero_lt_one | assumption | omega), rfl, ?_⟩
      | refine ⟨⟨(by first | exact Nat.zero_lt_one | assumption | omega), rfl⟩, Nat.le_of_ble_eq_true rfl, ?_⟩
      | refine ⟨(by first | exact Nat.zero_lt_one | assumption | omega), ?_⟩
      | refine ⟨Or.inl rfl, ?_⟩
      | refine ⟨Or.inr (Or.inl rfl), ?_⟩
      | refine ⟨Or.inr (Or.inr rfl), ?_⟩
      | refine ⟨Or.inr ⟨rfl, (by first | exact Or.inl rfl | exact Or.inr rfl | assumption)⟩, ?_⟩
      | refine ⟨fun h => absurd h (by decide), fun _ => ?_⟩
      | refine ⟨fun _ => ?_, fun h => absurd h (by decide)⟩
      | refine ⟨fun h => ?_, fun h => ?_⟩
      | fail)
  have hy := zIx_y hp (by omega)
  have hc : (nI p).toNatClampNeg = p := nI_clamp (by omega)
  by_cases y0 : y = 0
  · subst y0
    have hk := h2 p hp rfl rfl
    have e5 : zu μ 10 0 (nI p).toNatClampNeg 0 5 0 0 = nI nt := g6.1
    have ez0 := g6_z g6
    have ez : ∀ t, t < nt → ∃ z, z ≤ 12 ∧ zu μ 10 0 (nI p).toNatClampNeg 0 9 t 0 = nI z := ez0
    repeat' (first
      | refine c_Ro_hasPerson (fun _ _ => ?_) (fun h => absurd (by rw [hn]; exact hy) h)
      | refine c_Ha_emptySeatsOf e5 g6.2.2.1 ez ?_
      | exact zKe hk (by rw [hc]) (by rw [hc])
      | (refine zs k_De_there rfl ?_; conv => whnf)
      | refine ⟨Nat.zero_lt_one, rfl, ?_⟩
      | refine ⟨rfl, ?_⟩
      | refine ⟨⟨Nat.zero_lt_one, rfl⟩, Nat.le_of_ble_eq_true rfl, ?_⟩
      | refine ⟨Nat.le_of_ble_eq_true rfl, Nat.le_of_ble_eq_true rfl, ?_⟩
      | refine ⟨(by first | exact Nat.zero_lt_one | assumption | omega), (by first | assumption | exact vp_in_nI (by omega) (by omega) | (unfold vp_in; decide)), ?_⟩
      | refine ⟨(by first | exact Nat.zero_lt_one | assumption | omega), rfl, ?_⟩
      | refine ⟨⟨(by first | exact Nat.zero_lt_one | assumption | omega), rfl⟩, Nat.le_of_ble_eq_true rfl, ?_⟩
      | refine ⟨(by first | exact Nat.zero_lt_one | assumption | omega), ?_⟩
      | refine ⟨Or.inl rfl, ?_⟩
      | refine ⟨Or.inr (Or.inl rfl), ?_⟩
      | refine ⟨Or.inr (Or.inr rfl), ?_⟩
      | refine ⟨Or.inr ⟨rfl, (by first | exact Or.inl rfl | exact Or.inr rfl | assumption)⟩, ?_⟩
      | refine ⟨fun h => absurd h (by decide), fun _ => ?_⟩
      | refine ⟨fun _ => ?_, fun h => absurd h (by decide)⟩
      | refine ⟨fun h => ?_, fun h => ?_⟩
      | fail)
  · by_cases y1 : y = 1
    · subst y1
      have hk := h3 p hp rfl rfl
      repeat' (first
        | refine c_Ro_hasPerson (fun _ _ => ?_) (fun h => absurd (by rw [hn]; exact hy) h)
        | exact zKe hk (by rw [hc]) (by rw [hc])
        | (refine zs k_De_there rfl ?_; conv => whnf)
        | refine ⟨Nat.zero_lt_one, rfl, ?_⟩
        | refine ⟨rfl, ?_⟩
        | refine ⟨⟨Nat.zero_lt_one, rfl⟩, Nat.le_of_ble_eq_true rfl, ?_⟩
        | refine ⟨Nat.le_of_ble_eq_true rfl, Nat.le_of_ble_eq_true rfl, ?_⟩
        | refine ⟨(by first | exact Nat.zero_lt_one | assumption | omega), (by first | assumption | exact vp_in_nI (by omega) (by omega) | (unfold vp_in; decide)), ?_⟩
        | refine ⟨(by first | exact Nat.zero_lt_one | assumption | omega), rfl, ?_⟩
        | refine ⟨⟨(by first | exact Nat.zero_lt_one | assumption | omega), rfl⟩, Nat.le_of_ble_eq_true rfl, ?_⟩
        | refine ⟨(by first | exact Nat.zero_lt_one | assumption | omega), ?_⟩
        | refine ⟨Or.inl rfl, ?_⟩
        | refine ⟨Or.inr (Or.inl rfl), ?_⟩
        | refine ⟨Or.inr (Or.inr rfl), ?_⟩
        | refine ⟨Or.inr ⟨rfl, (by first | exact Or.inl rfl | exact Or.inr rfl | assumption)⟩, ?_⟩
        | refine ⟨fun h => absurd h (by decide), fun _ => ?_⟩
        | refine ⟨fun _ => ?_, fun h => absurd h (by decide)⟩
        | refine ⟨fun h => ?_, fun h => ?_⟩
        | fail)
    · have hk := h1 p hp rfl (fun z => z.elim y0 y1)
      repeat' (first
        | refine c_Ro_hasPerson (fun _ _ => ?_) (fun h => absurd (by rw [hn]; exact hy) h)
        | refine br_f y0 ?_
        | refine br_f y1 ?_
        | exact hk
        | (refine zs k_De_there rfl ?_; conv => whnf)
        | refine ⟨Nat.zero_lt_one, rfl, ?_⟩
        | refine ⟨rfl, ?_⟩
        | refine ⟨⟨Nat.zero_lt_one, rfl⟩, Nat.le_of_ble_eq_true rfl, ?_⟩
        | refine ⟨Nat.le_of_ble_eq_true rfl, Nat.le_of_ble_eq_true rfl, ?_⟩
        | refine ⟨(by first | exact Nat.zero_lt_one | assumption | omega), (by first | assumption | exact vp_in_nI (by omega) (by omega) | (unfold vp_in; decide)), ?_⟩
        | refine ⟨(by first | exact Nat.zero_lt_one | assumption | omega), rfl, ?_⟩
        | refine ⟨⟨(by first | exact Nat.zero_lt_one | assumption | omega), rfl⟩, Nat.le_of_ble_eq_true rfl, ?_⟩
        | refine ⟨(by first | exact Nat.zero_lt_one | assumption | omega), ?_⟩
        | refine ⟨Or.inl rfl, ?_⟩
        | refine ⟨Or.inr (Or.inl rfl), ?_⟩
        | refine ⟨Or.inr (Or.inr rfl), ?_⟩
        | refine ⟨Or.inr ⟨rfl, (by first | exact Or.inl rfl | exact Or.inr rfl | assumption)⟩, ?_⟩
        | refine ⟨fun h => absurd h (by decide), fun _ => ?_⟩
        | refine ⟨fun _ => ?_, fun h => absurd h (by decide)⟩
        | refine ⟨fun h => ?_, fun h => ?_⟩
        | fail)
def mOutA (μ : zMu) (v : Int32) (lo i : Nat) : zMu := fun f a b => if f = 95 ∧ a = 0 ∧ lo ≤ b ∧ b < i ∧ μ 95 0 b = v then -1 else μ f a b
theorem mOutA_at {μ : zMu} {v : Int32} {lo i : Nat} : mOutA μ v lo i 95 0 i = μ 95 0 i := by
  unfold mOutA
  rw [if_neg (by omega)]
theorem mOutA_y {μ : zMu} {v : Int32} {lo i : Nat} (hl : lo ≤ i) (h : μ 95 0 i = v) : zu (mOutA μ v lo i) 95 0 i (-1) = mOutA μ v lo (i + 1) := by
  funext f a b
  simp only [zu, mOutA]
  by_cases e : f = 95 ∧ b = i ∧ a = 0
  · obtain ⟨rfl, rfl, rfl⟩ := e
    rw [if_pos ⟨rfl, rfl, rfl⟩, if_pos ⟨rfl, rfl, hl, by omega, h⟩]
  · rw [if_neg e]
    by_cases e2 : f = 95 ∧ a = 0 ∧ lo ≤ b ∧ b < i ∧ μ 95 0 b = v
    · rw [if_pos e2, if_pos ⟨e2.1, e2.2.1, e2.2.2.1, by omega, e2.2.2.2.2⟩]
    · rw [if_neg e2, if_neg (fun z => e2 ⟨z.1, z.2.1, z.2.2.1, by omega, z.2.2.2.2⟩)]
theorem mOutA_n {μ : zMu} {v : Int32} {lo i : Nat} (h : ¬ μ 95 0 i = v) : zu (mOutA μ v lo i) 95 0 i (μ 95 0 i) = mOutA μ v lo (i + 1) := by
  funext f a b
  simp only [zu, mOutA]
  by_cases e : f = 95 ∧ b = i ∧ a = 0
  · obtain ⟨rfl, rfl, rfl⟩ := e
    rw [if_pos ⟨rfl, rfl, rfl⟩, if_neg (fun z => h z.2.2.2.2)]
  · rw [if_neg e]
    by_cases e2 : f = 95 ∧ a = 0 ∧ lo ≤ b ∧ b < i ∧ μ 95 0 b = v
    · rw [if_pos e2, if_pos ⟨e2.1, e2.2.1, e2.2.2.1, by omega, e2.2.2.2.2⟩]
    · rw [if_neg e2, if_neg (fun z => e2 ⟨z.1, z.2.1, z.2.2.1, by omega, z.2.2.2.2⟩)]
theorem mOutA_0 {μ : zMu} {v : Int32} {lo : Nat} : μ = mOutA μ v lo lo := by
  funext f a b
  unfold mOutA
  rw [if_neg (by omega)]
theorem i01 {y : Int32} : (0 ≤ y ∧ y ≤ 1) ↔ (y = 0 ∨ y = 1) := by
  constructor
  · intro h
    obtain ⟨j, hj, rfl⟩ := nI_of2 (x := y) (M := 1) (n := 1) rfl (by grind) h.2
    match j, hj with
    | 0, _ => exact Or.inl rfl
    | 1, _ => exact Or.inr rfl
  · rintro (rfl | rfl) <;> decide
set_option maxHeartbeats 1000000 in
theorem c_Mo_there {d ns n : Nat} {μ μ0 : zMu} {x y : Int32} {K : Option zV → zMu → Prop} (hn : μ 48 0 5 = nI n) (h20 : n ≤ 20) (h62 : ∀ p, p < n → μ 62 0 p = μ0 10 0 p ∧ (μ0 10 0 p = 0 ∨ μ0 10 0 p = 1)) (h0 : ¬ (0 ≤ x ∧ x < nI n) → K (some (zI (-1))) μ) (h1 : ∀ p, p < n → x = nI p → ¬ (y = 0 ∨ y = 1) → K (some (zI (-2))) μ) (h2 : ∀ p, p < n → x = nI p → y = 0 → K (some (zI (μ0 10 0 p))) (mOutA (zu μ 62 0 p 0) (nI p) 0 48)) (h3 : ∀ p, p < n → x = nI p → y = 1 → K (some (zI (μ0 10 0 p))) (zu μ 62 0 p 1)) : Ct (d + 1) m_Mo_there [zR 48 0, zI x, zI y] μ K := by
  refine zmeet rfl (Nat.le_of_ble_eq_true rfl) (fun S => ?_)
  rcases zIx x (n := n) (by omega) with ⟨p, hp, rfl⟩ | hx
  case inr =>
    have hk := h0 hx
    repeat' (first
      | refine c_Mo_isPerson (fun h => absurd (by rw [← hn]; exact h) hx) (fun _ => ?_)
      | exact hk
      | (refine zs k_Mo_there rfl ?_; conv => whnf)
      | refine ⟨Nat.zero_lt_one, rfl, ?_⟩
      | refine ⟨rfl, ?_⟩
      | refine ⟨⟨Nat.zero_lt_one, rfl⟩, Nat.le_of_ble_eq_true rfl, ?_⟩
      | refine ⟨Nat.le_of_ble_eq_true rfl, Nat.le_of_ble_eq_true rfl, ?_⟩
      | refine ⟨(by first | exact Nat.zero_lt_one | assumption | omega), (by first | assumption | exact vp_in_nI (by omega) (by omega) | (unfold vp_in; decide)), ?_⟩
      | refine ⟨(by first | exact Nat.zero_lt_one | assumption | omega), rfl, ?_⟩
      | refine ⟨⟨(by first | exact Nat.zero_lt_one | assumption | omega), rfl⟩, Nat.le_of_ble_eq_true rfl, ?_⟩
      | refine ⟨(by first | exact Nat.zero_lt_one | assumption | omega), ?_⟩
      | refine ⟨Or.inl rfl, ?_⟩
      | refine ⟨Or.inr (Or.inl rfl), ?_⟩
      | refine ⟨Or.inr (Or.inr rfl), ?_⟩
      | refine ⟨Or.inr ⟨rfl, (by first | exact Or.inl rfl | exact Or.inr rfl | assumption)⟩, ?_⟩
      | refine ⟨fun h => absurd h (by decide), fun _ => ?_⟩
      | refine ⟨fun _ => ?_, fun h => absurd h (by decide)⟩
      | refine ⟨fun h => ?_, fun h => ?_⟩
      | fail)
  have hy := zIx_y hp (by omega)
  have hc : (nI p).toNatClampNeg = p := nI_clamp (by omega)
  obtain ⟨q1, q2⟩ := h62 p hp
  have q1' : μ 62 0 (nI p).toNatClampNeg = μ0 10 0 p := by rw [hc]; exact q1
  have fin : ∀ μ1 : zMu, ∀ l4 : Option zV, K (some (zI (μ0 10 0 p))) μ1 → zG S (d + 1) m_Mo_there K 95 [some (zR 48 0), some (zI (nI p)), some (zI y), some (zI (μ 62 0 (nI p).toNatClampNeg)), l4] [] μ1 := fun μ1 l4 hk => by
    rcases q2 with q2 | q2
    · rw [q2] at hk
      repeat' (first
        | refine br_t (by rw [q1']; exact q2) ?_
        | exact hk
        | (refine zs k_Mo_there rfl ?_; conv => whnf)
        | refine ⟨Nat.zero_lt_one, rfl, ?_⟩
        | refine ⟨rfl, ?_⟩
        | refine ⟨⟨Nat.zero_lt_one, rfl⟩, Nat.le_of_ble_eq_true rfl, ?_⟩
        | refine ⟨Nat.le_of_ble_eq_true rfl, Nat.le_of_ble_eq_true rfl, ?_⟩
        | refine ⟨(by first | exact Nat.zero_lt_one | assumption | omega), (by first | assumption | exact vp_in_nI (by omega) (by omega) | (unfold vp_in; decide)), ?_⟩
        | refine ⟨(by first | exact Nat.zero_lt_one | assumption | omega), rfl, ?_⟩
        | refine ⟨⟨(by first | exact Nat.zero_lt_one | assumption | omega), rfl⟩, Nat.le_of_ble_eq_true rfl, ?_⟩
        | refine ⟨(by first | exact Nat.zero_lt_one | assumption | omega), ?_⟩
        | refine ⟨Or.inl rfl, ?_⟩
        | refine ⟨Or.inr (Or.inl rfl), ?_⟩
        | refine ⟨Or.inr (Or.inr rfl), ?_⟩
        | refine ⟨Or.inr ⟨rfl, (by first | exact Or.inl rfl | exact Or.inr rfl | assumption)⟩, ?_⟩
        | refine ⟨fun h => absurd h (by decide), fun _ => ?_⟩
        | refine ⟨fun _ => ?_, fun h => absurd h (by decide)⟩
        | refine ⟨fun h => ?_, fun h => ?_⟩
        | fail)
    · rw [q2] at hk
      repeat' (first
        | refine br_f (by rw [q1', q2]; decide) ?_
        | exact hk
        | (refine zs k_Mo_there rfl ?_; conv => whnf)
        | refine ⟨Nat.zero_lt_one, rfl, ?_⟩
        | refine ⟨rfl, ?_⟩
        | refine ⟨⟨Nat.zero_lt_one, rfl⟩, Nat.le_of_ble_eq_true rfl, ?_⟩
        | refine ⟨Nat.le_of_ble_eq_true rfl, Nat.le_of_ble_eq_true rfl, ?_⟩
        | refine ⟨(by first | exact Nat.zero_lt_one | assumption | omega), (by first | assumption | exact vp_in_nI (by omega) (by omega) | (unfold vp_in; decide)), ?_⟩
        | refine ⟨(by first | exact Nat.zero_lt_one | assumption | omega), rfl, ?_⟩
        | refine ⟨⟨(by first | exact Nat.zero_lt_one | assumption | omega), rfl⟩, Nat.le_of_ble_eq_true rfl, ?_⟩
        | refine ⟨(by first | exact Nat.zero_lt_one | assumption | omega), ?_⟩
        | refine ⟨Or.inl rfl, ?_⟩
        | refine ⟨Or.inr (Or.inl rfl), ?_⟩
        | refine ⟨Or.inr (Or.inr rfl), ?_⟩
        | refine ⟨Or.inr ⟨rfl, (by first | exact Or.inl rfl | exact Or.inr rfl | assumption)⟩, ?_⟩
        | refine ⟨fun h => absurd h (by decide), fun _ => ?_⟩
        | refine ⟨fun _ => ?_, fun h => absurd h (by decide)⟩
        | refine ⟨fun h => ?_, fun h => ?_⟩
        | fail)
  by_cases y0 : y = 0
  · subst y0
    have hk := h2 p hp rfl rfl
    rw [← hc] at hk
    generalize hm0 : zu μ 62 0 (nI p).toNatClampNeg 0 = ν at hk
    rw [hc] at hk
    have L : ∀ (k i : Nat) (v : Int32) (μ1 : zMu), i + k = 48 → v = nI i → μ1 = mOutA ν (nI p) 0 i → zG S (d + 1) m_Mo_there K 49 [some (zR 48 0), some (zI (nI p)), some (zI 0), some (zI (μ 62 0 (nI p).toNatClampNeg)), some (zI v)] [] μ1 := by
      intro k
      induction k with
      | zero =>
        intro i v μ1 hi hv h1
        obtain rfl : i = 48 := by omega
        subst hv h1
        refine zs k_Mo_there rfl ?_; conv => whnf
        repeat' (first
          | refine br_t (by decide) ?_
          | refine fin _ _ hk
          | (refine zs k_Mo_there rfl ?_; conv => whnf)
          | refine ⟨Nat.zero_lt_one, rfl, ?_⟩
          | refine ⟨rfl, ?_⟩
          | refine ⟨⟨Nat.zero_lt_one, rfl⟩, Nat.le_of_ble_eq_true rfl, ?_⟩
          | refine ⟨Nat.le_of_ble_eq_true rfl, Nat.le_of_ble_eq_true rfl, ?_⟩
          | refine ⟨(by first | exact Nat.zero_lt_one | assumption | omega), (by first | assumption | exact vp_in_nI (by omega) (by omega) | (unfold vp_in; decide)), ?_⟩
          | refine ⟨(by first | exact Nat.zero_lt_one | assumption | omega), rfl, ?_⟩
          | refine ⟨⟨(by first | exact Nat.zero_lt_one | assumption | omega), rfl⟩, Nat.le_of_ble_eq_true rfl, ?_⟩
          | refine ⟨(by first | exact Nat.zero_lt_one | assumption | omega), ?_⟩
          | refine ⟨Or.inl rfl, ?_⟩
          | refine ⟨Or.inr (Or.inl rfl), ?_⟩
          | refine ⟨Or.inr (Or.inr rfl), ?_⟩
          | refine ⟨Or.inr ⟨rfl, (by first | exact Or.inl rfl | exact Or.inr rfl | assumption)⟩, ?_⟩
          | refine ⟨fun h => absurd h (by decide), fun _ => ?_⟩
          | refine ⟨fun _ => ?_, fun h => absurd h (by decide)⟩
          | refine ⟨fun h => ?_, fun h => ?_⟩
          | fail)
      | succ k ih =>
        intro i v μ1 hi hv h1
        subst hv
        have hci : (nI i).toNatClampNeg = i := nI_clamp (by omega)
        have e1 : μ1 95 0 (nI i).toNatClampNeg = ν 95 0 i := by rw [h1, hci]; exact mOutA_at
        by_cases hv : ν 95 0 i = nI p
        · have hv' : μ1 95 0 (nI i).toNatClampNeg = nI p := e1.trans hv
          refine zs k_Mo_there rfl ?_; conv => whnf
          repeat' (first
            | refine br_f (nI_ge (b := 48) (by omega) (by omega)) ?_
            | refine bn_f hv' ?_
            | refine ih (i + 1) _ _ (by omega) (by exact nI_1 i) ?_
            | (refine zs k_Mo_there rfl ?_; conv => whnf)
            | refine ⟨Nat.zero_lt_one, rfl, ?_⟩
            | refine ⟨rfl, ?_⟩
            | refine ⟨⟨Nat.zero_lt_one, rfl⟩, Nat.le_of_ble_eq_true rfl, ?_⟩
            | refine ⟨Nat.le_of_ble_eq_true rfl, Nat.le_of_ble_eq_true rfl, ?_⟩
            | refine ⟨(by first | exact Nat.zero_lt_one | assumption | omega), (by first | assumption | exact vp_in_nI (by omega) (by omega) | (unfold vp_in; decide)), ?_⟩
            | refine ⟨(by first | exact Nat.zero_lt_one | assumption | omega), rfl, ?_⟩
            | refine ⟨⟨(by first | exact Nat.zero_lt_one | assumption | omega), rfl⟩, Nat.le_of_ble_eq_true rfl, ?_⟩
            | refine ⟨(by first | exact Nat.zero_lt_one | assumption | omega), ?_⟩
            | refine ⟨Or.inl rfl, ?_⟩
            | refine ⟨Or.inr (Or.inl rfl), ?_⟩
            | refine ⟨Or.inr (Or.inr rfl), ?_⟩
            | refine ⟨Or.inr ⟨rfl, (by first | exact Or.inl rfl | exact Or.inr rfl | assumption)⟩, ?_⟩
            | refine ⟨fun h => absurd h (by decide), fun _ => ?_⟩
            | refine ⟨fun _ => ?_, fun h => absurd h (by decide)⟩
            | refine ⟨fun h => ?_, fun h => ?_⟩
            | fail)
          rw [hci, h1]
          exact mOutA_y (by omega) hv
        · have hv' : ¬ μ1 95 0 (nI i).toNatClampNeg = nI p := by rw [e1]; exact hv
          refine zs k_Mo_there rfl ?_; conv => whnf
          repeat' (first
            | refine br_f (nI_ge (b := 48) (by omega) (by omega)) ?_
            | refine bn_t hv' ?_
            | refine ih (i + 1) _ _ (by omega) (by exact nI_1 i) ?_
            | (refine zs k_Mo_there rfl ?_; conv => whnf)
            | refine ⟨Nat.zero_lt_one, rfl, ?_⟩
            | refine ⟨rfl, ?_⟩
            | refine ⟨⟨Nat.zero_lt_one, rfl⟩, Nat.le_of_ble_eq_true rfl, ?_⟩
            | refine ⟨Nat.le_of_ble_eq_true rfl, Nat.le_of_ble_eq_true rfl, ?_⟩
            | refine ⟨(by first | exact Nat.zero_lt_one | assumption | omega), (by first | assumption | exact vp_in_nI (by omega) (by omega) | (unfold vp_in; decide)), ?_⟩
            | refine ⟨(by first | exact Nat.zero_lt_one | assumption | omega), rfl, ?_⟩
            | refine ⟨⟨(by first | exact Nat.zero_lt_one | assumption | omega), rfl⟩, Nat.le_of_ble_eq_true rfl, ?_⟩
            | refine ⟨(by first | exact Nat.zero_lt_one | assumption | omega), ?_⟩
            | refine ⟨Or.inl rfl, ?_⟩
            | refine ⟨Or.inr (Or.inl rfl), ?_⟩
            | refine ⟨Or.inr (Or.inr rfl), ?_⟩
            | refine ⟨Or.inr ⟨rfl, (by first | exact Or.inl rfl | exact Or.inr rfl | assumption)⟩, ?_⟩
            | refine ⟨fun h => absurd h (by decide), fun _ => ?_⟩
            | refine ⟨fun _ => ?_, fun h => absurd h (by decide)⟩
            | refine ⟨fun h => ?_, fun h => ?_⟩
            | fail)
          rw [e1, hci, h1]
          exact mOutA_n hv
    repeat' (first
      | refine c_Mo_isPerson (fun _ => ?_) (fun h => absurd (by rw [hn]; exact hy) h)
      | refine c_Mo_isIn (lo := 0) (hi := 1) rfl rfl (fun _ => ?_) (fun hb => absurd (by decide) hb)
      | exact L 48 0 _ _ (by omega) rfl (by exact hm0.trans mOutA_0)
      | (refine zs k_Mo_there rfl ?_; conv => whnf)
      | refine ⟨Nat.zero_lt_one, rfl, ?_⟩
      | refine ⟨rfl, ?_⟩
      | refine ⟨⟨Nat.zero_lt_one, rfl⟩, Nat.le_of_ble_eq_true rfl, ?_⟩
      | refine ⟨Nat.le_of_ble_eq_true rfl, Nat.le_of_ble_eq_true rfl, ?_⟩
      | refine ⟨(by first | exact Nat.zero_lt_one | assumption | omega), (by first | assumption | exact vp_in_nI (by omega) (by omega) | (unfold vp_in; decide)), ?_⟩
      | refine ⟨(by first | exact Nat.zero_lt_one | assumption | omega), rfl, ?_⟩
      | refine ⟨⟨(by first | exact Nat.zero_lt_one | assumption | omega), rfl⟩, Nat.le_of_ble_eq_true rfl, ?_⟩
      | refine ⟨(by first | exact Nat.zero_lt_one | assumption | omega), ?_⟩
      | refine ⟨Or.inl rfl, ?_⟩
      | refine ⟨Or.inr (Or.inl rfl), ?_⟩
      | refine ⟨Or.inr (Or.inr rfl), ?_⟩
      | refine ⟨Or.inr ⟨rfl, (by first | exact Or.inl rfl | exact Or.inr rfl | assumption)⟩, ?_⟩
      | refine ⟨fun h => absurd h (by decide), fun _ => ?_⟩
      | refine ⟨fun _ => ?_, fun h => absurd h (by decide)⟩
      | refine ⟨fun h => ?_, fun h => ?_⟩
      | fail)
  · by_cases y1 : y = 1
    · subst y1
      have hk := h3 p hp rfl rfl
      rw [← hc] at hk
      generalize hm0 : zu μ 62 0 (nI p).toNatClampNeg 1 = ν at hk
      rw [hc] at hk
      repeat' (first
        | refine c_Mo_isPerson (fun _ => ?_) (fun h => absurd (by rw [hn]; exact hy) h)
        | refine c_Mo_isIn (lo := 0) (hi := 1) rfl rfl (fun _ => ?_) (fun hb => absurd (by decide) hb)
        | refine br_f (show ¬ (48 : Int32) ≤ 0 by decide) ?_
        | refine fin _ _ (by rw [show zu μ 62 0 (nI p).toNatClampNeg (vp_nar .boolean 1) = ν from hm0]; exact hk)
        | (refine zs k_Mo_there rfl ?_; conv => whnf)
        | refine ⟨Nat.zero_lt_one, rfl, ?_⟩
        | refine ⟨rfl, ?_⟩
        | refine ⟨⟨Nat.zero_lt_one, rfl⟩, Nat.le_of_ble_eq_true rfl, ?_⟩
        | refine ⟨Nat.le_of_ble_eq_true rfl, Nat.le_of_ble_eq_true rfl, ?_⟩
        | refine ⟨(by first | exact Nat.zero_lt_one | assumption | omega), (by first | assumption | exact vp_in_nI (by omega) (by omega) | (unfold vp_in; decide)), ?_⟩
        | refine ⟨(by first | exact Nat.zero_lt_one | assumption | omega), rfl, ?_⟩
        | refine ⟨⟨(by first | exact Nat.zero_lt_one | assumption | omega), rfl⟩, Nat.le_of_ble_eq_true rfl, ?_⟩
        | refine ⟨(by first | exact Nat.zero_lt_one | assumption | omega), ?_⟩
        | refine ⟨Or.inl rfl, ?_⟩
        | refine ⟨Or.inr (Or.inl rfl), ?_⟩
        | refine ⟨Or.inr (Or.inr rfl), ?_⟩
        | refine ⟨Or.inr ⟨rfl, (by first | exact Or.inl rfl | exact Or.inr rfl | assumption)⟩, ?_⟩
        | refine ⟨fun h => absurd h (by decide), fun _ => ?_⟩
        | refine ⟨fun _ => ?_, fun h => absurd h (by decide)⟩
        | refine ⟨fun h => ?_, fun h => ?_⟩
        | fail)
    · have hk := h1 p hp rfl (fun z => z.elim y0 y1)
      repeat' (first
        | refine c_Mo_isPerson (fun _ => ?_) (fun h => absurd (by rw [hn]; exact hy) h)
        | refine c_Mo_isIn (lo := 0) (hi := 1) rfl rfl (fun hb => absurd (i01.mp hb) (fun z => z.elim y0 y1)) (fun hb => ?_)
        | exact hk
        | (refine zs k_Mo_there rfl ?_; conv => whnf)
        | refine ⟨Nat.zero_lt_one, rfl, ?_⟩
        | refine ⟨rfl, ?_⟩
        | refine ⟨⟨Nat.zero_lt_one, rfl⟩, Nat.le_of_ble_eq_true rfl, ?_⟩
        | refine ⟨Nat.le_of_ble_eq_true rfl, Nat.le_of_ble_eq_true rfl, ?_⟩
        | refine ⟨(by first | exact Nat.zero_lt_one | assumption | omega), (by first | assumption | exact vp_in_nI (by omega) (by omega) | (unfold vp_in; decide)), ?_⟩
        | refine ⟨(by first | exact Nat.zero_lt_one | assumption | omega), rfl, ?_⟩
        | refine ⟨⟨(by first | exact Nat.zero_lt_one | assumption | omega), rfl⟩, Nat.le_of_ble_eq_true rfl, ?_⟩
        | refine ⟨(by first | exact Nat.zero_lt_one | assumption | omega), ?_⟩
        | refine ⟨Or.inl rfl, ?_⟩
        | refine ⟨Or.inr (Or.inl rfl), ?_⟩
        | refine ⟨Or.inr (Or.inr rfl), ?_⟩
        | refine ⟨Or.inr ⟨rfl, (by first | exact Or.inl rfl | exact Or.inr rfl | assumption)⟩, ?_⟩
        | refine ⟨fun h => absurd h (by decide), fun _ => ?_⟩
        | refine ⟨fun _ => ?_, fun h => absurd h (by decide)⟩
        | refine ⟨fun h => ?_, fun h => ?_⟩
        | fail)
theorem gPe_th {μ μ' : zMu} {ns n p : Nat} {v : Int32} (hv : v = 0 ∨ v = 1) (h : ∀ f, f ∈ [1, 11, 13, 14, 15, 16, 17, 56, 57, 58, 59, 60, 61] → μ' f = μ f) (h48 : μ' 48 0 5 = μ 48 0 5) (h10 : ∀ q, μ' 10 0 q = if q = p then v else μ 10 0 q) (h62 : ∀ q, μ' 62 0 q = if q = p then v else μ 62 0 q) (g : gPe μ ns n) : gPe μ' ns n := by
  obtain ⟨g1, g2, g3, g4⟩ := g
  refine ⟨by rw [h 1 (by simp)]; exact g1, by rw [h48]; exact g2, g3, fun q hq => ?_⟩
  have g5 := g4 q hq
  unfold gP1 cRank cPap cPq cOwn at *
  rw [h 11 (by simp), h 13 (by simp), h 14 (by simp), h 15 (by simp), h 16 (by simp), h 17 (by simp), h 56 (by simp), h 57 (by simp), h 58 (by simp), h 59 (by simp), h 60 (by simp), h 61 (by simp), h10, h62]
  obtain ⟨a1, a2, a3⟩ := g5
  refine ⟨?_, ?_, a3⟩
  · by_cases e : q = p
    · rw [if_pos e, if_pos e]
    · rw [if_neg e, if_neg e]
      exact a1
  · by_cases e : q = p
    · rw [if_pos e]
      exact hv
    · rw [if_neg e]
      exact a2
theorem b_there {μ : zMu} {x y : Int32} (h : Rel μ) : Both m_De_there m_Mo_there [zI x, zI y] μ := by
  intro d K hK
  obtain ⟨ns, n, nr, nh, nt, nb, L, g1, g2, g3, g4, g5, g6, g7, g8, g9, g10, g11⟩ := id h
  have h20 := g2.2.2.1
  have h62 : ∀ p, p < n → μ 62 0 p = μ 10 0 p ∧ (μ 10 0 p = 0 ∨ μ 10 0 p = 1) := fun p hp => ⟨(g2.2.2.2 p hp).1, (g2.2.2.2 p hp).2.1⟩
  refine c_De_there g2 g6 (fun hb => hK _ _ (fun d K2 hK2 => ?_)) (fun p hp hx hb => hK _ _ (fun d K2 hK2 => ?_)) (fun p hp hx hb => hK _ _ (fun d K2 hK2 => ?_)) (fun p hp hx hb => hK _ _ (fun d K2 hK2 => ?_))
  · exact c_Mo_there (ns := ns) g2.2.1 h20 h62 (fun _ => hK2 _ h) (fun p hp hx => absurd (by rw [hx]; exact zIx_y hp (by omega)) hb) (fun p hp hx => absurd (by rw [hx]; exact zIx_y hp (by omega)) hb) (fun p hp hx => absurd (by rw [hx]; exact zIx_y hp (by omega)) hb)
  · subst hx
    exact c_Mo_there (ns := ns) g2.2.1 h20 h62 (fun q => absurd (zIx_y hp (by omega)) q) (fun p' hp' hx _ => hK2 _ h) (fun p' hp' hx q => absurd (Or.inl q) hb) (fun p' hp' hx q => absurd (Or.inr q) hb)
  · subst hx hb
    refine c_Mo_there (ns := ns) (n := n) (μ0 := μ) g2.2.1 h20 h62 (fun q => absurd (zIx_y hp (by omega)) q) (fun p' hp' hx q => absurd (Or.inl rfl) q) (fun p' hp' hx _ => ?_) (fun p' hp' hx q => absurd q (by decide))
    obtain rfl := (nI_eq (by omega) (by omega)).mp hx
    refine hK2 _ ?_
    have e0 : ∀ f, f ≠ 10 → f ≠ 40 → f ≠ 62 → f ≠ 95 → mOutA (zu (cOutA (zu μ 10 0 p 0) (nI p) nt) 62 0 p 0) (nI p) 0 48 f = μ f := fun f q1 q2 q3 q4 => by
      funext a b
      unfold mOutA cOutA
      rw [if_neg (fun z => q4 z.1), zu_ne (fun z => q3 z.1), if_neg (fun z => q2 z.1), zu_ne (fun z => q1 z.1)]
    have e10 : ∀ q, mOutA (zu (cOutA (zu μ 10 0 p 0) (nI p) nt) 62 0 p 0) (nI p) 0 48 10 0 q = if q = p then 0 else μ 10 0 q := fun q => by
      unfold mOutA cOutA
      rw [if_neg (by omega), zu_ne (by omega), if_neg (by omega)]
      by_cases e : q = p
      · subst e
        rw [zu_eq, if_pos rfl]
      · rw [zu_ne (fun z => e z.2.1), if_neg e]
    have e62 : ∀ q, mOutA (zu (cOutA (zu μ 10 0 p 0) (nI p) nt) 62 0 p 0) (nI p) 0 48 62 0 q = if q = p then 0 else μ 62 0 q := fun q => by
      unfold mOutA cOutA
      rw [if_neg (by omega)]
      by_cases e : q = p
      · subst e
        rw [zu_eq, if_pos rfl]
      · rw [zu_ne (fun z => e z.2.1), if_neg e, if_neg (by omega), zu_ne (by omega)]
    have e40 : ∀ t k, mOutA (zu (cOutA (zu μ 10 0 p 0) (nI p) nt) 62 0 p 0) (nI p) 0 48 40 t k = if t < nt ∧ k < (μ 9 t 0).toNatClampNeg ∧ μ 40 t k = nI p then -1 else μ 40 t k := fun t k => by
      unfold mOutA cOutA
      rw [if_neg (by omega), zu_ne (by omega)]
      show (if 40 = 40 ∧ t < nt ∧ k < (μ 9 t 0).toNatClampNeg ∧ μ 40 t k = nI p then -1 else μ 40 t k) = _
      simp only [true_and]
    have e95 : ∀ b, mOutA (zu (cOutA (zu μ 10 0 p 0) (nI p) nt) 62 0 p 0) (nI p) 0 48 95 0 b = if b < 48 ∧ μ 95 0 b = nI p then -1 else μ 95 0 b := fun b => by
      show (if 95 = 95 ∧ 0 = 0 ∧ 0 ≤ b ∧ b < 48 ∧ μ 95 0 b = nI p then -1 else μ 95 0 b) = _
      simp only [true_and, Nat.zero_le]
    generalize mOutA (zu (cOutA (zu μ 10 0 p 0) (nI p) nt) 62 0 p 0) (nI p) 0 48 = M at *
    have e48 : M 48 = μ 48 := e0 48 (by omega) (by omega) (by omega) (by omega)
    have ef : ∀ l : List Nat, l.all (fun f => !([10, 40, 62, 95] : List Nat).contains f) = true → ∀ f, f ∈ l → M f = μ f := fun l hl f hf => by
      have := List.all_eq_true.mp hl f hf
      simp at this
      exact e0 f this.1 this.2.1 this.2.2.1 this.2.2.2
    refine ⟨ns, n, nr, nh, nt, nb, L, gSt_fr (ef _ rfl) (by rw [e48]) g1, gPe_th (Or.inl rfl) (ef _ rfl) (by rw [e48]) e10 e62 g2, gTp_fr (ef _ rfl) (by rw [ef [2] rfl 2 (by simp)]) (by rw [e48]) g3, gRu_fr (ef _ rfl) (by rw [e48]) g4, gHd_fr (ef _ rfl) (by rw [e48]) g5, ⟨?_, ?_, g6.2.2.1, fun t ht => ?_⟩, gFe_fr (ef _ rfl) g7, gCo_fr (ef _ rfl) g8, gVs_fr (ef _ rfl) (by rw [e48]) g9, gWi_fr (ef [7] rfl 7 (by simp)) (by rw [e48]) g10, gCs_fr (ef _ rfl) g11⟩
    · rw [ef [5] rfl 5 (by simp)]
      exact g6.1
    · rw [e48]
      exact g6.2.1
    · have h4 := g6.2.2.1
      obtain ⟨a1, a2, ⟨z, z1, z2, z3, z4, z5⟩, a4, a5, a6⟩ := g6.2.2.2 t ht
      have hzc : (μ 9 t 0).toNatClampNeg = z := by rw [z3]; exact nI_clamp (by omega)
      have e40' : ∀ k, k < 12 → M 40 t k = if μ 40 t k = nI p then -1 else μ 40 t k := fun k hk => by
        rw [e40, hzc]
        by_cases q : μ 40 t k = nI p
        · rcases Nat.lt_or_ge k z with hz | hz
          · rw [if_pos ⟨ht, hz, q⟩, if_pos q]
          · exact absurd (z5 k hz hk) (by rw [q]; exact nI_nem1 (by omega))
        · rw [if_neg (fun w => q w.2.2), if_neg q]
      unfold gT1
      rw [ef [9] rfl 9 (by simp), ef [93] rfl 93 (by simp), ef [94] rfl 94 (by simp)]
      refine ⟨a1, a2, ⟨z, z1, z2, z3, z4, fun k hk hk2 => ?_⟩, fun k hk => ?_, fun k hk => ?_, fun j k hj hk he => ?_⟩
      · rw [e40' k hk2, z5 k hk hk2]
        split <;> rfl
      · rw [e95, e40' k hk, a4 k hk]
        by_cases q : μ 40 t k = nI p
        · rw [if_pos ⟨by omega, q⟩, if_pos q]
        · rw [if_neg (fun w => q w.2), if_neg q]
      · rw [e40' k hk]
        by_cases q : μ 40 t k = nI p
        · rw [if_pos q]
          exact Or.inl rfl
        · rw [if_neg q]
          rcases a5 k hk with r | ⟨u, hu, r1, r2⟩
          · exact Or.inl r
          · refine Or.inr ⟨u, hu, r1, ?_⟩
            rw [e10, if_neg]
            · exact r2
            · rintro rfl
              exact q r1
      · rw [e40' j (by omega)] at he ⊢
        rw [e40' k hk] at he
        by_cases q : μ 40 t j = nI p
        · rw [if_pos q]
        · rw [if_neg q] at he ⊢
          by_cases q2 : μ 40 t k = nI p
          · rw [if_pos q2] at he
            exact he
          · rw [if_neg q2] at he
            exact a6 j k hj hk he
  · subst hx hb
    refine c_Mo_there (ns := ns) (n := n) (μ0 := μ) g2.2.1 h20 h62 (fun q => absurd (zIx_y hp (by omega)) q) (fun p' hp' hx q => absurd (Or.inr rfl) q) (fun p' hp' hx q => absurd q (by decide)) (fun p' hp' hx _ => ?_)
    obtain rfl := (nI_eq (by omega) (by omega)).mp hx
    refine hK2 _ ?_
    have e10 : ∀ q, zu (zu μ 10 0 p 1) 62 0 p 1 10 0 q = if q = p then 1 else μ 10 0 q := fun q => by
      rw [zu_ne (by omega)]
      by_cases e : q = p
      · subst e
        rw [zu_eq, if_pos rfl]
      · rw [zu_ne (fun z => e z.2.1), if_neg e]
    have e62 : ∀ q, zu (zu μ 10 0 p 1) 62 0 p 1 62 0 q = if q = p then 1 else μ 62 0 q := fun q => by
      by_cases e : q = p
      · subst e
        rw [zu_eq, if_pos rfl]
      · rw [zu_ne (fun z => e z.2.1), if_neg e, zu_ne (by omega)]
    have e0 : ∀ f, f ≠ 10 → f ≠ 62 → zu (zu μ 10 0 p 1) 62 0 p 1 f = μ f := fun f q1 q2 => by
      funext a b
      rw [zu_ne (fun z => q2 z.1), zu_ne (fun z => q1 z.1)]
    generalize zu (zu μ 10 0 p 1) 62 0 p 1 = M at *
    have e48 : M 48 = μ 48 := e0 48 (by omega) (by omega)
    have ef : ∀ l : List Nat, l.all (fun f => !([10, 62] : List Nat).contains f) = true → ∀ f, f ∈ l → M f = μ f := fun l hl f hf => by
      have := List.all_eq_true.mp hl f hf
      simp at this
      exact e0 f this.1 this.2
    refine ⟨ns, n, nr, nh, nt, nb, L, gSt_fr (ef _ rfl) (by rw [e48]) g1, gPe_th (Or.inr rfl) (ef _ rfl) (by rw [e48]) e10 e62 g2, gTp_fr (ef _ rfl) (by rw [ef [2] rfl 2 (by simp)]) (by rw [e48]) g3, gRu_fr (ef _ rfl) (by rw [e48]) g4, gHd_fr (ef _ rfl) (by rw [e48]) g5, ⟨?_, ?_, g6.2.2.1, fun t ht => ?_⟩, gFe_fr (ef _ rfl) g7, gCo_fr (ef _ rfl) g8, gVs_fr (ef _ rfl) (by rw [e48]) g9, gWi_fr (ef [7] rfl 7 (by simp)) (by rw [e48]) g10, gCs_fr (ef _ rfl) g11⟩
    · rw [ef [5] rfl 5 (by simp)]
      exact g6.1
    · rw [e48]
      exact g6.2.1
    · obtain ⟨a1, a2, a3, a4, a5, a6⟩ := g6.2.2.2 t ht
      unfold gT1
      rw [ef [9] rfl 9 (by simp), ef [40] rfl 40 (by simp), ef [93] rfl 93 (by simp), ef [94] rfl 94 (by simp), ef [95] rfl 95 (by simp)]
      refine ⟨a1, a2, a3, a4, fun k hk => ?_, a6⟩
      rcases a5 k hk with r | ⟨u, hu, r1, r2⟩
      · exact Or.inl r
      · refine Or.inr ⟨u, hu, r1, ?_⟩
        rw [e10]
        split
        · rfl
        · exact r2
