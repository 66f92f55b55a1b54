/-! ROLL: eldestWithPaper -/
def cBest (μ : zMu) : Nat → Int32
  | 0 => -1
  | i + 1 => if ((μ 17 i 4 = 0 ∨ μ 17 i 4 = 5) ∧ μ 10 0 i = 1 ∧ ¬ μ 16 0 i = 0) ∧ (cBest μ i = -1 ∨ (μ 17 i 3 < μ 17 (cBest μ i).toNatClampNeg 3 ∨ (μ 17 i 3 = μ 17 (cBest μ i).toNatClampNeg 3 ∧ μ 16 0 i < μ 16 0 (cBest μ i).toNatClampNeg))) then nI i else cBest μ i
theorem cBest_in {μ : zMu} : ∀ i, i ≤ 20 → cBest μ i = -1 ∨ ∃ b, b < i ∧ cBest μ i = nI b
  | 0, _ => Or.inl rfl
  | i + 1, h => by
    rw [cBest]
    split
    · exact Or.inr ⟨i, by omega, rfl⟩
    · rcases cBest_in (μ := μ) i (by omega) with h1 | ⟨b, h1, h2⟩
      · exact Or.inl h1
      · exact Or.inr ⟨b, by omega, h2⟩
theorem c_Ro_eldestWithPaper {d n : Nat} {μ : zMu} {K : Option zV → zMu → Prop} (hn : μ 1 0 1 = nI n) (h20 : n ≤ 20) (hK : K (some (zI (cBest μ n))) μ) : Ct (d + 2) m_Ro_eldestWithPaper [zR 1 0] μ K := by
  refine zmeet rfl (Nat.le_of_ble_eq_true rfl) (fun S => ?_)
  have L : ∀ (k i : Nat) (b x : Int32), i + k = n → b = cBest μ i → x = nI i → zG S (d + 2) m_Ro_eldestWithPaper K 4 [some (zR 1 0), some (zI b), some (zI x)] [] μ := by
    intro k
    induction k with
    | zero =>
      intro i b x hi hb hx
      subst hb hx
      obtain rfl : i = n := by omega
      refine zs k_Ro_eldestWithPaper rfl ?_
      repeat' (first
        | exact hK
        | refine zs k_Ro_eldestWithPaper rfl ?_
        | refine br_t (by simp (disch := omega) only [hn, nI_leI, nI_ltI, nI_eq]; omega) ?_
        | refine br_f (by simp (disch := omega) only [hn, nI_leI, nI_ltI, nI_eq]; omega) ?_
        | refine ⟨Nat.zero_lt_one, rfl, ?_⟩
        | refine ⟨rfl, ?_⟩
        | refine ⟨⟨Nat.zero_lt_one, rfl⟩, Nat.le_of_ble_eq_true rfl, ?_⟩
        | refine ⟨Nat.le_of_ble_eq_true rfl, Nat.le_of_ble_eq_true rfl, ?_⟩
        | refine ⟨(by first | exact Nat.zero_lt_one | assumption | omega), (by first | assumption | exact vp_in_nI (by omega) (by omega) | (unfold vp_in; decide)), ?_⟩
        | refine ⟨(by first | exact Nat.zero_lt_one | assumption | omega), rfl, ?_⟩
        | refine ⟨⟨(by first | exact Nat.zero_lt_one | assumption | omega), rfl⟩, Nat.le_of_ble_eq_true rfl, ?_⟩
        | refine ⟨(by first | exact Nat.zero_lt_one | assumption | omega), ?_⟩
        | refine ⟨Or.inl rfl, ?_⟩
        | refine ⟨Or.inr (Or.inl rfl), ?_⟩
        | refine ⟨Or.inr (Or.inr rfl), ?_⟩
        | refine ⟨Or.inr ⟨rfl, (by first | exact Or.inl rfl | exact Or.inr rfl | assumption)⟩, ?_⟩
        | refine ⟨fun h => absurd h (by decide), fun _ => ?_⟩
        | refine ⟨fun _ => ?_, fun h => absurd h (by decide)⟩
        | refine ⟨fun h => ?_, fun h => ?_⟩
        | fail)
    | succ k ih =>
      intro i b x hi hb hx
      subst hx
      have hc : (nI i).toNatClampNeg = i := nI_clamp (by omega)
      have hbs : cBest μ (i + 1) = if ((μ 17 i 4 = 0 ∨ μ 17 i 4 = 5) ∧ μ 10 0 i = 1 ∧ ¬ μ 16 0 i = 0) ∧ (b = -1 ∨ (μ 17 i 3 < μ 17 b.toNatClampNeg 3 ∨ (μ 17 i 3 = μ 17 b.toNatClampNeg 3 ∧ μ 16 0 i < μ 16 0 b.toNatClampNeg))) then nI i else b := by rw [hb]; rfl
      have hbv : ¬ b = -1 → vp_in b 20 := fun h => by
        rcases cBest_in (μ := μ) i (by omega) with h1 | ⟨c, h1, h2⟩
        · exact absurd (hb.trans h1) h
        · rw [hb, h2]
          exact vp_in_nI (by omega) (by omega)
      refine zs k_Ro_eldestWithPaper rfl ?_
      repeat' (first
        | refine c_Ro_canBeDean (vp_in_nI (by omega) (by omega)) (fun hd => ?_) (fun hd => ?_)
        | refine c_Ro_isElder (vp_in_nI (by omega) (by omega)) (hbv (by assumption)) (fun he => ?_) (fun he => ?_)
        | refine ih (i + 1) _ _ (by omega) ?_ (by exact nI_1 i)
        | refine zs k_Ro_eldestWithPaper rfl ?_
        | refine br_t (by simp (disch := omega) only [hn, nI_leI, nI_ltI, nI_eq]; omega) ?_
        | refine br_f (by simp (disch := omega) only [hn, nI_leI, nI_ltI, nI_eq]; omega) ?_
        | refine ⟨Nat.zero_lt_one, rfl, ?_⟩
        | refine ⟨rfl, ?_⟩
        | refine ⟨⟨Nat.zero_lt_one, rfl⟩, Nat.le_of_ble_eq_true rfl, ?_⟩
        | refine ⟨Nat.le_of_ble_eq_true rfl, Nat.le_of_ble_eq_true rfl, ?_⟩
        | refine ⟨(by first | exact Nat.zero_lt_one | assumption | omega), (by first | assumption | exact vp_in_nI (by omega) (by omega) | (unfold vp_in; decide)), ?_⟩
        | refine ⟨(by first | exact Nat.zero_lt_one | assumption | omega), rfl, ?_⟩
        | refine ⟨⟨(by first | exact Nat.zero_lt_one | assumption | omega), rfl⟩, Nat.le_of_ble_eq_true rfl, ?_⟩
        | refine ⟨(by first | exact Nat.zero_lt_one | assumption | omega), ?_⟩
        | refine ⟨Or.inl rfl, ?_⟩
        | refine ⟨Or.inr (Or.inl rfl), ?_⟩
        | refine ⟨Or.inr (Or.inr rfl), ?_⟩
        | refine ⟨Or.inr ⟨rfl, (by first | exact Or.inl rfl | exact Or.inr rfl | assumption)⟩, ?_⟩
        | refine ⟨fun h => absurd h (by decide), fun _ => ?_⟩
        | refine ⟨fun _ => ?_, fun h => absurd h (by decide)⟩
        | refine ⟨fun h => ?_, fun h => ?_⟩
        | fail)
      all_goals
        rw [hbs]
        simp only [cDn, cEl, hc] at *
        first
          | rw [if_pos (by first | exact ⟨hd, Or.inl (by assumption)⟩ | exact ⟨hd, Or.inr he⟩)]
          | rw [if_neg (by intro g; first | exact hd g.1 | exact g.2.elim (by assumption) he)]
  repeat' (first
    | exact L n 0 _ _ (by omega) rfl rfl
    | refine zs k_Ro_eldestWithPaper rfl ?_
    | refine ⟨Nat.zero_lt_one, rfl, ?_⟩
    | refine ⟨rfl, ?_⟩
    | refine ⟨⟨Nat.zero_lt_one, rfl⟩, Nat.le_of_ble_eq_true rfl, ?_⟩
    | refine ⟨Nat.le_of_ble_eq_true rfl, Nat.le_of_ble_eq_true rfl, ?_⟩
    | refine ⟨(by first | exact Nat.zero_lt_one | assumption | omega), (by first | assumption | exact vp_in_nI (by omega) (by omega) | (unfold vp_in; decide)), ?_⟩
    | refine ⟨(by first | exact Nat.zero_lt_one | assumption | omega), rfl, ?_⟩
    | refine ⟨⟨(by first | exact Nat.zero_lt_one | assumption | omega), rfl⟩, Nat.le_of_ble_eq_true rfl, ?_⟩
    | refine ⟨(by first | exact Nat.zero_lt_one | assumption | omega), ?_⟩
    | refine ⟨Or.inl rfl, ?_⟩
    | refine ⟨Or.inr (Or.inl rfl), ?_⟩
    | refine ⟨Or.inr (Or.inr rfl), ?_⟩
    | refine ⟨Or.inr ⟨rfl, (by first | exact Or.inl rfl | exact Or.inr rfl | assumption)⟩, ?_⟩
    | refine ⟨fun h => absurd h (by decide), fun _ => ?_⟩
    | refine ⟨fun _ => ?_, fun h => absurd h (by decide)⟩
    | refine ⟨fun h => ?_, fun h => ?_⟩
    | fail)
