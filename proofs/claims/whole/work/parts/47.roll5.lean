/-! ROLL: papers, homes -/
def cHp (μ : zMu) (p i : Nat) : zMu := fun f a k => if f = 17 ∧ p ≤ a ∧ a < i ∧ k = 0 then cRank μ a else if f = 17 ∧ p ≤ a ∧ a < i ∧ k = 1 then cPap μ a else μ f a k
theorem cHp_4 {μ : zMu} {p i a : Nat} : cHp μ p i 17 a 4 = μ 17 a 4 := by
  unfold cHp
  rw [if_neg (by omega), if_neg (by omega)]
theorem cHp_o {μ : zMu} {p i f a k : Nat} (hf : f ≠ 17) : cHp μ p i f a k = μ f a k := by
  unfold cHp
  rw [if_neg (by omega), if_neg (by omega)]
theorem cHp_own {μ : zMu} {p i a : Nat} : cOwn (cHp μ p i) a = cOwn μ a := by
  unfold cOwn
  rw [cHp_4, cHp_o (by decide), cHp_o (by decide)]
theorem cHp_rank {μ : zMu} {p i a : Nat} : cRank (cHp μ p i) a = cRank μ a := by
  unfold cRank
  rw [cHp_4, cHp_o (by decide), cHp_own, cHp_own]
theorem cHp_pap {μ : zMu} {p i a : Nat} : cPap (cHp μ p i) a = cPap μ a := by
  have e : cPq (cHp μ p i) a = cPq μ a := by
    unfold cPq
    rw [cHp_4, cHp_o (by decide)]
  unfold cPap
  rw [e, cHp_o (by decide)]
theorem cHp_step {μ : zMu} {p i : Nat} (h : p ≤ i) : zu (zu (cHp μ p i) 17 i 0 (cRank μ i)) 17 i 1 (cPap μ i) = cHp μ p (i + 1) := by
  funext f a k
  simp only [zu, cHp]
  grind
theorem c_Ro_handPaper {d n p : Nat} {μ : zMu} {x y : Int32} {K : Option zV → zMu → Prop} (hn : μ 1 0 1 = nI n) (h20 : n ≤ 20) (hp : p < n) (hx : x = nI p) (ho : ∀ i, i < n → cOf μ i) (hK : K (some (zI (μ 16 0 p))) (cHp (zu μ 16 0 p y) p n)) : Ct (d + 4) m_Ro_handPaper [zR 1 0, zI x, zI y] μ K := by
  subst hx
  refine zmeet rfl (Nat.le_of_ble_eq_true rfl) (fun S => ?_)
  have hcp : (nI p).toNatClampNeg = p := nI_clamp (by omega)
  have L : ∀ (k i : Nat) (v : Int32) (μ1 : zMu), i + k = n → p ≤ i → v = nI i → μ1 = cHp (zu μ 16 0 p y) p i → zG S (d + 4) m_Ro_handPaper K 17 [some (zR 1 0), some (zI (nI p)), some (zI y), some (zI (μ 16 0 p)), some (zI v)] [] μ1 := by
    intro k
    induction k with
    | zero =>
      intro i v μ1 hi hpi hv hm
      subst hv
      obtain rfl : i = n := by omega
      have hn1 : μ1 1 0 1 = nI i := by rw [hm]; exact hn
      refine zs k_Ro_handPaper rfl ?_
      repeat' (first
        | exact zKe hK rfl hm
        | refine zs k_Ro_handPaper rfl ?_
        | refine br_t (by simp (disch := omega) only [hn1, nI_leI, nI_ltI, nI_eq]; omega) ?_
        | refine br_f (by simp (disch := omega) only [hn1, nI_leI, nI_ltI, nI_eq]; omega) ?_
        | refine ⟨Nat.zero_lt_one, rfl, ?_⟩
        | refine ⟨rfl, ?_⟩
        | refine ⟨⟨Nat.zero_lt_one, rfl⟩, Nat.le_of_ble_eq_true rfl, ?_⟩
        | refine ⟨Nat.le_of_ble_eq_true rfl, Nat.le_of_ble_eq_true rfl, ?_⟩
        | refine ⟨(by first | exact Nat.zero_lt_one | assumption | omega), (by first | assumption | exact vp_in_nI (by omega) (by omega) | (unfold vp_in; decide)), ?_⟩
        | refine ⟨(by first | exact Nat.zero_lt_one | assumption | omega), rfl, ?_⟩
        | refine ⟨⟨(by first | exact Nat.zero_lt_one | assumption | omega), rfl⟩, Nat.le_of_ble_eq_true rfl, ?_⟩
        | refine ⟨(by first | exact Nat.zero_lt_one | assumption | omega), ?_⟩
        | refine ⟨Or.inl rfl, ?_⟩
        | refine ⟨Or.inr (Or.inl rfl), ?_⟩
        | refine ⟨Or.inr (Or.inr rfl), ?_⟩
        | refine ⟨Or.inr ⟨rfl, (by first | exact Or.inl rfl | exact Or.inr rfl | assumption)⟩, ?_⟩
        | refine ⟨fun h => absurd h (by decide), fun _ => ?_⟩
        | refine ⟨fun _ => ?_, fun h => absurd h (by decide)⟩
        | refine ⟨fun h => ?_, fun h => ?_⟩
        | fail)
    | succ k ih =>
      intro i v μ1 hi hpi hv hm
      subst hv
      have hn1 : μ1 1 0 1 = nI n := by rw [hm]; exact hn
      have hc : (nI i).toNatClampNeg = i := nI_clamp (by omega)
      have hof : cOf μ1 (nI i).toNatClampNeg := by
        rw [hc, hm]
        unfold cOf
        rw [cHp_4, cHp_o (by decide)]
        exact ho i (by omega)
      refine zs k_Ro_handPaper rfl ?_
      repeat' (first
        | refine c_Ro_refreshFields (vp_in_nI (by omega) (by omega)) hof ?_
        | refine ih (i + 1) _ _ (by omega) (by omega) (by exact nI_1 i) ?_
        | refine zs k_Ro_handPaper rfl ?_
        | refine br_t (by simp (disch := omega) only [hn1, nI_leI, nI_ltI, nI_eq]; omega) ?_
        | refine br_f (by simp (disch := omega) only [hn1, nI_leI, nI_ltI, nI_eq]; omega) ?_
        | refine ⟨Nat.zero_lt_one, rfl, ?_⟩
        | refine ⟨rfl, ?_⟩
        | refine ⟨⟨Nat.zero_lt_one, rfl⟩, Nat.le_of_ble_eq_true rfl, ?_⟩
        | refine ⟨Nat.le_of_ble_eq_true rfl, Nat.le_of_ble_eq_true rfl, ?_⟩
        | refine ⟨(by first | exact Nat.zero_lt_one | assumption | omega), (by first | assumption | exact vp_in_nI (by omega) (by omega) | (unfold vp_in; decide)), ?_⟩
        | refine ⟨(by first | exact Nat.zero_lt_one | assumption | omega), rfl, ?_⟩
        | refine ⟨⟨(by first | exact Nat.zero_lt_one | assumption | omega), rfl⟩, Nat.le_of_ble_eq_true rfl, ?_⟩
        | refine ⟨(by first | exact Nat.zero_lt_one | assumption | omega), ?_⟩
        | refine ⟨Or.inl rfl, ?_⟩
        | refine ⟨Or.inr (Or.inl rfl), ?_⟩
        | refine ⟨Or.inr (Or.inr rfl), ?_⟩
        | refine ⟨Or.inr ⟨rfl, (by first | exact Or.inl rfl | exact Or.inr rfl | assumption)⟩, ?_⟩
        | refine ⟨fun h => absurd h (by decide), fun _ => ?_⟩
        | refine ⟨fun _ => ?_, fun h => absurd h (by decide)⟩
        | refine ⟨fun h => ?_, fun h => ?_⟩
        | fail)
      rw [hc, hm, cHp_rank, cHp_pap]
      exact cHp_step hpi
  repeat' (first
    | (rw [hcp]; refine L (n - p) p _ _ (by omega) (Nat.le_refl p) rfl ?_)
    | refine zs k_Ro_handPaper rfl ?_
    | refine ⟨Nat.zero_lt_one, rfl, ?_⟩
    | refine ⟨rfl, ?_⟩
    | refine ⟨⟨Nat.zero_lt_one, rfl⟩, Nat.le_of_ble_eq_true rfl, ?_⟩
    | refine ⟨Nat.le_of_ble_eq_true rfl, Nat.le_of_ble_eq_true rfl, ?_⟩
    | refine ⟨(by first | exact Nat.zero_lt_one | assumption | omega), (by first | assumption | exact vp_in_nI (by omega) (by omega) | (unfold vp_in; decide)), ?_⟩
    | refine ⟨(by first | exact Nat.zero_lt_one | assumption | omega), rfl, ?_⟩
    | refine ⟨⟨(by first | exact Nat.zero_lt_one | assumption | omega), rfl⟩, Nat.le_of_ble_eq_true rfl, ?_⟩
    | refine ⟨(by first | exact Nat.zero_lt_one | assumption | omega), ?_⟩
    | refine ⟨Or.inl rfl, ?_⟩
    | refine ⟨Or.inr (Or.inl rfl), ?_⟩
    | refine ⟨Or.inr (Or.inr rfl), ?_⟩
    | refine ⟨Or.inr ⟨rfl, (by first | exact Or.inl rfl | exact Or.inr rfl | assumption)⟩, ?_⟩
    | refine ⟨fun h => absurd h (by decide), fun _ => ?_⟩
    | refine ⟨fun _ => ?_, fun h => absurd h (by decide)⟩
    | refine ⟨fun h => ?_, fun h => ?_⟩
    | fail)
  funext f a k
  simp only [cHp]
  grind
