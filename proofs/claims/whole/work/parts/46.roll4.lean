/-! ROLL: the dean -/
def cDn (μ : zMu) (p : Nat) : Prop := (μ 17 p 4 = 0 ∨ μ 17 p 4 = 5) ∧ μ 10 0 p = 1 ∧ ¬ μ 16 0 p = 0
def cEl (μ : zMu) (p q : Nat) : Prop := μ 17 p 3 < μ 17 q 3 ∨ (μ 17 p 3 = μ 17 q 3 ∧ μ 16 0 p < μ 16 0 q)
theorem c_Ro_canBeDean {d : Nat} {μ : zMu} {p : Int32} {K : Option zV → zMu → Prop} (hp : vp_in p 20) (h1 : cDn μ p.toNatClampNeg → K (some (zI 1)) μ) (h0 : ¬ cDn μ p.toNatClampNeg → K (some (zI 0)) μ) : Ct (d + 1) m_Ro_canBeDean [zR 1 0, zI p] μ K := by
  refine zmeet rfl (Nat.le_of_ble_eq_true rfl) (fun S => ?_)
  have hp2 := vp_lt hp
  unfold cDn at h1 h0
  repeat' (first
    | refine c_Ro_isOfKind hp (fun hk => ?_) (fun hk => ?_)
    | exact h0 (by grind)
    | exact h1 (by grind)
    | refine zs k_Ro_canBeDean rfl ?_
    | refine ⟨Nat.zero_lt_one, rfl, ?_⟩
    | refine ⟨rfl, ?_⟩
    | refine ⟨⟨Nat.zero_lt_one, rfl⟩, Nat.le_of_ble_eq_true rfl, ?_⟩
    | refine ⟨Nat.le_of_ble_eq_true rfl, Nat.le_of_ble_eq_true rfl, ?_⟩
    | refine ⟨(by first | exact Nat.zero_lt_one | assumption | omega), (by first | assumption | exact vp_in_nI (by omega) (by omega) | (unfold vp_in; decide)), ?_⟩
    | refine ⟨(by first | exact Nat.zero_lt_one | assumption | omega), rfl, ?_⟩
    | refine ⟨⟨(by first | exact Nat.zero_lt_one | assumption | omega), rfl⟩, Nat.le_of_ble_eq_true rfl, ?_⟩
    | refine ⟨(by first | exact Nat.zero_lt_one | assumption | omega), ?_⟩
    | refine ⟨Or.inl rfl, ?_⟩
    | refine ⟨Or.inr (Or.inl rfl), ?_⟩
    | refine ⟨Or.inr (Or.inr rfl), ?_⟩
    | refine ⟨Or.inr ⟨rfl, (by first | exact Or.inl rfl | exact Or.inr rfl | assumption)⟩, ?_⟩
    | refine ⟨fun h => absurd h (by decide), fun _ => ?_⟩
    | refine ⟨fun _ => ?_, fun h => absurd h (by decide)⟩
    | refine ⟨fun h => ?_, fun h => ?_⟩
    | fail)
theorem c_Ro_isElder {d : Nat} {μ : zMu} {p q : Int32} {K : Option zV → zMu → Prop} (hp : vp_in p 20) (hq : vp_in q 20) (h1 : cEl μ p.toNatClampNeg q.toNatClampNeg → K (some (zI 1)) μ) (h0 : ¬ cEl μ p.toNatClampNeg q.toNatClampNeg → K (some (zI 0)) μ) : Ct d m_Ro_isElder [zR 1 0, zI p, zI q] μ K := by
  refine zmeet rfl (Nat.le_of_ble_eq_true rfl) (fun S => ?_)
  have hp2 := vp_lt hp
  have hq2 := vp_lt hq
  unfold cEl at h1 h0
  have e3 : Int32.toNatClampNeg 3 = 3 := rfl
  repeat' (first
    | exact h0 (by rw [e3] at *; grind)
    | exact h1 (by rw [e3] at *; grind)
    | refine zs k_Ro_isElder rfl ?_
    | refine ⟨Nat.zero_lt_one, rfl, ?_⟩
    | refine ⟨rfl, ?_⟩
    | refine ⟨⟨Nat.zero_lt_one, rfl⟩, Nat.le_of_ble_eq_true rfl, ?_⟩
    | refine ⟨Nat.le_of_ble_eq_true rfl, Nat.le_of_ble_eq_true rfl, ?_⟩
    | refine ⟨(by first | exact Nat.zero_lt_one | assumption | omega), (by first | assumption | exact vp_in_nI (by omega) (by omega) | (unfold vp_in; decide)), ?_⟩
    | refine ⟨(by first | exact Nat.zero_lt_one | assumption | omega), rfl, ?_⟩
    | refine ⟨⟨(by first | exact Nat.zero_lt_one | assumption | omega), rfl⟩, Nat.le_of_ble_eq_true rfl, ?_⟩
    | refine ⟨(by first | exact Nat.zero_lt_one | assumption | omega), ?_⟩
    | refine ⟨Or.inl rfl, ?_⟩
    | refine ⟨Or.inr (Or.inl rfl), ?_⟩
    | refine ⟨Or.inr (Or.inr rfl), ?_⟩
    | refine ⟨Or.inr ⟨rfl, (by first | exact Or.inl rfl | exact Or.inr rfl | assumption)⟩, ?_⟩
    | refine ⟨fun h => absurd h (by decide), fun _ => ?_⟩
    | refine ⟨fun _ => ?_, fun h => absurd h (by decide)⟩
    | refine ⟨fun h => ?_, fun h => ?_⟩
    | fail)
