theorem c_Ro_hasPerson {d : Nat} {μ : zMu} {x : Int32} {K : Option zV → zMu → Prop} (h1 : 0 ≤ x → x < μ 1 0 1 → K (some (zI 1)) μ) (h0 : ¬ (0 ≤ x ∧ x < μ 1 0 1) → K (some (zI 0)) μ) : Ct d m_Ro_hasPerson [zR 1 0, zI x] μ K := by
  refine zmeet rfl (Nat.le_of_ble_eq_true rfl) (fun S => ?_)
  repeat' (first
    | refine zs k_Ro_hasPerson rfl ?_
    | refine ⟨Nat.zero_lt_one, rfl, ?_⟩
    | refine ⟨rfl, ?_⟩
    | refine ⟨fun h => absurd h (by decide), fun _ => ?_⟩
    | refine ⟨fun _ => ?_, fun h => absurd h (by decide)⟩
    | refine ⟨fun h => ?_, fun h => ?_⟩
    | exact ⟨Or.inr ⟨rfl, Or.inl rfl⟩, h0 (by grind)⟩
    | exact ⟨Or.inr ⟨rfl, Or.inr rfl⟩, h1 (by grind) (by grind)⟩
    | fail)
theorem c_De_hasPerson {d : Nat} {μ : zMu} {x y : Int32} {K : Option zV → zMu → Prop} (h1 : 0 ≤ x → x < μ 1 0 1 → 0 ≤ y → y < μ 1 0 1 → x ≠ y → K (some (zI 1)) μ) (h0 : ¬ (0 ≤ x ∧ x < μ 1 0 1 ∧ 0 ≤ y ∧ y < μ 1 0 1 ∧ x ≠ y) → K (some (zI 0)) μ) : Ct (d + 1) m_De_areTwo [zR 0 0, zI x, zI y] μ K := by
  refine zmeet rfl (Nat.le_of_ble_eq_true rfl) (fun S => ?_)
  repeat' (first
    | refine zs k_De_areTwo rfl ?_
    | refine ⟨Nat.zero_lt_one, rfl, ?_⟩
    | refine ⟨rfl, ?_⟩
    | refine ⟨⟨Nat.zero_lt_one, rfl⟩, Nat.le_of_ble_eq_true rfl, ?_⟩
    | refine c_Ro_hasPerson (fun _ _ => ?_) (fun _ => ?_)
    | refine ⟨fun h => absurd h (by decide), fun _ => ?_⟩
    | refine ⟨fun _ => ?_, fun h => absurd h (by decide)⟩
    | refine ⟨fun h => ?_, fun h => ?_⟩
    | exact ⟨Or.inr ⟨rfl, Or.inl rfl⟩, h0 (by grind)⟩
    | exact ⟨Or.inr ⟨rfl, Or.inr rfl⟩, h1 (by grind) (by grind) (by grind) (by grind) (by grind)⟩
    | fail)
