/-! a rule's verdict -/
theorem c_Ru_verdict {d r : Nat} {μ : zMu} {o day x y : Int32} {K : Option zV → zMu → Prop} (hr : r < 16) (hok : cRok μ r) (hx : vp_in x 20) (hy : vp_in y 20) (hK : K (some (zI (pV (cF μ) (cRu μ r) o day x.toNatClampNeg y.toNatClampNeg))) μ) : Ct (d + 2) m_Ru_verdict [zR 8 r, zR 1 0, zI o, zI day, zI x, zI y] μ K := by
  refine zmeet rfl (Nat.le_of_ble_eq_true rfl) (fun S => ?_)
  have hx2 := vp_lt hx
  have hy2 := vp_lt hy
  have hkey := hok.1
  have hV : pV (cF μ) (cRu μ r) o day x.toNatClampNeg y.toNatClampNeg = (if μ 17 x.toNatClampNeg (μ 8 r 1).toNatClampNeg = μ 17 y.toNatClampNeg (μ 8 r 1).toNatClampNeg ∨ ¬ pFor (cRu μ r) o day ∨ (pHolds (cF μ) (cRu μ r) x.toNatClampNeg y.toNatClampNeg = false ∧ pHolds (cF μ) (cRu μ r) y.toNatClampNeg x.toNatClampNeg = false) then 0 else if (μ 17 x.toNatClampNeg (μ 8 r 1).toNatClampNeg < μ 17 y.toNatClampNeg (μ 8 r 1).toNatClampNeg ↔ μ 8 r 2 = 1) then -1 else 1) := rfl
  have hdn := hok.2.2.1
  have hK' : ∀ v : Int32, v = pV (cF μ) (cRu μ r) o day x.toNatClampNeg y.toNatClampNeg → K (some (zI v)) μ := fun v h => by rw [h]; exact hK
  repeat' (first
    | refine c_Ru_isFor hr (fun hp => ?_) (fun hp => ?_)
    | refine c_Ru_holds hr hok hx hy (fun hp => ?_) (fun hp => ?_)
    | refine c_Ru_holds hr hok hy hx (fun hp => ?_) (fun hp => ?_)
    | exact hK' _ (by rw [hV]; grind)
    | refine zs k_Ru_verdict rfl ?_
    | refine ⟨Nat.zero_lt_one, rfl, ?_⟩
    | refine ⟨rfl, ?_⟩
    | refine ⟨⟨Nat.zero_lt_one, rfl⟩, Nat.le_of_ble_eq_true rfl, ?_⟩
    | refine ⟨Nat.le_of_ble_eq_true rfl, Nat.le_of_ble_eq_true rfl, ?_⟩
    | refine ⟨(by first | exact Nat.zero_lt_one | assumption | omega), (by first | assumption | exact vp_in_nI (by omega) (by omega) | (unfold vp_in; decide)), ?_⟩
    | refine ⟨(by first | exact Nat.zero_lt_one | assumption | omega), rfl, ?_⟩
    | refine ⟨⟨(by first | exact Nat.zero_lt_one | assumption | omega), rfl⟩, Nat.le_of_ble_eq_true rfl, ?_⟩
    | refine ⟨(by first | exact Nat.zero_lt_one | assumption | omega), ?_⟩
    | refine ⟨Or.inl rfl, ?_⟩
    | refine ⟨Or.inr (Or.inl rfl), ?_⟩
    | refine ⟨Or.inr (Or.inr rfl), ?_⟩
    | refine ⟨Or.inr ⟨rfl, (by first | exact Or.inl rfl | exact Or.inr rfl | assumption)⟩, ?_⟩
    | refine ⟨fun h => absurd h (by decide), fun _ => ?_⟩
    | refine ⟨fun _ => ?_, fun h => absurd h (by decide)⟩
    | refine ⟨fun h => ?_, fun h => ?_⟩
    | fail)
