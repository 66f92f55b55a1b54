/-- an answer and a state by equations -/
theorem zKe {K : Option zV → zMu → Prop} {v w : Int32} {μ μ' : zMu} (h : K (some (zI v)) μ) (e : w = v) (e2 : μ' = μ) : K (some (zI w)) μ' := by
  rw [e, e2]
  exact h
theorem zKn {K : Option zV → zMu → Prop} {μ μ' : zMu} (h : K none μ) (e2 : μ' = μ) : K none μ' := by
  rw [e2]
  exact h
