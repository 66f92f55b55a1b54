/-! CONSTRUCTORS: they run -/
theorem yT_ok : yOK yT = true := by decide +kernel
def yS1 : Option (List yC) := yex yT 700 9 0 (zls 1 [zR 300 0]) [] [.inl (9, yBlank 9 7)] 0 0
def yW1 : List yC := yS1.getD []
theorem yS1_some : yS1.isSome = true := by decide +kernel
theorem yS1_eq : yS1 = some yW1 := by
  have h := yS1_some
  unfold yW1
  cases hs : yS1 with
  | none =>
    rw [hs] at h
    cases h
  | some v => rfl
theorem yW1_len : yW1.length = 198 := by decide +kernel
def yS2 : Option (List yC) := yex yT 700 10 0 (zls 1 [zR 300 198]) [] (yW1 ++ [.inl (10, yBlank 10 53)]) 0 0
def yW2 : List yC := yS2.getD []
theorem yS2_some : yS2.isSome = true := by decide +kernel
theorem yS2_eq : yS2 = some yW2 := by
  have h := yS2_some
  unfold yW2
  cases hs : yS2 with
  | none =>
    rw [hs] at h
    cases h
  | some v => rfl
theorem yW2_len : yW2.length = 240 := by decide +kernel
/-- the cells are as the shape has them -/
def yCk (ws : List yC) (n : zN) : Bool := match zTab[n.1]?, ws[yPos n.1 n.2]? with
  | some (_, .inl (ci, fs)), some (.inl (cj, gs)) => decide (ci = cj) && decide (fs.length = gs.length) && (List.range fs.length).all (fun k => match fs[k]?, gs[k]? with
    | some none, some (some (.inl _)) => true
    | some (some g), some (some (.inr (.inr (f, q)))) => decide (f = 300) && decide ((g n.2).1 < 200) && decide (q = yPos (g n.2).1 (g n.2).2)
    | _, _ => false)
  | some (_, .inr (.inl (kd, len))), some (.inr (.inl (ke, vs))) => decide (kd = ke) && decide (vs.length = len)
  | some (_, .inr (.inr (kd, len, g))), some (.inr (.inr (ke, rs))) => decide (kd = ke) && decide (rs.length = len) && (List.range len).all (fun j => decide ((g n.2 j).1 < 200) && decide (rs[j]? = some (some (yPos (g n.2 j).1 (g n.2 j).2))))
  | _, _ => false
theorem yW2_ck : zAll.all (yCk yW2) = true := by decide +kernel
theorem yPos_nd : (zAll.map (fun n => yPos n.1 n.2)).Nodup := by decide +kernel
theorem zAll_lt : zAll.all (fun n => decide (n.1 < 200)) = true := by decide +kernel
def yMu (ws : List yC) : zMu := fun f i k => match ws[yPos f i]? with
  | some (.inl (_, gs)) => match gs[k]? with
    | some (some (.inl x)) => x
    | _ => 0
  | some (.inr (.inl (_, vs))) => vs.getD k 0
  | _ => 0
