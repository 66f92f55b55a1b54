/-! DESK: table, feud, talk -/
theorem mulI {a b : Nat} : (nI a : Int32) * nI b = nI (a * b) := pk_mul a b
def okTb (x y : Int32) : Prop := (x = 0 ∨ x = 1) ∧ 2 ≤ y ∧ y ≤ 12
theorem okTb_of {x y : Int32} (h : okTb x y) : ∃ z, 2 ≤ z ∧ z ≤ 12 ∧ y = nI z := by
  obtain ⟨j, hj, rfl⟩ := nI_of2 (x := y) (M := 12) (n := 12) rfl (by have := h.2.1; grind) h.2.2
  exact ⟨j, (nI_leI (a := 2) (by omega) (by omega)).mp h.2.1, hj, rfl⟩
def cTab (μ : zMu) (t : Nat) (x y : Int32) : zMu := zu (fun f i k => if f = 40 ∧ i = t ∧ k < 12 then -1 else (zu (zu μ 9 t 2 x) 9 t 0 y) f i k) 5 0 0 (nI (t + 1))
theorem c_De_table {d nt : Nat} {μ : zMu} {x y : Int32} {K : Option zV → zMu → Prop} (hn : μ 5 0 0 = nI nt) (h4 : nt ≤ 4) (h0 : ¬ okTb x y → K (some (zI (-2))) μ) (h1 : okTb x y → nt = 4 → K (some (zI (-4))) μ) (h2 : okTb x y → nt < 4 → K (some (zI (nI nt))) (cTab μ nt x y)) : Ct (d + 3) m_De_table [zR 0 0, zI x, zI y] μ K := by
  refine zmeet rfl (Nat.le_of_ble_eq_true rfl) (fun S => ?_)
  by_cases ho : okTb x y
  case neg =>
    have hk := h0 ho
    unfold okTb at ho
    repeat' (first
      | exact hk
      | (refine zs k_De_table rfl ?_; conv => whnf)
      | refine ⟨Nat.zero_lt_one, rfl, ?_⟩
      | refine ⟨rfl, ?_⟩
      | refine ⟨⟨Nat.zero_lt_one, rfl⟩, Nat.le_of_ble_eq_true rfl, ?_⟩
      | refine ⟨Nat.le_of_ble_eq_true rfl, Nat.le_of_ble_eq_true rfl, ?_⟩
      | refine ⟨(by first | exact Nat.zero_lt_one | assumption | omega), (by first | assumption | exact vp_in_nI (by omega) (by omega) | (unfold vp_in; decide)), ?_⟩
      | refine ⟨(by first | exact Nat.zero_lt_one | assumption | omega), rfl, ?_⟩
      | refine ⟨⟨(by first | exact Nat.zero_lt_one | assumption | omega), rfl⟩, Nat.le_of_ble_eq_true rfl, ?_⟩
      | refine ⟨(by first | exact Nat.zero_lt_one | assumption | omega), ?_⟩
      | refine ⟨Or.inl rfl, ?_⟩
      | refine ⟨Or.inr (Or.inl rfl), ?_⟩
      | refine ⟨Or.inr (Or.inr rfl), ?_⟩
      | refine ⟨Or.inr ⟨rfl, (by first | exact Or.inl rfl | exact Or.inr rfl | assumption)⟩, ?_⟩
      | refine ⟨fun h => absurd h (by decide), fun _ => ?_⟩
      | refine ⟨fun _ => ?_, fun h => absurd h (by decide)⟩
      | refine ⟨fun h => ?_, fun h => ?_⟩
      | exact absurd (by grind) ho
      | fail)
  obtain ⟨hx, y1, y2⟩ := id ho
  have hy1 : ¬ y < 2 := by grind
  rcases Nat.lt_or_ge nt 4 with h | h
  · have hk := h2 ho h
    have hlt : ¬ 4 ≤ μ 5 0 0 := by rw [hn]; exact nI_ge (b := 4) h (by omega)
    rcases hx with rfl | rfl
    · skip
      repeat' (first
        | refine br_f hy1 ?_
        | refine br_t y2 ?_
        | refine br_f hlt ?_
        | refine c_Ha_addTable h hn (Or.inl rfl) ?_
        | exact hk
        | (refine zs k_De_table rfl ?_; conv => whnf)
        | refine ⟨Nat.zero_lt_one, rfl, ?_⟩
        | refine ⟨rfl, ?_⟩
        | refine ⟨⟨Nat.zero_lt_one, rfl⟩, Nat.le_of_ble_eq_true rfl, ?_⟩
        | refine ⟨Nat.le_of_ble_eq_true rfl, Nat.le_of_ble_eq_true rfl, ?_⟩
        | refine ⟨(by first | exact Nat.zero_lt_one | assumption | omega), (by first | assumption | exact vp_in_nI (by omega) (by omega) | (unfold vp_in; decide)), ?_⟩
        | refine ⟨(by first | exact Nat.zero_lt_one | assumption | omega), rfl, ?_⟩
        | refine ⟨⟨(by first | exact Nat.zero_lt_one | assumption | omega), rfl⟩, Nat.le_of_ble_eq_true rfl, ?_⟩
        | refine ⟨(by first | exact Nat.zero_lt_one | assumption | omega), ?_⟩
        | refine ⟨Or.inl rfl, ?_⟩
        | refine ⟨Or.inr (Or.inl rfl), ?_⟩
        | refine ⟨Or.inr (Or.inr rfl), ?_⟩
        | refine ⟨Or.inr ⟨rfl, (by first | exact Or.inl rfl | exact Or.inr rfl | assumption)⟩, ?_⟩
        | refine ⟨fun h => absurd h (by decide), fun _ => ?_⟩
        | refine ⟨fun _ => ?_, fun h => absurd h (by decide)⟩
        | refine ⟨fun h => ?_, fun h => ?_⟩
        | fail)
    · skip
      repeat' (first
        | refine br_f hy1 ?_
        | refine br_t y2 ?_
        | refine br_f hlt ?_
        | refine c_Ha_addTable h hn (Or.inr rfl) ?_
        | exact hk
        | (refine zs k_De_table rfl ?_; conv => whnf)
        | refine ⟨Nat.zero_lt_one, rfl, ?_⟩
        | refine ⟨rfl, ?_⟩
        | refine ⟨⟨Nat.zero_lt_one, rfl⟩, Nat.le_of_ble_eq_true rfl, ?_⟩
        | refine ⟨Nat.le_of_ble_eq_true rfl, Nat.le_of_ble_eq_true rfl, ?_⟩
        | refine ⟨(by first | exact Nat.zero_lt_one | assumption | omega), (by first | assumption | exact vp_in_nI (by omega) (by omega) | (unfold vp_in; decide)), ?_⟩
        | refine ⟨(by first | exact Nat.zero_lt_one | assumption | omega), rfl, ?_⟩
        | refine ⟨⟨(by first | exact Nat.zero_lt_one | assumption | omega), rfl⟩, Nat.le_of_ble_eq_true rfl, ?_⟩
        | refine ⟨(by first | exact Nat.zero_lt_one | assumption | omega), ?_⟩
        | refine ⟨Or.inl rfl, ?_⟩
        | refine ⟨Or.inr (Or.inl rfl), ?_⟩
        | refine ⟨Or.inr (Or.inr rfl), ?_⟩
        | refine ⟨Or.inr ⟨rfl, (by first | exact Or.inl rfl | exact Or.inr rfl | assumption)⟩, ?_⟩
        | refine ⟨fun h => absurd h (by decide), fun _ => ?_⟩
        | refine ⟨fun _ => ?_, fun h => absurd h (by decide)⟩
        | refine ⟨fun h => ?_, fun h => ?_⟩
        | fail)
  · have hk := h1 ho (by omega)
    have hlt : 4 ≤ μ 5 0 0 := by rw [hn]; exact nI_le (a := 4) h (by omega)
    rcases hx with rfl | rfl
    · skip
      repeat' (first
        | refine br_f hy1 ?_
        | refine br_t y2 ?_
        | refine br_t hlt ?_
        | exact hk
        | (refine zs k_De_table rfl ?_; conv => whnf)
        | refine ⟨Nat.zero_lt_one, rfl, ?_⟩
        | refine ⟨rfl, ?_⟩
        | refine ⟨⟨Nat.zero_lt_one, rfl⟩, Nat.le_of_ble_eq_true rfl, ?_⟩
        | refine ⟨Nat.le_of_ble_eq_true rfl, Nat.le_of_ble_eq_true rfl, ?_⟩
        | refine ⟨(by first | exact Nat.zero_lt_one | assumption | omega), (by first | assumption | exact vp_in_nI (by omega) (by omega) | (unfold vp_in; decide)), ?_⟩
        | refine ⟨(by first | exact Nat.zero_lt_one | assumption | omega), rfl, ?_⟩
        | refine ⟨⟨(by first | exact Nat.zero_lt_one | assumption | omega), rfl⟩, Nat.le_of_ble_eq_true rfl, ?_⟩
        | refine ⟨(by first | exact Nat.zero_lt_one | assumption | omega), ?_⟩
        | refine ⟨Or.inl rfl, ?_⟩
        | refine ⟨Or.inr (Or.inl rfl), ?_⟩
        | refine ⟨Or.inr (Or.inr rfl), ?_⟩
        | refine ⟨Or.inr ⟨rfl, (by first | exact Or.inl rfl | exact Or.inr rfl | assumption)⟩, ?_⟩
        | refine ⟨fun h => absurd h (by decide), fun _ => ?_⟩
        | refine ⟨fun _ => ?_, fun h => absurd h (by decide)⟩
        | refine ⟨fun h => ?_, fun h => ?_⟩
        | fail)
    · skip
      repeat' (first
        | refine br_f hy1 ?_
        | refine br_t y2 ?_
        | refine br_t hlt ?_
        | exact hk
        | (refine zs k_De_table rfl ?_; conv => whnf)
        | refine ⟨Nat.zero_lt_one, rfl, ?_⟩
        | refine ⟨rfl, ?_⟩
        | refine ⟨⟨Nat.zero_lt_one, rfl⟩, Nat.le_of_ble_eq_true rfl, ?_⟩
        | refine ⟨Nat.le_of_ble_eq_true rfl, Nat.le_of_ble_eq_true rfl, ?_⟩
        | refine ⟨(by first | exact Nat.zero_lt_one | assumption | omega), (by first | assumption | exact vp_in_nI (by omega) (by omega) | (unfold vp_in; decide)), ?_⟩
        | refine ⟨(by first | exact Nat.zero_lt_one | assumption | omega), rfl, ?_⟩
        | refine ⟨⟨(by first | exact Nat.zero_lt_one | assumption | omega), rfl⟩, Nat.le_of_ble_eq_true rfl, ?_⟩
        | refine ⟨(by first | exact Nat.zero_lt_one | assumption | omega), ?_⟩
        | refine ⟨Or.inl rfl, ?_⟩
        | refine ⟨Or.inr (Or.inl rfl), ?_⟩
        | refine ⟨Or.inr (Or.inr rfl), ?_⟩
        | refine ⟨Or.inr ⟨rfl, (by first | exact Or.inl rfl | exact Or.inr rfl | assumption)⟩, ?_⟩
        | refine ⟨fun h => absurd h (by decide), fun _ => ?_⟩
        | refine ⟨fun _ => ?_, fun h => absurd h (by decide)⟩
        | refine ⟨fun h => ?_, fun h => ?_⟩
        | fail)
def mTab (μ : zMu) (t : Nat) (x y : Int32) : zMu := fun f a b => if f = 48 ∧ a = 0 ∧ b = 42 then nI (t + 1) else if f = 95 ∧ a = 0 ∧ 12 * t ≤ b ∧ b < 12 * t + 12 then -1 else zu (zu μ 93 0 t x) 94 0 t y f a b
set_option maxHeartbeats 1000000 in
theorem c_Mo_table {d nt : Nat} {μ : zMu} {x y : Int32} {K : Option zV → zMu → Prop} (hn : μ 48 0 42 = nI nt) (h4 : nt ≤ 4) (h0 : ¬ okTb x y → K (some (zI (-2))) μ) (h1 : okTb x y → nt = 4 → K (some (zI (-4))) μ) (h2 : okTb x y → nt < 4 → K (some (zI (nI nt))) (mTab μ nt x y)) : Ct (d + 1) m_Mo_table [zR 48 0, zI x, zI y] μ K := by
  refine zmeet rfl (Nat.le_of_ble_eq_true rfl) (fun S => ?_)
  by_cases ho : okTb x y
  case neg =>
    have hk := h0 ho
    repeat' (first
      | refine c_Mo_isIn (lo := 0) (hi := 1) rfl rfl (fun hb => ?_) (fun hb => ?_)
      | refine c_Mo_isIn (lo := 2) (hi := 12) rfl rfl (fun hc => absurd ⟨i01.mp hb, hc⟩ ho) (fun hc => ?_)
      | exact hk
      | (refine zs k_Mo_table rfl ?_; conv => whnf)
      | refine ⟨Nat.zero_lt_one, rfl, ?_⟩
      | refine ⟨rfl, ?_⟩
      | refine ⟨⟨Nat.zero_lt_one, rfl⟩, Nat.le_of_ble_eq_true rfl, ?_⟩
      | refine ⟨Nat.le_of_ble_eq_true rfl, Nat.le_of_ble_eq_true rfl, ?_⟩
      | refine ⟨(by first | exact Nat.zero_lt_one | assumption | omega), (by first | assumption | exact vp_in_nI (by omega) (by omega) | (unfold vp_in; decide)), ?_⟩
      | refine ⟨(by first | exact Nat.zero_lt_one | assumption | omega), rfl, ?_⟩
      | refine ⟨⟨(by first | exact Nat.zero_lt_one | assumption | omega), rfl⟩, Nat.le_of_ble_eq_true rfl, ?_⟩
      | refine ⟨(by first | exact Nat.zero_lt_one | assumption | omega), ?_⟩
      | refine ⟨Or.inl rfl, ?_⟩
      | refine ⟨Or.inr (Or.inl rfl), ?_⟩
      | refine ⟨Or.inr (Or.inr rfl), ?_⟩
      | refine ⟨Or.inr ⟨rfl, (by first | exact Or.inl rfl | exact Or.inr rfl | assumption)⟩, ?_⟩
      | refine ⟨fun h => absurd h (by decide), fun _ => ?_⟩
      | refine ⟨fun _ => ?_, fun h => absurd h (by decide)⟩
      | refine ⟨fun h => ?_, fun h => ?_⟩
      | fail)
  have hx := i01.mpr ho.1
  have hy := ho.2
  rcases Nat.lt_or_ge nt 4 with h | h
  · have hk := h2 ho h
    have hne : ¬ μ 48 0 42 = 4 := by rw [hn]; exact fun e => absurd ((nI_eq (b := 4) (by omega) (by omega)).mp e) (by omega)
    have hv : vp_in (μ 48 0 42) 4 := by rw [hn]; exact vp_in_nI h (by omega)
    have hcl : (μ 48 0 42).toNatClampNeg = nt := by rw [hn]; exact nI_clamp (by omega)
    have hm : (12 : Int32) * μ 48 0 42 = nI (12 * nt) := by rw [hn]; exact pk_mul 12 nt
    obtain ⟨ν, hν⟩ : ∃ ν, ν = zu (zu μ 93 0 nt x) 94 0 nt y := ⟨_, rfl⟩
    have n48 : ν 48 0 42 = nI nt := by rw [hν]; exact hn
    have L : ∀ (k i : Nat) (v : Int32) (μ1 : zMu), i + k = 12 → v = nI (12 * nt + i) → μ1 = (fun f a b => if f = 95 ∧ a = 0 ∧ 12 * nt ≤ b ∧ b < 12 * nt + i then -1 else ν f a b) → zG S (d + 1) m_Mo_table K 75 [some (zR 48 0), some (zI x), some (zI y), some (zI v)] [] μ1 := by
      intro k
      induction k with
      | zero =>
        intro i v μ1 hi hv h1
        obtain rfl : i = 12 := by omega
        subst hv
        have e48 : μ1 48 0 42 = nI nt := by rw [h1]; exact n48
        have hle : (12 : Int32) * μ1 48 0 42 + 12 ≤ nI (12 * nt + 12) := by
          rw [e48, show (12 : Int32) * nI nt = nI (12 * nt) from pk_mul 12 nt, show nI (12 * nt) + 12 = nI (12 * nt + 12) from nI_add _ 12]
          exact nI_le (Nat.le_refl _) (by omega)
        refine zs k_Mo_table rfl ?_; conv => whnf
        repeat' (first
          | refine br_t hle ?_
          | refine zKe hk ?_ ?_
          | (refine zs k_Mo_table rfl ?_; conv => whnf)
          | refine ⟨Nat.zero_lt_one, rfl, ?_⟩
          | refine ⟨rfl, ?_⟩
          | refine ⟨⟨Nat.zero_lt_one, rfl⟩, Nat.le_of_ble_eq_true rfl, ?_⟩
          | refine ⟨Nat.le_of_ble_eq_true rfl, Nat.le_of_ble_eq_true rfl, ?_⟩
          | refine ⟨(by first | exact Nat.zero_lt_one | assumption | omega), (by first | assumption | exact vp_in_nI (by omega) (by omega) | (unfold vp_in; decide)), ?_⟩
          | refine ⟨(by first | exact Nat.zero_lt_one | assumption | omega), rfl, ?_⟩
          | refine ⟨⟨(by first | exact Nat.zero_lt_one | assumption | omega), rfl⟩, Nat.le_of_ble_eq_true rfl, ?_⟩
          | refine ⟨(by first | exact Nat.zero_lt_one | assumption | omega), ?_⟩
          | refine ⟨Or.inl rfl, ?_⟩
          | refine ⟨Or.inr (Or.inl rfl), ?_⟩
          | refine ⟨Or.inr (Or.inr rfl), ?_⟩
          | refine ⟨Or.inr ⟨rfl, (by first | exact Or.inl rfl | exact Or.inr rfl | assumption)⟩, ?_⟩
          | refine ⟨fun h => absurd h (by decide), fun _ => ?_⟩
          | refine ⟨fun _ => ?_, fun h => absurd h (by decide)⟩
          | refine ⟨fun h => ?_, fun h => ?_⟩
          | fail)
        · show μ1 48 0 42 + 1 - 1 = _
          rw [e48, nI_1, nI_pred]
        · rw [e48, nI_1, h1, hν]
          funext f a b
          simp only [zu, mTab]
          by_cases q : f = 48 ∧ a = 0 ∧ b = 42
          · rw [if_pos ⟨q.1, q.2.2, q.2.1⟩, if_pos q]
          · rw [if_neg (fun z => q ⟨z.1, z.2.2, z.2.1⟩), if_neg q]
      | succ k ih =>
        intro i v μ1 hi hv h1
        subst hv
        have e48 : μ1 48 0 42 = nI nt := by rw [h1]; exact n48
        have hle : ¬ (12 : Int32) * μ1 48 0 42 + 12 ≤ nI (12 * nt + i) := by
          rw [e48, show (12 : Int32) * nI nt = nI (12 * nt) from pk_mul 12 nt, show nI (12 * nt) + 12 = nI (12 * nt + 12) from nI_add _ 12]
          exact nI_ge (by omega) (by omega)
        refine zs k_Mo_table rfl ?_; conv => whnf
        repeat' (first
          | refine br_f hle ?_
          | refine ih (i + 1) _ _ (by omega) (by exact nI_1 _) ?_
          | (refine zs k_Mo_table rfl ?_; conv => whnf)
          | refine ⟨Nat.zero_lt_one, rfl, ?_⟩
          | refine ⟨rfl, ?_⟩
          | refine ⟨⟨Nat.zero_lt_one, rfl⟩, Nat.le_of_ble_eq_true rfl, ?_⟩
          | refine ⟨Nat.le_of_ble_eq_true rfl, Nat.le_of_ble_eq_true rfl, ?_⟩
          | refine ⟨(by first | exact Nat.zero_lt_one | assumption | omega), (by first | assumption | exact vp_in_nI (by omega) (by omega) | (unfold vp_in; decide)), ?_⟩
          | refine ⟨(by first | exact Nat.zero_lt_one | assumption | omega), rfl, ?_⟩
          | refine ⟨⟨(by first | exact Nat.zero_lt_one | assumption | omega), rfl⟩, Nat.le_of_ble_eq_true rfl, ?_⟩
          | refine ⟨(by first | exact Nat.zero_lt_one | assumption | omega), ?_⟩
          | refine ⟨Or.inl rfl, ?_⟩
          | refine ⟨Or.inr (Or.inl rfl), ?_⟩
          | refine ⟨Or.inr (Or.inr rfl), ?_⟩
          | refine ⟨Or.inr ⟨rfl, (by first | exact Or.inl rfl | exact Or.inr rfl | assumption)⟩, ?_⟩
          | refine ⟨fun h => absurd h (by decide), fun _ => ?_⟩
          | refine ⟨fun _ => ?_, fun h => absurd h (by decide)⟩
          | refine ⟨fun h => ?_, fun h => ?_⟩
          | fail)
        rw [nI_clamp (show 12 * nt + i < 2 ^ 31 by omega), h1]
        funext f a b
        simp only [zu]
        by_cases q : f = 95 ∧ b = 12 * nt + i ∧ a = 0
        · rw [if_pos q, if_pos (by omega)]
        · rw [if_neg q]
          by_cases q2 : f = 95 ∧ a = 0 ∧ 12 * nt ≤ b ∧ b < 12 * nt + i
          · rw [if_pos q2, if_pos (by omega)]
          · rw [if_neg q2, if_neg (by omega)]
    rcases ho.1 with rfl | rfl
    · skip
      repeat' (first
        | refine c_Mo_isIn (lo := 0) (hi := 1) rfl rfl (fun hb => ?_) (fun hb => absurd hx hb)
        | refine c_Mo_isIn (lo := 2) (hi := 12) rfl rfl (fun hc => ?_) (fun hc => absurd hy hc)
        | refine bn_t hne ?_
        | refine L 12 0 _ _ (by omega) (by exact hm) ?_
        | (refine zs k_Mo_table rfl ?_; conv => whnf)
        | refine ⟨Nat.zero_lt_one, rfl, ?_⟩
        | refine ⟨rfl, ?_⟩
        | refine ⟨⟨Nat.zero_lt_one, rfl⟩, Nat.le_of_ble_eq_true rfl, ?_⟩
        | refine ⟨Nat.le_of_ble_eq_true rfl, Nat.le_of_ble_eq_true rfl, ?_⟩
        | refine ⟨(by first | exact Nat.zero_lt_one | assumption | omega), (by first | assumption | exact vp_in_nI (by omega) (by omega) | (unfold vp_in; decide)), ?_⟩
        | refine ⟨(by first | exact Nat.zero_lt_one | assumption | omega), rfl, ?_⟩
        | refine ⟨⟨(by first | exact Nat.zero_lt_one | assumption | omega), rfl⟩, Nat.le_of_ble_eq_true rfl, ?_⟩
        | refine ⟨(by first | exact Nat.zero_lt_one | assumption | omega), ?_⟩
        | refine ⟨Or.inl rfl, ?_⟩
        | refine ⟨Or.inr (Or.inl rfl), ?_⟩
        | refine ⟨Or.inr (Or.inr rfl), ?_⟩
        | refine ⟨Or.inr ⟨rfl, (by first | exact Or.inl rfl | exact Or.inr rfl | assumption)⟩, ?_⟩
        | refine ⟨fun h => absurd h (by decide), fun _ => ?_⟩
        | refine ⟨fun _ => ?_, fun h => absurd h (by decide)⟩
        | refine ⟨fun h => ?_, fun h => ?_⟩
        | fail)
      show zu (zu μ 93 0 (μ 48 0 42).toNatClampNeg 0) 94 0 (μ 48 0 42).toNatClampNeg y = _
      rw [hν, hcl]
      funext f a b
      rw [if_neg (by omega)]
    · skip
      repeat' (first
        | refine c_Mo_isIn (lo := 0) (hi := 1) rfl rfl (fun hb => ?_) (fun hb => absurd hx hb)
        | refine c_Mo_isIn (lo := 2) (hi := 12) rfl rfl (fun hc => ?_) (fun hc => absurd hy hc)
        | refine bn_t hne ?_
        | refine L 12 0 _ _ (by omega) (by exact hm) ?_
        | (refine zs k_Mo_table rfl ?_; conv => whnf)
        | refine ⟨Nat.zero_lt_one, rfl, ?_⟩
        | refine ⟨rfl, ?_⟩
        | refine ⟨⟨Nat.zero_lt_one, rfl⟩, Nat.le_of_ble_eq_true rfl, ?_⟩
        | refine ⟨Nat.le_of_ble_eq_true rfl, Nat.le_of_ble_eq_true rfl, ?_⟩
        | refine ⟨(by first | exact Nat.zero_lt_one | assumption | omega), (by first | assumption | exact vp_in_nI (by omega) (by omega) | (unfold vp_in; decide)), ?_⟩
        | refine ⟨(by first | exact Nat.zero_lt_one | assumption | omega), rfl, ?_⟩
        | refine ⟨⟨(by first | exact Nat.zero_lt_one | assumption | omega), rfl⟩, Nat.le_of_ble_eq_true rfl, ?_⟩
        | refine ⟨(by first | exact Nat.zero_lt_one | assumption | omega), ?_⟩
        | refine ⟨Or.inl rfl, ?_⟩
        | refine ⟨Or.inr (Or.inl rfl), ?_⟩
        | refine ⟨Or.inr (Or.inr rfl), ?_⟩
        | refine ⟨Or.inr ⟨rfl, (by first | exact Or.inl rfl | exact Or.inr rfl | assumption)⟩, ?_⟩
        | refine ⟨fun h => absurd h (by decide), fun _ => ?_⟩
        | refine ⟨fun _ => ?_, fun h => absurd h (by decide)⟩
        | refine ⟨fun h => ?_, fun h => ?_⟩
        | fail)
      show zu (zu μ 93 0 (μ 48 0 42).toNatClampNeg 1) 94 0 (μ 48 0 42).toNatClampNeg y = _
      rw [hν, hcl]
      funext f a b
      rw [if_neg (by omega)]
  · have hk := h1 ho (by omega)
    have hne : μ 48 0 42 = 4 := by rw [hn, show nt = 4 by omega]; rfl
    repeat' (first
      | refine c_Mo_isIn (lo := 0) (hi := 1) rfl rfl (fun hb => ?_) (fun hb => absurd hx hb)
      | refine c_Mo_isIn (lo := 2) (hi := 12) rfl rfl (fun hc => ?_) (fun hc => absurd hy hc)
      | refine bn_f hne ?_
      | exact hk
      | (refine zs k_Mo_table rfl ?_; conv => whnf)
      | refine ⟨Nat.zero_lt_one, rfl, ?_⟩
      | refine ⟨rfl, ?_⟩
      | refine ⟨⟨Nat.zero_lt_one, rfl⟩, Nat.le_of_ble_eq_true rfl, ?_⟩
      | refine ⟨Nat.le_of_ble_eq_true rfl, Nat.le_of_ble_eq_true rfl, ?_⟩
      | refine ⟨(by first | exact Nat.zero_lt_one | assumption | omega), (by first | assumption | exact vp_in_nI (by omega) (by omega) | (unfold vp_in; decide)), ?_⟩
      | refine ⟨(by first | exact Nat.zero_lt_one | assumption | omega), rfl, ?_⟩
      | refine ⟨⟨(by first | exact Nat.zero_lt_one | assumption | omega), rfl⟩, Nat.le_of_ble_eq_true rfl, ?_⟩
      | refine ⟨(by first | exact Nat.zero_lt_one | assumption | omega), ?_⟩
      | refine ⟨Or.inl rfl, ?_⟩
      | refine ⟨Or.inr (Or.inl rfl), ?_⟩
      | refine ⟨Or.inr (Or.inr rfl), ?_⟩
      | refine ⟨Or.inr ⟨rfl, (by first | exact Or.inl rfl | exact Or.inr rfl | assumption)⟩, ?_⟩
      | refine ⟨fun h => absurd h (by decide), fun _ => ?_⟩
      | refine ⟨fun _ => ?_, fun h => absurd h (by decide)⟩
      | refine ⟨fun h => ?_, fun h => ?_⟩
      | fail)
theorem b_table {μ : zMu} {x y : Int32} (h : Rel μ) : Both m_De_table m_Mo_table [zI x, zI y] μ := by
  intro d K hK
  obtain ⟨ns, n, nr, nh, nt, nb, L, g1, g2, g3, g4, g5, g6, g7, g8, g9, g10, g11⟩ := id h
  have h4 := g6.2.2.1
  refine c_De_table g6.1 h4 (fun a => hK _ _ (fun d K2 hK2 => ?_)) (fun a b => hK _ _ (fun d K2 hK2 => ?_)) (fun a b => hK _ _ (fun d K2 hK2 => ?_))
  · exact c_Mo_table g6.2.1 h4 (fun _ => hK2 _ h) (fun q => absurd q a) (fun q => absurd q a)
  · exact c_Mo_table g6.2.1 h4 (fun q => absurd a q) (fun _ _ => hK2 _ h) (fun _ q => absurd q (by omega))
  · refine c_Mo_table (nt := nt) g6.2.1 h4 (fun q => absurd a q) (fun _ q => absurd q (by omega)) (fun _ _ => hK2 _ ?_)
    obtain ⟨z, z1, z2, rfl⟩ := okTb_of a
    have e0 : ∀ f, f ≠ 5 → f ≠ 9 → f ≠ 40 → f ≠ 48 → f ≠ 93 → f ≠ 94 → f ≠ 95 → mTab (cTab μ nt x (nI z)) nt x (nI z) f = μ f := fun f q1 q2 q3 q4 q5 q6 q7 => by
      funext a b
      unfold mTab cTab
      rw [if_neg (fun z => q4 z.1), if_neg (fun z => q7 z.1), zu_ne (fun z => q6 z.1), zu_ne (fun z => q5 z.1), zu_ne (fun z => q1 z.1), if_neg (fun z => q3 z.1), zu_ne (fun z => q2 z.1), zu_ne (fun z => q2 z.1)]
    have e48 : ∀ k, k ≠ 42 → mTab (cTab μ nt x (nI z)) nt x (nI z) 48 0 k = μ 48 0 k := fun k hk => by
      unfold mTab cTab
      rw [if_neg (by omega), if_neg (by omega), zu_ne (by omega), zu_ne (by omega), zu_ne (by omega), if_neg (by omega), zu_ne (by omega), zu_ne (by omega)]
    have e9 : ∀ t, t ≠ nt → ∀ k, mTab (cTab μ nt x (nI z)) nt x (nI z) 9 t k = μ 9 t k := fun t ht k => by
      unfold mTab cTab
      rw [if_neg (by omega), if_neg (by omega), zu_ne (by omega), zu_ne (by omega), zu_ne (by omega), if_neg (by omega), zu_ne (by omega), zu_ne (by omega)]
    have e90 : mTab (cTab μ nt x (nI z)) nt x (nI z) 9 nt 0 = nI z := by
      unfold mTab cTab
      rw [if_neg (by omega), if_neg (by omega), zu_ne (by omega), zu_ne (by omega), zu_ne (by omega), if_neg (by omega), zu_eq]
    have e92 : mTab (cTab μ nt x (nI z)) nt x (nI z) 9 nt 2 = x := by
      unfold mTab cTab
      rw [if_neg (by omega), if_neg (by omega), zu_ne (by omega), zu_ne (by omega), zu_ne (by omega), if_neg (by omega), zu_ne (by omega), zu_eq]
    have e93 : ∀ t, mTab (cTab μ nt x (nI z)) nt x (nI z) 93 0 t = if t = nt then x else μ 93 0 t := fun t => by
      unfold mTab cTab
      rw [if_neg (by omega), if_neg (by omega), zu_ne (by omega)]
      by_cases e : t = nt
      · rw [if_pos e, e, zu_eq]
      · rw [if_neg e, zu_ne (by omega), zu_ne (by omega), if_neg (by omega), zu_ne (by omega), zu_ne (by omega)]
    have e94 : ∀ t, mTab (cTab μ nt x (nI z)) nt x (nI z) 94 0 t = if t = nt then nI z else μ 94 0 t := fun t => by
      unfold mTab cTab
      rw [if_neg (by omega), if_neg (by omega)]
      by_cases e : t = nt
      · rw [if_pos e, e, zu_eq]
      · rw [if_neg e, zu_ne (by omega), zu_ne (by omega), zu_ne (by omega), if_neg (by omega), zu_ne (by omega), zu_ne (by omega)]
    have e95 : ∀ k, mTab (cTab μ nt x (nI z)) nt x (nI z) 95 0 k = if 12 * nt ≤ k ∧ k < 12 * nt + 12 then -1 else μ 95 0 k := fun k => by
      unfold mTab cTab
      rw [if_neg (by omega)]
      by_cases e : 12 * nt ≤ k ∧ k < 12 * nt + 12
      · rw [if_pos e, if_pos ⟨rfl, rfl, e⟩]
      · rw [if_neg e, if_neg (by omega), zu_ne (by omega), zu_ne (by omega), zu_ne (by omega), if_neg (by omega), zu_ne (by omega), zu_ne (by omega)]
    have e40 : ∀ t k, mTab (cTab μ nt x (nI z)) nt x (nI z) 40 t k = if t = nt ∧ k < 12 then -1 else μ 40 t k := fun t k => by
      unfold mTab cTab
      rw [if_neg (by omega), if_neg (by omega), zu_ne (by omega), zu_ne (by omega), zu_ne (by omega)]
      by_cases e : t = nt ∧ k < 12
      · rw [if_pos e, if_pos ⟨rfl, e⟩]
      · rw [if_neg e, if_neg (by omega), zu_ne (by omega), zu_ne (by omega)]
    have e5 : mTab (cTab μ nt x (nI z)) nt x (nI z) 5 0 0 = nI (nt + 1) := by
      unfold mTab cTab
      rw [if_neg (by omega), if_neg (by omega), zu_ne (by omega), zu_ne (by omega), zu_eq]
    have e482 : mTab (cTab μ nt x (nI z)) nt x (nI z) 48 0 42 = nI (nt + 1) := by
      unfold mTab
      rw [if_pos ⟨rfl, rfl, rfl⟩]
    generalize mTab (cTab μ nt x (nI z)) nt x (nI z) = M at *
    have ef : ∀ l : List Nat, l.all (fun f => !([5, 9, 40, 48, 93, 94, 95] : List Nat).contains f) = true → ∀ f, f ∈ l → M f = μ f := fun l hl f hf => by
      have := List.all_eq_true.mp hl f hf
      simp at this
      exact e0 f this.1 this.2.1 this.2.2.1 this.2.2.2.1 this.2.2.2.2.1 this.2.2.2.2.2.1 this.2.2.2.2.2.2
    refine ⟨ns, n, nr, nh, nt + 1, nb, L, gSt_fr (ef _ rfl) (e48 0 (by omega)) g1, gPe_fr (ef _ rfl) (e48 5 (by omega)) g2, gTp_fr (ef _ rfl) (by rw [ef [2] rfl 2 (by simp)]) (e48 14 (by omega)) g3, gRu_fr (ef _ rfl) (e48 15 (by omega)) g4, gHd_fr (ef _ rfl) (e48 33 (by omega)) g5, ⟨e5, e482, by omega, fun t ht => ?_⟩, gFe_fr (ef _ rfl) g7, gCo_fr (ef _ rfl) g8, gVs_fr (ef _ rfl) (e48 48 (by omega)) g9, gWi_fr (ef [7] rfl 7 (by simp)) (e48 52 (by omega)) g10, gCs_fr (ef _ rfl) g11⟩
    by_cases e : t = nt
    · subst e
      have f40 : ∀ k, k < 12 → M 40 t k = -1 := fun k hk => by rw [e40, if_pos ⟨rfl, hk⟩]
      refine ⟨?_, ?_, ⟨z, z1, z2, e90, ?_, fun k _ hk => f40 k hk⟩, fun k hk => ?_, fun k hk => Or.inl (f40 k hk), fun j k hj hk _ => f40 j (by omega)⟩
      · rw [e92]
        exact a.1
      · rw [e93, if_pos rfl, e92]
      · rw [e94, if_pos rfl]
      · rw [e95, if_pos (by omega), f40 k hk]
    · obtain ⟨a1, a2, ⟨z', c1, c2, c3, c4, c5⟩, a4, a5, a6⟩ := g6.2.2.2 t (by omega)
      have f40 : ∀ k, M 40 t k = μ 40 t k := fun k => by rw [e40, if_neg (by omega)]
      unfold gT1
      rw [e9 t e, e9 t e, e93, if_neg e, e94, if_neg e, ef [10] rfl 10 (by simp)]
      refine ⟨a1, a2, ⟨z', c1, c2, c3, c4, fun k h1 h2 => ?_⟩, fun k hk => ?_, fun k hk => ?_, fun j k hj hk => ?_⟩
      · rw [f40]
        exact c5 k h1 h2
      · rw [f40, e95, if_neg (by omega)]
        exact a4 k hk
      · rw [f40]
        exact a5 k hk
      · rw [f40, f40]
        exact a6 j k hj hk
