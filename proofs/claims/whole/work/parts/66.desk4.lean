/-! DESK: about, count, dean, paper -/
def cAbt (μ : zMu) (p : Nat) (y : Int32) : Int32 := if y.toInt = 0 then μ 17 p 4 else if y.toInt = 1 then μ 17 p 0 else if y.toInt = 2 then μ 17 p 1 else if y.toInt = 3 then μ 17 p 2 else if y.toInt = 4 then μ 17 p 3 else if y.toInt = 5 then μ 17 p 5 else if y.toInt = 6 then μ 17 p 6 else if y.toInt = 7 then μ 10 0 p else if y.toInt = 8 then μ 11 0 p else -1
theorem c_De_about {d n : Nat} {μ : zMu} {x y : Int32} {K : Option zV → zMu → Prop} (hn : μ 1 0 1 = nI n) (h20 : n ≤ 20) (h0 : ¬ (0 ≤ x ∧ x < nI n) → K (some (zI (-1))) μ) (h1 : ∀ p, p < n → x = nI p → K (some (zI (cAbt μ p y))) μ) : Ct (d + 1) m_De_about [zR 0 0, zI x, zI y] μ K := by
  refine zmeet rfl (Nat.le_of_ble_eq_true rfl) (fun S => ?_)
  rcases zIx x (n := n) (by omega) with ⟨p, hp, rfl⟩ | hx
  · have hk := h1 p hp rfl
    have hy := zIx_y hp (by omega)
    have hc : (nI p).toNatClampNeg = p := nI_clamp (by omega)
    unfold cAbt at hk
    repeat' (first
      | refine c_Ro_hasPerson (fun _ _ => ?_) (fun h => absurd (by rw [hn]; exact hy) h)
      | exact zKe hk (by simp [*]) rfl
      | refine zs k_De_about rfl ?_
      | refine ⟨Nat.zero_lt_one, rfl, ?_⟩
      | refine ⟨rfl, ?_⟩
      | refine ⟨⟨Nat.zero_lt_one, rfl⟩, Nat.le_of_ble_eq_true rfl, ?_⟩
      | refine ⟨Nat.le_of_ble_eq_true rfl, Nat.le_of_ble_eq_true rfl, ?_⟩
      | refine ⟨(by first | exact Nat.zero_lt_one | assumption | omega), (by first | assumption | exact vp_in_nI (by omega) (by omega) | (unfold vp_in; decide)), ?_⟩
      | refine ⟨(by first | exact Nat.zero_lt_one | assumption | omega), rfl, ?_⟩
      | refine ⟨⟨(by first | exact Nat.zero_lt_one | assumption | omega), rfl⟩, Nat.le_of_ble_eq_true rfl, ?_⟩
      | refine ⟨(by first | exact Nat.zero_lt_one | assumption | omega), ?_⟩
      | refine ⟨Or.inl rfl, ?_⟩
      | refine ⟨Or.inr (Or.inl rfl), ?_⟩
      | refine ⟨Or.inr (Or.inr rfl), ?_⟩
      | refine ⟨Or.inr ⟨rfl, (by first | exact Or.inl rfl | exact Or.inr rfl | assumption)⟩, ?_⟩
      | refine ⟨fun h => absurd h (by decide), fun _ => ?_⟩
      | refine ⟨fun _ => ?_, fun h => absurd h (by decide)⟩
      | refine ⟨fun h => ?_, fun h => ?_⟩
      | fail)
  · have hk := h0 hx
    repeat' (first
      | refine c_Ro_hasPerson (fun h h' => absurd (by rw [← hn]; exact ⟨h, h'⟩) hx) (fun _ => ?_)
      | exact hk
      | refine zs k_De_about rfl ?_
      | refine ⟨Nat.zero_lt_one, rfl, ?_⟩
      | refine ⟨rfl, ?_⟩
      | refine ⟨⟨Nat.zero_lt_one, rfl⟩, Nat.le_of_ble_eq_true rfl, ?_⟩
      | refine ⟨Nat.le_of_ble_eq_true rfl, Nat.le_of_ble_eq_true rfl, ?_⟩
      | refine ⟨(by first | exact Nat.zero_lt_one | assumption | omega), (by first | assumption | exact vp_in_nI (by omega) (by omega) | (unfold vp_in; decide)), ?_⟩
      | refine ⟨(by first | exact Nat.zero_lt_one | assumption | omega), rfl, ?_⟩
      | refine ⟨⟨(by first | exact Nat.zero_lt_one | assumption | omega), rfl⟩, Nat.le_of_ble_eq_true rfl, ?_⟩
      | refine ⟨(by first | exact Nat.zero_lt_one | assumption | omega), ?_⟩
      | refine ⟨Or.inl rfl, ?_⟩
      | refine ⟨Or.inr (Or.inl rfl), ?_⟩
      | refine ⟨Or.inr (Or.inr rfl), ?_⟩
      | refine ⟨Or.inr ⟨rfl, (by first | exact Or.inl rfl | exact Or.inr rfl | assumption)⟩, ?_⟩
      | refine ⟨fun h => absurd h (by decide), fun _ => ?_⟩
      | refine ⟨fun _ => ?_, fun h => absurd h (by decide)⟩
      | refine ⟨fun h => ?_, fun h => ?_⟩
      | fail)
theorem c_Mo_about {d ns n : Nat} {μ : zMu} {x y : Int32} {K : Option zV → zMu → Prop} (g1 : gSt μ ns) (g : gPe μ ns n) (h0 : ¬ (0 ≤ x ∧ x < nI n) → K (some (zI (-1))) μ) (h1 : ∀ p, p < n → x = nI p → K (some (zI (cAbt μ p y))) μ) : Ct (d + 2) m_Mo_about [zR 48 0, zI x, zI y] μ K := by
  refine zmeet rfl (Nat.le_of_ble_eq_true rfl) (fun S => ?_)
  have hn := g.2.1
  have h20 := g.2.2.1
  rcases zIx x (n := n) (by omega) with ⟨p, hp, rfl⟩ | hx
  · have hk := h1 p hp rfl
    have hy := zIx_y hp (by omega)
    have hc : (nI p).toNatClampNeg = p := nI_clamp (by omega)
    obtain ⟨a1, a2, a3, a4, a5, a6, a7, a8, a9, -⟩ := g.2.2.2 p hp
    have a1' : μ 62 0 (nI p).toNatClampNeg = μ 10 0 p := by rw [hc]; exact a1
    have a3' : μ 61 0 (nI p).toNatClampNeg = μ 11 0 p := by rw [hc]; exact a3
    have a7' : μ 59 0 (nI p).toNatClampNeg = μ 17 p 3 := by rw [hc]; exact a7
    have a8' : μ 57 0 (nI p).toNatClampNeg = μ 17 p 4 := by rw [hc]; exact a8
    have a9' : μ 56 0 (nI p).toNatClampNeg = μ 17 p 5 := by rw [hc]; exact a9
    unfold cAbt at hk
    repeat' (first
      | refine c_Mo_isPerson (fun _ => ?_) (fun h => absurd (by rw [hn]; exact hy) h)
      | refine c_Mo_field (f := 0) g1 g hp (by omega) rfl rfl ?_
      | refine c_Mo_field (f := 1) g1 g hp (by omega) rfl rfl ?_
      | refine c_Mo_field (f := 2) g1 g hp (by omega) rfl rfl ?_
      | refine c_Mo_field (f := 6) g1 g hp (by omega) rfl rfl ?_
      | exact zKe hk (by simp [a3', a7', a8', a9', *] <;> grind) rfl
      | refine zs k_Mo_about rfl ?_
      | refine ⟨Nat.zero_lt_one, rfl, ?_⟩
      | refine ⟨rfl, ?_⟩
      | refine ⟨⟨Nat.zero_lt_one, rfl⟩, Nat.le_of_ble_eq_true rfl, ?_⟩
      | refine ⟨Nat.le_of_ble_eq_true rfl, Nat.le_of_ble_eq_true rfl, ?_⟩
      | refine ⟨(by first | exact Nat.zero_lt_one | assumption | omega), (by first | assumption | exact vp_in_nI (by omega) (by omega) | (unfold vp_in; decide)), ?_⟩
      | refine ⟨(by first | exact Nat.zero_lt_one | assumption | omega), rfl, ?_⟩
      | refine ⟨⟨(by first | exact Nat.zero_lt_one | assumption | omega), rfl⟩, Nat.le_of_ble_eq_true rfl, ?_⟩
      | refine ⟨(by first | exact Nat.zero_lt_one | assumption | omega), ?_⟩
      | refine ⟨Or.inl rfl, ?_⟩
      | refine ⟨Or.inr (Or.inl rfl), ?_⟩
      | refine ⟨Or.inr (Or.inr rfl), ?_⟩
      | refine ⟨Or.inr ⟨rfl, (by first | exact Or.inl rfl | exact Or.inr rfl | assumption)⟩, ?_⟩
      | refine ⟨fun h => absurd h (by decide), fun _ => ?_⟩
      | refine ⟨fun _ => ?_, fun h => absurd h (by decide)⟩
      | refine ⟨fun h => ?_, fun h => ?_⟩
      | fail)
  · have hk := h0 hx
    repeat' (first
      | refine c_Mo_isPerson (fun h => absurd (by rw [← hn]; exact h) hx) (fun _ => ?_)
      | exact hk
      | refine zs k_Mo_about rfl ?_
      | refine ⟨Nat.zero_lt_one, rfl, ?_⟩
      | refine ⟨rfl, ?_⟩
      | refine ⟨⟨Nat.zero_lt_one, rfl⟩, Nat.le_of_ble_eq_true rfl, ?_⟩
      | refine ⟨Nat.le_of_ble_eq_true rfl, Nat.le_of_ble_eq_true rfl, ?_⟩
      | refine ⟨(by first | exact Nat.zero_lt_one | assumption | omega), (by first | assumption | exact vp_in_nI (by omega) (by omega) | (unfold vp_in; decide)), ?_⟩
      | refine ⟨(by first | exact Nat.zero_lt_one | assumption | omega), rfl, ?_⟩
      | refine ⟨⟨(by first | exact Nat.zero_lt_one | assumption | omega), rfl⟩, Nat.le_of_ble_eq_true rfl, ?_⟩
      | refine ⟨(by first | exact Nat.zero_lt_one | assumption | omega), ?_⟩
      | refine ⟨Or.inl rfl, ?_⟩
      | refine ⟨Or.inr (Or.inl rfl), ?_⟩
      | refine ⟨Or.inr (Or.inr rfl), ?_⟩
      | refine ⟨Or.inr ⟨rfl, (by first | exact Or.inl rfl | exact Or.inr rfl | assumption)⟩, ?_⟩
      | refine ⟨fun h => absurd h (by decide), fun _ => ?_⟩
      | refine ⟨fun _ => ?_, fun h => absurd h (by decide)⟩
      | refine ⟨fun h => ?_, fun h => ?_⟩
      | fail)
theorem b_about {μ : zMu} {x y : Int32} (h : Rel μ) : Both m_De_about m_Mo_about [zI x, zI y] μ := by
  intro d K hK
  obtain ⟨ns, n, nr, nh, nt, nb, L, g1, g2, g3, g4, g5, g6, g7, g8, g9, g10, g11⟩ := id h
  have h20 := g2.2.2.1
  refine c_De_about g2.1 g2.2.2.1 (fun hb => hK _ _ (fun d K2 hK2 => ?_)) (fun p hp hx => hK _ _ (fun d K2 hK2 => ?_))
  · exact c_Mo_about g1 g2 (fun _ => hK2 _ h) (fun p hp hx => absurd (by rw [hx]; exact zIx_y hp (by omega)) hb)
  · subst hx
    refine c_Mo_about g1 g2 (fun q => absurd (zIx_y hp (by omega)) q) (fun p' hp' hx => ?_)
    obtain rfl := (nI_eq (by omega) (by omega)).mp hx
    exact hK2 _ h
def pCnt (a0 a1 a2 a3 a4 a5 a6 a7 y : Int32) : Int32 := if y.toInt = 0 then a0 else if y.toInt = 1 then a1 else if y.toInt = 2 then a2 else if y.toInt = 3 then a3 else if y.toInt = 4 then a4 else if y.toInt = 5 then a5 else if y.toInt = 6 then a6 else if y.toInt = 7 then a7 else -1
theorem c_De_count {d n : Nat} {μ : zMu} {y : Int32} {K : Option zV → zMu → Prop} (hn : μ 1 0 1 = nI n) (h20 : n ≤ 20) (hK : K (some (zI (pCnt (μ 1 0 0) (μ 1 0 1) (μ 3 0 0) (μ 3 0 1) (μ 5 0 0) (μ 7 0 0) (μ 2 0 0) (cPres μ n) y))) μ) : Ct (d + 1) m_De_count [zR 0 0, zI y] μ K := by
  refine zmeet rfl (Nat.le_of_ble_eq_true rfl) (fun S => ?_)
  unfold pCnt at hK
  repeat' (first
    | refine c_Ro_countPresent hn h20 ?_
    | exact zKe hK (by simp [*]) rfl
    | refine zs k_De_count rfl ?_
    | refine ⟨Nat.zero_lt_one, rfl, ?_⟩
    | refine ⟨rfl, ?_⟩
    | refine ⟨⟨Nat.zero_lt_one, rfl⟩, Nat.le_of_ble_eq_true rfl, ?_⟩
    | refine ⟨Nat.le_of_ble_eq_true rfl, Nat.le_of_ble_eq_true rfl, ?_⟩
    | refine ⟨(by first | exact Nat.zero_lt_one | assumption | omega), (by first | assumption | exact vp_in_nI (by omega) (by omega) | (unfold vp_in; decide)), ?_⟩
    | refine ⟨(by first | exact Nat.zero_lt_one | assumption | omega), rfl, ?_⟩
    | refine ⟨⟨(by first | exact Nat.zero_lt_one | assumption | omega), rfl⟩, Nat.le_of_ble_eq_true rfl, ?_⟩
    | refine ⟨(by first | exact Nat.zero_lt_one | assumption | omega), ?_⟩
    | refine ⟨Or.inl rfl, ?_⟩
    | refine ⟨Or.inr (Or.inl rfl), ?_⟩
    | refine ⟨Or.inr (Or.inr rfl), ?_⟩
    | refine ⟨Or.inr ⟨rfl, (by first | exact Or.inl rfl | exact Or.inr rfl | assumption)⟩, ?_⟩
    | refine ⟨fun h => absurd h (by decide), fun _ => ?_⟩
    | refine ⟨fun _ => ?_, fun h => absurd h (by decide)⟩
    | refine ⟨fun h => ?_, fun h => ?_⟩
    | fail)
theorem c_Mo_count {d ns n : Nat} {μ : zMu} {y : Int32} {K : Option zV → zMu → Prop} (g : gPe μ ns n) (hK : K (some (zI (pCnt (μ 48 0 0) (μ 48 0 5) (μ 48 0 15) (μ 48 0 33) (μ 48 0 42) (μ 48 0 48) (μ 48 0 14) (cPres μ n) y))) μ) : Ct d m_Mo_count [zR 48 0, zI y] μ K := by
  refine zmeet rfl (Nat.le_of_ble_eq_true rfl) (fun S => ?_)
  have hn := g.2.1
  have h20 := g.2.2.1
  unfold pCnt at hK
  have L : (hy : y.toInt = 7) → ∀ (k i : Nat) (f x : Int32), i + k = n → f = cPres μ i → x = nI i → zG S d m_Mo_count K 87 [some (zR 48 0), some (zI y), some (zI f), some (zI x)] [] μ := by
    intro hy k
    induction k with
    | zero =>
      intro i f x hi hf hx
      subst hf hx
      obtain rfl : i = n := by omega
      refine zs k_Mo_count rfl ?_
      repeat' (first
        | exact zKe hK (by simp [hy]) rfl
        | refine zs k_Mo_count rfl ?_
        | refine br_t (by simp (disch := omega) only [hn, nI_leI, nI_ltI, nI_eq]; omega) ?_
        | refine br_f (by simp (disch := omega) only [hn, nI_leI, nI_ltI, nI_eq]; omega) ?_
        | refine ⟨Nat.zero_lt_one, rfl, ?_⟩
        | refine ⟨rfl, ?_⟩
        | refine ⟨⟨Nat.zero_lt_one, rfl⟩, Nat.le_of_ble_eq_true rfl, ?_⟩
        | refine ⟨Nat.le_of_ble_eq_true rfl, Nat.le_of_ble_eq_true rfl, ?_⟩
        | refine ⟨(by first | exact Nat.zero_lt_one | assumption | omega), (by first | assumption | exact vp_in_nI (by omega) (by omega) | (unfold vp_in; decide)), ?_⟩
        | refine ⟨(by first | exact Nat.zero_lt_one | assumption | omega), rfl, ?_⟩
        | refine ⟨⟨(by first | exact Nat.zero_lt_one | assumption | omega), rfl⟩, Nat.le_of_ble_eq_true rfl, ?_⟩
        | refine ⟨(by first | exact Nat.zero_lt_one | assumption | omega), ?_⟩
        | refine ⟨Or.inl rfl, ?_⟩
        | refine ⟨Or.inr (Or.inl rfl), ?_⟩
        | refine ⟨Or.inr (Or.inr rfl), ?_⟩
        | refine ⟨Or.inr ⟨rfl, (by first | exact Or.inl rfl | exact Or.inr rfl | assumption)⟩, ?_⟩
        | refine ⟨fun h => absurd h (by decide), fun _ => ?_⟩
        | refine ⟨fun _ => ?_, fun h => absurd h (by decide)⟩
        | refine ⟨fun h => ?_, fun h => ?_⟩
        | fail)
    | succ k ih =>
      intro i f x hi hf hx
      subst hx
      have hc : (nI i).toNatClampNeg = i := nI_clamp (by omega)
      obtain ⟨a1, a2, -⟩ := g.2.2.2 i (by omega)
      have a1' : μ 62 0 (nI i).toNatClampNeg = μ 10 0 i := by rw [hc]; exact a1
      refine zs k_Mo_count rfl ?_
      repeat' (first
        | refine ih (i + 1) _ _ (by omega) ?_ (by exact nI_1 i)
        | refine zs k_Mo_count rfl ?_
        | refine br_t (by simp (disch := omega) only [hn, nI_leI, nI_ltI, nI_eq]; omega) ?_
        | refine br_f (by simp (disch := omega) only [hn, nI_leI, nI_ltI, nI_eq]; omega) ?_
        | refine ⟨Nat.zero_lt_one, rfl, ?_⟩
        | refine ⟨rfl, ?_⟩
        | refine ⟨⟨Nat.zero_lt_one, rfl⟩, Nat.le_of_ble_eq_true rfl, ?_⟩
        | refine ⟨Nat.le_of_ble_eq_true rfl, Nat.le_of_ble_eq_true rfl, ?_⟩
        | refine ⟨(by first | exact Nat.zero_lt_one | assumption | omega), (by first | assumption | exact vp_in_nI (by omega) (by omega) | (unfold vp_in; decide)), ?_⟩
        | refine ⟨(by first | exact Nat.zero_lt_one | assumption | omega), rfl, ?_⟩
        | refine ⟨⟨(by first | exact Nat.zero_lt_one | assumption | omega), rfl⟩, Nat.le_of_ble_eq_true rfl, ?_⟩
        | refine ⟨(by first | exact Nat.zero_lt_one | assumption | omega), ?_⟩
        | refine ⟨Or.inl rfl, ?_⟩
        | refine ⟨Or.inr (Or.inl rfl), ?_⟩
        | refine ⟨Or.inr (Or.inr rfl), ?_⟩
        | refine ⟨Or.inr ⟨rfl, (by first | exact Or.inl rfl | exact Or.inr rfl | assumption)⟩, ?_⟩
        | refine ⟨fun h => absurd h (by decide), fun _ => ?_⟩
        | refine ⟨fun _ => ?_, fun h => absurd h (by decide)⟩
        | refine ⟨fun h => ?_, fun h => ?_⟩
        | fail)
      · rw [cPres, hf]
        rcases a2 with a2 | a2
        · rw [a2]
        · exact absurd (by assumption : μ 62 0 (nI i).toNatClampNeg = 0) (by rw [a1', a2]; decide)
      · rw [cPres, hf]
        rcases a2 with a2 | a2
        · exact absurd (a1'.trans a2) (by assumption)
        · rw [a2]
  repeat' (first
    | exact L (by assumption) n 0 _ _ (by omega) rfl rfl
    | exact zKe hK (by simp [*]) rfl
    | refine zs k_Mo_count rfl ?_
    | refine ⟨Nat.zero_lt_one, rfl, ?_⟩
    | refine ⟨rfl, ?_⟩
    | refine ⟨⟨Nat.zero_lt_one, rfl⟩, Nat.le_of_ble_eq_true rfl, ?_⟩
    | refine ⟨Nat.le_of_ble_eq_true rfl, Nat.le_of_ble_eq_true rfl, ?_⟩
    | refine ⟨(by first | exact Nat.zero_lt_one | assumption | omega), (by first | assumption | exact vp_in_nI (by omega) (by omega) | (unfold vp_in; decide)), ?_⟩
    | refine ⟨(by first | exact Nat.zero_lt_one | assumption | omega), rfl, ?_⟩
    | refine ⟨⟨(by first | exact Nat.zero_lt_one | assumption | omega), rfl⟩, Nat.le_of_ble_eq_true rfl, ?_⟩
    | refine ⟨(by first | exact Nat.zero_lt_one | assumption | omega), ?_⟩
    | refine ⟨Or.inl rfl, ?_⟩
    | refine ⟨Or.inr (Or.inl rfl), ?_⟩
    | refine ⟨Or.inr (Or.inr rfl), ?_⟩
    | refine ⟨Or.inr ⟨rfl, (by first | exact Or.inl rfl | exact Or.inr rfl | assumption)⟩, ?_⟩
    | refine ⟨fun h => absurd h (by decide), fun _ => ?_⟩
    | refine ⟨fun _ => ?_, fun h => absurd h (by decide)⟩
    | refine ⟨fun h => ?_, fun h => ?_⟩
    | fail)
theorem b_count {μ : zMu} {y : Int32} (h : Rel μ) : Both m_De_count m_Mo_count [zI y] μ := by
  intro d K hK
  obtain ⟨ns, n, nr, nh, nt, nb, L, g1, g2, g3, g4, g5, g6, g7, g8, g9, g10, g11⟩ := id h
  refine c_De_count g2.1 g2.2.2.1 (hK _ _ (fun d K2 hK2 => c_Mo_count g2 (zKe (hK2 _ h) ?_ rfl)))
  rw [g1.1, g1.2.1, g2.1, g2.2.1, g4.1, g4.2.1, g5.1, g5.2.1, g6.1, g6.2.1, g9.1.1, g9.2.1, g3.1, g3.2.1]
set_option maxHeartbeats 1000000 in
theorem c_Mo_dean {d ns n : Nat} {μ : zMu} {K : Option zV → zMu → Prop} (g : gPe μ ns n) (hK : K (some (zI (cBest μ n))) μ) : Ct d m_Mo_dean [zR 48 0] μ K := by
  refine zmeet rfl (Nat.le_of_ble_eq_true rfl) (fun S => ?_)
  have hn := g.2.1
  have h20 := g.2.2.1
  have L : ∀ (k i : Nat) (b x : Int32) (l3 : Option zV), i + k = n → b = cBest μ i → x = nI i → zG S d m_Mo_dean K 4 [some (zR 48 0), some (zI b), some (zI x), l3] [] μ := by
    intro k
    induction k with
    | zero =>
      intro i b x l3 hi hb hx
      subst hb hx
      obtain rfl : i = n := by omega
      refine zs k_Mo_dean rfl ?_
      repeat' (first
        | exact hK
        | refine zs k_Mo_dean rfl ?_
        | refine br_t (by simp (disch := omega) only [hn, nI_leI, nI_ltI, nI_eq]; omega) ?_
        | refine br_f (by simp (disch := omega) only [hn, nI_leI, nI_ltI, nI_eq]; omega) ?_
        | refine ⟨Nat.zero_lt_one, rfl, ?_⟩
        | refine ⟨rfl, ?_⟩
        | refine ⟨⟨Nat.zero_lt_one, rfl⟩, Nat.le_of_ble_eq_true rfl, ?_⟩
        | refine ⟨Nat.le_of_ble_eq_true rfl, Nat.le_of_ble_eq_true rfl, ?_⟩
        | refine ⟨(by first | exact Nat.zero_lt_one | assumption | omega), (by first | assumption | exact vp_in_nI (by omega) (by omega) | (unfold vp_in; decide)), ?_⟩
        | refine ⟨(by first | exact Nat.zero_lt_one | assumption | omega), rfl, ?_⟩
        | refine ⟨⟨(by first | exact Nat.zero_lt_one | assumption | omega), rfl⟩, Nat.le_of_ble_eq_true rfl, ?_⟩
        | refine ⟨(by first | exact Nat.zero_lt_one | assumption | omega), ?_⟩
        | refine ⟨Or.inl rfl, ?_⟩
        | refine ⟨Or.inr (Or.inl rfl), ?_⟩
        | refine ⟨Or.inr (Or.inr rfl), ?_⟩
        | refine ⟨Or.inr ⟨rfl, (by first | exact Or.inl rfl | exact Or.inr rfl | assumption)⟩, ?_⟩
        | refine ⟨fun h => absurd h (by decide), fun _ => ?_⟩
        | refine ⟨fun _ => ?_, fun h => absurd h (by decide)⟩
        | refine ⟨fun h => ?_, fun h => ?_⟩
        | fail)
    | succ k ih =>
      intro i b x l3 hi hb hx
      subst hx
      have hc : (nI i).toNatClampNeg = i := nI_clamp (by omega)
      have hbs : cBest μ (i + 1) = if ((μ 17 i 4 = 0 ∨ μ 17 i 4 = 5) ∧ μ 10 0 i = 1 ∧ ¬ μ 16 0 i = 0) ∧ (b = -1 ∨ (μ 17 i 3 < μ 17 b.toNatClampNeg 3 ∨ (μ 17 i 3 = μ 17 b.toNatClampNeg 3 ∧ μ 16 0 i < μ 16 0 b.toNatClampNeg))) then nI i else b := by rw [hb]; rfl
      have hbv : ¬ b = -1 → vp_in b 20 ∧ μ 59 0 b.toNatClampNeg = μ 17 b.toNatClampNeg 3 ∧ μ 60 0 b.toNatClampNeg = μ 16 0 b.toNatClampNeg := fun h => by
        rcases cBest_in (μ := μ) i (by omega) with h1 | ⟨c, h1, h2⟩
        · exact absurd (hb.trans h1) h
        · rw [hb, h2, nI_clamp (show c < 2 ^ 31 by omega)]
          obtain ⟨a1, a2, a3, a4, a5, a6, a7, -⟩ := g.2.2.2 c (by omega)
          exact ⟨vp_in_nI (by omega) (by omega), a7, a5⟩
      obtain ⟨a1, a2, a3, a4, a5, a6, a7, a8, a9, -⟩ := g.2.2.2 i (by omega)
      have a1' : μ 62 0 (nI i).toNatClampNeg = μ 10 0 i := by rw [hc]; exact a1
      have a5' : μ 60 0 (nI i).toNatClampNeg = μ 16 0 i := by rw [hc]; exact a5
      have a7' : μ 59 0 (nI i).toNatClampNeg = μ 17 i 3 := by rw [hc]; exact a7
      have a8' : μ 57 0 (nI i).toNatClampNeg = μ 17 i 4 := by rw [hc]; exact a8
      by_cases hd : (μ 17 i 4 = 0 ∨ μ 17 i 4 = 5) ∧ μ 10 0 i = 1 ∧ ¬ μ 16 0 i = 0
      · have hp : ¬ μ 60 0 (nI i).toNatClampNeg ≤ 0 := by rw [a5']; grind
        have hth : ¬ μ 62 0 (nI i).toNatClampNeg = 0 := by rw [a1', hd.2.1]; decide
        by_cases hb1 : b = -1
        · skip
          refine zs k_Mo_dean rfl ?_
          repeat' (first
            | refine br_f hp ?_
            | refine br_f hth ?_
            | refine br_t hb1 ?_
            | refine ih (i + 1) _ _ _ (by omega) (by rw [hbs, if_pos ⟨hd, Or.inl hb1⟩]) (by exact nI_1 i)
            | exact absurd hd.1 (by rw [a8'] at *; grind)
            | refine zs k_Mo_dean rfl ?_
            | refine br_t (by simp (disch := omega) only [hn, nI_leI, nI_ltI, nI_eq]; omega) ?_
            | refine br_f (by simp (disch := omega) only [hn, nI_leI, nI_ltI, nI_eq]; omega) ?_
            | refine ⟨Nat.zero_lt_one, rfl, ?_⟩
            | refine ⟨rfl, ?_⟩
            | refine ⟨⟨Nat.zero_lt_one, rfl⟩, Nat.le_of_ble_eq_true rfl, ?_⟩
            | refine ⟨Nat.le_of_ble_eq_true rfl, Nat.le_of_ble_eq_true rfl, ?_⟩
            | refine ⟨(by first | exact Nat.zero_lt_one | assumption | omega), (by first | assumption | exact vp_in_nI (by omega) (by omega) | (unfold vp_in; decide)), ?_⟩
            | refine ⟨(by first | exact Nat.zero_lt_one | assumption | omega), rfl, ?_⟩
            | refine ⟨⟨(by first | exact Nat.zero_lt_one | assumption | omega), rfl⟩, Nat.le_of_ble_eq_true rfl, ?_⟩
            | refine ⟨(by first | exact Nat.zero_lt_one | assumption | omega), ?_⟩
            | refine ⟨Or.inl rfl, ?_⟩
            | refine ⟨Or.inr (Or.inl rfl), ?_⟩
            | refine ⟨Or.inr (Or.inr rfl), ?_⟩
            | refine ⟨Or.inr ⟨rfl, (by first | exact Or.inl rfl | exact Or.inr rfl | assumption)⟩, ?_⟩
            | refine ⟨fun h => absurd h (by decide), fun _ => ?_⟩
            | refine ⟨fun _ => ?_, fun h => absurd h (by decide)⟩
            | refine ⟨fun h => ?_, fun h => ?_⟩
            | fail)
        · obtain ⟨v1, v2, v3⟩ := hbv hb1
          refine zs k_Mo_dean rfl ?_
          repeat' (first
            | refine br_f hp ?_
            | refine br_f hth ?_
            | refine br_f hb1 ?_
            | refine ih (i + 1) _ _ _ (by omega) (by rw [hbs]; rw [a7', v2] at *; first | rw [if_pos (by grind)] | rw [if_neg (by grind)]) (by exact nI_1 i)
            | exact absurd hd.1 (by rw [a8'] at *; grind)
            | refine zs k_Mo_dean rfl ?_
            | refine br_t (by simp (disch := omega) only [hn, nI_leI, nI_ltI, nI_eq]; omega) ?_
            | refine br_f (by simp (disch := omega) only [hn, nI_leI, nI_ltI, nI_eq]; omega) ?_
            | refine ⟨Nat.zero_lt_one, rfl, ?_⟩
            | refine ⟨rfl, ?_⟩
            | refine ⟨⟨Nat.zero_lt_one, rfl⟩, Nat.le_of_ble_eq_true rfl, ?_⟩
            | refine ⟨Nat.le_of_ble_eq_true rfl, Nat.le_of_ble_eq_true rfl, ?_⟩
            | refine ⟨(by first | exact Nat.zero_lt_one | assumption | omega), (by first | assumption | exact vp_in_nI (by omega) (by omega) | (unfold vp_in; decide)), ?_⟩
            | refine ⟨(by first | exact Nat.zero_lt_one | assumption | omega), rfl, ?_⟩
            | refine ⟨⟨(by first | exact Nat.zero_lt_one | assumption | omega), rfl⟩, Nat.le_of_ble_eq_true rfl, ?_⟩
            | refine ⟨(by first | exact Nat.zero_lt_one | assumption | omega), ?_⟩
            | refine ⟨Or.inl rfl, ?_⟩
            | refine ⟨Or.inr (Or.inl rfl), ?_⟩
            | refine ⟨Or.inr (Or.inr rfl), ?_⟩
            | refine ⟨Or.inr ⟨rfl, (by first | exact Or.inl rfl | exact Or.inr rfl | assumption)⟩, ?_⟩
            | refine ⟨fun h => absurd h (by decide), fun _ => ?_⟩
            | refine ⟨fun _ => ?_, fun h => absurd h (by decide)⟩
            | refine ⟨fun h => ?_, fun h => ?_⟩
            | fail)
      · have hbs2 : cBest μ (i + 1) = b := by rw [hbs, if_neg (fun q => hd q.1)]
        have hno : ¬ ((μ 57 0 (nI i).toNatClampNeg = 0 ∨ μ 57 0 (nI i).toNatClampNeg = 5) ∧ ¬ μ 62 0 (nI i).toNatClampNeg = 0 ∧ ¬ μ 60 0 (nI i).toNatClampNeg ≤ 0) := by
          rw [a8', a1', a5']
          grind
        refine zs k_Mo_dean rfl ?_
        repeat' (first
          | refine br_t (by decide) ?_
          | refine ih (i + 1) _ _ _ (by omega) (by exact hbs2.symm) (by exact nI_1 i)
          | exact absurd (by grind) hno
          | refine zs k_Mo_dean rfl ?_
          | refine br_t (by simp (disch := omega) only [hn, nI_leI, nI_ltI, nI_eq]; omega) ?_
          | refine br_f (by simp (disch := omega) only [hn, nI_leI, nI_ltI, nI_eq]; omega) ?_
          | refine ⟨Nat.zero_lt_one, rfl, ?_⟩
          | refine ⟨rfl, ?_⟩
          | refine ⟨⟨Nat.zero_lt_one, rfl⟩, Nat.le_of_ble_eq_true rfl, ?_⟩
          | refine ⟨Nat.le_of_ble_eq_true rfl, Nat.le_of_ble_eq_true rfl, ?_⟩
          | refine ⟨(by first | exact Nat.zero_lt_one | assumption | omega), (by first | assumption | exact vp_in_nI (by omega) (by omega) | (unfold vp_in; decide)), ?_⟩
          | refine ⟨(by first | exact Nat.zero_lt_one | assumption | omega), rfl, ?_⟩
          | refine ⟨⟨(by first | exact Nat.zero_lt_one | assumption | omega), rfl⟩, Nat.le_of_ble_eq_true rfl, ?_⟩
          | refine ⟨(by first | exact Nat.zero_lt_one | assumption | omega), ?_⟩
          | refine ⟨Or.inl rfl, ?_⟩
          | refine ⟨Or.inr (Or.inl rfl), ?_⟩
          | refine ⟨Or.inr (Or.inr rfl), ?_⟩
          | refine ⟨Or.inr ⟨rfl, (by first | exact Or.inl rfl | exact Or.inr rfl | assumption)⟩, ?_⟩
          | refine ⟨fun h => absurd h (by decide), fun _ => ?_⟩
          | refine ⟨fun _ => ?_, fun h => absurd h (by decide)⟩
          | refine ⟨fun h => ?_, fun h => ?_⟩
          | fail)
  repeat' (first
    | exact L n 0 _ _ _ (by omega) rfl rfl
    | refine zs k_Mo_dean rfl ?_
    | refine ⟨Nat.zero_lt_one, rfl, ?_⟩
    | refine ⟨rfl, ?_⟩
    | refine ⟨⟨Nat.zero_lt_one, rfl⟩, Nat.le_of_ble_eq_true rfl, ?_⟩
    | refine ⟨Nat.le_of_ble_eq_true rfl, Nat.le_of_ble_eq_true rfl, ?_⟩
    | refine ⟨(by first | exact Nat.zero_lt_one | assumption | omega), (by first | assumption | exact vp_in_nI (by omega) (by omega) | (unfold vp_in; decide)), ?_⟩
    | refine ⟨(by first | exact Nat.zero_lt_one | assumption | omega), rfl, ?_⟩
    | refine ⟨⟨(by first | exact Nat.zero_lt_one | assumption | omega), rfl⟩, Nat.le_of_ble_eq_true rfl, ?_⟩
    | refine ⟨(by first | exact Nat.zero_lt_one | assumption | omega), ?_⟩
    | refine ⟨Or.inl rfl, ?_⟩
    | refine ⟨Or.inr (Or.inl rfl), ?_⟩
    | refine ⟨Or.inr (Or.inr rfl), ?_⟩
    | refine ⟨Or.inr ⟨rfl, (by first | exact Or.inl rfl | exact Or.inr rfl | assumption)⟩, ?_⟩
    | refine ⟨fun h => absurd h (by decide), fun _ => ?_⟩
    | refine ⟨fun _ => ?_, fun h => absurd h (by decide)⟩
    | refine ⟨fun h => ?_, fun h => ?_⟩
    | fail)
theorem c_De_dean {d n : Nat} {μ : zMu} {K : Option zV → zMu → Prop} (hn : μ 1 0 1 = nI n) (h20 : n ≤ 20) (hK : K (some (zI (cBest μ n))) μ) : Ct (d + 3) m_De_dean [zR 0 0] μ K := by
  refine zmeet rfl (Nat.le_of_ble_eq_true rfl) (fun S => ?_)
  repeat' (first
    | refine c_Ro_eldestWithPaper hn h20 ?_
    | exact hK
    | refine zs k_De_dean rfl ?_
    | refine ⟨Nat.zero_lt_one, rfl, ?_⟩
    | refine ⟨rfl, ?_⟩
    | refine ⟨⟨Nat.zero_lt_one, rfl⟩, Nat.le_of_ble_eq_true rfl, ?_⟩
    | refine ⟨Nat.le_of_ble_eq_true rfl, Nat.le_of_ble_eq_true rfl, ?_⟩
    | refine ⟨(by first | exact Nat.zero_lt_one | assumption | omega), (by first | assumption | exact vp_in_nI (by omega) (by omega) | (unfold vp_in; decide)), ?_⟩
    | refine ⟨(by first | exact Nat.zero_lt_one | assumption | omega), rfl, ?_⟩
    | refine ⟨⟨(by first | exact Nat.zero_lt_one | assumption | omega), rfl⟩, Nat.le_of_ble_eq_true rfl, ?_⟩
    | refine ⟨(by first | exact Nat.zero_lt_one | assumption | omega), ?_⟩
    | refine ⟨Or.inl rfl, ?_⟩
    | refine ⟨Or.inr (Or.inl rfl), ?_⟩
    | refine ⟨Or.inr (Or.inr rfl), ?_⟩
    | refine ⟨Or.inr ⟨rfl, (by first | exact Or.inl rfl | exact Or.inr rfl | assumption)⟩, ?_⟩
    | refine ⟨fun h => absurd h (by decide), fun _ => ?_⟩
    | refine ⟨fun _ => ?_, fun h => absurd h (by decide)⟩
    | refine ⟨fun h => ?_, fun h => ?_⟩
    | fail)
theorem b_dean {μ : zMu} (h : Rel μ) : Both m_De_dean m_Mo_dean [] μ := by
  intro d K hK
  obtain ⟨ns, n, nr, nh, nt, nb, L, g1, g2, g3, g4, g5, g6, g7, g8, g9, g10, g11⟩ := id h
  exact c_De_dean g2.1 g2.2.2.1 (hK _ _ (fun d K2 hK2 => c_Mo_dean g2 (hK2 _ h)))
