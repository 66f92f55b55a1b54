/-! RULEBOOK: contrary rule, leader -/
theorem c_Bo_contraryRule {d n : Nat} {μ : zMu} {o day x y : Int32} {K : Option zV → zMu → Prop} (hn : μ 3 0 0 = nI n) (h16 : n ≤ 16) (hok : ∀ r, r < n → cRok μ r) (hx : vp_in x 20) (hy : vp_in y 20)
    (hK : ∀ g, g = pGo (cV μ o day x.toNatClampNeg y.toNatClampNeg) (cOc μ) n → K (some (zI (if g = -1 then -1 else pFst (fun r => decide (cV μ o day x.toNatClampNeg y.toNatClampNeg r = -cV μ o day x.toNatClampNeg y.toNatClampNeg g.toNatClampNeg)) n))) μ) : Ct (d + 4) m_Bo_contraryRule [zR 3 0, zI o, zI day, zI x, zI y] μ K := by
  refine zmeet rfl (Nat.le_of_ble_eq_true rfl) (fun S => ?_)
  have hK := hK _ rfl
  have hin := pGo_in (V := cV μ o day x.toNatClampNeg y.toNatClampNeg) (oc := cOc μ) h16
  generalize hG : pGo (cV μ o day x.toNatClampNeg y.toNatClampNeg) (cOc μ) n = G at hK hin
  have L : ∀ (k i : Nat) (v : Int32), ¬ G = -1 → i + k = n → v = nI i → (∀ r, r < i → decide (cV μ o day x.toNatClampNeg y.toNatClampNeg r = -cV μ o day x.toNatClampNeg y.toNatClampNeg G.toNatClampNeg) = false) → zG S (d + 4) m_Bo_contraryRule K 43 [some (zR 3 0), some (zI o), some (zI day), some (zI x), some (zI y), some (zI G), some (zI (cV μ o day x.toNatClampNeg y.toNatClampNeg G.toNatClampNeg)), some (zI v)] [] μ := by
    intro k
    induction k with
    | zero =>
      intro i v hg hi hv hn0
      subst hv
      obtain rfl : i = n := by omega
      rw [if_neg hg, pFst_none hn0] at hK
      refine zs k_Bo_contraryRule rfl ?_
      repeat' (first
        | exact hK
        | refine zs k_Bo_contraryRule rfl ?_
        | refine br_t (by simp (disch := omega) only [hn, nI_leI, nI_ltI, nI_eq]; omega) ?_
        | refine br_f (by simp (disch := omega) only [hn, nI_leI, nI_ltI, nI_eq]; omega) ?_
        | refine ⟨Nat.zero_lt_one, rfl, ?_⟩
        | refine ⟨rfl, ?_⟩
        | refine ⟨⟨Nat.zero_lt_one, rfl⟩, Nat.le_of_ble_eq_true rfl, ?_⟩
        | refine ⟨Nat.le_of_ble_eq_true rfl, Nat.le_of_ble_eq_true rfl, ?_⟩
        | refine ⟨(by first | exact Nat.zero_lt_one | assumption | omega), (by first | assumption | exact vp_in_nI (by omega) (by omega) | (unfold vp_in; decide)), ?_⟩
        | refine ⟨(by first | exact Nat.zero_lt_one | assumption | omega), rfl, ?_⟩
        | refine ⟨⟨(by first | exact Nat.zero_lt_one | assumption | omega), rfl⟩, Nat.le_of_ble_eq_true rfl, ?_⟩
        | refine ⟨(by first | exact Nat.zero_lt_one | assumption | omega), ?_⟩
        | refine ⟨Or.inl rfl, ?_⟩
        | refine ⟨Or.inr (Or.inl rfl), ?_⟩
        | refine ⟨Or.inr (Or.inr rfl), ?_⟩
        | refine ⟨Or.inr ⟨rfl, (by first | exact Or.inl rfl | exact Or.inr rfl | assumption)⟩, ?_⟩
        | refine ⟨fun h => absurd h (by decide), fun _ => ?_⟩
        | refine ⟨fun _ => ?_, fun h => absurd h (by decide)⟩
        | refine ⟨fun h => ?_, fun h => ?_⟩
        | fail)
    | succ k ih =>
      intro i v hg hi hv hn0
      subst hv
      have hc : (nI i).toNatClampNeg = i := nI_clamp (by omega)
      have hcu : cV μ o day x.toNatClampNeg y.toNatClampNeg i = pV (cF μ) (cRu μ i) o day x.toNatClampNeg y.toNatClampNeg := rfl
      refine zs k_Bo_contraryRule rfl ?_
      repeat' (first
        | refine c_Ru_verdict (r := (nI i).toNatClampNeg) (by omega) (by rw [hc]; exact hok i (by omega)) hx hy ?_
        | refine ih (i + 1) _ hg (by omega) (by exact nI_1 i) (lt_s hn0 (by rw [decide_eq_false_iff_not, hcu, ← hc]; assumption))
        | exact (by rw [if_neg hg, pFst_hit hn0 (by rw [decide_eq_true_eq, hcu, ← hc]; assumption) (by omega) (by omega)] at hK; exact hK)
        | refine zs k_Bo_contraryRule rfl ?_
        | refine br_t (by simp (disch := omega) only [hn, nI_leI, nI_ltI, nI_eq]; omega) ?_
        | refine br_f (by simp (disch := omega) only [hn, nI_leI, nI_ltI, nI_eq]; omega) ?_
        | refine ⟨Nat.zero_lt_one, rfl, ?_⟩
        | refine ⟨rfl, ?_⟩
        | refine ⟨⟨Nat.zero_lt_one, rfl⟩, Nat.le_of_ble_eq_true rfl, ?_⟩
        | refine ⟨Nat.le_of_ble_eq_true rfl, Nat.le_of_ble_eq_true rfl, ?_⟩
        | refine ⟨(by first | exact Nat.zero_lt_one | assumption | omega), (by first | assumption | exact vp_in_nI (by omega) (by omega) | (unfold vp_in; decide)), ?_⟩
        | refine ⟨(by first | exact Nat.zero_lt_one | assumption | omega), rfl, ?_⟩
        | refine ⟨⟨(by first | exact Nat.zero_lt_one | assumption | omega), rfl⟩, Nat.le_of_ble_eq_true rfl, ?_⟩
        | refine ⟨(by first | exact Nat.zero_lt_one | assumption | omega), ?_⟩
        | refine ⟨Or.inl rfl, ?_⟩
        | refine ⟨Or.inr (Or.inl rfl), ?_⟩
        | refine ⟨Or.inr (Or.inr rfl), ?_⟩
        | refine ⟨Or.inr ⟨rfl, (by first | exact Or.inl rfl | exact Or.inr rfl | assumption)⟩, ?_⟩
        | refine ⟨fun h => absurd h (by decide), fun _ => ?_⟩
        | refine ⟨fun _ => ?_, fun h => absurd h (by decide)⟩
        | refine ⟨fun h => ?_, fun h => ?_⟩
        | fail)
  rcases hin with hg | ⟨rg, hrg, hrG, -⟩
  · rw [if_pos hg] at hK
    repeat' (first
      | (refine c_Bo_goingRule hn h16 hok hx hy ?_; rw [hG])
      | refine ⟨fun h => absurd hg h, fun _ => ?_⟩
      | exact hK
      | refine zs k_Bo_contraryRule rfl ?_
      | refine ⟨Nat.zero_lt_one, rfl, ?_⟩
      | refine ⟨rfl, ?_⟩
      | refine ⟨⟨Nat.zero_lt_one, rfl⟩, Nat.le_of_ble_eq_true rfl, ?_⟩
      | refine ⟨Nat.le_of_ble_eq_true rfl, Nat.le_of_ble_eq_true rfl, ?_⟩
      | refine ⟨(by first | exact Nat.zero_lt_one | assumption | omega), (by first | assumption | exact vp_in_nI (by omega) (by omega) | (unfold vp_in; decide)), ?_⟩
      | refine ⟨(by first | exact Nat.zero_lt_one | assumption | omega), rfl, ?_⟩
      | refine ⟨⟨(by first | exact Nat.zero_lt_one | assumption | omega), rfl⟩, Nat.le_of_ble_eq_true rfl, ?_⟩
      | refine ⟨(by first | exact Nat.zero_lt_one | assumption | omega), ?_⟩
      | refine ⟨Or.inl rfl, ?_⟩
      | refine ⟨Or.inr (Or.inl rfl), ?_⟩
      | refine ⟨Or.inr (Or.inr rfl), ?_⟩
      | refine ⟨Or.inr ⟨rfl, (by first | exact Or.inl rfl | exact Or.inr rfl | assumption)⟩, ?_⟩
      | refine ⟨fun h => absurd h (by decide), fun _ => ?_⟩
      | refine ⟨fun _ => ?_, fun h => absurd h (by decide)⟩
      | refine ⟨fun h => ?_, fun h => ?_⟩
      | fail)
  · have hgc : G.toNatClampNeg = rg := by rw [hrG]; exact nI_clamp (by omega)
    have hgm : ¬ G = -1 := by rw [hrG]; exact nI_nem1 (by omega)
    have hgv : vp_in G 16 := by rw [hrG]; exact vp_in_nI (by omega) (by omega)
    have hg16 : G.toNatClampNeg < 16 := by omega
    have hgok : cRok μ G.toNatClampNeg := by rw [hgc]; exact hok rg hrg
    repeat' (first
      | (refine c_Bo_goingRule hn h16 hok hx hy ?_; rw [hG])
      | refine ⟨fun _ => ?_, fun h => absurd h hgm⟩
      | refine L n 0 _ hgm (by omega) rfl (fun r hr => absurd hr (by omega))
      | refine c_Ru_verdict (r := G.toNatClampNeg) hg16 hgok hx hy ?_
      | refine zs k_Bo_contraryRule rfl ?_
      | refine ⟨Nat.zero_lt_one, rfl, ?_⟩
      | refine ⟨rfl, ?_⟩
      | refine ⟨⟨Nat.zero_lt_one, rfl⟩, Nat.le_of_ble_eq_true rfl, ?_⟩
      | refine ⟨Nat.le_of_ble_eq_true rfl, Nat.le_of_ble_eq_true rfl, ?_⟩
      | refine ⟨(by first | exact Nat.zero_lt_one | assumption | omega), (by first | assumption | exact vp_in_nI (by omega) (by omega) | (unfold vp_in; decide)), ?_⟩
      | refine ⟨(by first | exact Nat.zero_lt_one | assumption | omega), rfl, ?_⟩
      | refine ⟨⟨(by first | exact Nat.zero_lt_one | assumption | omega), rfl⟩, Nat.le_of_ble_eq_true rfl, ?_⟩
      | refine ⟨(by first | exact Nat.zero_lt_one | assumption | omega), ?_⟩
      | refine ⟨Or.inl rfl, ?_⟩
      | refine ⟨Or.inr (Or.inl rfl), ?_⟩
      | refine ⟨Or.inr (Or.inr rfl), ?_⟩
      | refine ⟨Or.inr ⟨rfl, (by first | exact Or.inl rfl | exact Or.inr rfl | assumption)⟩, ?_⟩
      | refine ⟨fun h => absurd h (by decide), fun _ => ?_⟩
      | refine ⟨fun _ => ?_, fun h => absurd h (by decide)⟩
      | refine ⟨fun h => ?_, fun h => ?_⟩
      | fail)
/-- who is ahead: a hand, else the rule that goes -/
def pLd (h : Int32) (V oc : Nat → Int32) (n : Nat) : Int32 := if ¬ h = 0 then h else if pGo V oc n = -1 then 0 else V (pGo V oc n).toNatClampNeg
theorem c_Bo_leader {d n nh : Nat} {μ : zMu} {o day x y : Int32} {K : Option zV → zMu → Prop} (hn : μ 3 0 0 = nI n) (h16 : n ≤ 16) (hh : μ 3 0 1 = nI nh) (h20 : nh ≤ 20) (hok : ∀ r, r < n → cRok μ r) (hx : vp_in x 20) (hy : vp_in y 20)
    (hK : K (some (zI (pLd (pHand (μ 20 0) (μ 21 0) x y nh) (cV μ o day x.toNatClampNeg y.toNatClampNeg) (cOc μ) n))) μ) : Ct (d + 4) m_Bo_leader [zR 3 0, zI o, zI day, zI x, zI y] μ K := by
  refine zmeet rfl (Nat.le_of_ble_eq_true rfl) (fun S => ?_)
  unfold pLd at hK
  have hin := pGo_in (V := cV μ o day x.toNatClampNeg y.toNatClampNeg) (oc := cOc μ) h16
  generalize hG : pGo (cV μ o day x.toNatClampNeg y.toNatClampNeg) (cOc μ) n = G at hK hin
  generalize hHd : pHand (μ 20 0) (μ 21 0) x y nh = Hd at hK
  rcases hin with hg | ⟨rg, hrg, hrG, -⟩
  · rw [if_pos hg] at hK
    repeat' (first
      | (refine c_Bo_toldByHand hh h20 ?_; rw [hHd])
      | (refine c_Bo_goingRule hn h16 hok hx hy ?_; rw [hG])
      | refine ⟨fun h => absurd hg h, fun _ => ?_⟩
      | exact (by rw [if_pos (by assumption)] at hK; exact hK)
      | exact (by rw [if_neg (by simpa using ‹_›)] at hK; exact hK)
      | refine zs k_Bo_leader rfl ?_
      | refine ⟨Nat.zero_lt_one, rfl, ?_⟩
      | refine ⟨rfl, ?_⟩
      | refine ⟨⟨Nat.zero_lt_one, rfl⟩, Nat.le_of_ble_eq_true rfl, ?_⟩
      | refine ⟨Nat.le_of_ble_eq_true rfl, Nat.le_of_ble_eq_true rfl, ?_⟩
      | refine ⟨(by first | exact Nat.zero_lt_one | assumption | omega), (by first | assumption | exact vp_in_nI (by omega) (by omega) | (unfold vp_in; decide)), ?_⟩
      | refine ⟨(by first | exact Nat.zero_lt_one | assumption | omega), rfl, ?_⟩
      | refine ⟨⟨(by first | exact Nat.zero_lt_one | assumption | omega), rfl⟩, Nat.le_of_ble_eq_true rfl, ?_⟩
      | refine ⟨(by first | exact Nat.zero_lt_one | assumption | omega), ?_⟩
      | refine ⟨Or.inl rfl, ?_⟩
      | refine ⟨Or.inr (Or.inl rfl), ?_⟩
      | refine ⟨Or.inr (Or.inr rfl), ?_⟩
      | refine ⟨Or.inr ⟨rfl, (by first | exact Or.inl rfl | exact Or.inr rfl | assumption)⟩, ?_⟩
      | refine ⟨fun h => absurd h (by decide), fun _ => ?_⟩
      | refine ⟨fun _ => ?_, fun h => absurd h (by decide)⟩
      | refine ⟨fun h => ?_, fun h => ?_⟩
      | fail)
  · have hgc : G.toNatClampNeg = rg := by rw [hrG]; exact nI_clamp (by omega)
    have hgm : ¬ G = -1 := by rw [hrG]; exact nI_nem1 (by omega)
    have hgv : vp_in G 16 := by rw [hrG]; exact vp_in_nI (by omega) (by omega)
    have hg16 : G.toNatClampNeg < 16 := by omega
    have hgok : cRok μ G.toNatClampNeg := by rw [hgc]; exact hok rg hrg
    rw [if_neg hgm] at hK
    repeat' (first
      | (refine c_Bo_toldByHand hh h20 ?_; rw [hHd])
      | (refine c_Bo_goingRule hn h16 hok hx hy ?_; rw [hG])
      | refine ⟨fun _ => ?_, fun h => absurd h hgm⟩
      | refine c_Ru_verdict (r := G.toNatClampNeg) hg16 hgok hx hy ?_
      | exact (by rw [if_pos (by assumption)] at hK; exact hK)
      | exact (by rw [if_neg (by simpa using ‹_›)] at hK; exact hK)
      | refine zs k_Bo_leader rfl ?_
      | refine ⟨Nat.zero_lt_one, rfl, ?_⟩
      | refine ⟨rfl, ?_⟩
      | refine ⟨⟨Nat.zero_lt_one, rfl⟩, Nat.le_of_ble_eq_true rfl, ?_⟩
      | refine ⟨Nat.le_of_ble_eq_true rfl, Nat.le_of_ble_eq_true rfl, ?_⟩
      | refine ⟨(by first | exact Nat.zero_lt_one | assumption | omega), (by first | assumption | exact vp_in_nI (by omega) (by omega) | (unfold vp_in; decide)), ?_⟩
      | refine ⟨(by first | exact Nat.zero_lt_one | assumption | omega), rfl, ?_⟩
      | refine ⟨⟨(by first | exact Nat.zero_lt_one | assumption | omega), rfl⟩, Nat.le_of_ble_eq_true rfl, ?_⟩
      | refine ⟨(by first | exact Nat.zero_lt_one | assumption | omega), ?_⟩
      | refine ⟨Or.inl rfl, ?_⟩
      | refine ⟨Or.inr (Or.inl rfl), ?_⟩
      | refine ⟨Or.inr (Or.inr rfl), ?_⟩
      | refine ⟨Or.inr ⟨rfl, (by first | exact Or.inl rfl | exact Or.inr rfl | assumption)⟩, ?_⟩
      | refine ⟨fun h => absurd h (by decide), fun _ => ?_⟩
      | refine ⟨fun _ => ?_, fun h => absurd h (by decide)⟩
      | refine ⟨fun h => ?_, fun h => ?_⟩
      | fail)
