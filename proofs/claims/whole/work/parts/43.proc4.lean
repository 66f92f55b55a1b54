/-! PROCESSION: takeNext -/
def oNx (A : Nat → Nat → Bool) (n : Nat) (lf : Nat → Bool) : Nat := if pUn lf A n = -1 then (pFst lf n).toNatClampNeg else (pUn lf A n).toNatClampNeg
def zFr6 (μ μ' : zMu) : Prop := ∀ f i k, f ∉ [4, 27, 28, 29, 30, 31] → μ' f i k = μ f i k
def oRing (lf : Nat → Bool) (A : Nat → Nat → Bool) (n nx : Nat) (μ μ' : zMu) : Prop := (¬ (pUn lf A n = -1 ∧ μ 4 0 1 = 0) ∧ μ' 4 0 1 = μ 4 0 1 ∧ ∀ k, μ' 28 0 k = μ 28 0 k) ∨ ((pUn lf A n = -1 ∧ μ 4 0 1 = 0) ∧ ∃ T s, pRg (pWk lf A n nx) T s ∧ T ≤ 20 ∧ μ' 4 0 1 = nI (T - s) ∧ ∀ k, k < T - s → μ' 28 0 k = nI (pWk lf A n nx (s + k)))
theorem oNx_in {A : Nat → Nat → Bool} {n : Nat} {lf : Nat → Bool} (h20 : n ≤ 20) (hne : ∃ p, p < n ∧ lf p = true) : oNx A n lf < n ∧ lf (oNx A n lf) = true ∧ (pUn lf A n = -1 → pFst lf n = nI (oNx A n lf)) ∧ (¬ pUn lf A n = -1 → pUn lf A n = nI (oNx A n lf)) := by
  unfold oNx
  by_cases hu : pUn lf A n = -1
  · rw [if_pos hu]
    rcases pFst_in (P := lf) (n := n) (by omega) with h | ⟨r, h1, h2, h3, -⟩
    · obtain ⟨p, hp, hlp⟩ := hne
      rw [pFst_m1 (by omega) h p hp] at hlp
      cases hlp
    · rw [h2, nI_clamp (by omega)]
      exact ⟨h1, h3, fun _ => rfl, fun h => absurd hu h⟩
  · rw [if_neg hu]
    rcases pFst_in (P := fun p => lf p && decide (pAh lf A n p = -1)) (n := n) (by omega) with h | ⟨r, h1, h2, h3, -⟩
    · exact absurd h hu
    · have e : pUn lf A n = nI r := h2
      rw [e, nI_clamp (by omega)]
      simp only [Bool.and_eq_true] at h3
      exact ⟨h1, h3.1, fun h => absurd h (nI_nem1 (by omega)), fun _ => rfl⟩
set_option maxHeartbeats 4000000 in
theorem c_Pr_takeNext {d n m : Nat} {μ : zMu} {lf : Nat → Bool} {A : Nat → Nat → Bool} {K : Option zV → zMu → Prop} (hn : μ 1 0 1 = nI n) (h20 : n ≤ 20) (hl : cLf μ lf) (hA : cLd μ A n) (hne : ∃ p, p < n ∧ lf p = true) (hm : μ 4 0 0 = nI m) (hm20 : m < 20)
    (hK : ∀ μ' : zMu, zFr6 μ μ' → cLf μ' (fun p => lf p && decide (p ≠ oNx A n lf)) → μ' 4 0 0 = nI (m + 1) → (∀ k, k < m → μ' 27 0 k = μ 27 0 k) → μ' 27 0 m = nI (oNx A n lf) → oRing lf A n (oNx A n lf) μ μ' → K none μ') : Ct (d + 2) m_Pr_takeNext [zR 4 0] μ K := by
  refine zmeet rfl (Nat.le_of_ble_eq_true rfl) (fun S => ?_)
  obtain ⟨hx1, hx2, hx3, hx4⟩ := oNx_in (A := A) h20 hne
  generalize oNx A n lf = nx at hK hx1 hx2 hx3 hx4
  have hc : (nI nx).toNatClampNeg = nx := nI_clamp (by omega)
  have tail : ∀ (l1 : Int32) (μ1 : zMu), l1 = nI nx → zFrm [28, 30, 31] μ μ1 → oRing lf A n nx μ μ1 → zG S (d + 2) m_Pr_takeNext K 33 [some (zR 4 0), some (zI l1)] [] μ1 := by
    intro l1 μ1 e1 hf hor
    subst e1
    have h40 : μ1 4 0 0 = nI m := (hf 4 0 0 (by decide) (by omega)).trans hm
    have hcm : (μ1 4 0 0).toNatClampNeg = m := by rw [h40]; exact nI_clamp (by omega)
    have hvm : vp_in (μ1 4 0 0) 20 := by rw [h40]; exact vp_in_nI (by omega) (by omega)
    refine zs k_Pr_takeNext rfl ?_
    repeat' (first
      | refine hK _ ?_ ?_ ?_ ?_ ?_ ?_
      | refine zs k_Pr_takeNext rfl ?_
      | refine ⟨Nat.zero_lt_one, rfl, ?_⟩
      | refine ⟨rfl, ?_⟩
      | refine ⟨⟨Nat.zero_lt_one, rfl⟩, Nat.le_of_ble_eq_true rfl, ?_⟩
      | refine ⟨Nat.le_of_ble_eq_true rfl, Nat.le_of_ble_eq_true rfl, ?_⟩
      | refine ⟨(by first | exact Nat.zero_lt_one | assumption | omega), (by first | assumption | exact vp_in_nI (by omega) (by omega) | (unfold vp_in; decide)), ?_⟩
      | refine ⟨(by first | exact Nat.zero_lt_one | assumption | omega), rfl, ?_⟩
      | refine ⟨⟨(by first | exact Nat.zero_lt_one | assumption | omega), rfl⟩, Nat.le_of_ble_eq_true rfl, ?_⟩
      | refine ⟨(by first | exact Nat.zero_lt_one | assumption | omega), ?_⟩
      | refine ⟨Or.inl rfl, ?_⟩
      | refine ⟨Or.inr (Or.inl rfl), ?_⟩
      | refine ⟨Or.inr (Or.inr rfl), ?_⟩
      | refine ⟨Or.inr ⟨rfl, (by first | exact Or.inl rfl | exact Or.inr rfl | assumption)⟩, ?_⟩
      | refine ⟨fun h => absurd h (by decide), fun _ => ?_⟩
      | refine ⟨fun _ => ?_, fun h => absurd h (by decide)⟩
      | refine ⟨fun h => ?_, fun h => ?_⟩
      | fail)
    · intro f i k hfs
      simp only [List.mem_cons, List.not_mem_nil, or_false, not_or] at hfs
      rw [← hf f i k (by simp only [List.mem_cons, List.not_mem_nil, or_false, not_or]; omega) (by omega)]
      simp only [zu]
      rw [if_neg (by omega), if_neg (by omega), if_neg (by omega)]
    · intro p hp
      rw [hc]
      show (if 29 = 29 ∧ p = nx ∧ 0 = 0 then vp_nar .boolean 0 else μ1 29 0 p) = _
      by_cases e : p = nx
      · rw [if_pos ⟨rfl, e, rfl⟩]
        simp [e]
        rfl
      · rw [if_neg (by omega), hf 29 0 p (by decide) (by omega), hl p hp]
        simp [e]
    · show μ1 4 0 0 + 1 = _
      rw [h40, nI_1]
    · intro k hk
      exact (if_neg (show ¬ (27 = 27 ∧ k = (μ1 4 0 0).toNatClampNeg ∧ 0 = 0) by omega)).trans (hf 27 0 k (by decide) (by omega))
    · exact if_pos (show 27 = 27 ∧ m = (μ1 4 0 0).toNatClampNeg ∧ 0 = 0 from ⟨rfl, hcm.symm, rfl⟩)
    · exact hor
  by_cases hu : pUn lf A n = -1
  · have hpl := hx3 hu
    have hpn : ¬ pFst lf n = -1 := by rw [hpl]; exact nI_nem1 (by omega)
    have hall : ∀ p, p < n → lf p = true → ¬ pAh lf A n p = -1 := fun p hp hlp hah => by
      have := pFst_m1 (P := fun p => lf p && decide (pAh lf A n p = -1)) (n := n) (by omega) hu p hp
      simp [hlp, hah] at this
    by_cases hr0 : μ 4 0 1 = 0
    · skip
      repeat' (first
        | refine c_Pr_leastUnled hn h20 hl hA ?_
        | refine c_Pr_leastLeft hn h20 hl ?_
        | refine ⟨fun h => absurd hu h, fun _ => ?_⟩
        | refine ⟨fun _ => ?_, fun h => absurd h hpn⟩
        | refine ⟨fun h => absurd hr0 h, fun _ => ?_⟩
        | refine c_Pr_tellRing (lf := lf) (A := A) (n := n) (st := nx) hn h20 hx1 hpl hx2 hl hA hall hr0 (fun T s μ' hrg hT hf h41 h28 => ?_)
        | refine tail _ _ hpl hf (Or.inr ⟨⟨hu, hr0⟩, T, s, hrg, hT, h41, h28⟩)
        | refine zs k_Pr_takeNext rfl ?_
        | refine ⟨Nat.zero_lt_one, rfl, ?_⟩
        | refine ⟨rfl, ?_⟩
        | refine ⟨⟨Nat.zero_lt_one, rfl⟩, Nat.le_of_ble_eq_true rfl, ?_⟩
        | refine ⟨Nat.le_of_ble_eq_true rfl, Nat.le_of_ble_eq_true rfl, ?_⟩
        | refine ⟨(by first | exact Nat.zero_lt_one | assumption | omega), (by first | assumption | exact vp_in_nI (by omega) (by omega) | (unfold vp_in; decide)), ?_⟩
        | refine ⟨(by first | exact Nat.zero_lt_one | assumption | omega), rfl, ?_⟩
        | refine ⟨⟨(by first | exact Nat.zero_lt_one | assumption | omega), rfl⟩, Nat.le_of_ble_eq_true rfl, ?_⟩
        | refine ⟨(by first | exact Nat.zero_lt_one | assumption | omega), ?_⟩
        | refine ⟨Or.inl rfl, ?_⟩
        | refine ⟨Or.inr (Or.inl rfl), ?_⟩
        | refine ⟨Or.inr (Or.inr rfl), ?_⟩
        | refine ⟨Or.inr ⟨rfl, (by first | exact Or.inl rfl | exact Or.inr rfl | assumption)⟩, ?_⟩
        | refine ⟨fun h => absurd h (by decide), fun _ => ?_⟩
        | refine ⟨fun _ => ?_, fun h => absurd h (by decide)⟩
        | refine ⟨fun h => ?_, fun h => ?_⟩
        | fail)
    · skip
      repeat' (first
        | refine tail _ _ hpl (fun _ _ _ _ _ => rfl) (Or.inl ⟨fun h => hr0 h.2, rfl, fun _ => rfl⟩)
        | refine c_Pr_leastUnled hn h20 hl hA ?_
        | refine c_Pr_leastLeft hn h20 hl ?_
        | refine ⟨fun h => absurd hu h, fun _ => ?_⟩
        | refine ⟨fun _ => ?_, fun h => absurd h hpn⟩
        | refine ⟨fun _ => ?_, fun h => absurd h hr0⟩
        | refine zs k_Pr_takeNext rfl ?_
        | refine ⟨Nat.zero_lt_one, rfl, ?_⟩
        | refine ⟨rfl, ?_⟩
        | refine ⟨⟨Nat.zero_lt_one, rfl⟩, Nat.le_of_ble_eq_true rfl, ?_⟩
        | refine ⟨Nat.le_of_ble_eq_true rfl, Nat.le_of_ble_eq_true rfl, ?_⟩
        | refine ⟨(by first | exact Nat.zero_lt_one | assumption | omega), (by first | assumption | exact vp_in_nI (by omega) (by omega) | (unfold vp_in; decide)), ?_⟩
        | refine ⟨(by first | exact Nat.zero_lt_one | assumption | omega), rfl, ?_⟩
        | refine ⟨⟨(by first | exact Nat.zero_lt_one | assumption | omega), rfl⟩, Nat.le_of_ble_eq_true rfl, ?_⟩
        | refine ⟨(by first | exact Nat.zero_lt_one | assumption | omega), ?_⟩
        | refine ⟨Or.inl rfl, ?_⟩
        | refine ⟨Or.inr (Or.inl rfl), ?_⟩
        | refine ⟨Or.inr (Or.inr rfl), ?_⟩
        | refine ⟨Or.inr ⟨rfl, (by first | exact Or.inl rfl | exact Or.inr rfl | assumption)⟩, ?_⟩
        | refine ⟨fun h => absurd h (by decide), fun _ => ?_⟩
        | refine ⟨fun _ => ?_, fun h => absurd h (by decide)⟩
        | refine ⟨fun h => ?_, fun h => ?_⟩
        | fail)
  · have hpl := hx4 hu
    repeat' (first
      | refine tail _ _ hpl (fun _ _ _ _ _ => rfl) (Or.inl ⟨fun h => hu h.1, rfl, fun _ => rfl⟩)
      | refine c_Pr_leastUnled hn h20 hl hA ?_
      | refine ⟨fun _ => ?_, fun h => absurd h hu⟩
      | refine zs k_Pr_takeNext rfl ?_
      | refine ⟨Nat.zero_lt_one, rfl, ?_⟩
      | refine ⟨rfl, ?_⟩
      | refine ⟨⟨Nat.zero_lt_one, rfl⟩, Nat.le_of_ble_eq_true rfl, ?_⟩
      | refine ⟨Nat.le_of_ble_eq_true rfl, Nat.le_of_ble_eq_true rfl, ?_⟩
      | refine ⟨(by first | exact Nat.zero_lt_one | assumption | omega), (by first | assumption | exact vp_in_nI (by omega) (by omega) | (unfold vp_in; decide)), ?_⟩
      | refine ⟨(by first | exact Nat.zero_lt_one | assumption | omega), rfl, ?_⟩
      | refine ⟨⟨(by first | exact Nat.zero_lt_one | assumption | omega), rfl⟩, Nat.le_of_ble_eq_true rfl, ?_⟩
      | refine ⟨(by first | exact Nat.zero_lt_one | assumption | omega), ?_⟩
      | refine ⟨Or.inl rfl, ?_⟩
      | refine ⟨Or.inr (Or.inl rfl), ?_⟩
      | refine ⟨Or.inr (Or.inr rfl), ?_⟩
      | refine ⟨Or.inr ⟨rfl, (by first | exact Or.inl rfl | exact Or.inr rfl | assumption)⟩, ?_⟩
      | refine ⟨fun h => absurd h (by decide), fun _ => ?_⟩
      | refine ⟨fun _ => ?_, fun h => absurd h (by decide)⟩
      | refine ⟨fun h => ?_, fun h => ?_⟩
      | fail)
