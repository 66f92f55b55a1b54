/-! ROLL: moveHome -/
def cMvP (μ : zMu) (frm x : Int32) (i f a : Nat) : Prop := f = 17 ∧ a < i ∧ (x.toUInt32 >>> ((nI a).toUInt32 &&& Int32.toUInt32 31)).toInt32 &&& 1 = 1 ∧ μ 17 a 5 = frm
def cMv (μ : zMu) (frm to x : Int32) (i : Nat) : zMu := fun f a k => if f = 17 ∧ a < i ∧ (x.toUInt32 >>> ((nI a).toUInt32 &&& Int32.toUInt32 31)).toInt32 &&& 1 = 1 ∧ μ 17 a 5 = frm ∧ (k = 5 ∨ k = 2 ∨ k = 6) then (if k = 5 then to else if k = 2 then μ 13 0 to.toNatClampNeg else μ 14 0 to.toNatClampNeg) else μ f a k
theorem cMv_o {μ : zMu} {frm to x : Int32} {i f a k : Nat} (hf : f ≠ 17) : cMv μ frm to x i f a k = μ f a k := by
  unfold cMv
  rw [if_neg (by omega)]
theorem cMv_ge {μ : zMu} {frm to x : Int32} {i a k : Nat} (ha : i ≤ a) : cMv μ frm to x i 17 a k = μ 17 a k := by
  unfold cMv
  rw [if_neg (by omega)]
theorem cMv_yes {μ : zMu} {frm to x : Int32} {i : Nat} (hb : zbit x (nI i)) (h5 : μ 17 i 5 = frm) : zu (zu (zu (cMv μ frm to x i) 17 i 5 to) 17 i 2 (μ 13 0 to.toNatClampNeg)) 17 i 6 (μ 14 0 to.toNatClampNeg) = cMv μ frm to x (i + 1) := by
  unfold zbit at hb
  funext f a k
  simp only [zu, cMv]
  grind (splits := 40)
theorem cMv_no {μ : zMu} {frm to x : Int32} {i : Nat} (h : ¬ (zbit x (nI i) ∧ μ 17 i 5 = frm)) : cMv μ frm to x i = cMv μ frm to x (i + 1) := by
  unfold zbit at h
  funext f a k
  simp only [cMv]
  grind (splits := 40)
theorem c_Ro_moveHome {d n : Nat} {μ : zMu} {frm to x : Int32} {K : Option zV → zMu → Prop} (hn : μ 1 0 1 = nI n) (h20 : n ≤ 20) (ht : vp_in to 10) (hK : K none (cMv μ frm to x n)) : Ct (d + 1) m_Ro_moveHome [zR 1 0, zI frm, zI to, zI x] μ K := by
  refine zmeet rfl (Nat.le_of_ble_eq_true rfl) (fun S => ?_)
  have L : ∀ (k i : Nat) (v : Int32) (μ1 : zMu), i + k = n → v = nI i → μ1 = cMv μ frm to x i → zG S (d + 1) m_Ro_moveHome K 3 [some (zR 1 0), some (zI frm), some (zI to), some (zI x), some (zI v)] [] μ1 := by
    intro k
    induction k with
    | zero =>
      intro i v μ1 hi hv hm
      subst hv
      obtain rfl : i = n := by omega
      have hn1 : μ1 1 0 1 = nI i := by rw [hm, cMv_o (by decide)]; exact hn
      refine zs k_Ro_moveHome rfl ?_
      repeat' (first
        | exact zKn hK hm
        | refine zs k_Ro_moveHome rfl ?_
        | refine br_t (by simp (disch := omega) only [hn1, nI_leI, nI_ltI, nI_eq]; omega) ?_
        | refine br_f (by simp (disch := omega) only [hn1, nI_leI, nI_ltI, nI_eq]; omega) ?_
        | refine ⟨Nat.zero_lt_one, rfl, ?_⟩
        | refine ⟨rfl, ?_⟩
        | refine ⟨⟨Nat.zero_lt_one, rfl⟩, Nat.le_of_ble_eq_true rfl, ?_⟩
        | refine ⟨Nat.le_of_ble_eq_true rfl, Nat.le_of_ble_eq_true rfl, ?_⟩
        | refine ⟨(by first | exact Nat.zero_lt_one | assumption | omega), (by first | assumption | exact vp_in_nI (by omega) (by omega) | (unfold vp_in; decide)), ?_⟩
        | refine ⟨(by first | exact Nat.zero_lt_one | assumption | omega), rfl, ?_⟩
        | refine ⟨⟨(by first | exact Nat.zero_lt_one | assumption | omega), rfl⟩, Nat.le_of_ble_eq_true rfl, ?_⟩
        | refine ⟨(by first | exact Nat.zero_lt_one | assumption | omega), ?_⟩
        | refine ⟨Or.inl rfl, ?_⟩
        | refine ⟨Or.inr (Or.inl rfl), ?_⟩
        | refine ⟨Or.inr (Or.inr rfl), ?_⟩
        | refine ⟨Or.inr ⟨rfl, (by first | exact Or.inl rfl | exact Or.inr rfl | assumption)⟩, ?_⟩
        | refine ⟨fun h => absurd h (by decide), fun _ => ?_⟩
        | refine ⟨fun _ => ?_, fun h => absurd h (by decide)⟩
        | refine ⟨fun h => ?_, fun h => ?_⟩
        | fail)
    | succ k ih =>
      intro i v μ1 hi hv hm
      subst hv
      have hn1 : μ1 1 0 1 = nI n := by rw [hm, cMv_o (by decide)]; exact hn
      have hc : (nI i).toNatClampNeg = i := nI_clamp (by omega)
      have h5 : μ1 17 (nI i).toNatClampNeg 5 = μ 17 i 5 := by rw [hc, hm, cMv_ge (Nat.le_refl i)]
      have hc16 : (nI i).toNatClampNeg < 20 := by omega
      refine zs k_Ro_moveHome rfl ?_
      repeat' (first
        | refine c_Ro_isIn (fun hb => ?_) (fun hb => ?_)
        | refine c_Ro_setHome (vp_in_nI (by omega) (by omega)) ht ?_
        | refine ih (i + 1) _ _ (by omega) (by exact nI_1 i) ?_
        | refine zs k_Ro_moveHome rfl ?_
        | refine br_t (by simp (disch := omega) only [hn1, nI_leI, nI_ltI, nI_eq]; omega) ?_
        | refine br_f (by simp (disch := omega) only [hn1, nI_leI, nI_ltI, nI_eq]; omega) ?_
        | refine ⟨Nat.zero_lt_one, rfl, ?_⟩
        | refine ⟨rfl, ?_⟩
        | refine ⟨⟨Nat.zero_lt_one, rfl⟩, Nat.le_of_ble_eq_true rfl, ?_⟩
        | refine ⟨Nat.le_of_ble_eq_true rfl, Nat.le_of_ble_eq_true rfl, ?_⟩
        | refine ⟨(by first | exact Nat.zero_lt_one | assumption | omega), (by first | assumption | exact vp_in_nI (by omega) (by omega) | (unfold vp_in; decide)), ?_⟩
        | refine ⟨(by first | exact Nat.zero_lt_one | assumption | omega), rfl, ?_⟩
        | refine ⟨⟨(by first | exact Nat.zero_lt_one | assumption | omega), rfl⟩, Nat.le_of_ble_eq_true rfl, ?_⟩
        | refine ⟨(by first | exact Nat.zero_lt_one | assumption | omega), ?_⟩
        | refine ⟨Or.inl rfl, ?_⟩
        | refine ⟨Or.inr (Or.inl rfl), ?_⟩
        | refine ⟨Or.inr (Or.inr rfl), ?_⟩
        | refine ⟨Or.inr ⟨rfl, (by first | exact Or.inl rfl | exact Or.inr rfl | assumption)⟩, ?_⟩
        | refine ⟨fun h => absurd h (by decide), fun _ => ?_⟩
        | refine ⟨fun _ => ?_, fun h => absurd h (by decide)⟩
        | refine ⟨fun h => ?_, fun h => ?_⟩
        | fail)
      · rw [hm]
        exact cMv_no (fun g => absurd (h5.trans g.2) (by assumption))
      · rw [hc, hm, cMv_o (by decide), cMv_o (by decide)]
        exact cMv_yes hb (h5.symm.trans (by assumption))
      · rw [hm]
        exact cMv_no (fun g => hb g.1)
  repeat' (first
    | refine L n 0 _ _ (by omega) rfl ?_
    | refine zs k_Ro_moveHome rfl ?_
    | refine ⟨Nat.zero_lt_one, rfl, ?_⟩
    | refine ⟨rfl, ?_⟩
    | refine ⟨⟨Nat.zero_lt_one, rfl⟩, Nat.le_of_ble_eq_true rfl, ?_⟩
    | refine ⟨Nat.le_of_ble_eq_true rfl, Nat.le_of_ble_eq_true rfl, ?_⟩
    | refine ⟨(by first | exact Nat.zero_lt_one | assumption | omega), (by first | assumption | exact vp_in_nI (by omega) (by omega) | (unfold vp_in; decide)), ?_⟩
    | refine ⟨(by first | exact Nat.zero_lt_one | assumption | omega), rfl, ?_⟩
    | refine ⟨⟨(by first | exact Nat.zero_lt_one | assumption | omega), rfl⟩, Nat.le_of_ble_eq_true rfl, ?_⟩
    | refine ⟨(by first | exact Nat.zero_lt_one | assumption | omega), ?_⟩
    | refine ⟨Or.inl rfl, ?_⟩
    | refine ⟨Or.inr (Or.inl rfl), ?_⟩
    | refine ⟨Or.inr (Or.inr rfl), ?_⟩
    | refine ⟨Or.inr ⟨rfl, (by first | exact Or.inl rfl | exact Or.inr rfl | assumption)⟩, ?_⟩
    | refine ⟨fun h => absurd h (by decide), fun _ => ?_⟩
    | refine ⟨fun _ => ?_, fun h => absurd h (by decide)⟩
    | refine ⟨fun h => ?_, fun h => ?_⟩
    | fail)
  funext f a k
  simp only [cMv]
  rw [if_neg (by omega)]
