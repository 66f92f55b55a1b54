/-! CALLS: the visits -/
theorem c_Ca_add {d : Nat} {μ : zMu} {x y z : Int32} {K : Option zV → zMu → Prop} (hs : vp_in (μ 7 0 0) 40) (hK : K none (zu (zu (zu (zu μ 46 0 (μ 7 0 0).toNatClampNeg x) 45 0 (μ 7 0 0).toNatClampNeg y) 47 0 (μ 7 0 0).toNatClampNeg z) 7 0 0 (μ 7 0 0 + 1))) : Ct d m_Ca_add [zR 7 0, zI x, zI y, zI z] μ K := by
  refine zmeet rfl (Nat.le_of_ble_eq_true rfl) (fun S => ?_)
  repeat' (first
    | exact hK
    | refine zs k_Ca_add rfl ?_
    | refine ⟨Nat.zero_lt_one, rfl, ?_⟩
    | refine ⟨rfl, ?_⟩
    | refine ⟨⟨Nat.zero_lt_one, rfl⟩, Nat.le_of_ble_eq_true rfl, ?_⟩
    | refine ⟨Nat.le_of_ble_eq_true rfl, Nat.le_of_ble_eq_true rfl, ?_⟩
    | refine ⟨(by first | exact Nat.zero_lt_one | assumption | omega), (by first | assumption | exact vp_in_nI (by omega) (by omega) | (unfold vp_in; decide)), ?_⟩
    | refine ⟨(by first | exact Nat.zero_lt_one | assumption | omega), rfl, ?_⟩
    | refine ⟨⟨(by first | exact Nat.zero_lt_one | assumption | omega), rfl⟩, Nat.le_of_ble_eq_true rfl, ?_⟩
    | refine ⟨(by first | exact Nat.zero_lt_one | assumption | omega), ?_⟩
    | refine ⟨Or.inl rfl, ?_⟩
    | refine ⟨Or.inr (Or.inl rfl), ?_⟩
    | refine ⟨Or.inr (Or.inr rfl), ?_⟩
    | refine ⟨Or.inr ⟨rfl, (by first | exact Or.inl rfl | exact Or.inr rfl | assumption)⟩, ?_⟩
    | refine ⟨fun h => absurd h (by decide), fun _ => ?_⟩
    | refine ⟨fun _ => ?_, fun h => absurd h (by decide)⟩
    | refine ⟨fun h => ?_, fun h => ?_⟩
    | fail)
theorem c_Ca_isBetween {d : Nat} {μ : zMu} {v x y : Int32} {K : Option zV → zMu → Prop} (hv : vp_in v 40) (h1 : μ 46 0 v.toNatClampNeg = x ∧ μ 45 0 v.toNatClampNeg = y → K (some (zI 1)) μ) (h0 : ¬ (μ 46 0 v.toNatClampNeg = x ∧ μ 45 0 v.toNatClampNeg = y) → K (some (zI 0)) μ) : Ct d m_Ca_isBetween [zR 7 0, zI v, zI x, zI y] μ K := by
  refine zmeet rfl (Nat.le_of_ble_eq_true rfl) (fun S => ?_)
  repeat' (first
    | exact h0 (by grind)
    | exact h1 (by grind)
    | refine zs k_Ca_isBetween rfl ?_
    | refine ⟨Nat.zero_lt_one, rfl, ?_⟩
    | refine ⟨rfl, ?_⟩
    | refine ⟨⟨Nat.zero_lt_one, rfl⟩, Nat.le_of_ble_eq_true rfl, ?_⟩
    | refine ⟨Nat.le_of_ble_eq_true rfl, Nat.le_of_ble_eq_true rfl, ?_⟩
    | refine ⟨(by first | exact Nat.zero_lt_one | assumption | omega), (by first | assumption | exact vp_in_nI (by omega) (by omega) | (unfold vp_in; decide)), ?_⟩
    | refine ⟨(by first | exact Nat.zero_lt_one | assumption | omega), rfl, ?_⟩
    | refine ⟨⟨(by first | exact Nat.zero_lt_one | assumption | omega), rfl⟩, Nat.le_of_ble_eq_true rfl, ?_⟩
    | refine ⟨(by first | exact Nat.zero_lt_one | assumption | omega), ?_⟩
    | refine ⟨Or.inl rfl, ?_⟩
    | refine ⟨Or.inr (Or.inl rfl), ?_⟩
    | refine ⟨Or.inr (Or.inr rfl), ?_⟩
    | refine ⟨Or.inr ⟨rfl, (by first | exact Or.inl rfl | exact Or.inr rfl | assumption)⟩, ?_⟩
    | refine ⟨fun h => absurd h (by decide), fun _ => ?_⟩
    | refine ⟨fun _ => ?_, fun h => absurd h (by decide)⟩
    | refine ⟨fun h => ?_, fun h => ?_⟩
    | fail)
theorem c_Ca_isLate {d : Nat} {μ : zMu} {v x : Int32} {K : Option zV → zMu → Prop} (hv : vp_in v 40) (h1 : μ 47 0 v.toNatClampNeg + μ 7 0 1 < x → K (some (zI 1)) μ) (h0 : ¬ μ 47 0 v.toNatClampNeg + μ 7 0 1 < x → K (some (zI 0)) μ) : Ct d m_Ca_isLate [zR 7 0, zI v, zI x] μ K := by
  refine zmeet rfl (Nat.le_of_ble_eq_true rfl) (fun S => ?_)
  repeat' (first
    | exact h0 (by grind)
    | exact h1 (by grind)
    | refine zs k_Ca_isLate rfl ?_
    | refine ⟨Nat.zero_lt_one, rfl, ?_⟩
    | refine ⟨rfl, ?_⟩
    | refine ⟨⟨Nat.zero_lt_one, rfl⟩, Nat.le_of_ble_eq_true rfl, ?_⟩
    | refine ⟨Nat.le_of_ble_eq_true rfl, Nat.le_of_ble_eq_true rfl, ?_⟩
    | refine ⟨(by first | exact Nat.zero_lt_one | assumption | omega), (by first | assumption | exact vp_in_nI (by omega) (by omega) | (unfold vp_in; decide)), ?_⟩
    | refine ⟨(by first | exact Nat.zero_lt_one | assumption | omega), rfl, ?_⟩
    | refine ⟨⟨(by first | exact Nat.zero_lt_one | assumption | omega), rfl⟩, Nat.le_of_ble_eq_true rfl, ?_⟩
    | refine ⟨(by first | exact Nat.zero_lt_one | assumption | omega), ?_⟩
    | refine ⟨Or.inl rfl, ?_⟩
    | refine ⟨Or.inr (Or.inl rfl), ?_⟩
    | refine ⟨Or.inr (Or.inr rfl), ?_⟩
    | refine ⟨Or.inr ⟨rfl, (by first | exact Or.inl rfl | exact Or.inr rfl | assumption)⟩, ?_⟩
    | refine ⟨fun h => absurd h (by decide), fun _ => ?_⟩
    | refine ⟨fun _ => ?_, fun h => absurd h (by decide)⟩
    | refine ⟨fun h => ?_, fun h => ?_⟩
    | fail)
/-- how many of the first -/
def pCt (P : Nat → Bool) : Nat → Nat
  | 0 => 0
  | n + 1 => pCt P n + (if P n then 1 else 0)
theorem pCt_le (P : Nat → Bool) : ∀ n, pCt P n ≤ n
  | 0 => Nat.le_refl _
  | n + 1 => by
    have := pCt_le P n
    rw [pCt]
    split <;> omega
/-- the i-th for which P holds -/
def pNth (P : Nat → Bool) (i : Int32) (n : Nat) : Int32 := pFst (fun v => P v && decide (nI (pCt P v) = i)) n
theorem c_Ca_find {d n : Nat} {μ : zMu} {x j : Int32} {K : Option zV → zMu → Prop} (hn : μ 7 0 0 = nI n) (h40 : n ≤ 40) (hK : K (some (zI (pNth (fun v => decide (μ 46 0 v = x)) j n))) μ) : Ct d m_Ca_find [zR 7 0, zI x, zI j] μ K := by
  refine zmeet rfl (Nat.le_of_ble_eq_true rfl) (fun S => ?_)
  unfold pNth at hK
  have L : ∀ (k i : Nat) (v c : Int32), i + k = n → v = nI i → c = nI (pCt (fun v => decide (μ 46 0 v = x)) i) → (∀ r, r < i → (decide (μ 46 0 r = x) && decide (nI (pCt (fun v => decide (μ 46 0 v = x)) r) = j)) = false) → zG S d m_Ca_find K 5 [some (zR 7 0), some (zI x), some (zI j), some (zI c), some (zI v)] [] μ := by
    intro k
    induction k with
    | zero =>
      intro i v c hi hv hcv hn0
      subst hv hcv
      obtain rfl : i = n := by omega
      rw [pFst_none hn0] at hK
      refine zs k_Ca_find rfl ?_
      repeat' (first
        | exact hK
        | refine zs k_Ca_find rfl ?_
        | refine br_t (by simp (disch := omega) only [hn, nI_leI, nI_ltI, nI_eq]; omega) ?_
        | refine br_f (by simp (disch := omega) only [hn, nI_leI, nI_ltI, nI_eq]; omega) ?_
        | refine ⟨Nat.zero_lt_one, rfl, ?_⟩
        | refine ⟨rfl, ?_⟩
        | refine ⟨⟨Nat.zero_lt_one, rfl⟩, Nat.le_of_ble_eq_true rfl, ?_⟩
        | refine ⟨Nat.le_of_ble_eq_true rfl, Nat.le_of_ble_eq_true rfl, ?_⟩
        | refine ⟨(by first | exact Nat.zero_lt_one | assumption | omega), (by first | assumption | exact vp_in_nI (by omega) (by omega) | (unfold vp_in; decide)), ?_⟩
        | refine ⟨(by first | exact Nat.zero_lt_one | assumption | omega), rfl, ?_⟩
        | refine ⟨⟨(by first | exact Nat.zero_lt_one | assumption | omega), rfl⟩, Nat.le_of_ble_eq_true rfl, ?_⟩
        | refine ⟨(by first | exact Nat.zero_lt_one | assumption | omega), ?_⟩
        | refine ⟨Or.inl rfl, ?_⟩
        | refine ⟨Or.inr (Or.inl rfl), ?_⟩
        | refine ⟨Or.inr (Or.inr rfl), ?_⟩
        | refine ⟨Or.inr ⟨rfl, (by first | exact Or.inl rfl | exact Or.inr rfl | assumption)⟩, ?_⟩
        | refine ⟨fun h => absurd h (by decide), fun _ => ?_⟩
        | refine ⟨fun _ => ?_, fun h => absurd h (by decide)⟩
        | refine ⟨fun h => ?_, fun h => ?_⟩
        | fail)
    | succ k ih =>
      intro i v c hi hv hcv hn0
      subst hv
      have hc : (nI i).toNatClampNeg = i := nI_clamp (by omega)
      have hp : pCt (fun v => decide (μ 46 0 v = x)) (i + 1) = pCt (fun v => decide (μ 46 0 v = x)) i + (if decide (μ 46 0 i = x) then 1 else 0) := rfl
      refine zs k_Ca_find rfl ?_
      repeat' (first
        | refine ih (i + 1) _ _ (by omega) (by exact nI_1 i) (by rw [hp, hcv]; simp only [hc] at *; first | (rw [if_pos (by simpa using ‹_›)]; exact nI_1 _) | (rw [if_neg (by simpa using ‹_›)]; rfl)) (lt_s hn0 (by rw [Bool.and_eq_false_iff, decide_eq_false_iff_not, decide_eq_false_iff_not, ← hcv]; first | (left; rw [hc] at *; assumption) | (right; assumption)))
        | exact zKe hK (by rw [pFst_hit hn0 (by rw [Bool.and_eq_true, decide_eq_true_eq, decide_eq_true_eq, ← hcv]; exact ⟨by rw [hc] at *; assumption, by assumption⟩) (by omega) (by omega)]) rfl
        | refine zs k_Ca_find rfl ?_
        | refine br_t (by simp (disch := omega) only [hn, nI_leI, nI_ltI, nI_eq]; omega) ?_
        | refine br_f (by simp (disch := omega) only [hn, nI_leI, nI_ltI, nI_eq]; omega) ?_
        | refine ⟨Nat.zero_lt_one, rfl, ?_⟩
        | refine ⟨rfl, ?_⟩
        | refine ⟨⟨Nat.zero_lt_one, rfl⟩, Nat.le_of_ble_eq_true rfl, ?_⟩
        | refine ⟨Nat.le_of_ble_eq_true rfl, Nat.le_of_ble_eq_true rfl, ?_⟩
        | refine ⟨(by first | exact Nat.zero_lt_one | assumption | omega), (by first | assumption | exact vp_in_nI (by omega) (by omega) | (unfold vp_in; decide)), ?_⟩
        | refine ⟨(by first | exact Nat.zero_lt_one | assumption | omega), rfl, ?_⟩
        | refine ⟨⟨(by first | exact Nat.zero_lt_one | assumption | omega), rfl⟩, Nat.le_of_ble_eq_true rfl, ?_⟩
        | refine ⟨(by first | exact Nat.zero_lt_one | assumption | omega), ?_⟩
        | refine ⟨Or.inl rfl, ?_⟩
        | refine ⟨Or.inr (Or.inl rfl), ?_⟩
        | refine ⟨Or.inr (Or.inr rfl), ?_⟩
        | refine ⟨Or.inr ⟨rfl, (by first | exact Or.inl rfl | exact Or.inr rfl | assumption)⟩, ?_⟩
        | refine ⟨fun h => absurd h (by decide), fun _ => ?_⟩
        | refine ⟨fun _ => ?_, fun h => absurd h (by decide)⟩
        | refine ⟨fun h => ?_, fun h => ?_⟩
        | fail)
  repeat' (first
    | exact L n 0 _ _ (by omega) rfl rfl (fun r hr => absurd hr (by omega))
    | refine zs k_Ca_find rfl ?_
    | refine ⟨Nat.zero_lt_one, rfl, ?_⟩
    | refine ⟨rfl, ?_⟩
    | refine ⟨⟨Nat.zero_lt_one, rfl⟩, Nat.le_of_ble_eq_true rfl, ?_⟩
    | refine ⟨Nat.le_of_ble_eq_true rfl, Nat.le_of_ble_eq_true rfl, ?_⟩
    | refine ⟨(by first | exact Nat.zero_lt_one | assumption | omega), (by first | assumption | exact vp_in_nI (by omega) (by omega) | (unfold vp_in; decide)), ?_⟩
    | refine ⟨(by first | exact Nat.zero_lt_one | assumption | omega), rfl, ?_⟩
    | refine ⟨⟨(by first | exact Nat.zero_lt_one | assumption | omega), rfl⟩, Nat.le_of_ble_eq_true rfl, ?_⟩
    | refine ⟨(by first | exact Nat.zero_lt_one | assumption | omega), ?_⟩
    | refine ⟨Or.inl rfl, ?_⟩
    | refine ⟨Or.inr (Or.inl rfl), ?_⟩
    | refine ⟨Or.inr (Or.inr rfl), ?_⟩
    | refine ⟨Or.inr ⟨rfl, (by first | exact Or.inl rfl | exact Or.inr rfl | assumption)⟩, ?_⟩
    | refine ⟨fun h => absurd h (by decide), fun _ => ?_⟩
    | refine ⟨fun _ => ?_, fun h => absurd h (by decide)⟩
    | refine ⟨fun h => ?_, fun h => ?_⟩
    | fail)
/-- a row without its v-th, up to the new length n -/
def pRem (a : Nat → Int32) (v n : Nat) : Nat → Int32 := fun k => if v ≤ k ∧ k < n then a (k + 1) else a k
def cRem (μ : zMu) (v n : Nat) : zMu := fun f i k => if (f = 45 ∨ f = 46 ∨ f = 47) ∧ i = 0 then pRem (μ f i) v n k else μ f i k
theorem c_Ca_remove {d n v : Nat} {μ : zMu} {K : Option zV → zMu → Prop} (hn : μ 7 0 0 = nI (n + 1)) (h40 : n + 1 ≤ 40) (hv : v ≤ n) (hK : K none (cRem (zu μ 7 0 0 (nI n)) v n)) : Ct d m_Ca_remove [zR 7 0, zI (nI v)] μ K := by
  refine zmeet rfl (Nat.le_of_ble_eq_true rfl) (fun S => ?_)
  have L : ∀ (k i : Nat) (x : Int32) (μ1 : zMu), i + k = n → v ≤ i → x = nI i → μ1 = cRem (zu μ 7 0 0 (nI n)) v i → zG S d m_Ca_remove K 12 [some (zR 7 0), some (zI (nI v)), some (zI x)] [] μ1 := by
    intro k
    induction k with
    | zero =>
      intro i x μ1 hi hvi hx hm
      subst hx hm
      obtain rfl : i = n := by omega
      have hz : cRem (zu μ 7 0 0 (nI i)) v i 7 0 0 = nI i := rfl
      refine zs k_Ca_remove rfl ?_
      repeat' (first
        | exact hK
        | refine zs k_Ca_remove rfl ?_
        | refine br_t (by simp (disch := omega) only [hz, nI_leI, nI_ltI, nI_eq]; omega) ?_
        | refine br_f (by simp (disch := omega) only [hz, nI_leI, nI_ltI, nI_eq]; omega) ?_
        | refine ⟨Nat.zero_lt_one, rfl, ?_⟩
        | refine ⟨rfl, ?_⟩
        | refine ⟨⟨Nat.zero_lt_one, rfl⟩, Nat.le_of_ble_eq_true rfl, ?_⟩
        | refine ⟨Nat.le_of_ble_eq_true rfl, Nat.le_of_ble_eq_true rfl, ?_⟩
        | refine ⟨(by first | exact Nat.zero_lt_one | assumption | omega), (by first | assumption | exact vp_in_nI (by omega) (by omega) | (unfold vp_in; decide)), ?_⟩
        | refine ⟨(by first | exact Nat.zero_lt_one | assumption | omega), rfl, ?_⟩
        | refine ⟨⟨(by first | exact Nat.zero_lt_one | assumption | omega), rfl⟩, Nat.le_of_ble_eq_true rfl, ?_⟩
        | refine ⟨(by first | exact Nat.zero_lt_one | assumption | omega), ?_⟩
        | refine ⟨Or.inl rfl, ?_⟩
        | refine ⟨Or.inr (Or.inl rfl), ?_⟩
        | refine ⟨Or.inr (Or.inr rfl), ?_⟩
        | refine ⟨Or.inr ⟨rfl, (by first | exact Or.inl rfl | exact Or.inr rfl | assumption)⟩, ?_⟩
        | refine ⟨fun h => absurd h (by decide), fun _ => ?_⟩
        | refine ⟨fun _ => ?_, fun h => absurd h (by decide)⟩
        | refine ⟨fun h => ?_, fun h => ?_⟩
        | fail)
    | succ k ih =>
      intro i x μ1 hi hvi hx hm
      subst hx
      have hz : μ1 7 0 0 = nI n := by rw [hm]; rfl
      have hc : (nI i).toNatClampNeg = i := nI_clamp (by omega)
      have hc1 : (nI i + 1).toNatClampNeg = i + 1 := by rw [nI_1, nI_clamp (by omega)]
      have hv1 : vp_in (nI i + 1) 40 := by rw [nI_1]; exact vp_in_nI (by omega) (by omega)
      refine zs k_Ca_remove rfl ?_
      repeat' (first
        | refine ih (i + 1) _ _ (by omega) (by omega) (by exact nI_1 i) ?_
        | refine zs k_Ca_remove rfl ?_
        | refine br_t (by simp (disch := omega) only [hz, nI_leI, nI_ltI, nI_eq]; omega) ?_
        | refine br_f (by simp (disch := omega) only [hz, nI_leI, nI_ltI, nI_eq]; omega) ?_
        | refine ⟨Nat.zero_lt_one, rfl, ?_⟩
        | refine ⟨rfl, ?_⟩
        | refine ⟨⟨Nat.zero_lt_one, rfl⟩, Nat.le_of_ble_eq_true rfl, ?_⟩
        | refine ⟨Nat.le_of_ble_eq_true rfl, Nat.le_of_ble_eq_true rfl, ?_⟩
        | refine ⟨(by first | exact Nat.zero_lt_one | assumption | omega), (by first | assumption | exact vp_in_nI (by omega) (by omega) | (unfold vp_in; decide)), ?_⟩
        | refine ⟨(by first | exact Nat.zero_lt_one | assumption | omega), rfl, ?_⟩
        | refine ⟨⟨(by first | exact Nat.zero_lt_one | assumption | omega), rfl⟩, Nat.le_of_ble_eq_true rfl, ?_⟩
        | refine ⟨(by first | exact Nat.zero_lt_one | assumption | omega), ?_⟩
        | refine ⟨Or.inl rfl, ?_⟩
        | refine ⟨Or.inr (Or.inl rfl), ?_⟩
        | refine ⟨Or.inr (Or.inr rfl), ?_⟩
        | refine ⟨Or.inr ⟨rfl, (by first | exact Or.inl rfl | exact Or.inr rfl | assumption)⟩, ?_⟩
        | refine ⟨fun h => absurd h (by decide), fun _ => ?_⟩
        | refine ⟨fun _ => ?_, fun h => absurd h (by decide)⟩
        | refine ⟨fun h => ?_, fun h => ?_⟩
        | fail)
      rw [hc, hc1, hm]
      funext f a b
      simp only [cRem, pRem, zu]
      grind
  repeat' (first
    | refine L (n - v) v _ _ (by omega) (Nat.le_refl v) rfl ?_
    | refine zs k_Ca_remove rfl ?_
    | refine ⟨Nat.zero_lt_one, rfl, ?_⟩
    | refine ⟨rfl, ?_⟩
    | refine ⟨⟨Nat.zero_lt_one, rfl⟩, Nat.le_of_ble_eq_true rfl, ?_⟩
    | refine ⟨Nat.le_of_ble_eq_true rfl, Nat.le_of_ble_eq_true rfl, ?_⟩
    | refine ⟨(by first | exact Nat.zero_lt_one | assumption | omega), (by first | assumption | exact vp_in_nI (by omega) (by omega) | (unfold vp_in; decide)), ?_⟩
    | refine ⟨(by first | exact Nat.zero_lt_one | assumption | omega), rfl, ?_⟩
    | refine ⟨⟨(by first | exact Nat.zero_lt_one | assumption | omega), rfl⟩, Nat.le_of_ble_eq_true rfl, ?_⟩
    | refine ⟨(by first | exact Nat.zero_lt_one | assumption | omega), ?_⟩
    | refine ⟨Or.inl rfl, ?_⟩
    | refine ⟨Or.inr (Or.inl rfl), ?_⟩
    | refine ⟨Or.inr (Or.inr rfl), ?_⟩
    | refine ⟨Or.inr ⟨rfl, (by first | exact Or.inl rfl | exact Or.inr rfl | assumption)⟩, ?_⟩
    | refine ⟨fun h => absurd h (by decide), fun _ => ?_⟩
    | refine ⟨fun _ => ?_, fun h => absurd h (by decide)⟩
    | refine ⟨fun h => ?_, fun h => ?_⟩
    | fail)
  funext f a b
  simp only [cRem, pRem, zu, hn, nI_pred]
  grind
