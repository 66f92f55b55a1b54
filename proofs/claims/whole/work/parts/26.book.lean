/-! RULEBOOK -/
theorem i32_m1 (x : Int32) : x + (-1) = x - 1 := by grind
/-- the first place of n for which P holds, else -1 -/
def pFst (P : Nat → Bool) : Nat → Int32
  | 0 => -1
  | n + 1 => if pFst P n = -1 then (if P n then nI n else -1) else pFst P n
theorem nI_nem1 {n : Nat} (h : n < 2 ^ 31) : ¬ nI n = -1 := fun e => nI_pos h (by rw [e]; decide)
theorem pFst_none {P : Nat → Bool} : ∀ {n : Nat}, (∀ r, r < n → P r = false) → pFst P n = -1
  | 0, _ => rfl
  | n + 1, h => by
    rw [pFst, if_pos (pFst_none (fun r hr => h r (by omega))), h n (by omega)]
    rfl
theorem pFst_hit {P : Nat → Bool} {i : Nat} (h : ∀ r, r < i → P r = false) (hi : P i = true) (hb : i < 2 ^ 31) : ∀ {n : Nat}, i < n → pFst P n = nI i
  | 0, hn => absurd hn (by omega)
  | n + 1, hn => by
    rcases Nat.lt_or_ge i n with q | q
    · rw [pFst, pFst_hit h hi hb q, if_neg (nI_nem1 hb)]
    · obtain rfl : i = n := by omega
      rw [pFst, if_pos (pFst_none h), hi]
      rfl
theorem c_Bo_hasRule {d : Nat} {μ : zMu} {x : Int32} {K : Option zV → zMu → Prop} (h1 : 0 ≤ x → x < μ 3 0 0 → K (some (zI 1)) μ) (h0 : ¬ (0 ≤ x ∧ x < μ 3 0 0) → K (some (zI 0)) μ) : Ct d m_Bo_hasRule [zR 3 0, zI x] μ K := by
  refine zmeet rfl (Nat.le_of_ble_eq_true rfl) (fun S => ?_)
  repeat' (first
    | exact h0 (by grind)
    | exact h1 (by grind) (by grind)
    | refine zs k_Bo_hasRule rfl ?_
    | refine ⟨Nat.zero_lt_one, rfl, ?_⟩
    | refine ⟨rfl, ?_⟩
    | refine ⟨⟨Nat.zero_lt_one, rfl⟩, Nat.le_of_ble_eq_true rfl, ?_⟩
    | refine ⟨Nat.le_of_ble_eq_true rfl, Nat.le_of_ble_eq_true rfl, ?_⟩
    | refine ⟨(by first | exact Nat.zero_lt_one | assumption | omega), (by first | assumption | exact vp_in_nI (by omega) (by omega) | (unfold vp_in; decide)), ?_⟩
    | refine ⟨(by first | exact Nat.zero_lt_one | assumption | omega), rfl, ?_⟩
    | refine ⟨⟨(by first | exact Nat.zero_lt_one | assumption | omega), rfl⟩, Nat.le_of_ble_eq_true rfl, ?_⟩
    | refine ⟨(by first | exact Nat.zero_lt_one | assumption | omega), ?_⟩
    | refine ⟨Or.inl rfl, ?_⟩
    | refine ⟨Or.inr (Or.inl rfl), ?_⟩
    | refine ⟨Or.inr (Or.inr rfl), ?_⟩
    | refine ⟨Or.inr ⟨rfl, (by first | exact Or.inl rfl | exact Or.inr rfl | assumption)⟩, ?_⟩
    | refine ⟨fun h => absurd h (by decide), fun _ => ?_⟩
    | refine ⟨fun _ => ?_, fun h => absurd h (by decide)⟩
    | refine ⟨fun h => ?_, fun h => ?_⟩
    | fail)
theorem c_Bo_addHand {d : Nat} {μ : zMu} {x y : Int32} {K : Option zV → zMu → Prop} (hs : vp_in (μ 3 0 1) 20) (hK : K (some (zI (μ 3 0 1 + 1))) (zu (zu (zu μ 20 0 (μ 3 0 1).toNatClampNeg x) 21 0 (μ 3 0 1).toNatClampNeg y) 3 0 1 (μ 3 0 1 + 1))) : Ct d m_Bo_addHand [zR 3 0, zI x, zI y] μ K := by
  refine zmeet rfl (Nat.le_of_ble_eq_true rfl) (fun S => ?_)
  repeat' (first
    | exact hK
    | refine zs k_Bo_addHand rfl ?_
    | refine ⟨Nat.zero_lt_one, rfl, ?_⟩
    | refine ⟨rfl, ?_⟩
    | refine ⟨⟨Nat.zero_lt_one, rfl⟩, Nat.le_of_ble_eq_true rfl, ?_⟩
    | refine ⟨Nat.le_of_ble_eq_true rfl, Nat.le_of_ble_eq_true rfl, ?_⟩
    | refine ⟨(by first | exact Nat.zero_lt_one | assumption | omega), (by first | assumption | exact vp_in_nI (by omega) (by omega) | (unfold vp_in; decide)), ?_⟩
    | refine ⟨(by first | exact Nat.zero_lt_one | assumption | omega), rfl, ?_⟩
    | refine ⟨⟨(by first | exact Nat.zero_lt_one | assumption | omega), rfl⟩, Nat.le_of_ble_eq_true rfl, ?_⟩
    | refine ⟨(by first | exact Nat.zero_lt_one | assumption | omega), ?_⟩
    | refine ⟨Or.inl rfl, ?_⟩
    | refine ⟨Or.inr (Or.inl rfl), ?_⟩
    | refine ⟨Or.inr (Or.inr rfl), ?_⟩
    | refine ⟨Or.inr ⟨rfl, (by first | exact Or.inl rfl | exact Or.inr rfl | assumption)⟩, ?_⟩
    | refine ⟨fun h => absurd h (by decide), fun _ => ?_⟩
    | refine ⟨fun _ => ?_, fun h => absurd h (by decide)⟩
    | refine ⟨fun h => ?_, fun h => ?_⟩
    | fail)
/-- what the hands say: the latest of several -/
def pHand (hx hy : Nat → Int32) (x y : Int32) : Nat → Int32
  | 0 => 0
  | k + 1 => if hx k = x ∧ hy k = y then 1 else if hx k = y ∧ hy k = x then -1 else pHand hx hy x y k
theorem c_Bo_toldByHand {d n : Nat} {μ : zMu} {x y : Int32} {K : Option zV → zMu → Prop} (hn : μ 3 0 1 = nI n) (h20 : n ≤ 20) (hK : K (some (zI (pHand (μ 20 0) (μ 21 0) x y n))) μ) : Ct d m_Bo_toldByHand [zR 3 0, zI x, zI y] μ K := by
  refine zmeet rfl (Nat.le_of_ble_eq_true rfl) (fun S => ?_)
  generalize hRv : pHand (μ 20 0) (μ 21 0) x y n = Rv at hK
  have L : ∀ (i : Nat) (v : Int32), i ≤ n → v = nI i - 1 → pHand (μ 20 0) (μ 21 0) x y i = Rv → zG S d m_Bo_toldByHand K 7 [some (zR 3 0), some (zI x), some (zI y), some (zI v)] [] μ := by
    intro i
    induction i with
    | zero =>
      intro v hi hv hh
      subst hv
      rw [← hh] at hK
      refine zs k_Bo_toldByHand rfl ?_
      repeat' (first
        | refine br_t (by decide) ?_
        | exact hK
        | refine zs k_Bo_toldByHand rfl ?_
        | refine ⟨Nat.zero_lt_one, rfl, ?_⟩
        | refine ⟨rfl, ?_⟩
        | refine ⟨⟨Nat.zero_lt_one, rfl⟩, Nat.le_of_ble_eq_true rfl, ?_⟩
        | refine ⟨Nat.le_of_ble_eq_true rfl, Nat.le_of_ble_eq_true rfl, ?_⟩
        | refine ⟨(by first | exact Nat.zero_lt_one | assumption | omega), (by first | assumption | exact vp_in_nI (by omega) (by omega) | (unfold vp_in; decide)), ?_⟩
        | refine ⟨(by first | exact Nat.zero_lt_one | assumption | omega), rfl, ?_⟩
        | refine ⟨⟨(by first | exact Nat.zero_lt_one | assumption | omega), rfl⟩, Nat.le_of_ble_eq_true rfl, ?_⟩
        | refine ⟨(by first | exact Nat.zero_lt_one | assumption | omega), ?_⟩
        | refine ⟨Or.inl rfl, ?_⟩
        | refine ⟨Or.inr (Or.inl rfl), ?_⟩
        | refine ⟨Or.inr (Or.inr rfl), ?_⟩
        | refine ⟨Or.inr ⟨rfl, (by first | exact Or.inl rfl | exact Or.inr rfl | assumption)⟩, ?_⟩
        | refine ⟨fun h => absurd h (by decide), fun _ => ?_⟩
        | refine ⟨fun _ => ?_, fun h => absurd h (by decide)⟩
        | refine ⟨fun h => ?_, fun h => ?_⟩
        | fail)
    | succ i ih =>
      intro v hi hv hh
      subst hv
      rw [nI_pred]
      have hc : (nI i).toNatClampNeg = i := nI_clamp (by omega)
      rw [← hh] at hK
      unfold pHand at hK hh
      refine zs k_Bo_toldByHand rfl ?_
      repeat' (first
        | refine br_f (nI_pos (by omega)) ?_
        | refine ih _ (by omega) (by exact i32_m1 _) (by rw [← hh]; rw [hc] at *; grind)
        | exact (by rw [hc] at *; rw [if_pos (by grind)] at hK; exact hK)
        | exact (by rw [hc] at *; rw [if_neg (by grind), if_pos (by grind)] at hK; exact hK)
        | refine zs k_Bo_toldByHand rfl ?_
        | refine ⟨Nat.zero_lt_one, rfl, ?_⟩
        | refine ⟨rfl, ?_⟩
        | refine ⟨⟨Nat.zero_lt_one, rfl⟩, Nat.le_of_ble_eq_true rfl, ?_⟩
        | refine ⟨Nat.le_of_ble_eq_true rfl, Nat.le_of_ble_eq_true rfl, ?_⟩
        | refine ⟨(by first | exact Nat.zero_lt_one | assumption | omega), (by first | assumption | exact vp_in_nI (by omega) (by omega) | (unfold vp_in; decide)), ?_⟩
        | refine ⟨(by first | exact Nat.zero_lt_one | assumption | omega), rfl, ?_⟩
        | refine ⟨⟨(by first | exact Nat.zero_lt_one | assumption | omega), rfl⟩, Nat.le_of_ble_eq_true rfl, ?_⟩
        | refine ⟨(by first | exact Nat.zero_lt_one | assumption | omega), ?_⟩
        | refine ⟨Or.inl rfl, ?_⟩
        | refine ⟨Or.inr (Or.inl rfl), ?_⟩
        | refine ⟨Or.inr (Or.inr rfl), ?_⟩
        | refine ⟨Or.inr ⟨rfl, (by first | exact Or.inl rfl | exact Or.inr rfl | assumption)⟩, ?_⟩
        | refine ⟨fun h => absurd h (by decide), fun _ => ?_⟩
        | refine ⟨fun _ => ?_, fun h => absurd h (by decide)⟩
        | refine ⟨fun h => ?_, fun h => ?_⟩
        | fail)
  repeat' (first
    | exact L n _ (Nat.le_refl n) (by rw [hn]) hRv
    | refine zs k_Bo_toldByHand rfl ?_
    | refine ⟨Nat.zero_lt_one, rfl, ?_⟩
    | refine ⟨rfl, ?_⟩
    | refine ⟨⟨Nat.zero_lt_one, rfl⟩, Nat.le_of_ble_eq_true rfl, ?_⟩
    | refine ⟨Nat.le_of_ble_eq_true rfl, Nat.le_of_ble_eq_true rfl, ?_⟩
    | refine ⟨(by first | exact Nat.zero_lt_one | assumption | omega), (by first | assumption | exact vp_in_nI (by omega) (by omega) | (unfold vp_in; decide)), ?_⟩
    | refine ⟨(by first | exact Nat.zero_lt_one | assumption | omega), rfl, ?_⟩
    | refine ⟨⟨(by first | exact Nat.zero_lt_one | assumption | omega), rfl⟩, Nat.le_of_ble_eq_true rfl, ?_⟩
    | refine ⟨(by first | exact Nat.zero_lt_one | assumption | omega), ?_⟩
    | refine ⟨Or.inl rfl, ?_⟩
    | refine ⟨Or.inr (Or.inl rfl), ?_⟩
    | refine ⟨Or.inr (Or.inr rfl), ?_⟩
    | refine ⟨Or.inr ⟨rfl, (by first | exact Or.inl rfl | exact Or.inr rfl | assumption)⟩, ?_⟩
    | refine ⟨fun h => absurd h (by decide), fun _ => ?_⟩
    | refine ⟨fun _ => ?_, fun h => absurd h (by decide)⟩
    | refine ⟨fun h => ?_, fun h => ?_⟩
    | fail)

/-- the rule that goes: with a digit ahead of *, of like ones the greatest number -/
def pGo (V oc : Nat → Int32) : Nat → Int32
  | 0 => -1
  | r + 1 => if V r = 0 then pGo V oc r else if pGo V oc r = -1 ∨ ¬ oc r = -1 ∨ oc (pGo V oc r).toNatClampNeg = -1 then nI r else pGo V oc r
/-- the same, from the greatest number down -/
def pGoC (V oc : Nat → Int32) (g : Int32) : Nat → Int32
  | 0 => g
  | i + 1 => if (oc i = -1 ∧ ¬ g = -1) ∨ V i = 0 then pGoC V oc g i else if ¬ oc i = -1 then nI i else pGoC V oc (nI i) i
theorem pGoC_eq (V oc : Nat → Int32) : ∀ (i : Nat), i ≤ 16 → ∀ (g : Int32), pGoC V oc g i = if ¬ pGo V oc i = -1 ∧ ¬ oc (pGo V oc i).toNatClampNeg = -1 then pGo V oc i else if ¬ g = -1 then g else pGo V oc i
  | 0, _, g => by
    simp only [pGoC, pGo]
    grind
  | i + 1, hi, g => by
    have h0 := pGoC_eq V oc i (by omega)
    have hc : (nI i).toNatClampNeg = i := nI_clamp (by omega)
    have hm : ¬ nI i = -1 := nI_nem1 (by omega)
    simp only [pGoC, pGo, h0]
    grind
theorem pGoC_0 {V oc : Nat → Int32} {n : Nat} (h : n ≤ 16) : pGoC V oc (-1) n = pGo V oc n := by
  rw [pGoC_eq V oc n h]
  grind
theorem pGo_in {V oc : Nat → Int32} : ∀ {n : Nat}, n ≤ 16 → pGo V oc n = -1 ∨ ∃ r, r < n ∧ pGo V oc n = nI r ∧ ¬ V r = 0
  | 0, _ => Or.inl rfl
  | n + 1, h => by
    have h0 := pGo_in (V := V) (oc := oc) (n := n) (by omega)
    simp only [pGo]
    split
    · rcases h0 with h0 | ⟨r, h1, h2, h3⟩
      · exact Or.inl h0
      · exact Or.inr ⟨r, by omega, h2, h3⟩
    · split
      · exact Or.inr ⟨n, by omega, rfl, by assumption⟩
      · rcases h0 with h0 | ⟨r, h1, h2, h3⟩
        · exact Or.inl h0
        · exact Or.inr ⟨r, by omega, h2, h3⟩
def cV (μ : zMu) (o day : Int32) (x y : Nat) (r : Nat) : Int32 := pV (cF μ) (cRu μ r) o day x y
def cOc (μ : zMu) (r : Nat) : Int32 := μ 8 r 0
theorem c_Bo_goingRule {d n : Nat} {μ : zMu} {o day x y : Int32} {K : Option zV → zMu → Prop} (hn : μ 3 0 0 = nI n) (h16 : n ≤ 16) (hok : ∀ r, r < n → cRok μ r) (hx : vp_in x 20) (hy : vp_in y 20) (hK : K (some (zI (pGo (cV μ o day x.toNatClampNeg y.toNatClampNeg) (cOc μ) n))) μ) : Ct (d + 3) m_Bo_goingRule [zR 3 0, zI o, zI day, zI x, zI y] μ K := by
  refine zmeet rfl (Nat.le_of_ble_eq_true rfl) (fun S => ?_)
  rw [← pGoC_0 h16] at hK
  generalize hRv : pGoC (cV μ o day x.toNatClampNeg y.toNatClampNeg) (cOc μ) (-1) n = Rv at hK
  have L : ∀ (i : Nat) (v g : Int32) (l7 : Option zV), i ≤ n → v = nI i - 1 → pGoC (cV μ o day x.toNatClampNeg y.toNatClampNeg) (cOc μ) g i = Rv → zG S (d + 3) m_Bo_goingRule K 11 [some (zR 3 0), some (zI o), some (zI day), some (zI x), some (zI y), some (zI g), some (zI v), l7] [] μ := by
    intro i
    induction i with
    | zero =>
      intro v g l7 hi hv hh
      subst hv
      rw [← hh] at hK
      refine zs k_Bo_goingRule rfl ?_
      repeat' (first
        | refine br_t (by decide) ?_
        | exact hK
        | refine zs k_Bo_goingRule rfl ?_
        | refine ⟨Nat.zero_lt_one, rfl, ?_⟩
        | refine ⟨rfl, ?_⟩
        | refine ⟨⟨Nat.zero_lt_one, rfl⟩, Nat.le_of_ble_eq_true rfl, ?_⟩
        | refine ⟨Nat.le_of_ble_eq_true rfl, Nat.le_of_ble_eq_true rfl, ?_⟩
        | refine ⟨(by first | exact Nat.zero_lt_one | assumption | omega), (by first | assumption | exact vp_in_nI (by omega) (by omega) | (unfold vp_in; decide)), ?_⟩
        | refine ⟨(by first | exact Nat.zero_lt_one | assumption | omega), rfl, ?_⟩
        | refine ⟨⟨(by first | exact Nat.zero_lt_one | assumption | omega), rfl⟩, Nat.le_of_ble_eq_true rfl, ?_⟩
        | refine ⟨(by first | exact Nat.zero_lt_one | assumption | omega), ?_⟩
        | refine ⟨Or.inl rfl, ?_⟩
        | refine ⟨Or.inr (Or.inl rfl), ?_⟩
        | refine ⟨Or.inr (Or.inr rfl), ?_⟩
        | refine ⟨Or.inr ⟨rfl, (by first | exact Or.inl rfl | exact Or.inr rfl | assumption)⟩, ?_⟩
        | refine ⟨fun h => absurd h (by decide), fun _ => ?_⟩
        | refine ⟨fun _ => ?_, fun h => absurd h (by decide)⟩
        | refine ⟨fun h => ?_, fun h => ?_⟩
        | fail)
    | succ i ih =>
      intro v g l7 hi hv hh
      subst hv
      rw [nI_pred]
      have hc : (nI i).toNatClampNeg = i := nI_clamp (by omega)
      have hcu : cV μ o day x.toNatClampNeg y.toNatClampNeg i = pV (cF μ) (cRu μ i) o day x.toNatClampNeg y.toNatClampNeg := rfl
      have hco : cOc μ i = μ 8 i 0 := rfl
      rw [← hh] at hK
      unfold pGoC at hK hh
      refine zs k_Bo_goingRule rfl ?_
      repeat' (first
        | refine br_f (nI_pos (by omega)) ?_
        | refine c_Ru_verdict (r := (nI i).toNatClampNeg) (by omega) (by rw [hc]; exact hok i (by omega)) hx hy ?_
        | refine ih _ _ _ (by omega) (by exact i32_m1 _) (by rw [← hh]; simp only [hc] at *; grind)
        | exact (by simp only [hc] at *; rw [if_neg (by grind), if_pos (by grind)] at hK; exact hK)
        | refine zs k_Bo_goingRule rfl ?_
        | refine ⟨Nat.zero_lt_one, rfl, ?_⟩
        | refine ⟨rfl, ?_⟩
        | refine ⟨⟨Nat.zero_lt_one, rfl⟩, Nat.le_of_ble_eq_true rfl, ?_⟩
        | refine ⟨Nat.le_of_ble_eq_true rfl, Nat.le_of_ble_eq_true rfl, ?_⟩
        | refine ⟨(by first | exact Nat.zero_lt_one | assumption | omega), (by first | assumption | exact vp_in_nI (by omega) (by omega) | (unfold vp_in; decide)), ?_⟩
        | refine ⟨(by first | exact Nat.zero_lt_one | assumption | omega), rfl, ?_⟩
        | refine ⟨⟨(by first | exact Nat.zero_lt_one | assumption | omega), rfl⟩, Nat.le_of_ble_eq_true rfl, ?_⟩
        | refine ⟨(by first | exact Nat.zero_lt_one | assumption | omega), ?_⟩
        | refine ⟨Or.inl rfl, ?_⟩
        | refine ⟨Or.inr (Or.inl rfl), ?_⟩
        | refine ⟨Or.inr (Or.inr rfl), ?_⟩
        | refine ⟨Or.inr ⟨rfl, (by first | exact Or.inl rfl | exact Or.inr rfl | assumption)⟩, ?_⟩
        | refine ⟨fun h => absurd h (by decide), fun _ => ?_⟩
        | refine ⟨fun _ => ?_, fun h => absurd h (by decide)⟩
        | refine ⟨fun h => ?_, fun h => ?_⟩
        | fail)
  repeat' (first
    | exact L n _ _ _ (Nat.le_refl n) (by rw [hn]) hRv
    | refine zs k_Bo_goingRule rfl ?_
    | refine ⟨Nat.zero_lt_one, rfl, ?_⟩
    | refine ⟨rfl, ?_⟩
    | refine ⟨⟨Nat.zero_lt_one, rfl⟩, Nat.le_of_ble_eq_true rfl, ?_⟩
    | refine ⟨Nat.le_of_ble_eq_true rfl, Nat.le_of_ble_eq_true rfl, ?_⟩
    | refine ⟨(by first | exact Nat.zero_lt_one | assumption | omega), (by first | assumption | exact vp_in_nI (by omega) (by omega) | (unfold vp_in; decide)), ?_⟩
    | refine ⟨(by first | exact Nat.zero_lt_one | assumption | omega), rfl, ?_⟩
    | refine ⟨⟨(by first | exact Nat.zero_lt_one | assumption | omega), rfl⟩, Nat.le_of_ble_eq_true rfl, ?_⟩
    | refine ⟨(by first | exact Nat.zero_lt_one | assumption | omega), ?_⟩
    | refine ⟨Or.inl rfl, ?_⟩
    | refine ⟨Or.inr (Or.inl rfl), ?_⟩
    | refine ⟨Or.inr (Or.inr rfl), ?_⟩
    | refine ⟨Or.inr ⟨rfl, (by first | exact Or.inl rfl | exact Or.inr rfl | assumption)⟩, ?_⟩
    | refine ⟨fun h => absurd h (by decide), fun _ => ?_⟩
    | refine ⟨fun _ => ?_, fun h => absurd h (by decide)⟩
    | refine ⟨fun h => ?_, fun h => ?_⟩
    | fail)
