/-! RULE: a rule is taken -/
def okR (x y : Int32) : Prop := 0 ≤ x ∧ x < y ∧ y ≤ 10000
theorem cTs_o {r f i k : Nat} (h : ¬ (i = r ∧ (f = 8 ∨ (22 ≤ f ∧ f ≤ 26)))) : ∀ {ts : List rT} {j : Nat} {μ : zMu}, cTs μ r j ts f i k = μ f i k
  | [], _, _ => rfl
  | t :: ts, j, μ => by
    rw [cTs, cTs_o h, cTe, zu_ne (by omega), zu_ne (by omega), zu_ne (by omega), zu_ne (by omega), zu_ne (by omega), zu_ne (by omega)]
theorem cTs_8 {r k : Nat} (h : k ≠ 4) : ∀ {ts : List rT} {j : Nat} {μ : zMu}, cTs μ r j ts 8 r k = μ 8 r k
  | [], _, _ => rfl
  | t :: ts, j, μ => by
    rw [cTs, cTs_8 h, cTe, zu_ne (by omega), zu_ne (by omega), zu_ne (by omega), zu_ne (by omega), zu_ne (by omega), zu_ne (by omega)]
theorem cTs_4 {r : Nat} : ∀ {ts : List rT} {j : Nat} {μ : zMu}, cTs μ r j ts 8 r 4 = if ts = [] then μ 8 r 4 else nI (j + ts.length)
  | [], _, _ => (if_pos rfl).symm
  | t :: ts, j, μ => by
    rw [cTs, cTs_4, if_neg (List.cons_ne_nil t ts), List.length_cons]
    by_cases h : ts = []
    · rw [if_pos h, h, cTe, zu_eq]
      rfl
    · rw [if_neg h, show j + 1 + ts.length = j + (ts.length + 1) by omega]
theorem cTs_lo {r f k : Nat} (hf : f ≠ 8) : ∀ {ts : List rT} {j : Nat} {μ : zMu}, k < j → cTs μ r j ts f r k = μ f r k
  | [], _, _, _ => rfl
  | t :: ts, j, μ, h => by
    rw [cTs, cTs_lo hf (by omega), cTe, zu_ne (by omega), zu_ne (by omega), zu_ne (by omega), zu_ne (by omega), zu_ne (by omega), zu_ne (by omega)]
theorem cTs_at {r : Nat} : ∀ {ts : List rT} {j i : Nat} {e : rT} {μ : zMu}, ts[i]? = some e → cTs μ r j ts 22 r (j + i) = e.1 ∧ cTs μ r j ts 23 r (j + i) = e.2.1 ∧ cTs μ r j ts 24 r (j + i) = e.2.2.1 ∧ cTs μ r j ts 25 r (j + i) = e.2.2.2.1 ∧ cTs μ r j ts 26 r (j + i) = e.2.2.2.2
  | [], _, _, _, _, h => by simp at h
  | t :: ts, j, 0, e, μ, h => by
    obtain rfl : t = e := by simpa using h
    rw [cTs, cTs_lo (by omega) (by omega), cTs_lo (by omega) (by omega), cTs_lo (by omega) (by omega), cTs_lo (by omega) (by omega), cTs_lo (by omega) (by omega)]
    refine ⟨?_, ?_, ?_, ?_, ?_⟩
    · rw [cTe, zu_ne (by omega), zu_ne (by omega), zu_ne (by omega), zu_ne (by omega), zu_ne (by omega), Nat.add_zero, zu_eq]
    · rw [cTe, zu_ne (by omega), zu_ne (by omega), zu_ne (by omega), zu_ne (by omega), Nat.add_zero, zu_eq]
    · rw [cTe, zu_ne (by omega), zu_ne (by omega), zu_ne (by omega), Nat.add_zero, zu_eq]
    · rw [cTe, zu_ne (by omega), zu_ne (by omega), Nat.add_zero, zu_eq]
    · rw [cTe, zu_ne (by omega), Nat.add_zero, zu_eq]
  | t :: ts, j, i + 1, e, μ, h => by
    have h' : ts[i]? = some e := by simpa using h
    have w := cTs_at (r := r) (j := j + 1) (μ := cTe μ r j t) h'
    rw [show j + 1 + i = j + (i + 1) by omega] at w
    exact w
/-- the class's state behind the reading -/
def dR (μ : zMu) (r : Nat) (oc ky dn : Int32) (ts : List rT) (any : Int32) (at_ : Nat) (fl : Int32) : zMu := zu (cAt (cRd μ r oc ky dn ts any) (at_, fl)) 2 0 0 0
def dR2 (μ : zMu) (r : Nat) (oc ky dn : Int32) (ts : List rT) (any : Int32) (at_ : Nat) (fl x y : Int32) : zMu := zu (zu (zu (dR μ r oc ky dn ts any at_ fl) 8 r 5 x) 8 r 6 y) 3 0 0 (nI (r + 1))
theorem dR_o {μ : zMu} {r f i k at_ : Nat} {oc ky dn any fl : Int32} {ts : List rT} (h2 : f ≠ 2) (h : ¬ (i = r ∧ (f = 8 ∨ (22 ≤ f ∧ f ≤ 26)))) : dR μ r oc ky dn ts any at_ fl f i k = μ f i k := by
  unfold dR cAt cRd cHd
  rw [zu_ne (by omega), zu_ne (by omega), zu_ne (by omega), zu_ne (by omega), cTs_o h, zu_ne (by omega), zu_ne (by omega), zu_ne (by omega), zu_ne (by omega)]
theorem dR_2 {μ : zMu} {r at_ : Nat} {oc ky dn any fl : Int32} {ts : List rT} : dR μ r oc ky dn ts any at_ fl 2 0 0 = 0 := zu_eq
/-- the new rule's cells in the class -/
theorem dR_8 {μ : zMu} {r at_ : Nat} {oc ky dn any fl : Int32} {ts : List rT} : dR μ r oc ky dn ts any at_ fl 8 r 0 = oc ∧ dR μ r oc ky dn ts any at_ fl 8 r 1 = ky ∧ dR μ r oc ky dn ts any at_ fl 8 r 2 = dn ∧ dR μ r oc ky dn ts any at_ fl 8 r 3 = any ∧ dR μ r oc ky dn ts any at_ fl 8 r 4 = nI ts.length := by
  unfold dR cAt cRd
  refine ⟨?_, ?_, ?_, ?_, ?_⟩
  · rw [zu_ne (by omega), zu_ne (by omega), zu_ne (by omega), zu_ne (by omega), cTs_8 (by omega), cHd, zu_ne (by omega), zu_ne (by omega), zu_eq]
  · rw [zu_ne (by omega), zu_ne (by omega), zu_ne (by omega), zu_ne (by omega), cTs_8 (by omega), cHd, zu_ne (by omega), zu_eq]
  · rw [zu_ne (by omega), zu_ne (by omega), zu_ne (by omega), zu_ne (by omega), cTs_8 (by omega), cHd, zu_eq]
  · rw [zu_ne (by omega), zu_ne (by omega), zu_ne (by omega), zu_eq]
  · rw [zu_ne (by omega), zu_ne (by omega), zu_ne (by omega), zu_ne (by omega), cTs_4]
    by_cases h : ts = []
    · rw [if_pos h, h, cHd, zu_ne (by omega), zu_ne (by omega), zu_ne (by omega), zu_eq]
      rfl
    · rw [if_neg h, Nat.zero_add]
theorem dR_t {μ : zMu} {r at_ i : Nat} {oc ky dn any fl : Int32} {ts : List rT} {e : rT} (h : ts[i]? = some e) : dR μ r oc ky dn ts any at_ fl 22 r i = e.1 ∧ dR μ r oc ky dn ts any at_ fl 23 r i = e.2.1 ∧ dR μ r oc ky dn ts any at_ fl 24 r i = e.2.2.1 ∧ dR μ r oc ky dn ts any at_ fl 25 r i = e.2.2.2.1 ∧ dR μ r oc ky dn ts any at_ fl 26 r i = e.2.2.2.2 := by
  have w := cTs_at (r := r) (j := 0) (μ := cHd (zu μ 8 r 4 0) r oc ky dn) h
  rw [Nat.zero_add] at w
  have q : ∀ f, 22 ≤ f → dR μ r oc ky dn ts any at_ fl f r i = cTs (cHd (zu μ 8 r 4 0) r oc ky dn) r 0 ts f r i := fun f hf => by
    unfold dR cAt cRd
    rw [zu_ne (by omega), zu_ne (by omega), zu_ne (by omega), zu_ne (by omega)]
  rw [q 22 (by omega), q 23 (by omega), q 24 (by omega), q 25 (by omega), q 26 (by omega)]
  exact w
theorem c_De_rule {d n nr : Nat} {μ : zMu} {a : Nat → Int32} {x y : Int32} {K : Option zV → zMu → Prop} (hn : μ 2 0 0 = nI n) (h200 : n ≤ 200) (hA : μ 18 0 = a) (hm : μ 3 0 0 = nI nr) (h16 : nr ≤ 16)
    (h0 : ¬ okR x y → K (some (zI (-2))) μ) (hf : okR x y → nr = 16 → K (some (zI (-4))) μ)
    (h1 : ∀ (oc ky dn : Int32) (ts : List rT) (any : Int32) (at_ : Nat) (fl : Int32), okR x y → nr < 16 → qRR a n oc ky dn ts any at_ fl → ¬ fl = -1 → K (some (zI (-10 - fl))) (dR μ nr oc ky dn ts any at_ fl))
    (h2 : ∀ (oc ky dn : Int32) (ts : List rT) (any : Int32) (at_ : Nat) (fl : Int32), okR x y → nr < 16 → qRR a n oc ky dn ts any at_ fl → fl = -1 → K (some (zI (nI nr))) (dR2 μ nr oc ky dn ts any at_ fl x y)) : Ct (d + 8) m_De_rule [zR 0 0, zI x, zI y] μ K := by
  refine zmeet rfl (Nat.le_of_ble_eq_true rfl) (fun S => ?_)
  by_cases ho : okR x y
  case neg =>
    have hk := h0 ho
    by_cases x0 : x < 0
    · skip
      repeat' (first
        | refine br_t x0 ?_
        | exact hk
        | (refine zs k_De_rule rfl ?_; conv => whnf)
        | refine ⟨Nat.zero_lt_one, rfl, ?_⟩
        | refine ⟨rfl, ?_⟩
        | refine ⟨⟨Nat.zero_lt_one, rfl⟩, Nat.le_of_ble_eq_true rfl, ?_⟩
        | refine ⟨Nat.le_of_ble_eq_true rfl, Nat.le_of_ble_eq_true rfl, ?_⟩
        | refine ⟨(by first | exact Nat.zero_lt_one | assumption | omega), (by first | assumption | exact vp_in_nI (by omega) (by omega) | (unfold vp_in; decide)), ?_⟩
        | refine ⟨(by first | exact Nat.zero_lt_one | assumption | omega), rfl, ?_⟩
        | refine ⟨⟨(by first | exact Nat.zero_lt_one | assumption | omega), rfl⟩, Nat.le_of_ble_eq_true rfl, ?_⟩
        | refine ⟨(by first | exact Nat.zero_lt_one | assumption | omega), ?_⟩
        | refine ⟨Or.inl rfl, ?_⟩
        | refine ⟨Or.inr (Or.inl rfl), ?_⟩
        | refine ⟨Or.inr (Or.inr rfl), ?_⟩
        | refine ⟨Or.inr ⟨rfl, (by first | exact Or.inl rfl | exact Or.inr rfl | assumption)⟩, ?_⟩
        | refine ⟨fun h => absurd h (by decide), fun _ => ?_⟩
        | refine ⟨fun _ => ?_, fun h => absurd h (by decide)⟩
        | refine ⟨fun h => ?_, fun h => ?_⟩
        | fail)
    · by_cases x1 : y ≤ x
      · skip
        repeat' (first
          | refine br_f x0 ?_
          | refine br_t x1 ?_
          | exact hk
          | (refine zs k_De_rule rfl ?_; conv => whnf)
          | refine ⟨Nat.zero_lt_one, rfl, ?_⟩
          | refine ⟨rfl, ?_⟩
          | refine ⟨⟨Nat.zero_lt_one, rfl⟩, Nat.le_of_ble_eq_true rfl, ?_⟩
          | refine ⟨Nat.le_of_ble_eq_true rfl, Nat.le_of_ble_eq_true rfl, ?_⟩
          | refine ⟨(by first | exact Nat.zero_lt_one | assumption | omega), (by first | assumption | exact vp_in_nI (by omega) (by omega) | (unfold vp_in; decide)), ?_⟩
          | refine ⟨(by first | exact Nat.zero_lt_one | assumption | omega), rfl, ?_⟩
          | refine ⟨⟨(by first | exact Nat.zero_lt_one | assumption | omega), rfl⟩, Nat.le_of_ble_eq_true rfl, ?_⟩
          | refine ⟨(by first | exact Nat.zero_lt_one | assumption | omega), ?_⟩
          | refine ⟨Or.inl rfl, ?_⟩
          | refine ⟨Or.inr (Or.inl rfl), ?_⟩
          | refine ⟨Or.inr (Or.inr rfl), ?_⟩
          | refine ⟨Or.inr ⟨rfl, (by first | exact Or.inl rfl | exact Or.inr rfl | assumption)⟩, ?_⟩
          | refine ⟨fun h => absurd h (by decide), fun _ => ?_⟩
          | refine ⟨fun _ => ?_, fun h => absurd h (by decide)⟩
          | refine ⟨fun h => ?_, fun h => ?_⟩
          | fail)
      · have x2 : ¬ y ≤ 10000 := fun q => ho ⟨by grind, by grind, q⟩
        repeat' (first
          | refine br_f x0 ?_
          | refine br_f x1 ?_
          | refine br_f x2 ?_
          | exact hk
          | (refine zs k_De_rule rfl ?_; conv => whnf)
          | refine ⟨Nat.zero_lt_one, rfl, ?_⟩
          | refine ⟨rfl, ?_⟩
          | refine ⟨⟨Nat.zero_lt_one, rfl⟩, Nat.le_of_ble_eq_true rfl, ?_⟩
          | refine ⟨Nat.le_of_ble_eq_true rfl, Nat.le_of_ble_eq_true rfl, ?_⟩
          | refine ⟨(by first | exact Nat.zero_lt_one | assumption | omega), (by first | assumption | exact vp_in_nI (by omega) (by omega) | (unfold vp_in; decide)), ?_⟩
          | refine ⟨(by first | exact Nat.zero_lt_one | assumption | omega), rfl, ?_⟩
          | refine ⟨⟨(by first | exact Nat.zero_lt_one | assumption | omega), rfl⟩, Nat.le_of_ble_eq_true rfl, ?_⟩
          | refine ⟨(by first | exact Nat.zero_lt_one | assumption | omega), ?_⟩
          | refine ⟨Or.inl rfl, ?_⟩
          | refine ⟨Or.inr (Or.inl rfl), ?_⟩
          | refine ⟨Or.inr (Or.inr rfl), ?_⟩
          | refine ⟨Or.inr ⟨rfl, (by first | exact Or.inl rfl | exact Or.inr rfl | assumption)⟩, ?_⟩
          | refine ⟨fun h => absurd h (by decide), fun _ => ?_⟩
          | refine ⟨fun _ => ?_, fun h => absurd h (by decide)⟩
          | refine ⟨fun h => ?_, fun h => ?_⟩
          | fail)
  have x0 : ¬ x < 0 := by have := ho.1; grind
  have x1 : ¬ y ≤ x := by have := ho.2.1; grind
  have x2 : y ≤ 10000 := ho.2.2
  by_cases hnr : nr < 16
  case neg =>
    have hk := hf ho (by omega)
    have h3 : ¬ μ 3 0 0 < 16 := by
      rw [hm, show nr = 16 by omega]
      decide
    repeat' (first
      | refine br_f x0 ?_
      | refine br_f x1 ?_
      | refine br_t x2 ?_
      | refine br_f h3 ?_
      | exact hk
      | (refine zs k_De_rule rfl ?_; conv => whnf)
      | refine ⟨Nat.zero_lt_one, rfl, ?_⟩
      | refine ⟨rfl, ?_⟩
      | refine ⟨⟨Nat.zero_lt_one, rfl⟩, Nat.le_of_ble_eq_true rfl, ?_⟩
      | refine ⟨Nat.le_of_ble_eq_true rfl, Nat.le_of_ble_eq_true rfl, ?_⟩
      | refine ⟨(by first | exact Nat.zero_lt_one | assumption | omega), (by first | assumption | exact vp_in_nI (by omega) (by omega) | (unfold vp_in; decide)), ?_⟩
      | refine ⟨(by first | exact Nat.zero_lt_one | assumption | omega), rfl, ?_⟩
      | refine ⟨⟨(by first | exact Nat.zero_lt_one | assumption | omega), rfl⟩, Nat.le_of_ble_eq_true rfl, ?_⟩
      | refine ⟨(by first | exact Nat.zero_lt_one | assumption | omega), ?_⟩
      | refine ⟨Or.inl rfl, ?_⟩
      | refine ⟨Or.inr (Or.inl rfl), ?_⟩
      | refine ⟨Or.inr (Or.inr rfl), ?_⟩
      | refine ⟨Or.inr ⟨rfl, (by first | exact Or.inl rfl | exact Or.inr rfl | assumption)⟩, ?_⟩
      | refine ⟨fun h => absurd h (by decide), fun _ => ?_⟩
      | refine ⟨fun _ => ?_, fun h => absurd h (by decide)⟩
      | refine ⟨fun h => ?_, fun h => ?_⟩
      | fail)
  have h3 : μ 3 0 0 < 16 := by rw [hm]; exact nI_lt (b := 16) (by omega) (by omega)
  have v3 : vp_in (μ 3 0 0) 16 := by rw [hm]; exact vp_in_nI hnr (by omega)
  have c3 : (μ 3 0 0).toNatClampNeg = nr := by rw [hm]; exact nI_clamp (by omega)
  have T : ∀ (oc ky dn : Int32) (ts : List rT) (any : Int32) (at_ : Nat) (fl : Int32), qRR a n oc ky dn ts any at_ fl → zG S (d + 8) m_De_rule K 68 [some (zR 0 0), some (zI x), some (zI y), some (zR 8 nr), some (zI fl)] [] (dR μ nr oc ky dn ts any at_ fl) := by
    intro oc ky dn ts any at_ fl hR
    by_cases hfl : fl = -1
    · have hk := h2 oc ky dn ts any at_ fl ho hnr hR hfl
      have h30 : dR μ nr oc ky dn ts any at_ fl 3 0 0 = nI nr := by rw [dR_o (by omega) (by omega)]; exact hm
      unfold dR2 at hk
      generalize dR μ nr oc ky dn ts any at_ fl = ν at hk h30 ⊢
      have e1 : zu (zu ν 8 nr 5 x) 8 nr 6 y 3 0 0 + 1 = nI (nr + 1) := by rw [zu_ne (by omega), zu_ne (by omega), h30, nI_1]
      have e2 : nI (nr + 1) - 1 = nI nr := pk_sub (b := 1) (by omega)
      repeat' (first
        | refine br_t hfl ?_
        | exact zKe hk (by rw [e1, zu_eq]; exact e2) (by rw [e1])
        | (refine zs k_De_rule rfl ?_; conv => whnf)
        | refine ⟨Nat.zero_lt_one, rfl, ?_⟩
        | refine ⟨rfl, ?_⟩
        | refine ⟨⟨Nat.zero_lt_one, rfl⟩, Nat.le_of_ble_eq_true rfl, ?_⟩
        | refine ⟨Nat.le_of_ble_eq_true rfl, Nat.le_of_ble_eq_true rfl, ?_⟩
        | refine ⟨(by first | exact Nat.zero_lt_one | assumption | omega), (by first | assumption | exact vp_in_nI (by omega) (by omega) | (unfold vp_in; decide)), ?_⟩
        | refine ⟨(by first | exact Nat.zero_lt_one | assumption | omega), rfl, ?_⟩
        | refine ⟨⟨(by first | exact Nat.zero_lt_one | assumption | omega), rfl⟩, Nat.le_of_ble_eq_true rfl, ?_⟩
        | refine ⟨(by first | exact Nat.zero_lt_one | assumption | omega), ?_⟩
        | refine ⟨Or.inl rfl, ?_⟩
        | refine ⟨Or.inr (Or.inl rfl), ?_⟩
        | refine ⟨Or.inr (Or.inr rfl), ?_⟩
        | refine ⟨Or.inr ⟨rfl, (by first | exact Or.inl rfl | exact Or.inr rfl | assumption)⟩, ?_⟩
        | refine ⟨fun h => absurd h (by decide), fun _ => ?_⟩
        | refine ⟨fun _ => ?_, fun h => absurd h (by decide)⟩
        | refine ⟨fun h => ?_, fun h => ?_⟩
        | fail)
    · have hk := h1 oc ky dn ts any at_ fl ho hnr hR hfl
      repeat' (first
        | refine br_f hfl ?_
        | exact hk
        | (refine zs k_De_rule rfl ?_; conv => whnf)
        | refine ⟨Nat.zero_lt_one, rfl, ?_⟩
        | refine ⟨rfl, ?_⟩
        | refine ⟨⟨Nat.zero_lt_one, rfl⟩, Nat.le_of_ble_eq_true rfl, ?_⟩
        | refine ⟨Nat.le_of_ble_eq_true rfl, Nat.le_of_ble_eq_true rfl, ?_⟩
        | refine ⟨(by first | exact Nat.zero_lt_one | assumption | omega), (by first | assumption | exact vp_in_nI (by omega) (by omega) | (unfold vp_in; decide)), ?_⟩
        | refine ⟨(by first | exact Nat.zero_lt_one | assumption | omega), rfl, ?_⟩
        | refine ⟨⟨(by first | exact Nat.zero_lt_one | assumption | omega), rfl⟩, Nat.le_of_ble_eq_true rfl, ?_⟩
        | refine ⟨(by first | exact Nat.zero_lt_one | assumption | omega), ?_⟩
        | refine ⟨Or.inl rfl, ?_⟩
        | refine ⟨Or.inr (Or.inl rfl), ?_⟩
        | refine ⟨Or.inr (Or.inr rfl), ?_⟩
        | refine ⟨Or.inr ⟨rfl, (by first | exact Or.inl rfl | exact Or.inr rfl | assumption)⟩, ?_⟩
        | refine ⟨fun h => absurd h (by decide), fun _ => ?_⟩
        | refine ⟨fun _ => ?_, fun h => absurd h (by decide)⟩
        | refine ⟨fun h => ?_, fun h => ?_⟩
        | fail)
  have S1 : zG S (d + 8) m_De_rule K 50 [some (zR 0 0), some (zI x), some (zI y), some (zR 8 nr), none] [] μ := by
    repeat' (first
      | refine c_Tp_readInto hnr hn h200 hA (fun oc ky dn ts any at_ fl hR => ?_)
      | refine c_Tp_clear ?_
      | exact T oc ky dn ts any at_ fl hR
      | (refine zs k_De_rule rfl ?_; conv => whnf)
      | refine ⟨Nat.zero_lt_one, rfl, ?_⟩
      | refine ⟨rfl, ?_⟩
      | refine ⟨⟨Nat.zero_lt_one, rfl⟩, Nat.le_of_ble_eq_true rfl, ?_⟩
      | refine ⟨Nat.le_of_ble_eq_true rfl, Nat.le_of_ble_eq_true rfl, ?_⟩
      | refine ⟨(by first | exact Nat.zero_lt_one | assumption | omega), (by first | assumption | exact vp_in_nI (by omega) (by omega) | (unfold vp_in; decide)), ?_⟩
      | refine ⟨(by first | exact Nat.zero_lt_one | assumption | omega), rfl, ?_⟩
      | refine ⟨⟨(by first | exact Nat.zero_lt_one | assumption | omega), rfl⟩, Nat.le_of_ble_eq_true rfl, ?_⟩
      | refine ⟨(by first | exact Nat.zero_lt_one | assumption | omega), ?_⟩
      | refine ⟨Or.inl rfl, ?_⟩
      | refine ⟨Or.inr (Or.inl rfl), ?_⟩
      | refine ⟨Or.inr (Or.inr rfl), ?_⟩
      | refine ⟨Or.inr ⟨rfl, (by first | exact Or.inl rfl | exact Or.inr rfl | assumption)⟩, ?_⟩
      | refine ⟨fun h => absurd h (by decide), fun _ => ?_⟩
      | refine ⟨fun _ => ?_, fun h => absurd h (by decide)⟩
      | refine ⟨fun h => ?_, fun h => ?_⟩
      | fail)
  have S2 : ∀ r', r' = nr → zG S (d + 8) m_De_rule K 50 [some (zR 0 0), some (zI x), some (zI y), some (zR 8 r'), none] [] μ := fun r' h => by rw [h]; exact S1
  repeat' (first
    | refine br_f x0 ?_
    | refine br_f x1 ?_
    | refine br_t x2 ?_
    | refine br_t h3 ?_
    | exact S2 _ c3
    | (refine zs k_De_rule rfl ?_; conv => whnf)
    | refine ⟨Nat.zero_lt_one, rfl, ?_⟩
    | refine ⟨rfl, ?_⟩
    | refine ⟨⟨Nat.zero_lt_one, rfl⟩, Nat.le_of_ble_eq_true rfl, ?_⟩
    | refine ⟨Nat.le_of_ble_eq_true rfl, Nat.le_of_ble_eq_true rfl, ?_⟩
    | refine ⟨(by first | exact Nat.zero_lt_one | assumption | omega), (by first | assumption | exact vp_in_nI (by omega) (by omega) | (unfold vp_in; decide)), ?_⟩
    | refine ⟨(by first | exact Nat.zero_lt_one | assumption | omega), rfl, ?_⟩
    | refine ⟨⟨(by first | exact Nat.zero_lt_one | assumption | omega), rfl⟩, Nat.le_of_ble_eq_true rfl, ?_⟩
    | refine ⟨(by first | exact Nat.zero_lt_one | assumption | omega), ?_⟩
    | refine ⟨Or.inl rfl, ?_⟩
    | refine ⟨Or.inr (Or.inl rfl), ?_⟩
    | refine ⟨Or.inr (Or.inr rfl), ?_⟩
    | refine ⟨Or.inr ⟨rfl, (by first | exact Or.inl rfl | exact Or.inr rfl | assumption)⟩, ?_⟩
    | refine ⟨fun h => absurd h (by decide), fun _ => ?_⟩
    | refine ⟨fun _ => ?_, fun h => absurd h (by decide)⟩
    | refine ⟨fun h => ?_, fun h => ?_⟩
    | fail)
theorem c_Mo_rule0 {d nr : Nat} {μ : zMu} {x y : Int32} {K : Option zV → zMu → Prop} (h15 : μ 48 0 15 = nI nr) (h : ¬ okR x y ∨ nr = 16) (h0 : ¬ okR x y → K (some (zI (-2))) μ) (hf : okR x y → nr = 16 → K (some (zI (-4))) μ) : Ct (d + 5) m_Mo_rule [zR 48 0, zI x, zI y] μ K := by
  refine zmeet rfl (Nat.le_of_ble_eq_true rfl) (fun S => ?_)
  by_cases ho : okR x y
  case neg =>
    have hk := h0 ho
    by_cases x0 : x < 0
    · skip
      repeat' (first
        | refine br_t x0 ?_
        | exact hk
        | (refine zs k_Mo_rule rfl ?_; conv => whnf)
        | refine ⟨Nat.zero_lt_one, rfl, ?_⟩
        | refine ⟨rfl, ?_⟩
        | refine ⟨⟨Nat.zero_lt_one, rfl⟩, Nat.le_of_ble_eq_true rfl, ?_⟩
        | refine ⟨Nat.le_of_ble_eq_true rfl, Nat.le_of_ble_eq_true rfl, ?_⟩
        | refine ⟨(by first | exact Nat.zero_lt_one | assumption | omega), (by first | assumption | exact vp_in_nI (by omega) (by omega) | (unfold vp_in; decide)), ?_⟩
        | refine ⟨(by first | exact Nat.zero_lt_one | assumption | omega), rfl, ?_⟩
        | refine ⟨⟨(by first | exact Nat.zero_lt_one | assumption | omega), rfl⟩, Nat.le_of_ble_eq_true rfl, ?_⟩
        | refine ⟨(by first | exact Nat.zero_lt_one | assumption | omega), ?_⟩
        | refine ⟨Or.inl rfl, ?_⟩
        | refine ⟨Or.inr (Or.inl rfl), ?_⟩
        | refine ⟨Or.inr (Or.inr rfl), ?_⟩
        | refine ⟨Or.inr ⟨rfl, (by first | exact Or.inl rfl | exact Or.inr rfl | assumption)⟩, ?_⟩
        | refine ⟨fun h => absurd h (by decide), fun _ => ?_⟩
        | refine ⟨fun _ => ?_, fun h => absurd h (by decide)⟩
        | refine ⟨fun h => ?_, fun h => ?_⟩
        | fail)
    · by_cases x1 : y ≤ x
      · skip
        repeat' (first
          | refine br_f x0 ?_
          | refine br_t x1 ?_
          | exact hk
          | (refine zs k_Mo_rule rfl ?_; conv => whnf)
          | refine ⟨Nat.zero_lt_one, rfl, ?_⟩
          | refine ⟨rfl, ?_⟩
          | refine ⟨⟨Nat.zero_lt_one, rfl⟩, Nat.le_of_ble_eq_true rfl, ?_⟩
          | refine ⟨Nat.le_of_ble_eq_true rfl, Nat.le_of_ble_eq_true rfl, ?_⟩
          | refine ⟨(by first | exact Nat.zero_lt_one | assumption | omega), (by first | assumption | exact vp_in_nI (by omega) (by omega) | (unfold vp_in; decide)), ?_⟩
          | refine ⟨(by first | exact Nat.zero_lt_one | assumption | omega), rfl, ?_⟩
          | refine ⟨⟨(by first | exact Nat.zero_lt_one | assumption | omega), rfl⟩, Nat.le_of_ble_eq_true rfl, ?_⟩
          | refine ⟨(by first | exact Nat.zero_lt_one | assumption | omega), ?_⟩
          | refine ⟨Or.inl rfl, ?_⟩
          | refine ⟨Or.inr (Or.inl rfl), ?_⟩
          | refine ⟨Or.inr (Or.inr rfl), ?_⟩
          | refine ⟨Or.inr ⟨rfl, (by first | exact Or.inl rfl | exact Or.inr rfl | assumption)⟩, ?_⟩
          | refine ⟨fun h => absurd h (by decide), fun _ => ?_⟩
          | refine ⟨fun _ => ?_, fun h => absurd h (by decide)⟩
          | refine ⟨fun h => ?_, fun h => ?_⟩
          | fail)
      · have x2 : ¬ y ≤ 10000 := fun q => ho ⟨by grind, by grind, q⟩
        repeat' (first
          | refine br_f x0 ?_
          | refine br_f x1 ?_
          | refine br_f x2 ?_
          | exact hk
          | (refine zs k_Mo_rule rfl ?_; conv => whnf)
          | refine ⟨Nat.zero_lt_one, rfl, ?_⟩
          | refine ⟨rfl, ?_⟩
          | refine ⟨⟨Nat.zero_lt_one, rfl⟩, Nat.le_of_ble_eq_true rfl, ?_⟩
          | refine ⟨Nat.le_of_ble_eq_true rfl, Nat.le_of_ble_eq_true rfl, ?_⟩
          | refine ⟨(by first | exact Nat.zero_lt_one | assumption | omega), (by first | assumption | exact vp_in_nI (by omega) (by omega) | (unfold vp_in; decide)), ?_⟩
          | refine ⟨(by first | exact Nat.zero_lt_one | assumption | omega), rfl, ?_⟩
          | refine ⟨⟨(by first | exact Nat.zero_lt_one | assumption | omega), rfl⟩, Nat.le_of_ble_eq_true rfl, ?_⟩
          | refine ⟨(by first | exact Nat.zero_lt_one | assumption | omega), ?_⟩
          | refine ⟨Or.inl rfl, ?_⟩
          | refine ⟨Or.inr (Or.inl rfl), ?_⟩
          | refine ⟨Or.inr (Or.inr rfl), ?_⟩
          | refine ⟨Or.inr ⟨rfl, (by first | exact Or.inl rfl | exact Or.inr rfl | assumption)⟩, ?_⟩
          | refine ⟨fun h => absurd h (by decide), fun _ => ?_⟩
          | refine ⟨fun _ => ?_, fun h => absurd h (by decide)⟩
          | refine ⟨fun h => ?_, fun h => ?_⟩
          | fail)
  have x0 : ¬ x < 0 := by have := ho.1; grind
  have x1 : ¬ y ≤ x := by have := ho.2.1; grind
  have x2 : y ≤ 10000 := ho.2.2
  have hn : nr = 16 := h.elim (fun q => absurd ho q) id
  have hk := hf ho hn
  have h3 : μ 48 0 15 = 16 := by rw [h15, hn]; rfl
  repeat' (first
    | refine br_f x0 ?_
    | refine br_f x1 ?_
    | refine br_t x2 ?_
    | refine bn_f h3 ?_
    | exact hk
    | (refine zs k_Mo_rule rfl ?_; conv => whnf)
    | refine ⟨Nat.zero_lt_one, rfl, ?_⟩
    | refine ⟨rfl, ?_⟩
    | refine ⟨⟨Nat.zero_lt_one, rfl⟩, Nat.le_of_ble_eq_true rfl, ?_⟩
    | refine ⟨Nat.le_of_ble_eq_true rfl, Nat.le_of_ble_eq_true rfl, ?_⟩
    | refine ⟨(by first | exact Nat.zero_lt_one | assumption | omega), (by first | assumption | exact vp_in_nI (by omega) (by omega) | (unfold vp_in; decide)), ?_⟩
    | refine ⟨(by first | exact Nat.zero_lt_one | assumption | omega), rfl, ?_⟩
    | refine ⟨⟨(by first | exact Nat.zero_lt_one | assumption | omega), rfl⟩, Nat.le_of_ble_eq_true rfl, ?_⟩
    | refine ⟨(by first | exact Nat.zero_lt_one | assumption | omega), ?_⟩
    | refine ⟨Or.inl rfl, ?_⟩
    | refine ⟨Or.inr (Or.inl rfl), ?_⟩
    | refine ⟨Or.inr (Or.inr rfl), ?_⟩
    | refine ⟨Or.inr ⟨rfl, (by first | exact Or.inl rfl | exact Or.inr rfl | assumption)⟩, ?_⟩
    | refine ⟨fun h => absurd h (by decide), fun _ => ?_⟩
    | refine ⟨fun _ => ?_, fun h => absurd h (by decide)⟩
    | refine ⟨fun h => ?_, fun h => ?_⟩
    | fail)
theorem c_Mo_rule {d n nr at_ : Nat} {μ : zMu} {a : Nat → Int32} {oc ky dn any fl x y : Int32} {ts : List rT} {K : Option zV → zMu → Prop} (E : mE μ a n) (h15 : μ 48 0 15 = nI nr) (hnr : nr < 16) (ho : okR x y) (hR : qRR a n oc ky dn ts any at_ fl)
    (h1 : ∀ μ', ¬ fl = -1 → hF nr μ μ' → K (some (zI (-10 - fl))) (zu μ' 48 0 14 0))
    (h2 : ∀ μ', fl = -1 → hF nr μ μ' → rdR μ' nr oc ky dn ts any → K (some (zI (nI nr))) (zu (zu (zu (zu μ' 48 0 14 0) 70 0 nr x) 71 0 nr y) 48 0 15 (nI (nr + 1)))) : Ct (d + 5) m_Mo_rule [zR 48 0, zI x, zI y] μ K := by
  refine zmeet rfl (Nat.le_of_ble_eq_true rfl) (fun S => ?_)
  have x0 : ¬ x < 0 := by have := ho.1; grind
  have x1 : ¬ y ≤ x := by have := ho.2.1; grind
  have x2 : y ≤ 10000 := ho.2.2
  have n16 : ¬ μ 48 0 15 = 16 := fun e => by
    rw [h15] at e
    have := (nI_eq (b := 16) (by omega) (by omega)).mp e
    omega
  have cr : (nI nr).toNatClampNeg = nr := nI_clamp (by omega)
  have T : ∀ μ', hF nr μ μ' → μ' 48 0 29 = fl → (¬ fl = -1 → 0 ≤ fl) → (fl = -1 → rdR μ' nr oc ky dn ts any) → zG S (d + 5) m_Mo_rule K 44 [some (zR 48 0), some (zI x), some (zI y)] [] (zu μ' 48 0 14 0) := by
    intro μ' F e29 hp hr
    have c29 : zu μ' 48 0 14 0 48 0 29 = fl := by rw [zu_ne (by omega)]; exact e29
    have e15 : zu μ' 48 0 14 0 48 0 15 = nI nr := by rw [zu_ne (by omega), F.2.1 15 (by decide)]; exact h15
    by_cases hfl : fl = -1
    · have hk := h2 μ' hfl F (hr hfl)
      generalize zu μ' 48 0 14 0 = ν at hk c29 e15 ⊢
      have l0 : ν 48 0 29 < 0 := by rw [c29, hfl]; decide
      have v1 : vp_in (ν 48 0 15) 16 := by rw [e15]; exact vp_in_nI hnr (by omega)
      have v2 : vp_in (zu ν 70 0 (ν 48 0 15).toNatClampNeg x 48 0 15) 16 := by rw [zu_ne (by omega)]; exact v1
      have e2 : nI (nr + 1) - 1 = nI nr := pk_sub (b := 1) (by omega)
      have hW : ∀ W : zMu, W = zu (zu ν 70 0 nr x) 71 0 nr y → K (some (zI (zu W 48 0 15 (W 48 0 15 + 1) 48 0 15 - 1))) (zu W 48 0 15 (W 48 0 15 + 1)) := fun W e => by
        have w1 : W 48 0 15 = nI nr := by rw [e, zu_ne (by omega), zu_ne (by omega)]; exact e15
        rw [w1, nI_1, zu_eq, e, e2]
        exact hk
      repeat' (first
        | refine br_t l0 ?_
        | exact hW _ (by rw [zu_ne (by omega), e15, cr])
        | (refine zs k_Mo_rule rfl ?_; conv => whnf)
        | refine ⟨Nat.zero_lt_one, rfl, ?_⟩
        | refine ⟨rfl, ?_⟩
        | refine ⟨⟨Nat.zero_lt_one, rfl⟩, Nat.le_of_ble_eq_true rfl, ?_⟩
        | refine ⟨Nat.le_of_ble_eq_true rfl, Nat.le_of_ble_eq_true rfl, ?_⟩
        | refine ⟨(by first | exact Nat.zero_lt_one | assumption | omega), (by first | assumption | exact vp_in_nI (by omega) (by omega) | (unfold vp_in; decide)), ?_⟩
        | refine ⟨(by first | exact Nat.zero_lt_one | assumption | omega), rfl, ?_⟩
        | refine ⟨⟨(by first | exact Nat.zero_lt_one | assumption | omega), rfl⟩, Nat.le_of_ble_eq_true rfl, ?_⟩
        | refine ⟨(by first | exact Nat.zero_lt_one | assumption | omega), ?_⟩
        | refine ⟨Or.inl rfl, ?_⟩
        | refine ⟨Or.inr (Or.inl rfl), ?_⟩
        | refine ⟨Or.inr (Or.inr rfl), ?_⟩
        | refine ⟨Or.inr ⟨rfl, (by first | exact Or.inl rfl | exact Or.inr rfl | assumption)⟩, ?_⟩
        | refine ⟨fun h => absurd h (by decide), fun _ => ?_⟩
        | refine ⟨fun _ => ?_, fun h => absurd h (by decide)⟩
        | refine ⟨fun h => ?_, fun h => ?_⟩
        | fail)
    · have hk := h1 μ' hfl F
      have hk2 := hp hfl
      generalize zu μ' 48 0 14 0 = ν at hk c29 e15 ⊢
      have l0 : ¬ ν 48 0 29 < 0 := by rw [c29]; grind
      repeat' (first
        | refine br_f l0 ?_
        | exact zKe hk (by rw [c29]) rfl
        | (refine zs k_Mo_rule rfl ?_; conv => whnf)
        | refine ⟨Nat.zero_lt_one, rfl, ?_⟩
        | refine ⟨rfl, ?_⟩
        | refine ⟨⟨Nat.zero_lt_one, rfl⟩, Nat.le_of_ble_eq_true rfl, ?_⟩
        | refine ⟨Nat.le_of_ble_eq_true rfl, Nat.le_of_ble_eq_true rfl, ?_⟩
        | refine ⟨(by first | exact Nat.zero_lt_one | assumption | omega), (by first | assumption | exact vp_in_nI (by omega) (by omega) | (unfold vp_in; decide)), ?_⟩
        | refine ⟨(by first | exact Nat.zero_lt_one | assumption | omega), rfl, ?_⟩
        | refine ⟨⟨(by first | exact Nat.zero_lt_one | assumption | omega), rfl⟩, Nat.le_of_ble_eq_true rfl, ?_⟩
        | refine ⟨(by first | exact Nat.zero_lt_one | assumption | omega), ?_⟩
        | refine ⟨Or.inl rfl, ?_⟩
        | refine ⟨Or.inr (Or.inl rfl), ?_⟩
        | refine ⟨Or.inr (Or.inr rfl), ?_⟩
        | refine ⟨Or.inr ⟨rfl, (by first | exact Or.inl rfl | exact Or.inr rfl | assumption)⟩, ?_⟩
        | refine ⟨fun h => absurd h (by decide), fun _ => ?_⟩
        | refine ⟨fun _ => ?_, fun h => absurd h (by decide)⟩
        | refine ⟨fun h => ?_, fun h => ?_⟩
        | fail)
  repeat' (first
    | refine br_f x0 ?_
    | refine br_f x1 ?_
    | refine br_t x2 ?_
    | refine bn_t n16 ?_
    | refine c_Mo_read E hnr h15 hR (fun μ' F e29 hp hr => ?_)
    | exact T μ' F e29 hp hr
    | (refine zs k_Mo_rule rfl ?_; conv => whnf)
    | refine ⟨Nat.zero_lt_one, rfl, ?_⟩
    | refine ⟨rfl, ?_⟩
    | refine ⟨⟨Nat.zero_lt_one, rfl⟩, Nat.le_of_ble_eq_true rfl, ?_⟩
    | refine ⟨Nat.le_of_ble_eq_true rfl, Nat.le_of_ble_eq_true rfl, ?_⟩
    | refine ⟨(by first | exact Nat.zero_lt_one | assumption | omega), (by first | assumption | exact vp_in_nI (by omega) (by omega) | (unfold vp_in; decide)), ?_⟩
    | refine ⟨(by first | exact Nat.zero_lt_one | assumption | omega), rfl, ?_⟩
    | refine ⟨⟨(by first | exact Nat.zero_lt_one | assumption | omega), rfl⟩, Nat.le_of_ble_eq_true rfl, ?_⟩
    | refine ⟨(by first | exact Nat.zero_lt_one | assumption | omega), ?_⟩
    | refine ⟨Or.inl rfl, ?_⟩
    | refine ⟨Or.inr (Or.inl rfl), ?_⟩
    | refine ⟨Or.inr (Or.inr rfl), ?_⟩
    | refine ⟨Or.inr ⟨rfl, (by first | exact Or.inl rfl | exact Or.inr rfl | assumption)⟩, ?_⟩
    | refine ⟨fun h => absurd h (by decide), fun _ => ?_⟩
    | refine ⟨fun _ => ?_, fun h => absurd h (by decide)⟩
    | refine ⟨fun h => ?_, fun h => ?_⟩
    | fail)
-- ---- what the two have changed
def kR (nr : Nat) (μ ν : zMu) : Prop := (∀ f, f ∉ [2, 3, 8, 22, 23, 24, 25, 26, 48, 66, 67, 68, 69, 70, 71, 72, 73, 74, 75, 76, 77] → ν f = μ f) ∧ (∀ k, k ∉ [14, 15, 28, 29] → ν 48 0 k = μ 48 0 k) ∧ (∀ f, f = 8 ∨ (22 ≤ f ∧ f ≤ 26) → ∀ i k, i ≠ nr → ν f i k = μ f i k) ∧ (∀ f, 66 ≤ f → f ≤ 72 → ∀ k, k ≠ nr → ν f 0 k = μ f 0 k) ∧ (∀ f, 73 ≤ f → f ≤ 77 → ∀ k, k < 4 * nr → ν f 0 k = μ f 0 k) ∧ ν 3 0 1 = μ 3 0 1
theorem kR_in {nr : Nat} {μ ν : zMu} (h : kR nr μ ν) {l : List Nat} (hl : l.all (fun f => !([2, 3, 8, 22, 23, 24, 25, 26, 48, 66, 67, 68, 69, 70, 71, 72, 73, 74, 75, 76, 77] : List Nat).contains f) = true) : ∀ f, f ∈ l → ν f = μ f := fun f hf => h.1 f (fun q => by
  have := List.all_eq_true.mp hl f hf
  simp only [Bool.not_eq_true', List.contains_eq_mem, decide_eq_false_iff_not] at this
  exact this q)
theorem kR_R1 {nr r : Nat} {μ ν : zMu} (h : kR nr μ ν) (hr : r < nr) (g : gR1 μ r) : gR1 ν r := by
  obtain ⟨-, -, h3, h4, h5, -⟩ := h
  have e8 : ∀ k, ν 8 r k = μ 8 r k := fun k => h3 8 (Or.inl rfl) r k (by omega)
  have e22 : ∀ k, ν 22 r k = μ 22 r k := fun k => h3 22 (Or.inr (by omega)) r k (by omega)
  have e23 : ∀ k, ν 23 r k = μ 23 r k := fun k => h3 23 (Or.inr (by omega)) r k (by omega)
  have e24 : ∀ k, ν 24 r k = μ 24 r k := fun k => h3 24 (Or.inr (by omega)) r k (by omega)
  have e25 : ∀ k, ν 25 r k = μ 25 r k := fun k => h3 25 (Or.inr (by omega)) r k (by omega)
  have e26 : ∀ k, ν 26 r k = μ 26 r k := fun k => h3 26 (Or.inr (by omega)) r k (by omega)
  have e7 : ∀ f, 66 ≤ f → f ≤ 72 → ν f 0 r = μ f 0 r := fun f a b => h4 f a b r (by omega)
  obtain ⟨c1, c2, c3, c4, c5, c6, c7, c8, c9, c10⟩ := g
  obtain ⟨n, hn, en⟩ := c1.2.1
  unfold gR1 cRok
  simp only [e8, e22, e23, e24, e25, e26, e7 66 (by omega) (by omega), e7 67 (by omega) (by omega), e7 68 (by omega) (by omega), e7 69 (by omega) (by omega), e7 70 (by omega) (by omega), e7 71 (by omega) (by omega), e7 72 (by omega) (by omega)]
  refine ⟨c1, c2, c3, c4, c5, c6, c7, c8, fun j hj => ?_, c10⟩
  have hj4 : j < 4 := by
    rw [en, nI_clamp (by omega)] at hj
    omega
  rw [h5 73 (by omega) (by omega) _ (by omega), h5 74 (by omega) (by omega) _ (by omega), h5 75 (by omega) (by omega) _ (by omega), h5 76 (by omega) (by omega) _ (by omega), h5 77 (by omega) (by omega) _ (by omega)]
  exact c9 j hj
theorem kR_rel {ns n nr nh nt : Nat} {L : List zVt} {μ ν : zMu} (h : kR nr μ ν) (m : Nat) (g1 : gSt μ ns) (g2 : gPe μ ns n) (g3 : gTp ν 0) (g4 : gRu ν m) (g5 : gHd μ nh) (g6 : gTb μ nt n) (g7 : gFe μ) (g8 : gCo μ) (g9 : gVs μ L) (g10 : gWi μ) (g11 : gCs μ) : Rel ν := by
  refine ⟨ns, n, m, nh, nt, 0, L, gSt_fr (kR_in h rfl) (h.2.1 0 (by decide)) g1, gPe_fr (kR_in h rfl) (h.2.1 5 (by decide)) g2, g3, g4, ?_, gTb_fr (kR_in h rfl) (h.2.1 42 (by decide)) g6, gFe_fr (kR_in h rfl) g7, gCo_fr (kR_in h rfl) g8, gVs_fr (kR_in h rfl) (h.2.1 48 (by decide)) g9, gWi_fr (h.1 7 (by decide)) (h.2.1 52 (by decide)) g10, gCs_fr (kR_in h rfl) g11⟩
  unfold gHd at *
  rw [h.2.2.2.2.2, h.2.1 33 (by decide), h.1 20 (by decide), h.1 21 (by decide), h.1 84 (by decide), h.1 85 (by decide)]
  exact g5
theorem kR_D {nr at_ : Nat} {μ : zMu} {oc ky dn any fl : Int32} {ts : List rT} : kR nr μ (dR μ nr oc ky dn ts any at_ fl) := by
  refine ⟨fun f hf => ?_, fun k hk => ?_, fun f hf i k hi => ?_, fun f a b k hk => ?_, fun f a b k hk => ?_, ?_⟩
  · simp only [List.mem_cons, List.not_mem_nil, or_false, not_or] at hf
    funext i k
    exact dR_o (by omega) (by omega)
  · exact dR_o (by omega) (by omega)
  · exact dR_o (by omega) (by omega)
  · exact dR_o (by omega) (by omega)
  · exact dR_o (by omega) (by omega)
  · exact dR_o (by omega) (by omega)
/-- a cell of the rule's own, of the counts, or of the bytes -/
theorem kR_z {nr f0 i0 k0 : Nat} {μ ν : zMu} {x : Int32} (h : kR nr μ ν) (q : (f0 = 8 ∧ i0 = nr) ∨ (f0 = 3 ∧ k0 = 0) ∨ ((f0 = 70 ∨ f0 = 71) ∧ k0 = nr) ∨ (f0 = 48 ∧ (k0 = 14 ∨ k0 = 15))) : kR nr μ (zu ν f0 i0 k0 x) := by
  obtain ⟨h1, h2, h3, h4, h5, h6⟩ := h
  refine ⟨fun f hf => ?_, fun k hk => ?_, fun f hf i k hi => ?_, fun f a b k hk => ?_, fun f a b k hk => ?_, ?_⟩
  · have h' := h1 f hf
    simp only [List.mem_cons, List.not_mem_nil, or_false, not_or] at hf
    rw [← h']
    funext i k
    exact zu_ne (by omega)
  · have h' := h2 k hk
    simp only [List.mem_cons, List.not_mem_nil, or_false, not_or] at hk
    rw [zu_ne (by omega)]
    exact h'
  · rw [zu_ne (by omega)]
    exact h3 f hf i k hi
  · rw [zu_ne (by omega)]
    exact h4 f a b k hk
  · rw [zu_ne (by omega)]
    exact h5 f a b k hk
  · rw [zu_ne (by omega)]
    exact h6
/-- the model has read -/
theorem kR_F {nr : Nat} {μ D μ' : zMu} (h : kR nr μ D) (F : hF nr D μ') : kR nr μ μ' := by
  obtain ⟨h1, h2, h3, h4, h5, h6⟩ := h
  refine ⟨fun f hf => ?_, fun k hk => ?_, fun f hf i k hi => ?_, fun f a b k hk => ?_, fun f a b k hk => ?_, ?_⟩
  · have h' := h1 f hf
    simp only [List.mem_cons, List.not_mem_nil, or_false, not_or] at hf
    rw [F.1 f (by simp only [List.mem_cons, List.not_mem_nil, or_false, not_or]; omega)]
    exact h'
  · have h' := h2 k hk
    simp only [List.mem_cons, List.not_mem_nil, or_false, not_or] at hk
    rw [F.2.1 k (by simp only [List.mem_cons, List.not_mem_nil, or_false, not_or]; omega)]
    exact h'
  · rw [F.1 f (by simp only [List.mem_cons, List.not_mem_nil, or_false, not_or]; omega)]
    exact h3 f hf i k hi
  · by_cases e : f = 70 ∨ f = 71
    · rw [F.1 f (by simp only [List.mem_cons, List.not_mem_nil, or_false, not_or]; omega)]
      exact h4 f a b k hk
    · rw [F.2.2.1 f (by simp only [List.mem_cons, List.not_mem_nil, or_false]; omega) k hk]
      exact h4 f a b k hk
  · rw [F.2.2.2 f (by simp only [List.mem_cons, List.not_mem_nil, or_false]; omega) k (by omega)]
    exact h5 f a b k hk
  · rw [F.1 3 (by decide)]
    exact h6
theorem kR_E {nr nb : Nat} {μ D : zMu} (h : kR nr μ D) (g3 : gTp μ nb) (g11 : gCs μ) (h14 : D 48 0 14 = μ 48 0 14) : mE D (μ 18 0) nb := by
  refine ⟨h14.trans g3.2.1, g3.2.2.1, fun j hj => ?_, gCs_fr (kR_in h rfl) g11⟩
  rw [h.1 63 (by decide)]
  exact (g3.2.2.2 j hj).symm
theorem gTp_0 {ν : zMu} (h2 : ν 2 0 0 = 0) (h14 : ν 48 0 14 = 0) : gTp ν 0 := ⟨h2, h14, by omega, fun j hj => absurd hj (by omega)⟩
/-- the new rule -/
theorem gR1_new {nr at_ : Nat} {μ μ' : zMu} {oc ky dn any fl x y v : Int32} {ts : List rT} (F : hF nr (dR2 μ nr oc ky dn ts any at_ fl x y) μ') (R : rdR μ' nr oc ky dn ts any) : gR1 (zu (zu (zu (zu μ' 48 0 14 0) 70 0 nr x) 71 0 nr y) 48 0 15 v) nr := by
  obtain ⟨r1, r2, r3, r4, r5, r6, r7, r8, r9, r10, r11⟩ := R
  obtain ⟨d0, d1, d2, d3, d4⟩ := dR_8 (μ := μ) (r := nr) (at_ := at_) (oc := oc) (ky := ky) (dn := dn) (any := any) (fl := fl) (ts := ts)
  have e8 : ∀ f, f = 8 ∨ (22 ≤ f ∧ f ≤ 26) → ∀ k, zu (zu (zu (zu μ' 48 0 14 0) 70 0 nr x) 71 0 nr y) 48 0 15 v f nr k = dR2 μ nr oc ky dn ts any at_ fl x y f nr k := fun f hf k => by
    rw [zu_ne (by omega), zu_ne (by omega), zu_ne (by omega), zu_ne (by omega), F.1 f (by simp only [List.mem_cons, List.not_mem_nil, or_false, not_or]; omega)]
  have e2 : ∀ k, k < 5 → dR2 μ nr oc ky dn ts any at_ fl x y 8 nr k = dR μ nr oc ky dn ts any at_ fl 8 nr k := fun k hk => by
    unfold dR2
    rw [zu_ne (by omega), zu_ne (by omega), zu_ne (by omega)]
  have e3 : ∀ f, 22 ≤ f → ∀ k, dR2 μ nr oc ky dn ts any at_ fl x y f nr k = dR μ nr oc ky dn ts any at_ fl f nr k := fun f hf k => by
    unfold dR2
    rw [zu_ne (by omega), zu_ne (by omega), zu_ne (by omega)]
  have e5 : dR2 μ nr oc ky dn ts any at_ fl x y 8 nr 5 = x := by
    unfold dR2
    rw [zu_ne (by omega), zu_ne (by omega), zu_eq]
  have e6 : dR2 μ nr oc ky dn ts any at_ fl x y 8 nr 6 = y := by
    unfold dR2
    rw [zu_ne (by omega), zu_eq]
  have em : ∀ f k, f ≠ 48 → f ≠ 70 → f ≠ 71 → zu (zu (zu (zu μ' 48 0 14 0) 70 0 nr x) 71 0 nr y) 48 0 15 v f 0 k = μ' f 0 k := fun f k a b c => by
    rw [zu_ne (by omega), zu_ne (by omega), zu_ne (by omega), zu_ne (by omega)]
  have e70 : zu (zu (zu (zu μ' 48 0 14 0) 70 0 nr x) 71 0 nr y) 48 0 15 v 70 0 nr = x := by rw [zu_ne (by omega), zu_ne (by omega), zu_eq]
  have e71 : zu (zu (zu (zu μ' 48 0 14 0) 70 0 nr x) 71 0 nr y) 48 0 15 v 71 0 nr = y := by rw [zu_ne (by omega), zu_eq]
  generalize zu (zu (zu (zu μ' 48 0 14 0) 70 0 nr x) 71 0 nr y) 48 0 15 v = ν at e8 em e70 e71 ⊢
  have a0 : ν 8 nr 0 = oc := by rw [e8 8 (Or.inl rfl), e2 0 (by omega)]; exact d0
  have a1 : ν 8 nr 1 = ky := by rw [e8 8 (Or.inl rfl), e2 1 (by omega)]; exact d1
  have a2 : ν 8 nr 2 = dn := by rw [e8 8 (Or.inl rfl), e2 2 (by omega)]; exact d2
  have a3 : ν 8 nr 3 = any := by rw [e8 8 (Or.inl rfl), e2 3 (by omega)]; exact d3
  have a4 : ν 8 nr 4 = nI ts.length := by rw [e8 8 (Or.inl rfl), e2 4 (by omega)]; exact d4
  have a5 : ν 8 nr 5 = x := by rw [e8 8 (Or.inl rfl)]; exact e5
  have a6 : ν 8 nr 6 = y := by rw [e8 8 (Or.inl rfl)]; exact e6
  have ct : (ν 8 nr 4).toNatClampNeg = ts.length := by rw [a4]; exact nI_clamp (by omega)
  have tt : ∀ j, j < ts.length → ∃ e : rT, tOk e ∧ tE μ' (4 * nr + j) e ∧ ν 22 nr j = e.1 ∧ ν 23 nr j = e.2.1 ∧ ν 24 nr j = e.2.2.1 ∧ ν 25 nr j = e.2.2.2.1 ∧ ν 26 nr j = e.2.2.2.2 := fun j hj => by
    have hg : ts[j]? = some ts[j] := List.getElem?_eq_getElem hj
    refine ⟨ts[j], r11 _ (List.getElem_mem hj), r10 j _ hg, ?_⟩
    rw [e8 22 (Or.inr (by omega)), e8 23 (Or.inr (by omega)), e8 24 (Or.inr (by omega)), e8 25 (Or.inr (by omega)), e8 26 (Or.inr (by omega)), e3 22 (by omega), e3 23 (by omega), e3 24 (by omega), e3 25 (by omega), e3 26 (by omega)]
    exact dR_t hg
  have hdn : dn = 0 ∨ dn = 1 := r4.elim (fun q => Or.inl q.1) (fun q => Or.inr q.1)
  refine ⟨⟨by rw [a1]; exact r3, ⟨ts.length, r6, a4⟩, by rw [a2]; exact hdn, by rw [a3]; exact r8, fun j hj => ?_⟩, ?_, ?_, ?_, ?_, ?_, ?_, ?_, fun j hj => ?_, fun q => ?_⟩
  · rw [ct] at hj
    obtain ⟨e, o, -, b1, b2, b3, -⟩ := tt j hj
    rw [b1, b3]
    exact ⟨o.2.2, o.1⟩
  · rw [a0, em 66 nr (by omega) (by omega) (by omega)]
    exact r1
  · rw [a1, em 67 nr (by omega) (by omega) (by omega)]
    exact r2
  · rw [a2, em 68 nr (by omega) (by omega) (by omega)]
    exact r4
  · rw [a3, em 69 nr (by omega) (by omega) (by omega)]
    exact r7
  · rw [a5, e70]
  · rw [a6, e71]
  · rw [a4, em 72 nr (by omega) (by omega) (by omega)]
    exact r5
  · rw [ct] at hj
    obtain ⟨e, o, t, b1, b2, b3, b4, b5⟩ := tt j hj
    rw [b1, b2, b3, b4, b5, em 73 _ (by omega) (by omega) (by omega), em 74 _ (by omega) (by omega) (by omega), em 75 _ (by omega) (by omega) (by omega), em 76 _ (by omega) (by omega) (by omega), em 77 _ (by omega) (by omega) (by omega)]
    exact ⟨t.1, t.2.1, o.2.1, t.2.2.1, t.2.2.2.1, t.2.2.2.2⟩
  · rw [a4] at q
    rw [a3]
    have q0 : ts.length = 0 := (nI_eq (b := 0) (by omega) (by omega)).mp q
    exact r9 (List.eq_nil_of_length_eq_zero q0)
theorem b_rule {μ : zMu} {x y : Int32} (h : Rel μ) : Both m_De_rule m_Mo_rule [zI x, zI y] μ := by
  intro d K hK
  obtain ⟨ns, n, nr, nh, nt, nb, L, g1, g2, g3, g4, g5, g6, g7, g8, g9, g10, g11⟩ := id h
  have h16 := g4.2.2.1
  refine c_De_rule g3.1 g3.2.2.1 rfl g4.1 g4.2.2.1 (fun a => hK _ _ (fun d K2 hK2 => ?_)) (fun a a2 => hK _ _ (fun d K2 hK2 => ?_)) (fun oc ky dn ts any at_ fl a a2 hR hfl => hK _ _ (fun d K2 hK2 => ?_)) (fun oc ky dn ts any at_ fl a a2 hR hfl => hK _ _ (fun d K2 hK2 => ?_))
  · exact c_Mo_rule0 g4.2.1 (Or.inl a) (fun _ => hK2 _ h) (fun b => absurd b a)
  · exact c_Mo_rule0 g4.2.1 (Or.inr a2) (fun b => absurd a b) (fun _ _ => hK2 _ h)
  · have D := kR_D (nr := nr) (at_ := at_) (μ := μ) (oc := oc) (ky := ky) (dn := dn) (any := any) (fl := fl) (ts := ts)
    have E := kR_E D g3 g11 (dR_o (by omega) (by omega))
    refine c_Mo_rule E ((dR_o (by omega) (by omega)).trans g4.2.1) a2 a hR (fun μ' _ F => hK2 _ ?_) (fun μ' q => absurd q hfl)
    have Q := kR_z (f0 := 48) (i0 := 0) (k0 := 14) (x := 0) (kR_F D F) (by omega)
    refine kR_rel Q nr g1 g2 (gTp_0 ?_ zu_eq) ⟨?_, ?_, h16, fun r hr => kR_R1 Q hr (g4.2.2.2 r hr)⟩ g5 g6 g7 g8 g9 g10 g11
    · rw [zu_ne (by omega), F.1 2 (by decide)]
      exact dR_2
    · rw [zu_ne (by omega), F.1 3 (by decide), dR_o (by omega) (by omega)]
      exact g4.1
    · rw [zu_ne (by omega), F.2.1 15 (by decide), dR_o (by omega) (by omega)]
      exact g4.2.1
  · have D0 := kR_D (nr := nr) (at_ := at_) (μ := μ) (oc := oc) (ky := ky) (dn := dn) (any := any) (fl := fl) (ts := ts)
    have D : kR nr μ (dR2 μ nr oc ky dn ts any at_ fl x y) := kR_z (kR_z (kR_z D0 (by omega)) (by omega)) (by omega)
    have o48 : ∀ k, dR2 μ nr oc ky dn ts any at_ fl x y 48 0 k = μ 48 0 k := fun k => by
      unfold dR2
      rw [zu_ne (by omega), zu_ne (by omega), zu_ne (by omega), dR_o (by omega) (by omega)]
    have E := kR_E D g3 g11 (o48 14)
    refine c_Mo_rule E ((o48 15).trans g4.2.1) a2 a hR (fun μ' q => absurd hfl q) (fun μ' _ F R => hK2 _ ?_)
    have Q : kR nr μ (zu (zu (zu (zu μ' 48 0 14 0) 70 0 nr x) 71 0 nr y) 48 0 15 (nI (nr + 1))) := kR_z (kR_z (kR_z (kR_z (kR_F D F) (by omega)) (by omega)) (by omega)) (by omega)
    refine kR_rel Q (nr + 1) g1 g2 (gTp_0 ?_ ?_) ⟨?_, zu_eq, by omega, fun r hr => ?_⟩ g5 g6 g7 g8 g9 g10 g11
    · rw [zu_ne (by omega), zu_ne (by omega), zu_ne (by omega), zu_ne (by omega), F.1 2 (by decide)]
      unfold dR2
      rw [zu_ne (by omega), zu_ne (by omega), zu_ne (by omega)]
      exact dR_2
    · rw [zu_ne (by omega), zu_ne (by omega), zu_ne (by omega), zu_eq]
    · rw [zu_ne (by omega), zu_ne (by omega), zu_ne (by omega), zu_ne (by omega), F.1 3 (by decide)]
      unfold dR2
      rw [zu_eq]
    · rcases Nat.lt_or_ge r nr with w | w
      · exact kR_R1 Q w (g4.2.2.2 r w)
      · obtain rfl : r = nr := by omega
        exact gR1_new F R
