/-! RULES: what both sides say, in one form. rT: not, isB, field, sign, number; rU: occasion (-1 any), key, down, any, from, to, how many tests, tests -/
abbrev rT : Type := Int32 × Int32 × Int32 × Int32 × Int32
abbrev rU : Type := Int32 × Int32 × Int32 × Int32 × Int32 × Int32 × Nat × (Nat → rT)
def pIs (s v n : Int32) : Bool := if s = 0 then decide (v = n) else if s = 1 then decide (v < n) else decide (n < v)
def pTest (F : Nat → Nat → Int32) (t : rT) (a b : Nat) : Bool := pIs t.2.2.2.1 (F (if t.2.1 = 0 then a else b) t.2.2.1.toNatClampNeg) t.2.2.2.2 != decide (t.1 = 1)
def pAll (F : Nat → Nat → Int32) (u : rU) (a b : Nat) : Nat → Bool
  | 0 => true
  | j + 1 => pAll F u a b j && pTest F (u.2.2.2.2.2.2.2 j) a b
def pAny (F : Nat → Nat → Int32) (u : rU) (a b : Nat) : Nat → Bool
  | 0 => false
  | j + 1 => pAny F u a b j || pTest F (u.2.2.2.2.2.2.2 j) a b
def pHolds (F : Nat → Nat → Int32) (u : rU) (a b : Nat) : Bool := if u.2.2.2.1 = 0 then pAll F u a b u.2.2.2.2.2.2.1 else pAny F u a b u.2.2.2.2.2.2.1
abbrev pFor (u : rU) (o day : Int32) : Prop := u.2.2.2.2.1 ≤ day ∧ day < u.2.2.2.2.2.1 ∧ (u.1 = -1 ∨ u.1 = o)
def pV (F : Nat → Nat → Int32) (u : rU) (o day : Int32) (x y : Nat) : Int32 :=
  if F x u.2.1.toNatClampNeg = F y u.2.1.toNatClampNeg ∨ ¬ (u.2.2.2.2.1 ≤ day ∧ day < u.2.2.2.2.2.1 ∧ (u.1 = -1 ∨ u.1 = o)) ∨ (pHolds F u x y = false ∧ pHolds F u y x = false) then 0
  else if (F x u.2.1.toNatClampNeg < F y u.2.1.toNatClampNeg ↔ u.2.2.1 = 1) then -1 else 1
-- the class's rules
def cRu (μ : zMu) (r : Nat) : rU := (μ 8 r 0, μ 8 r 1, μ 8 r 2, μ 8 r 3, μ 8 r 5, μ 8 r 6, (μ 8 r 4).toNatClampNeg, fun j => (μ 22 r j, μ 23 r j, μ 24 r j, μ 25 r j, μ 26 r j))
def cF (μ : zMu) (p f : Nat) : Int32 := μ 17 p f
def cRok (μ : zMu) (r : Nat) : Prop := vp_in (μ 8 r 1) 7 ∧ (∃ n, n ≤ 4 ∧ μ 8 r 4 = nI n) ∧ (μ 8 r 2 = 0 ∨ μ 8 r 2 = 1) ∧ (μ 8 r 3 = 0 ∨ μ 8 r 3 = 1) ∧ ∀ j, j < (μ 8 r 4).toNatClampNeg → vp_in (μ 24 r j) 7 ∧ (μ 22 r j = 0 ∨ μ 22 r j = 1)
theorem c_Ru_isFor {d r : Nat} {μ : zMu} {o y : Int32} {K : Option zV → zMu → Prop} (hr : r < 16) (h1 : pFor (cRu μ r) o y → K (some (zI 1)) μ) (h0 : ¬ pFor (cRu μ r) o y → K (some (zI 0)) μ) : Ct d m_Ru_isFor [zR 8 r, zI o, zI y] μ K := by
  refine zmeet rfl (Nat.le_of_ble_eq_true rfl) (fun S => ?_)
  unfold pFor at h1 h0
  dsimp only [cRu] at h1 h0
  repeat' (first
    | exact h0 (by grind)
    | exact h1 (by grind)
    | refine zs k_Ru_isFor rfl ?_
    | refine ⟨Nat.zero_lt_one, rfl, ?_⟩
    | refine ⟨rfl, ?_⟩
    | refine ⟨⟨Nat.zero_lt_one, rfl⟩, Nat.le_of_ble_eq_true rfl, ?_⟩
    | refine ⟨Nat.le_of_ble_eq_true rfl, Nat.le_of_ble_eq_true rfl, ?_⟩
    | refine ⟨(by first | exact Nat.zero_lt_one | assumption | omega), (by first | assumption | exact vp_in_nI (by omega) (by omega) | (unfold vp_in; decide)), ?_⟩
    | refine ⟨(by first | exact Nat.zero_lt_one | assumption | omega), rfl, ?_⟩
    | refine ⟨⟨(by first | exact Nat.zero_lt_one | assumption | omega), rfl⟩, Nat.le_of_ble_eq_true rfl, ?_⟩
    | refine ⟨(by first | exact Nat.zero_lt_one | assumption | omega), ?_⟩
    | refine ⟨Or.inl rfl, ?_⟩
    | refine ⟨Or.inr (Or.inl rfl), ?_⟩
    | refine ⟨Or.inr (Or.inr rfl), ?_⟩
    | refine ⟨Or.inr ⟨rfl, (by first | exact Or.inl rfl | exact Or.inr rfl | assumption)⟩, ?_⟩
    | refine ⟨fun h => absurd h (by decide), fun _ => ?_⟩
    | refine ⟨fun _ => ?_, fun h => absurd h (by decide)⟩
    | refine ⟨fun h => ?_, fun h => ?_⟩
    | fail)
theorem c_Ru_isAsTold {d r j : Nat} {μ : zMu} {v : Int32} {K : Option zV → zMu → Prop} (hr : r < 16) (hj : j < 4) (h1 : pIs (μ 25 r j) v (μ 26 r j) = true → K (some (zI 1)) μ) (h0 : pIs (μ 25 r j) v (μ 26 r j) = false → K (some (zI 0)) μ) : Ct d m_Ru_isAsTold [zR 8 r, zI (nI j), zI v] μ K := by
  refine zmeet rfl (Nat.le_of_ble_eq_true rfl) (fun S => ?_)
  have hc : (nI j).toNatClampNeg = j := nI_clamp (by omega)
  have e0 : ∀ x : Int32, x.toInt = 0 ↔ x = 0 := fun x => ⟨fun h => i32_inj h, fun h => by rw [h]; rfl⟩
  have e1 : ∀ x : Int32, x.toInt = 1 ↔ x = 1 := fun x => ⟨fun h => i32_inj h, fun h => by rw [h]; rfl⟩
  repeat' (first
    | exact h0 (by simp only [hc, e0, e1] at *; simp only [pIs]; grind)
    | exact h1 (by simp only [hc, e0, e1] at *; simp only [pIs]; grind)
    | refine zs k_Ru_isAsTold rfl ?_
    | refine ⟨Nat.zero_lt_one, rfl, ?_⟩
    | refine ⟨rfl, ?_⟩
    | refine ⟨⟨Nat.zero_lt_one, rfl⟩, Nat.le_of_ble_eq_true rfl, ?_⟩
    | refine ⟨Nat.le_of_ble_eq_true rfl, Nat.le_of_ble_eq_true rfl, ?_⟩
    | refine ⟨(by first | exact Nat.zero_lt_one | assumption | omega), (by first | assumption | exact vp_in_nI (by omega) (by omega) | (unfold vp_in; decide)), ?_⟩
    | refine ⟨(by first | exact Nat.zero_lt_one | assumption | omega), rfl, ?_⟩
    | refine ⟨⟨(by first | exact Nat.zero_lt_one | assumption | omega), rfl⟩, Nat.le_of_ble_eq_true rfl, ?_⟩
    | refine ⟨(by first | exact Nat.zero_lt_one | assumption | omega), ?_⟩
    | refine ⟨Or.inl rfl, ?_⟩
    | refine ⟨Or.inr (Or.inl rfl), ?_⟩
    | refine ⟨Or.inr (Or.inr rfl), ?_⟩
    | refine ⟨Or.inr ⟨rfl, (by first | exact Or.inl rfl | exact Or.inr rfl | assumption)⟩, ?_⟩
    | refine ⟨fun h => absurd h (by decide), fun _ => ?_⟩
    | refine ⟨fun _ => ?_, fun h => absurd h (by decide)⟩
    | refine ⟨fun h => ?_, fun h => ?_⟩
    | fail)
theorem pAll_no {F : Nat → Nat → Int32} {u : rU} {a b : Nat} {j : Nat} (h : pAll F u a b j = false) : ∀ n, j ≤ n → pAll F u a b n = false
  | 0, hn => by
    obtain rfl : j = 0 := by omega
    exact h
  | n + 1, hn => by
    rcases Nat.lt_or_ge n j with q | q
    · obtain rfl : j = n + 1 := by omega
      exact h
    · rw [pAll, pAll_no h n q, Bool.false_and]
theorem pAny_yes {F : Nat → Nat → Int32} {u : rU} {a b : Nat} {j : Nat} (h : pAny F u a b j = true) : ∀ n, j ≤ n → pAny F u a b n = true
  | 0, hn => by
    obtain rfl : j = 0 := by omega
    exact h
  | n + 1, hn => by
    rcases Nat.lt_or_ge n j with q | q
    · obtain rfl : j = n + 1 := by omega
      exact h
    · rw [pAny, pAny_yes h n q, Bool.true_or]
set_option maxHeartbeats 4000000 in
theorem c_Ru_holds {d r : Nat} {μ : zMu} {x y : Int32} {K : Option zV → zMu → Prop} (hr : r < 16) (hok : cRok μ r) (hx : vp_in x 20) (hy : vp_in y 20) (h1 : pHolds (cF μ) (cRu μ r) x.toNatClampNeg y.toNatClampNeg = true → K (some (zI 1)) μ) (h0 : pHolds (cF μ) (cRu μ r) x.toNatClampNeg y.toNatClampNeg = false → K (some (zI 0)) μ) : Ct (d + 1) m_Ru_holds [zR 8 r, zR 1 0, zI x, zI y] μ K := by
  refine zmeet rfl (Nat.le_of_ble_eq_true rfl) (fun S => ?_)
  obtain ⟨hkey, ⟨nt, hnt4, hnt⟩, hdown, hany, htst⟩ := hok
  have hx2 := vp_lt hx
  have hy2 := vp_lt hy
  have hnt2 : (μ 8 r 4).toNatClampNeg = nt := by rw [hnt, nI_clamp (by omega)]
  rw [hnt2] at htst
  have hH0 : μ 8 r 3 = 0 → pHolds (cF μ) (cRu μ r) x.toNatClampNeg y.toNatClampNeg = pAll (cF μ) (cRu μ r) x.toNatClampNeg y.toNatClampNeg nt := fun h => by
    rw [← hnt2]
    exact if_pos h
  have hH1 : μ 8 r 3 = 1 → pHolds (cF μ) (cRu μ r) x.toNatClampNeg y.toNatClampNeg = pAny (cF μ) (cRu μ r) x.toNatClampNeg y.toNatClampNeg nt := fun h => by
    rw [← hnt2]
    exact if_neg (show ¬ μ 8 r 3 = 0 by rw [h]; decide)
  have L : ∀ (k j : Nat) (v : Int32) (l5 l6 : Option zV), j + k = nt → v = nI j → (μ 8 r 3 = 0 → pAll (cF μ) (cRu μ r) x.toNatClampNeg y.toNatClampNeg j = true) → (μ 8 r 3 = 1 → pAny (cF μ) (cRu μ r) x.toNatClampNeg y.toNatClampNeg j = false) → zG S (d + 1) m_Ru_holds K 3 [some (zR 8 r), some (zR 1 0), some (zI x), some (zI y), some (zI v), l5, l6] [] μ := by
    intro k
    induction k with
    | zero =>
      intro j v l5 l6 hj hv hA hO
      subst hv
      obtain rfl : j = nt := by omega
      repeat' (first
        | exact h1 (by rw [hH0 (by assumption)]; exact hA (by assumption))
        | exact h0 (by rw [hH1 (by grind)]; exact hO (by grind))
        | refine zs k_Ru_holds rfl ?_
        | refine br_t (by simp (disch := omega) only [hnt, nI_leI, nI_ltI, nI_eq]; omega) ?_
        | refine br_f (by simp (disch := omega) only [hnt, nI_leI, nI_ltI, nI_eq]; omega) ?_
        | refine ⟨Nat.zero_lt_one, rfl, ?_⟩
        | refine ⟨rfl, ?_⟩
        | refine ⟨⟨Nat.zero_lt_one, rfl⟩, Nat.le_of_ble_eq_true rfl, ?_⟩
        | refine ⟨Nat.le_of_ble_eq_true rfl, Nat.le_of_ble_eq_true rfl, ?_⟩
        | refine ⟨(by first | exact Nat.zero_lt_one | assumption | omega), (by first | assumption | exact vp_in_nI (by omega) (by omega) | (unfold vp_in; decide)), ?_⟩
        | refine ⟨(by first | exact Nat.zero_lt_one | assumption | omega), rfl, ?_⟩
        | refine ⟨⟨(by first | exact Nat.zero_lt_one | assumption | omega), rfl⟩, Nat.le_of_ble_eq_true rfl, ?_⟩
        | refine ⟨(by first | exact Nat.zero_lt_one | assumption | omega), ?_⟩
        | refine ⟨Or.inl rfl, ?_⟩
        | refine ⟨Or.inr (Or.inl rfl), ?_⟩
        | refine ⟨Or.inr (Or.inr rfl), ?_⟩
        | refine ⟨Or.inr ⟨rfl, (by first | exact Or.inl rfl | exact Or.inr rfl | assumption)⟩, ?_⟩
        | refine ⟨fun h => absurd h (by decide), fun _ => ?_⟩
        | refine ⟨fun _ => ?_, fun h => absurd h (by decide)⟩
        | refine ⟨fun h => ?_, fun h => ?_⟩
        | fail)
    | succ k ih =>
      intro j v l5 l6 hj hv hA hO
      subst hv
      have hc : (nI j).toNatClampNeg = j := nI_clamp (by omega)
      obtain ⟨hf0, hn01⟩ := htst j (by omega)
      have hf : vp_in (μ 24 r (nI j).toNatClampNeg) 7 := by rw [hc]; exact hf0
      have hT : pTest (cF μ) ((cRu μ r).2.2.2.2.2.2.2 j) x.toNatClampNeg y.toNatClampNeg = (pIs (μ 25 r j) (μ 17 (if μ 23 r j = 0 then x.toNatClampNeg else y.toNatClampNeg) (μ 24 r j).toNatClampNeg) (μ 26 r j) != decide (μ 22 r j = 1)) := rfl
      have hA1 : pAll (cF μ) (cRu μ r) x.toNatClampNeg y.toNatClampNeg (j + 1) = (pAll (cF μ) (cRu μ r) x.toNatClampNeg y.toNatClampNeg j && pTest (cF μ) ((cRu μ r).2.2.2.2.2.2.2 j) x.toNatClampNeg y.toNatClampNeg) := rfl
      have hO1 : pAny (cF μ) (cRu μ r) x.toNatClampNeg y.toNatClampNeg (j + 1) = (pAny (cF μ) (cRu μ r) x.toNatClampNeg y.toNatClampNeg j || pTest (cF μ) ((cRu μ r).2.2.2.2.2.2.2 j) x.toNatClampNeg y.toNatClampNeg) := rfl
      have hAn : pAll (cF μ) (cRu μ r) x.toNatClampNeg y.toNatClampNeg (j + 1) = false → pAll (cF μ) (cRu μ r) x.toNatClampNeg y.toNatClampNeg nt = false := fun h => pAll_no h nt (by omega)
      have hOn : pAny (cF μ) (cRu μ r) x.toNatClampNeg y.toNatClampNeg (j + 1) = true → pAny (cF μ) (cRu μ r) x.toNatClampNeg y.toNatClampNeg nt = true := fun h => pAny_yes h nt (by omega)
      repeat' (first
        | refine c_Ru_isAsTold hr (by omega) (fun hp => ?_) (fun hp => ?_)
        | refine ih (j + 1) _ _ _ (by omega) (nI_1 j) (by rw [hc] at *; grind) (by rw [hc] at *; grind)
        | exact h1 (by rw [hc] at *; grind)
        | exact h0 (by rw [hc] at *; grind)
        | refine zs k_Ru_holds rfl ?_
        | refine br_t (by simp (disch := omega) only [hnt, nI_leI, nI_ltI, nI_eq]; omega) ?_
        | refine br_f (by simp (disch := omega) only [hnt, nI_leI, nI_ltI, nI_eq]; omega) ?_
        | refine ⟨Nat.zero_lt_one, rfl, ?_⟩
        | refine ⟨rfl, ?_⟩
        | refine ⟨⟨Nat.zero_lt_one, rfl⟩, Nat.le_of_ble_eq_true rfl, ?_⟩
        | refine ⟨Nat.le_of_ble_eq_true rfl, Nat.le_of_ble_eq_true rfl, ?_⟩
        | refine ⟨(by first | exact Nat.zero_lt_one | assumption | omega), (by first | assumption | exact vp_in_nI (by omega) (by omega) | (unfold vp_in; decide)), ?_⟩
        | refine ⟨(by first | exact Nat.zero_lt_one | assumption | omega), rfl, ?_⟩
        | refine ⟨⟨(by first | exact Nat.zero_lt_one | assumption | omega), rfl⟩, Nat.le_of_ble_eq_true rfl, ?_⟩
        | refine ⟨(by first | exact Nat.zero_lt_one | assumption | omega), ?_⟩
        | refine ⟨Or.inl rfl, ?_⟩
        | refine ⟨Or.inr (Or.inl rfl), ?_⟩
        | refine ⟨Or.inr (Or.inr rfl), ?_⟩
        | refine ⟨Or.inr ⟨rfl, (by first | exact Or.inl rfl | exact Or.inr rfl | assumption)⟩, ?_⟩
        | refine ⟨fun h => absurd h (by decide), fun _ => ?_⟩
        | refine ⟨fun _ => ?_, fun h => absurd h (by decide)⟩
        | refine ⟨fun h => ?_, fun h => ?_⟩
        | fail)
  repeat' (first
    | exact L nt 0 _ _ _ (by omega) rfl (fun _ => rfl) (fun _ => rfl)
    | refine zs k_Ru_holds rfl ?_
    | refine ⟨Nat.zero_lt_one, rfl, ?_⟩
    | refine ⟨rfl, ?_⟩
    | refine ⟨⟨Nat.zero_lt_one, rfl⟩, Nat.le_of_ble_eq_true rfl, ?_⟩
    | refine ⟨Nat.le_of_ble_eq_true rfl, Nat.le_of_ble_eq_true rfl, ?_⟩
    | refine ⟨(by first | exact Nat.zero_lt_one | assumption | omega), (by first | assumption | exact vp_in_nI (by omega) (by omega) | (unfold vp_in; decide)), ?_⟩
    | refine ⟨(by first | exact Nat.zero_lt_one | assumption | omega), rfl, ?_⟩
    | refine ⟨⟨(by first | exact Nat.zero_lt_one | assumption | omega), rfl⟩, Nat.le_of_ble_eq_true rfl, ?_⟩
    | refine ⟨(by first | exact Nat.zero_lt_one | assumption | omega), ?_⟩
    | refine ⟨Or.inl rfl, ?_⟩
    | refine ⟨Or.inr (Or.inl rfl), ?_⟩
    | refine ⟨Or.inr (Or.inr rfl), ?_⟩
    | refine ⟨Or.inr ⟨rfl, (by first | exact Or.inl rfl | exact Or.inr rfl | assumption)⟩, ?_⟩
    | refine ⟨fun h => absurd h (by decide), fun _ => ?_⟩
    | refine ⟨fun _ => ?_, fun h => absurd h (by decide)⟩
    | refine ⟨fun h => ?_, fun h => ?_⟩
    | fail)
