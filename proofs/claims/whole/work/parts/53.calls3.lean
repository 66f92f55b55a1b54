/-! CALLS: the visits as a list -/
abbrev zVt : Type := Int32 × Int32 × Int32
def cVs (μ : zMu) (L : List zVt) : Prop := μ 7 0 0 = nI L.length ∧ L.length ≤ 40 ∧ ∀ (k : Nat) (e : zVt), L[k]? = some e → μ 46 0 k = e.1 ∧ μ 45 0 k = e.2.1 ∧ μ 47 0 k = e.2.2
theorem cVs_rem {μ : zMu} {L : List zVt} {v : Nat} (h : cVs μ L) (hv : v < L.length) : cVs (cRem (zu μ 7 0 0 (nI (L.length - 1))) v (L.length - 1)) (L.eraseIdx v) := by
  obtain ⟨h1, h2, h3⟩ := h
  have hl : (L.eraseIdx v).length = L.length - 1 := List.length_eraseIdx_of_lt hv
  refine ⟨by rw [hl]; rfl, by omega, fun k e he => ?_⟩
  have hk : k < L.length - 1 := by
    have := (List.getElem?_eq_some_iff.mp he).1
    omega
  rw [List.getElem?_eraseIdx] at he
  have e46 : cRem (zu μ 7 0 0 (nI (L.length - 1))) v (L.length - 1) 46 0 k = if v ≤ k ∧ k < L.length - 1 then μ 46 0 (k + 1) else μ 46 0 k := rfl
  have e45 : cRem (zu μ 7 0 0 (nI (L.length - 1))) v (L.length - 1) 45 0 k = if v ≤ k ∧ k < L.length - 1 then μ 45 0 (k + 1) else μ 45 0 k := rfl
  have e47 : cRem (zu μ 7 0 0 (nI (L.length - 1))) v (L.length - 1) 47 0 k = if v ≤ k ∧ k < L.length - 1 then μ 47 0 (k + 1) else μ 47 0 k := rfl
  rw [e46, e45, e47]
  by_cases hvk : k < v
  · rw [if_pos hvk] at he
    rw [if_neg (by omega), if_neg (by omega), if_neg (by omega)]
    exact h3 k e he
  · rw [if_neg hvk] at he
    rw [if_pos (by omega), if_pos (by omega), if_pos (by omega)]
    exact h3 (k + 1) e he
/-- only these families change -/
def zOnl (fs : List Nat) (μ μ' : zMu) : Prop := ∀ f, f ∉ fs → μ' f = μ f
theorem cRem_onl {μ : zMu} {x : Int32} {v n : Nat} : zOnl [7, 45, 46, 47] μ (cRem (zu μ 7 0 0 x) v n) ∧ cRem (zu μ 7 0 0 x) v n 7 0 1 = μ 7 0 1 := by
  refine ⟨fun f hf => ?_, rfl⟩
  simp only [List.mem_cons, List.not_mem_nil, or_false, not_or] at hf
  funext a b
  simp only [cRem, zu]
  rw [if_neg (by omega), if_neg (by omega)]
def pMt (x y : Int32) (e : zVt) : Bool := decide (e.1 = x) && decide (e.2.1 = y)
theorem c_Ca_settleAll {d : Nat} {μ : zMu} {x y : Int32} {L : List zVt} {K : Option zV → zMu → Prop} (hL : cVs μ L)
    (hK : ∀ μ', zOnl [7, 45, 46, 47] μ μ' → μ' 7 0 1 = μ 7 0 1 → cVs μ' (L.filter (fun e => !pMt x y e)) → K (some (zI (nI (L.countP (pMt x y))))) μ') : Ct (d + 1) m_Ca_settleAll [zR 7 0, zI x, zI y] μ K := by
  refine zmeet rfl (Nat.le_of_ble_eq_true rfl) (fun S => ?_)
  have hl40 := hL.2.1
  have H : ∀ (i : Nat) (v s : Int32) (μ1 : zMu), i ≤ L.length → v = nI i - 1 → s = nI ((L.drop i).countP (pMt x y)) → zOnl [7, 45, 46, 47] μ μ1 → μ1 7 0 1 = μ 7 0 1 → cVs μ1 (L.take i ++ (L.drop i).filter (fun e => !pMt x y e)) → zG S (d + 1) m_Ca_settleAll K 10 [some (zR 7 0), some (zI x), some (zI y), some (zI s), some (zI v)] [] μ1 := by
    intro i
    induction i with
    | zero =>
      intro v s μ1 hi hv hs ho h71 hc
      subst hv hs
      have hk := hK μ1 ho h71 (by simpa using hc)
      refine zs k_Ca_settleAll rfl ?_
      repeat' (first
        | refine br_t (by decide) ?_
        | exact hk
        | refine zs k_Ca_settleAll rfl ?_
        | refine ⟨Nat.zero_lt_one, rfl, ?_⟩
        | refine ⟨rfl, ?_⟩
        | refine ⟨⟨Nat.zero_lt_one, rfl⟩, Nat.le_of_ble_eq_true rfl, ?_⟩
        | refine ⟨Nat.le_of_ble_eq_true rfl, Nat.le_of_ble_eq_true rfl, ?_⟩
        | refine ⟨(by first | exact Nat.zero_lt_one | assumption | omega), (by first | assumption | exact vp_in_nI (by omega) (by omega) | (unfold vp_in; decide)), ?_⟩
        | refine ⟨(by first | exact Nat.zero_lt_one | assumption | omega), rfl, ?_⟩
        | refine ⟨⟨(by first | exact Nat.zero_lt_one | assumption | omega), rfl⟩, Nat.le_of_ble_eq_true rfl, ?_⟩
        | refine ⟨(by first | exact Nat.zero_lt_one | assumption | omega), ?_⟩
        | refine ⟨Or.inl rfl, ?_⟩
        | refine ⟨Or.inr (Or.inl rfl), ?_⟩
        | refine ⟨Or.inr (Or.inr rfl), ?_⟩
        | refine ⟨Or.inr ⟨rfl, (by first | exact Or.inl rfl | exact Or.inr rfl | assumption)⟩, ?_⟩
        | refine ⟨fun h => absurd h (by decide), fun _ => ?_⟩
        | refine ⟨fun _ => ?_, fun h => absurd h (by decide)⟩
        | refine ⟨fun h => ?_, fun h => ?_⟩
        | fail)
    | succ j ih =>
      intro v s μ1 hi hv hs ho h71 hc
      subst hv
      rw [nI_pred]
      have hj : j < L.length := by omega
      have hcl : (nI j).toNatClampNeg = j := nI_clamp (by omega)
      have hd : L.drop j = L[j] :: L.drop (j + 1) := List.drop_eq_getElem_cons hj
      have ht : L.take (j + 1) = L.take j ++ [L[j]] := by rw [List.take_add_one, List.getElem?_eq_getElem hj]; rfl
      have hat : (L.take (j + 1) ++ (L.drop (j + 1)).filter (fun e => !pMt x y e))[j]? = some L[j] := by
        rw [ht, List.append_assoc, List.getElem?_append_right (by rw [List.length_take]; omega), List.length_take, Nat.min_eq_left (by omega), Nat.sub_self]
        rfl
      have hrow := hc.2.2 j _ hat
      have hm : pMt x y L[j] = true ↔ (μ1 46 0 (nI j).toNatClampNeg = x ∧ μ1 45 0 (nI j).toNatClampNeg = y) := by
        rw [hcl, hrow.1, hrow.2.1]
        simp [pMt]
      have hlt : j < (L.take (j + 1) ++ (L.drop (j + 1)).filter (fun e => !pMt x y e)).length := (List.getElem?_eq_some_iff.mp hat).1
      have hlen : μ1 7 0 0 = nI ((L.take (j + 1) ++ (L.drop (j + 1)).filter (fun e => !pMt x y e)).length - 1 + 1) := by
        rw [hc.1]
        congr 1
        omega
      have hc40 := hc.2.1
      have her : (L.take (j + 1) ++ (L.drop (j + 1)).filter (fun e => !pMt x y e)).eraseIdx j = L.take j ++ (L.drop (j + 1)).filter (fun e => !pMt x y e) := by
        rw [ht, List.append_assoc, List.eraseIdx_append_of_length_le (by rw [List.length_take]; omega), List.length_take, Nat.min_eq_left (by omega), Nat.sub_self]
        rfl
      refine zs k_Ca_settleAll rfl ?_
      repeat' (first
        | refine br_f (nI_pos (by omega)) ?_
        | refine c_Ca_isBetween (vp_in_nI (by omega) (by omega)) (fun hb => ?_) (fun hb => ?_)
        | refine c_Ca_remove hlen (by omega) (by omega) ?_
        | refine ih _ _ _ (by omega) (by exact i32_m1 _) ?_ ?_ ?_ ?_
        | refine zs k_Ca_settleAll rfl ?_
        | refine ⟨Nat.zero_lt_one, rfl, ?_⟩
        | refine ⟨rfl, ?_⟩
        | refine ⟨⟨Nat.zero_lt_one, rfl⟩, Nat.le_of_ble_eq_true rfl, ?_⟩
        | refine ⟨Nat.le_of_ble_eq_true rfl, Nat.le_of_ble_eq_true rfl, ?_⟩
        | refine ⟨(by first | exact Nat.zero_lt_one | assumption | omega), (by first | assumption | exact vp_in_nI (by omega) (by omega) | (unfold vp_in; decide)), ?_⟩
        | refine ⟨(by first | exact Nat.zero_lt_one | assumption | omega), rfl, ?_⟩
        | refine ⟨⟨(by first | exact Nat.zero_lt_one | assumption | omega), rfl⟩, Nat.le_of_ble_eq_true rfl, ?_⟩
        | refine ⟨(by first | exact Nat.zero_lt_one | assumption | omega), ?_⟩
        | refine ⟨Or.inl rfl, ?_⟩
        | refine ⟨Or.inr (Or.inl rfl), ?_⟩
        | refine ⟨Or.inr (Or.inr rfl), ?_⟩
        | refine ⟨Or.inr ⟨rfl, (by first | exact Or.inl rfl | exact Or.inr rfl | assumption)⟩, ?_⟩
        | refine ⟨fun h => absurd h (by decide), fun _ => ?_⟩
        | refine ⟨fun _ => ?_, fun h => absurd h (by decide)⟩
        | refine ⟨fun h => ?_, fun h => ?_⟩
        | fail)
      · rw [hs, hd, List.countP_cons_of_pos (hm.mpr hb)]
        exact nI_1 _
      · intro f hf
        rw [cRem_onl.1 f hf]
        exact ho f hf
      · exact cRem_onl.2.trans h71
      · rw [hd, List.filter_cons_of_neg (by simp [hm.mpr hb]), ← her]
        exact cVs_rem hc hlt
      · rw [hs, hd, List.countP_cons_of_neg (fun h => hb (hm.mp h))]
      · exact ho
      · exact h71
      · have hf : pMt x y L[j] = false := by
          cases h : pMt x y L[j] with
          | false => rfl
          | true => exact absurd (hm.mp h) hb
        rw [hd, List.filter_cons_of_pos (by simp [hf])]
        rw [ht, List.append_assoc] at hc
        exact hc
  have hn := hL.1
  repeat' (first
    | refine H L.length _ _ _ (Nat.le_refl _) (by rw [hn]) ?_ (fun _ _ => rfl) rfl ?_
    | refine zs k_Ca_settleAll rfl ?_
    | refine ⟨Nat.zero_lt_one, rfl, ?_⟩
    | refine ⟨rfl, ?_⟩
    | refine ⟨⟨Nat.zero_lt_one, rfl⟩, Nat.le_of_ble_eq_true rfl, ?_⟩
    | refine ⟨Nat.le_of_ble_eq_true rfl, Nat.le_of_ble_eq_true rfl, ?_⟩
    | refine ⟨(by first | exact Nat.zero_lt_one | assumption | omega), (by first | assumption | exact vp_in_nI (by omega) (by omega) | (unfold vp_in; decide)), ?_⟩
    | refine ⟨(by first | exact Nat.zero_lt_one | assumption | omega), rfl, ?_⟩
    | refine ⟨⟨(by first | exact Nat.zero_lt_one | assumption | omega), rfl⟩, Nat.le_of_ble_eq_true rfl, ?_⟩
    | refine ⟨(by first | exact Nat.zero_lt_one | assumption | omega), ?_⟩
    | refine ⟨Or.inl rfl, ?_⟩
    | refine ⟨Or.inr (Or.inl rfl), ?_⟩
    | refine ⟨Or.inr (Or.inr rfl), ?_⟩
    | refine ⟨Or.inr ⟨rfl, (by first | exact Or.inl rfl | exact Or.inr rfl | assumption)⟩, ?_⟩
    | refine ⟨fun h => absurd h (by decide), fun _ => ?_⟩
    | refine ⟨fun _ => ?_, fun h => absurd h (by decide)⟩
    | refine ⟨fun h => ?_, fun h => ?_⟩
    | fail)
  · rw [List.drop_length]
    rfl
  · rw [List.take_length, List.drop_length]
    simpa using hL
