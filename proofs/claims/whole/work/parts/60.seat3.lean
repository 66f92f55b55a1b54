/-! SEATING: guests, arrange -/
def gsT (x : Int32) (p : Nat) : List Nat := (List.range p).filter (zbt x)
theorem gsT_s (x : Int32) (p : Nat) : gsT x (p + 1) = gsT x p ++ (if zbt x p then [p] else []) := by
  unfold gsT
  rw [List.range_succ, List.filter_append]
  congr 1
  cases h : zbt x p <;> simp [h]
theorem gsT_pre {x : Int32} {p : Nat} : ∀ k, ∃ u, gsT x (p + k) = gsT x p ++ u
  | 0 => ⟨[], by simp⟩
  | k + 1 => by
    obtain ⟨u, hu⟩ := gsT_pre (x := x) (p := p) k
    exact ⟨u ++ (if zbt x (p + k) then [p + k] else []), by rw [← Nat.add_assoc, gsT_s, hu, List.append_assoc]⟩
theorem gsT_sorted (x : Int32) (p : Nat) : (gsT x p).Pairwise (· < ·) := List.pairwise_lt_range.filter _
theorem gsT_mem {x : Int32} {p g : Nat} : g ∈ gsT x p ↔ g < p ∧ zbt x g = true := by
  unfold gsT
  rw [List.mem_filter, List.mem_range]
theorem c_Se_gatherGuests {d : Nat} {μ : zMu} {x : Int32} {K : Option zV → zMu → Prop} (h7 : (gsT x 20).length ≤ 7) (hK : ∀ μ', (∀ f, f ∉ [6, 41, 42] → μ' f = μ f) → μ' 6 0 5 = nI (gsT x 20).length → (∀ j g, (gsT x 20)[j]? = some g → μ' 41 0 j = nI g ∧ μ' 42 0 j = 0) → K none μ') : Ct (d + 1) m_Se_gatherGuests [zR 6 0, zI x] μ K := by
  refine zmeet rfl (Nat.le_of_ble_eq_true rfl) (fun S => ?_)
  have L : ∀ (k p : Nat) (y : Int32) (μ1 : zMu), p + k = 20 → y = nI p → (∀ f, f ∉ [6, 41, 42] → μ1 f = μ f) → μ1 6 0 5 = nI (gsT x p).length → (∀ j g, (gsT x p)[j]? = some g → μ1 41 0 j = nI g ∧ μ1 42 0 j = 0) → zG S (d + 1) m_Se_gatherGuests K 7 [some (zR 6 0), some (zI x), some (zI y)] [] μ1 := by
    intro k
    induction k with
    | zero =>
      intro p y μ1 hp hy hf h5 hg
      subst hy
      obtain rfl : p = 20 := by omega
      have hk := hK μ1 hf h5 hg
      refine zs k_Se_gatherGuests rfl ?_
      repeat' (first
        | refine br_t (by decide) ?_
        | exact hk
        | refine zs k_Se_gatherGuests rfl ?_
        | refine ⟨Nat.zero_lt_one, rfl, ?_⟩
        | refine ⟨rfl, ?_⟩
        | refine ⟨⟨Nat.zero_lt_one, rfl⟩, Nat.le_of_ble_eq_true rfl, ?_⟩
        | refine ⟨Nat.le_of_ble_eq_true rfl, Nat.le_of_ble_eq_true rfl, ?_⟩
        | refine ⟨(by first | exact Nat.zero_lt_one | assumption | omega), (by first | assumption | exact vp_in_nI (by omega) (by omega) | (unfold vp_in; decide)), ?_⟩
        | refine ⟨(by first | exact Nat.zero_lt_one | assumption | omega), rfl, ?_⟩
        | refine ⟨⟨(by first | exact Nat.zero_lt_one | assumption | omega), rfl⟩, Nat.le_of_ble_eq_true rfl, ?_⟩
        | refine ⟨(by first | exact Nat.zero_lt_one | assumption | omega), ?_⟩
        | refine ⟨Or.inl rfl, ?_⟩
        | refine ⟨Or.inr (Or.inl rfl), ?_⟩
        | refine ⟨Or.inr (Or.inr rfl), ?_⟩
        | refine ⟨Or.inr ⟨rfl, (by first | exact Or.inl rfl | exact Or.inr rfl | assumption)⟩, ?_⟩
        | refine ⟨fun h => absurd h (by decide), fun _ => ?_⟩
        | refine ⟨fun _ => ?_, fun h => absurd h (by decide)⟩
        | refine ⟨fun h => ?_, fun h => ?_⟩
        | fail)
    | succ k ih =>
      intro p y μ1 hp hy hf h5 hg
      subst hy
      have hpc : (nI p).toNatClampNeg = p := nI_clamp (by omega)
      obtain ⟨u, hu⟩ := gsT_pre (x := x) (p := p) (k + 1)
      rw [hp] at hu
      have hul : (gsT x p).length + u.length ≤ 7 := by
        rw [← List.length_append, ← hu]
        exact h7
      by_cases hs : (gsT x p).length = 7
      · have hu0 : u = [] := List.eq_nil_of_length_eq_zero (by omega)
        rw [hu0, List.append_nil] at hu
        have hk := hK μ1 hf (by rw [hu]; exact h5) (by rw [hu]; exact hg)
        have h57 : (7 : Int32) ≤ μ1 6 0 5 := by rw [h5, hs]; decide
        refine zs k_Se_gatherGuests rfl ?_
        repeat' (first
          | refine br_f (show ¬ nI 20 ≤ nI p from nI_ge (by omega) (by omega)) ?_
          | refine br_t h57 ?_
          | exact hk
          | refine zs k_Se_gatherGuests rfl ?_
          | refine ⟨Nat.zero_lt_one, rfl, ?_⟩
          | refine ⟨rfl, ?_⟩
          | refine ⟨⟨Nat.zero_lt_one, rfl⟩, Nat.le_of_ble_eq_true rfl, ?_⟩
          | refine ⟨Nat.le_of_ble_eq_true rfl, Nat.le_of_ble_eq_true rfl, ?_⟩
          | refine ⟨(by first | exact Nat.zero_lt_one | assumption | omega), (by first | assumption | exact vp_in_nI (by omega) (by omega) | (unfold vp_in; decide)), ?_⟩
          | refine ⟨(by first | exact Nat.zero_lt_one | assumption | omega), rfl, ?_⟩
          | refine ⟨⟨(by first | exact Nat.zero_lt_one | assumption | omega), rfl⟩, Nat.le_of_ble_eq_true rfl, ?_⟩
          | refine ⟨(by first | exact Nat.zero_lt_one | assumption | omega), ?_⟩
          | refine ⟨Or.inl rfl, ?_⟩
          | refine ⟨Or.inr (Or.inl rfl), ?_⟩
          | refine ⟨Or.inr (Or.inr rfl), ?_⟩
          | refine ⟨Or.inr ⟨rfl, (by first | exact Or.inl rfl | exact Or.inr rfl | assumption)⟩, ?_⟩
          | refine ⟨fun h => absurd h (by decide), fun _ => ?_⟩
          | refine ⟨fun _ => ?_, fun h => absurd h (by decide)⟩
          | refine ⟨fun h => ?_, fun h => ?_⟩
          | fail)
      · have h57 : ¬ (7 : Int32) ≤ μ1 6 0 5 := by rw [h5]; exact nI_ge (a := (gsT x p).length) (b := 7) (by omega) (by omega)
        have hv : vp_in (μ1 6 0 5) 7 := by rw [h5]; exact vp_in_nI (by omega) (by omega)
        have hc5 : (μ1 6 0 5).toNatClampNeg = (gsT x p).length := by rw [h5]; exact nI_clamp (by omega)
        have hss := gsT_s x p
        refine zs k_Se_gatherGuests rfl ?_
        repeat' (first
          | refine br_f (show ¬ nI 20 ≤ nI p from nI_ge (by omega) (by omega)) ?_
          | refine br_f h57 ?_
          | refine n_isIn (by omega) (fun hb => ?_) (fun hb => ?_)
          | refine ih (p + 1) _ _ (by omega) (by exact nI_1 p) ?_ ?_ ?_
          | refine zs k_Se_gatherGuests rfl ?_
          | refine ⟨Nat.zero_lt_one, rfl, ?_⟩
          | refine ⟨rfl, ?_⟩
          | refine ⟨⟨Nat.zero_lt_one, rfl⟩, Nat.le_of_ble_eq_true rfl, ?_⟩
          | refine ⟨Nat.le_of_ble_eq_true rfl, Nat.le_of_ble_eq_true rfl, ?_⟩
          | refine ⟨(by first | exact Nat.zero_lt_one | assumption | omega), (by first | assumption | exact vp_in_nI (by omega) (by omega) | (unfold vp_in; decide)), ?_⟩
          | refine ⟨(by first | exact Nat.zero_lt_one | assumption | omega), rfl, ?_⟩
          | refine ⟨⟨(by first | exact Nat.zero_lt_one | assumption | omega), rfl⟩, Nat.le_of_ble_eq_true rfl, ?_⟩
          | refine ⟨(by first | exact Nat.zero_lt_one | assumption | omega), ?_⟩
          | refine ⟨Or.inl rfl, ?_⟩
          | refine ⟨Or.inr (Or.inl rfl), ?_⟩
          | refine ⟨Or.inr (Or.inr rfl), ?_⟩
          | refine ⟨Or.inr ⟨rfl, (by first | exact Or.inl rfl | exact Or.inr rfl | assumption)⟩, ?_⟩
          | refine ⟨fun h => absurd h (by decide), fun _ => ?_⟩
          | refine ⟨fun _ => ?_, fun h => absurd h (by decide)⟩
          | refine ⟨fun h => ?_, fun h => ?_⟩
          | fail)
        · intro f hf2
          rw [← hf f hf2]
          funext a b
          rw [zu_ne (fun q => hf2 (by rw [q.1]; simp)), zu_ne (fun q => hf2 (by rw [q.1]; simp)), zu_ne (fun q => hf2 (by rw [q.1]; simp))]
        · rw [hss, hb]
          show μ1 6 0 5 + 1 = nI (gsT x p ++ [p]).length
          rw [h5, List.length_append, nI_1]
          rfl
        · intro j g hj
          rw [hss, hb] at hj
          replace hj : (gsT x p ++ [p])[j]? = some g := hj
          have hc6 : (zu μ1 41 0 (gsT x p).length (nI p) 6 0 5).toNatClampNeg = (gsT x p).length := hc5
          rw [hc5, hc6]
          by_cases hjl : j < (gsT x p).length
          · rw [List.getElem?_append_left hjl] at hj
            show zu μ1 41 0 (gsT x p).length (nI p) 41 0 j = nI g ∧ zu μ1 42 0 (gsT x p).length (vp_nar .boolean 0) 42 0 j = 0
            rw [zu_ne (fun q => by omega), zu_ne (fun q => by omega)]
            exact hg j g hj
          · have hjb := (List.getElem?_eq_some_iff.mp hj).1
            rw [List.length_append, List.length_singleton] at hjb
            obtain rfl : j = (gsT x p).length := by omega
            rw [List.getElem?_append_right (by omega), Nat.sub_self] at hj
            obtain rfl : p = g := Option.some.inj hj
            show zu μ1 41 0 (gsT x p).length (nI p) 41 0 (gsT x p).length = nI p ∧ zu μ1 42 0 (gsT x p).length (vp_nar .boolean 0) 42 0 (gsT x p).length = 0
            rw [zu_eq, zu_eq]
            exact ⟨rfl, rfl⟩
        · exact hf
        · rw [hss, hb]
          simpa using h5
        · rw [hss, hb]
          simpa using hg
  repeat' (first
    | refine L 20 0 _ _ (by omega) rfl ?_ rfl ?_
    | refine zs k_Se_gatherGuests rfl ?_
    | refine ⟨Nat.zero_lt_one, rfl, ?_⟩
    | refine ⟨rfl, ?_⟩
    | refine ⟨⟨Nat.zero_lt_one, rfl⟩, Nat.le_of_ble_eq_true rfl, ?_⟩
    | refine ⟨Nat.le_of_ble_eq_true rfl, Nat.le_of_ble_eq_true rfl, ?_⟩
    | refine ⟨(by first | exact Nat.zero_lt_one | assumption | omega), (by first | assumption | exact vp_in_nI (by omega) (by omega) | (unfold vp_in; decide)), ?_⟩
    | refine ⟨(by first | exact Nat.zero_lt_one | assumption | omega), rfl, ?_⟩
    | refine ⟨⟨(by first | exact Nat.zero_lt_one | assumption | omega), rfl⟩, Nat.le_of_ble_eq_true rfl, ?_⟩
    | refine ⟨(by first | exact Nat.zero_lt_one | assumption | omega), ?_⟩
    | refine ⟨Or.inl rfl, ?_⟩
    | refine ⟨Or.inr (Or.inl rfl), ?_⟩
    | refine ⟨Or.inr (Or.inr rfl), ?_⟩
    | refine ⟨Or.inr ⟨rfl, (by first | exact Or.inl rfl | exact Or.inr rfl | assumption)⟩, ?_⟩
    | refine ⟨fun h => absurd h (by decide), fun _ => ?_⟩
    | refine ⟨fun _ => ?_, fun h => absurd h (by decide)⟩
    | refine ⟨fun h => ?_, fun h => ?_⟩
    | fail)
  · intro f hf
    funext a b
    exact zu_ne (fun q => hf (by rw [q.1]; simp))
  · intro j g hj
    simp [gsT] at hj
/-- what is known when the search begins: places and guests -/
def sBeg (μ μ0 : zMu) (m : Nat) (o : Nat → Nat) (x : Int32) : Prop := (∀ f, f ∉ [6, 39, 41, 42, 43, 44] → μ0 f = μ f) ∧ (∀ i, i < m → zbt x (o i) = true → μ0 39 0 (o i) = nI (pCt (fun i => zbt x (o i)) i)) ∧ (∀ j g, (gsT x 20)[j]? = some g → μ0 41 0 j = nI g)
def sRes (μ0 : zMu) (t n : Nat) (gs : List Nat) : Nat × List Nat := (en (sPe μ0 (μ0 9 t 2) n) (sPc μ0 (μ0 9 t 2) n) gs.length [] gs 0).foldl bst (1000000, [])
set_option maxHeartbeats 1000000 in
theorem c_Se_arrange {d t n m : Nat} {μ : zMu} {x : Int32} {o : Nat → Nat} {K : Option zV → zMu → Prop} (ht : t < 4) (h7 : (gsT x 20).length ≤ 7) (hm : μ 4 0 0 = nI m) (h20 : m ≤ 20) (ho : ∀ i, i < m → o i < 20 ∧ μ 27 0 i = nI (o i)) (hd : ∀ i j, i < j → j < m → o i ≠ o j)
    (hE : ∀ μ0, sBeg μ μ0 m o x → sEnv μ0 t n (gsT x 20))
    (h0 : ∀ μ0 μ', sBeg μ μ0 m o x → (sRes μ0 t n (gsT x 20)).1 = 1000000 → (∀ f, f ∉ [6, 39, 41, 42, 43, 44] → μ' f = μ f) → K (some (zI (-1))) μ')
    (h1 : ∀ μ0 μ', sBeg μ μ0 m o x → (sRes μ0 t n (gsT x 20)).1 < 1000000 → (∀ f, f ∉ [6, 39, 40, 41, 42, 43, 44] → μ' f = μ f) → (∀ i k, μ' 40 i k = if i = t ∧ k < 12 then lw (sRes μ0 t n (gsT x 20)).2 k else μ 40 i k) → K (some (zI (nI (sRes μ0 t n (gsT x 20)).1))) μ') : Ct (d + 12) m_Se_arrange [zR 6 0, zR 9 t, zR 4 0, zI x] μ K := by
  refine zmeet rfl (Nat.le_of_ble_eq_true rfl) (fun S => ?_)
  have A : ∀ μ2 : zMu, (∀ f, f ∉ [6, 41, 42] → μ2 f = μ f) → μ2 6 0 5 = nI (gsT x 20).length → (∀ j g, (gsT x 20)[j]? = some g → μ2 41 0 j = nI g ∧ μ2 42 0 j = 0) → ∀ μ3 : zMu, (∀ f, f ≠ 39 → μ3 f = μ2 f) → (∀ i, i < m → zbt x (o i) = true → μ3 39 0 (o i) = nI (pCt (fun i => zbt x (o i)) i)) → ∀ μ4 : zMu, μ4 = zu (fun f i k => if f = 44 ∧ i = 0 ∧ k < 12 then -1 else (fun f i k => if f = 43 ∧ i = 0 ∧ k < 12 then -1 else μ3 f i k) f i k) 6 0 6 1000000 → sBeg μ μ4 m o x ∧ sSt μ4 μ4 (gsT x 20) [] (1000000, []) := by
    intro μ2 a1 a2 a3 μ3 b1 b2 μ4 h4
    subst h4
    refine ⟨⟨fun f hf => ?_, fun i hi hb => b2 i hi hb, fun j g hj => ?_⟩, fun _ _ => rfl, ?_, rfl, fun j g hj => ?_, fun k hk => absurd hk (by simp), fun k hk => ?_, by simp, by simp⟩
    · simp only [List.mem_cons, List.not_mem_nil, or_false, not_or] at hf
      have e1 := b1 f (by omega)
      have e2 := a1 f (by simp only [List.mem_cons, List.not_mem_nil, or_false, not_or]; omega)
      rw [← e2, ← e1]
      funext a b
      rw [zu_ne (fun q => by omega)]
      show (if f = 44 ∧ a = 0 ∧ b < 12 then -1 else if f = 43 ∧ a = 0 ∧ b < 12 then -1 else μ3 f a b) = μ3 f a b
      rw [if_neg (by omega), if_neg (by omega)]
    · show μ3 41 0 j = nI g
      rw [b1 41 (by omega)]
      exact (a3 j g hj).1
    · show μ3 6 0 5 = _
      rw [b1 6 (by omega)]
      exact a2
    · show μ3 42 0 j = _
      rw [b1 42 (by omega), (a3 j g hj).2]
      simp
    · show (if 44 = 44 ∧ 0 = 0 ∧ k < 12 then (-1 : Int32) else _) = lw [] k
      rw [if_pos ⟨rfl, rfl, hk⟩, lw_out (by simp)]
  have B : ∀ μ4 : zMu, sBeg μ μ4 m o x → ∀ μ5 : zMu, sSt μ4 μ5 (gsT x 20) [] (sRes μ4 t n (gsT x 20)) → zG S (d + 12) m_Se_arrange K 43 [some (zR 6 0), some (zR 9 t), some (zR 4 0), some (zI x)] [] μ5 := by
    intro μ4 hb μ5 hs
    have h66 := hs.2.2.1
    have hle := hs.2.2.2.2.2.2.2
    have hfr : ∀ f, f ∉ [6, 39, 41, 42, 43, 44] → μ5 f = μ f := fun f hf => by
      rw [← hb.1 f hf]
      refine hs.1 f (fun q => hf ?_)
      simp only [List.mem_cons, List.not_mem_nil, or_false] at q ⊢
      omega
    by_cases hq : (sRes μ4 t n (gsT x 20)).1 = 1000000
    · have hk := h0 μ4 μ5 hb hq hfr
      have hv : μ5 6 0 6 = 1000000 := by rw [h66, hq]; rfl
      refine zs k_Se_arrange rfl ?_
      repeat' (first
        | refine ⟨fun q => absurd hv q, fun _ => ?_⟩
        | exact hk
        | refine zs k_Se_arrange rfl ?_
        | refine ⟨Nat.zero_lt_one, rfl, ?_⟩
        | refine ⟨rfl, ?_⟩
        | refine ⟨⟨Nat.zero_lt_one, rfl⟩, Nat.le_of_ble_eq_true rfl, ?_⟩
        | refine ⟨Nat.le_of_ble_eq_true rfl, Nat.le_of_ble_eq_true rfl, ?_⟩
        | refine ⟨(by first | exact Nat.zero_lt_one | assumption | omega), (by first | assumption | exact vp_in_nI (by omega) (by omega) | (unfold vp_in; decide)), ?_⟩
        | refine ⟨(by first | exact Nat.zero_lt_one | assumption | omega), rfl, ?_⟩
        | refine ⟨⟨(by first | exact Nat.zero_lt_one | assumption | omega), rfl⟩, Nat.le_of_ble_eq_true rfl, ?_⟩
        | refine ⟨(by first | exact Nat.zero_lt_one | assumption | omega), ?_⟩
        | refine ⟨Or.inl rfl, ?_⟩
        | refine ⟨Or.inr (Or.inl rfl), ?_⟩
        | refine ⟨Or.inr (Or.inr rfl), ?_⟩
        | refine ⟨Or.inr ⟨rfl, (by first | exact Or.inl rfl | exact Or.inr rfl | assumption)⟩, ?_⟩
        | refine ⟨fun h => absurd h (by decide), fun _ => ?_⟩
        | refine ⟨fun _ => ?_, fun h => absurd h (by decide)⟩
        | refine ⟨fun h => ?_, fun h => ?_⟩
        | fail)
    · have hv : ¬ μ5 6 0 6 = 1000000 := by
        rw [h66]
        exact fun e => hq ((nI_eq (a := (sRes μ4 t n (gsT x 20)).1) (b := 1000000) (by omega) (by omega)).mp e)
      have hle2 : (0 : Int32).toNatClampNeg + (12 : Int32).toNatClampNeg ≤ 12 := by decide
      have hk := fun μ' => h1 μ4 μ' hb (by omega)
      refine zs k_Se_arrange rfl ?_
      repeat' (first
        | refine ⟨fun _ => ?_, fun q => absurd q hv⟩
        | refine ⟨Nat.zero_lt_one, (by omega), (by decide), (by decide), (by decide), hle2, hle2, Nat.le_of_ble_eq_true rfl, ?_⟩
        | refine zKe (hk _ ?_ ?_) ?_ rfl
        | refine zs k_Se_arrange rfl ?_
        | refine ⟨Nat.zero_lt_one, rfl, ?_⟩
        | refine ⟨rfl, ?_⟩
        | refine ⟨⟨Nat.zero_lt_one, rfl⟩, Nat.le_of_ble_eq_true rfl, ?_⟩
        | refine ⟨Nat.le_of_ble_eq_true rfl, Nat.le_of_ble_eq_true rfl, ?_⟩
        | refine ⟨(by first | exact Nat.zero_lt_one | assumption | omega), (by first | assumption | exact vp_in_nI (by omega) (by omega) | (unfold vp_in; decide)), ?_⟩
        | refine ⟨(by first | exact Nat.zero_lt_one | assumption | omega), rfl, ?_⟩
        | refine ⟨⟨(by first | exact Nat.zero_lt_one | assumption | omega), rfl⟩, Nat.le_of_ble_eq_true rfl, ?_⟩
        | refine ⟨(by first | exact Nat.zero_lt_one | assumption | omega), ?_⟩
        | refine ⟨Or.inl rfl, ?_⟩
        | refine ⟨Or.inr (Or.inl rfl), ?_⟩
        | refine ⟨Or.inr (Or.inr rfl), ?_⟩
        | refine ⟨Or.inr ⟨rfl, (by first | exact Or.inl rfl | exact Or.inr rfl | assumption)⟩, ?_⟩
        | refine ⟨fun h => absurd h (by decide), fun _ => ?_⟩
        | refine ⟨fun _ => ?_, fun h => absurd h (by decide)⟩
        | refine ⟨fun h => ?_, fun h => ?_⟩
        | fail)
      · intro f hf
        funext a b
        rw [if_neg (fun q => hf (by rw [q.1]; simp)), hfr f (fun q => hf (by simp only [List.mem_cons, List.not_mem_nil, or_false] at q ⊢; omega))]
      · intro i k
        rw [show (0 : Int32).toNatClampNeg = 0 from rfl, show (12 : Int32).toNatClampNeg = 12 from rfl]
        by_cases hik : i = t ∧ k < 12
        · rw [if_pos hik, if_pos ⟨rfl, hik.1, by omega, by omega⟩, Nat.zero_add, Nat.sub_zero]
          exact hs.2.2.2.2.2.1 k hik.2
        · rw [if_neg hik, if_neg (fun q => hik ⟨q.2.1, by omega⟩), hfr 40 (by decide)]
      · exact h66
  repeat' (first
    | refine c_Se_gatherGuests h7 (fun μ2 a1 a2 a3 => ?_)
    | refine c_Ha_numberPlaces (m := m) (o := o) (by rw [a1 4 (by decide)]; exact hm) h20 (by rw [a1 27 (by decide)]; exact ho) hd (fun μ3 b1 b2 => ?_)
    | refine c_fill_43 (t := t) ?_
    | refine c_fill_44 (t := t) ?_
    | refine c_Se_fillFrom (hE _ (A _ a1 a2 a3 _ b1 b2 _ rfl).1) (gsT x 20).length (d := d + 8 - (gsT x 20).length) (c := 0) (w := []) (b := (1000000, [])) (by omega) (by simp) (by simp) (by omega) (A _ a1 a2 a3 _ b1 b2 _ rfl).2 rfl rfl ?_
    | refine fun μ5 hs5 => B _ (A _ a1 a2 a3 _ b1 b2 _ rfl).1 μ5 ?_
    | refine zs k_Se_arrange rfl ?_
    | refine ⟨Nat.zero_lt_one, rfl, ?_⟩
    | refine ⟨rfl, ?_⟩
    | refine ⟨⟨Nat.zero_lt_one, rfl⟩, Nat.le_of_ble_eq_true rfl, ?_⟩
    | refine ⟨Nat.le_of_ble_eq_true rfl, Nat.le_of_ble_eq_true rfl, ?_⟩
    | refine ⟨(by first | exact Nat.zero_lt_one | assumption | omega), (by first | assumption | exact vp_in_nI (by omega) (by omega) | (unfold vp_in; decide)), ?_⟩
    | refine ⟨(by first | exact Nat.zero_lt_one | assumption | omega), rfl, ?_⟩
    | refine ⟨⟨(by first | exact Nat.zero_lt_one | assumption | omega), rfl⟩, Nat.le_of_ble_eq_true rfl, ?_⟩
    | refine ⟨(by first | exact Nat.zero_lt_one | assumption | omega), ?_⟩
    | refine ⟨Or.inl rfl, ?_⟩
    | refine ⟨Or.inr (Or.inl rfl), ?_⟩
    | refine ⟨Or.inr (Or.inr rfl), ?_⟩
    | refine ⟨Or.inr ⟨rfl, (by first | exact Or.inl rfl | exact Or.inr rfl | assumption)⟩, ?_⟩
    | refine ⟨fun h => absurd h (by decide), fun _ => ?_⟩
    | refine ⟨fun _ => ?_, fun h => absurd h (by decide)⟩
    | refine ⟨fun h => ?_, fun h => ?_⟩
    | fail)
  rw [show (gsT x 20).filter (zNot []) = gsT x 20 from List.filter_eq_self.mpr (fun _ _ => by simp)] at hs5
  exact hs5
