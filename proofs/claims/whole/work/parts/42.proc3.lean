/-! PROCESSION: tellRing -/
def zFrm (fs : List Nat) (μ μ' : zMu) : Prop := ∀ f i k, f ∉ fs → ¬ (f = 4 ∧ i = 0 ∧ k = 1) → μ' f i k = μ f i k
theorem fb_holes0 : ∀ (m n : Nat) (f : Nat → Nat), (∀ i, i < n → f i < m) → (∀ i j, i < j → j < n → f i ≠ f j) → n ≤ m
  | 0, n, f, h, _ => by
    rcases Nat.eq_zero_or_pos n with q | q
    · omega
    · exact absurd (h 0 q) (by omega)
  | m + 1, n, f, h, hd => by
    rcases Nat.eq_zero_or_pos n with q | q
    · omega
    · have := fb_holes0 m (n - 1) (fun i => if f i = m then f (n - 1) else f i) (fun i hi => by
        have h1 := h i (by omega)
        have h2 := h (n - 1) (by omega)
        have h3 := hd i (n - 1) (by omega) (by omega)
        show (if f i = m then f (n - 1) else f i) < m
        split <;> omega) (fun i j hij hj => by
        have h1 := hd i j hij (by omega)
        have h2 := hd i (n - 1) (by omega) (by omega)
        have h3 := hd j (n - 1) (by omega) (by omega)
        show (if f i = m then f (n - 1) else f i) ≠ (if f j = m then f (n - 1) else f j)
        split <;> split <;> omega)
      omega
theorem exS {w : Nat → Nat} {t : Nat} (P : Nat) : (∃ s, s < t ∧ w s = P) ∨ ∀ i, i < t → w i ≠ P := by
  induction t with
  | zero => exact Or.inr (fun i hi => absurd hi (by omega))
  | succ t ih =>
    rcases ih with ⟨s, h1, h2⟩ | h
    · exact Or.inl ⟨s, by omega, h2⟩
    · by_cases e : w t = P
      · exact Or.inl ⟨t, by omega, e⟩
      · exact Or.inr (lt_s h e)
set_option maxHeartbeats 4000000 in
theorem c_Pr_tellRing {d n st : Nat} {μ : zMu} {lf : Nat → Bool} {A : Nat → Nat → Bool} {y : Int32} {K : Option zV → zMu → Prop} (hn : μ 1 0 1 = nI n) (h20 : n ≤ 20) (hst : st < n) (hy : y = nI st) (hls : lf st = true) (hl : cLf μ lf) (hA : cLd μ A n) (hu : ∀ p, p < n → lf p = true → ¬ pAh lf A n p = -1) (hr0 : μ 4 0 1 = 0)
    (hK : ∀ (T s : Nat) (μ' : zMu), pRg (pWk lf A n st) T s → T ≤ 20 → zFrm [28, 30, 31] μ μ' → μ' 4 0 1 = nI (T - s) → (∀ k, k < T - s → μ' 28 0 k = nI (pWk lf A n st (s + k))) → K none μ') : Ct (d + 1) m_Pr_tellRing [zR 4 0, zI y] μ K := by
  subst hy
  refine zmeet rfl (Nat.le_of_ble_eq_true rfl) (fun S => ?_)
  have hw := pWk_in h20 hst hls hu
  generalize hwe : pWk lf A n st = w at hw hK
  -- the ring is copied
  have L2 : ∀ (T s : Nat), pRg w T s → T ≤ 20 → ∀ (k j : Nat) (x : Int32) (μ1 : zMu), j + k = T - s → x = nI (s + j) → zFrm [28, 30, 31] μ μ1 → μ1 4 0 1 = nI j → (∀ i, i < T → μ1 30 0 i = nI (w i)) → (∀ i, i < j → μ1 28 0 i = nI (w (s + i))) → zG S (d + 1) m_Pr_tellRing K 83 [some (zR 4 0), some (zI (nI st)), some (zI (nI (w T))), some (zI (nI T)), some (zI x)] [] μ1 := by
    intro T s hrg hT k
    have hsT := hrg.1
    induction k with
    | zero =>
      intro j x μ1 hj hx hf h1 hwk h28
      subst hx
      have hk := hK T s μ1 hrg hT hf (by rw [h1, show j = T - s by omega]) (fun i hi => h28 i (by omega))
      have hge : nI T ≤ nI (s + j) := nI_le (by omega) (by omega)
      refine zs k_Pr_tellRing rfl ?_
      repeat' (first
        | refine br_t hge ?_
        | exact hk
        | refine zs k_Pr_tellRing rfl ?_
        | refine ⟨Nat.zero_lt_one, rfl, ?_⟩
        | refine ⟨rfl, ?_⟩
        | refine ⟨⟨Nat.zero_lt_one, rfl⟩, Nat.le_of_ble_eq_true rfl, ?_⟩
        | refine ⟨Nat.le_of_ble_eq_true rfl, Nat.le_of_ble_eq_true rfl, ?_⟩
        | refine ⟨(by first | exact Nat.zero_lt_one | assumption | omega), (by first | assumption | exact vp_in_nI (by omega) (by omega) | (unfold vp_in; decide)), ?_⟩
        | refine ⟨(by first | exact Nat.zero_lt_one | assumption | omega), rfl, ?_⟩
        | refine ⟨⟨(by first | exact Nat.zero_lt_one | assumption | omega), rfl⟩, Nat.le_of_ble_eq_true rfl, ?_⟩
        | refine ⟨(by first | exact Nat.zero_lt_one | assumption | omega), ?_⟩
        | refine ⟨Or.inl rfl, ?_⟩
        | refine ⟨Or.inr (Or.inl rfl), ?_⟩
        | refine ⟨Or.inr (Or.inr rfl), ?_⟩
        | refine ⟨Or.inr ⟨rfl, (by first | exact Or.inl rfl | exact Or.inr rfl | assumption)⟩, ?_⟩
        | refine ⟨fun h => absurd h (by decide), fun _ => ?_⟩
        | refine ⟨fun _ => ?_, fun h => absurd h (by decide)⟩
        | refine ⟨fun h => ?_, fun h => ?_⟩
        | fail)
    | succ k ih =>
      intro j x μ1 hj hx hf h1 hwk h28
      subst hx
      have hlt : ¬ nI T ≤ nI (s + j) := nI_ge (by omega) (by omega)
      have hcs : (nI (s + j)).toNatClampNeg = s + j := nI_clamp (by omega)
      have hcj : (μ1 4 0 1).toNatClampNeg = j := by rw [h1]; exact nI_clamp (by omega)
      have hvj : vp_in (μ1 4 0 1) 20 := by rw [h1]; exact vp_in_nI (by omega) (by omega)
      have hv := hwk (s + j) (by omega)
      refine zs k_Pr_tellRing rfl ?_
      repeat' (first
        | refine br_f hlt ?_
        | refine ih (j + 1) _ _ (by omega) (by exact nI_1 (s + j)) ?_ ?_ ?_ ?_
        | refine zs k_Pr_tellRing rfl ?_
        | refine ⟨Nat.zero_lt_one, rfl, ?_⟩
        | refine ⟨rfl, ?_⟩
        | refine ⟨⟨Nat.zero_lt_one, rfl⟩, Nat.le_of_ble_eq_true rfl, ?_⟩
        | refine ⟨Nat.le_of_ble_eq_true rfl, Nat.le_of_ble_eq_true rfl, ?_⟩
        | refine ⟨(by first | exact Nat.zero_lt_one | assumption | omega), (by first | assumption | exact vp_in_nI (by omega) (by omega) | (unfold vp_in; decide)), ?_⟩
        | refine ⟨(by first | exact Nat.zero_lt_one | assumption | omega), rfl, ?_⟩
        | refine ⟨⟨(by first | exact Nat.zero_lt_one | assumption | omega), rfl⟩, Nat.le_of_ble_eq_true rfl, ?_⟩
        | refine ⟨(by first | exact Nat.zero_lt_one | assumption | omega), ?_⟩
        | refine ⟨Or.inl rfl, ?_⟩
        | refine ⟨Or.inr (Or.inl rfl), ?_⟩
        | refine ⟨Or.inr (Or.inr rfl), ?_⟩
        | refine ⟨Or.inr ⟨rfl, (by first | exact Or.inl rfl | exact Or.inr rfl | assumption)⟩, ?_⟩
        | refine ⟨fun h => absurd h (by decide), fun _ => ?_⟩
        | refine ⟨fun _ => ?_, fun h => absurd h (by decide)⟩
        | refine ⟨fun h => ?_, fun h => ?_⟩
        | fail)
      · intro f i k' hfs h41
        rw [← hf f i k' hfs h41]
        simp only [List.mem_cons, List.not_mem_nil, or_false, not_or] at hfs
        simp only [zu]
        rw [if_neg (by omega), if_neg (by omega)]
      · show μ1 4 0 1 + 1 = _
        rw [h1, nI_1]
      · intro i hi
        exact hwk i hi
      · intro i hi
        show (if 28 = 28 ∧ i = (μ1 4 0 1).toNatClampNeg ∧ 0 = 0 then μ1 30 0 (nI (s + j)).toNatClampNeg else μ1 28 0 i) = _
        rw [hcs, hcj, hv]
        by_cases e : i = j
        · rw [if_pos ⟨rfl, e, rfl⟩, e]
        · rw [if_neg (by omega)]
          exact h28 i (by omega)
  have E : ∀ (T s : Nat) (l4 : Option zV) (μ1 : zMu), pRg w T s → T ≤ 20 → zFrm [28, 30, 31] μ μ1 → μ1 4 0 1 = 0 → (∀ i, i < T → μ1 31 0 (w i) = nI i) → (∀ i, i < T → μ1 30 0 i = nI (w i)) → zG S (d + 1) m_Pr_tellRing K 59 [some (zR 4 0), some (zI (nI st)), some (zI (nI (w T))), some (zI (nI T)), l4] [] μ1 := by
    intro T s l4 μ1 hrg hT hf h1 h31 h30
    have hwT := (hw T).1
    have hc : (nI (w T)).toNatClampNeg = w T := nI_clamp (by omega)
    have hne1 : ¬ nI (w T) = -1 := nI_nem1 (by omega)
    have hso : μ1 31 0 (nI (w T)).toNatClampNeg = nI s := by rw [hc, hrg.2.1]; exact h31 s hrg.1
    have hso2 : ¬ μ1 31 0 (nI (w T)).toNatClampNeg = -1 := by rw [hso]; exact nI_nem1 (by have := hrg.1; omega)
    refine zs k_Pr_tellRing rfl ?_
    repeat' (first
      | refine br_f hne1 ?_
      | refine ⟨fun _ => ?_, fun h => absurd h hso2⟩
      | refine L2 T s hrg hT (T - s) 0 _ _ (by omega) hso hf (h1.trans nI_0.symm) h30 (fun i hi => absurd hi (by omega))
      | refine zs k_Pr_tellRing rfl ?_
      | refine ⟨Nat.zero_lt_one, rfl, ?_⟩
      | refine ⟨rfl, ?_⟩
      | refine ⟨⟨Nat.zero_lt_one, rfl⟩, Nat.le_of_ble_eq_true rfl, ?_⟩
      | refine ⟨Nat.le_of_ble_eq_true rfl, Nat.le_of_ble_eq_true rfl, ?_⟩
      | refine ⟨(by first | exact Nat.zero_lt_one | assumption | omega), (by first | assumption | exact vp_in_nI (by omega) (by omega) | (unfold vp_in; decide)), ?_⟩
      | refine ⟨(by first | exact Nat.zero_lt_one | assumption | omega), rfl, ?_⟩
      | refine ⟨⟨(by first | exact Nat.zero_lt_one | assumption | omega), rfl⟩, Nat.le_of_ble_eq_true rfl, ?_⟩
      | refine ⟨(by first | exact Nat.zero_lt_one | assumption | omega), ?_⟩
      | refine ⟨Or.inl rfl, ?_⟩
      | refine ⟨Or.inr (Or.inl rfl), ?_⟩
      | refine ⟨Or.inr (Or.inr rfl), ?_⟩
      | refine ⟨Or.inr ⟨rfl, (by first | exact Or.inl rfl | exact Or.inr rfl | assumption)⟩, ?_⟩
      | refine ⟨fun h => absurd h (by decide), fun _ => ?_⟩
      | refine ⟨fun _ => ?_, fun h => absurd h (by decide)⟩
      | refine ⟨fun h => ?_, fun h => ?_⟩
      | fail)
  have L : ∀ (k t : Nat) (one x : Int32) (l4 : Option zV) (μ1 : zMu), t + k = 20 → one = nI (w t) → x = nI t → (∀ i j, i < j → j < t → w i ≠ w j) → zFrm [28, 30, 31] μ μ1 → μ1 4 0 1 = 0 → (∀ i, i < t → μ1 31 0 (w i) = nI i) → (∀ p, p < 20 → (∀ i, i < t → w i ≠ p) → μ1 31 0 p = -1) → (∀ i, i < t → μ1 30 0 i = nI (w i)) → zG S (d + 1) m_Pr_tellRing K 12 [some (zR 4 0), some (zI (nI st)), some (zI one), some (zI x), l4] [] μ1 := by
    intro k
    induction k with
    | zero =>
      intro t one x l4 μ1 ht ho hx hd hf h1 h31 h31n h30
      subst ho hx
      obtain rfl : t = 20 := by omega
      obtain ⟨s, hs1, hs2⟩ : ∃ s, s < 20 ∧ w s = w 20 := by
        rcases exS (w := w) (t := 20) (w 20) with h | h
        · exact h
        · have := fb_holes0 n 21 w (fun i _ => (hw i).1) (fun i j hij hj => by
            rcases Nat.lt_or_ge j 20 with q | q
            · exact hd i j hij q
            · obtain rfl : j = 20 := by omega
              exact h i hij)
          omega
      refine zs k_Pr_tellRing rfl ?_
      repeat' (first
        | refine br_t (by decide) ?_
        | refine E 20 s _ _ ⟨hs1, hs2.symm, hd⟩ (Nat.le_refl 20) hf h1 h31 h30
        | refine zs k_Pr_tellRing rfl ?_
        | refine ⟨Nat.zero_lt_one, rfl, ?_⟩
        | refine ⟨rfl, ?_⟩
        | refine ⟨⟨Nat.zero_lt_one, rfl⟩, Nat.le_of_ble_eq_true rfl, ?_⟩
        | refine ⟨Nat.le_of_ble_eq_true rfl, Nat.le_of_ble_eq_true rfl, ?_⟩
        | refine ⟨(by first | exact Nat.zero_lt_one | assumption | omega), (by first | assumption | exact vp_in_nI (by omega) (by omega) | (unfold vp_in; decide)), ?_⟩
        | refine ⟨(by first | exact Nat.zero_lt_one | assumption | omega), rfl, ?_⟩
        | refine ⟨⟨(by first | exact Nat.zero_lt_one | assumption | omega), rfl⟩, Nat.le_of_ble_eq_true rfl, ?_⟩
        | refine ⟨(by first | exact Nat.zero_lt_one | assumption | omega), ?_⟩
        | refine ⟨Or.inl rfl, ?_⟩
        | refine ⟨Or.inr (Or.inl rfl), ?_⟩
        | refine ⟨Or.inr (Or.inr rfl), ?_⟩
        | refine ⟨Or.inr ⟨rfl, (by first | exact Or.inl rfl | exact Or.inr rfl | assumption)⟩, ?_⟩
        | refine ⟨fun h => absurd h (by decide), fun _ => ?_⟩
        | refine ⟨fun _ => ?_, fun h => absurd h (by decide)⟩
        | refine ⟨fun h => ?_, fun h => ?_⟩
        | fail)
    | succ k ih =>
      intro t one x l4 μ1 ht ho hx hd hf h1 h31 h31n h30
      subst ho hx
      have hwt := (hw t).1
      have hc : (nI (w t)).toNatClampNeg = w t := nI_clamp (by omega)
      have hct : (nI t).toNatClampNeg = t := nI_clamp (by omega)
      have hne1 : ¬ nI (w t) = -1 := nI_nem1 (by omega)
      have hl20 : ¬ (20 : Int32) ≤ nI t := nI_ge (b := 20) (by omega) (by omega)
      have hvw : vp_in (nI (w t)) 20 := vp_in_nI (by omega) (by omega)
      rcases exS (w := w) (t := t) (w t) with ⟨s, hs1, hs2⟩ | hnew
      · have hso2 : ¬ μ1 31 0 (nI (w t)).toNatClampNeg = -1 := by rw [hc, ← hs2, h31 s hs1]; exact nI_nem1 (by omega)
        refine zs k_Pr_tellRing rfl ?_
        repeat' (first
          | refine br_f hl20 ?_
          | refine br_f hne1 ?_
          | refine ⟨fun _ => ?_, fun h => absurd h hso2⟩
          | refine E t s _ _ ⟨hs1, hs2.symm, hd⟩ (by omega) hf h1 h31 h30
          | refine zs k_Pr_tellRing rfl ?_
          | refine ⟨Nat.zero_lt_one, rfl, ?_⟩
          | refine ⟨rfl, ?_⟩
          | refine ⟨⟨Nat.zero_lt_one, rfl⟩, Nat.le_of_ble_eq_true rfl, ?_⟩
          | refine ⟨Nat.le_of_ble_eq_true rfl, Nat.le_of_ble_eq_true rfl, ?_⟩
          | refine ⟨(by first | exact Nat.zero_lt_one | assumption | omega), (by first | assumption | exact vp_in_nI (by omega) (by omega) | (unfold vp_in; decide)), ?_⟩
          | refine ⟨(by first | exact Nat.zero_lt_one | assumption | omega), rfl, ?_⟩
          | refine ⟨⟨(by first | exact Nat.zero_lt_one | assumption | omega), rfl⟩, Nat.le_of_ble_eq_true rfl, ?_⟩
          | refine ⟨(by first | exact Nat.zero_lt_one | assumption | omega), ?_⟩
          | refine ⟨Or.inl rfl, ?_⟩
          | refine ⟨Or.inr (Or.inl rfl), ?_⟩
          | refine ⟨Or.inr (Or.inr rfl), ?_⟩
          | refine ⟨Or.inr ⟨rfl, (by first | exact Or.inl rfl | exact Or.inr rfl | assumption)⟩, ?_⟩
          | refine ⟨fun h => absurd h (by decide), fun _ => ?_⟩
          | refine ⟨fun _ => ?_, fun h => absurd h (by decide)⟩
          | refine ⟨fun h => ?_, fun h => ?_⟩
          | fail)
      · have hso : μ1 31 0 (nI (w t)).toNatClampNeg = -1 := by rw [hc]; exact h31n (w t) (by omega) hnew
        have hn2 : μ1 1 0 1 = nI n := (hf 1 0 1 (by decide) (by omega)).trans hn
        have hl2 : ∀ μ2 : zMu, (∀ p, μ2 29 0 p = μ1 29 0 p) → cLf μ2 lf := fun μ2 h p hp => by rw [h, hf 29 0 p (by decide) (by omega)]; exact hl p hp
        have hA2 : ∀ μ2 : zMu, (∀ q p, μ2 33 q p = μ1 33 q p) → cLd μ2 A n := fun μ2 h q p h1 h2 h3 => by rw [h, hf 33 q p (by decide) (by omega)]; exact hA q p h1 h2 h3
        have hah : pAh lf A n (w t) = nI (w (t + 1)) := (hw t).2.2
        refine zs k_Pr_tellRing rfl ?_
        repeat' (first
          | refine br_f hl20 ?_
          | refine br_f hne1 ?_
          | refine ⟨fun h => absurd hso h, fun _ => ?_⟩
          | (refine c_Pr_leastAheadOf (n := n) (p := w t) (lf := lf) (A := A) hn2 h20 hwt rfl (hl2 _ (fun _ => rfl)) (hA2 _ (fun _ _ => rfl)) ?_; rw [hah])
          | refine ih (t + 1) _ _ _ _ (by omega) rfl (by exact nI_1 t) ?_ ?_ h1 ?_ ?_ ?_
          | refine zs k_Pr_tellRing rfl ?_
          | refine ⟨Nat.zero_lt_one, rfl, ?_⟩
          | refine ⟨rfl, ?_⟩
          | refine ⟨⟨Nat.zero_lt_one, rfl⟩, Nat.le_of_ble_eq_true rfl, ?_⟩
          | refine ⟨Nat.le_of_ble_eq_true rfl, Nat.le_of_ble_eq_true rfl, ?_⟩
          | refine ⟨(by first | exact Nat.zero_lt_one | assumption | omega), (by first | assumption | exact vp_in_nI (by omega) (by omega) | (unfold vp_in; decide)), ?_⟩
          | refine ⟨(by first | exact Nat.zero_lt_one | assumption | omega), rfl, ?_⟩
          | refine ⟨⟨(by first | exact Nat.zero_lt_one | assumption | omega), rfl⟩, Nat.le_of_ble_eq_true rfl, ?_⟩
          | refine ⟨(by first | exact Nat.zero_lt_one | assumption | omega), ?_⟩
          | refine ⟨Or.inl rfl, ?_⟩
          | refine ⟨Or.inr (Or.inl rfl), ?_⟩
          | refine ⟨Or.inr (Or.inr rfl), ?_⟩
          | refine ⟨Or.inr ⟨rfl, (by first | exact Or.inl rfl | exact Or.inr rfl | assumption)⟩, ?_⟩
          | refine ⟨fun h => absurd h (by decide), fun _ => ?_⟩
          | refine ⟨fun _ => ?_, fun h => absurd h (by decide)⟩
          | refine ⟨fun h => ?_, fun h => ?_⟩
          | fail)
        · intro i j hij hj
          rcases Nat.lt_or_ge j t with q | q
          · exact hd i j hij q
          · obtain rfl : j = t := by omega
            exact hnew i hij
        · intro f i k' hfs h41
          rw [← hf f i k' hfs h41]
          simp only [List.mem_cons, List.not_mem_nil, or_false, not_or] at hfs
          simp only [zu]
          rw [if_neg (by omega), if_neg (by omega)]
        · intro i hi
          rw [hc, hct]
          show (if 31 = 31 ∧ w i = w t ∧ 0 = 0 then nI t else μ1 31 0 (w i)) = nI i
          by_cases e : i = t
          · rw [e, if_pos ⟨rfl, rfl, rfl⟩]
          · rw [if_neg (fun h => hnew i (by omega) h.2.1)]
            exact h31 i (by omega)
        · intro p hp hno
          rw [hc, hct]
          show (if 31 = 31 ∧ p = w t ∧ 0 = 0 then nI t else μ1 31 0 p) = -1
          rw [if_neg (fun h => hno t (by omega) h.2.1.symm)]
          exact h31n p hp (fun i hi => hno i (by omega))
        · intro i hi
          rw [hc, hct]
          show (if 30 = 30 ∧ i = t ∧ 0 = 0 then nI (w t) else μ1 30 0 i) = nI (w i)
          by_cases e : i = t
          · rw [e, if_pos ⟨rfl, rfl, rfl⟩]
          · rw [if_neg (by omega)]
            exact h30 i (by omega)
  have hw0 : w 0 = st := by rw [← hwe]; rfl
  repeat' (first
    | refine c_fill_31 (t := 0) ?_
    | refine L 20 0 _ _ _ _ (by omega) (by rw [hw0]) rfl (fun i j _ hj => absurd hj (by omega)) ?_ hr0 (fun i hi => absurd hi (by omega)) ?_ (fun i hi => absurd hi (by omega))
    | refine zs k_Pr_tellRing rfl ?_
    | refine ⟨Nat.zero_lt_one, rfl, ?_⟩
    | refine ⟨rfl, ?_⟩
    | refine ⟨⟨Nat.zero_lt_one, rfl⟩, Nat.le_of_ble_eq_true rfl, ?_⟩
    | refine ⟨Nat.le_of_ble_eq_true rfl, Nat.le_of_ble_eq_true rfl, ?_⟩
    | refine ⟨(by first | exact Nat.zero_lt_one | assumption | omega), (by first | assumption | exact vp_in_nI (by omega) (by omega) | (unfold vp_in; decide)), ?_⟩
    | refine ⟨(by first | exact Nat.zero_lt_one | assumption | omega), rfl, ?_⟩
    | refine ⟨⟨(by first | exact Nat.zero_lt_one | assumption | omega), rfl⟩, Nat.le_of_ble_eq_true rfl, ?_⟩
    | refine ⟨(by first | exact Nat.zero_lt_one | assumption | omega), ?_⟩
    | refine ⟨Or.inl rfl, ?_⟩
    | refine ⟨Or.inr (Or.inl rfl), ?_⟩
    | refine ⟨Or.inr (Or.inr rfl), ?_⟩
    | refine ⟨Or.inr ⟨rfl, (by first | exact Or.inl rfl | exact Or.inr rfl | assumption)⟩, ?_⟩
    | refine ⟨fun h => absurd h (by decide), fun _ => ?_⟩
    | refine ⟨fun _ => ?_, fun h => absurd h (by decide)⟩
    | refine ⟨fun h => ?_, fun h => ?_⟩
    | fail)
  · intro f i k' hfs h41
    simp only [List.mem_cons, List.not_mem_nil, or_false, not_or] at hfs
    exact if_neg (by omega)
  · intro p hp _
    exact if_pos ⟨rfl, rfl, hp⟩
