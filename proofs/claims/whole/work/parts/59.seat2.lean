/-! SEATING: fillFrom -/
theorem tk_flt {gs w : List Nat} {j g : Nat} (hg : gs[j]? = some g) : gs.drop j = g :: gs.drop (j + 1) ∧ gs.take (j + 1) = gs.take j ++ [g] := by
  obtain ⟨a, e⟩ := List.getElem?_eq_some_iff.mp hg
  exact ⟨by rw [List.drop_eq_getElem_cons a, e], by rw [List.take_add_one, hg]; rfl⟩
theorem flt_app {gs w : List Nat} {j g : Nat} (hn : gs.Nodup) (hg : gs[j]? = some g) : (gs.take j).filter (zNot w) ++ (gs.drop (j + 1)).filter (zNot w) = gs.filter (zNot (w ++ [g])) := by
  obtain ⟨h1, h2⟩ := tk_flt (w := w) hg
  have hs : gs = gs.take j ++ g :: gs.drop (j + 1) := by rw [← h1, List.take_append_drop]
  have hp := hn
  rw [hs] at hp
  have hq := List.pairwise_append.mp hp
  have ha : ∀ x ∈ gs.take j, x ≠ g := fun x hx => hq.2.2 x hx g List.mem_cons_self
  have hb : ∀ x ∈ gs.drop (j + 1), x ≠ g := fun x hx e => (List.pairwise_cons.mp hq.2.1).1 x hx e.symm
  have e : gs.filter (zNot (w ++ [g])) = (gs.take j ++ g :: gs.drop (j + 1)).filter (zNot (w ++ [g])) := by rw [← hs]
  rw [e, List.filter_append, List.filter_cons_of_neg (by simp)]
  congr 1
  · exact List.filter_congr (fun x hx => by simp [ha x hx])
  · exact List.filter_congr (fun x hx => by simp [hb x hx])
set_option maxHeartbeats 2000000 in
theorem c_Se_fillFrom {μ0 : zMu} {t n : Nat} {gs : List Nat} (E : sEnv μ0 t n gs) : ∀ (m : Nat) {D d c : Nat} {w : List Nat} {b : Nat × List Nat} {μ : zMu} {x y : Int32} {K : Option zV → zMu → Prop}, D = d + m + 3 → w.length + m = gs.length → (∀ x ∈ w, x ∈ gs) → c ≤ 100 * w.length → sSt μ0 μ gs w b → x = nI w.length → y = nI c →
    (∀ μ', sSt μ0 μ' gs w ((en (sPe μ0 (μ0 9 t 2) n) (sPc μ0 (μ0 9 t 2) n) m w (gs.filter (zNot w)) c).foldl bst b) → K none μ') → Ct D m_Se_fillFrom [zR 6 0, zR 9 t, zI x, zI y] μ K := by
  obtain ⟨ht, hn9, h12, h7, hcn, hnd, hgs, h41, hpc⟩ := E
  intro m
  induction m with
  | zero =>
    intro D d c w b μ x y K hD hw hwg hc hst hx hy hK
    subst hD hx hy
    have hb1 := hst.2.2.2.2.2.2.2
    have h65 := hst.2.1
    have h66 := hst.2.2.1
    refine zmeet rfl (Nat.le_of_ble_eq_true rfl) (fun S => ?_)
    by_cases hcut : b.1 ≤ c
    · have hk := hK μ (by rw [en_cut hcut]; exact hst)
      repeat' (first
        | exact hk
        | refine zs k_Se_fillFrom rfl ?_
        | refine br_t (by simp (disch := omega) only [h66, nI_leI, nI_ltI, nI_eq]; omega) ?_
        | refine br_f (by simp (disch := omega) only [h66, nI_leI, nI_ltI, nI_eq]; omega) ?_
        | refine ⟨Nat.zero_lt_one, rfl, ?_⟩
        | refine ⟨rfl, ?_⟩
        | refine ⟨⟨Nat.zero_lt_one, rfl⟩, Nat.le_of_ble_eq_true rfl, ?_⟩
        | refine ⟨Nat.le_of_ble_eq_true rfl, Nat.le_of_ble_eq_true rfl, ?_⟩
        | refine ⟨(by first | exact Nat.zero_lt_one | assumption | omega), (by first | assumption | exact vp_in_nI (by omega) (by omega) | (unfold vp_in; decide)), ?_⟩
        | refine ⟨(by first | exact Nat.zero_lt_one | assumption | omega), rfl, ?_⟩
        | refine ⟨⟨(by first | exact Nat.zero_lt_one | assumption | omega), rfl⟩, Nat.le_of_ble_eq_true rfl, ?_⟩
        | refine ⟨(by first | exact Nat.zero_lt_one | assumption | omega), ?_⟩
        | refine ⟨Or.inl rfl, ?_⟩
        | refine ⟨Or.inr (Or.inl rfl), ?_⟩
        | refine ⟨Or.inr (Or.inr rfl), ?_⟩
        | refine ⟨Or.inr ⟨rfl, (by first | exact Or.inl rfl | exact Or.inr rfl | assumption)⟩, ?_⟩
        | refine ⟨fun h => absurd h (by decide), fun _ => ?_⟩
        | refine ⟨fun _ => ?_, fun h => absurd h (by decide)⟩
        | refine ⟨fun h => ?_, fun h => ?_⟩
        | fail)
    · have hlt : nI c < μ 6 0 6 := by rw [h66]; exact nI_lt (by omega) (by omega)
      have hge : ¬ nI w.length < μ 6 0 5 := by rw [h65]; exact nI_nlt (by omega) (by omega)
      have hng : ¬ μ 6 0 5 < 0 := by rw [h65]; exact nI_pos (by omega)
      have hcl : (μ 6 0 5).toNatClampNeg = gs.length := by rw [h65]; exact nI_clamp (by omega)
      have hle : (0 : Int32).toNatClampNeg + (μ 6 0 5).toNatClampNeg ≤ 12 := by rw [hcl, show (0 : Int32).toNatClampNeg = 0 from rfl]; omega
      repeat' (first
        | refine br_t hlt ?_
        | refine br_f hge ?_
        | refine ⟨Nat.zero_lt_one, Nat.zero_lt_one, (by decide), (by decide), hng, hle, hle, Nat.le_of_ble_eq_true rfl, ?_⟩
        | refine hK _ ?_
        | refine zs k_Se_fillFrom rfl ?_
        | refine ⟨Nat.zero_lt_one, rfl, ?_⟩
        | refine ⟨rfl, ?_⟩
        | refine ⟨⟨Nat.zero_lt_one, rfl⟩, Nat.le_of_ble_eq_true rfl, ?_⟩
        | refine ⟨Nat.le_of_ble_eq_true rfl, Nat.le_of_ble_eq_true rfl, ?_⟩
        | refine ⟨(by first | exact Nat.zero_lt_one | assumption | omega), (by first | assumption | exact vp_in_nI (by omega) (by omega) | (unfold vp_in; decide)), ?_⟩
        | refine ⟨(by first | exact Nat.zero_lt_one | assumption | omega), rfl, ?_⟩
        | refine ⟨⟨(by first | exact Nat.zero_lt_one | assumption | omega), rfl⟩, Nat.le_of_ble_eq_true rfl, ?_⟩
        | refine ⟨(by first | exact Nat.zero_lt_one | assumption | omega), ?_⟩
        | refine ⟨Or.inl rfl, ?_⟩
        | refine ⟨Or.inr (Or.inl rfl), ?_⟩
        | refine ⟨Or.inr (Or.inr rfl), ?_⟩
        | refine ⟨Or.inr ⟨rfl, (by first | exact Or.inl rfl | exact Or.inr rfl | assumption)⟩, ?_⟩
        | refine ⟨fun h => absurd h (by decide), fun _ => ?_⟩
        | refine ⟨fun _ => ?_, fun h => absurd h (by decide)⟩
        | refine ⟨fun h => ?_, fun h => ?_⟩
        | fail)
      obtain ⟨h1, h2, h3, h4, h5, h6, h7', h8⟩ := hst
      have hb : (en (sPe μ0 (μ0 9 t 2) n) (sPc μ0 (μ0 9 t 2) n) 0 w (gs.filter (zNot w)) c).foldl bst b = (c, w) := if_pos (show c < b.1 by omega)
      rw [hb]
      have hz0 : (0 : Int32).toNatClampNeg = 0 := rfl
      refine ⟨fun f hf => ?_, h2, rfl, h4, h5, fun k hk => ?_, (by show w.length ≤ _; omega), by show c ≤ 1000000; omega⟩
      · rw [← h1 f hf]
        funext a k
        dsimp only
        rw [if_neg (fun q => hf (by rw [q.1]; simp))]
        exact zu_ne (fun q => hf (by rw [q.1]; simp))
      · rw [hz0, show (zu μ 6 0 6 (nI c)) 6 0 5 = μ 6 0 5 from rfl, hcl]
        dsimp only
        by_cases hkl : k < gs.length
        · rw [if_pos ⟨rfl, rfl, by omega, by omega⟩]
          show μ 43 0 (0 + (k - 0)) = lw w k
          rw [Nat.zero_add, Nat.sub_zero]
          exact h5 k (by omega)
        · rw [if_neg (fun q => hkl (by omega))]
          show μ 44 0 k = lw w k
          rw [h6 k hk, lw_out (by omega), lw_out (by omega)]
  | succ m ih =>
    intro D d c w b μ x y K hD hw hwg hc hst hx hy hK
    obtain rfl : D = (d + m + 3) + 1 := by omega
    clear hD
    subst hx hy
    have hb1 := hst.2.2.2.2.2.2.2
    have h65 := hst.2.1
    have h66 := hst.2.2.1
    refine zmeet rfl (Nat.le_of_ble_eq_true rfl) (fun S => ?_)
    by_cases hcut : b.1 ≤ c
    · have hk := hK μ (by rw [en_cut hcut]; exact hst)
      repeat' (first
        | exact hk
        | refine zs k_Se_fillFrom rfl ?_
        | refine br_t (by simp (disch := omega) only [h66, nI_leI, nI_ltI, nI_eq]; omega) ?_
        | refine br_f (by simp (disch := omega) only [h66, nI_leI, nI_ltI, nI_eq]; omega) ?_
        | refine ⟨Nat.zero_lt_one, rfl, ?_⟩
        | refine ⟨rfl, ?_⟩
        | refine ⟨⟨Nat.zero_lt_one, rfl⟩, Nat.le_of_ble_eq_true rfl, ?_⟩
        | refine ⟨Nat.le_of_ble_eq_true rfl, Nat.le_of_ble_eq_true rfl, ?_⟩
        | refine ⟨(by first | exact Nat.zero_lt_one | assumption | omega), (by first | assumption | exact vp_in_nI (by omega) (by omega) | (unfold vp_in; decide)), ?_⟩
        | refine ⟨(by first | exact Nat.zero_lt_one | assumption | omega), rfl, ?_⟩
        | refine ⟨⟨(by first | exact Nat.zero_lt_one | assumption | omega), rfl⟩, Nat.le_of_ble_eq_true rfl, ?_⟩
        | refine ⟨(by first | exact Nat.zero_lt_one | assumption | omega), ?_⟩
        | refine ⟨Or.inl rfl, ?_⟩
        | refine ⟨Or.inr (Or.inl rfl), ?_⟩
        | refine ⟨Or.inr (Or.inr rfl), ?_⟩
        | refine ⟨Or.inr ⟨rfl, (by first | exact Or.inl rfl | exact Or.inr rfl | assumption)⟩, ?_⟩
        | refine ⟨fun h => absurd h (by decide), fun _ => ?_⟩
        | refine ⟨fun _ => ?_, fun h => absurd h (by decide)⟩
        | refine ⟨fun h => ?_, fun h => ?_⟩
        | fail)
    · have hlt : nI c < μ 6 0 6 := by rw [h66]; exact nI_lt (by omega) (by omega)
      have hge : nI w.length < μ 6 0 5 := by rw [h65]; exact nI_lt (by omega) (by omega)
      have hwc : (nI w.length).toNatClampNeg = w.length := nI_clamp (by omega)
      generalize hR : (en (sPe μ0 (μ0 9 t 2) n) (sPc μ0 (μ0 9 t 2) n) (m + 1) w (gs.filter (zNot w)) c).foldl bst b = R at hK
      have L : ∀ (k j : Nat) (x : Int32) (b1 : Nat × List Nat) (μ1 : zMu), j + k = gs.length → x = nI j → sSt μ0 μ1 gs w b1 → (blk (fun g B => if sPe μ0 (μ0 9 t 2) n (w ++ [g]) = true then en (sPe μ0 (μ0 9 t 2) n) (sPc μ0 (μ0 9 t 2) n) m (w ++ [g]) B (c + sPc μ0 (μ0 9 t 2) n (w ++ [g])) else []) ((gs.take j).filter (zNot w)) ((gs.drop j).filter (zNot w))).foldl bst b1 = R → zG S (d + m + 3 + 1) m_Se_fillFrom K 43 [some (zR 6 0), some (zR 9 t), some (zI (nI w.length)), some (zI (nI c)), some (zI x)] [] μ1 := by
        intro k
        induction k with
        | zero =>
          intro j x b1 μ1 hj hx hs1 hr
          subst hx
          obtain rfl : j = gs.length := by omega
          have hk := hK μ1 (by
            rw [← hr, List.drop_length]
            exact hs1)
          have h65' := hs1.2.1
          refine zs k_Se_fillFrom rfl ?_
          repeat' (first
            | exact hk
            | refine zs k_Se_fillFrom rfl ?_
            | refine br_t (by simp (disch := omega) only [h65', nI_leI, nI_ltI, nI_eq]; omega) ?_
            | refine br_f (by simp (disch := omega) only [h65', nI_leI, nI_ltI, nI_eq]; omega) ?_
            | refine ⟨Nat.zero_lt_one, rfl, ?_⟩
            | refine ⟨rfl, ?_⟩
            | refine ⟨⟨Nat.zero_lt_one, rfl⟩, Nat.le_of_ble_eq_true rfl, ?_⟩
            | refine ⟨Nat.le_of_ble_eq_true rfl, Nat.le_of_ble_eq_true rfl, ?_⟩
            | refine ⟨(by first | exact Nat.zero_lt_one | assumption | omega), (by first | assumption | exact vp_in_nI (by omega) (by omega) | (unfold vp_in; decide)), ?_⟩
            | refine ⟨(by first | exact Nat.zero_lt_one | assumption | omega), rfl, ?_⟩
            | refine ⟨⟨(by first | exact Nat.zero_lt_one | assumption | omega), rfl⟩, Nat.le_of_ble_eq_true rfl, ?_⟩
            | refine ⟨(by first | exact Nat.zero_lt_one | assumption | omega), ?_⟩
            | refine ⟨Or.inl rfl, ?_⟩
            | refine ⟨Or.inr (Or.inl rfl), ?_⟩
            | refine ⟨Or.inr (Or.inr rfl), ?_⟩
            | refine ⟨Or.inr ⟨rfl, (by first | exact Or.inl rfl | exact Or.inr rfl | assumption)⟩, ?_⟩
            | refine ⟨fun h => absurd h (by decide), fun _ => ?_⟩
            | refine ⟨fun _ => ?_, fun h => absurd h (by decide)⟩
            | refine ⟨fun h => ?_, fun h => ?_⟩
            | fail)
        | succ k ihk =>
          intro j x b1 μ1 hj hx hs1 hr
          subst hx
          have hjl : j < gs.length := by omega
          have hjc : (nI j).toNatClampNeg = j := nI_clamp (by omega)
          obtain ⟨g, hg⟩ : ∃ g, gs[j]? = some g := ⟨gs[j], List.getElem?_eq_getElem hjl⟩
          have hgm : g ∈ gs := List.mem_of_getElem? hg
          obtain ⟨hdr, htk⟩ := tk_flt (w := w) hg
          have h65' := hs1.2.1
          have h42 : μ1 42 0 (nI j).toNatClampNeg = if g ∈ w then 1 else 0 := by rw [hjc]; exact hs1.2.2.2.1 j g hg
          by_cases hgw : g ∈ w
          · rw [if_pos hgw] at h42
            have h42' : ¬ μ1 42 0 (nI j).toNatClampNeg = 0 := by rw [h42]; decide
            refine zs k_Se_fillFrom rfl ?_
            repeat' (first
              | refine br_f h42' ?_
              | refine ihk (j + 1) _ b1 _ (by omega) (by exact nI_1 j) hs1 ?_
              | refine zs k_Se_fillFrom rfl ?_
              | refine br_t (by simp (disch := omega) only [h65', nI_leI, nI_ltI, nI_eq]; omega) ?_
              | refine br_f (by simp (disch := omega) only [h65', nI_leI, nI_ltI, nI_eq]; omega) ?_
              | refine ⟨Nat.zero_lt_one, rfl, ?_⟩
              | refine ⟨rfl, ?_⟩
              | refine ⟨⟨Nat.zero_lt_one, rfl⟩, Nat.le_of_ble_eq_true rfl, ?_⟩
              | refine ⟨Nat.le_of_ble_eq_true rfl, Nat.le_of_ble_eq_true rfl, ?_⟩
              | refine ⟨(by first | exact Nat.zero_lt_one | assumption | omega), (by first | assumption | exact vp_in_nI (by omega) (by omega) | (unfold vp_in; decide)), ?_⟩
              | refine ⟨(by first | exact Nat.zero_lt_one | assumption | omega), rfl, ?_⟩
              | refine ⟨⟨(by first | exact Nat.zero_lt_one | assumption | omega), rfl⟩, Nat.le_of_ble_eq_true rfl, ?_⟩
              | refine ⟨(by first | exact Nat.zero_lt_one | assumption | omega), ?_⟩
              | refine ⟨Or.inl rfl, ?_⟩
              | refine ⟨Or.inr (Or.inl rfl), ?_⟩
              | refine ⟨Or.inr (Or.inr rfl), ?_⟩
              | refine ⟨Or.inr ⟨rfl, (by first | exact Or.inl rfl | exact Or.inr rfl | assumption)⟩, ?_⟩
              | refine ⟨fun h => absurd h (by decide), fun _ => ?_⟩
              | refine ⟨fun _ => ?_, fun h => absurd h (by decide)⟩
              | refine ⟨fun h => ?_, fun h => ?_⟩
              | fail)
            rw [htk, List.filter_append, List.filter_cons_of_neg (by simp [hgw]), List.filter_nil, List.append_nil]
            rw [hdr, List.filter_cons_of_neg (by simp [hgw])] at hr
            exact hr
          · rw [if_neg hgw] at h42
            rw [hdr, List.filter_cons_of_pos (by simp [hgw]), blk_cons, flt_app hnd hg] at hr
            have htk2 : (gs.take (j + 1)).filter (zNot w) = (gs.take j).filter (zNot w) ++ [g] := by
              rw [htk, List.filter_append, List.filter_cons_of_pos (by simp [hgw]), List.filter_nil]
            rw [List.foldl_append] at hr
            have h41' : μ1 41 0 (nI j).toNatClampNeg = nI g := by rw [hs1.1 41 (by decide), hjc]; exact h41 j g hg
            have hs2 : sSt μ0 (zu μ1 43 0 (nI w.length).toNatClampNeg (μ1 41 0 (nI j).toNatClampNeg)) gs w b1 := sSt_row hs1 (by omega)
            have hs3 : sSt μ0 (zu (zu μ1 43 0 (nI w.length).toNatClampNeg (μ1 41 0 (nI j).toNatClampNeg)) 42 0 (nI j).toNatClampNeg 1) gs (w ++ [g]) b1 := by
              rw [h41', hjc, hwc]
              exact sSt_in hnd hg hs1
            have hlen : (w ++ [g]).length = w.length + 1 := by simp
            have hlen2 : (w ++ [g]).length - 1 = w.length := by simp
            have hrow : ∀ i, i ≤ w.length → zu (zu μ1 43 0 (nI w.length).toNatClampNeg (μ1 41 0 (nI j).toNatClampNeg)) 42 0 (nI j).toNatClampNeg 1 43 0 i = lw (w ++ [g]) i := fun i hi => hs3.2.2.2.2.1 i (by omega)
            have hmem : ∀ z ∈ w ++ [g], z ∈ gs := fun z hz => by
              rcases List.mem_append.mp hz with q | q
              · exact hwg z q
              · rw [List.mem_singleton.mp q]; exact hgm
            have hwok : ∀ i, i ≤ w.length → hOk μ0 (lw (w ++ [g]) i) := fun i hi => by
              have hi2 : i < (w ++ [g]).length := by omega
              rw [lw_at (List.getElem?_eq_getElem hi2)]
              exact (hgs _ (hmem _ (List.getElem_mem hi2))).2
            have hok2 : ∀ i, i ≤ w.length → hOk (zu μ1 43 0 (nI w.length).toNatClampNeg (μ1 41 0 (nI j).toNatClampNeg)) (zu μ1 43 0 (nI w.length).toNatClampNeg (μ1 41 0 (nI j).toNatClampNeg) 43 0 i) := fun i hi => by
              have e1 := hrow i hi
              have e2 : zu μ1 43 0 (nI w.length).toNatClampNeg (μ1 41 0 (nI j).toNatClampNeg) 43 0 i = lw (w ++ [g]) i := e1
              rw [e2]
              unfold hOk
              rw [hs2.1 17 (by decide)]
              exact hwok i hi
            have hok3 : ∀ i, i ≤ w.length → hOk (zu (zu μ1 43 0 (nI w.length).toNatClampNeg (μ1 41 0 (nI j).toNatClampNeg)) 42 0 (nI j).toNatClampNeg 1) (zu (zu μ1 43 0 (nI w.length).toNatClampNeg (μ1 41 0 (nI j).toNatClampNeg)) 42 0 (nI j).toNatClampNeg 1 43 0 i) := hok2
            have hn2 : zu μ1 43 0 (nI w.length).toNatClampNeg (μ1 41 0 (nI j).toNatClampNeg) 9 t 0 = nI n := by
              rw [hs2.1 9 (by decide)]
              exact hn9
            have hn3 : zu (zu μ1 43 0 (nI w.length).toNatClampNeg (μ1 41 0 (nI j).toNatClampNeg)) 42 0 (nI j).toNatClampNeg 1 9 t 0 = nI n := hn2
            have hrd : zu μ1 43 0 (nI w.length).toNatClampNeg (μ1 41 0 (nI j).toNatClampNeg) 9 t 2 = μ0 9 t 2 := by rw [hs2.1 9 (by decide)]
            have hPE : hPe (zu μ1 43 0 (nI w.length).toNatClampNeg (μ1 41 0 (nI j).toNatClampNeg)) (zu μ1 43 0 (nI w.length).toNatClampNeg (μ1 41 0 (nI j).toNatClampNeg) 43 0) (zu μ1 43 0 (nI w.length).toNatClampNeg (μ1 41 0 (nI j).toNatClampNeg) 9 t 2) n w.length ↔ sPe μ0 (μ0 9 t 2) n (w ++ [g]) = true := by
              unfold sPe
              rw [← hPe_iff, hlen2, hrd]
              exact hPe_loc (by omega) hrow (hs2.1 36 (by decide)) (hs2.1 17 (by decide))
            obtain ⟨N, hN, hpN⟩ := hpc (w ++ [g]) (by simp) (by omega) hmem
            have hsN : sPc μ0 (μ0 9 t 2) n (w ++ [g]) = N := by
              unfold sPc
              rw [hpN]
              exact nI_clamp (by omega)
            have hPR : hPr (zu (zu μ1 43 0 (nI w.length).toNatClampNeg (μ1 41 0 (nI j).toNatClampNeg)) 42 0 (nI j).toNatClampNeg 1) (zu (zu μ1 43 0 (nI w.length).toNatClampNeg (μ1 41 0 (nI j).toNatClampNeg)) 42 0 (nI j).toNatClampNeg 1 43 0) (zu (zu μ1 43 0 (nI w.length).toNatClampNeg (μ1 41 0 (nI j).toNatClampNeg)) 42 0 (nI j).toNatClampNeg 1 9 t 2) n w.length = nI N := by
              rw [← hpN, hlen2]
              rw [show zu (zu μ1 43 0 (nI w.length).toNatClampNeg (μ1 41 0 (nI j).toNatClampNeg)) 42 0 (nI j).toNatClampNeg 1 9 t 2 = μ0 9 t 2 from hrd]
              exact hPr_loc (by omega) hrow (hs3.1 38 (by decide)) (hs3.1 17 (by decide)) (hs3.1 39 (by decide))
            rw [hsN] at hr
            have hwl : w.length < n := by omega
            have hv12 : vp_in (nI w.length) 12 := vp_in_nI (by omega) (by omega)
            have hj7 : vp_in (nI j) 7 := vp_in_nI (by omega) (by omega)
            refine zs k_Se_fillFrom rfl ?_
            repeat' (first
              | refine br_t h42 ?_
              | refine c_Ha_isPeacefulAt_43 ht hn2 h12 hwl hok2 (fun hp => ?_) (fun hp => ?_)
              | refine c_Ha_priceAt_43 ht hn3 h12 hwl hok3 ?_
              | refine ih (d := d) (w := w ++ [g]) (c := c + N) rfl (by omega) hmem (by omega) hs3 (by rw [hlen]; exact nI_1 _) (by exact (congrArg (nI c + ·) hPR).trans (nI_add c N)) (fun μ4 hs4 => ?_)
              | refine ihk (j + 1) _ _ _ (by omega) (by exact nI_1 j) hs2 ?_
              | refine ihk (j + 1) _ _ _ (by omega) (by exact nI_1 j) (by exact (by rw [hjc]; exact sSt_out hnd hg hgw hs4)) ?_
              | refine zs k_Se_fillFrom rfl ?_
              | refine br_t (by simp (disch := omega) only [h65', nI_leI, nI_ltI, nI_eq]; omega) ?_
              | refine br_f (by simp (disch := omega) only [h65', nI_leI, nI_ltI, nI_eq]; omega) ?_
              | refine ⟨Nat.zero_lt_one, rfl, ?_⟩
              | refine ⟨rfl, ?_⟩
              | refine ⟨⟨Nat.zero_lt_one, rfl⟩, Nat.le_of_ble_eq_true rfl, ?_⟩
              | refine ⟨Nat.le_of_ble_eq_true rfl, Nat.le_of_ble_eq_true rfl, ?_⟩
              | refine ⟨(by first | exact Nat.zero_lt_one | assumption | omega), (by first | assumption | exact vp_in_nI (by omega) (by omega) | (unfold vp_in; decide)), ?_⟩
              | refine ⟨(by first | exact Nat.zero_lt_one | assumption | omega), rfl, ?_⟩
              | refine ⟨⟨(by first | exact Nat.zero_lt_one | assumption | omega), rfl⟩, Nat.le_of_ble_eq_true rfl, ?_⟩
              | refine ⟨(by first | exact Nat.zero_lt_one | assumption | omega), ?_⟩
              | refine ⟨Or.inl rfl, ?_⟩
              | refine ⟨Or.inr (Or.inl rfl), ?_⟩
              | refine ⟨Or.inr (Or.inr rfl), ?_⟩
              | refine ⟨Or.inr ⟨rfl, (by first | exact Or.inl rfl | exact Or.inr rfl | assumption)⟩, ?_⟩
              | refine ⟨fun h => absurd h (by decide), fun _ => ?_⟩
              | refine ⟨fun _ => ?_, fun h => absurd h (by decide)⟩
              | refine ⟨fun h => ?_, fun h => ?_⟩
              | fail)
            · rw [htk2, ← hr, if_pos (hPE.mp hp)]
            · rw [htk2, ← hr, if_neg (fun q => hp (hPE.mpr q))]
              rfl
      repeat' (first
        | refine br_t hlt ?_
        | refine br_t hge ?_
        | refine L gs.length 0 _ b _ (by omega) rfl hst ?_
        | refine zs k_Se_fillFrom rfl ?_
        | refine ⟨Nat.zero_lt_one, rfl, ?_⟩
        | refine ⟨rfl, ?_⟩
        | refine ⟨⟨Nat.zero_lt_one, rfl⟩, Nat.le_of_ble_eq_true rfl, ?_⟩
        | refine ⟨Nat.le_of_ble_eq_true rfl, Nat.le_of_ble_eq_true rfl, ?_⟩
        | refine ⟨(by first | exact Nat.zero_lt_one | assumption | omega), (by first | assumption | exact vp_in_nI (by omega) (by omega) | (unfold vp_in; decide)), ?_⟩
        | refine ⟨(by first | exact Nat.zero_lt_one | assumption | omega), rfl, ?_⟩
        | refine ⟨⟨(by first | exact Nat.zero_lt_one | assumption | omega), rfl⟩, Nat.le_of_ble_eq_true rfl, ?_⟩
        | refine ⟨(by first | exact Nat.zero_lt_one | assumption | omega), ?_⟩
        | refine ⟨Or.inl rfl, ?_⟩
        | refine ⟨Or.inr (Or.inl rfl), ?_⟩
        | refine ⟨Or.inr (Or.inr rfl), ?_⟩
        | refine ⟨Or.inr ⟨rfl, (by first | exact Or.inl rfl | exact Or.inr rfl | assumption)⟩, ?_⟩
        | refine ⟨fun h => absurd h (by decide), fun _ => ?_⟩
        | refine ⟨fun _ => ?_, fun h => absurd h (by decide)⟩
        | refine ⟨fun h => ?_, fun h => ?_⟩
        | fail)
      rw [← hR]
      rfl
