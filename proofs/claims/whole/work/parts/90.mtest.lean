/-! MODEL: a test is read -/
theorem wL_s {b : Nat → Int32} {c : Int32} : pfx b [c] 0 = if b 0 = c then 1 else 0 := rfl
theorem w6_one {a : Nat → Int32} {n at_ : Nat} {v : Int32} {q' : zQ} (hat : at_ ≤ 1000) (h : qW a n (at_, -1) 6 = (v, q')) : eqQ q' (mOne a n [97, 98] at_).2 ∧ (q'.2 = -1 → v = nI (mOne a n [97, 98] at_).1) := by
  rw [qW_eq (by omega)] at h
  have hw : zWd.getD 6 [] = [[97], [98]] := rfl
  rw [hw] at h
  unfold mOne
  simp only [wL, wL_s, Nat.add_zero, List.length_singleton] at h
  by_cases l0 : pB a n at_ = 97
  · simp only [l0, if_true] at h
    rw [if_pos (show pB a n at_ = ([97, 98] : List Int32).getD 0 0 from l0)]
    obtain ⟨rfl, rfl⟩ := Prod.mk.inj h
    exact ⟨eqQ_rf, fun _ => rfl⟩
  · rw [if_neg (show ¬ pB a n at_ = ([97, 98] : List Int32).getD 0 0 from l0)]
    by_cases l1 : pB a n at_ = 98
    · simp [l1] at h
      rw [if_pos (show pB a n at_ = ([97, 98] : List Int32).getD 1 0 from l1)]
      obtain ⟨rfl, rfl⟩ := h
      exact ⟨eqQ_rf, fun _ => rfl⟩
    · simp [l0, l1] at h
      rw [if_neg (show ¬ pB a n at_ = ([97, 98] : List Int32).getD 1 0 from l1), if_neg (fun q => absurd q.1 (by decide))]
      obtain ⟨rfl, rfl⟩ := h
      exact ⟨eqQ_rf, fun e => absurd e (nI_nem1 (by omega))⟩
theorem w9_one {a : Nat → Int32} {n at_ : Nat} {v : Int32} {q' : zQ} (hat : at_ ≤ 1000) (h : qW a n (at_, -1) 9 = (v, q')) : eqQ q' (mOne a n [61, 60, 62] at_).2 ∧ (q'.2 = -1 → v = nI (mOne a n [61, 60, 62] at_).1) := by
  rw [qW_eq (by omega)] at h
  have hw : zWd.getD 9 [] = [[61], [60], [62]] := rfl
  rw [hw] at h
  unfold mOne
  simp only [wL, wL_s, Nat.add_zero, List.length_singleton] at h
  by_cases l0 : pB a n at_ = 61
  · simp only [l0, if_true] at h
    rw [if_pos (show pB a n at_ = ([61, 60, 62] : List Int32).getD 0 0 from l0)]
    obtain ⟨rfl, rfl⟩ := Prod.mk.inj h
    exact ⟨eqQ_rf, fun _ => rfl⟩
  · rw [if_neg (show ¬ pB a n at_ = ([61, 60, 62] : List Int32).getD 0 0 from l0)]
    by_cases l1 : pB a n at_ = 60
    · simp [l1] at h
      rw [if_pos (show pB a n at_ = ([61, 60, 62] : List Int32).getD 1 0 from l1)]
      obtain ⟨rfl, rfl⟩ := h
      exact ⟨eqQ_rf, fun _ => rfl⟩
    · rw [if_neg (show ¬ pB a n at_ = ([61, 60, 62] : List Int32).getD 1 0 from l1)]
      by_cases l2 : pB a n at_ = 62
      · simp [l2] at h
        rw [if_pos ⟨by decide, l2⟩]
        obtain ⟨rfl, rfl⟩ := h
        exact ⟨eqQ_rf, fun _ => rfl⟩
      · simp [l0, l1, l2] at h
        rw [if_neg (fun q => l2 q.2)]
        obtain ⟨rfl, rfl⟩ := h
        exact ⟨eqQ_rf, fun e => absurd e (nI_nem1 (by omega))⟩
theorem w5_eq {a : Nat → Int32} {n at_ : Nat} : qW a n (at_, -1) 5 = if pB a n at_ = 97 then (0, at_ + 1, -1) else if pB a n at_ = 98 then (1, at_ + 1, -1) else if pfx (fun j => pB a n (at_ + j)) [110, 111, 116] 0 = 3 then (2, at_ + 3, -1) else (-1, at_, nI (at_ + pfx (fun j => pB a n (at_ + j)) [110, 111, 116] 0)) := by
  rw [qW_eq (by omega)]
  have hw : zWd.getD 5 [] = [[97], [98], [110, 111, 116]] := rfl
  rw [hw, wL, wL_s, wL, wL_s, wL, wL]
  show (match (if (if pB a n at_ = 97 then 1 else 0) = 1 then Sum.inl (0, 1) else if (if pB a n at_ = 98 then 1 else 0) = 1 then Sum.inl (0 + 1, 1) else if pfx (fun j => pB a n (at_ + j)) [110, 111, 116] 0 = 3 then Sum.inl (0 + 1 + 1, 3) else _ : (Nat × Nat) ⊕ Nat) with
    | .inl q => (nI q.1, at_ + q.2, (-1 : Int32))
    | .inr lg => (-1, at_, nI (at_ + lg))) = _
  by_cases l0 : pB a n at_ = 97
  · rw [if_pos l0, if_pos rfl, if_pos l0]
    rfl
  · rw [if_neg l0, if_neg (by decide), if_neg l0]
    by_cases l1 : pB a n at_ = 98
    · rw [if_pos l1, if_pos rfl, if_pos l1]
      rfl
    · rw [if_neg l1, if_neg (by decide), if_neg l1]
      by_cases l2 : pfx (fun j => pB a n (at_ + j)) [110, 111, 116] 0 = 3
      · rw [if_pos l2, if_pos l2]
        rfl
      · rw [if_neg l2, if_neg l2]
        dsimp only
        congr 3
        simp [l0, l1]
        all_goals (first | omega | ((repeat' split) <;> omega) | grind)
/-- one test's cells alone have changed -/
def mF (J : Nat) (μ μ' : zMu) : Prop := (∀ f, f ∉ [48, 73, 74, 75, 76, 77] → μ' f = μ f) ∧ (∀ k, k ∉ [28, 29] → μ' 48 0 k = μ 48 0 k) ∧ ∀ f, f ∈ [73, 74, 75, 76, 77] → ∀ k, k ≠ J → μ' f 0 k = μ f 0 k
theorem mF_rf {J : Nat} {μ : zMu} : mF J μ μ := ⟨fun _ _ => rfl, fun _ _ => rfl, fun _ _ _ _ => rfl⟩
theorem mF_zu {J f : Nat} {μ μ' : zMu} {x : Int32} (h : mF J μ μ') (hf : f ∈ [73, 74, 75, 76, 77]) : mF J μ (zu μ' f 0 J x) := by
  simp only [List.mem_cons, List.not_mem_nil, or_false] at hf
  refine ⟨fun g hg => ?_, fun k hk => ?_, fun g hg k hk => ?_⟩
  · rw [← h.1 g hg]
    simp only [List.mem_cons, List.not_mem_nil, or_false, not_or] at hg
    funext i k
    exact zu_ne (by omega)
  · rw [zu_ne (by omega)]
    exact h.2.1 k hk
  · rw [zu_ne (by omega)]
    exact h.2.2 g hg k hk
theorem mF_cM {J : Nat} {μ μ' : zMu} {q : zQ} (h : mF J μ μ') : mF J μ (cM μ' q) := by
  refine ⟨fun g hg => ?_, fun k hk => ?_, fun g hg k hk => ?_⟩
  · rw [← h.1 g hg]
    simp only [List.mem_cons, List.not_mem_nil, or_false, not_or] at hg
    funext i k
    exact cM_o (by omega)
  · simp only [List.mem_cons, List.not_mem_nil, or_false, not_or] at hk
    rw [cM_o (by omega)]
    exact h.2.1 k (by simp only [List.mem_cons, List.not_mem_nil, or_false, not_or]; exact hk)
  · rw [← h.2.2 g hg k hk]
    simp only [List.mem_cons, List.not_mem_nil, or_false] at hg
    exact cM_o (by omega)
theorem mF_E {J n : Nat} {μ μ' : zMu} {a : Nat → Int32} (h : mF J μ μ') (E : mE μ a n) : mE μ' a n := by
  unfold mE gCs at *
  rw [h.2.1 14 (by decide), h.1 63 (by decide), h.1 80 (by decide), h.1 81 (by decide), h.1 82 (by decide)]
  exact E
set_option maxHeartbeats 4000000 in
theorem c_Mo_readTest {d n J : Nat} {μ : zMu} {a : Nat → Int32} {q q' : zQ} {t : rT} {x : Int32} {K : Option zV → zMu → Prop} (E : mE μ a n) (h28 : μ 48 0 28 = nI q.1) (h29 : μ 48 0 29 = -1) (hq2 : q.2 = -1) (hqn : q.1 ≤ n) (hx : x = nI J) (hJ : J < 64) (hT : qTR a n q t q')
    (hK : ∀ μ', mF J μ μ' → μ' 48 0 29 = q'.2 → (q'.2 = -1 → μ' 48 0 28 = nI q'.1 ∧ μ' 73 0 J = t.1 ∧ μ' 74 0 J = t.2.1 ∧ μ' 75 0 J = t.2.2.1 ∧ μ' 76 0 J = t.2.2.2.1 ∧ μ' 77 0 J = t.2.2.2.2) → (¬ q'.2 = -1 → 0 ≤ q'.2) → K none μ') : Ct (d + 2) m_Mo_readTest [zR 48 0, zI x] μ K := by
  subst hx
  refine zmeet rfl (Nat.le_of_ble_eq_true rfl) (fun S => ?_)
  obtain ⟨w, q3, v4, q4, q5, q6, T0, tb, e4, e5, e6, e7⟩ := hT
  have h200 := E.2.1
  have cJ : (nI J).toNatClampNeg = J := nI_clamp (by omega)
  have vJ : vp_in (nI J) 64 := vp_in_nI (by omega) (by omega)
  have i32 : ∀ z : Int32, z = -1 → ¬ 0 ≤ z := fun z h => by rw [h]; decide
  -- the number
  have SE : ∀ (μ1 : zMu) (qm : zQ), mF J μ μ1 → μ1 48 0 28 = nI qm.1 → μ1 48 0 29 = qm.2 → qOk qm → q6.1 ≤ n → eqQ q6 qm → (q6.2 = -1 → μ1 73 0 J = t.1 ∧ μ1 74 0 J = t.2.1 ∧ μ1 75 0 J = t.2.2.1 ∧ μ1 76 0 J = t.2.2.2.1) → zG S (d + 2) m_Mo_readTest K 112 [some (zR 48 0), some (zI (nI J)), none, none] [] μ1 := by
    intro μ1 qm F s28 s29 ho h6n he vals
    have fin : ∀ (v : Int32) (l3 : Option zV) (μ2 : zMu), mF J μ μ2 → μ2 48 0 29 = q'.2 → (q'.2 = -1 → μ2 48 0 28 = nI q'.1 ∧ μ2 73 0 J = t.1 ∧ μ2 74 0 J = t.2.1 ∧ μ2 75 0 J = t.2.2.1 ∧ μ2 76 0 J = t.2.2.2.1 ∧ v = t.2.2.2.2) → (¬ q'.2 = -1 → 0 ≤ q'.2) → zG S (d + 2) m_Mo_readTest K 193 [some (zR 48 0), some (zI (nI J)), some (zI v), l3] [] μ2 := fun v l3 μ2 F2 f29 fv fp => by
      have hk := hK (zu μ2 77 0 J v) (mF_zu F2 (by decide)) f29 (fun z => by
        obtain ⟨b1, b2, b3, b4, b5, b6⟩ := fv z
        exact ⟨b1, b2, b3, b4, b5, by rw [zu_eq]; exact b6⟩) fp
      rw [← cJ] at hk
      generalize hJ' : (nI J).toNatClampNeg = J' at hk
      repeat' (first
        | exact zKn hk (by rw [hJ'])
        | (refine zs k_Mo_readTest rfl ?_; conv => whnf)
        | refine ⟨Nat.zero_lt_one, rfl, ?_⟩
        | refine ⟨rfl, ?_⟩
        | refine ⟨⟨Nat.zero_lt_one, rfl⟩, Nat.le_of_ble_eq_true rfl, ?_⟩
        | refine ⟨Nat.le_of_ble_eq_true rfl, Nat.le_of_ble_eq_true rfl, ?_⟩
        | refine ⟨(by first | exact Nat.zero_lt_one | assumption | omega), (by first | assumption | exact vp_in_nI (by omega) (by omega) | (unfold vp_in; decide)), ?_⟩
        | refine ⟨(by first | exact Nat.zero_lt_one | assumption | omega), rfl, ?_⟩
        | refine ⟨⟨(by first | exact Nat.zero_lt_one | assumption | omega), rfl⟩, Nat.le_of_ble_eq_true rfl, ?_⟩
        | refine ⟨(by first | exact Nat.zero_lt_one | assumption | omega), ?_⟩
        | refine ⟨Or.inl rfl, ?_⟩
        | refine ⟨Or.inr (Or.inl rfl), ?_⟩
        | refine ⟨Or.inr (Or.inr rfl), ?_⟩
        | refine ⟨Or.inr ⟨rfl, (by first | exact Or.inl rfl | exact Or.inr rfl | assumption)⟩, ?_⟩
        | refine ⟨fun h => absurd h (by decide), fun _ => ?_⟩
        | refine ⟨fun _ => ?_, fun h => absurd h (by decide)⟩
        | refine ⟨fun h => ?_, fun h => ?_⟩
        | fail)
    by_cases o1 : q6.2 = -1
    case neg =>
      rw [qN_ft o1] at e7
      obtain ⟨e71, e72⟩ := Prod.mk.inj e7
      have o2 : 0 ≤ μ1 48 0 29 := by
        rw [s29]
        rcases qOk_neg ho with ⟨z, -⟩ | ⟨-, z⟩
        · exact absurd (he.1.symm.trans z) o1
        · exact z
      have hf := fin 0 (some (zI 0)) μ1 F (by rw [s29, he.1, e72]) (fun z => absurd (by rw [e72]; exact z) o1) (fun _ => by rw [← e72, ← he.1, ← s29]; exact o2)
      refine zs k_Mo_readTest rfl ?_; conv => whnf
      repeat' (first
        | exact hf
        | refine br_t o2 ?_
        | refine br_f (show ¬ (8 : Int32) ≤ 0 by decide) ?_
        | (refine zs k_Mo_readTest rfl ?_; conv => whnf)
        | refine ⟨Nat.zero_lt_one, rfl, ?_⟩
        | refine ⟨rfl, ?_⟩
        | refine ⟨⟨Nat.zero_lt_one, rfl⟩, Nat.le_of_ble_eq_true rfl, ?_⟩
        | refine ⟨Nat.le_of_ble_eq_true rfl, Nat.le_of_ble_eq_true rfl, ?_⟩
        | refine ⟨(by first | exact Nat.zero_lt_one | assumption | omega), (by first | assumption | exact vp_in_nI (by omega) (by omega) | (unfold vp_in; decide)), ?_⟩
        | refine ⟨(by first | exact Nat.zero_lt_one | assumption | omega), rfl, ?_⟩
        | refine ⟨⟨(by first | exact Nat.zero_lt_one | assumption | omega), rfl⟩, Nat.le_of_ble_eq_true rfl, ?_⟩
        | refine ⟨(by first | exact Nat.zero_lt_one | assumption | omega), ?_⟩
        | refine ⟨Or.inl rfl, ?_⟩
        | refine ⟨Or.inr (Or.inl rfl), ?_⟩
        | refine ⟨Or.inr (Or.inr rfl), ?_⟩
        | refine ⟨Or.inr ⟨rfl, (by first | exact Or.inl rfl | exact Or.inr rfl | assumption)⟩, ?_⟩
        | refine ⟨fun h => absurd h (by decide), fun _ => ?_⟩
        | refine ⟨fun _ => ?_, fun h => absurd h (by decide)⟩
        | refine ⟨fun h => ?_, fun h => ?_⟩
        | fail)
    obtain rfl := (eqQ_1 he o1).symm
    have E1 := mF_E F E
    have n29 : ¬ 0 ≤ μ1 48 0 29 := i32 _ (s29.trans o1)
    unfold qN pRdN at e7
    rw [if_pos o1] at e7
    have Bd : ∀ j, (48 ≤ pB a n j ∧ pB a n j ≤ 57) → j < n := fun j h => pB_lt (fun e => by rw [e] at h; exact absurd h.1 (by decide))
    by_cases dg : 48 ≤ pB a n q6.1 ∧ pB a n q6.1 ≤ 57
    case neg =>
      have e0 : pNumF (pB a n) 8 q6.1 0 = (q6.1, 0) := by rw [pNumF, if_neg dg]
      rw [e0, if_pos rfl] at e7
      obtain ⟨e71, e72⟩ := Prod.mk.inj e7
      have hf := fin 0 (some (zI 0)) (zu μ1 48 0 29 (μ1 48 0 28)) ⟨fun f hf => by
          rw [← F.1 f hf]
          simp only [List.mem_cons, List.not_mem_nil, or_false, not_or] at hf
          funext i k
          exact zu_ne (by omega), fun k hk => by
          simp only [List.mem_cons, List.not_mem_nil, or_false, not_or] at hk
          rw [zu_ne (by omega)]
          exact F.2.1 k (by simp only [List.mem_cons, List.not_mem_nil, or_false, not_or]; exact hk), fun f hf k hk => by
          rw [← F.2.2 f hf k hk]
          simp only [List.mem_cons, List.not_mem_nil, or_false] at hf
          exact zu_ne (by omega)⟩ (by rw [zu_eq, s28, ← e72]) (fun z => by rw [← e72] at z; exact absurd z (nI_nem1 (by have := ho.1; omega))) (fun _ => by rw [← e72]; exact nI_pos' (by have := ho.1; omega))
      have o3 : 0 ≤ zu μ1 48 0 29 (μ1 48 0 28) 48 0 29 := by rw [zu_eq, s28]; exact nI_pos' (by have := ho.1; omega)
      refine zs k_Mo_readTest rfl ?_; conv => whnf
      repeat' (first
        | exact hf
        | refine br_f n29 ?_
        | refine c_Mo_letter E1 s28 ho.1 ?_
        | refine c_Mo_isDigit (fun q => absurd q dg) (fun _ => ?_)
        | refine br_f (show ¬ (8 : Int32) ≤ 0 by decide) ?_
        | refine br_t o3 ?_
        | (refine zs k_Mo_readTest rfl ?_; conv => whnf)
        | refine ⟨Nat.zero_lt_one, rfl, ?_⟩
        | refine ⟨rfl, ?_⟩
        | refine ⟨⟨Nat.zero_lt_one, rfl⟩, Nat.le_of_ble_eq_true rfl, ?_⟩
        | refine ⟨Nat.le_of_ble_eq_true rfl, Nat.le_of_ble_eq_true rfl, ?_⟩
        | refine ⟨(by first | exact Nat.zero_lt_one | assumption | omega), (by first | assumption | exact vp_in_nI (by omega) (by omega) | (unfold vp_in; decide)), ?_⟩
        | refine ⟨(by first | exact Nat.zero_lt_one | assumption | omega), rfl, ?_⟩
        | refine ⟨⟨(by first | exact Nat.zero_lt_one | assumption | omega), rfl⟩, Nat.le_of_ble_eq_true rfl, ?_⟩
        | refine ⟨(by first | exact Nat.zero_lt_one | assumption | omega), ?_⟩
        | refine ⟨Or.inl rfl, ?_⟩
        | refine ⟨Or.inr (Or.inl rfl), ?_⟩
        | refine ⟨Or.inr (Or.inr rfl), ?_⟩
        | refine ⟨Or.inr ⟨rfl, (by first | exact Or.inl rfl | exact Or.inr rfl | assumption)⟩, ?_⟩
        | refine ⟨fun h => absurd h (by decide), fun _ => ?_⟩
        | refine ⟨fun _ => ?_, fun h => absurd h (by decide)⟩
        | refine ⟨fun h => ?_, fun h => ?_⟩
        | fail)
    have hgt : ¬ (pNumF (pB a n) 8 q6.1 0).1 = q6.1 := by
      rw [pNumF, if_pos dg]
      have := (pNumF_ge (pB a n) 7 (q6.1 + 1) (10 * 0 + pB a n q6.1 - 48)).1
      omega
    rw [if_neg hgt] at e7
    obtain ⟨e71, e72⟩ := Prod.mk.inj e7
    generalize hR : pNumF (pB a n) 8 q6.1 0 = R at e71 e72
    have L : ∀ (f i at_ : Nat) (v c : Int32) (μ2 : zMu), i + f = 8 → c = nI i → mF J μ μ2 → μ2 48 0 28 = nI at_ → μ2 48 0 29 = -1 → at_ ≤ n → (μ2 73 0 J = t.1 ∧ μ2 74 0 J = t.2.1 ∧ μ2 75 0 J = t.2.2.1 ∧ μ2 76 0 J = t.2.2.2.1) → pNumF (pB a n) f at_ v = R → zG S (d + 2) m_Mo_readTest K 141 [some (zR 48 0), some (zI (nI J)), some (zI v), some (zI c)] [] μ2 := by
      intro f
      induction f with
      | zero =>
        intro i at_ v c μ2 hi hc F2 t28 t29 htn tv hr
        obtain rfl : i = 8 := by omega
        subst hc
        have hr : (at_, v) = R := hr
        have hf := fin v (some (zI (nI 8))) μ2 F2 (by rw [t29, ← e72]) (fun _ => ⟨by rw [t28, ← e72, ← hr], tv.1, tv.2.1, tv.2.2.1, tv.2.2.2, by rw [← e71, ← hr]⟩) (fun z => absurd (by rw [← e72]) z)
        refine zs k_Mo_readTest rfl ?_; conv => whnf
        repeat' (first
          | exact hf
          | refine br_t (show (8 : Int32) ≤ nI 8 by decide) ?_
          | (refine zs k_Mo_readTest rfl ?_; conv => whnf)
          | refine ⟨Nat.zero_lt_one, rfl, ?_⟩
          | refine ⟨rfl, ?_⟩
          | refine ⟨⟨Nat.zero_lt_one, rfl⟩, Nat.le_of_ble_eq_true rfl, ?_⟩
          | refine ⟨Nat.le_of_ble_eq_true rfl, Nat.le_of_ble_eq_true rfl, ?_⟩
          | refine ⟨(by first | exact Nat.zero_lt_one | assumption | omega), (by first | assumption | exact vp_in_nI (by omega) (by omega) | (unfold vp_in; decide)), ?_⟩
          | refine ⟨(by first | exact Nat.zero_lt_one | assumption | omega), rfl, ?_⟩
          | refine ⟨⟨(by first | exact Nat.zero_lt_one | assumption | omega), rfl⟩, Nat.le_of_ble_eq_true rfl, ?_⟩
          | refine ⟨(by first | exact Nat.zero_lt_one | assumption | omega), ?_⟩
          | refine ⟨Or.inl rfl, ?_⟩
          | refine ⟨Or.inr (Or.inl rfl), ?_⟩
          | refine ⟨Or.inr (Or.inr rfl), ?_⟩
          | refine ⟨Or.inr ⟨rfl, (by first | exact Or.inl rfl | exact Or.inr rfl | assumption)⟩, ?_⟩
          | refine ⟨fun h => absurd h (by decide), fun _ => ?_⟩
          | refine ⟨fun _ => ?_, fun h => absurd h (by decide)⟩
          | refine ⟨fun h => ?_, fun h => ?_⟩
          | fail)
      | succ f ih =>
        intro i at_ v c μ2 hi hc F2 t28 t29 htn tv hr
        subst hc
        have E2 := mF_E F2 E
        have k8 : ¬ (8 : Int32) ≤ nI i := nI_ge (b := 8) (by omega) (by omega)
        have m29 : ¬ 0 ≤ μ2 48 0 29 := i32 _ t29
        rw [pNumF] at hr
        by_cases dg2 : 48 ≤ pB a n at_ ∧ pB a n at_ ≤ 57
        · rw [if_pos dg2] at hr
          have hlt := Bd at_ dg2
          refine zs k_Mo_readTest rfl ?_; conv => whnf
          repeat' (first
            | refine br_f k8 ?_
            | refine br_f m29 ?_
            | refine c_Mo_letter E2 t28 (by omega) ?_
            | refine c_Mo_isDigit (fun _ => ?_) (fun q => absurd dg2 q)
            | refine ih (i + 1) (at_ + 1) _ _ _ (by omega) (by exact nI_1 i) ?_ ?_ (by exact t29) (by omega) (by exact tv) hr
            | (refine zs k_Mo_readTest rfl ?_; conv => whnf)
            | refine ⟨Nat.zero_lt_one, rfl, ?_⟩
            | refine ⟨rfl, ?_⟩
            | refine ⟨⟨Nat.zero_lt_one, rfl⟩, Nat.le_of_ble_eq_true rfl, ?_⟩
            | refine ⟨Nat.le_of_ble_eq_true rfl, Nat.le_of_ble_eq_true rfl, ?_⟩
            | refine ⟨(by first | exact Nat.zero_lt_one | assumption | omega), (by first | assumption | exact vp_in_nI (by omega) (by omega) | (unfold vp_in; decide)), ?_⟩
            | refine ⟨(by first | exact Nat.zero_lt_one | assumption | omega), rfl, ?_⟩
            | refine ⟨⟨(by first | exact Nat.zero_lt_one | assumption | omega), rfl⟩, Nat.le_of_ble_eq_true rfl, ?_⟩
            | refine ⟨(by first | exact Nat.zero_lt_one | assumption | omega), ?_⟩
            | refine ⟨Or.inl rfl, ?_⟩
            | refine ⟨Or.inr (Or.inl rfl), ?_⟩
            | refine ⟨Or.inr (Or.inr rfl), ?_⟩
            | refine ⟨Or.inr ⟨rfl, (by first | exact Or.inl rfl | exact Or.inr rfl | assumption)⟩, ?_⟩
            | refine ⟨fun h => absurd h (by decide), fun _ => ?_⟩
            | refine ⟨fun _ => ?_, fun h => absurd h (by decide)⟩
            | refine ⟨fun h => ?_, fun h => ?_⟩
            | fail)
          · refine ⟨fun g hg => ?_, fun k hk => ?_, fun g hg k hk => ?_⟩
            · rw [← F2.1 g hg]
              simp only [List.mem_cons, List.not_mem_nil, or_false, not_or] at hg
              funext i k
              exact zu_ne (by omega)
            · simp only [List.mem_cons, List.not_mem_nil, or_false, not_or] at hk
              rw [zu_ne (by omega)]
              exact F2.2.1 k (by simp only [List.mem_cons, List.not_mem_nil, or_false, not_or]; exact hk)
            · rw [← F2.2.2 g hg k hk]
              simp only [List.mem_cons, List.not_mem_nil, or_false] at hg
              exact zu_ne (by omega)
          · rw [zu_eq, t28, nI_1]
        · rw [if_neg dg2] at hr
          have hr : (at_, v) = R := hr
          have hf := fin v (some (zI (nI i))) μ2 F2 (by rw [t29, ← e72]) (fun _ => ⟨by rw [t28, ← e72, ← hr], tv.1, tv.2.1, tv.2.2.1, tv.2.2.2, by rw [← e71, ← hr]⟩) (fun z => absurd (by rw [← e72]) z)
          refine zs k_Mo_readTest rfl ?_; conv => whnf
          repeat' (first
            | exact hf
            | refine br_f k8 ?_
            | refine br_f m29 ?_
            | refine c_Mo_letter E2 t28 (by omega) ?_
            | refine c_Mo_isDigit (fun q => absurd q dg2) (fun _ => ?_)
            | (refine zs k_Mo_readTest rfl ?_; conv => whnf)
            | refine ⟨Nat.zero_lt_one, rfl, ?_⟩
            | refine ⟨rfl, ?_⟩
            | refine ⟨⟨Nat.zero_lt_one, rfl⟩, Nat.le_of_ble_eq_true rfl, ?_⟩
            | refine ⟨Nat.le_of_ble_eq_true rfl, Nat.le_of_ble_eq_true rfl, ?_⟩
            | refine ⟨(by first | exact Nat.zero_lt_one | assumption | omega), (by first | assumption | exact vp_in_nI (by omega) (by omega) | (unfold vp_in; decide)), ?_⟩
            | refine ⟨(by first | exact Nat.zero_lt_one | assumption | omega), rfl, ?_⟩
            | refine ⟨⟨(by first | exact Nat.zero_lt_one | assumption | omega), rfl⟩, Nat.le_of_ble_eq_true rfl, ?_⟩
            | refine ⟨(by first | exact Nat.zero_lt_one | assumption | omega), ?_⟩
            | refine ⟨Or.inl rfl, ?_⟩
            | refine ⟨Or.inr (Or.inl rfl), ?_⟩
            | refine ⟨Or.inr (Or.inr rfl), ?_⟩
            | refine ⟨Or.inr ⟨rfl, (by first | exact Or.inl rfl | exact Or.inr rfl | assumption)⟩, ?_⟩
            | refine ⟨fun h => absurd h (by decide), fun _ => ?_⟩
            | refine ⟨fun _ => ?_, fun h => absurd h (by decide)⟩
            | refine ⟨fun h => ?_, fun h => ?_⟩
            | fail)
    refine zs k_Mo_readTest rfl ?_; conv => whnf
    repeat' (first
      | refine L 8 0 q6.1 _ _ _ (by omega) rfl F s28 (s29.trans o1) h6n (vals o1) hR
      | refine br_f n29 ?_
      | refine c_Mo_letter E1 s28 ho.1 ?_
      | refine c_Mo_isDigit (fun _ => ?_) (fun q => absurd dg q)
      | (refine zs k_Mo_readTest rfl ?_; conv => whnf)
      | refine ⟨Nat.zero_lt_one, rfl, ?_⟩
      | refine ⟨rfl, ?_⟩
      | refine ⟨⟨Nat.zero_lt_one, rfl⟩, Nat.le_of_ble_eq_true rfl, ?_⟩
      | refine ⟨Nat.le_of_ble_eq_true rfl, Nat.le_of_ble_eq_true rfl, ?_⟩
      | refine ⟨(by first | exact Nat.zero_lt_one | assumption | omega), (by first | assumption | exact vp_in_nI (by omega) (by omega) | (unfold vp_in; decide)), ?_⟩
      | refine ⟨(by first | exact Nat.zero_lt_one | assumption | omega), rfl, ?_⟩
      | refine ⟨⟨(by first | exact Nat.zero_lt_one | assumption | omega), rfl⟩, Nat.le_of_ble_eq_true rfl, ?_⟩
      | refine ⟨(by first | exact Nat.zero_lt_one | assumption | omega), ?_⟩
      | refine ⟨Or.inl rfl, ?_⟩
      | refine ⟨Or.inr (Or.inl rfl), ?_⟩
      | refine ⟨Or.inr (Or.inr rfl), ?_⟩
      | refine ⟨Or.inr ⟨rfl, (by first | exact Or.inl rfl | exact Or.inr rfl | assumption)⟩, ?_⟩
      | refine ⟨fun h => absurd h (by decide), fun _ => ?_⟩
      | refine ⟨fun _ => ?_, fun h => absurd h (by decide)⟩
      | refine ⟨fun h => ?_, fun h => ?_⟩
      | fail)
  -- the sign
  have SD : ∀ (μ1 : zMu) (qm : zQ), mF J μ μ1 → μ1 48 0 28 = nI qm.1 → μ1 48 0 29 = qm.2 → qOk qm → q5.1 ≤ n → eqQ q5 qm → (q5.2 = -1 → μ1 73 0 J = t.1 ∧ μ1 74 0 J = t.2.1 ∧ μ1 75 0 J = t.2.2.1) → zG S (d + 2) m_Mo_readTest K 92 [some (zR 48 0), some (zI (nI J)), none, none] [] μ1 := by
    intro μ1 qm F s28 s29 ho h5n he vals
    have h6n : q6.1 ≤ n := by have := qW_le (a := a) (n := n) (k := 9) (q := q5) (by omega) h5n; rw [e6] at this; exact this
    by_cases o1 : q5.2 = -1
    case neg =>
      rw [qW_ft o1] at e6
      obtain ⟨-, e62⟩ := Prod.mk.inj e6
      have o2 : 0 ≤ μ1 48 0 29 := by
        rw [s29]
        rcases qOk_neg ho with ⟨z, -⟩ | ⟨-, z⟩
        · exact absurd (he.1.symm.trans z) o1
        · exact z
      have hS := SE μ1 qm F s28 s29 ho h6n (by rw [← e62]; exact he) (fun z => absurd (by rw [e62]; exact z) o1)
      refine zs k_Mo_readTest rfl ?_; conv => whnf
      repeat' (first
        | exact hS
        | refine br_t o2 ?_
        | (refine zs k_Mo_readTest rfl ?_; conv => whnf)
        | refine ⟨Nat.zero_lt_one, rfl, ?_⟩
        | refine ⟨rfl, ?_⟩
        | refine ⟨⟨Nat.zero_lt_one, rfl⟩, Nat.le_of_ble_eq_true rfl, ?_⟩
        | refine ⟨Nat.le_of_ble_eq_true rfl, Nat.le_of_ble_eq_true rfl, ?_⟩
        | refine ⟨(by first | exact Nat.zero_lt_one | assumption | omega), (by first | assumption | exact vp_in_nI (by omega) (by omega) | (unfold vp_in; decide)), ?_⟩
        | refine ⟨(by first | exact Nat.zero_lt_one | assumption | omega), rfl, ?_⟩
        | refine ⟨⟨(by first | exact Nat.zero_lt_one | assumption | omega), rfl⟩, Nat.le_of_ble_eq_true rfl, ?_⟩
        | refine ⟨(by first | exact Nat.zero_lt_one | assumption | omega), ?_⟩
        | refine ⟨Or.inl rfl, ?_⟩
        | refine ⟨Or.inr (Or.inl rfl), ?_⟩
        | refine ⟨Or.inr (Or.inr rfl), ?_⟩
        | refine ⟨Or.inr ⟨rfl, (by first | exact Or.inl rfl | exact Or.inr rfl | assumption)⟩, ?_⟩
        | refine ⟨fun h => absurd h (by decide), fun _ => ?_⟩
        | refine ⟨fun _ => ?_, fun h => absurd h (by decide)⟩
        | refine ⟨fun h => ?_, fun h => ?_⟩
        | fail)
    obtain rfl := (eqQ_1 he o1).symm
    have E1 := mF_E F E
    have n29 : ¬ 0 ≤ μ1 48 0 29 := i32 _ (s29.trans o1)
    have e6' : qW a n (q5.1, -1) 9 = (t.2.2.2.1, q6) := by rw [← o1]; exact e6
    obtain ⟨u1, u2⟩ := w9_one ho.1 e6'
    obtain ⟨v1, v2, v3⟩ := vals o1
    generalize hm : mOne a n [61, 60, 62] q5.1 = M at u1 u2
    have hok : qOk M.2 := by
      rw [← hm]
      unfold mOne
      have := ho.1
      split
      · rename_i hl
        have := pB_lt (a := a) (n := n) (j := q5.1) (by rw [hl]; decide)
        exact ⟨by show q5.1 + 1 ≤ 1000; omega, Or.inl rfl⟩
      · split
        · rename_i hl
          have := pB_lt (a := a) (n := n) (j := q5.1) (by rw [hl]; decide)
          exact ⟨by show q5.1 + 1 ≤ 1000; omega, Or.inl rfl⟩
        · split
          · rename_i hl
            have := pB_lt (a := a) (n := n) (j := q5.1) (by rw [hl.2]; decide)
            exact ⟨by show q5.1 + 1 ≤ 1000; omega, Or.inl rfl⟩
          · exact ⟨ho.1, Or.inr ⟨q5.1, by omega, rfl⟩⟩
    have hS := SE (zu (cM μ1 M.2) 76 0 J (nI M.1)) M.2 (mF_zu (mF_cM F) (by decide)) (by rw [zu_ne (by omega)]; exact cM_28) (by rw [zu_ne (by omega)]; exact cM_29) hok h6n u1 (fun z => ⟨v1, v2, v3, by rw [zu_eq]; exact (u2 z).symm⟩)
    have hS' : ∀ J', J' = J → zG S (d + 2) m_Mo_readTest K 112 [some (zR 48 0), some (zI (nI J)), none, none] [] (zu (cM μ1 M.2) 76 0 J' (nI M.1)) := fun J' hJ' => by rw [hJ']; exact hS
    refine zs k_Mo_readTest rfl ?_; conv => whnf
    repeat' (first
      | refine br_f n29 ?_
      | (refine c_Mo_one3 E1 s28 (s29.trans o1) ho.1 ?_; rw [hm])
      | exact hS' _ cJ
      | (refine zs k_Mo_readTest rfl ?_; conv => whnf)
      | refine ⟨Nat.zero_lt_one, rfl, ?_⟩
      | refine ⟨rfl, ?_⟩
      | refine ⟨⟨Nat.zero_lt_one, rfl⟩, Nat.le_of_ble_eq_true rfl, ?_⟩
      | refine ⟨Nat.le_of_ble_eq_true rfl, Nat.le_of_ble_eq_true rfl, ?_⟩
      | refine ⟨(by first | exact Nat.zero_lt_one | assumption | omega), (by first | assumption | exact vp_in_nI (by omega) (by omega) | (unfold vp_in; decide)), ?_⟩
      | refine ⟨(by first | exact Nat.zero_lt_one | assumption | omega), rfl, ?_⟩
      | refine ⟨⟨(by first | exact Nat.zero_lt_one | assumption | omega), rfl⟩, Nat.le_of_ble_eq_true rfl, ?_⟩
      | refine ⟨(by first | exact Nat.zero_lt_one | assumption | omega), ?_⟩
      | refine ⟨Or.inl rfl, ?_⟩
      | refine ⟨Or.inr (Or.inl rfl), ?_⟩
      | refine ⟨Or.inr (Or.inr rfl), ?_⟩
      | refine ⟨Or.inr ⟨rfl, (by first | exact Or.inl rfl | exact Or.inr rfl | assumption)⟩, ?_⟩
      | refine ⟨fun h => absurd h (by decide), fun _ => ?_⟩
      | refine ⟨fun _ => ?_, fun h => absurd h (by decide)⟩
      | refine ⟨fun h => ?_, fun h => ?_⟩
      | fail)
  -- the field
  have SC : ∀ (μ1 : zMu) (qm : zQ), mF J μ μ1 → μ1 48 0 28 = nI qm.1 → μ1 48 0 29 = qm.2 → qOk qm → q4.1 ≤ n → eqQ q4 qm → (q4.2 = -1 → μ1 73 0 J = t.1 ∧ μ1 74 0 J = t.2.1) → zG S (d + 2) m_Mo_readTest K 73 [some (zR 48 0), some (zI (nI J)), none, none] [] μ1 := by
    intro μ1 qm F s28 s29 ho h4n he vals
    have h5n : q5.1 ≤ n := by have := qW_le (a := a) (n := n) (k := 8) (q := q4) (by omega) h4n; rw [e5] at this; exact this
    by_cases o1 : q4.2 = -1
    case neg =>
      rw [qW_ft o1] at e5
      obtain ⟨-, e52⟩ := Prod.mk.inj e5
      have o2 : 0 ≤ μ1 48 0 29 := by
        rw [s29]
        rcases qOk_neg ho with ⟨z, -⟩ | ⟨-, z⟩
        · exact absurd (he.1.symm.trans z) o1
        · exact z
      have hS := SD μ1 qm F s28 s29 ho h5n (by rw [← e52]; exact he) (fun z => absurd (by rw [e52]; exact z) o1)
      refine zs k_Mo_readTest rfl ?_; conv => whnf
      repeat' (first
        | exact hS
        | refine br_t o2 ?_
        | (refine zs k_Mo_readTest rfl ?_; conv => whnf)
        | refine ⟨Nat.zero_lt_one, rfl, ?_⟩
        | refine ⟨rfl, ?_⟩
        | refine ⟨⟨Nat.zero_lt_one, rfl⟩, Nat.le_of_ble_eq_true rfl, ?_⟩
        | refine ⟨Nat.le_of_ble_eq_true rfl, Nat.le_of_ble_eq_true rfl, ?_⟩
        | refine ⟨(by first | exact Nat.zero_lt_one | assumption | omega), (by first | assumption | exact vp_in_nI (by omega) (by omega) | (unfold vp_in; decide)), ?_⟩
        | refine ⟨(by first | exact Nat.zero_lt_one | assumption | omega), rfl, ?_⟩
        | refine ⟨⟨(by first | exact Nat.zero_lt_one | assumption | omega), rfl⟩, Nat.le_of_ble_eq_true rfl, ?_⟩
        | refine ⟨(by first | exact Nat.zero_lt_one | assumption | omega), ?_⟩
        | refine ⟨Or.inl rfl, ?_⟩
        | refine ⟨Or.inr (Or.inl rfl), ?_⟩
        | refine ⟨Or.inr (Or.inr rfl), ?_⟩
        | refine ⟨Or.inr ⟨rfl, (by first | exact Or.inl rfl | exact Or.inr rfl | assumption)⟩, ?_⟩
        | refine ⟨fun h => absurd h (by decide), fun _ => ?_⟩
        | refine ⟨fun _ => ?_, fun h => absurd h (by decide)⟩
        | refine ⟨fun h => ?_, fun h => ?_⟩
        | fail)
    obtain rfl := (eqQ_1 he o1).symm
    have E1 := mF_E F E
    have n29 : ¬ 0 ≤ μ1 48 0 29 := i32 _ (s29.trans o1)
    have e5' : qW a n (q4.1, -1) 8 = (t.2.2.1, q5) := by rw [← o1]; exact e5
    rw [qW_eq (by omega), show zWd.getD 8 [] = zWf.take 7 from rfl] at e5'
    obtain ⟨v1, v2⟩ := vals o1
    have go : ∀ (i : Nat) (Q : zQ), qOk Q → eqQ q5 Q → (q5.2 = -1 → nI i = t.2.2.1) → ∀ J', J' = J → zG S (d + 2) m_Mo_readTest K 92 [some (zR 48 0), some (zI (nI J)), none, none] [] (zu (cM μ1 Q) 75 0 J' (nI i)) := fun i Q hQ heQ hv J' hJ' => by
      rw [hJ']
      exact SD _ Q (mF_zu (mF_cM F) (by decide)) (by rw [zu_ne (by omega)]; exact cM_28) (by rw [zu_ne (by omega)]; exact cM_29) hQ h5n heQ (fun z => ⟨v1, v2, by rw [zu_eq]; exact hv z⟩)
    refine zs k_Mo_readTest rfl ?_; conv => whnf
    repeat' (first
      | refine br_f n29 ?_
      | refine c_Mo_word (m := 7) E1 s28 (s29.trans o1) h4n (by omega) (by omega) rfl (fun i L hw => ?_) (fun i L hw => ?_)
      | refine go i (q4.1 + L, -1) ?_ ?_ ?_ _ cJ
      | refine go i (q4.1 + L, nI (q4.1 + L)) ?_ ?_ ?_ _ cJ
      | (refine zs k_Mo_readTest rfl ?_; conv => whnf)
      | refine ⟨Nat.zero_lt_one, rfl, ?_⟩
      | refine ⟨rfl, ?_⟩
      | refine ⟨⟨Nat.zero_lt_one, rfl⟩, Nat.le_of_ble_eq_true rfl, ?_⟩
      | refine ⟨Nat.le_of_ble_eq_true rfl, Nat.le_of_ble_eq_true rfl, ?_⟩
      | refine ⟨(by first | exact Nat.zero_lt_one | assumption | omega), (by first | assumption | exact vp_in_nI (by omega) (by omega) | (unfold vp_in; decide)), ?_⟩
      | refine ⟨(by first | exact Nat.zero_lt_one | assumption | omega), rfl, ?_⟩
      | refine ⟨⟨(by first | exact Nat.zero_lt_one | assumption | omega), rfl⟩, Nat.le_of_ble_eq_true rfl, ?_⟩
      | refine ⟨(by first | exact Nat.zero_lt_one | assumption | omega), ?_⟩
      | refine ⟨Or.inl rfl, ?_⟩
      | refine ⟨Or.inr (Or.inl rfl), ?_⟩
      | refine ⟨Or.inr (Or.inr rfl), ?_⟩
      | refine ⟨Or.inr ⟨rfl, (by first | exact Or.inl rfl | exact Or.inr rfl | assumption)⟩, ?_⟩
      | refine ⟨fun h => absurd h (by decide), fun _ => ?_⟩
      | refine ⟨fun _ => ?_, fun h => absurd h (by decide)⟩
      | refine ⟨fun h => ?_, fun h => ?_⟩
      | fail)
    · rw [hw] at e5'
      obtain ⟨-, e52⟩ := Prod.mk.inj e5'
      rw [← e52] at h5n
      exact ⟨by have : q4.1 + L ≤ n := h5n; show q4.1 + L ≤ 1000; omega, Or.inl rfl⟩
    · rw [hw] at e5'
      obtain ⟨-, e52⟩ := Prod.mk.inj e5'
      rw [← e52]
      exact eqQ_rf
    · rw [hw] at e5'
      obtain ⟨e51, -⟩ := Prod.mk.inj e5'
      exact fun _ => e51
    · obtain ⟨-, -, -, -, hL⟩ := mbl_no (b := fun j => pB a n (q4.1 + j)) (by omega) (by omega) hw
      exact ⟨by show q4.1 + L ≤ 1000; omega, Or.inr ⟨q4.1 + L, by omega, rfl⟩⟩
    · rw [hw] at e5'
      obtain ⟨-, e52⟩ := Prod.mk.inj e5'
      obtain ⟨-, -, -, -, hL⟩ := mbl_no (b := fun j => pB a n (q4.1 + j)) (by omega) (by omega) hw
      rw [← e52]
      exact ⟨rfl, fun z => absurd z (nI_nem1 (by omega))⟩
    · rw [hw] at e5'
      obtain ⟨-, e52⟩ := Prod.mk.inj e5'
      obtain ⟨-, -, -, -, hL⟩ := mbl_no (b := fun j => pB a n (q4.1 + j)) (by omega) (by omega) hw
      rw [← e52]
      exact fun z => absurd z (nI_nem1 (by omega))
  -- the point
  have SB : ∀ (μ1 : zMu) (qm : zQ), mF J μ μ1 → μ1 48 0 28 = nI qm.1 → μ1 48 0 29 = qm.2 → qOk qm → q3.1 ≤ n → eqQ q3 qm → (q3.2 = -1 → μ1 73 0 J = t.1 ∧ μ1 74 0 J = t.2.1) → zG S (d + 2) m_Mo_readTest K 66 [some (zR 48 0), some (zI (nI J)), none, none] [] μ1 := by
    intro μ1 qm F s28 s29 ho h3n he vals
    have h4n : q4.1 ≤ n := by have := qW_le (a := a) (n := n) (k := 7) (q := q3) (by omega) h3n; rw [e4] at this; exact this
    have hX := qW_1 (cs := [46]) (by omega) rfl (by show q3.1 + 1 < 2 ^ 31; omega) e4 he
    have hS := SC (cM μ1 (mX a n [46] qm)) (mX a n [46] qm) (mF_cM F) cM_28 cM_29 (mX_ok h200 (by decide) ho) h4n hX (fun z => by
      by_cases o1 : q3.2 = -1
      · exact vals o1
      · rw [qW_ft o1] at e4
        obtain ⟨-, e42⟩ := Prod.mk.inj e4
        exact absurd (by rw [e42]; exact z) o1)
    refine zs k_Mo_readTest rfl ?_; conv => whnf
    repeat' (first
      | refine c_Mo_expect (cs := [46]) (mF_E F E) s28 s29 ho rfl (by decide) (by decide) (by decide) ?_
      | exact hS
      | (refine zs k_Mo_readTest rfl ?_; conv => whnf)
      | refine ⟨Nat.zero_lt_one, rfl, ?_⟩
      | refine ⟨rfl, ?_⟩
      | refine ⟨⟨Nat.zero_lt_one, rfl⟩, Nat.le_of_ble_eq_true rfl, ?_⟩
      | refine ⟨Nat.le_of_ble_eq_true rfl, Nat.le_of_ble_eq_true rfl, ?_⟩
      | refine ⟨(by first | exact Nat.zero_lt_one | assumption | omega), (by first | assumption | exact vp_in_nI (by omega) (by omega) | (unfold vp_in; decide)), ?_⟩
      | refine ⟨(by first | exact Nat.zero_lt_one | assumption | omega), rfl, ?_⟩
      | refine ⟨⟨(by first | exact Nat.zero_lt_one | assumption | omega), rfl⟩, Nat.le_of_ble_eq_true rfl, ?_⟩
      | refine ⟨(by first | exact Nat.zero_lt_one | assumption | omega), ?_⟩
      | refine ⟨Or.inl rfl, ?_⟩
      | refine ⟨Or.inr (Or.inl rfl), ?_⟩
      | refine ⟨Or.inr (Or.inr rfl), ?_⟩
      | refine ⟨Or.inr ⟨rfl, (by first | exact Or.inl rfl | exact Or.inr rfl | assumption)⟩, ?_⟩
      | refine ⟨fun h => absurd h (by decide), fun _ => ?_⟩
      | refine ⟨fun _ => ?_, fun h => absurd h (by decide)⟩
      | refine ⟨fun h => ?_, fun h => ?_⟩
      | fail)
  -- whose
  have E0 : pB a n q.1 = pB a n q.1 := rfl
  have hq0 : qOk (q.1, -1) := ⟨by show q.1 ≤ 1000; omega, Or.inl rfl⟩
  obtain ⟨v1, q1, T1, T2⟩ := T0
  have T1' : qW a n (q.1, -1) 5 = (v1, q1) := by rw [← hq2]; exact T1
  have hq1n : q1.1 ≤ n := by have := qW_le (a := a) (n := n) (k := 5) (q := q) (by omega) hqn; rw [T1] at this; exact this
  rw [w5_eq] at T1'
  have SA2 : ∀ (μ1 : zMu) (at_ : Nat) (v : Int32) (q3' : zQ), mF J μ μ1 → μ1 48 0 28 = nI at_ → μ1 48 0 29 = -1 → at_ ≤ n → qW a n (at_, -1) 6 = (v, q3') → q3.1 ≤ n → eqQ q3' q3 → (q3.2 = -1 → v = w) → (q3.2 = -1 → μ1 73 0 J = t.1) → zG S (d + 2) m_Mo_readTest K 36 [some (zR 48 0), some (zI (nI J)), none, none] [] μ1 := by
    intro μ1 at_ v q3' F s28 s29 hatn e3 h3n he hvw v1
    have E1 := mF_E F E
    have n29 : ¬ 0 ≤ μ1 48 0 29 := i32 _ s29
    obtain ⟨u1, u2⟩ := w6_one (by omega) e3
    generalize hm : mOne a n [97, 98] at_ = M at u1 u2
    have hM1 : M.1 = 0 ∨ M.1 = 1 := by
      rw [← hm]
      unfold mOne
      split
      · exact Or.inl rfl
      · split
        · exact Or.inr rfl
        · split
          · rename_i hl
            exact absurd hl.1 (by decide)
          · exact Or.inl rfl
    have hok : qOk M.2 := by
      rw [← hm]
      unfold mOne
      split
      · rename_i hl
        have := pB_lt (a := a) (n := n) (j := at_) (by rw [hl]; decide)
        exact ⟨by show at_ + 1 ≤ 1000; omega, Or.inl rfl⟩
      · split
        · rename_i hl
          have := pB_lt (a := a) (n := n) (j := at_) (by rw [hl]; decide)
          exact ⟨by show at_ + 1 ≤ 1000; omega, Or.inl rfl⟩
        · split
          · rename_i hl
            exact absurd hl.1 (by decide)
          · exact ⟨by show at_ ≤ 1000; omega, Or.inr ⟨at_, by omega, rfl⟩⟩
    have e32 : q3'.2 = q3.2 := he.1.symm
    have heq : eqQ q3 M.2 := ⟨by rw [u1.1, e32], fun z => by rw [u1.2 (e32.trans z), he.2 (e32.trans z)]⟩
    have go : ∀ (y : Int32), (y = if w = 1 then 1 else 0) ∨ ¬ q3.2 = -1 → ∀ J', J' = J → zG S (d + 2) m_Mo_readTest K 66 [some (zR 48 0), some (zI (nI J)), none, none] [] (zu (cM μ1 M.2) 74 0 J' y) := fun y hy J' hJ' => by
      rw [hJ']
      refine SB _ M.2 (mF_zu (mF_cM F) (by decide)) (by rw [zu_ne (by omega)]; exact cM_28) (by rw [zu_ne (by omega)]; exact cM_29) hok h3n heq (fun z => ⟨v1 z, ?_⟩)
      rw [zu_eq, tb]
      rcases hy with hy | hy
      · exact hy
      · exact absurd z hy
    rcases hM1 with m0 | m1
    · have hw0 : q3.2 = -1 → (0 : Int32) = if w = 1 then 1 else 0 := fun z => by
        rw [← hvw z, u2 (e32.trans z), m0]
        rfl
      have hy : ((0 : Int32) = if w = 1 then 1 else 0) ∨ ¬ q3.2 = -1 := (Classical.em (q3.2 = -1)).elim (fun z => Or.inl (hw0 z)) Or.inr
      have g0 := go 0 hy
      have mm : ¬ nI M.1 = 1 := by rw [m0]; decide
      refine zs k_Mo_readTest rfl ?_; conv => whnf
      repeat' (first
        | refine br_f n29 ?_
        | (refine c_Mo_one2 E1 s28 s29 (by omega) ?_; rw [hm])
        | refine bn_t mm ?_
        | exact g0 _ cJ
        | (refine zs k_Mo_readTest rfl ?_; conv => whnf)
        | refine ⟨Nat.zero_lt_one, rfl, ?_⟩
        | refine ⟨rfl, ?_⟩
        | refine ⟨⟨Nat.zero_lt_one, rfl⟩, Nat.le_of_ble_eq_true rfl, ?_⟩
        | refine ⟨Nat.le_of_ble_eq_true rfl, Nat.le_of_ble_eq_true rfl, ?_⟩
        | refine ⟨(by first | exact Nat.zero_lt_one | assumption | omega), (by first | assumption | exact vp_in_nI (by omega) (by omega) | (unfold vp_in; decide)), ?_⟩
        | refine ⟨(by first | exact Nat.zero_lt_one | assumption | omega), rfl, ?_⟩
        | refine ⟨⟨(by first | exact Nat.zero_lt_one | assumption | omega), rfl⟩, Nat.le_of_ble_eq_true rfl, ?_⟩
        | refine ⟨(by first | exact Nat.zero_lt_one | assumption | omega), ?_⟩
        | refine ⟨Or.inl rfl, ?_⟩
        | refine ⟨Or.inr (Or.inl rfl), ?_⟩
        | refine ⟨Or.inr (Or.inr rfl), ?_⟩
        | refine ⟨Or.inr ⟨rfl, (by first | exact Or.inl rfl | exact Or.inr rfl | assumption)⟩, ?_⟩
        | refine ⟨fun h => absurd h (by decide), fun _ => ?_⟩
        | refine ⟨fun _ => ?_, fun h => absurd h (by decide)⟩
        | refine ⟨fun h => ?_, fun h => ?_⟩
        | fail)
    · have hw0 : q3.2 = -1 → (1 : Int32) = if w = 1 then 1 else 0 := fun z => by
        rw [← hvw z, u2 (e32.trans z), m1]
        rfl
      have hy : ((1 : Int32) = if w = 1 then 1 else 0) ∨ ¬ q3.2 = -1 := (Classical.em (q3.2 = -1)).elim (fun z => Or.inl (hw0 z)) Or.inr
      have g0 := go 1 hy
      have mm : nI M.1 = 1 := by rw [m1]; rfl
      refine zs k_Mo_readTest rfl ?_; conv => whnf
      repeat' (first
        | refine br_f n29 ?_
        | (refine c_Mo_one2 E1 s28 s29 (by omega) ?_; rw [hm])
        | refine bn_f mm ?_
        | exact g0 _ cJ
        | (refine zs k_Mo_readTest rfl ?_; conv => whnf)
        | refine ⟨Nat.zero_lt_one, rfl, ?_⟩
        | refine ⟨rfl, ?_⟩
        | refine ⟨⟨Nat.zero_lt_one, rfl⟩, Nat.le_of_ble_eq_true rfl, ?_⟩
        | refine ⟨Nat.le_of_ble_eq_true rfl, Nat.le_of_ble_eq_true rfl, ?_⟩
        | refine ⟨(by first | exact Nat.zero_lt_one | assumption | omega), (by first | assumption | exact vp_in_nI (by omega) (by omega) | (unfold vp_in; decide)), ?_⟩
        | refine ⟨(by first | exact Nat.zero_lt_one | assumption | omega), rfl, ?_⟩
        | refine ⟨⟨(by first | exact Nat.zero_lt_one | assumption | omega), rfl⟩, Nat.le_of_ble_eq_true rfl, ?_⟩
        | refine ⟨(by first | exact Nat.zero_lt_one | assumption | omega), ?_⟩
        | refine ⟨Or.inl rfl, ?_⟩
        | refine ⟨Or.inr (Or.inl rfl), ?_⟩
        | refine ⟨Or.inr (Or.inr rfl), ?_⟩
        | refine ⟨Or.inr ⟨rfl, (by first | exact Or.inl rfl | exact Or.inr rfl | assumption)⟩, ?_⟩
        | refine ⟨fun h => absurd h (by decide), fun _ => ?_⟩
        | refine ⟨fun _ => ?_, fun h => absurd h (by decide)⟩
        | refine ⟨fun h => ?_, fun h => ?_⟩
        | fail)
  by_cases l110 : pB a n q.1 = 110
  case neg =>
    have Fn : mF J μ (zu μ 73 0 J 0) := mF_zu mF_rf (by decide)
    -- a, b, or neither
    have key : ∃ v q3', qW a n (q.1, -1) 6 = (v, q3') ∧ q3.1 ≤ n ∧ eqQ q3' q3 ∧ (q3.2 = -1 → v = w) ∧ (q3.2 = -1 → (0 : Int32) = t.1) := by
      refine ⟨(qW a n (q.1, -1) 6).1, (qW a n (q.1, -1) 6).2, rfl, ?_⟩
      have p0 : pfx (fun j => pB a n (q.1 + j)) [110, 111, 116] 0 = 0 := by
        rw [pfx, if_neg (show ¬ pB a n (q.1 + 0) = 110 from l110)]
      rw [p0] at T1'
      have w6 : qW a n (q.1, -1) 6 = if pB a n q.1 = 97 then (0, q.1 + 1, -1) else if pB a n q.1 = 98 then (1, q.1 + 1, -1) else (-1, q.1, nI q.1) := by
        rw [qW_eq (by omega)]
        have hw : zWd.getD 6 [] = [[97], [98]] := rfl
        rw [hw]
        simp only [wL, wL_s, Nat.add_zero, List.length_singleton]
        by_cases l0 : pB a n q.1 = 97
        · simp [l0]
          rfl
        · by_cases l1 : pB a n q.1 = 98
          · simp [l1]
            rfl
          · simp [l0, l1]
      rw [w6]
      by_cases l0 : pB a n q.1 = 97
      · rw [if_pos l0] at T1' ⊢
        obtain ⟨rfl, rfl⟩ := Prod.mk.inj T1'
        rcases T2 with ⟨c1, -⟩ | ⟨-, c2, c3, c4⟩
        · exact absurd c1 (by decide)
        · rw [c4]
          exact ⟨hq1n, eqQ_rf, fun _ => c3.symm, fun _ => c2.symm⟩
      · rw [if_neg l0] at T1' ⊢
        by_cases l1 : pB a n q.1 = 98
        · rw [if_pos l1] at T1' ⊢
          obtain ⟨rfl, rfl⟩ := Prod.mk.inj T1'
          rcases T2 with ⟨c1, -⟩ | ⟨-, c2, c3, c4⟩
          · exact absurd c1 (by decide)
          · rw [c4]
            exact ⟨hq1n, eqQ_rf, fun _ => c3.symm, fun _ => c2.symm⟩
        · rw [if_neg l1] at T1' ⊢
          rw [if_neg (by decide)] at T1'
          obtain ⟨rfl, rfl⟩ := Prod.mk.inj T1'
          rcases T2 with ⟨c1, -⟩ | ⟨-, c2, c3, c4⟩
          · exact absurd c1 (by decide)
          · rw [c4]
            exact ⟨hq1n, eqQ_rf, fun _ => c3.symm, fun _ => c2.symm⟩
    obtain ⟨v, q3', k1, k2, k3, k4, k5⟩ := key
    have hS := SA2 (zu μ 73 0 J 0) q.1 v q3' Fn h28 h29 hqn k1 k2 k3 k4 (fun z => by rw [zu_eq]; exact k5 z)
    have hS' : ∀ J', J' = J → zG S (d + 2) m_Mo_readTest K 36 [some (zR 48 0), some (zI (nI J)), none, none] [] (zu μ 73 0 J' (vp_nar .boolean 0)) := fun J' hJ' => by rw [hJ']; exact hS
    have z73 : zu μ 73 0 (nI J).toNatClampNeg (vp_nar .boolean 0) 73 0 (nI J).toNatClampNeg = 0 := by rw [zu_eq]; rfl
    repeat' (first
      | exact hS' _ cJ
      | refine c_Mo_letter E h28 (by omega) ?_
      | refine bn_t l110 ?_
      | refine br_t z73 ?_
      | (refine zs k_Mo_readTest rfl ?_; conv => whnf)
      | refine ⟨Nat.zero_lt_one, rfl, ?_⟩
      | refine ⟨rfl, ?_⟩
      | refine ⟨⟨Nat.zero_lt_one, rfl⟩, Nat.le_of_ble_eq_true rfl, ?_⟩
      | refine ⟨Nat.le_of_ble_eq_true rfl, Nat.le_of_ble_eq_true rfl, ?_⟩
      | refine ⟨(by first | exact Nat.zero_lt_one | assumption | omega), (by first | assumption | exact vp_in_nI (by omega) (by omega) | (unfold vp_in; decide)), ?_⟩
      | refine ⟨(by first | exact Nat.zero_lt_one | assumption | omega), rfl, ?_⟩
      | refine ⟨⟨(by first | exact Nat.zero_lt_one | assumption | omega), rfl⟩, Nat.le_of_ble_eq_true rfl, ?_⟩
      | refine ⟨(by first | exact Nat.zero_lt_one | assumption | omega), ?_⟩
      | refine ⟨Or.inl rfl, ?_⟩
      | refine ⟨Or.inr (Or.inl rfl), ?_⟩
      | refine ⟨Or.inr (Or.inr rfl), ?_⟩
      | refine ⟨Or.inr ⟨rfl, (by first | exact Or.inl rfl | exact Or.inr rfl | assumption)⟩, ?_⟩
      | refine ⟨fun h => absurd h (by decide), fun _ => ?_⟩
      | refine ⟨fun _ => ?_, fun h => absurd h (by decide)⟩
      | refine ⟨fun h => ?_, fun h => ?_⟩
      | fail)
  case pos =>
    have Fn : mF J μ (zu μ 73 0 J 1) := mF_zu mF_rf (by decide)
    have l0 : ¬ pB a n q.1 = 97 := by rw [l110]; decide
    have l1 : ¬ pB a n q.1 = 98 := by rw [l110]; decide
    rw [if_neg l0, if_neg l1] at T1'
    have hX := mX_pfx (a := a) (n := n) (at_ := q.1) (cs := [110, 111, 116]) (i := 0)
    rw [Nat.add_zero] at hX
    have hXX : mX a n [110, 111, 116, 32] (q.1, -1) = mX a n [32] (mX a n [110, 111, 116] (q.1, -1)) := mX_app (c1 := [110, 111, 116]) (c2 := [32]) (by show q.1 + 3 < 2 ^ 31; omega)
    have hpl := pfx_le (b := fun j => pB a n (q.1 + j)) (w := [110, 111, 116]) (i := 0)
    have z73 : ¬ zu μ 73 0 (nI J).toNatClampNeg (vp_nar .boolean 1) 73 0 (nI J).toNatClampNeg = 0 := by
      rw [zu_eq]
      decide
    have hid : mE (zu μ 73 0 J 1) a n := mF_E Fn E
    have hokX : qOk (mX a n [110, 111, 116, 32] (q.1, -1)) := mX_ok h200 (by decide) hq0
    have go : zG S (d + 2) m_Mo_readTest K 36 [some (zR 48 0), some (zI (nI J)), none, none] [] (cM (zu μ 73 0 J 1) (mX a n [110, 111, 116, 32] (q.1, -1))) := by
      by_cases p3 : pfx (fun j => pB a n (q.1 + j)) [110, 111, 116] 0 = 3
      · rw [if_pos p3] at T1'
        obtain ⟨rfl, rfl⟩ := Prod.mk.inj T1'
        rcases T2 with ⟨-, c2, c3⟩ | ⟨c1, -⟩
        case inr => exact absurd rfl c1
        rw [if_pos (show pfx (fun j => pB a n (q.1 + j)) [110, 111, 116] 0 = ([110, 111, 116] : List Int32).length from p3)] at hX
        have hX2 : mX a n [110, 111, 116, 32] (q.1, -1) = qB a n (q.1 + 3, -1) := by rw [hXX, hX]; exact mX_b
        rw [hX2] at hokX ⊢
        have hbn := qB_le (a := a) (n := n) (q := (q.1 + 3, -1)) hq1n
        have h3n : q3.1 ≤ n := by have := qW_le (a := a) (n := n) (k := 6) (q := qB a n (q.1 + 3, -1)) (by omega) hbn; rw [c3] at this; exact this
        generalize hB : qB a n (q.1 + 3, -1) = B at *
        by_cases o1 : B.2 = -1
        · obtain ⟨at_, fl⟩ := B
          have o1 : fl = -1 := o1
          subst o1
          exact SA2 _ at_ w q3 (mF_cM Fn) cM_28 cM_29 hbn c3 h3n eqQ_rf (fun _ => rfl) (fun _ => by rw [cM_o (by omega), zu_eq, c2])
        · rw [qW_ft o1] at c3
          obtain ⟨-, c32⟩ := Prod.mk.inj c3
          have o2 : 0 ≤ cM (zu μ 73 0 J 1) B 48 0 29 := by
            rw [cM_29]
            rcases qOk_neg hokX with ⟨z, -⟩ | ⟨-, z⟩
            · exact absurd z o1
            · exact z
          have hS := SB _ B (mF_cM Fn) cM_28 cM_29 hokX h3n (by rw [← c32]; exact eqQ_rf) (fun z => absurd (by rw [c32]; exact z) o1)
          refine zs k_Mo_readTest rfl ?_; conv => whnf
          repeat' (first
            | exact hS
            | refine br_t o2 ?_
            | (refine zs k_Mo_readTest rfl ?_; conv => whnf)
            | refine ⟨Nat.zero_lt_one, rfl, ?_⟩
            | refine ⟨rfl, ?_⟩
            | refine ⟨⟨Nat.zero_lt_one, rfl⟩, Nat.le_of_ble_eq_true rfl, ?_⟩
            | refine ⟨Nat.le_of_ble_eq_true rfl, Nat.le_of_ble_eq_true rfl, ?_⟩
            | refine ⟨(by first | exact Nat.zero_lt_one | assumption | omega), (by first | assumption | exact vp_in_nI (by omega) (by omega) | (unfold vp_in; decide)), ?_⟩
            | refine ⟨(by first | exact Nat.zero_lt_one | assumption | omega), rfl, ?_⟩
            | refine ⟨⟨(by first | exact Nat.zero_lt_one | assumption | omega), rfl⟩, Nat.le_of_ble_eq_true rfl, ?_⟩
            | refine ⟨(by first | exact Nat.zero_lt_one | assumption | omega), ?_⟩
            | refine ⟨Or.inl rfl, ?_⟩
            | refine ⟨Or.inr (Or.inl rfl), ?_⟩
            | refine ⟨Or.inr (Or.inr rfl), ?_⟩
            | refine ⟨Or.inr ⟨rfl, (by first | exact Or.inl rfl | exact Or.inr rfl | assumption)⟩, ?_⟩
            | refine ⟨fun h => absurd h (by decide), fun _ => ?_⟩
            | refine ⟨fun _ => ?_, fun h => absurd h (by decide)⟩
            | refine ⟨fun h => ?_, fun h => ?_⟩
            | fail)
      · rw [if_neg p3] at T1'
        obtain ⟨rfl, rfl⟩ := Prod.mk.inj T1'
        rcases T2 with ⟨c1, -⟩ | ⟨-, c2, c3, c4⟩
        · exact absurd c1 (by decide)
        rw [if_neg (show ¬ pfx (fun j => pB a n (q.1 + j)) [110, 111, 116] 0 = ([110, 111, 116] : List Int32).length from p3)] at hX
        have hpl' : pfx (fun j => pB a n (q.1 + j)) [110, 111, 116] 0 ≤ 3 := hpl
        have hnm : ¬ nI (q.1 + pfx (fun j => pB a n (q.1 + j)) [110, 111, 116] 0) = -1 := nI_nem1 (by omega)
        rw [hXX, hX, mX_ft hnm] at hokX ⊢
        have o2 : 0 ≤ cM (zu μ 73 0 J 1) (q.1 + pfx (fun j => pB a n (q.1 + j)) [110, 111, 116] 0, nI (q.1 + pfx (fun j => pB a n (q.1 + j)) [110, 111, 116] 0)) 48 0 29 := by
          rw [cM_29]
          exact nI_pos' (by omega)
        have hS := SB _ (q.1 + pfx (fun j => pB a n (q.1 + j)) [110, 111, 116] 0, nI (q.1 + pfx (fun j => pB a n (q.1 + j)) [110, 111, 116] 0)) (mF_cM Fn) cM_28 cM_29 hokX (by rw [c4]; exact hqn) (by rw [c4]; exact ⟨rfl, fun z => absurd z hnm⟩) (fun z => by rw [c4] at z; exact absurd z hnm)
        refine zs k_Mo_readTest rfl ?_; conv => whnf
        repeat' (first
          | exact hS
          | refine br_t o2 ?_
          | (refine zs k_Mo_readTest rfl ?_; conv => whnf)
          | refine ⟨Nat.zero_lt_one, rfl, ?_⟩
          | refine ⟨rfl, ?_⟩
          | refine ⟨⟨Nat.zero_lt_one, rfl⟩, Nat.le_of_ble_eq_true rfl, ?_⟩
          | refine ⟨Nat.le_of_ble_eq_true rfl, Nat.le_of_ble_eq_true rfl, ?_⟩
          | refine ⟨(by first | exact Nat.zero_lt_one | assumption | omega), (by first | assumption | exact vp_in_nI (by omega) (by omega) | (unfold vp_in; decide)), ?_⟩
          | refine ⟨(by first | exact Nat.zero_lt_one | assumption | omega), rfl, ?_⟩
          | refine ⟨⟨(by first | exact Nat.zero_lt_one | assumption | omega), rfl⟩, Nat.le_of_ble_eq_true rfl, ?_⟩
          | refine ⟨(by first | exact Nat.zero_lt_one | assumption | omega), ?_⟩
          | refine ⟨Or.inl rfl, ?_⟩
          | refine ⟨Or.inr (Or.inl rfl), ?_⟩
          | refine ⟨Or.inr (Or.inr rfl), ?_⟩
          | refine ⟨Or.inr ⟨rfl, (by first | exact Or.inl rfl | exact Or.inr rfl | assumption)⟩, ?_⟩
          | refine ⟨fun h => absurd h (by decide), fun _ => ?_⟩
          | refine ⟨fun _ => ?_, fun h => absurd h (by decide)⟩
          | refine ⟨fun h => ?_, fun h => ?_⟩
          | fail)
    have go' : ∀ J', J' = J → zG S (d + 2) m_Mo_readTest K 36 [some (zR 48 0), some (zI (nI J)), none, none] [] (cM (zu μ 73 0 J' (vp_nar .boolean 1)) (mX a n [110, 111, 116, 32] (q.1, -1))) := fun J' hJ' => by rw [hJ']; exact go
    have E73 : mE (zu μ 73 0 (nI J).toNatClampNeg (vp_nar .boolean 1)) a n := by rw [cJ]; exact hid
    repeat' (first
      | exact go' _ cJ
      | refine c_Mo_letter E h28 (by omega) ?_
      | refine bn_f l110 ?_
      | refine br_f z73 ?_
      | refine c_Mo_expect (cs := [110, 111, 116, 32]) (q := (q.1, -1)) E73 h28 h29 hq0 rfl (by decide) (by decide) (by decide) ?_
      | (refine zs k_Mo_readTest rfl ?_; conv => whnf)
      | refine ⟨Nat.zero_lt_one, rfl, ?_⟩
      | refine ⟨rfl, ?_⟩
      | refine ⟨⟨Nat.zero_lt_one, rfl⟩, Nat.le_of_ble_eq_true rfl, ?_⟩
      | refine ⟨Nat.le_of_ble_eq_true rfl, Nat.le_of_ble_eq_true rfl, ?_⟩
      | refine ⟨(by first | exact Nat.zero_lt_one | assumption | omega), (by first | assumption | exact vp_in_nI (by omega) (by omega) | (unfold vp_in; decide)), ?_⟩
      | refine ⟨(by first | exact Nat.zero_lt_one | assumption | omega), rfl, ?_⟩
      | refine ⟨⟨(by first | exact Nat.zero_lt_one | assumption | omega), rfl⟩, Nat.le_of_ble_eq_true rfl, ?_⟩
      | refine ⟨(by first | exact Nat.zero_lt_one | assumption | omega), ?_⟩
      | refine ⟨Or.inl rfl, ?_⟩
      | refine ⟨Or.inr (Or.inl rfl), ?_⟩
      | refine ⟨Or.inr (Or.inr rfl), ?_⟩
      | refine ⟨Or.inr ⟨rfl, (by first | exact Or.inl rfl | exact Or.inr rfl | assumption)⟩, ?_⟩
      | refine ⟨fun h => absurd h (by decide), fun _ => ?_⟩
      | refine ⟨fun _ => ?_, fun h => absurd h (by decide)⟩
      | refine ⟨fun h => ?_, fun h => ?_⟩
      | fail)
