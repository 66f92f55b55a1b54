/-! MODEL: reading -/
def mE (μ : zMu) (a : Nat → Int32) (n : Nat) : Prop := μ 48 0 14 = nI n ∧ n ≤ 200 ∧ (∀ j, j < n → μ 63 0 j &&& 255 = a j) ∧ gCs μ
def qOk (q : zQ) : Prop := q.1 ≤ 1000 ∧ (q.2 = -1 ∨ ∃ p, p ≤ 2000 ∧ q.2 = nI p)
def cM (μ : zMu) (q : zQ) : zMu := zu (zu μ 48 0 28 (nI q.1)) 48 0 29 q.2
theorem cM_E {μ : zMu} {a : Nat → Int32} {n : Nat} {q : zQ} (h : mE μ a n) : mE (cM μ q) a n := h
theorem cM_28 {μ : zMu} {q : zQ} : cM μ q 48 0 28 = nI q.1 := by
  unfold cM
  rw [zu_ne (by omega), zu_eq]
theorem cM_29 {μ : zMu} {q : zQ} : cM μ q 48 0 29 = q.2 := zu_eq
theorem cM_o {μ : zMu} {q : zQ} {f i k : Nat} (h : ¬ (f = 48 ∧ i = 0 ∧ (k = 28 ∨ k = 29))) : cM μ q f i k = μ f i k := by
  unfold cM
  rw [zu_ne (by omega), zu_ne (by omega)]
theorem cM_id {μ : zMu} {q : zQ} (h1 : μ 48 0 28 = nI q.1) (h2 : μ 48 0 29 = q.2) : μ = cM μ q := by
  funext f i k
  by_cases h : f = 48 ∧ i = 0 ∧ (k = 28 ∨ k = 29)
  · obtain ⟨rfl, rfl, rfl | rfl⟩ := h
    · rw [cM_28, h1]
    · rw [cM_29, h2]
  · rw [cM_o h]
theorem cM_cM {μ : zMu} {q q' : zQ} : cM (cM μ q) q' = cM μ q' := by
  funext f i k
  by_cases h : f = 48 ∧ i = 0 ∧ (k = 28 ∨ k = 29)
  · obtain ⟨rfl, rfl, rfl | rfl⟩ := h
    · rw [cM_28, cM_28]
    · rw [cM_29, cM_29]
  · rw [cM_o h, cM_o h, cM_o h]
theorem cM_at {μ : zMu} {q : zQ} {x : Int32} {p : Nat} (hx : x = nI p) : zu (cM μ q) 48 0 28 x = cM μ (p, q.2) := by
  subst hx
  funext f i k
  by_cases h : f = 48 ∧ i = 0 ∧ (k = 28 ∨ k = 29)
  · obtain ⟨rfl, rfl, rfl | rfl⟩ := h
    · rw [zu_eq, cM_28]
    · rw [zu_ne (by omega), cM_29, cM_29]
  · rw [zu_ne (by omega), cM_o h, cM_o h]
theorem cM_fl {μ : zMu} {q : zQ} {x : Int32} : zu (cM μ q) 48 0 29 x = cM μ (q.1, x) := by
  funext f i k
  by_cases h : f = 48 ∧ i = 0 ∧ (k = 28 ∨ k = 29)
  · obtain ⟨rfl, rfl, rfl | rfl⟩ := h
    · rw [zu_ne (by omega), cM_28, cM_28]
    · rw [zu_eq, cM_29]
  · rw [zu_ne (by omega), cM_o h, cM_o h]
theorem c_Mo_letter {d n at_ : Nat} {μ : zMu} {a : Nat → Int32} {K : Option zV → zMu → Prop} (E : mE μ a n) (h28 : μ 48 0 28 = nI at_) (hat : at_ ≤ 1000) (hK : K (some (zI (pB a n at_))) μ) : Ct d m_Mo_letter [zR 48 0] μ K := by
  refine zmeet rfl (Nat.le_of_ble_eq_true rfl) (fun S => ?_)
  obtain ⟨h14, h200, h63, -⟩ := E
  unfold pB at hK
  rcases Nat.lt_or_ge at_ n with q | q
  · rw [if_pos q] at hK
    have hle : ¬ μ 48 0 14 ≤ μ 48 0 28 := by rw [h14, h28]; exact nI_ge q (by omega)
    have hv : vp_in (μ 48 0 28) 200 := by rw [h28]; exact vp_in_nI (by omega) (by omega)
    have hc : (μ 48 0 28).toNatClampNeg = at_ := by rw [h28]; exact nI_clamp (by omega)
    repeat' (first
      | refine br_f hle ?_
      | exact zKe hK (by rw [hc]; exact h63 at_ q) rfl
      | (refine zs k_Mo_letter rfl ?_; conv => whnf)
      | refine ⟨Nat.zero_lt_one, rfl, ?_⟩
      | refine ⟨rfl, ?_⟩
      | refine ⟨⟨Nat.zero_lt_one, rfl⟩, Nat.le_of_ble_eq_true rfl, ?_⟩
      | refine ⟨Nat.le_of_ble_eq_true rfl, Nat.le_of_ble_eq_true rfl, ?_⟩
      | refine ⟨(by first | exact Nat.zero_lt_one | assumption | omega), (by first | assumption | exact vp_in_nI (by omega) (by omega) | (unfold vp_in; decide)), ?_⟩
      | refine ⟨(by first | exact Nat.zero_lt_one | assumption | omega), rfl, ?_⟩
      | refine ⟨⟨(by first | exact Nat.zero_lt_one | assumption | omega), rfl⟩, Nat.le_of_ble_eq_true rfl, ?_⟩
      | refine ⟨(by first | exact Nat.zero_lt_one | assumption | omega), ?_⟩
      | refine ⟨Or.inl rfl, ?_⟩
      | refine ⟨Or.inr (Or.inl rfl), ?_⟩
      | refine ⟨Or.inr (Or.inr rfl), ?_⟩
      | refine ⟨Or.inr ⟨rfl, (by first | exact Or.inl rfl | exact Or.inr rfl | assumption)⟩, ?_⟩
      | refine ⟨fun h => absurd h (by decide), fun _ => ?_⟩
      | refine ⟨fun _ => ?_, fun h => absurd h (by decide)⟩
      | refine ⟨fun h => ?_, fun h => ?_⟩
      | fail)
  · rw [if_neg (by omega)] at hK
    have hle : μ 48 0 14 ≤ μ 48 0 28 := by rw [h14, h28]; exact nI_le q (by omega)
    repeat' (first
      | refine br_t hle ?_
      | exact hK
      | (refine zs k_Mo_letter rfl ?_; conv => whnf)
      | refine ⟨Nat.zero_lt_one, rfl, ?_⟩
      | refine ⟨rfl, ?_⟩
      | refine ⟨⟨Nat.zero_lt_one, rfl⟩, Nat.le_of_ble_eq_true rfl, ?_⟩
      | refine ⟨Nat.le_of_ble_eq_true rfl, Nat.le_of_ble_eq_true rfl, ?_⟩
      | refine ⟨(by first | exact Nat.zero_lt_one | assumption | omega), (by first | assumption | exact vp_in_nI (by omega) (by omega) | (unfold vp_in; decide)), ?_⟩
      | refine ⟨(by first | exact Nat.zero_lt_one | assumption | omega), rfl, ?_⟩
      | refine ⟨⟨(by first | exact Nat.zero_lt_one | assumption | omega), rfl⟩, Nat.le_of_ble_eq_true rfl, ?_⟩
      | refine ⟨(by first | exact Nat.zero_lt_one | assumption | omega), ?_⟩
      | refine ⟨Or.inl rfl, ?_⟩
      | refine ⟨Or.inr (Or.inl rfl), ?_⟩
      | refine ⟨Or.inr (Or.inr rfl), ?_⟩
      | refine ⟨Or.inr ⟨rfl, (by first | exact Or.inl rfl | exact Or.inr rfl | assumption)⟩, ?_⟩
      | refine ⟨fun h => absurd h (by decide), fun _ => ?_⟩
      | refine ⟨fun _ => ?_, fun h => absurd h (by decide)⟩
      | refine ⟨fun h => ?_, fun h => ?_⟩
      | fail)
theorem c_Mo_isDigit {d : Nat} {μ : zMu} {x : Int32} {K : Option zV → zMu → Prop} (h1 : 48 ≤ x ∧ x ≤ 57 → K (some (zI 1)) μ) (h0 : ¬ (48 ≤ x ∧ x ≤ 57) → K (some (zI 0)) μ) : Ct d m_Mo_isDigit [zI x] μ K := by
  refine zmeet rfl (Nat.le_of_ble_eq_true rfl) (fun S => ?_)
  repeat' (first
    | exact h0 (by grind)
    | exact h1 (by grind)
    | (refine zs k_Mo_isDigit rfl ?_; conv => whnf)
    | refine ⟨Nat.zero_lt_one, rfl, ?_⟩
    | refine ⟨rfl, ?_⟩
    | refine ⟨⟨Nat.zero_lt_one, rfl⟩, Nat.le_of_ble_eq_true rfl, ?_⟩
    | refine ⟨Nat.le_of_ble_eq_true rfl, Nat.le_of_ble_eq_true rfl, ?_⟩
    | refine ⟨(by first | exact Nat.zero_lt_one | assumption | omega), (by first | assumption | exact vp_in_nI (by omega) (by omega) | (unfold vp_in; decide)), ?_⟩
    | refine ⟨(by first | exact Nat.zero_lt_one | assumption | omega), rfl, ?_⟩
    | refine ⟨⟨(by first | exact Nat.zero_lt_one | assumption | omega), rfl⟩, Nat.le_of_ble_eq_true rfl, ?_⟩
    | refine ⟨(by first | exact Nat.zero_lt_one | assumption | omega), ?_⟩
    | refine ⟨Or.inl rfl, ?_⟩
    | refine ⟨Or.inr (Or.inl rfl), ?_⟩
    | refine ⟨Or.inr (Or.inr rfl), ?_⟩
    | refine ⟨Or.inr ⟨rfl, (by first | exact Or.inl rfl | exact Or.inr rfl | assumption)⟩, ?_⟩
    | refine ⟨fun h => absurd h (by decide), fun _ => ?_⟩
    | refine ⟨fun _ => ?_, fun h => absurd h (by decide)⟩
    | refine ⟨fun h => ?_, fun h => ?_⟩
    | fail)
theorem qOk_neg {q : zQ} (h : qOk q) : (q.2 = -1 ∧ ¬ 0 ≤ q.2) ∨ (¬ q.2 = -1 ∧ 0 ≤ q.2) := by
  rcases h.2 with e | ⟨p, hp, e⟩
  · exact Or.inl ⟨e, by rw [e]; decide⟩
  · exact Or.inr ⟨by rw [e]; exact nI_nem1 (by omega), by rw [e]; exact nI_pos' (by omega)⟩
theorem mX_ok {a : Nat → Int32} {n : Nat} (h200 : n ≤ 200) : ∀ {cs : List Int32} {q : zQ}, (∀ c ∈ cs, ¬ c = -1) → qOk q → qOk (mX a n cs q)
  | [], _, _, h => h
  | c :: cs, q, hc, h => by
    rw [mX]
    by_cases h1 : q.2 = -1
    · rw [if_pos h1]
      by_cases e : pB a n q.1 = c
      · rw [if_pos e]
        have := pB_lt (a := a) (n := n) (j := q.1) (by rw [e]; exact hc c List.mem_cons_self)
        exact mX_ok h200 (fun c' hc' => hc c' (List.mem_cons_of_mem _ hc')) ⟨by show q.1 + 1 ≤ 1000; omega, Or.inl rfl⟩
      · rw [if_neg e]
        exact ⟨h.1, Or.inr ⟨q.1, by have := h.1; omega, rfl⟩⟩
    · rw [if_neg h1]
      exact h
set_option maxHeartbeats 1000000 in
theorem c_Mo_expect {d n : Nat} {μ : zMu} {a : Nat → Int32} {cs : List Int32} {q : zQ} {x y : Int32} {K : Option zV → zMu → Prop} (E : mE μ a n) (h28 : μ 48 0 28 = nI q.1) (h29 : μ 48 0 29 = q.2) (hq : qOk q) (hx : x = nI cs.length) (h4 : cs.length ≤ 4) (hcm : ∀ c ∈ cs, ¬ c = -1) (hc : ∀ k, k < cs.length → (y >>> (8 * nI k &&& 31)) &&& 255 = cs.getD (cs.length - 1 - k) 0) (hK : K none (cM μ (mX a n cs q))) : Ct (d + 1) m_Mo_expect [zR 48 0, zI x, zI y] μ K := by
  subst hx
  refine zmeet rfl (Nat.le_of_ble_eq_true rfl) (fun S => ?_)
  have h200 := E.2.1
  generalize hQ : mX a n cs q = Q at hK
  have L : ∀ (i : Nat) (w : Int32) (q1 : zQ) (μ1 : zMu), i ≤ cs.length → w = nI i - 1 → μ1 = cM μ q1 → qOk q1 → mX a n (cs.drop (cs.length - i)) q1 = Q → zG S (d + 1) m_Mo_expect K 4 [some (zR 48 0), some (zI (nI cs.length)), some (zI y), some (zI w)] [] μ1 := by
    intro i
    induction i with
    | zero =>
      intro w q1 μ1 hi hw h1 ho hfin
      subst hw h1
      rw [Nat.sub_zero, List.drop_length] at hfin
      have hfin : q1 = Q := hfin
      refine zs k_Mo_expect rfl ?_; conv => whnf
      repeat' (first
        | refine br_t (show (nI 0 - 1 : Int32) < 0 by decide) ?_
        | exact zKn hK (by rw [hfin])
        | (refine zs k_Mo_expect rfl ?_; conv => whnf)
        | refine ⟨Nat.zero_lt_one, rfl, ?_⟩
        | refine ⟨rfl, ?_⟩
        | refine ⟨⟨Nat.zero_lt_one, rfl⟩, Nat.le_of_ble_eq_true rfl, ?_⟩
        | refine ⟨Nat.le_of_ble_eq_true rfl, Nat.le_of_ble_eq_true rfl, ?_⟩
        | refine ⟨(by first | exact Nat.zero_lt_one | assumption | omega), (by first | assumption | exact vp_in_nI (by omega) (by omega) | (unfold vp_in; decide)), ?_⟩
        | refine ⟨(by first | exact Nat.zero_lt_one | assumption | omega), rfl, ?_⟩
        | refine ⟨⟨(by first | exact Nat.zero_lt_one | assumption | omega), rfl⟩, Nat.le_of_ble_eq_true rfl, ?_⟩
        | refine ⟨(by first | exact Nat.zero_lt_one | assumption | omega), ?_⟩
        | refine ⟨Or.inl rfl, ?_⟩
        | refine ⟨Or.inr (Or.inl rfl), ?_⟩
        | refine ⟨Or.inr (Or.inr rfl), ?_⟩
        | refine ⟨Or.inr ⟨rfl, (by first | exact Or.inl rfl | exact Or.inr rfl | assumption)⟩, ?_⟩
        | refine ⟨fun h => absurd h (by decide), fun _ => ?_⟩
        | refine ⟨fun _ => ?_, fun h => absurd h (by decide)⟩
        | refine ⟨fun h => ?_, fun h => ?_⟩
        | fail)
    | succ i ih =>
      intro w q1 μ1 hi hw h1 ho hfin
      subst hw
      rw [nI_pred]
      have a28 : μ1 48 0 28 = nI q1.1 := by rw [h1]; exact cM_28
      have a29 : μ1 48 0 29 = q1.2 := by rw [h1]; exact cM_29
      have E1 : mE μ1 a n := by rw [h1]; exact cM_E E
      rcases qOk_neg ho with ⟨o1, o2⟩ | ⟨o1, o2⟩
      case inr =>
        rw [mX_ft o1] at hfin
        have o2' : 0 ≤ μ1 48 0 29 := by rw [a29]; exact o2
        refine zs k_Mo_expect rfl ?_; conv => whnf
        repeat' (first
          | refine br_f (nI_pos (by omega)) ?_
          | refine br_t o2' ?_
          | exact zKn hK (by rw [h1, hfin])
          | (refine zs k_Mo_expect rfl ?_; conv => whnf)
          | refine ⟨Nat.zero_lt_one, rfl, ?_⟩
          | refine ⟨rfl, ?_⟩
          | refine ⟨⟨Nat.zero_lt_one, rfl⟩, Nat.le_of_ble_eq_true rfl, ?_⟩
          | refine ⟨Nat.le_of_ble_eq_true rfl, Nat.le_of_ble_eq_true rfl, ?_⟩
          | refine ⟨(by first | exact Nat.zero_lt_one | assumption | omega), (by first | assumption | exact vp_in_nI (by omega) (by omega) | (unfold vp_in; decide)), ?_⟩
          | refine ⟨(by first | exact Nat.zero_lt_one | assumption | omega), rfl, ?_⟩
          | refine ⟨⟨(by first | exact Nat.zero_lt_one | assumption | omega), rfl⟩, Nat.le_of_ble_eq_true rfl, ?_⟩
          | refine ⟨(by first | exact Nat.zero_lt_one | assumption | omega), ?_⟩
          | refine ⟨Or.inl rfl, ?_⟩
          | refine ⟨Or.inr (Or.inl rfl), ?_⟩
          | refine ⟨Or.inr (Or.inr rfl), ?_⟩
          | refine ⟨Or.inr ⟨rfl, (by first | exact Or.inl rfl | exact Or.inr rfl | assumption)⟩, ?_⟩
          | refine ⟨fun h => absurd h (by decide), fun _ => ?_⟩
          | refine ⟨fun _ => ?_, fun h => absurd h (by decide)⟩
          | refine ⟨fun h => ?_, fun h => ?_⟩
          | fail)
      have o2' : ¬ 0 ≤ μ1 48 0 29 := by rw [a29]; exact o2
      have hd : cs.drop (cs.length - (i + 1)) = cs.getD (cs.length - 1 - i) 0 :: cs.drop (cs.length - i) := by
        rw [List.drop_eq_getElem_cons (show cs.length - (i + 1) < cs.length by omega), show cs.length - (i + 1) + 1 = cs.length - i by omega]
        congr 1
        rw [List.getD_eq_getElem?_getD, show cs.length - 1 - i = cs.length - (i + 1) by omega, List.getElem?_eq_getElem (show cs.length - (i + 1) < cs.length by omega)]
        rfl
      rw [hd, mX, if_pos o1] at hfin
      have hch := hc i (by omega)
      by_cases e : pB a n q1.1 = cs.getD (cs.length - 1 - i) 0
      · rw [if_pos e] at hfin
        have e' : pB a n q1.1 = (y >>> (8 * nI i &&& 31)) &&& 255 := e.trans hch.symm
        have hlt := pB_lt (a := a) (n := n) (j := q1.1) (by
          rw [e]
          refine hcm _ ?_
          rw [List.getD_eq_getElem?_getD, List.getElem?_eq_getElem (show cs.length - 1 - i < cs.length by omega)]
          exact List.getElem_mem _)
        refine zs k_Mo_expect rfl ?_; conv => whnf
        repeat' (first
          | refine br_f (nI_pos (by omega)) ?_
          | refine br_f o2' ?_
          | refine c_Mo_letter E1 a28 ho.1 ?_
          | refine br_t e' ?_
          | refine ih _ (q1.1 + 1, -1) _ (by omega) (by exact i32_m1 _) ?_ ⟨by show q1.1 + 1 ≤ 1000; omega, Or.inl rfl⟩ hfin
          | (refine zs k_Mo_expect rfl ?_; conv => whnf)
          | refine ⟨Nat.zero_lt_one, rfl, ?_⟩
          | refine ⟨rfl, ?_⟩
          | refine ⟨⟨Nat.zero_lt_one, rfl⟩, Nat.le_of_ble_eq_true rfl, ?_⟩
          | refine ⟨Nat.le_of_ble_eq_true rfl, Nat.le_of_ble_eq_true rfl, ?_⟩
          | refine ⟨(by first | exact Nat.zero_lt_one | assumption | omega), (by first | assumption | exact vp_in_nI (by omega) (by omega) | (unfold vp_in; decide)), ?_⟩
          | refine ⟨(by first | exact Nat.zero_lt_one | assumption | omega), rfl, ?_⟩
          | refine ⟨⟨(by first | exact Nat.zero_lt_one | assumption | omega), rfl⟩, Nat.le_of_ble_eq_true rfl, ?_⟩
          | refine ⟨(by first | exact Nat.zero_lt_one | assumption | omega), ?_⟩
          | refine ⟨Or.inl rfl, ?_⟩
          | refine ⟨Or.inr (Or.inl rfl), ?_⟩
          | refine ⟨Or.inr (Or.inr rfl), ?_⟩
          | refine ⟨Or.inr ⟨rfl, (by first | exact Or.inl rfl | exact Or.inr rfl | assumption)⟩, ?_⟩
          | refine ⟨fun h => absurd h (by decide), fun _ => ?_⟩
          | refine ⟨fun _ => ?_, fun h => absurd h (by decide)⟩
          | refine ⟨fun h => ?_, fun h => ?_⟩
          | fail)
        rw [h1, cM_at (p := q1.1 + 1) (by rw [cM_28, nI_1]), o1]
      · rw [if_neg e] at hfin
        have e' : ¬ pB a n q1.1 = (y >>> (8 * nI i &&& 31)) &&& 255 := by rw [hch]; exact e
        refine zs k_Mo_expect rfl ?_; conv => whnf
        repeat' (first
          | refine br_f (nI_pos (by omega)) ?_
          | refine br_f o2' ?_
          | refine c_Mo_letter E1 a28 ho.1 ?_
          | refine br_f e' ?_
          | refine ih _ (q1.1, nI q1.1) _ (by omega) (by exact i32_m1 _) ?_ ⟨ho.1, Or.inr ⟨q1.1, by have := ho.1; omega, rfl⟩⟩ (by rw [mX_ft (nI_nem1 (show q1.1 < 2 ^ 31 by have := ho.1; omega))]; exact hfin)
          | (refine zs k_Mo_expect rfl ?_; conv => whnf)
          | refine ⟨Nat.zero_lt_one, rfl, ?_⟩
          | refine ⟨rfl, ?_⟩
          | refine ⟨⟨Nat.zero_lt_one, rfl⟩, Nat.le_of_ble_eq_true rfl, ?_⟩
          | refine ⟨Nat.le_of_ble_eq_true rfl, Nat.le_of_ble_eq_true rfl, ?_⟩
          | refine ⟨(by first | exact Nat.zero_lt_one | assumption | omega), (by first | assumption | exact vp_in_nI (by omega) (by omega) | (unfold vp_in; decide)), ?_⟩
          | refine ⟨(by first | exact Nat.zero_lt_one | assumption | omega), rfl, ?_⟩
          | refine ⟨⟨(by first | exact Nat.zero_lt_one | assumption | omega), rfl⟩, Nat.le_of_ble_eq_true rfl, ?_⟩
          | refine ⟨(by first | exact Nat.zero_lt_one | assumption | omega), ?_⟩
          | refine ⟨Or.inl rfl, ?_⟩
          | refine ⟨Or.inr (Or.inl rfl), ?_⟩
          | refine ⟨Or.inr (Or.inr rfl), ?_⟩
          | refine ⟨Or.inr ⟨rfl, (by first | exact Or.inl rfl | exact Or.inr rfl | assumption)⟩, ?_⟩
          | refine ⟨fun h => absurd h (by decide), fun _ => ?_⟩
          | refine ⟨fun _ => ?_, fun h => absurd h (by decide)⟩
          | refine ⟨fun h => ?_, fun h => ?_⟩
          | fail)
        rw [h1, cM_fl, cM_28]
  repeat' (first
    | refine L cs.length _ q _ (Nat.le_refl _) rfl (cM_id h28 h29) hq (by rw [Nat.sub_self]; exact hQ)
    | (refine zs k_Mo_expect rfl ?_; conv => whnf)
    | refine ⟨Nat.zero_lt_one, rfl, ?_⟩
    | refine ⟨rfl, ?_⟩
    | refine ⟨⟨Nat.zero_lt_one, rfl⟩, Nat.le_of_ble_eq_true rfl, ?_⟩
    | refine ⟨Nat.le_of_ble_eq_true rfl, Nat.le_of_ble_eq_true rfl, ?_⟩
    | refine ⟨(by first | exact Nat.zero_lt_one | assumption | omega), (by first | assumption | exact vp_in_nI (by omega) (by omega) | (unfold vp_in; decide)), ?_⟩
    | refine ⟨(by first | exact Nat.zero_lt_one | assumption | omega), rfl, ?_⟩
    | refine ⟨⟨(by first | exact Nat.zero_lt_one | assumption | omega), rfl⟩, Nat.le_of_ble_eq_true rfl, ?_⟩
    | refine ⟨(by first | exact Nat.zero_lt_one | assumption | omega), ?_⟩
    | refine ⟨Or.inl rfl, ?_⟩
    | refine ⟨Or.inr (Or.inl rfl), ?_⟩
    | refine ⟨Or.inr (Or.inr rfl), ?_⟩
    | refine ⟨Or.inr ⟨rfl, (by first | exact Or.inl rfl | exact Or.inr rfl | assumption)⟩, ?_⟩
    | refine ⟨fun h => absurd h (by decide), fun _ => ?_⟩
    | refine ⟨fun _ => ?_, fun h => absurd h (by decide)⟩
    | refine ⟨fun h => ?_, fun h => ?_⟩
    | fail)
/-- of two, of three bytes one -/
def mOne (a : Nat → Int32) (n : Nat) (cs : List Int32) (at_ : Nat) : Nat × zQ := if pB a n at_ = cs.getD 0 0 then (0, at_ + 1, -1) else if pB a n at_ = cs.getD 1 0 then (1, at_ + 1, -1) else if 2 < cs.length ∧ pB a n at_ = cs.getD 2 0 then (2, at_ + 1, -1) else (0, at_, nI at_)
theorem mOne_2 {a : Nat → Int32} {n at_ : Nat} : mOne a n [97, 98] at_ = if pB a n at_ = 97 then (0, at_ + 1, -1) else if pB a n at_ = 98 then (1, at_ + 1, -1) else if 2 < ([97, 98] : List Int32).length ∧ pB a n at_ = ([97, 98] : List Int32).getD 2 0 then (2, at_ + 1, -1) else (0, at_, nI at_) := rfl
theorem mOne_3 {a : Nat → Int32} {n at_ : Nat} : mOne a n [61, 60, 62] at_ = if pB a n at_ = 61 then (0, at_ + 1, -1) else if pB a n at_ = 60 then (1, at_ + 1, -1) else if 2 < ([61, 60, 62] : List Int32).length ∧ pB a n at_ = 62 then (2, at_ + 1, -1) else (0, at_, nI at_) := rfl
set_option maxHeartbeats 1000000 in
theorem c_Mo_one2 {d n at_ : Nat} {μ : zMu} {a : Nat → Int32} {K : Option zV → zMu → Prop} (E : mE μ a n) (h28 : μ 48 0 28 = nI at_) (h29 : μ 48 0 29 = -1) (hat : at_ ≤ 1000) (hK : K (some (zI (nI (mOne a n [97, 98] at_).1))) (cM μ (mOne a n [97, 98] at_).2)) : Ct (d + 1) m_Mo_oneOf [zR 48 0, zI 2, zI 24930] μ K := by
  refine zmeet rfl (Nat.le_of_ble_eq_true rfl) (fun S => ?_)
  have e0 : ((24930 : Int32) >>> (8 * (2 - 1 - 0) &&& 31)) &&& 255 = 97 := by decide
  have e1 : ((24930 : Int32) >>> (8 * (2 - 1 - (0 + 1)) &&& 31)) &&& 255 = 98 := by decide
  have hid := cM_id (q := (at_, -1)) h28 h29
  rw [mOne_2] at hK
  by_cases l0 : pB a n at_ = 97
  · rw [if_pos l0] at hK
    have f0 : pB a n at_ = ((24930 : Int32) >>> (8 * (2 - 1 - 0) &&& 31)) &&& 255 := l0.trans e0.symm
    have f1 : ¬ pB a n at_ = ((24930 : Int32) >>> (8 * (2 - 1 - (0 + 1)) &&& 31)) &&& 255 := by rw [e1, l0]; decide
    repeat' (first
      | refine c_Mo_letter E h28 hat ?_
      | refine bn_f f0 ?_
      | refine bn_t f1 ?_
      | refine br_f (show ¬ (2 : Int32) ≤ 0 by decide) ?_
      | refine br_f (show ¬ (2 : Int32) ≤ 0 + 1 by decide) ?_
      | refine br_t (show (2 : Int32) ≤ 0 + 1 + 1 by decide) ?_
      | exact zKe hK rfl (by rw [h28, nI_1]; conv => lhs; rw [hid, cM_at rfl])
      | (refine zs k_Mo_oneOf rfl ?_; conv => whnf)
      | refine ⟨Nat.zero_lt_one, rfl, ?_⟩
      | refine ⟨rfl, ?_⟩
      | refine ⟨⟨Nat.zero_lt_one, rfl⟩, Nat.le_of_ble_eq_true rfl, ?_⟩
      | refine ⟨Nat.le_of_ble_eq_true rfl, Nat.le_of_ble_eq_true rfl, ?_⟩
      | refine ⟨(by first | exact Nat.zero_lt_one | assumption | omega), (by first | assumption | exact vp_in_nI (by omega) (by omega) | (unfold vp_in; decide)), ?_⟩
      | refine ⟨(by first | exact Nat.zero_lt_one | assumption | omega), rfl, ?_⟩
      | refine ⟨⟨(by first | exact Nat.zero_lt_one | assumption | omega), rfl⟩, Nat.le_of_ble_eq_true rfl, ?_⟩
      | refine ⟨(by first | exact Nat.zero_lt_one | assumption | omega), ?_⟩
      | refine ⟨Or.inl rfl, ?_⟩
      | refine ⟨Or.inr (Or.inl rfl), ?_⟩
      | refine ⟨Or.inr (Or.inr rfl), ?_⟩
      | refine ⟨Or.inr ⟨rfl, (by first | exact Or.inl rfl | exact Or.inr rfl | assumption)⟩, ?_⟩
      | refine ⟨fun h => absurd h (by decide), fun _ => ?_⟩
      | refine ⟨fun _ => ?_, fun h => absurd h (by decide)⟩
      | refine ⟨fun h => ?_, fun h => ?_⟩
      | fail)
  · rw [if_neg l0] at hK
    have f0 : ¬ pB a n at_ = ((24930 : Int32) >>> (8 * (2 - 1 - 0) &&& 31)) &&& 255 := by rw [e0]; exact l0
    by_cases l1 : pB a n at_ = 98
    · rw [if_pos l1] at hK
      have f1 : pB a n at_ = ((24930 : Int32) >>> (8 * (2 - 1 - (0 + 1)) &&& 31)) &&& 255 := l1.trans e1.symm
      repeat' (first
        | refine c_Mo_letter E h28 hat ?_
        | refine bn_t f0 ?_
        | refine bn_f f1 ?_
        | refine br_f (show ¬ (2 : Int32) ≤ 0 by decide) ?_
        | refine br_f (show ¬ (2 : Int32) ≤ 0 + 1 by decide) ?_
        | refine br_t (show (2 : Int32) ≤ 0 + 1 + 1 by decide) ?_
        | exact zKe hK rfl (by rw [h28, nI_1]; conv => lhs; rw [hid, cM_at rfl])
        | (refine zs k_Mo_oneOf rfl ?_; conv => whnf)
        | refine ⟨Nat.zero_lt_one, rfl, ?_⟩
        | refine ⟨rfl, ?_⟩
        | refine ⟨⟨Nat.zero_lt_one, rfl⟩, Nat.le_of_ble_eq_true rfl, ?_⟩
        | refine ⟨Nat.le_of_ble_eq_true rfl, Nat.le_of_ble_eq_true rfl, ?_⟩
        | refine ⟨(by first | exact Nat.zero_lt_one | assumption | omega), (by first | assumption | exact vp_in_nI (by omega) (by omega) | (unfold vp_in; decide)), ?_⟩
        | refine ⟨(by first | exact Nat.zero_lt_one | assumption | omega), rfl, ?_⟩
        | refine ⟨⟨(by first | exact Nat.zero_lt_one | assumption | omega), rfl⟩, Nat.le_of_ble_eq_true rfl, ?_⟩
        | refine ⟨(by first | exact Nat.zero_lt_one | assumption | omega), ?_⟩
        | refine ⟨Or.inl rfl, ?_⟩
        | refine ⟨Or.inr (Or.inl rfl), ?_⟩
        | refine ⟨Or.inr (Or.inr rfl), ?_⟩
        | refine ⟨Or.inr ⟨rfl, (by first | exact Or.inl rfl | exact Or.inr rfl | assumption)⟩, ?_⟩
        | refine ⟨fun h => absurd h (by decide), fun _ => ?_⟩
        | refine ⟨fun _ => ?_, fun h => absurd h (by decide)⟩
        | refine ⟨fun h => ?_, fun h => ?_⟩
        | fail)
    · rw [if_neg l1, if_neg (fun q => absurd q.1 (by decide))] at hK
      have f1 : ¬ pB a n at_ = ((24930 : Int32) >>> (8 * (2 - 1 - (0 + 1)) &&& 31)) &&& 255 := by rw [e1]; exact l1
      repeat' (first
        | refine c_Mo_letter E h28 hat ?_
        | refine bn_t f0 ?_
        | refine bn_t f1 ?_
        | refine br_f (show ¬ (2 : Int32) ≤ 0 by decide) ?_
        | refine br_f (show ¬ (2 : Int32) ≤ 0 + 1 by decide) ?_
        | refine br_t (show (2 : Int32) ≤ 0 + 1 + 1 by decide) ?_
        | exact zKe hK rfl (by rw [h28]; conv => lhs; rw [hid, cM_fl])
        | (refine zs k_Mo_oneOf rfl ?_; conv => whnf)
        | refine ⟨Nat.zero_lt_one, rfl, ?_⟩
        | refine ⟨rfl, ?_⟩
        | refine ⟨⟨Nat.zero_lt_one, rfl⟩, Nat.le_of_ble_eq_true rfl, ?_⟩
        | refine ⟨Nat.le_of_ble_eq_true rfl, Nat.le_of_ble_eq_true rfl, ?_⟩
        | refine ⟨(by first | exact Nat.zero_lt_one | assumption | omega), (by first | assumption | exact vp_in_nI (by omega) (by omega) | (unfold vp_in; decide)), ?_⟩
        | refine ⟨(by first | exact Nat.zero_lt_one | assumption | omega), rfl, ?_⟩
        | refine ⟨⟨(by first | exact Nat.zero_lt_one | assumption | omega), rfl⟩, Nat.le_of_ble_eq_true rfl, ?_⟩
        | refine ⟨(by first | exact Nat.zero_lt_one | assumption | omega), ?_⟩
        | refine ⟨Or.inl rfl, ?_⟩
        | refine ⟨Or.inr (Or.inl rfl), ?_⟩
        | refine ⟨Or.inr (Or.inr rfl), ?_⟩
        | refine ⟨Or.inr ⟨rfl, (by first | exact Or.inl rfl | exact Or.inr rfl | assumption)⟩, ?_⟩
        | refine ⟨fun h => absurd h (by decide), fun _ => ?_⟩
        | refine ⟨fun _ => ?_, fun h => absurd h (by decide)⟩
        | refine ⟨fun h => ?_, fun h => ?_⟩
        | fail)
set_option maxHeartbeats 1000000 in
theorem c_Mo_one3 {d n at_ : Nat} {μ : zMu} {a : Nat → Int32} {K : Option zV → zMu → Prop} (E : mE μ a n) (h28 : μ 48 0 28 = nI at_) (h29 : μ 48 0 29 = -1) (hat : at_ ≤ 1000) (hK : K (some (zI (nI (mOne a n [61, 60, 62] at_).1))) (cM μ (mOne a n [61, 60, 62] at_).2)) : Ct (d + 1) m_Mo_oneOf [zR 48 0, zI 3, zI 4013118] μ K := by
  refine zmeet rfl (Nat.le_of_ble_eq_true rfl) (fun S => ?_)
  have e0 : ((4013118 : Int32) >>> (8 * (3 - 1 - 0) &&& 31)) &&& 255 = 61 := by decide
  have e1 : ((4013118 : Int32) >>> (8 * (3 - 1 - (0 + 1)) &&& 31)) &&& 255 = 60 := by decide
  have e2 : ((4013118 : Int32) >>> (8 * (3 - 1 - (0 + 1 + 1)) &&& 31)) &&& 255 = 62 := by decide
  have hid := cM_id (q := (at_, -1)) h28 h29
  rw [mOne_3] at hK
  generalize hl : pB a n at_ = l at hK
  have n0 : ∀ c : Int32, (l = ((4013118 : Int32) >>> (8 * (3 - 1 - 0) &&& 31)) &&& 255 ↔ l = 61) := fun _ => by rw [e0]
  have n1 : ∀ c : Int32, (l = ((4013118 : Int32) >>> (8 * (3 - 1 - (0 + 1)) &&& 31)) &&& 255 ↔ l = 60) := fun _ => by rw [e1]
  have n2 : ∀ c : Int32, (l = ((4013118 : Int32) >>> (8 * (3 - 1 - (0 + 1 + 1)) &&& 31)) &&& 255 ↔ l = 62) := fun _ => by rw [e2]
  have k0 : ¬ (3 : Int32) ≤ 0 := by decide
  have k1 : ¬ (3 : Int32) ≤ 0 + 1 := by decide
  have k2 : ¬ (3 : Int32) ≤ 0 + 1 + 1 := by decide
  have k3 : (3 : Int32) ≤ 0 + 1 + 1 + 1 := by decide
  by_cases l0 : l = 61
  · rw [if_pos l0] at hK
    have f0 := (n0 0).mpr l0
    have f1 : ¬ l = ((4013118 : Int32) >>> (8 * (3 - 1 - (0 + 1)) &&& 31)) &&& 255 := by rw [e1, l0]; decide
    have f2 : ¬ l = ((4013118 : Int32) >>> (8 * (3 - 1 - (0 + 1 + 1)) &&& 31)) &&& 255 := by rw [e2, l0]; decide
    rw [← hl] at f0 f1 f2
    repeat' (first
      | refine c_Mo_letter E h28 hat ?_
      | refine bn_f f0 ?_
      | refine bn_t f1 ?_
      | refine bn_t f2 ?_
      | refine br_f k0 ?_
      | refine br_f k1 ?_
      | refine br_f k2 ?_
      | refine br_t k3 ?_
      | exact zKe hK rfl (by rw [h28, nI_1]; conv => lhs; rw [hid, cM_at rfl])
      | (refine zs k_Mo_oneOf rfl ?_; conv => whnf)
      | refine ⟨Nat.zero_lt_one, rfl, ?_⟩
      | refine ⟨rfl, ?_⟩
      | refine ⟨⟨Nat.zero_lt_one, rfl⟩, Nat.le_of_ble_eq_true rfl, ?_⟩
      | refine ⟨Nat.le_of_ble_eq_true rfl, Nat.le_of_ble_eq_true rfl, ?_⟩
      | refine ⟨(by first | exact Nat.zero_lt_one | assumption | omega), (by first | assumption | exact vp_in_nI (by omega) (by omega) | (unfold vp_in; decide)), ?_⟩
      | refine ⟨(by first | exact Nat.zero_lt_one | assumption | omega), rfl, ?_⟩
      | refine ⟨⟨(by first | exact Nat.zero_lt_one | assumption | omega), rfl⟩, Nat.le_of_ble_eq_true rfl, ?_⟩
      | refine ⟨(by first | exact Nat.zero_lt_one | assumption | omega), ?_⟩
      | refine ⟨Or.inl rfl, ?_⟩
      | refine ⟨Or.inr (Or.inl rfl), ?_⟩
      | refine ⟨Or.inr (Or.inr rfl), ?_⟩
      | refine ⟨Or.inr ⟨rfl, (by first | exact Or.inl rfl | exact Or.inr rfl | assumption)⟩, ?_⟩
      | refine ⟨fun h => absurd h (by decide), fun _ => ?_⟩
      | refine ⟨fun _ => ?_, fun h => absurd h (by decide)⟩
      | refine ⟨fun h => ?_, fun h => ?_⟩
      | fail)
  · rw [if_neg l0] at hK
    have f0 : ¬ l = ((4013118 : Int32) >>> (8 * (3 - 1 - 0) &&& 31)) &&& 255 := by rw [e0]; exact l0
    by_cases l1 : l = 60
    · rw [if_pos l1] at hK
      have f1 := (n1 0).mpr l1
      have f2 : ¬ l = ((4013118 : Int32) >>> (8 * (3 - 1 - (0 + 1 + 1)) &&& 31)) &&& 255 := by rw [e2, l1]; decide
      rw [← hl] at f0 f1 f2
      repeat' (first
        | refine c_Mo_letter E h28 hat ?_
        | refine bn_t f0 ?_
        | refine bn_f f1 ?_
        | refine bn_t f2 ?_
        | refine br_f k0 ?_
        | refine br_f k1 ?_
        | refine br_f k2 ?_
        | refine br_t k3 ?_
        | exact zKe hK rfl (by rw [h28, nI_1]; conv => lhs; rw [hid, cM_at rfl])
        | (refine zs k_Mo_oneOf rfl ?_; conv => whnf)
        | refine ⟨Nat.zero_lt_one, rfl, ?_⟩
        | refine ⟨rfl, ?_⟩
        | refine ⟨⟨Nat.zero_lt_one, rfl⟩, Nat.le_of_ble_eq_true rfl, ?_⟩
        | refine ⟨Nat.le_of_ble_eq_true rfl, Nat.le_of_ble_eq_true rfl, ?_⟩
        | refine ⟨(by first | exact Nat.zero_lt_one | assumption | omega), (by first | assumption | exact vp_in_nI (by omega) (by omega) | (unfold vp_in; decide)), ?_⟩
        | refine ⟨(by first | exact Nat.zero_lt_one | assumption | omega), rfl, ?_⟩
        | refine ⟨⟨(by first | exact Nat.zero_lt_one | assumption | omega), rfl⟩, Nat.le_of_ble_eq_true rfl, ?_⟩
        | refine ⟨(by first | exact Nat.zero_lt_one | assumption | omega), ?_⟩
        | refine ⟨Or.inl rfl, ?_⟩
        | refine ⟨Or.inr (Or.inl rfl), ?_⟩
        | refine ⟨Or.inr (Or.inr rfl), ?_⟩
        | refine ⟨Or.inr ⟨rfl, (by first | exact Or.inl rfl | exact Or.inr rfl | assumption)⟩, ?_⟩
        | refine ⟨fun h => absurd h (by decide), fun _ => ?_⟩
        | refine ⟨fun _ => ?_, fun h => absurd h (by decide)⟩
        | refine ⟨fun h => ?_, fun h => ?_⟩
        | fail)
    · rw [if_neg l1] at hK
      have f1 : ¬ l = ((4013118 : Int32) >>> (8 * (3 - 1 - (0 + 1)) &&& 31)) &&& 255 := by rw [e1]; exact l1
      by_cases l2 : l = 62
      · rw [if_pos ⟨by decide, l2⟩] at hK
        have f2 := (n2 0).mpr l2
        rw [← hl] at f0 f1 f2
        repeat' (first
          | refine c_Mo_letter E h28 hat ?_
          | refine bn_t f0 ?_
          | refine bn_t f1 ?_
          | refine bn_f f2 ?_
          | refine br_f k0 ?_
          | refine br_f k1 ?_
          | refine br_f k2 ?_
          | refine br_t k3 ?_
          | exact zKe hK rfl (by rw [h28, nI_1]; conv => lhs; rw [hid, cM_at rfl])
          | (refine zs k_Mo_oneOf rfl ?_; conv => whnf)
          | refine ⟨Nat.zero_lt_one, rfl, ?_⟩
          | refine ⟨rfl, ?_⟩
          | refine ⟨⟨Nat.zero_lt_one, rfl⟩, Nat.le_of_ble_eq_true rfl, ?_⟩
          | refine ⟨Nat.le_of_ble_eq_true rfl, Nat.le_of_ble_eq_true rfl, ?_⟩
          | refine ⟨(by first | exact Nat.zero_lt_one | assumption | omega), (by first | assumption | exact vp_in_nI (by omega) (by omega) | (unfold vp_in; decide)), ?_⟩
          | refine ⟨(by first | exact Nat.zero_lt_one | assumption | omega), rfl, ?_⟩
          | refine ⟨⟨(by first | exact Nat.zero_lt_one | assumption | omega), rfl⟩, Nat.le_of_ble_eq_true rfl, ?_⟩
          | refine ⟨(by first | exact Nat.zero_lt_one | assumption | omega), ?_⟩
          | refine ⟨Or.inl rfl, ?_⟩
          | refine ⟨Or.inr (Or.inl rfl), ?_⟩
          | refine ⟨Or.inr (Or.inr rfl), ?_⟩
          | refine ⟨Or.inr ⟨rfl, (by first | exact Or.inl rfl | exact Or.inr rfl | assumption)⟩, ?_⟩
          | refine ⟨fun h => absurd h (by decide), fun _ => ?_⟩
          | refine ⟨fun _ => ?_, fun h => absurd h (by decide)⟩
          | refine ⟨fun h => ?_, fun h => ?_⟩
          | fail)
      · rw [if_neg (fun q => l2 q.2)] at hK
        have f2 : ¬ l = ((4013118 : Int32) >>> (8 * (3 - 1 - (0 + 1 + 1)) &&& 31)) &&& 255 := by rw [e2]; exact l2
        rw [← hl] at f0 f1 f2
        repeat' (first
          | refine c_Mo_letter E h28 hat ?_
          | refine bn_t f0 ?_
          | refine bn_t f1 ?_
          | refine bn_t f2 ?_
          | refine br_f k0 ?_
          | refine br_f k1 ?_
          | refine br_f k2 ?_
          | refine br_t k3 ?_
          | exact zKe hK rfl (by rw [h28]; conv => lhs; rw [hid, cM_fl])
          | (refine zs k_Mo_oneOf rfl ?_; conv => whnf)
          | refine ⟨Nat.zero_lt_one, rfl, ?_⟩
          | refine ⟨rfl, ?_⟩
          | refine ⟨⟨Nat.zero_lt_one, rfl⟩, Nat.le_of_ble_eq_true rfl, ?_⟩
          | refine ⟨Nat.le_of_ble_eq_true rfl, Nat.le_of_ble_eq_true rfl, ?_⟩
          | refine ⟨(by first | exact Nat.zero_lt_one | assumption | omega), (by first | assumption | exact vp_in_nI (by omega) (by omega) | (unfold vp_in; decide)), ?_⟩
          | refine ⟨(by first | exact Nat.zero_lt_one | assumption | omega), rfl, ?_⟩
          | refine ⟨⟨(by first | exact Nat.zero_lt_one | assumption | omega), rfl⟩, Nat.le_of_ble_eq_true rfl, ?_⟩
          | refine ⟨(by first | exact Nat.zero_lt_one | assumption | omega), ?_⟩
          | refine ⟨Or.inl rfl, ?_⟩
          | refine ⟨Or.inr (Or.inl rfl), ?_⟩
          | refine ⟨Or.inr (Or.inr rfl), ?_⟩
          | refine ⟨Or.inr ⟨rfl, (by first | exact Or.inl rfl | exact Or.inr rfl | assumption)⟩, ?_⟩
          | refine ⟨fun h => absurd h (by decide), fun _ => ?_⟩
          | refine ⟨fun _ => ?_, fun h => absurd h (by decide)⟩
          | refine ⟨fun h => ?_, fun h => ?_⟩
          | fail)
theorem zWf_tab : ∀ w, w < 7 → gBeg.getD w 0 = nI (gBeg.getD w 0).toNatClampNeg ∧ gLon.getD w 0 = nI (zWf.getD w []).length ∧ (gBeg.getD w 0).toNatClampNeg + (zWf.getD w []).length ≤ 33 ∧ ∀ j, j < 6 → j < (zWf.getD w []).length → (zWf.getD w [])[j]? = some (gLet.getD ((gBeg.getD w 0).toNatClampNeg + j) 0) := by decide +kernel
set_option maxHeartbeats 2000000 in
theorem c_Mo_word {d n at_ m : Nat} {μ : zMu} {a : Nat → Int32} {x : Int32} {K : Option zV → zMu → Prop} (E : mE μ a n) (h28 : μ 48 0 28 = nI at_) (h29 : μ 48 0 29 = -1) (hat : at_ ≤ n) (hm0 : 0 < m) (hm7 : m ≤ 7) (hx : x = nI m) (h1 : ∀ i L, wL (fun j => pB a n (at_ + j)) (zWf.take m) 0 0 = .inl (i, L) → K (some (zI (nI i))) (cM μ (at_ + L, -1))) (h0 : ∀ i L, wL (fun j => pB a n (at_ + j)) (zWf.take m) 0 0 = .inr L → K (some (zI (nI i))) (cM μ (at_ + L, nI (at_ + L)))) : Ct d m_Mo_word [zR 48 0, zI x] μ K := by
  subst hx
  refine zmeet rfl (Nat.le_of_ble_eq_true rfl) (fun S => ?_)
  obtain ⟨h14, h200, h63, c80, c81, c82⟩ := id E
  have hid := cM_id (q := (at_, -1)) h28 h29
  generalize hb : (fun j => pB a n (at_ + j)) = b at h1 h0
  have hpf : ∀ i, i < 7 → pfx b (zWf.getD i []) 0 ≤ 6 := fun i hi => Nat.le_trans pfx_le (zWf_len i hi).2
  -- the end
  have E1 : ∀ (l6 : Option zV) (bs lg : Int32), (lg, bs) = ((mbl (fun j => pfx b (zWf.getD j []) 0) m).1, nI (mbl (fun j => pfx b (zWf.getD j []) 0) m).2) → zG S d m_Mo_word K 102 [some (zR 48 0), some (zI (nI m)), some (zI (nI at_)), some (zI bs), some (zI lg), some (zI (nI m)), l6] [] μ := by
    intro l6 bs lg he
    have he1 := congrArg Prod.fst he
    have he2 := congrArg Prod.snd he
    dsimp only at he1 he2
    cases hw : wL b (zWf.take m) 0 0 with
    | inl r =>
      obtain ⟨i, L⟩ := r
      obtain ⟨i0, w, w1, w2, w3⟩ := wL_hit hw
      have hi0 : i0 < m := by
        have := (List.getElem?_eq_some_iff.mp w1).1
        rw [List.length_take] at this
        omega
      have hwd : w = zWf.getD i0 [] := by
        rw [List.getElem?_take_of_lt hi0] at w1
        rw [List.getD_eq_getElem?_getD, w1]
        rfl
      subst hwd
      have hmb := mbl_hit (b := b) hm7 hi0 w3
      rw [hmb] at he1 he2
      dsimp only at he1 he2
      have hi : i = i0 := by have := congrArg Prod.fst w2; dsimp only at this; omega
      have hL : L = (zWf.getD i0 []).length := congrArg Prod.snd w2
      subst he1 he2
      have hk := h1 i L hw
      have t2 := (zWf_tab i0 (by omega)).2.1
      have ci : (nI i0).toNatClampNeg = i0 := nI_clamp (by omega)
      have e82 : μ 82 0 (nI i0).toNatClampNeg = nI (zWf.getD i0 []).length := by rw [ci, c82 i0 (by omega)]; exact t2
      have hl6 := (zWf_len i0 (by omega)).2
      have hge : μ 82 0 (nI i0).toNatClampNeg ≤ nI (zWf.getD i0 []).length := by rw [e82]; exact nI_le (Nat.le_refl _) (by omega)
      have vi : vp_in (nI i0) 7 := vp_in_nI (by omega) (by omega)
      refine zs k_Mo_word rfl ?_; conv => whnf
      repeat' (first
        | refine br_t hge ?_
        | exact zKe hk (by rw [hi]) (by rw [hL, nI_add]; conv => lhs; rw [hid, cM_at rfl])
        | (refine zs k_Mo_word rfl ?_; conv => whnf)
        | refine ⟨Nat.zero_lt_one, rfl, ?_⟩
        | refine ⟨rfl, ?_⟩
        | refine ⟨⟨Nat.zero_lt_one, rfl⟩, Nat.le_of_ble_eq_true rfl, ?_⟩
        | refine ⟨Nat.le_of_ble_eq_true rfl, Nat.le_of_ble_eq_true rfl, ?_⟩
        | refine ⟨(by first | exact Nat.zero_lt_one | assumption | omega), (by first | assumption | exact vp_in_nI (by omega) (by omega) | (unfold vp_in; decide)), ?_⟩
        | refine ⟨(by first | exact Nat.zero_lt_one | assumption | omega), rfl, ?_⟩
        | refine ⟨⟨(by first | exact Nat.zero_lt_one | assumption | omega), rfl⟩, Nat.le_of_ble_eq_true rfl, ?_⟩
        | refine ⟨(by first | exact Nat.zero_lt_one | assumption | omega), ?_⟩
        | refine ⟨Or.inl rfl, ?_⟩
        | refine ⟨Or.inr (Or.inl rfl), ?_⟩
        | refine ⟨Or.inr (Or.inr rfl), ?_⟩
        | refine ⟨Or.inr ⟨rfl, (by first | exact Or.inl rfl | exact Or.inr rfl | assumption)⟩, ?_⟩
        | refine ⟨fun h => absurd h (by decide), fun _ => ?_⟩
        | refine ⟨fun _ => ?_, fun h => absurd h (by decide)⟩
        | refine ⟨fun h => ?_, fun h => ?_⟩
        | fail)
    | inr L =>
      obtain ⟨t, ht, hmb, hlt, hL10⟩ := mbl_no (b := b) hm0 hm7 hw
      rw [hmb] at he1 he2
      dsimp only at he1 he2
      subst he1 he2
      have hk := h0 t L hw
      have t2 := (zWf_tab t (by omega)).2.1
      have ci : (nI t).toNatClampNeg = t := nI_clamp (by omega)
      have e82 : μ 82 0 (nI t).toNatClampNeg = nI (zWf.getD t []).length := by rw [ci, c82 t (by omega)]; exact t2
      have hl6 := (zWf_len t (by omega)).2
      have hge : ¬ μ 82 0 (nI t).toNatClampNeg ≤ nI L := by rw [e82]; exact nI_ge hlt (by omega)
      have vi : vp_in (nI t) 7 := vp_in_nI (by omega) (by omega)
      refine zs k_Mo_word rfl ?_; conv => whnf
      repeat' (first
        | refine br_f hge ?_
        | refine zKe hk rfl ?_
        | (refine zs k_Mo_word rfl ?_; conv => whnf)
        | refine ⟨Nat.zero_lt_one, rfl, ?_⟩
        | refine ⟨rfl, ?_⟩
        | refine ⟨⟨Nat.zero_lt_one, rfl⟩, Nat.le_of_ble_eq_true rfl, ?_⟩
        | refine ⟨Nat.le_of_ble_eq_true rfl, Nat.le_of_ble_eq_true rfl, ?_⟩
        | refine ⟨(by first | exact Nat.zero_lt_one | assumption | omega), (by first | assumption | exact vp_in_nI (by omega) (by omega) | (unfold vp_in; decide)), ?_⟩
        | refine ⟨(by first | exact Nat.zero_lt_one | assumption | omega), rfl, ?_⟩
        | refine ⟨⟨(by first | exact Nat.zero_lt_one | assumption | omega), rfl⟩, Nat.le_of_ble_eq_true rfl, ?_⟩
        | refine ⟨(by first | exact Nat.zero_lt_one | assumption | omega), ?_⟩
        | refine ⟨Or.inl rfl, ?_⟩
        | refine ⟨Or.inr (Or.inl rfl), ?_⟩
        | refine ⟨Or.inr (Or.inr rfl), ?_⟩
        | refine ⟨Or.inr ⟨rfl, (by first | exact Or.inl rfl | exact Or.inr rfl | assumption)⟩, ?_⟩
        | refine ⟨fun h => absurd h (by decide), fun _ => ?_⟩
        | refine ⟨fun _ => ?_, fun h => absurd h (by decide)⟩
        | refine ⟨fun h => ?_, fun h => ?_⟩
        | fail)
      show zu (zu μ 48 0 28 (nI at_ + nI L)) 48 0 29 (zu μ 48 0 28 (nI at_ + nI L) 48 0 28) = _
      rw [zu_eq, nI_add]
      rfl
  have L2 : ∀ (k w : Nat) (bs lg v : Int32) (l6 : Option zV), w + k = m → v = nI w → (lg, bs) = ((mbl (fun j => pfx b (zWf.getD j []) 0) w).1, nI (mbl (fun j => pfx b (zWf.getD j []) 0) w).2) → zG S d m_Mo_word K 13 [some (zR 48 0), some (zI (nI m)), some (zI (nI at_)), some (zI bs), some (zI lg), some (zI v), l6] [] μ := by
    intro k
    induction k with
    | zero =>
      intro w bs lg v l6 hw hv he
      subst hv
      obtain rfl : w = m := by omega
      have hle : nI w ≤ nI w := nI_le (Nat.le_refl _) (by omega)
      refine zs k_Mo_word rfl ?_; conv => whnf
      repeat' (first
        | refine br_t hle ?_
        | exact E1 _ _ _ he
        | (refine zs k_Mo_word rfl ?_; conv => whnf)
        | refine ⟨Nat.zero_lt_one, rfl, ?_⟩
        | refine ⟨rfl, ?_⟩
        | refine ⟨⟨Nat.zero_lt_one, rfl⟩, Nat.le_of_ble_eq_true rfl, ?_⟩
        | refine ⟨Nat.le_of_ble_eq_true rfl, Nat.le_of_ble_eq_true rfl, ?_⟩
        | refine ⟨(by first | exact Nat.zero_lt_one | assumption | omega), (by first | assumption | exact vp_in_nI (by omega) (by omega) | (unfold vp_in; decide)), ?_⟩
        | refine ⟨(by first | exact Nat.zero_lt_one | assumption | omega), rfl, ?_⟩
        | refine ⟨⟨(by first | exact Nat.zero_lt_one | assumption | omega), rfl⟩, Nat.le_of_ble_eq_true rfl, ?_⟩
        | refine ⟨(by first | exact Nat.zero_lt_one | assumption | omega), ?_⟩
        | refine ⟨Or.inl rfl, ?_⟩
        | refine ⟨Or.inr (Or.inl rfl), ?_⟩
        | refine ⟨Or.inr (Or.inr rfl), ?_⟩
        | refine ⟨Or.inr ⟨rfl, (by first | exact Or.inl rfl | exact Or.inr rfl | assumption)⟩, ?_⟩
        | refine ⟨fun h => absurd h (by decide), fun _ => ?_⟩
        | refine ⟨fun _ => ?_, fun h => absurd h (by decide)⟩
        | refine ⟨fun h => ?_, fun h => ?_⟩
        | fail)
    | succ k ih =>
      intro w bs lg v l6 hw hv he
      subst hv
      have hle : ¬ nI m ≤ nI w := nI_ge (by omega) (by omega)
      have cw : (nI w).toNatClampNeg = w := nI_clamp (by omega)
      have vw : vp_in (nI w) 7 := vp_in_nI (by omega) (by omega)
      obtain ⟨t1, t2, t3, t4⟩ := zWf_tab w (by omega)
      have hl6 := (zWf_len w (by omega)).2
      have e82 : μ 82 0 (nI w).toNatClampNeg = nI (zWf.getD w []).length := by rw [cw, c82 w (by omega)]; exact t2
      have e81 : μ 81 0 (nI w).toNatClampNeg = nI (gBeg.getD w 0).toNatClampNeg := by rw [cw, c81 w (by omega)]; exact t1
      have hs : mbl (fun j => pfx b (zWf.getD j []) 0) (w + 1) = if (mbl (fun j => pfx b (zWf.getD j []) 0) w).1 < nI (pfx b (zWf.getD w []) 0) then (nI (pfx b (zWf.getD w []) 0), w) else mbl (fun j => pfx b (zWf.getD j []) 0) w := rfl
      have he1 := congrArg Prod.fst he
      have he2 := congrArg Prod.snd he
      dsimp only at he1 he2
      have out : ∀ u : Int32, u = nI (pfx b (zWf.getD w []) 0) → zG S d m_Mo_word K 82 [some (zR 48 0), some (zI (nI m)), some (zI (nI at_)), some (zI bs), some (zI lg), some (zI (nI w)), some (zI u)] [] μ := fun u hu => by
        subst hu
        by_cases q : nI (pfx b (zWf.getD w []) 0) ≤ lg
        · have q' : ¬ (mbl (fun j => pfx b (zWf.getD j []) 0) w).1 < nI (pfx b (zWf.getD w []) 0) := by rw [← he1]; grind
          rw [if_neg q'] at hs
          repeat' (first
            | refine br_t q ?_
            | refine ih (w + 1) _ _ _ _ (by omega) (by exact nI_1 w) (by rw [hs]; exact he)
            | (refine zs k_Mo_word rfl ?_; conv => whnf)
            | refine ⟨Nat.zero_lt_one, rfl, ?_⟩
            | refine ⟨rfl, ?_⟩
            | refine ⟨⟨Nat.zero_lt_one, rfl⟩, Nat.le_of_ble_eq_true rfl, ?_⟩
            | refine ⟨Nat.le_of_ble_eq_true rfl, Nat.le_of_ble_eq_true rfl, ?_⟩
            | refine ⟨(by first | exact Nat.zero_lt_one | assumption | omega), (by first | assumption | exact vp_in_nI (by omega) (by omega) | (unfold vp_in; decide)), ?_⟩
            | refine ⟨(by first | exact Nat.zero_lt_one | assumption | omega), rfl, ?_⟩
            | refine ⟨⟨(by first | exact Nat.zero_lt_one | assumption | omega), rfl⟩, Nat.le_of_ble_eq_true rfl, ?_⟩
            | refine ⟨(by first | exact Nat.zero_lt_one | assumption | omega), ?_⟩
            | refine ⟨Or.inl rfl, ?_⟩
            | refine ⟨Or.inr (Or.inl rfl), ?_⟩
            | refine ⟨Or.inr (Or.inr rfl), ?_⟩
            | refine ⟨Or.inr ⟨rfl, (by first | exact Or.inl rfl | exact Or.inr rfl | assumption)⟩, ?_⟩
            | refine ⟨fun h => absurd h (by decide), fun _ => ?_⟩
            | refine ⟨fun _ => ?_, fun h => absurd h (by decide)⟩
            | refine ⟨fun h => ?_, fun h => ?_⟩
            | fail)
        · have q' : (mbl (fun j => pfx b (zWf.getD j []) 0) w).1 < nI (pfx b (zWf.getD w []) 0) := by rw [← he1]; grind
          rw [if_pos q'] at hs
          repeat' (first
            | refine br_f q ?_
            | refine ih (w + 1) _ _ _ _ (by omega) (by exact nI_1 w) (by rw [hs])
            | (refine zs k_Mo_word rfl ?_; conv => whnf)
            | refine ⟨Nat.zero_lt_one, rfl, ?_⟩
            | refine ⟨rfl, ?_⟩
            | refine ⟨⟨Nat.zero_lt_one, rfl⟩, Nat.le_of_ble_eq_true rfl, ?_⟩
            | refine ⟨Nat.le_of_ble_eq_true rfl, Nat.le_of_ble_eq_true rfl, ?_⟩
            | refine ⟨(by first | exact Nat.zero_lt_one | assumption | omega), (by first | assumption | exact vp_in_nI (by omega) (by omega) | (unfold vp_in; decide)), ?_⟩
            | refine ⟨(by first | exact Nat.zero_lt_one | assumption | omega), rfl, ?_⟩
            | refine ⟨⟨(by first | exact Nat.zero_lt_one | assumption | omega), rfl⟩, Nat.le_of_ble_eq_true rfl, ?_⟩
            | refine ⟨(by first | exact Nat.zero_lt_one | assumption | omega), ?_⟩
            | refine ⟨Or.inl rfl, ?_⟩
            | refine ⟨Or.inr (Or.inl rfl), ?_⟩
            | refine ⟨Or.inr (Or.inr rfl), ?_⟩
            | refine ⟨Or.inr ⟨rfl, (by first | exact Or.inl rfl | exact Or.inr rfl | assumption)⟩, ?_⟩
            | refine ⟨fun h => absurd h (by decide), fun _ => ?_⟩
            | refine ⟨fun _ => ?_, fun h => absurd h (by decide)⟩
            | refine ⟨fun h => ?_, fun h => ?_⟩
            | fail)
      have L1 : ∀ (k2 j : Nat) (u : Int32), j + k2 = (zWf.getD w []).length → u = nI j → pfx b (zWf.getD w []) 0 = j + pfx b ((zWf.getD w []).drop j) j → zG S d m_Mo_word K 22 [some (zR 48 0), some (zI (nI m)), some (zI (nI at_)), some (zI bs), some (zI lg), some (zI (nI w)), some (zI u)] [] μ := by
        intro k2
        induction k2 with
        | zero =>
          intro j u hj hu hp
          subst hu
          have hjl : j = (zWf.getD w []).length := by omega
          have hge : μ 82 0 (nI w).toNatClampNeg ≤ nI j := by rw [e82, ← hjl]; exact nI_le (Nat.le_refl _) (by omega)
          rw [hjl, List.drop_length] at hp
          refine zs k_Mo_word rfl ?_; conv => whnf
          repeat' (first
            | refine br_t hge ?_
            | refine out _ (by rw [hp, ← hjl]; rfl)
            | (refine zs k_Mo_word rfl ?_; conv => whnf)
            | refine ⟨Nat.zero_lt_one, rfl, ?_⟩
            | refine ⟨rfl, ?_⟩
            | refine ⟨⟨Nat.zero_lt_one, rfl⟩, Nat.le_of_ble_eq_true rfl, ?_⟩
            | refine ⟨Nat.le_of_ble_eq_true rfl, Nat.le_of_ble_eq_true rfl, ?_⟩
            | refine ⟨(by first | exact Nat.zero_lt_one | assumption | omega), (by first | assumption | exact vp_in_nI (by omega) (by omega) | (unfold vp_in; decide)), ?_⟩
            | refine ⟨(by first | exact Nat.zero_lt_one | assumption | omega), rfl, ?_⟩
            | refine ⟨⟨(by first | exact Nat.zero_lt_one | assumption | omega), rfl⟩, Nat.le_of_ble_eq_true rfl, ?_⟩
            | refine ⟨(by first | exact Nat.zero_lt_one | assumption | omega), ?_⟩
            | refine ⟨Or.inl rfl, ?_⟩
            | refine ⟨Or.inr (Or.inl rfl), ?_⟩
            | refine ⟨Or.inr (Or.inr rfl), ?_⟩
            | refine ⟨Or.inr ⟨rfl, (by first | exact Or.inl rfl | exact Or.inr rfl | assumption)⟩, ?_⟩
            | refine ⟨fun h => absurd h (by decide), fun _ => ?_⟩
            | refine ⟨fun _ => ?_, fun h => absurd h (by decide)⟩
            | refine ⟨fun h => ?_, fun h => ?_⟩
            | fail)
        | succ k2 ih2 =>
          intro j u hj hu hp
          subst hu
          have hge : ¬ μ 82 0 (nI w).toNatClampNeg ≤ nI j := by rw [e82]; exact nI_ge (by omega) (by omega)
          have hjl : j < (zWf.getD w []).length := by omega
          have hc := t4 j (by omega) hjl
          have hdr : (zWf.getD w []).drop j = gLet.getD ((gBeg.getD w 0).toNatClampNeg + j) 0 :: (zWf.getD w []).drop (j + 1) := by
            rw [List.drop_eq_getElem_cons hjl]
            congr 1
            exact Option.some.inj ((List.getElem?_eq_getElem hjl).symm.trans hc)
          rw [hdr, pfx] at hp
          have hbj : b j = pB a n (at_ + j) := by rw [← hb]
          have ma : nI at_ + nI j = nI (at_ + j) := nI_add _ _
          rcases Nat.lt_or_ge (at_ + j) n with q | q
          case inr =>
            have q' : μ 48 0 14 ≤ nI at_ + nI j := by rw [h14, ma]; exact nI_le q (by omega)
            have hne : ¬ b j = gLet.getD ((gBeg.getD w 0).toNatClampNeg + j) 0 := by
              rw [hbj]
              unfold pB
              rw [if_neg (by omega)]
              exact fun z => (by decide +kernel : ∀ k, k < 40 → ¬ (-1 : Int32) = gLet.getD k 0) _ (by omega) z
            rw [if_neg hne] at hp
            refine zs k_Mo_word rfl ?_; conv => whnf
            repeat' (first
              | refine br_f hge ?_
              | refine br_t q' ?_
              | refine out _ (by rw [hp]; rfl)
              | (refine zs k_Mo_word rfl ?_; conv => whnf)
              | refine ⟨Nat.zero_lt_one, rfl, ?_⟩
              | refine ⟨rfl, ?_⟩
              | refine ⟨⟨Nat.zero_lt_one, rfl⟩, Nat.le_of_ble_eq_true rfl, ?_⟩
              | refine ⟨Nat.le_of_ble_eq_true rfl, Nat.le_of_ble_eq_true rfl, ?_⟩
              | refine ⟨(by first | exact Nat.zero_lt_one | assumption | omega), (by first | assumption | exact vp_in_nI (by omega) (by omega) | (unfold vp_in; decide)), ?_⟩
              | refine ⟨(by first | exact Nat.zero_lt_one | assumption | omega), rfl, ?_⟩
              | refine ⟨⟨(by first | exact Nat.zero_lt_one | assumption | omega), rfl⟩, Nat.le_of_ble_eq_true rfl, ?_⟩
              | refine ⟨(by first | exact Nat.zero_lt_one | assumption | omega), ?_⟩
              | refine ⟨Or.inl rfl, ?_⟩
              | refine ⟨Or.inr (Or.inl rfl), ?_⟩
              | refine ⟨Or.inr (Or.inr rfl), ?_⟩
              | refine ⟨Or.inr ⟨rfl, (by first | exact Or.inl rfl | exact Or.inr rfl | assumption)⟩, ?_⟩
              | refine ⟨fun h => absurd h (by decide), fun _ => ?_⟩
              | refine ⟨fun _ => ?_, fun h => absurd h (by decide)⟩
              | refine ⟨fun h => ?_, fun h => ?_⟩
              | fail)
          have q' : ¬ μ 48 0 14 ≤ nI at_ + nI j := by rw [h14, ma]; exact nI_ge q (by omega)
          have vt : vp_in (nI at_ + nI j) 200 := by rw [ma]; exact vp_in_nI (by omega) (by omega)
          have ctj : (nI at_ + nI j).toNatClampNeg = at_ + j := by rw [ma]; exact nI_clamp (by omega)
          have hbe : b j = a (at_ + j) := by rw [hbj]; unfold pB; rw [if_pos q]
          have e63 : μ 63 0 (nI at_ + nI j).toNatClampNeg &&& 255 = b j := by rw [ctj, h63 _ q, hbe]
          have m81 : μ 81 0 (nI w).toNatClampNeg + nI j = nI ((gBeg.getD w 0).toNatClampNeg + j) := by rw [e81, nI_add]
          have v80 : vp_in (μ 81 0 (nI w).toNatClampNeg + nI j) 33 := by rw [m81]; exact vp_in_nI (by omega) (by omega)
          have e80 : μ 80 0 (μ 81 0 (nI w).toNatClampNeg + nI j).toNatClampNeg = gLet.getD ((gBeg.getD w 0).toNatClampNeg + j) 0 := by rw [m81, nI_clamp (by omega)]; exact c80 _ (by omega)
          by_cases e : b j = gLet.getD ((gBeg.getD w 0).toNatClampNeg + j) 0
          · rw [if_pos e] at hp
            have e' : μ 63 0 (nI at_ + nI j).toNatClampNeg &&& 255 = μ 80 0 (μ 81 0 (nI w).toNatClampNeg + nI j).toNatClampNeg := by rw [e63, e80]; exact e
            refine zs k_Mo_word rfl ?_; conv => whnf
            repeat' (first
              | refine br_f hge ?_
              | refine br_f q' ?_
              | refine bn_f e' ?_
              | refine ih2 (j + 1) _ (by omega) (by exact nI_1 j) (by rw [hp]; omega)
              | (refine zs k_Mo_word rfl ?_; conv => whnf)
              | refine ⟨Nat.zero_lt_one, rfl, ?_⟩
              | refine ⟨rfl, ?_⟩
              | refine ⟨⟨Nat.zero_lt_one, rfl⟩, Nat.le_of_ble_eq_true rfl, ?_⟩
              | refine ⟨Nat.le_of_ble_eq_true rfl, Nat.le_of_ble_eq_true rfl, ?_⟩
              | refine ⟨(by first | exact Nat.zero_lt_one | assumption | omega), (by first | assumption | exact vp_in_nI (by omega) (by omega) | (unfold vp_in; decide)), ?_⟩
              | refine ⟨(by first | exact Nat.zero_lt_one | assumption | omega), rfl, ?_⟩
              | refine ⟨⟨(by first | exact Nat.zero_lt_one | assumption | omega), rfl⟩, Nat.le_of_ble_eq_true rfl, ?_⟩
              | refine ⟨(by first | exact Nat.zero_lt_one | assumption | omega), ?_⟩
              | refine ⟨Or.inl rfl, ?_⟩
              | refine ⟨Or.inr (Or.inl rfl), ?_⟩
              | refine ⟨Or.inr (Or.inr rfl), ?_⟩
              | refine ⟨Or.inr ⟨rfl, (by first | exact Or.inl rfl | exact Or.inr rfl | assumption)⟩, ?_⟩
              | refine ⟨fun h => absurd h (by decide), fun _ => ?_⟩
              | refine ⟨fun _ => ?_, fun h => absurd h (by decide)⟩
              | refine ⟨fun h => ?_, fun h => ?_⟩
              | fail)
          · rw [if_neg e] at hp
            have e' : ¬ μ 63 0 (nI at_ + nI j).toNatClampNeg &&& 255 = μ 80 0 (μ 81 0 (nI w).toNatClampNeg + nI j).toNatClampNeg := by rw [e63, e80]; exact e
            refine zs k_Mo_word rfl ?_; conv => whnf
            repeat' (first
              | refine br_f hge ?_
              | refine br_f q' ?_
              | refine bn_t e' ?_
              | refine out _ (by rw [hp]; rfl)
              | (refine zs k_Mo_word rfl ?_; conv => whnf)
              | refine ⟨Nat.zero_lt_one, rfl, ?_⟩
              | refine ⟨rfl, ?_⟩
              | refine ⟨⟨Nat.zero_lt_one, rfl⟩, Nat.le_of_ble_eq_true rfl, ?_⟩
              | refine ⟨Nat.le_of_ble_eq_true rfl, Nat.le_of_ble_eq_true rfl, ?_⟩
              | refine ⟨(by first | exact Nat.zero_lt_one | assumption | omega), (by first | assumption | exact vp_in_nI (by omega) (by omega) | (unfold vp_in; decide)), ?_⟩
              | refine ⟨(by first | exact Nat.zero_lt_one | assumption | omega), rfl, ?_⟩
              | refine ⟨⟨(by first | exact Nat.zero_lt_one | assumption | omega), rfl⟩, Nat.le_of_ble_eq_true rfl, ?_⟩
              | refine ⟨(by first | exact Nat.zero_lt_one | assumption | omega), ?_⟩
              | refine ⟨Or.inl rfl, ?_⟩
              | refine ⟨Or.inr (Or.inl rfl), ?_⟩
              | refine ⟨Or.inr (Or.inr rfl), ?_⟩
              | refine ⟨Or.inr ⟨rfl, (by first | exact Or.inl rfl | exact Or.inr rfl | assumption)⟩, ?_⟩
              | refine ⟨fun h => absurd h (by decide), fun _ => ?_⟩
              | refine ⟨fun _ => ?_, fun h => absurd h (by decide)⟩
              | refine ⟨fun h => ?_, fun h => ?_⟩
              | fail)
      refine zs k_Mo_word rfl ?_; conv => whnf
      repeat' (first
        | refine br_f hle ?_
        | refine L1 (zWf.getD w []).length 0 _ (by omega) rfl (by rw [Nat.zero_add]; rfl)
        | (refine zs k_Mo_word rfl ?_; conv => whnf)
        | refine ⟨Nat.zero_lt_one, rfl, ?_⟩
        | refine ⟨rfl, ?_⟩
        | refine ⟨⟨Nat.zero_lt_one, rfl⟩, Nat.le_of_ble_eq_true rfl, ?_⟩
        | refine ⟨Nat.le_of_ble_eq_true rfl, Nat.le_of_ble_eq_true rfl, ?_⟩
        | refine ⟨(by first | exact Nat.zero_lt_one | assumption | omega), (by first | assumption | exact vp_in_nI (by omega) (by omega) | (unfold vp_in; decide)), ?_⟩
        | refine ⟨(by first | exact Nat.zero_lt_one | assumption | omega), rfl, ?_⟩
        | refine ⟨⟨(by first | exact Nat.zero_lt_one | assumption | omega), rfl⟩, Nat.le_of_ble_eq_true rfl, ?_⟩
        | refine ⟨(by first | exact Nat.zero_lt_one | assumption | omega), ?_⟩
        | refine ⟨Or.inl rfl, ?_⟩
        | refine ⟨Or.inr (Or.inl rfl), ?_⟩
        | refine ⟨Or.inr (Or.inr rfl), ?_⟩
        | refine ⟨Or.inr ⟨rfl, (by first | exact Or.inl rfl | exact Or.inr rfl | assumption)⟩, ?_⟩
        | refine ⟨fun h => absurd h (by decide), fun _ => ?_⟩
        | refine ⟨fun _ => ?_, fun h => absurd h (by decide)⟩
        | refine ⟨fun h => ?_, fun h => ?_⟩
        | fail)
  have S1 : ∀ v : Int32, v = nI at_ → zG S d m_Mo_word K 4 [some (zR 48 0), some (zI (nI m)), none, none, none, none, none] [zI v] μ := fun v hv => by
    subst hv
    repeat' (first
      | refine L2 m 0 _ _ _ _ (by omega) rfl rfl
      | (refine zs k_Mo_word rfl ?_; conv => whnf)
      | refine ⟨Nat.zero_lt_one, rfl, ?_⟩
      | refine ⟨rfl, ?_⟩
      | refine ⟨⟨Nat.zero_lt_one, rfl⟩, Nat.le_of_ble_eq_true rfl, ?_⟩
      | refine ⟨Nat.le_of_ble_eq_true rfl, Nat.le_of_ble_eq_true rfl, ?_⟩
      | refine ⟨(by first | exact Nat.zero_lt_one | assumption | omega), (by first | assumption | exact vp_in_nI (by omega) (by omega) | (unfold vp_in; decide)), ?_⟩
      | refine ⟨(by first | exact Nat.zero_lt_one | assumption | omega), rfl, ?_⟩
      | refine ⟨⟨(by first | exact Nat.zero_lt_one | assumption | omega), rfl⟩, Nat.le_of_ble_eq_true rfl, ?_⟩
      | refine ⟨(by first | exact Nat.zero_lt_one | assumption | omega), ?_⟩
      | refine ⟨Or.inl rfl, ?_⟩
      | refine ⟨Or.inr (Or.inl rfl), ?_⟩
      | refine ⟨Or.inr (Or.inr rfl), ?_⟩
      | refine ⟨Or.inr ⟨rfl, (by first | exact Or.inl rfl | exact Or.inr rfl | assumption)⟩, ?_⟩
      | refine ⟨fun h => absurd h (by decide), fun _ => ?_⟩
      | refine ⟨fun _ => ?_, fun h => absurd h (by decide)⟩
      | refine ⟨fun h => ?_, fun h => ?_⟩
      | fail)
  repeat' (first
    | exact S1 _ h28
    | (refine zs k_Mo_word rfl ?_; conv => whnf)
    | refine ⟨Nat.zero_lt_one, rfl, ?_⟩
    | refine ⟨rfl, ?_⟩
    | refine ⟨⟨Nat.zero_lt_one, rfl⟩, Nat.le_of_ble_eq_true rfl, ?_⟩
    | refine ⟨Nat.le_of_ble_eq_true rfl, Nat.le_of_ble_eq_true rfl, ?_⟩
    | refine ⟨(by first | exact Nat.zero_lt_one | assumption | omega), (by first | assumption | exact vp_in_nI (by omega) (by omega) | (unfold vp_in; decide)), ?_⟩
    | refine ⟨(by first | exact Nat.zero_lt_one | assumption | omega), rfl, ?_⟩
    | refine ⟨⟨(by first | exact Nat.zero_lt_one | assumption | omega), rfl⟩, Nat.le_of_ble_eq_true rfl, ?_⟩
    | refine ⟨(by first | exact Nat.zero_lt_one | assumption | omega), ?_⟩
    | refine ⟨Or.inl rfl, ?_⟩
    | refine ⟨Or.inr (Or.inl rfl), ?_⟩
    | refine ⟨Or.inr (Or.inr rfl), ?_⟩
    | refine ⟨Or.inr ⟨rfl, (by first | exact Or.inl rfl | exact Or.inr rfl | assumption)⟩, ?_⟩
    | refine ⟨fun h => absurd h (by decide), fun _ => ?_⟩
    | refine ⟨fun _ => ?_, fun h => absurd h (by decide)⟩
    | refine ⟨fun h => ?_, fun h => ?_⟩
    | fail)
