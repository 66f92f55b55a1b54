/-! DESK: visit, card, owes -/
theorem pFst_cg {P P' : Nat → Bool} : ∀ {n : Nat}, (∀ v, v < n → P v = P' v) → pFst P n = pFst P' n
  | 0, _ => rfl
  | n + 1, h => by
    rw [pFst, pFst, pFst_cg (fun v hv => h v (by omega)), h n (by omega)]
theorem pCt_cg {P P' : Nat → Bool} : ∀ {n : Nat}, (∀ v, v < n → P v = P' v) → pCt P n = pCt P' n
  | 0, _ => rfl
  | n + 1, h => by
    rw [pCt, pCt, pCt_cg (fun v hv => h v (by omega)), h n (by omega)]
theorem pNth_cg {P P' : Nat → Bool} {j : Int32} {n : Nat} (h : ∀ v, v < n → P v = P' v) : pNth P j n = pNth P' j n := by
  unfold pNth
  refine pFst_cg (fun v hv => ?_)
  rw [h v hv, pCt_cg (fun w hw => h w (by omega))]
def mRem (μ : zMu) (v n : Nat) : zMu := fun f i k => if (f = 99 ∨ f = 100 ∨ f = 101) ∧ i = 0 then pRem (μ f i) v n k else μ f i k
set_option maxHeartbeats 1000000 in
theorem c_Mo_forget {d n v : Nat} {μ : zMu} {K : Option zV → zMu → Prop} (hn : μ 48 0 48 = nI (n + 1)) (h40 : n + 1 ≤ 40) (hv : v ≤ n) (hK : K none (mRem (zu μ 48 0 48 (nI n)) v n)) : Ct d m_Mo_forget [zR 48 0, zI (nI v)] μ K := by
  refine zmeet rfl (Nat.le_of_ble_eq_true rfl) (fun S => ?_)
  have L : ∀ (k i : Nat) (x : Int32) (μ1 : zMu), i + k = n → v ≤ i → x = nI i → μ1 = mRem (zu μ 48 0 48 (nI n)) v i → zG S d m_Mo_forget K 12 [some (zR 48 0), some (zI (nI v)), some (zI x)] [] μ1 := by
    intro k
    induction k with
    | zero =>
      intro i x μ1 hi hvi hx hm
      subst hx hm
      obtain rfl : i = n := by omega
      have hz : mRem (zu μ 48 0 48 (nI i)) v i 48 0 48 = nI i := rfl
      refine zs k_Mo_forget rfl ?_; conv => whnf
      repeat' (first
        | exact hK
        | (refine zs k_Mo_forget rfl ?_; conv => whnf)
        | refine br_t (by simp (disch := omega) only [hz, nI_leI, nI_ltI, nI_eq]; omega) ?_
        | refine br_f (by simp (disch := omega) only [hz, nI_leI, nI_ltI, nI_eq]; omega) ?_
        | refine ⟨Nat.zero_lt_one, rfl, ?_⟩
        | refine ⟨rfl, ?_⟩
        | refine ⟨⟨Nat.zero_lt_one, rfl⟩, Nat.le_of_ble_eq_true rfl, ?_⟩
        | refine ⟨Nat.le_of_ble_eq_true rfl, Nat.le_of_ble_eq_true rfl, ?_⟩
        | refine ⟨(by first | exact Nat.zero_lt_one | assumption | omega), (by first | assumption | exact vp_in_nI (by omega) (by omega) | (unfold vp_in; decide)), ?_⟩
        | refine ⟨(by first | exact Nat.zero_lt_one | assumption | omega), rfl, ?_⟩
        | refine ⟨⟨(by first | exact Nat.zero_lt_one | assumption | omega), rfl⟩, Nat.le_of_ble_eq_true rfl, ?_⟩
        | refine ⟨(by first | exact Nat.zero_lt_one | assumption | omega), ?_⟩
        | refine ⟨Or.inl rfl, ?_⟩
        | refine ⟨Or.inr (Or.inl rfl), ?_⟩
        | refine ⟨Or.inr (Or.inr rfl), ?_⟩
        | refine ⟨Or.inr ⟨rfl, (by first | exact Or.inl rfl | exact Or.inr rfl | assumption)⟩, ?_⟩
        | refine ⟨fun h => absurd h (by decide), fun _ => ?_⟩
        | refine ⟨fun _ => ?_, fun h => absurd h (by decide)⟩
        | refine ⟨fun h => ?_, fun h => ?_⟩
        | fail)
    | succ k ih =>
      intro i x μ1 hi hvi hx hm
      subst hx
      have hz : μ1 48 0 48 = nI n := by rw [hm]; rfl
      have hc : (nI i).toNatClampNeg = i := nI_clamp (by omega)
      have hc1 : (nI i + 1).toNatClampNeg = i + 1 := by rw [nI_1, nI_clamp (by omega)]
      have hv1 : vp_in (nI i + 1) 40 := by rw [nI_1]; exact vp_in_nI (by omega) (by omega)
      refine zs k_Mo_forget rfl ?_; conv => whnf
      repeat' (first
        | refine ih (i + 1) _ _ (by omega) (by omega) (by exact nI_1 i) ?_
        | (refine zs k_Mo_forget rfl ?_; conv => whnf)
        | refine br_t (by simp (disch := omega) only [hz, nI_leI, nI_ltI, nI_eq]; omega) ?_
        | refine br_f (by simp (disch := omega) only [hz, nI_leI, nI_ltI, nI_eq]; omega) ?_
        | refine ⟨Nat.zero_lt_one, rfl, ?_⟩
        | refine ⟨rfl, ?_⟩
        | refine ⟨⟨Nat.zero_lt_one, rfl⟩, Nat.le_of_ble_eq_true rfl, ?_⟩
        | refine ⟨Nat.le_of_ble_eq_true rfl, Nat.le_of_ble_eq_true rfl, ?_⟩
        | refine ⟨(by first | exact Nat.zero_lt_one | assumption | omega), (by first | assumption | exact vp_in_nI (by omega) (by omega) | (unfold vp_in; decide)), ?_⟩
        | refine ⟨(by first | exact Nat.zero_lt_one | assumption | omega), rfl, ?_⟩
        | refine ⟨⟨(by first | exact Nat.zero_lt_one | assumption | omega), rfl⟩, Nat.le_of_ble_eq_true rfl, ?_⟩
        | refine ⟨(by first | exact Nat.zero_lt_one | assumption | omega), ?_⟩
        | refine ⟨Or.inl rfl, ?_⟩
        | refine ⟨Or.inr (Or.inl rfl), ?_⟩
        | refine ⟨Or.inr (Or.inr rfl), ?_⟩
        | refine ⟨Or.inr ⟨rfl, (by first | exact Or.inl rfl | exact Or.inr rfl | assumption)⟩, ?_⟩
        | refine ⟨fun h => absurd h (by decide), fun _ => ?_⟩
        | refine ⟨fun _ => ?_, fun h => absurd h (by decide)⟩
        | refine ⟨fun h => ?_, fun h => ?_⟩
        | fail)
      rw [hc, hc1, hm]
      funext f a b
      simp only [mRem, pRem, zu]
      grind
  repeat' (first
    | refine L (n - v) v _ _ (by omega) (Nat.le_refl v) rfl ?_
    | (refine zs k_Mo_forget rfl ?_; conv => whnf)
    | refine ⟨Nat.zero_lt_one, rfl, ?_⟩
    | refine ⟨rfl, ?_⟩
    | refine ⟨⟨Nat.zero_lt_one, rfl⟩, Nat.le_of_ble_eq_true rfl, ?_⟩
    | refine ⟨Nat.le_of_ble_eq_true rfl, Nat.le_of_ble_eq_true rfl, ?_⟩
    | refine ⟨(by first | exact Nat.zero_lt_one | assumption | omega), (by first | assumption | exact vp_in_nI (by omega) (by omega) | (unfold vp_in; decide)), ?_⟩
    | refine ⟨(by first | exact Nat.zero_lt_one | assumption | omega), rfl, ?_⟩
    | refine ⟨⟨(by first | exact Nat.zero_lt_one | assumption | omega), rfl⟩, Nat.le_of_ble_eq_true rfl, ?_⟩
    | refine ⟨(by first | exact Nat.zero_lt_one | assumption | omega), ?_⟩
    | refine ⟨Or.inl rfl, ?_⟩
    | refine ⟨Or.inr (Or.inl rfl), ?_⟩
    | refine ⟨Or.inr (Or.inr rfl), ?_⟩
    | refine ⟨Or.inr ⟨rfl, (by first | exact Or.inl rfl | exact Or.inr rfl | assumption)⟩, ?_⟩
    | refine ⟨fun h => absurd h (by decide), fun _ => ?_⟩
    | refine ⟨fun _ => ?_, fun h => absurd h (by decide)⟩
    | refine ⟨fun h => ?_, fun h => ?_⟩
    | fail)
  funext f a b
  simp only [mRem, pRem, zu, hn, nI_pred]
  grind

theorem mVs_rem {μ : zMu} {L : List zVt} {v : Nat} (h : mVs μ L) (hv : v < L.length) : mVs (mRem (zu μ 48 0 48 (nI (L.length - 1))) v (L.length - 1)) (L.eraseIdx v) := by
  obtain ⟨h1, h3⟩ := h
  have hl : (L.eraseIdx v).length = L.length - 1 := List.length_eraseIdx_of_lt hv
  refine ⟨by rw [hl]; rfl, fun k e he => ?_⟩
  have hk : k < L.length - 1 := by
    have := (List.getElem?_eq_some_iff.mp he).1
    omega
  rw [List.getElem?_eraseIdx] at he
  have e46 : mRem (zu μ 48 0 48 (nI (L.length - 1))) v (L.length - 1) 99 0 k = if v ≤ k ∧ k < L.length - 1 then μ 99 0 (k + 1) else μ 99 0 k := rfl
  have e45 : mRem (zu μ 48 0 48 (nI (L.length - 1))) v (L.length - 1) 100 0 k = if v ≤ k ∧ k < L.length - 1 then μ 100 0 (k + 1) else μ 100 0 k := rfl
  have e47 : mRem (zu μ 48 0 48 (nI (L.length - 1))) v (L.length - 1) 101 0 k = if v ≤ k ∧ k < L.length - 1 then μ 101 0 (k + 1) else μ 101 0 k := rfl
  rw [e46, e45, e47]
  by_cases hvk : k < v
  · rw [if_pos hvk] at he
    rw [if_neg (by omega), if_neg (by omega), if_neg (by omega)]
    exact h3 k e he
  · rw [if_neg hvk] at he
    rw [if_pos (by omega), if_pos (by omega), if_pos (by omega)]
    exact h3 (k + 1) e he
/-- of the model's state only the visits have changed -/
def zOnv (μ μ' : zMu) : Prop := (∀ f, f ∉ [48, 99, 100, 101] → μ' f = μ f) ∧ ∀ k, k ≠ 48 → μ' 48 0 k = μ 48 0 k
theorem zOnv_tr {μ μ' μ'' : zMu} (h : zOnv μ μ') (h' : zOnv μ' μ'') : zOnv μ μ'' := ⟨fun f hf => (h'.1 f hf).trans (h.1 f hf), fun k hk => (h'.2 k hk).trans (h.2 k hk)⟩
theorem mRem_onv {μ : zMu} {x : Int32} {v n : Nat} : zOnv μ (mRem (zu μ 48 0 48 x) v n) := by
  refine ⟨fun f hf => ?_, fun k hk => ?_⟩
  · simp only [List.mem_cons, List.not_mem_nil, or_false, not_or] at hf
    funext a b
    simp only [mRem, zu]
    rw [if_neg (by omega), if_neg (by omega)]
  · simp only [mRem, zu]
    rw [if_neg (by omega), if_neg (by omega)]
/-- the first that matches -/
def lF (L : List zVt) (x y : Int32) : Int32 := pFst (fun v => match L[v]? with
  | some e => pMt x y e
  | none => false) L.length
theorem lF_c {μ : zMu} {L : List zVt} {x y : Int32} (h : cVs μ L) : pFst (fun v => decide (μ 46 0 v = x) && decide (μ 45 0 v = y)) L.length = lF L x y := by
  refine pFst_cg (fun v hv => ?_)
  obtain ⟨e, he⟩ : ∃ e, L[v]? = some e := ⟨L[v], List.getElem?_eq_getElem hv⟩
  obtain ⟨a, b, c⟩ := h.2.2 v e he
  rw [he, a, b]
  rfl
theorem lF_m {μ : zMu} {L : List zVt} {x y : Int32} (h : mVs μ L) : pFst (fun v => decide (μ 99 0 v = x) && decide (μ 100 0 v = y)) L.length = lF L x y := by
  refine pFst_cg (fun v hv => ?_)
  obtain ⟨e, he⟩ : ∃ e, L[v]? = some e := ⟨L[v], List.getElem?_eq_getElem hv⟩
  obtain ⟨a, b, c⟩ := h.2 v e he
  rw [he, a, b]
  rfl
theorem lF_in {L : List zVt} {x y : Int32} (h : L.length ≤ 40) : (lF L x y = -1 ∧ L.countP (pMt x y) = 0) ∨ ∃ v e, v < L.length ∧ lF L x y = nI v ∧ L[v]? = some e ∧ pMt x y e = true := by
  rcases pFst_in (P := fun v => match L[v]? with
    | some e => pMt x y e
    | none => false) (n := L.length) (by omega) with q | ⟨v, hv, q1, q2, q3⟩
  · refine Or.inl ⟨q, ?_⟩
    have hq := pFst_m1 (n := L.length) (by omega) q
    rw [List.countP_eq_zero]
    intro e he
    obtain ⟨v, hv, rfl⟩ := List.getElem_of_mem he
    have := hq v hv
    rw [List.getElem?_eq_getElem hv] at this
    dsimp only at this
    rw [this]
    simp
  · refine Or.inr ⟨v, L[v], hv, q1, List.getElem?_eq_getElem hv, ?_⟩
    rw [List.getElem?_eq_getElem hv] at q2
    exact q2
theorem er_flt {L : List zVt} {v : Nat} {e : zVt} {p : zVt → Bool} (hv : L[v]? = some e) (he : p e = true) : (L.eraseIdx v).filter (fun e => !p e) = L.filter (fun e => !p e) ∧ (L.eraseIdx v).countP p + 1 = L.countP p := by
  have hlt := (List.getElem?_eq_some_iff.mp hv).1
  have hL : L = L.take v ++ e :: L.drop (v + 1) := by
    have h1 := List.take_append_drop v L
    rw [List.drop_eq_getElem_cons hlt, (List.getElem?_eq_some_iff.mp hv).2] at h1
    exact h1.symm
  have hE : L.eraseIdx v = L.take v ++ L.drop (v + 1) := List.eraseIdx_eq_take_drop_succ L v
  rw [hE]
  constructor
  · conv => rhs; rw [hL]
    rw [List.filter_append, List.filter_append, List.filter_cons_of_neg (by simp [he])]
  · conv => rhs; rw [hL]
    rw [List.countP_append, List.countP_append, List.countP_cons_of_pos he]
    omega
theorem c_Mo_oldest {d n : Nat} {μ : zMu} {x y : Int32} {K : Option zV → zMu → Prop} (hn : μ 48 0 48 = nI n) (h40 : n ≤ 40) (hK : K (some (zI (pFst (fun v => decide (μ 99 0 v = x) && decide (μ 100 0 v = y)) n))) μ) : Ct d m_Mo_oldest [zR 48 0, zI x, zI y] μ K := by
  refine zmeet rfl (Nat.le_of_ble_eq_true rfl) (fun S => ?_)
  have L : ∀ (k i : Nat) (v : Int32), i + k = n → v = nI i → (∀ r, r < i → (decide (μ 99 0 r = x) && decide (μ 100 0 r = y)) = false) → zG S d m_Mo_oldest K 2 [some (zR 48 0), some (zI x), some (zI y), some (zI v)] [] μ := by
    intro k
    induction k with
    | zero =>
      intro i v hi hv hz
      subst hv
      obtain rfl : i = n := by omega
      rw [pFst_none hz] at hK
      refine zs k_Mo_oldest rfl ?_; conv => whnf
      repeat' (first
        | exact hK
        | (refine zs k_Mo_oldest rfl ?_; conv => whnf)
        | refine br_t (by simp (disch := omega) only [hn, nI_leI, nI_ltI, nI_eq]; omega) ?_
        | refine br_f (by simp (disch := omega) only [hn, nI_leI, nI_ltI, nI_eq]; omega) ?_
        | refine ⟨Nat.zero_lt_one, rfl, ?_⟩
        | refine ⟨rfl, ?_⟩
        | refine ⟨⟨Nat.zero_lt_one, rfl⟩, Nat.le_of_ble_eq_true rfl, ?_⟩
        | refine ⟨Nat.le_of_ble_eq_true rfl, Nat.le_of_ble_eq_true rfl, ?_⟩
        | refine ⟨(by first | exact Nat.zero_lt_one | assumption | omega), (by first | assumption | exact vp_in_nI (by omega) (by omega) | (unfold vp_in; decide)), ?_⟩
        | refine ⟨(by first | exact Nat.zero_lt_one | assumption | omega), rfl, ?_⟩
        | refine ⟨⟨(by first | exact Nat.zero_lt_one | assumption | omega), rfl⟩, Nat.le_of_ble_eq_true rfl, ?_⟩
        | refine ⟨(by first | exact Nat.zero_lt_one | assumption | omega), ?_⟩
        | refine ⟨Or.inl rfl, ?_⟩
        | refine ⟨Or.inr (Or.inl rfl), ?_⟩
        | refine ⟨Or.inr (Or.inr rfl), ?_⟩
        | refine ⟨Or.inr ⟨rfl, (by first | exact Or.inl rfl | exact Or.inr rfl | assumption)⟩, ?_⟩
        | refine ⟨fun h => absurd h (by decide), fun _ => ?_⟩
        | refine ⟨fun _ => ?_, fun h => absurd h (by decide)⟩
        | refine ⟨fun h => ?_, fun h => ?_⟩
        | fail)
    | succ k ih =>
      intro i v hi hv hz
      subst hv
      have hc : (nI i).toNatClampNeg = i := nI_clamp (by omega)
      refine zs k_Mo_oldest rfl ?_; conv => whnf
      repeat' (first
        | refine ih (i + 1) _ (by omega) (by exact nI_1 i) (lt_s hz (by rw [hc] at *; simp [*]))
        | refine zKe hK (by rw [pFst_hit hz (by rw [hc] at *; simp [*]) (by omega) (by omega)]) rfl
        | (refine zs k_Mo_oldest rfl ?_; conv => whnf)
        | refine br_t (by simp (disch := omega) only [hn, nI_leI, nI_ltI, nI_eq]; omega) ?_
        | refine br_f (by simp (disch := omega) only [hn, nI_leI, nI_ltI, nI_eq]; omega) ?_
        | refine ⟨Nat.zero_lt_one, rfl, ?_⟩
        | refine ⟨rfl, ?_⟩
        | refine ⟨⟨Nat.zero_lt_one, rfl⟩, Nat.le_of_ble_eq_true rfl, ?_⟩
        | refine ⟨Nat.le_of_ble_eq_true rfl, Nat.le_of_ble_eq_true rfl, ?_⟩
        | refine ⟨(by first | exact Nat.zero_lt_one | assumption | omega), (by first | assumption | exact vp_in_nI (by omega) (by omega) | (unfold vp_in; decide)), ?_⟩
        | refine ⟨(by first | exact Nat.zero_lt_one | assumption | omega), rfl, ?_⟩
        | refine ⟨⟨(by first | exact Nat.zero_lt_one | assumption | omega), rfl⟩, Nat.le_of_ble_eq_true rfl, ?_⟩
        | refine ⟨(by first | exact Nat.zero_lt_one | assumption | omega), ?_⟩
        | refine ⟨Or.inl rfl, ?_⟩
        | refine ⟨Or.inr (Or.inl rfl), ?_⟩
        | refine ⟨Or.inr (Or.inr rfl), ?_⟩
        | refine ⟨Or.inr ⟨rfl, (by first | exact Or.inl rfl | exact Or.inr rfl | assumption)⟩, ?_⟩
        | refine ⟨fun h => absurd h (by decide), fun _ => ?_⟩
        | refine ⟨fun _ => ?_, fun h => absurd h (by decide)⟩
        | refine ⟨fun h => ?_, fun h => ?_⟩
        | fail)
  repeat' (first
    | exact L n 0 _ (by omega) rfl (fun r hr => absurd hr (by omega))
    | (refine zs k_Mo_oldest rfl ?_; conv => whnf)
    | refine ⟨Nat.zero_lt_one, rfl, ?_⟩
    | refine ⟨rfl, ?_⟩
    | refine ⟨⟨Nat.zero_lt_one, rfl⟩, Nat.le_of_ble_eq_true rfl, ?_⟩
    | refine ⟨Nat.le_of_ble_eq_true rfl, Nat.le_of_ble_eq_true rfl, ?_⟩
    | refine ⟨(by first | exact Nat.zero_lt_one | assumption | omega), (by first | assumption | exact vp_in_nI (by omega) (by omega) | (unfold vp_in; decide)), ?_⟩
    | refine ⟨(by first | exact Nat.zero_lt_one | assumption | omega), rfl, ?_⟩
    | refine ⟨⟨(by first | exact Nat.zero_lt_one | assumption | omega), rfl⟩, Nat.le_of_ble_eq_true rfl, ?_⟩
    | refine ⟨(by first | exact Nat.zero_lt_one | assumption | omega), ?_⟩
    | refine ⟨Or.inl rfl, ?_⟩
    | refine ⟨Or.inr (Or.inl rfl), ?_⟩
    | refine ⟨Or.inr (Or.inr rfl), ?_⟩
    | refine ⟨Or.inr ⟨rfl, (by first | exact Or.inl rfl | exact Or.inr rfl | assumption)⟩, ?_⟩
    | refine ⟨fun h => absurd h (by decide), fun _ => ?_⟩
    | refine ⟨fun _ => ?_, fun h => absurd h (by decide)⟩
    | refine ⟨fun h => ?_, fun h => ?_⟩
    | fail)
theorem l_oldest {d : Nat} {μ : zMu} {x y : Int32} {L : List zVt} {K : Option zV → zMu → Prop} (hL : mVs μ L) (h40 : L.length ≤ 40) (hK : K (some (zI (lF L x y))) μ) : Ct d m_Mo_oldest [zR 48 0, zI x, zI y] μ K := by
  refine c_Mo_oldest hL.1 h40 ?_
  rw [lF_m hL]
  exact hK
theorem l_forget {d v : Nat} {μ : zMu} {w : Int32} {L : List zVt} {K : Option zV → zMu → Prop} (hL : mVs μ L) (h40 : L.length ≤ 40) (hv : v < L.length) (hw : w = nI v) (hK : ∀ μ', zOnv μ μ' → mVs μ' (L.eraseIdx v) → K none μ') : Ct d m_Mo_forget [zR 48 0, zI w] μ K := by
  subst hw
  refine c_Mo_forget (n := L.length - 1) (by rw [show L.length - 1 + 1 = L.length by omega]; exact hL.1) (by omega) (by omega) (hK _ mRem_onv (mVs_rem hL hv))
/-! card -/
theorem c_Mo_card {d n : Nat} {μ : zMu} {x y : Int32} {L : List zVt} {K : Option zV → zMu → Prop} (hn : μ 48 0 5 = nI n) (hL : mVs μ L) (h40 : L.length ≤ 40) (h0 : ¬ (okI n x ∧ okI n y) → K (some (zI (-1))) μ) (h1 : okI n x ∧ okI n y → ∀ μ', zOnv μ μ' → mVs μ' (L.filter (fun e => !pMt x y e)) → K (some (zI (nI (L.countP (pMt x y))))) μ') : Ct (d + 1) m_Mo_card [zR 48 0, zI x, zI y] μ K := by
  refine zmeet rfl (Nat.le_of_ble_eq_true rfl) (fun S => ?_)
  by_cases ho : okI n x ∧ okI n y
  case neg =>
    have hk := h0 ho
    unfold okI at ho
    rw [← hn] at ho
    repeat' (first
      | refine c_Mo_isPerson (fun q1 => ?_) (fun q => ?_)
      | exact hk
      | (refine zs k_Mo_card rfl ?_; conv => whnf)
      | refine ⟨Nat.zero_lt_one, rfl, ?_⟩
      | refine ⟨rfl, ?_⟩
      | refine ⟨⟨Nat.zero_lt_one, rfl⟩, Nat.le_of_ble_eq_true rfl, ?_⟩
      | refine ⟨Nat.le_of_ble_eq_true rfl, Nat.le_of_ble_eq_true rfl, ?_⟩
      | refine ⟨(by first | exact Nat.zero_lt_one | assumption | omega), (by first | assumption | exact vp_in_nI (by omega) (by omega) | (unfold vp_in; decide)), ?_⟩
      | refine ⟨(by first | exact Nat.zero_lt_one | assumption | omega), rfl, ?_⟩
      | refine ⟨⟨(by first | exact Nat.zero_lt_one | assumption | omega), rfl⟩, Nat.le_of_ble_eq_true rfl, ?_⟩
      | refine ⟨(by first | exact Nat.zero_lt_one | assumption | omega), ?_⟩
      | refine ⟨Or.inl rfl, ?_⟩
      | refine ⟨Or.inr (Or.inl rfl), ?_⟩
      | refine ⟨Or.inr (Or.inr rfl), ?_⟩
      | refine ⟨Or.inr ⟨rfl, (by first | exact Or.inl rfl | exact Or.inr rfl | assumption)⟩, ?_⟩
      | refine ⟨fun h => absurd h (by decide), fun _ => ?_⟩
      | refine ⟨fun _ => ?_, fun h => absurd h (by decide)⟩
      | refine ⟨fun h => ?_, fun h => ?_⟩
      | exact absurd (by grind) ho
      | fail)
  have hx : 0 ≤ x ∧ x < μ 48 0 5 := by rw [hn]; exact ho.1
  have hy : 0 ≤ y ∧ y < μ 48 0 5 := by rw [hn]; exact ho.2
  have H : ∀ (m : Nat) (L1 : List zVt) (c : Int32) (μ1 : zMu), L1.countP (pMt x y) = m → L1.length ≤ 40 → L1.filter (fun e => !pMt x y e) = L.filter (fun e => !pMt x y e) → c = nI (L.countP (pMt x y) - m) → m ≤ L.countP (pMt x y) → zOnv μ μ1 → mVs μ1 L1 → zG S (d + 1) m_Mo_card K 20 [some (zR 48 0), some (zI x), some (zI y), some (zI c)] [] μ1 := by
    intro m
    induction m with
    | zero =>
      intro L1 c μ1 hm hl hf hc hle ho1 hv
      subst hc
      have hF : lF L1 x y = -1 := by
        rcases lF_in (x := x) (y := y) hl with q | ⟨v, e, q1, q2, q3, q4⟩
        · exact q.1
        · rw [List.countP_eq_zero] at hm
          exact absurd q4 (hm e (List.mem_of_getElem? q3))
      have hk := h1 ho μ1 ho1 (by
        have hL1 : L1.filter (fun e => !pMt x y e) = L1 := List.filter_eq_self.mpr (fun e he => by
          rw [List.countP_eq_zero] at hm
          have := hm e he
          simpa using this)
        rw [← hf, hL1]
        exact hv)
      refine zs k_Mo_card rfl ?_; conv => whnf
      repeat' (first
        | refine l_oldest hv hl ?_
        | refine br_t hF ?_
        | exact hk
        | (refine zs k_Mo_card rfl ?_; conv => whnf)
        | refine ⟨Nat.zero_lt_one, rfl, ?_⟩
        | refine ⟨rfl, ?_⟩
        | refine ⟨⟨Nat.zero_lt_one, rfl⟩, Nat.le_of_ble_eq_true rfl, ?_⟩
        | refine ⟨Nat.le_of_ble_eq_true rfl, Nat.le_of_ble_eq_true rfl, ?_⟩
        | refine ⟨(by first | exact Nat.zero_lt_one | assumption | omega), (by first | assumption | exact vp_in_nI (by omega) (by omega) | (unfold vp_in; decide)), ?_⟩
        | refine ⟨(by first | exact Nat.zero_lt_one | assumption | omega), rfl, ?_⟩
        | refine ⟨⟨(by first | exact Nat.zero_lt_one | assumption | omega), rfl⟩, Nat.le_of_ble_eq_true rfl, ?_⟩
        | refine ⟨(by first | exact Nat.zero_lt_one | assumption | omega), ?_⟩
        | refine ⟨Or.inl rfl, ?_⟩
        | refine ⟨Or.inr (Or.inl rfl), ?_⟩
        | refine ⟨Or.inr (Or.inr rfl), ?_⟩
        | refine ⟨Or.inr ⟨rfl, (by first | exact Or.inl rfl | exact Or.inr rfl | assumption)⟩, ?_⟩
        | refine ⟨fun h => absurd h (by decide), fun _ => ?_⟩
        | refine ⟨fun _ => ?_, fun h => absurd h (by decide)⟩
        | refine ⟨fun h => ?_, fun h => ?_⟩
        | fail)
    | succ m ih =>
      intro L1 c μ1 hm hl hf hc hle ho1 hv
      subst hc
      rcases lF_in (x := x) (y := y) hl with q | ⟨v, e, q1, q2, q3, q4⟩
      · exact absurd q.2 (by omega)
      obtain ⟨f1, f2⟩ := er_flt (p := pMt x y) q3 q4
      have hF : ¬ lF L1 x y = -1 := by rw [q2]; exact nI_nem1 (by omega)
      have hl2 : (L1.eraseIdx v).length ≤ 40 := by rw [List.length_eraseIdx_of_lt q1]; omega
      refine zs k_Mo_card rfl ?_; conv => whnf
      repeat' (first
        | refine l_oldest hv hl ?_
        | refine br_f hF ?_
        | refine l_forget hv hl q1 q2 (fun μ2 o2 v2 => ?_)
        | refine ih (L1.eraseIdx v) _ _ (by omega) hl2 (f1.trans hf) ?_ (by omega) (zOnv_tr ho1 o2) v2
        | (refine zs k_Mo_card rfl ?_; conv => whnf)
        | refine ⟨Nat.zero_lt_one, rfl, ?_⟩
        | refine ⟨rfl, ?_⟩
        | refine ⟨⟨Nat.zero_lt_one, rfl⟩, Nat.le_of_ble_eq_true rfl, ?_⟩
        | refine ⟨Nat.le_of_ble_eq_true rfl, Nat.le_of_ble_eq_true rfl, ?_⟩
        | refine ⟨(by first | exact Nat.zero_lt_one | assumption | omega), (by first | assumption | exact vp_in_nI (by omega) (by omega) | (unfold vp_in; decide)), ?_⟩
        | refine ⟨(by first | exact Nat.zero_lt_one | assumption | omega), rfl, ?_⟩
        | refine ⟨⟨(by first | exact Nat.zero_lt_one | assumption | omega), rfl⟩, Nat.le_of_ble_eq_true rfl, ?_⟩
        | refine ⟨(by first | exact Nat.zero_lt_one | assumption | omega), ?_⟩
        | refine ⟨Or.inl rfl, ?_⟩
        | refine ⟨Or.inr (Or.inl rfl), ?_⟩
        | refine ⟨Or.inr (Or.inr rfl), ?_⟩
        | refine ⟨Or.inr ⟨rfl, (by first | exact Or.inl rfl | exact Or.inr rfl | assumption)⟩, ?_⟩
        | refine ⟨fun h => absurd h (by decide), fun _ => ?_⟩
        | refine ⟨fun _ => ?_, fun h => absurd h (by decide)⟩
        | refine ⟨fun h => ?_, fun h => ?_⟩
        | fail)
      rw [nI_1]
      congr 1
      omega
  repeat' (first
    | refine c_Mo_isPerson (x := x) (fun q1 => ?_) (fun q => absurd hx q)
    | refine c_Mo_isPerson (x := y) (fun q1 => ?_) (fun q => absurd hy q)
    | refine H (L.countP (pMt x y)) L _ _ rfl h40 rfl (by rw [Nat.sub_self]; rfl) (Nat.le_refl _) ⟨fun _ _ => rfl, fun _ _ => rfl⟩ hL
    | (refine zs k_Mo_card rfl ?_; conv => whnf)
    | refine ⟨Nat.zero_lt_one, rfl, ?_⟩
    | refine ⟨rfl, ?_⟩
    | refine ⟨⟨Nat.zero_lt_one, rfl⟩, Nat.le_of_ble_eq_true rfl, ?_⟩
    | refine ⟨Nat.le_of_ble_eq_true rfl, Nat.le_of_ble_eq_true rfl, ?_⟩
    | refine ⟨(by first | exact Nat.zero_lt_one | assumption | omega), (by first | assumption | exact vp_in_nI (by omega) (by omega) | (unfold vp_in; decide)), ?_⟩
    | refine ⟨(by first | exact Nat.zero_lt_one | assumption | omega), rfl, ?_⟩
    | refine ⟨⟨(by first | exact Nat.zero_lt_one | assumption | omega), rfl⟩, Nat.le_of_ble_eq_true rfl, ?_⟩
    | refine ⟨(by first | exact Nat.zero_lt_one | assumption | omega), ?_⟩
    | refine ⟨Or.inl rfl, ?_⟩
    | refine ⟨Or.inr (Or.inl rfl), ?_⟩
    | refine ⟨Or.inr (Or.inr rfl), ?_⟩
    | refine ⟨Or.inr ⟨rfl, (by first | exact Or.inl rfl | exact Or.inr rfl | assumption)⟩, ?_⟩
    | refine ⟨fun h => absurd h (by decide), fun _ => ?_⟩
    | refine ⟨fun _ => ?_, fun h => absurd h (by decide)⟩
    | refine ⟨fun h => ?_, fun h => ?_⟩
    | fail)
theorem c_De_card {d n : Nat} {μ : zMu} {x y : Int32} {L : List zVt} {K : Option zV → zMu → Prop} (hn : μ 1 0 1 = nI n) (hL : cVs μ L) (h0 : ¬ (okI n x ∧ okI n y) → K (some (zI (-1))) μ) (h1 : okI n x ∧ okI n y → ∀ μ', zOnl [7, 45, 46, 47] μ μ' → μ' 7 0 1 = μ 7 0 1 → cVs μ' (L.filter (fun e => !pMt x y e)) → K (some (zI (nI (L.countP (pMt x y))))) μ') : Ct (d + 2) m_De_card [zR 0 0, zI x, zI y] μ K := by
  refine zmeet rfl (Nat.le_of_ble_eq_true rfl) (fun S => ?_)
  by_cases ho : okI n x ∧ okI n y
  case neg =>
    have hk := h0 ho
    unfold okI at ho
    rw [← hn] at ho
    repeat' (first
      | refine c_Ro_hasPerson (fun q1 q2 => ?_) (fun q => ?_)
      | exact hk
      | (refine zs k_De_card rfl ?_; conv => whnf)
      | refine ⟨Nat.zero_lt_one, rfl, ?_⟩
      | refine ⟨rfl, ?_⟩
      | refine ⟨⟨Nat.zero_lt_one, rfl⟩, Nat.le_of_ble_eq_true rfl, ?_⟩
      | refine ⟨Nat.le_of_ble_eq_true rfl, Nat.le_of_ble_eq_true rfl, ?_⟩
      | refine ⟨(by first | exact Nat.zero_lt_one | assumption | omega), (by first | assumption | exact vp_in_nI (by omega) (by omega) | (unfold vp_in; decide)), ?_⟩
      | refine ⟨(by first | exact Nat.zero_lt_one | assumption | omega), rfl, ?_⟩
      | refine ⟨⟨(by first | exact Nat.zero_lt_one | assumption | omega), rfl⟩, Nat.le_of_ble_eq_true rfl, ?_⟩
      | refine ⟨(by first | exact Nat.zero_lt_one | assumption | omega), ?_⟩
      | refine ⟨Or.inl rfl, ?_⟩
      | refine ⟨Or.inr (Or.inl rfl), ?_⟩
      | refine ⟨Or.inr (Or.inr rfl), ?_⟩
      | refine ⟨Or.inr ⟨rfl, (by first | exact Or.inl rfl | exact Or.inr rfl | assumption)⟩, ?_⟩
      | refine ⟨fun h => absurd h (by decide), fun _ => ?_⟩
      | refine ⟨fun _ => ?_, fun h => absurd h (by decide)⟩
      | refine ⟨fun h => ?_, fun h => ?_⟩
      | exact absurd (by grind) ho
      | fail)
  have hx : 0 ≤ x ∧ x < μ 1 0 1 := by rw [hn]; exact ho.1
  have hy : 0 ≤ y ∧ y < μ 1 0 1 := by rw [hn]; exact ho.2
  repeat' (first
    | refine c_Ro_hasPerson (x := x) (fun _ _ => ?_) (fun q => absurd hx q)
    | refine c_Ro_hasPerson (x := y) (fun _ _ => ?_) (fun q => absurd hy q)
    | refine c_Ca_settleAll hL (fun μ' o1 o2 o3 => ?_)
    | exact h1 ho μ' o1 o2 o3
    | (refine zs k_De_card rfl ?_; conv => whnf)
    | refine ⟨Nat.zero_lt_one, rfl, ?_⟩
    | refine ⟨rfl, ?_⟩
    | refine ⟨⟨Nat.zero_lt_one, rfl⟩, Nat.le_of_ble_eq_true rfl, ?_⟩
    | refine ⟨Nat.le_of_ble_eq_true rfl, Nat.le_of_ble_eq_true rfl, ?_⟩
    | refine ⟨(by first | exact Nat.zero_lt_one | assumption | omega), (by first | assumption | exact vp_in_nI (by omega) (by omega) | (unfold vp_in; decide)), ?_⟩
    | refine ⟨(by first | exact Nat.zero_lt_one | assumption | omega), rfl, ?_⟩
    | refine ⟨⟨(by first | exact Nat.zero_lt_one | assumption | omega), rfl⟩, Nat.le_of_ble_eq_true rfl, ?_⟩
    | refine ⟨(by first | exact Nat.zero_lt_one | assumption | omega), ?_⟩
    | refine ⟨Or.inl rfl, ?_⟩
    | refine ⟨Or.inr (Or.inl rfl), ?_⟩
    | refine ⟨Or.inr (Or.inr rfl), ?_⟩
    | refine ⟨Or.inr ⟨rfl, (by first | exact Or.inl rfl | exact Or.inr rfl | assumption)⟩, ?_⟩
    | refine ⟨fun h => absurd h (by decide), fun _ => ?_⟩
    | refine ⟨fun _ => ?_, fun h => absurd h (by decide)⟩
    | refine ⟨fun h => ?_, fun h => ?_⟩
    | fail)
/-- the visits alone have changed, alike on both sides -/
theorem Rel_vs {μ M : zMu} {L : List zVt} (h : Rel μ) (m0 : ∀ f, f ∉ [7, 45, 46, 47, 48, 99, 100, 101] → M f = μ f) (m7 : M 7 0 1 = μ 7 0 1) (m48 : ∀ k, k ≠ 48 → M 48 0 k = μ 48 0 k) (hc : cVs M L) (hm : mVs M L) : Rel M := by
  obtain ⟨ns, n, nr, nh, nt, nb, L0, g1, g2, g3, g4, g5, g6, g7, g8, g9, g10, g11⟩ := h
  have ef : ∀ l : List Nat, l.all (fun f => !([7, 45, 46, 47, 48, 99, 100, 101] : List Nat).contains f) = true → ∀ f, f ∈ l → M f = μ f := fun l hl f hf => m0 f (fun q => by
    have := List.all_eq_true.mp hl f hf
    simp only [Bool.not_eq_true', List.contains_eq_mem, decide_eq_false_iff_not] at this
    exact this q)
  refine ⟨ns, n, nr, nh, nt, nb, L, gSt_fr (ef _ rfl) (m48 0 (by omega)) g1, gPe_fr (ef _ rfl) (m48 5 (by omega)) g2, gTp_fr (ef _ rfl) (by rw [ef [2] rfl 2 (by simp)]) (m48 14 (by omega)) g3, gRu_fr (ef _ rfl) (m48 15 (by omega)) g4, gHd_fr (ef _ rfl) (m48 33 (by omega)) g5, gTb_fr (ef _ rfl) (m48 42 (by omega)) g6, gFe_fr (ef _ rfl) g7, gCo_fr (ef _ rfl) g8, ⟨hc, hm⟩, ?_, gCs_fr (ef _ rfl) g11⟩
  unfold gWi at *
  rw [m7, m48 52 (by omega)]
  exact g10
theorem mVs_c {μ M : zMu} {L : List zVt} (h : zOnl [7, 45, 46, 47] μ M) (g : mVs μ L) : mVs M L := by
  unfold mVs at *
  rw [h 48 (by simp), h 99 (by simp), h 100 (by simp), h 101 (by simp)]
  exact g
theorem cVs_m {μ M : zMu} {L : List zVt} (h : zOnv μ M) (g : cVs μ L) : cVs M L := by
  unfold cVs at *
  rw [h.1 7 (by simp), h.1 45 (by simp), h.1 46 (by simp), h.1 47 (by simp)]
  exact g
theorem b_card {μ : zMu} {x y : Int32} (h : Rel μ) : Both m_De_card m_Mo_card [zI x, zI y] μ := by
  intro d K hK
  obtain ⟨ns, n, nr, nh, nt, nb, L, g1, g2, g3, g4, g5, g6, g7, g8, g9, g10, g11⟩ := id h
  refine c_De_card g2.1 g9.1 (fun a => hK _ _ (fun d K2 hK2 => ?_)) (fun a μ1 o1 o2 o3 => hK _ _ (fun d K2 hK2 => ?_))
  · exact c_Mo_card g2.2.1 g9.2 g9.1.2.1 (fun _ => hK2 _ h) (fun q => absurd q a)
  · refine c_Mo_card (n := n) (by rw [o1 48 (by simp)]; exact g2.2.1) (mVs_c o1 g9.2) g9.1.2.1 (fun q => absurd a q) (fun _ μ2 p1 p2 => hK2 _ (Rel_vs h (fun f hf => ?_) ?_ (fun k hk => ?_) (cVs_m p1 o3) p2))
    · rw [p1.1 f (by simp at *; omega), o1 f (by simp at *; omega)]
    · rw [p1.1 7 (by simp)]
      exact o2
    · rw [p1.2 k hk, o1 48 (by simp)]
def okVi (n : Nat) (x y z : Int32) : Prop := ¬ x = y ∧ 0 ≤ z ∧ z ≤ 9999
theorem c_De_visit {d n : Nat} {μ : zMu} {x y z : Int32} {L : List zVt} {K : Option zV → zMu → Prop} (hn : μ 1 0 1 = nI n) (hL : cVs μ L) (h0 : ¬ (okI n x ∧ okI n y) → K (some (zI (-1))) μ) (h1 : okI n x ∧ okI n y → ¬ okVi n x y z → K (some (zI (-2))) μ) (h2 : okI n x ∧ okI n y → okVi n x y z → ∀ v μ', v < L.length → lF L x y = nI v → zOnl [7, 45, 46, 47] μ μ' → μ' 7 0 1 = μ 7 0 1 → cVs μ' (L.eraseIdx v) → K (some (zI 1)) μ')
    (h3 : okI n x ∧ okI n y → okVi n x y z → lF L x y = -1 → L.length = 40 → K (some (zI (-4))) μ) (h4 : okI n x ∧ okI n y → okVi n x y z → lF L x y = -1 → L.length < 40 → ∀ μ', zOnl [7, 45, 46, 47] μ μ' → μ' 7 0 1 = μ 7 0 1 → cVs μ' (L ++ [(y, x, z)]) → K (some (zI 0)) μ') : Ct (d + 2) m_De_visit [zR 0 0, zI x, zI y, zI z] μ K := by
  refine zmeet rfl (Nat.le_of_ble_eq_true rfl) (fun S => ?_)
  have hl := hL.2.1
  by_cases ho : okI n x ∧ okI n y
  case neg =>
    have hk := h0 ho
    unfold okI at ho
    rw [← hn] at ho
    repeat' (first
      | refine c_Ro_hasPerson (fun q1 q2 => ?_) (fun q => ?_)
      | exact hk
      | (refine zs k_De_visit rfl ?_; conv => whnf)
      | refine ⟨Nat.zero_lt_one, rfl, ?_⟩
      | refine ⟨rfl, ?_⟩
      | refine ⟨⟨Nat.zero_lt_one, rfl⟩, Nat.le_of_ble_eq_true rfl, ?_⟩
      | refine ⟨Nat.le_of_ble_eq_true rfl, Nat.le_of_ble_eq_true rfl, ?_⟩
      | refine ⟨(by first | exact Nat.zero_lt_one | assumption | omega), (by first | assumption | exact vp_in_nI (by omega) (by omega) | (unfold vp_in; decide)), ?_⟩
      | refine ⟨(by first | exact Nat.zero_lt_one | assumption | omega), rfl, ?_⟩
      | refine ⟨⟨(by first | exact Nat.zero_lt_one | assumption | omega), rfl⟩, Nat.le_of_ble_eq_true rfl, ?_⟩
      | refine ⟨(by first | exact Nat.zero_lt_one | assumption | omega), ?_⟩
      | refine ⟨Or.inl rfl, ?_⟩
      | refine ⟨Or.inr (Or.inl rfl), ?_⟩
      | refine ⟨Or.inr (Or.inr rfl), ?_⟩
      | refine ⟨Or.inr ⟨rfl, (by first | exact Or.inl rfl | exact Or.inr rfl | assumption)⟩, ?_⟩
      | refine ⟨fun h => absurd h (by decide), fun _ => ?_⟩
      | refine ⟨fun _ => ?_, fun h => absurd h (by decide)⟩
      | refine ⟨fun h => ?_, fun h => ?_⟩
      | exact absurd (by grind) ho
      | fail)
  have hx : 0 ≤ x ∧ x < μ 1 0 1 := by rw [hn]; exact ho.1
  have hy : 0 ≤ y ∧ y < μ 1 0 1 := by rw [hn]; exact ho.2
  by_cases hz : okVi n x y z
  case neg =>
    have hk := h1 ho hz
    unfold okVi at hz
    repeat' (first
      | refine c_Ro_hasPerson (x := x) (fun _ _ => ?_) (fun q => absurd hx q)
      | refine c_Ro_hasPerson (x := y) (fun _ _ => ?_) (fun q => absurd hy q)
      | exact hk
      | (refine zs k_De_visit rfl ?_; conv => whnf)
      | refine ⟨Nat.zero_lt_one, rfl, ?_⟩
      | refine ⟨rfl, ?_⟩
      | refine ⟨⟨Nat.zero_lt_one, rfl⟩, Nat.le_of_ble_eq_true rfl, ?_⟩
      | refine ⟨Nat.le_of_ble_eq_true rfl, Nat.le_of_ble_eq_true rfl, ?_⟩
      | refine ⟨(by first | exact Nat.zero_lt_one | assumption | omega), (by first | assumption | exact vp_in_nI (by omega) (by omega) | (unfold vp_in; decide)), ?_⟩
      | refine ⟨(by first | exact Nat.zero_lt_one | assumption | omega), rfl, ?_⟩
      | refine ⟨⟨(by first | exact Nat.zero_lt_one | assumption | omega), rfl⟩, Nat.le_of_ble_eq_true rfl, ?_⟩
      | refine ⟨(by first | exact Nat.zero_lt_one | assumption | omega), ?_⟩
      | refine ⟨Or.inl rfl, ?_⟩
      | refine ⟨Or.inr (Or.inl rfl), ?_⟩
      | refine ⟨Or.inr (Or.inr rfl), ?_⟩
      | refine ⟨Or.inr ⟨rfl, (by first | exact Or.inl rfl | exact Or.inr rfl | assumption)⟩, ?_⟩
      | refine ⟨fun h => absurd h (by decide), fun _ => ?_⟩
      | refine ⟨fun _ => ?_, fun h => absurd h (by decide)⟩
      | refine ⟨fun h => ?_, fun h => ?_⟩
      | exact absurd (by grind) hz
      | fail)
  obtain ⟨z1, z2, z3⟩ := id hz
  have z2' : ¬ z < 0 := by grind
  have hfull : L.length = 40 → ¬ μ 7 0 0 < 40 := fun h => by rw [hL.1, h]; decide
  have hnfull : L.length < 40 → μ 7 0 0 < 40 := fun h => by rw [hL.1]; exact nI_lt (b := 40) h (by omega)
  have fin : lF L x y = -1 → zG S (d + 2) m_De_visit K 57 [some (zR 0 0), some (zI x), some (zI y), some (zI z)] [] μ := fun hF => by
    rcases Nat.lt_or_ge L.length 40 with h | h
    · have hv : vp_in (μ 7 0 0) 40 := by rw [hL.1]; exact vp_in_nI h (by omega)
      have hc : (μ 7 0 0).toNatClampNeg = L.length := by rw [hL.1]; exact nI_clamp (by omega)
      have hlt := hnfull h
      have hk := h4 ho hz hF h (zu (zu (zu (zu μ 46 0 L.length y) 45 0 L.length x) 47 0 L.length z) 7 0 0 (nI (L.length + 1))) (fun f hf => by
        simp only [List.mem_cons, List.not_mem_nil, or_false, not_or] at hf
        funext a b
        rw [zu_ne (by omega), zu_ne (by omega), zu_ne (by omega), zu_ne (by omega)]) rfl (by
        refine ⟨by rw [List.length_append]; rfl, by rw [List.length_append]; simp; omega, fun k e he => ?_⟩
        show zu μ 46 0 L.length y 46 0 k = e.1 ∧ zu μ 45 0 L.length x 45 0 k = e.2.1 ∧ zu μ 47 0 L.length z 47 0 k = e.2.2
        rcases Nat.lt_or_ge k L.length with hk | hk
        · rw [List.getElem?_append_left hk] at he
          rw [zu_ne (by omega), zu_ne (by omega), zu_ne (by omega)]
          exact hL.2.2 k e he
        · rw [List.getElem?_append_right hk] at he
          have hk2 : k = L.length := by
            have := (List.getElem?_eq_some_iff.mp he).1
            simp at this
            omega
          subst hk2
          rw [Nat.sub_self] at he
          cases he
          rw [zu_eq, zu_eq, zu_eq]
          exact ⟨rfl, rfl, rfl⟩)
      repeat' (first
        | refine br_t hlt ?_
        | refine c_Ca_add hv ?_
        | exact zKe hk rfl (by rw [hc, hL.1, nI_1])
        | (refine zs k_De_visit rfl ?_; conv => whnf)
        | refine ⟨Nat.zero_lt_one, rfl, ?_⟩
        | refine ⟨rfl, ?_⟩
        | refine ⟨⟨Nat.zero_lt_one, rfl⟩, Nat.le_of_ble_eq_true rfl, ?_⟩
        | refine ⟨Nat.le_of_ble_eq_true rfl, Nat.le_of_ble_eq_true rfl, ?_⟩
        | refine ⟨(by first | exact Nat.zero_lt_one | assumption | omega), (by first | assumption | exact vp_in_nI (by omega) (by omega) | (unfold vp_in; decide)), ?_⟩
        | refine ⟨(by first | exact Nat.zero_lt_one | assumption | omega), rfl, ?_⟩
        | refine ⟨⟨(by first | exact Nat.zero_lt_one | assumption | omega), rfl⟩, Nat.le_of_ble_eq_true rfl, ?_⟩
        | refine ⟨(by first | exact Nat.zero_lt_one | assumption | omega), ?_⟩
        | refine ⟨Or.inl rfl, ?_⟩
        | refine ⟨Or.inr (Or.inl rfl), ?_⟩
        | refine ⟨Or.inr (Or.inr rfl), ?_⟩
        | refine ⟨Or.inr ⟨rfl, (by first | exact Or.inl rfl | exact Or.inr rfl | assumption)⟩, ?_⟩
        | refine ⟨fun h => absurd h (by decide), fun _ => ?_⟩
        | refine ⟨fun _ => ?_, fun h => absurd h (by decide)⟩
        | refine ⟨fun h => ?_, fun h => ?_⟩
        | fail)
    · have hk := h3 ho hz hF (by omega)
      have hlt := hfull (by omega)
      repeat' (first
        | refine br_f hlt ?_
        | exact hk
        | (refine zs k_De_visit rfl ?_; conv => whnf)
        | refine ⟨Nat.zero_lt_one, rfl, ?_⟩
        | refine ⟨rfl, ?_⟩
        | refine ⟨⟨Nat.zero_lt_one, rfl⟩, Nat.le_of_ble_eq_true rfl, ?_⟩
        | refine ⟨Nat.le_of_ble_eq_true rfl, Nat.le_of_ble_eq_true rfl, ?_⟩
        | refine ⟨(by first | exact Nat.zero_lt_one | assumption | omega), (by first | assumption | exact vp_in_nI (by omega) (by omega) | (unfold vp_in; decide)), ?_⟩
        | refine ⟨(by first | exact Nat.zero_lt_one | assumption | omega), rfl, ?_⟩
        | refine ⟨⟨(by first | exact Nat.zero_lt_one | assumption | omega), rfl⟩, Nat.le_of_ble_eq_true rfl, ?_⟩
        | refine ⟨(by first | exact Nat.zero_lt_one | assumption | omega), ?_⟩
        | refine ⟨Or.inl rfl, ?_⟩
        | refine ⟨Or.inr (Or.inl rfl), ?_⟩
        | refine ⟨Or.inr (Or.inr rfl), ?_⟩
        | refine ⟨Or.inr ⟨rfl, (by first | exact Or.inl rfl | exact Or.inr rfl | assumption)⟩, ?_⟩
        | refine ⟨fun h => absurd h (by decide), fun _ => ?_⟩
        | refine ⟨fun _ => ?_, fun h => absurd h (by decide)⟩
        | refine ⟨fun h => ?_, fun h => ?_⟩
        | fail)
  repeat' (first
    | refine c_Ro_hasPerson (x := x) (fun _ _ => ?_) (fun q => absurd hx q)
    | refine c_Ro_hasPerson (x := y) (fun _ _ => ?_) (fun q => absurd hy q)
    | refine br_f z1 ?_
    | refine br_f z2' ?_
    | refine br_t z3 ?_
    | refine c_Ca_settleOldest (n := L.length) hL.1 hl (fun v hv hF => ?_) (fun hF => ?_)
    | exact fin ((lF_c hL).symm.trans hF)
    | exact h2 ho hz v _ hv ((lF_c hL).symm.trans hF) cRem_onl.1 cRem_onl.2 (cVs_rem hL hv)
    | (refine zs k_De_visit rfl ?_; conv => whnf)
    | refine ⟨Nat.zero_lt_one, rfl, ?_⟩
    | refine ⟨rfl, ?_⟩
    | refine ⟨⟨Nat.zero_lt_one, rfl⟩, Nat.le_of_ble_eq_true rfl, ?_⟩
    | refine ⟨Nat.le_of_ble_eq_true rfl, Nat.le_of_ble_eq_true rfl, ?_⟩
    | refine ⟨(by first | exact Nat.zero_lt_one | assumption | omega), (by first | assumption | exact vp_in_nI (by omega) (by omega) | (unfold vp_in; decide)), ?_⟩
    | refine ⟨(by first | exact Nat.zero_lt_one | assumption | omega), rfl, ?_⟩
    | refine ⟨⟨(by first | exact Nat.zero_lt_one | assumption | omega), rfl⟩, Nat.le_of_ble_eq_true rfl, ?_⟩
    | refine ⟨(by first | exact Nat.zero_lt_one | assumption | omega), ?_⟩
    | refine ⟨Or.inl rfl, ?_⟩
    | refine ⟨Or.inr (Or.inl rfl), ?_⟩
    | refine ⟨Or.inr (Or.inr rfl), ?_⟩
    | refine ⟨Or.inr ⟨rfl, (by first | exact Or.inl rfl | exact Or.inr rfl | assumption)⟩, ?_⟩
    | refine ⟨fun h => absurd h (by decide), fun _ => ?_⟩
    | refine ⟨fun _ => ?_, fun h => absurd h (by decide)⟩
    | refine ⟨fun h => ?_, fun h => ?_⟩
    | fail)
theorem c_Mo_visit {d n : Nat} {μ : zMu} {x y z : Int32} {L : List zVt} {K : Option zV → zMu → Prop} (hn : μ 48 0 5 = nI n) (hL : mVs μ L) (hl : L.length ≤ 40) (h0 : ¬ (okI n x ∧ okI n y) → K (some (zI (-1))) μ) (h1 : okI n x ∧ okI n y → ¬ okVi n x y z → K (some (zI (-2))) μ) (h2 : okI n x ∧ okI n y → okVi n x y z → ∀ v μ', v < L.length → lF L x y = nI v → zOnv μ μ' → mVs μ' (L.eraseIdx v) → K (some (zI 1)) μ')
    (h3 : okI n x ∧ okI n y → okVi n x y z → lF L x y = -1 → L.length = 40 → K (some (zI (-4))) μ) (h4 : okI n x ∧ okI n y → okVi n x y z → lF L x y = -1 → L.length < 40 → ∀ μ', zOnv μ μ' → mVs μ' (L ++ [(y, x, z)]) → K (some (zI 0)) μ') : Ct (d + 1) m_Mo_visit [zR 48 0, zI x, zI y, zI z] μ K := by
  refine zmeet rfl (Nat.le_of_ble_eq_true rfl) (fun S => ?_)
  by_cases ho : okI n x ∧ okI n y
  case neg =>
    have hk := h0 ho
    unfold okI at ho
    rw [← hn] at ho
    repeat' (first
      | refine c_Mo_isPerson (fun q1 => ?_) (fun q => ?_)
      | exact hk
      | (refine zs k_Mo_visit rfl ?_; conv => whnf)
      | refine ⟨Nat.zero_lt_one, rfl, ?_⟩
      | refine ⟨rfl, ?_⟩
      | refine ⟨⟨Nat.zero_lt_one, rfl⟩, Nat.le_of_ble_eq_true rfl, ?_⟩
      | refine ⟨Nat.le_of_ble_eq_true rfl, Nat.le_of_ble_eq_true rfl, ?_⟩
      | refine ⟨(by first | exact Nat.zero_lt_one | assumption | omega), (by first | assumption | exact vp_in_nI (by omega) (by omega) | (unfold vp_in; decide)), ?_⟩
      | refine ⟨(by first | exact Nat.zero_lt_one | assumption | omega), rfl, ?_⟩
      | refine ⟨⟨(by first | exact Nat.zero_lt_one | assumption | omega), rfl⟩, Nat.le_of_ble_eq_true rfl, ?_⟩
      | refine ⟨(by first | exact Nat.zero_lt_one | assumption | omega), ?_⟩
      | refine ⟨Or.inl rfl, ?_⟩
      | refine ⟨Or.inr (Or.inl rfl), ?_⟩
      | refine ⟨Or.inr (Or.inr rfl), ?_⟩
      | refine ⟨Or.inr ⟨rfl, (by first | exact Or.inl rfl | exact Or.inr rfl | assumption)⟩, ?_⟩
      | refine ⟨fun h => absurd h (by decide), fun _ => ?_⟩
      | refine ⟨fun _ => ?_, fun h => absurd h (by decide)⟩
      | refine ⟨fun h => ?_, fun h => ?_⟩
      | exact absurd (by grind) ho
      | fail)
  have hx : 0 ≤ x ∧ x < μ 48 0 5 := by rw [hn]; exact ho.1
  have hy : 0 ≤ y ∧ y < μ 48 0 5 := by rw [hn]; exact ho.2
  by_cases hz : okVi n x y z
  case neg =>
    have hk := h1 ho hz
    have hz' : ¬ (¬ x = y ∧ 0 ≤ z ∧ z ≤ 9999) := hz
    repeat' (first
      | refine c_Mo_isPerson (x := x) (fun _ => ?_) (fun q => absurd hx q)
      | refine c_Mo_isPerson (x := y) (fun _ => ?_) (fun q => absurd hy q)
      | refine c_Mo_isIn (lo := 0) (hi := 9999) rfl rfl (fun hb => absurd ⟨by assumption, hb⟩ hz') (fun hb => ?_)
      | exact hk
      | (refine zs k_Mo_visit rfl ?_; conv => whnf)
      | refine ⟨Nat.zero_lt_one, rfl, ?_⟩
      | refine ⟨rfl, ?_⟩
      | refine ⟨⟨Nat.zero_lt_one, rfl⟩, Nat.le_of_ble_eq_true rfl, ?_⟩
      | refine ⟨Nat.le_of_ble_eq_true rfl, Nat.le_of_ble_eq_true rfl, ?_⟩
      | refine ⟨(by first | exact Nat.zero_lt_one | assumption | omega), (by first | assumption | exact vp_in_nI (by omega) (by omega) | (unfold vp_in; decide)), ?_⟩
      | refine ⟨(by first | exact Nat.zero_lt_one | assumption | omega), rfl, ?_⟩
      | refine ⟨⟨(by first | exact Nat.zero_lt_one | assumption | omega), rfl⟩, Nat.le_of_ble_eq_true rfl, ?_⟩
      | refine ⟨(by first | exact Nat.zero_lt_one | assumption | omega), ?_⟩
      | refine ⟨Or.inl rfl, ?_⟩
      | refine ⟨Or.inr (Or.inl rfl), ?_⟩
      | refine ⟨Or.inr (Or.inr rfl), ?_⟩
      | refine ⟨Or.inr ⟨rfl, (by first | exact Or.inl rfl | exact Or.inr rfl | assumption)⟩, ?_⟩
      | refine ⟨fun h => absurd h (by decide), fun _ => ?_⟩
      | refine ⟨fun _ => ?_, fun h => absurd h (by decide)⟩
      | refine ⟨fun h => ?_, fun h => ?_⟩
      | fail)
  obtain ⟨z1, z2⟩ := id hz
  have hfull : L.length = 40 → μ 48 0 48 = 40 := fun h => by rw [hL.1, h]; rfl
  have hnfull : L.length < 40 → ¬ μ 48 0 48 = 40 := fun h => by rw [hL.1]; exact fun e => absurd ((nI_eq (b := 40) (by omega) (by omega)).mp e) (by omega)
  rcases lF_in (x := x) (y := y) hl with q | ⟨v, e, q1, q2, q3, q4⟩
  · rcases Nat.lt_or_ge L.length 40 with h | h
    · have hv : vp_in (μ 48 0 48) 40 := by rw [hL.1]; exact vp_in_nI h (by omega)
      have hc : (μ 48 0 48).toNatClampNeg = L.length := by rw [hL.1]; exact nI_clamp (by omega)
      have hlt := hnfull h
      have hk := h4 ho hz q.1 h (zu (zu (zu (zu μ 99 0 L.length y) 100 0 L.length x) 101 0 L.length z) 48 0 48 (nI (L.length + 1))) ⟨fun f hf => by
        simp only [List.mem_cons, List.not_mem_nil, or_false, not_or] at hf
        funext a b
        rw [zu_ne (by omega), zu_ne (by omega), zu_ne (by omega), zu_ne (by omega)], fun k hk => by
        rw [zu_ne (by omega), zu_ne (by omega), zu_ne (by omega), zu_ne (by omega)]⟩ (by
        refine ⟨by rw [List.length_append]; rfl, fun k e he => ?_⟩
        show zu μ 99 0 L.length y 99 0 k = e.1 ∧ zu μ 100 0 L.length x 100 0 k = e.2.1 ∧ zu μ 101 0 L.length z 101 0 k = e.2.2
        rcases Nat.lt_or_ge k L.length with hk | hk
        · rw [List.getElem?_append_left hk] at he
          rw [zu_ne (by omega), zu_ne (by omega), zu_ne (by omega)]
          exact hL.2 k e he
        · rw [List.getElem?_append_right hk] at he
          have hk2 : k = L.length := by
            have := (List.getElem?_eq_some_iff.mp he).1
            simp at this
            omega
          subst hk2
          rw [Nat.sub_self] at he
          cases he
          rw [zu_eq, zu_eq, zu_eq]
          exact ⟨rfl, rfl, rfl⟩)
      repeat' (first
        | refine c_Mo_isPerson (x := x) (fun _ => ?_) (fun q => absurd hx q)
        | refine c_Mo_isPerson (x := y) (fun _ => ?_) (fun q => absurd hy q)
        | refine br_f z1 ?_
        | refine c_Mo_isIn (lo := 0) (hi := 9999) rfl rfl (fun hb => ?_) (fun hb => absurd z2 hb)
        | refine l_oldest hL hl ?_
        | refine br_t q.1 ?_
        | refine bn_t hlt ?_
        | exact zKe hk rfl (by show zu (zu (zu (zu μ 99 0 (μ 48 0 48).toNatClampNeg y) 100 0 (μ 48 0 48).toNatClampNeg x) 101 0 (μ 48 0 48).toNatClampNeg z) 48 0 48 (μ 48 0 48 + 1) = _; rw [hc, hL.1, nI_1])
        | (refine zs k_Mo_visit rfl ?_; conv => whnf)
        | refine ⟨Nat.zero_lt_one, rfl, ?_⟩
        | refine ⟨rfl, ?_⟩
        | refine ⟨⟨Nat.zero_lt_one, rfl⟩, Nat.le_of_ble_eq_true rfl, ?_⟩
        | refine ⟨Nat.le_of_ble_eq_true rfl, Nat.le_of_ble_eq_true rfl, ?_⟩
        | refine ⟨(by first | exact Nat.zero_lt_one | assumption | omega), (by first | assumption | exact vp_in_nI (by omega) (by omega) | (unfold vp_in; decide)), ?_⟩
        | refine ⟨(by first | exact Nat.zero_lt_one | assumption | omega), rfl, ?_⟩
        | refine ⟨⟨(by first | exact Nat.zero_lt_one | assumption | omega), rfl⟩, Nat.le_of_ble_eq_true rfl, ?_⟩
        | refine ⟨(by first | exact Nat.zero_lt_one | assumption | omega), ?_⟩
        | refine ⟨Or.inl rfl, ?_⟩
        | refine ⟨Or.inr (Or.inl rfl), ?_⟩
        | refine ⟨Or.inr (Or.inr rfl), ?_⟩
        | refine ⟨Or.inr ⟨rfl, (by first | exact Or.inl rfl | exact Or.inr rfl | assumption)⟩, ?_⟩
        | refine ⟨fun h => absurd h (by decide), fun _ => ?_⟩
        | refine ⟨fun _ => ?_, fun h => absurd h (by decide)⟩
        | refine ⟨fun h => ?_, fun h => ?_⟩
        | fail)
    · have hk := h3 ho hz q.1 (by omega)
      have hlt := hfull (by omega)
      repeat' (first
        | refine c_Mo_isPerson (x := x) (fun _ => ?_) (fun q => absurd hx q)
        | refine c_Mo_isPerson (x := y) (fun _ => ?_) (fun q => absurd hy q)
        | refine br_f z1 ?_
        | refine c_Mo_isIn (lo := 0) (hi := 9999) rfl rfl (fun hb => ?_) (fun hb => absurd z2 hb)
        | refine l_oldest hL hl ?_
        | refine br_t q.1 ?_
        | refine bn_f hlt ?_
        | exact hk
        | (refine zs k_Mo_visit rfl ?_; conv => whnf)
        | refine ⟨Nat.zero_lt_one, rfl, ?_⟩
        | refine ⟨rfl, ?_⟩
        | refine ⟨⟨Nat.zero_lt_one, rfl⟩, Nat.le_of_ble_eq_true rfl, ?_⟩
        | refine ⟨Nat.le_of_ble_eq_true rfl, Nat.le_of_ble_eq_true rfl, ?_⟩
        | refine ⟨(by first | exact Nat.zero_lt_one | assumption | omega), (by first | assumption | exact vp_in_nI (by omega) (by omega) | (unfold vp_in; decide)), ?_⟩
        | refine ⟨(by first | exact Nat.zero_lt_one | assumption | omega), rfl, ?_⟩
        | refine ⟨⟨(by first | exact Nat.zero_lt_one | assumption | omega), rfl⟩, Nat.le_of_ble_eq_true rfl, ?_⟩
        | refine ⟨(by first | exact Nat.zero_lt_one | assumption | omega), ?_⟩
        | refine ⟨Or.inl rfl, ?_⟩
        | refine ⟨Or.inr (Or.inl rfl), ?_⟩
        | refine ⟨Or.inr (Or.inr rfl), ?_⟩
        | refine ⟨Or.inr ⟨rfl, (by first | exact Or.inl rfl | exact Or.inr rfl | assumption)⟩, ?_⟩
        | refine ⟨fun h => absurd h (by decide), fun _ => ?_⟩
        | refine ⟨fun _ => ?_, fun h => absurd h (by decide)⟩
        | refine ⟨fun h => ?_, fun h => ?_⟩
        | fail)
  · have hF : ¬ lF L x y = -1 := by rw [q2]; exact nI_nem1 (by omega)
    repeat' (first
      | refine c_Mo_isPerson (x := x) (fun _ => ?_) (fun q => absurd hx q)
      | refine c_Mo_isPerson (x := y) (fun _ => ?_) (fun q => absurd hy q)
      | refine br_f z1 ?_
      | refine c_Mo_isIn (lo := 0) (hi := 9999) rfl rfl (fun hb => ?_) (fun hb => absurd z2 hb)
      | refine l_oldest hL hl ?_
      | refine br_f hF ?_
      | refine l_forget hL hl q1 q2 (fun μ2 o2 v2 => ?_)
      | exact h2 ho hz v _ q1 q2 o2 v2
      | (refine zs k_Mo_visit rfl ?_; conv => whnf)
      | refine ⟨Nat.zero_lt_one, rfl, ?_⟩
      | refine ⟨rfl, ?_⟩
      | refine ⟨⟨Nat.zero_lt_one, rfl⟩, Nat.le_of_ble_eq_true rfl, ?_⟩
      | refine ⟨Nat.le_of_ble_eq_true rfl, Nat.le_of_ble_eq_true rfl, ?_⟩
      | refine ⟨(by first | exact Nat.zero_lt_one | assumption | omega), (by first | assumption | exact vp_in_nI (by omega) (by omega) | (unfold vp_in; decide)), ?_⟩
      | refine ⟨(by first | exact Nat.zero_lt_one | assumption | omega), rfl, ?_⟩
      | refine ⟨⟨(by first | exact Nat.zero_lt_one | assumption | omega), rfl⟩, Nat.le_of_ble_eq_true rfl, ?_⟩
      | refine ⟨(by first | exact Nat.zero_lt_one | assumption | omega), ?_⟩
      | refine ⟨Or.inl rfl, ?_⟩
      | refine ⟨Or.inr (Or.inl rfl), ?_⟩
      | refine ⟨Or.inr (Or.inr rfl), ?_⟩
      | refine ⟨Or.inr ⟨rfl, (by first | exact Or.inl rfl | exact Or.inr rfl | assumption)⟩, ?_⟩
      | refine ⟨fun h => absurd h (by decide), fun _ => ?_⟩
      | refine ⟨fun _ => ?_, fun h => absurd h (by decide)⟩
      | refine ⟨fun h => ?_, fun h => ?_⟩
      | fail)
theorem b_visit {μ : zMu} {x y z : Int32} (h : Rel μ) : Both m_De_visit m_Mo_visit [zI x, zI y, zI z] μ := by
  intro d K hK
  obtain ⟨ns, n, nr, nh, nt, nb, L, g1, g2, g3, g4, g5, g6, g7, g8, g9, g10, g11⟩ := id h
  have hl := g9.1.2.1
  refine c_De_visit g2.1 g9.1 (fun a => hK _ _ (fun d K2 hK2 => ?_)) (fun a b => hK _ _ (fun d K2 hK2 => ?_)) (fun a b v μ1 hv hF o1 o2 o3 => hK _ _ (fun d K2 hK2 => ?_)) (fun a b hF hf => hK _ _ (fun d K2 hK2 => ?_)) (fun a b hF hf μ1 o1 o2 o3 => hK _ _ (fun d K2 hK2 => ?_))
  · exact c_Mo_visit g2.2.1 g9.2 hl (fun _ => hK2 _ h) (fun q => absurd q a) (fun q => absurd q a) (fun q => absurd q a) (fun q => absurd q a)
  · exact c_Mo_visit g2.2.1 g9.2 hl (fun q => absurd a q) (fun _ _ => hK2 _ h) (fun _ q => absurd q b) (fun _ q => absurd q b) (fun _ q => absurd q b)
  · refine c_Mo_visit (n := n) (by rw [o1 48 (by simp)]; exact g2.2.1) (mVs_c o1 g9.2) hl (fun q => absurd a q) (fun _ q => absurd b q) (fun _ _ v' μ2 hv' hF' p1 p2 => ?_) (fun _ _ q => absurd (hF.symm.trans q) (nI_nem1 (by omega))) (fun _ _ q => absurd (hF.symm.trans q) (nI_nem1 (by omega)))
    obtain rfl := (nI_eq (by omega) (by omega)).mp (hF.symm.trans hF')
    refine hK2 _ (Rel_vs h (fun f hf => ?_) ?_ (fun k hk => ?_) (cVs_m p1 o3) p2)
    · rw [p1.1 f (by simp at *; omega), o1 f (by simp at *; omega)]
    · rw [p1.1 7 (by simp)]
      exact o2
    · rw [p1.2 k hk, o1 48 (by simp)]
  · exact c_Mo_visit g2.2.1 g9.2 hl (fun q => absurd a q) (fun _ q => absurd b q) (fun _ _ v' μ2 hv' hF' => absurd (hF'.symm.trans hF) (nI_nem1 (by omega))) (fun _ _ _ _ => hK2 _ h) (fun _ _ _ q => absurd q (by omega))
  · refine c_Mo_visit (n := n) (by rw [o1 48 (by simp)]; exact g2.2.1) (mVs_c o1 g9.2) hl (fun q => absurd a q) (fun _ q => absurd b q) (fun _ _ v' μ2 hv' hF' => absurd (hF'.symm.trans hF) (nI_nem1 (by omega))) (fun _ _ _ q => absurd q (by omega)) (fun _ _ _ _ μ2 p1 p2 => ?_)
    refine hK2 _ (Rel_vs h (fun f hf => ?_) ?_ (fun k hk => ?_) (cVs_m p1 o3) p2)
    · rw [p1.1 f (by simp at *; omega), o1 f (by simp at *; omega)]
    · rw [p1.1 7 (by simp)]
      exact o2
    · rw [p1.2 k hk, o1 48 (by simp)]
/-! owes -/
def oAns (P : Nat → Bool) (C D : Nat → Int32) (w j day : Int32) (m : Nat) : Int32 := if pNth P j m = -1 then -1 else 100 * C (pNth P j m).toNatClampNeg + (if D (pNth P j m).toNatClampNeg + w < day then 1 else 0)
theorem pNth_in {P : Nat → Bool} {j : Int32} {m : Nat} (hm : m < 2 ^ 31) : pNth P j m = -1 ∨ ∃ v, v < m ∧ pNth P j m = nI v := by
  rcases pFst_in (P := fun v => P v && decide (nI (pCt P v) = j)) (n := m) hm with q | ⟨v, hv, q, -⟩
  · exact Or.inl q
  · exact Or.inr ⟨v, hv, q⟩
theorem c_De_owes {d n m : Nat} {μ : zMu} {x j z : Int32} {K : Option zV → zMu → Prop} (hn : μ 1 0 1 = nI n) (hm : μ 7 0 0 = nI m) (h40 : m ≤ 40) (h0 : ¬ okI n x → K (some (zI (-1))) μ) (h1 : okI n x → K (some (zI (oAns (fun v => decide (μ 46 0 v = x)) (μ 45 0) (μ 47 0) (μ 7 0 1) j z m))) μ) : Ct (d + 1) m_De_owes [zR 0 0, zI x, zI j, zI z] μ K := by
  refine zmeet rfl (Nat.le_of_ble_eq_true rfl) (fun S => ?_)
  by_cases ho : okI n x
  case neg =>
    have hk := h0 ho
    have ho' : ¬ (0 ≤ x ∧ x < μ 1 0 1) := by rw [hn]; exact ho
    repeat' (first
      | refine c_Ro_hasPerson (fun h h' => absurd ⟨h, h'⟩ ho') (fun _ => ?_)
      | exact hk
      | (refine zs k_De_owes rfl ?_; conv => whnf)
      | refine ⟨Nat.zero_lt_one, rfl, ?_⟩
      | refine ⟨rfl, ?_⟩
      | refine ⟨⟨Nat.zero_lt_one, rfl⟩, Nat.le_of_ble_eq_true rfl, ?_⟩
      | refine ⟨Nat.le_of_ble_eq_true rfl, Nat.le_of_ble_eq_true rfl, ?_⟩
      | refine ⟨(by first | exact Nat.zero_lt_one | assumption | omega), (by first | assumption | exact vp_in_nI (by omega) (by omega) | (unfold vp_in; decide)), ?_⟩
      | refine ⟨(by first | exact Nat.zero_lt_one | assumption | omega), rfl, ?_⟩
      | refine ⟨⟨(by first | exact Nat.zero_lt_one | assumption | omega), rfl⟩, Nat.le_of_ble_eq_true rfl, ?_⟩
      | refine ⟨(by first | exact Nat.zero_lt_one | assumption | omega), ?_⟩
      | refine ⟨Or.inl rfl, ?_⟩
      | refine ⟨Or.inr (Or.inl rfl), ?_⟩
      | refine ⟨Or.inr (Or.inr rfl), ?_⟩
      | refine ⟨Or.inr ⟨rfl, (by first | exact Or.inl rfl | exact Or.inr rfl | assumption)⟩, ?_⟩
      | refine ⟨fun h => absurd h (by decide), fun _ => ?_⟩
      | refine ⟨fun _ => ?_, fun h => absurd h (by decide)⟩
      | refine ⟨fun h => ?_, fun h => ?_⟩
      | fail)
  have hk := h1 ho
  have hx : 0 ≤ x ∧ x < μ 1 0 1 := by rw [hn]; exact ho
  unfold oAns at hk
  rcases pNth_in (P := fun v => decide (μ 46 0 v = x)) (j := j) (m := m) (by omega) with q | ⟨v, hv, q⟩
  · rw [if_pos q] at hk
    repeat' (first
      | refine c_Ro_hasPerson (fun _ _ => ?_) (fun h => absurd hx h)
      | refine c_Ca_find hm h40 ?_
      | refine bn_f q ?_
      | exact hk
      | (refine zs k_De_owes rfl ?_; conv => whnf)
      | refine ⟨Nat.zero_lt_one, rfl, ?_⟩
      | refine ⟨rfl, ?_⟩
      | refine ⟨⟨Nat.zero_lt_one, rfl⟩, Nat.le_of_ble_eq_true rfl, ?_⟩
      | refine ⟨Nat.le_of_ble_eq_true rfl, Nat.le_of_ble_eq_true rfl, ?_⟩
      | refine ⟨(by first | exact Nat.zero_lt_one | assumption | omega), (by first | assumption | exact vp_in_nI (by omega) (by omega) | (unfold vp_in; decide)), ?_⟩
      | refine ⟨(by first | exact Nat.zero_lt_one | assumption | omega), rfl, ?_⟩
      | refine ⟨⟨(by first | exact Nat.zero_lt_one | assumption | omega), rfl⟩, Nat.le_of_ble_eq_true rfl, ?_⟩
      | refine ⟨(by first | exact Nat.zero_lt_one | assumption | omega), ?_⟩
      | refine ⟨Or.inl rfl, ?_⟩
      | refine ⟨Or.inr (Or.inl rfl), ?_⟩
      | refine ⟨Or.inr (Or.inr rfl), ?_⟩
      | refine ⟨Or.inr ⟨rfl, (by first | exact Or.inl rfl | exact Or.inr rfl | assumption)⟩, ?_⟩
      | refine ⟨fun h => absurd h (by decide), fun _ => ?_⟩
      | refine ⟨fun _ => ?_, fun h => absurd h (by decide)⟩
      | refine ⟨fun h => ?_, fun h => ?_⟩
      | fail)
  · have hne : ¬ pNth (fun v => decide (μ 46 0 v = x)) j m = -1 := by rw [q]; exact nI_nem1 (by omega)
    have hv2 : vp_in (pNth (fun v => decide (μ 46 0 v = x)) j m) 40 := by rw [q]; exact vp_in_nI (by omega) (by omega)
    rw [if_neg hne] at hk
    repeat' (first
      | refine c_Ro_hasPerson (fun _ _ => ?_) (fun h => absurd hx h)
      | refine c_Ca_find hm h40 ?_
      | refine bn_t hne ?_
      | refine c_Ca_isLate hv2 (fun hb => ?_) (fun hb => ?_)
      | exact zKe hk (by rw [if_pos (by assumption)]) rfl
      | exact zKe hk (by rw [if_neg (by assumption)]) rfl
      | (refine zs k_De_owes rfl ?_; conv => whnf)
      | refine ⟨Nat.zero_lt_one, rfl, ?_⟩
      | refine ⟨rfl, ?_⟩
      | refine ⟨⟨Nat.zero_lt_one, rfl⟩, Nat.le_of_ble_eq_true rfl, ?_⟩
      | refine ⟨Nat.le_of_ble_eq_true rfl, Nat.le_of_ble_eq_true rfl, ?_⟩
      | refine ⟨(by first | exact Nat.zero_lt_one | assumption | omega), (by first | assumption | exact vp_in_nI (by omega) (by omega) | (unfold vp_in; decide)), ?_⟩
      | refine ⟨(by first | exact Nat.zero_lt_one | assumption | omega), rfl, ?_⟩
      | refine ⟨⟨(by first | exact Nat.zero_lt_one | assumption | omega), rfl⟩, Nat.le_of_ble_eq_true rfl, ?_⟩
      | refine ⟨(by first | exact Nat.zero_lt_one | assumption | omega), ?_⟩
      | refine ⟨Or.inl rfl, ?_⟩
      | refine ⟨Or.inr (Or.inl rfl), ?_⟩
      | refine ⟨Or.inr (Or.inr rfl), ?_⟩
      | refine ⟨Or.inr ⟨rfl, (by first | exact Or.inl rfl | exact Or.inr rfl | assumption)⟩, ?_⟩
      | refine ⟨fun h => absurd h (by decide), fun _ => ?_⟩
      | refine ⟨fun _ => ?_, fun h => absurd h (by decide)⟩
      | refine ⟨fun h => ?_, fun h => ?_⟩
      | fail)
set_option maxHeartbeats 1000000 in
theorem c_Mo_owes {d n m : Nat} {μ : zMu} {x j z : Int32} {K : Option zV → zMu → Prop} (hn : μ 48 0 5 = nI n) (hm : μ 48 0 48 = nI m) (h40 : m ≤ 40) (h0 : ¬ okI n x → K (some (zI (-1))) μ) (h1 : okI n x → K (some (zI (oAns (fun v => decide (μ 99 0 v = x)) (μ 100 0) (μ 101 0) (μ 48 0 52) j z m))) μ) : Ct (d + 1) m_Mo_owes [zR 48 0, zI x, zI j, zI z] μ K := by
  refine zmeet rfl (Nat.le_of_ble_eq_true rfl) (fun S => ?_)
  by_cases ho : okI n x
  case neg =>
    have hk := h0 ho
    have ho' : ¬ (0 ≤ x ∧ x < μ 48 0 5) := by rw [hn]; exact ho
    repeat' (first
      | refine c_Mo_isPerson (fun h => absurd h ho') (fun _ => ?_)
      | exact hk
      | (refine zs k_Mo_owes rfl ?_; conv => whnf)
      | refine ⟨Nat.zero_lt_one, rfl, ?_⟩
      | refine ⟨rfl, ?_⟩
      | refine ⟨⟨Nat.zero_lt_one, rfl⟩, Nat.le_of_ble_eq_true rfl, ?_⟩
      | refine ⟨Nat.le_of_ble_eq_true rfl, Nat.le_of_ble_eq_true rfl, ?_⟩
      | refine ⟨(by first | exact Nat.zero_lt_one | assumption | omega), (by first | assumption | exact vp_in_nI (by omega) (by omega) | (unfold vp_in; decide)), ?_⟩
      | refine ⟨(by first | exact Nat.zero_lt_one | assumption | omega), rfl, ?_⟩
      | refine ⟨⟨(by first | exact Nat.zero_lt_one | assumption | omega), rfl⟩, Nat.le_of_ble_eq_true rfl, ?_⟩
      | refine ⟨(by first | exact Nat.zero_lt_one | assumption | omega), ?_⟩
      | refine ⟨Or.inl rfl, ?_⟩
      | refine ⟨Or.inr (Or.inl rfl), ?_⟩
      | refine ⟨Or.inr (Or.inr rfl), ?_⟩
      | refine ⟨Or.inr ⟨rfl, (by first | exact Or.inl rfl | exact Or.inr rfl | assumption)⟩, ?_⟩
      | refine ⟨fun h => absurd h (by decide), fun _ => ?_⟩
      | refine ⟨fun _ => ?_, fun h => absurd h (by decide)⟩
      | refine ⟨fun h => ?_, fun h => ?_⟩
      | fail)
  have hk := h1 ho
  have hx : 0 ≤ x ∧ x < μ 48 0 5 := by rw [hn]; exact ho
  unfold oAns at hk
  generalize hP : (fun v => decide (μ 99 0 v = x)) = P at hk
  have hPv : ∀ v, P v = decide (μ 99 0 v = x) := fun v => by rw [← hP]
  by_cases hj : 0 ≤ j
  case neg =>
    have q : pNth P j m = -1 := by
      unfold pNth
      refine pFst_none (fun v hv => ?_)
      rw [Bool.and_eq_false_iff]
      refine Or.inr (decide_eq_false (fun e => hj ?_))
      rw [← e]
      exact nI_pos' (by have := pCt_le P v; omega)
    rw [if_pos q] at hk
    repeat' (first
      | refine c_Mo_isPerson (fun _ => ?_) (fun h => absurd hx h)
      | refine br_f hj ?_
      | exact hk
      | (refine zs k_Mo_owes rfl ?_; conv => whnf)
      | refine ⟨Nat.zero_lt_one, rfl, ?_⟩
      | refine ⟨rfl, ?_⟩
      | refine ⟨⟨Nat.zero_lt_one, rfl⟩, Nat.le_of_ble_eq_true rfl, ?_⟩
      | refine ⟨Nat.le_of_ble_eq_true rfl, Nat.le_of_ble_eq_true rfl, ?_⟩
      | refine ⟨(by first | exact Nat.zero_lt_one | assumption | omega), (by first | assumption | exact vp_in_nI (by omega) (by omega) | (unfold vp_in; decide)), ?_⟩
      | refine ⟨(by first | exact Nat.zero_lt_one | assumption | omega), rfl, ?_⟩
      | refine ⟨⟨(by first | exact Nat.zero_lt_one | assumption | omega), rfl⟩, Nat.le_of_ble_eq_true rfl, ?_⟩
      | refine ⟨(by first | exact Nat.zero_lt_one | assumption | omega), ?_⟩
      | refine ⟨Or.inl rfl, ?_⟩
      | refine ⟨Or.inr (Or.inl rfl), ?_⟩
      | refine ⟨Or.inr (Or.inr rfl), ?_⟩
      | refine ⟨Or.inr ⟨rfl, (by first | exact Or.inl rfl | exact Or.inr rfl | assumption)⟩, ?_⟩
      | refine ⟨fun h => absurd h (by decide), fun _ => ?_⟩
      | refine ⟨fun _ => ?_, fun h => absurd h (by decide)⟩
      | refine ⟨fun h => ?_, fun h => ?_⟩
      | fail)
  have Lp : ∀ (k i : Nat) (l v : Int32), i + k = m → v = nI i → l = j - nI (pCt P i) → (∀ r, r < i → (P r && decide (nI (pCt P r) = j)) = false) → zG S (d + 1) m_Mo_owes K 20 [some (zR 48 0), some (zI x), some (zI j), some (zI z), some (zI l), some (zI v)] [] μ := by
    intro k
    induction k with
    | zero =>
      intro i l v hi hv hl hz
      subst hv
      obtain rfl : i = m := by omega
      have q : pNth P j i = -1 := pFst_none hz
      rw [if_pos q] at hk
      refine zs k_Mo_owes rfl ?_; conv => whnf
      repeat' (first
        | exact hk
        | (refine zs k_Mo_owes rfl ?_; conv => whnf)
        | refine br_t (by simp (disch := omega) only [hm, nI_leI, nI_ltI, nI_eq]; omega) ?_
        | refine br_f (by simp (disch := omega) only [hm, nI_leI, nI_ltI, nI_eq]; omega) ?_
        | refine ⟨Nat.zero_lt_one, rfl, ?_⟩
        | refine ⟨rfl, ?_⟩
        | refine ⟨⟨Nat.zero_lt_one, rfl⟩, Nat.le_of_ble_eq_true rfl, ?_⟩
        | refine ⟨Nat.le_of_ble_eq_true rfl, Nat.le_of_ble_eq_true rfl, ?_⟩
        | refine ⟨(by first | exact Nat.zero_lt_one | assumption | omega), (by first | assumption | exact vp_in_nI (by omega) (by omega) | (unfold vp_in; decide)), ?_⟩
        | refine ⟨(by first | exact Nat.zero_lt_one | assumption | omega), rfl, ?_⟩
        | refine ⟨⟨(by first | exact Nat.zero_lt_one | assumption | omega), rfl⟩, Nat.le_of_ble_eq_true rfl, ?_⟩
        | refine ⟨(by first | exact Nat.zero_lt_one | assumption | omega), ?_⟩
        | refine ⟨Or.inl rfl, ?_⟩
        | refine ⟨Or.inr (Or.inl rfl), ?_⟩
        | refine ⟨Or.inr (Or.inr rfl), ?_⟩
        | refine ⟨Or.inr ⟨rfl, (by first | exact Or.inl rfl | exact Or.inr rfl | assumption)⟩, ?_⟩
        | refine ⟨fun h => absurd h (by decide), fun _ => ?_⟩
        | refine ⟨fun _ => ?_, fun h => absurd h (by decide)⟩
        | refine ⟨fun h => ?_, fun h => ?_⟩
        | fail)
    | succ k ih =>
      intro i l v hi hv hl hz
      subst hv
      have hc : (nI i).toNatClampNeg = i := nI_clamp (by omega)
      have hp : pCt P (i + 1) = pCt P i + (if P i then 1 else 0) := rfl
      by_cases hP1 : μ 99 0 i = x
      · have hP1' : μ 99 0 (nI i).toNatClampNeg = x := by rw [hc]; exact hP1
        have hPi : P i = true := by rw [hPv, hP1]; simp
        rw [hPi, if_pos rfl] at hp
        by_cases hl0 : l = 0
        · have hjp : nI (pCt P i) = j := by rw [hl] at hl0; grind
          have q : pNth P j m = nI i := pFst_hit hz (by rw [hPi, hjp]; simp) (by omega) (by omega)
          rw [q, if_neg (nI_nem1 (by omega)), hc] at hk
          refine zs k_Mo_owes rfl ?_; conv => whnf
          repeat' (first
            | refine bn_f hP1' ?_
            | refine bn_f hl0 ?_
            | exact zKe hk (by rw [hc] at *; rw [if_pos (by grind)]) rfl
            | exact zKe hk (by rw [hc] at *; rw [if_neg (by grind)]) rfl
            | (refine zs k_Mo_owes rfl ?_; conv => whnf)
            | refine br_t (by simp (disch := omega) only [hm, nI_leI, nI_ltI, nI_eq]; omega) ?_
            | refine br_f (by simp (disch := omega) only [hm, nI_leI, nI_ltI, nI_eq]; omega) ?_
            | refine ⟨Nat.zero_lt_one, rfl, ?_⟩
            | refine ⟨rfl, ?_⟩
            | refine ⟨⟨Nat.zero_lt_one, rfl⟩, Nat.le_of_ble_eq_true rfl, ?_⟩
            | refine ⟨Nat.le_of_ble_eq_true rfl, Nat.le_of_ble_eq_true rfl, ?_⟩
            | refine ⟨(by first | exact Nat.zero_lt_one | assumption | omega), (by first | assumption | exact vp_in_nI (by omega) (by omega) | (unfold vp_in; decide)), ?_⟩
            | refine ⟨(by first | exact Nat.zero_lt_one | assumption | omega), rfl, ?_⟩
            | refine ⟨⟨(by first | exact Nat.zero_lt_one | assumption | omega), rfl⟩, Nat.le_of_ble_eq_true rfl, ?_⟩
            | refine ⟨(by first | exact Nat.zero_lt_one | assumption | omega), ?_⟩
            | refine ⟨Or.inl rfl, ?_⟩
            | refine ⟨Or.inr (Or.inl rfl), ?_⟩
            | refine ⟨Or.inr (Or.inr rfl), ?_⟩
            | refine ⟨Or.inr ⟨rfl, (by first | exact Or.inl rfl | exact Or.inr rfl | assumption)⟩, ?_⟩
            | refine ⟨fun h => absurd h (by decide), fun _ => ?_⟩
            | refine ⟨fun _ => ?_, fun h => absurd h (by decide)⟩
            | refine ⟨fun h => ?_, fun h => ?_⟩
            | fail)
        · have hjp : ¬ nI (pCt P i) = j := fun e => hl0 (by rw [hl, e]; grind)
          refine zs k_Mo_owes rfl ?_; conv => whnf
          repeat' (first
            | refine bn_f hP1' ?_
            | refine bn_t hl0 ?_
            | refine ih (i + 1) _ _ (by omega) (by exact nI_1 i) ?_ (lt_s hz (by rw [hPi]; simpa using hjp))
            | (refine zs k_Mo_owes rfl ?_; conv => whnf)
            | refine br_t (by simp (disch := omega) only [hm, nI_leI, nI_ltI, nI_eq]; omega) ?_
            | refine br_f (by simp (disch := omega) only [hm, nI_leI, nI_ltI, nI_eq]; omega) ?_
            | refine ⟨Nat.zero_lt_one, rfl, ?_⟩
            | refine ⟨rfl, ?_⟩
            | refine ⟨⟨Nat.zero_lt_one, rfl⟩, Nat.le_of_ble_eq_true rfl, ?_⟩
            | refine ⟨Nat.le_of_ble_eq_true rfl, Nat.le_of_ble_eq_true rfl, ?_⟩
            | refine ⟨(by first | exact Nat.zero_lt_one | assumption | omega), (by first | assumption | exact vp_in_nI (by omega) (by omega) | (unfold vp_in; decide)), ?_⟩
            | refine ⟨(by first | exact Nat.zero_lt_one | assumption | omega), rfl, ?_⟩
            | refine ⟨⟨(by first | exact Nat.zero_lt_one | assumption | omega), rfl⟩, Nat.le_of_ble_eq_true rfl, ?_⟩
            | refine ⟨(by first | exact Nat.zero_lt_one | assumption | omega), ?_⟩
            | refine ⟨Or.inl rfl, ?_⟩
            | refine ⟨Or.inr (Or.inl rfl), ?_⟩
            | refine ⟨Or.inr (Or.inr rfl), ?_⟩
            | refine ⟨Or.inr ⟨rfl, (by first | exact Or.inl rfl | exact Or.inr rfl | assumption)⟩, ?_⟩
            | refine ⟨fun h => absurd h (by decide), fun _ => ?_⟩
            | refine ⟨fun _ => ?_, fun h => absurd h (by decide)⟩
            | refine ⟨fun h => ?_, fun h => ?_⟩
            | fail)
          rw [hp, ← nI_1, hl]
          grind
      · have hP1' : ¬ μ 99 0 (nI i).toNatClampNeg = x := by rw [hc]; exact hP1
        have hPi : P i = false := by rw [hPv]; simpa using hP1
        rw [hPi] at hp
        refine zs k_Mo_owes rfl ?_; conv => whnf
        repeat' (first
          | refine bn_t hP1' ?_
          | refine ih (i + 1) _ _ (by omega) (by exact nI_1 i) ?_ (lt_s hz (by rw [hPi]; rfl))
          | (refine zs k_Mo_owes rfl ?_; conv => whnf)
          | refine br_t (by simp (disch := omega) only [hm, nI_leI, nI_ltI, nI_eq]; omega) ?_
          | refine br_f (by simp (disch := omega) only [hm, nI_leI, nI_ltI, nI_eq]; omega) ?_
          | refine ⟨Nat.zero_lt_one, rfl, ?_⟩
          | refine ⟨rfl, ?_⟩
          | refine ⟨⟨Nat.zero_lt_one, rfl⟩, Nat.le_of_ble_eq_true rfl, ?_⟩
          | refine ⟨Nat.le_of_ble_eq_true rfl, Nat.le_of_ble_eq_true rfl, ?_⟩
          | refine ⟨(by first | exact Nat.zero_lt_one | assumption | omega), (by first | assumption | exact vp_in_nI (by omega) (by omega) | (unfold vp_in; decide)), ?_⟩
          | refine ⟨(by first | exact Nat.zero_lt_one | assumption | omega), rfl, ?_⟩
          | refine ⟨⟨(by first | exact Nat.zero_lt_one | assumption | omega), rfl⟩, Nat.le_of_ble_eq_true rfl, ?_⟩
          | refine ⟨(by first | exact Nat.zero_lt_one | assumption | omega), ?_⟩
          | refine ⟨Or.inl rfl, ?_⟩
          | refine ⟨Or.inr (Or.inl rfl), ?_⟩
          | refine ⟨Or.inr (Or.inr rfl), ?_⟩
          | refine ⟨Or.inr ⟨rfl, (by first | exact Or.inl rfl | exact Or.inr rfl | assumption)⟩, ?_⟩
          | refine ⟨fun h => absurd h (by decide), fun _ => ?_⟩
          | refine ⟨fun _ => ?_, fun h => absurd h (by decide)⟩
          | refine ⟨fun h => ?_, fun h => ?_⟩
          | fail)
        rw [hp, hl]
        rfl
  repeat' (first
    | refine c_Mo_isPerson (fun _ => ?_) (fun h => absurd hx h)
    | refine br_t hj ?_
    | refine Lp m 0 _ _ (by omega) rfl (by show j = j - 0; grind) (fun r hr => absurd hr (by omega))
    | (refine zs k_Mo_owes rfl ?_; conv => whnf)
    | refine ⟨Nat.zero_lt_one, rfl, ?_⟩
    | refine ⟨rfl, ?_⟩
    | refine ⟨⟨Nat.zero_lt_one, rfl⟩, Nat.le_of_ble_eq_true rfl, ?_⟩
    | refine ⟨Nat.le_of_ble_eq_true rfl, Nat.le_of_ble_eq_true rfl, ?_⟩
    | refine ⟨(by first | exact Nat.zero_lt_one | assumption | omega), (by first | assumption | exact vp_in_nI (by omega) (by omega) | (unfold vp_in; decide)), ?_⟩
    | refine ⟨(by first | exact Nat.zero_lt_one | assumption | omega), rfl, ?_⟩
    | refine ⟨⟨(by first | exact Nat.zero_lt_one | assumption | omega), rfl⟩, Nat.le_of_ble_eq_true rfl, ?_⟩
    | refine ⟨(by first | exact Nat.zero_lt_one | assumption | omega), ?_⟩
    | refine ⟨Or.inl rfl, ?_⟩
    | refine ⟨Or.inr (Or.inl rfl), ?_⟩
    | refine ⟨Or.inr (Or.inr rfl), ?_⟩
    | refine ⟨Or.inr ⟨rfl, (by first | exact Or.inl rfl | exact Or.inr rfl | assumption)⟩, ?_⟩
    | refine ⟨fun h => absurd h (by decide), fun _ => ?_⟩
    | refine ⟨fun _ => ?_, fun h => absurd h (by decide)⟩
    | refine ⟨fun h => ?_, fun h => ?_⟩
    | fail)
theorem b_owes {μ : zMu} {x j z : Int32} (h : Rel μ) : Both m_De_owes m_Mo_owes [zI x, zI j, zI z] μ := by
  intro d K hK
  obtain ⟨ns, n, nr, nh, nt, nb, L, g1, g2, g3, g4, g5, g6, g7, g8, g9, g10, g11⟩ := id h
  have hl := g9.1.2.1
  refine c_De_owes g2.1 g9.1.1 hl (fun a => hK _ _ (fun d K2 hK2 => ?_)) (fun a => hK _ _ (fun d K2 hK2 => ?_))
  · exact c_Mo_owes g2.2.1 g9.2.1 hl (fun _ => hK2 _ h) (fun q => absurd q a)
  · refine c_Mo_owes (n := n) (m := L.length) g2.2.1 g9.2.1 hl (fun q => absurd a q) (fun _ => zKe (hK2 _ h) ?_ rfl)
    have hv : ∀ v, v < L.length → μ 99 0 v = μ 46 0 v ∧ μ 100 0 v = μ 45 0 v ∧ μ 101 0 v = μ 47 0 v := fun v hv => by
      have he : L[v]? = some L[v] := List.getElem?_eq_getElem hv
      obtain ⟨a, b, c⟩ := g9.1.2.2 v _ he
      obtain ⟨a', b', c'⟩ := g9.2.2 v _ he
      exact ⟨a'.trans a.symm, b'.trans b.symm, c'.trans c.symm⟩
    unfold oAns
    rw [pNth_cg (P := fun v => decide (μ 99 0 v = x)) (P' := fun v => decide (μ 46 0 v = x)) (fun v hv' => by rw [(hv v hv').1])]
    rcases pNth_in (P := fun v => decide (μ 46 0 v = x)) (j := j) (m := L.length) (by omega) with q | ⟨v, hv', q⟩
    · rw [if_pos q, if_pos q]
    · rw [q, nI_clamp (by omega), (hv v hv').2.1, (hv v hv').2.2, g10]
