/-! MODEL: the tests, the rule -/
theorem qTR_ft {a : Nat → Int32} {n : Nat} {q q' : zQ} {t : rT} (h : ¬ q.2 = -1) (hT : qTR a n q t q') : q' = q := by
  obtain ⟨w, q3, v4, q4, q5, q6, T0, tb, e4, e5, e6, e7⟩ := hT
  obtain ⟨v1, q1, T1, T2⟩ := T0
  rw [qW_ft h] at T1
  obtain ⟨rfl, rfl⟩ := Prod.mk.inj T1
  rcases T2 with ⟨c1, -⟩ | ⟨-, -, -, c4⟩
  · exact absurd c1 (by decide)
  subst c4
  rw [qW_ft h] at e4
  obtain ⟨-, rfl⟩ := Prod.mk.inj e4
  rw [qW_ft h] at e5
  obtain ⟨-, rfl⟩ := Prod.mk.inj e5
  rw [qW_ft h] at e6
  obtain ⟨-, rfl⟩ := Prod.mk.inj e6
  rw [qN_ft h] at e7
  obtain ⟨-, rfl⟩ := Prod.mk.inj e7
  rfl
theorem qTR_n {a : Nat → Int32} {n : Nat} {q q' : zQ} {t : rT} (h : q.1 ≤ n) (hT : qTR a n q t q') : q'.1 ≤ n := by
  obtain ⟨w, q3, v4, q4, q5, q6, T0, tb, e4, e5, e6, e7⟩ := hT
  obtain ⟨v1, q1, T1, T2⟩ := T0
  have h1 : q1.1 ≤ n := by have := qW_le (a := a) (n := n) (k := 5) (q := q) (by omega) h; rw [T1] at this; exact this
  have h3 : q3.1 ≤ n := by
    rcases T2 with ⟨-, -, c3⟩ | ⟨-, -, -, c4⟩
    · have := qW_le (a := a) (n := n) (k := 6) (q := qB a n q1) (by omega) (qB_le h1)
      rw [c3] at this
      exact this
    · rw [c4]
      exact h1
  have h4 : q4.1 ≤ n := by have := qW_le (a := a) (n := n) (k := 7) (q := q3) (by omega) h3; rw [e4] at this; exact this
  have h5 : q5.1 ≤ n := by have := qW_le (a := a) (n := n) (k := 8) (q := q4) (by omega) h4; rw [e5] at this; exact this
  have h6 : q6.1 ≤ n := by have := qW_le (a := a) (n := n) (k := 9) (q := q5) (by omega) h5; rw [e6] at this; exact this
  have := qN_le (a := a) (n := n) (q := q6) h6
  rw [e7] at this
  exact this
theorem qLR_no {a : Nat → Int32} {n k : Nat} {any any' : Int32} {q q' : zQ} {ts : List rT} (h : ¬ qMore n q) (hL : qLR a n k any q ts any' q') : ts = [] ∧ any' = any ∧ q' = q := by
  cases k with
  | zero => exact hL
  | succ k =>
    rcases hL with hL | hL
    · exact hL.2
    · exact absurd hL.1 h
def gF (r : Nat) (μ μ' : zMu) : Prop := (∀ f, f ∉ [48, 69, 72, 73, 74, 75, 76, 77] → μ' f = μ f) ∧ (∀ k, k ∉ [28, 29] → μ' 48 0 k = μ 48 0 k) ∧ (∀ f, f ∈ [69, 72] → ∀ k, k ≠ r → μ' f 0 k = μ f 0 k) ∧ ∀ f, f ∈ [73, 74, 75, 76, 77] → ∀ k, ¬ (4 * r ≤ k ∧ k < 4 * r + 4) → μ' f 0 k = μ f 0 k
theorem gF_rf {r : Nat} {μ : zMu} : gF r μ μ := ⟨fun _ _ => rfl, fun _ _ => rfl, fun _ _ _ _ => rfl, fun _ _ _ _ => rfl⟩
theorem gF_mF {r j : Nat} {μ μ1 μ2 : zMu} (h : gF r μ μ1) (hj : j < 4) (h2 : mF (4 * r + j) μ1 μ2) : gF r μ μ2 := by
  refine ⟨fun f hf => ?_, fun k hk => (h2.2.1 k hk).trans (h.2.1 k hk), fun f hf k hk => ?_, fun f hf k hk => ?_⟩
  · rw [h2.1 f (fun q => hf (by simp only [List.mem_cons, List.not_mem_nil, or_false] at q ⊢; omega))]
    exact h.1 f hf
  · rw [h2.1 f (fun q => by simp only [List.mem_cons, List.not_mem_nil, or_false] at q hf; omega)]
    exact h.2.2.1 f hf k hk
  · rw [h2.2.2 f hf k (by omega)]
    exact h.2.2.2 f hf k hk
theorem gF_cM {r : Nat} {μ μ1 : zMu} {q : zQ} (h : gF r μ μ1) : gF r μ (cM μ1 q) := by
  refine ⟨fun f hf => ?_, fun k hk => ?_, fun f hf k hk => ?_, fun f hf k hk => ?_⟩
  · rw [← h.1 f hf]
    simp only [List.mem_cons, List.not_mem_nil, or_false, not_or] at hf
    funext i k
    exact cM_o (by omega)
  · rw [← h.2.1 k hk]
    simp only [List.mem_cons, List.not_mem_nil, or_false, not_or] at hk
    exact cM_o (by omega)
  · rw [← h.2.2.1 f hf k hk]
    simp only [List.mem_cons, List.not_mem_nil, or_false] at hf
    exact cM_o (by omega)
  · rw [← h.2.2.2 f hf k hk]
    simp only [List.mem_cons, List.not_mem_nil, or_false] at hf
    exact cM_o (by omega)
theorem gF_fl {r : Nat} {μ μ1 : zMu} {x : Int32} (h : gF r μ μ1) : gF r μ (zu μ1 48 0 29 x) := by
  refine ⟨fun f hf => ?_, fun k hk => ?_, fun f hf k hk => ?_, fun f hf k hk => ?_⟩
  · rw [← h.1 f hf]
    simp only [List.mem_cons, List.not_mem_nil, or_false, not_or] at hf
    funext i k
    exact zu_ne (by omega)
  · rw [← h.2.1 k hk]
    simp only [List.mem_cons, List.not_mem_nil, or_false, not_or] at hk
    exact zu_ne (by omega)
  · rw [← h.2.2.1 f hf k hk]
    simp only [List.mem_cons, List.not_mem_nil, or_false] at hf
    exact zu_ne (by omega)
  · rw [← h.2.2.2 f hf k hk]
    simp only [List.mem_cons, List.not_mem_nil, or_false] at hf
    exact zu_ne (by omega)
theorem gF_r {r f : Nat} {μ μ1 : zMu} {x : Int32} (h : gF r μ μ1) (hf : f ∈ [69, 72]) : gF r μ (zu μ1 f 0 r x) := by
  simp only [List.mem_cons, List.not_mem_nil, or_false] at hf
  refine ⟨fun g hg => ?_, fun k hk => ?_, fun g hg k hk => ?_, fun g hg k hk => ?_⟩
  · rw [← h.1 g hg]
    simp only [List.mem_cons, List.not_mem_nil, or_false, not_or] at hg
    funext i k
    exact zu_ne (by omega)
  · rw [← h.2.1 k hk]
    exact zu_ne (by omega)
  · rw [← h.2.2.1 g hg k hk]
    exact zu_ne (by omega)
  · rw [← h.2.2.2 g hg k hk]
    simp only [List.mem_cons, List.not_mem_nil, or_false] at hg
    exact zu_ne (by omega)
theorem gF_E {r n : Nat} {μ μ' : zMu} {a : Nat → Int32} (h : gF r μ μ') (E : mE μ a n) : mE μ' a n := by
  unfold mE gCs at *
  rw [h.2.1 14 (by decide), h.1 63 (by decide), h.1 80 (by decide), h.1 81 (by decide), h.1 82 (by decide)]
  exact E
def tE (μ : zMu) (i : Nat) (e : rT) : Prop := μ 73 0 i = e.1 ∧ μ 74 0 i = e.2.1 ∧ μ 75 0 i = e.2.2.1 ∧ μ 76 0 i = e.2.2.2.1 ∧ μ 77 0 i = e.2.2.2.2
theorem w10_eq {a : Nat → Int32} {n : Nat} {q1 q2 : zQ} {v2 : Int32} (hq : q1.1 ≤ 1000) (o1 : q1.2 = -1) (h : qW a n q1 10 = (v2, q2)) : (pB a n q1.1 = 111 → eqQ q2 (mX a n [111, 114] q1) ∧ (q2.2 = -1 → v2 = 1)) ∧ (¬ pB a n q1.1 = 111 → eqQ q2 (mX a n [97, 110, 100] q1) ∧ (q2.2 = -1 → v2 = 0)) := by
  obtain ⟨at_, fl⟩ := q1
  have o1 : fl = -1 := o1
  subst o1
  have hq : at_ ≤ 1000 := hq
  rw [qW_eq (by omega)] at h
  have hw : zWd.getD 10 [] = [[97, 110, 100], [111, 114]] := rfl
  rw [hw, wL, wL, wL] at h
  have X1 := mX_pfx (a := a) (n := n) (at_ := at_) (cs := [97, 110, 100]) (i := 0)
  have X2 := mX_pfx (a := a) (n := n) (at_ := at_) (cs := [111, 114]) (i := 0)
  rw [Nat.add_zero] at X1 X2
  have l1 := pfx_le (b := fun j => pB a n (at_ + j)) (w := [97, 110, 100]) (i := 0)
  have l2 := pfx_le (b := fun j => pB a n (at_ + j)) (w := [111, 114]) (i := 0)
  have l1' : pfx (fun j => pB a n (at_ + j)) [97, 110, 100] 0 ≤ 3 := l1
  have l2' : pfx (fun j => pB a n (at_ + j)) [111, 114] 0 ≤ 2 := l2
  constructor
  · intro l
    have l : pB a n (at_ + 0) = 111 := l
    have p1 : pfx (fun j => pB a n (at_ + j)) [97, 110, 100] 0 = 0 := by rw [pfx, if_neg (by rw [l]; decide)]
    rw [p1, if_neg (show ¬ 0 = ([97, 110, 100] : List Int32).length by decide)] at h
    rw [X2]
    by_cases e : pfx (fun j => pB a n (at_ + j)) [111, 114] 0 = ([111, 114] : List Int32).length
    · rw [if_pos e] at h ⊢
      obtain ⟨rfl, rfl⟩ := Prod.mk.inj h
      exact ⟨eqQ_rf, fun _ => rfl⟩
    · rw [if_neg e] at h ⊢
      obtain ⟨rfl, rfl⟩ := Prod.mk.inj h
      have e2 : (if (if 0 < 0 then 0 else 0) < pfx (fun j => pB a n (at_ + j)) [111, 114] 0 then pfx (fun j => pB a n (at_ + j)) [111, 114] 0 else (if 0 < 0 then 0 else 0)) = pfx (fun j => pB a n (at_ + j)) [111, 114] 0 := by
        simp only [Nat.lt_irrefl, if_false]
        split <;> omega
      rw [e2]
      exact ⟨⟨rfl, fun z => absurd z (nI_nem1 (by omega))⟩, fun z => absurd z (nI_nem1 (by omega))⟩
  · intro l
    have l : ¬ pB a n (at_ + 0) = 111 := l
    have p2 : pfx (fun j => pB a n (at_ + j)) [111, 114] 0 = 0 := by rw [pfx, if_neg l]
    rw [p2] at h
    rw [X1]
    by_cases e : pfx (fun j => pB a n (at_ + j)) [97, 110, 100] 0 = ([97, 110, 100] : List Int32).length
    · rw [if_pos e] at h ⊢
      obtain ⟨rfl, rfl⟩ := Prod.mk.inj h
      exact ⟨eqQ_rf, fun _ => rfl⟩
    · rw [if_neg e] at h ⊢
      rw [if_neg (show ¬ 0 = ([111, 114] : List Int32).length by decide)] at h
      obtain ⟨rfl, rfl⟩ := Prod.mk.inj h
      have e2 : (if (if 0 < pfx (fun j => pB a n (at_ + j)) [97, 110, 100] 0 then pfx (fun j => pB a n (at_ + j)) [97, 110, 100] 0 else 0) < 0 then 0 else (if 0 < pfx (fun j => pB a n (at_ + j)) [97, 110, 100] 0 then pfx (fun j => pB a n (at_ + j)) [97, 110, 100] 0 else 0)) = pfx (fun j => pB a n (at_ + j)) [97, 110, 100] 0 := by
        rw [if_neg (by omega)]
        split <;> omega
      rw [e2]
      exact ⟨⟨rfl, fun z => absurd z (nI_nem1 (by omega))⟩, fun z => absurd z (nI_nem1 (by omega))⟩
set_option maxHeartbeats 4000000 in
theorem c_Mo_readTests {d n r : Nat} {μ : zMu} {a : Nat → Int32} {q q1 q2 q3 q4 q' : zQ} {v2 any' : Int32} {t : rT} {ts : List rT} {x : Int32} {K : Option zV → zMu → Prop} (E : mE μ a n) (h28 : μ 48 0 28 = nI q.1) (h29 : μ 48 0 29 = -1) (hq2 : q.2 = -1) (hqn : q.1 ≤ n) (hx : x = nI r) (hr : r < 16) (h72 : μ 72 0 r = 0) (h69 : μ 69 0 r = 0)
    (e1 : qB a n q = q1) (e2 : qW a n q1 4 = (v2, q2)) (e3 : qB a n q2 = q3) (eT : qTR a n q3 t q4) (eL : qLR a n 3 0 q4 ts any' q')
    (hK : ∀ μ' fl, gF r μ μ' → ((qMore n q' ∧ fl = nI q'.1) ∨ (¬ qMore n q' ∧ fl = q'.2)) → μ' 48 0 29 = fl → (¬ fl = -1 → 0 ≤ fl) → (fl = -1 → μ' 72 0 r = nI (t :: ts).length ∧ (t :: ts).length ≤ 4 ∧ μ' 69 0 r = any' ∧ (any' = 0 ∨ any' = 1) ∧ ∀ i e, (t :: ts)[i]? = some e → tE μ' (4 * r + i) e) → K none μ') : Ct (d + 3) m_Mo_readTests [zR 48 0, zI x] μ K := by
  subst hx
  refine zmeet rfl (Nat.le_of_ble_eq_true rfl) (fun S => ?_)
  have h200 := E.2.1
  have cr : (nI r).toNatClampNeg = r := nI_clamp (by omega)
  have vr : vp_in (nI r) 16 := vp_in_nI hr (by omega)
  have m4 : (4 : Int32) * nI r = nI (4 * r) := pk_mul 4 r
  have i32 : ∀ z : Int32, z = -1 → ¬ 0 ≤ z := fun z h => by rw [h]; decide
  have end0 : ∀ μ1 : zMu, K none μ1 → zG S (d + 3) m_Mo_readTests K 20 [some (zR 48 0), some (zI (nI r)), some (zI 0)] [] μ1 := fun μ1 hk => by
    repeat' (first
      | exact hk
      | (refine zs k_Mo_readTests rfl ?_; conv => whnf)
      | refine ⟨Nat.zero_lt_one, rfl, ?_⟩
      | refine ⟨rfl, ?_⟩
      | refine ⟨⟨Nat.zero_lt_one, rfl⟩, Nat.le_of_ble_eq_true rfl, ?_⟩
      | refine ⟨Nat.le_of_ble_eq_true rfl, Nat.le_of_ble_eq_true rfl, ?_⟩
      | refine ⟨(by first | exact Nat.zero_lt_one | assumption | omega), (by first | assumption | exact vp_in_nI (by omega) (by omega) | (unfold vp_in; decide)), ?_⟩
      | refine ⟨(by first | exact Nat.zero_lt_one | assumption | omega), rfl, ?_⟩
      | refine ⟨⟨(by first | exact Nat.zero_lt_one | assumption | omega), rfl⟩, Nat.le_of_ble_eq_true rfl, ?_⟩
      | refine ⟨(by first | exact Nat.zero_lt_one | assumption | omega), ?_⟩
      | refine ⟨Or.inl rfl, ?_⟩
      | refine ⟨Or.inr (Or.inl rfl), ?_⟩
      | refine ⟨Or.inr (Or.inr rfl), ?_⟩
      | refine ⟨Or.inr ⟨rfl, (by first | exact Or.inl rfl | exact Or.inr rfl | assumption)⟩, ?_⟩
      | refine ⟨fun h => absurd h (by decide), fun _ => ?_⟩
      | refine ⟨fun _ => ?_, fun h => absurd h (by decide)⟩
      | refine ⟨fun h => ?_, fun h => ?_⟩
      | fail)
  -- more is 0 at 72
  have end1 : ∀ μ1 : zMu, K none μ1 → zG S (d + 3) m_Mo_readTests K 72 [some (zR 48 0), some (zI (nI r)), some (zI 0)] [] μ1 := fun μ1 hk => by
    repeat' (first
      | exact end0 _ hk
      | (refine zs k_Mo_readTests rfl ?_; conv => whnf)
      | refine ⟨Nat.zero_lt_one, rfl, ?_⟩
      | refine ⟨rfl, ?_⟩
      | refine ⟨⟨Nat.zero_lt_one, rfl⟩, Nat.le_of_ble_eq_true rfl, ?_⟩
      | refine ⟨Nat.le_of_ble_eq_true rfl, Nat.le_of_ble_eq_true rfl, ?_⟩
      | refine ⟨(by first | exact Nat.zero_lt_one | assumption | omega), (by first | assumption | exact vp_in_nI (by omega) (by omega) | (unfold vp_in; decide)), ?_⟩
      | refine ⟨(by first | exact Nat.zero_lt_one | assumption | omega), rfl, ?_⟩
      | refine ⟨⟨(by first | exact Nat.zero_lt_one | assumption | omega), rfl⟩, Nat.le_of_ble_eq_true rfl, ?_⟩
      | refine ⟨(by first | exact Nat.zero_lt_one | assumption | omega), ?_⟩
      | refine ⟨Or.inl rfl, ?_⟩
      | refine ⟨Or.inr (Or.inl rfl), ?_⟩
      | refine ⟨Or.inr (Or.inr rfl), ?_⟩
      | refine ⟨Or.inr ⟨rfl, (by first | exact Or.inl rfl | exact Or.inr rfl | assumption)⟩, ?_⟩
      | refine ⟨fun h => absurd h (by decide), fun _ => ?_⟩
      | refine ⟨fun _ => ?_, fun h => absurd h (by decide)⟩
      | refine ⟨fun h => ?_, fun h => ?_⟩
      | fail)
  -- a fault at 94, 112, 190
  have end2 : ∀ μ1 : zMu, 0 ≤ μ1 48 0 29 → K none μ1 → zG S (d + 3) m_Mo_readTests K 190 [some (zR 48 0), some (zI (nI r)), some (zI 1)] [] μ1 := fun μ1 hf hk => by
    repeat' (first
      | refine br_t hf ?_
      | exact end0 _ hk
      | (refine zs k_Mo_readTests rfl ?_; conv => whnf)
      | refine ⟨Nat.zero_lt_one, rfl, ?_⟩
      | refine ⟨rfl, ?_⟩
      | refine ⟨⟨Nat.zero_lt_one, rfl⟩, Nat.le_of_ble_eq_true rfl, ?_⟩
      | refine ⟨Nat.le_of_ble_eq_true rfl, Nat.le_of_ble_eq_true rfl, ?_⟩
      | refine ⟨(by first | exact Nat.zero_lt_one | assumption | omega), (by first | assumption | exact vp_in_nI (by omega) (by omega) | (unfold vp_in; decide)), ?_⟩
      | refine ⟨(by first | exact Nat.zero_lt_one | assumption | omega), rfl, ?_⟩
      | refine ⟨⟨(by first | exact Nat.zero_lt_one | assumption | omega), rfl⟩, Nat.le_of_ble_eq_true rfl, ?_⟩
      | refine ⟨(by first | exact Nat.zero_lt_one | assumption | omega), ?_⟩
      | refine ⟨Or.inl rfl, ?_⟩
      | refine ⟨Or.inr (Or.inl rfl), ?_⟩
      | refine ⟨Or.inr (Or.inr rfl), ?_⟩
      | refine ⟨Or.inr ⟨rfl, (by first | exact Or.inl rfl | exact Or.inr rfl | assumption)⟩, ?_⟩
      | refine ⟨fun h => absurd h (by decide), fun _ => ?_⟩
      | refine ⟨fun _ => ?_, fun h => absurd h (by decide)⟩
      | refine ⟨fun h => ?_, fun h => ?_⟩
      | fail)
  have end3 : ∀ μ1 : zMu, 0 ≤ μ1 48 0 29 → K none μ1 → zG S (d + 3) m_Mo_readTests K 112 [some (zR 48 0), some (zI (nI r)), some (zI 1)] [] μ1 := fun μ1 hf hk => by
    repeat' (first
      | exact end2 _ hf hk
      | refine br_t hf ?_
      | (refine zs k_Mo_readTests rfl ?_; conv => whnf)
      | refine ⟨Nat.zero_lt_one, rfl, ?_⟩
      | refine ⟨rfl, ?_⟩
      | refine ⟨⟨Nat.zero_lt_one, rfl⟩, Nat.le_of_ble_eq_true rfl, ?_⟩
      | refine ⟨Nat.le_of_ble_eq_true rfl, Nat.le_of_ble_eq_true rfl, ?_⟩
      | refine ⟨(by first | exact Nat.zero_lt_one | assumption | omega), (by first | assumption | exact vp_in_nI (by omega) (by omega) | (unfold vp_in; decide)), ?_⟩
      | refine ⟨(by first | exact Nat.zero_lt_one | assumption | omega), rfl, ?_⟩
      | refine ⟨⟨(by first | exact Nat.zero_lt_one | assumption | omega), rfl⟩, Nat.le_of_ble_eq_true rfl, ?_⟩
      | refine ⟨(by first | exact Nat.zero_lt_one | assumption | omega), ?_⟩
      | refine ⟨Or.inl rfl, ?_⟩
      | refine ⟨Or.inr (Or.inl rfl), ?_⟩
      | refine ⟨Or.inr (Or.inr rfl), ?_⟩
      | refine ⟨Or.inr ⟨rfl, (by first | exact Or.inl rfl | exact Or.inr rfl | assumption)⟩, ?_⟩
      | refine ⟨fun h => absurd h (by decide), fun _ => ?_⟩
      | refine ⟨fun _ => ?_, fun h => absurd h (by decide)⟩
      | refine ⟨fun h => ?_, fun h => ?_⟩
      | fail)
  have core : ∀ (j : Nat) (any any' : Int32) (q q4 q' : zQ) (t : rT) (ts pre : List rT) (μ1 : zMu), j ≤ 3 → q.2 = -1 → q.1 ≤ n → qTR a n q t q4 → (¬ qMore n q4 → ts = [] ∧ any' = any ∧ q' = q4) → gF r μ μ1 → μ1 48 0 28 = nI q.1 → μ1 48 0 29 = -1 → μ1 72 0 r = nI j → μ1 69 0 r = any → (any = 0 ∨ any = 1) → pre.length = j → (∀ i e, pre[i]? = some e → tE μ1 (4 * r + i) e) →
      (∀ μ' fl, gF r μ μ' → ((qMore n q' ∧ fl = nI q'.1) ∨ (¬ qMore n q' ∧ fl = q'.2)) → μ' 48 0 29 = fl → (¬ fl = -1 → 0 ≤ fl) → (fl = -1 → μ' 72 0 r = nI (pre ++ t :: ts).length ∧ (pre ++ t :: ts).length ≤ 4 ∧ μ' 69 0 r = any' ∧ (any' = 0 ∨ any' = 1) ∧ ∀ i e, (pre ++ t :: ts)[i]? = some e → tE μ' (4 * r + i) e) → K none μ') →
      (qMore n q4 → ∀ μ2, gF r μ μ2 → μ2 48 0 28 = nI q4.1 → μ2 48 0 29 = -1 → μ2 72 0 r = nI (j + 1) → μ2 69 0 r = any → (∀ i e, (pre ++ [t])[i]? = some e → tE μ2 (4 * r + i) e) → zG S (d + 3) m_Mo_readTests K 72 [some (zR 48 0), some (zI (nI r)), some (zI 1)] [] μ2) → zG S (d + 3) m_Mo_readTests K 20 [some (zR 48 0), some (zI (nI r)), some (zI 1)] [] μ1 := by
    intro j any any' q q4 q' t ts pre μ1 hj3 o2 hqn eT hno F s28 s29 s72 s69 hany hpl hpre hK hmore
    have h4n := qTR_n hqn eT
    have v72 : μ1 72 0 (nI r).toNatClampNeg = nI j := by rw [cr]; exact s72
    have mi : (4 : Int32) * nI r + μ1 72 0 (nI r).toNatClampNeg = nI (4 * r + j) := by rw [m4, v72, nI_add]
    have fin : ∀ μ2 : zMu, mF (4 * r + j) μ1 μ2 → μ2 48 0 29 = q4.2 → (q4.2 = -1 → μ2 48 0 28 = nI q4.1 ∧ tE μ2 (4 * r + j) t) → (¬ q4.2 = -1 → 0 ≤ q4.2) → zG S (d + 3) m_Mo_readTests K 38 [some (zR 48 0), some (zI (nI r)), some (zI 1)] [] μ2 := fun μ2 F2 f29 fv fp => by
      have G2 := gF_mF F (by omega) F2
      have w72 : μ2 72 0 r = nI j := by rw [F2.1 72 (by decide)]; exact s72
      have G3 : gF r μ (zu μ2 72 0 r (nI (j + 1))) := gF_r G2 (by decide)
      have hst : ∀ r', r' = r → zu μ2 72 0 r' (μ2 72 0 r' + 1) = zu μ2 72 0 r (nI (j + 1)) := fun r' h => by
        rw [h, w72, nI_1]
      have ent : q4.2 = -1 → ∀ i e, (pre ++ [t])[i]? = some e → tE (zu μ2 72 0 r (nI (j + 1))) (4 * r + i) e := fun z i e he => by
        show tE μ2 (4 * r + i) e
        rcases Nat.lt_or_ge i j with w | w
        · rw [List.getElem?_append_left (by omega)] at he
          have := hpre i e he
          unfold tE at *
          rw [F2.2.2 73 (by decide) _ (by omega), F2.2.2 74 (by decide) _ (by omega), F2.2.2 75 (by decide) _ (by omega), F2.2.2 76 (by decide) _ (by omega), F2.2.2 77 (by decide) _ (by omega)]
          exact this
        · rw [List.getElem?_append_right (by omega)] at he
          have hi : i = j := by
            have := (List.getElem?_eq_some_iff.mp he).1
            simp at this
            omega
          subst hi
          rw [hpl, Nat.sub_self] at he
          cases he
          exact (fv z).2
      have e69 : zu μ2 72 0 r (nI (j + 1)) 69 0 r = any := by
        show μ2 69 0 r = any
        rw [F2.1 69 (by decide)]
        exact s69
      by_cases o4 : q4.2 = -1
      case neg =>
        have hnm : ¬ qMore n q4 := fun z => o4 z.1
        obtain ⟨rfl, rfl, rfl⟩ := hno hnm
        have hk := hK (zu μ2 72 0 r (nI (j + 1))) q'.2 G3 (Or.inr ⟨hnm, rfl⟩) f29 fp (fun z => absurd z o4)
        have hf : 0 ≤ μ2 48 0 29 := by rw [f29]; exact fp o4
        have e1 : zG S (d + 3) m_Mo_readTests K 48 [some (zR 48 0), some (zI (nI r)), some (zI 1)] [] (zu μ2 72 0 r (nI (j + 1))) := by
          repeat' (first
            | exact end1 _ hk
            | refine br_t hf ?_
            | (refine zs k_Mo_readTests rfl ?_; conv => whnf)
            | refine ⟨Nat.zero_lt_one, rfl, ?_⟩
            | refine ⟨rfl, ?_⟩
            | refine ⟨⟨Nat.zero_lt_one, rfl⟩, Nat.le_of_ble_eq_true rfl, ?_⟩
            | refine ⟨Nat.le_of_ble_eq_true rfl, Nat.le_of_ble_eq_true rfl, ?_⟩
            | refine ⟨(by first | exact Nat.zero_lt_one | assumption | omega), (by first | assumption | exact vp_in_nI (by omega) (by omega) | (unfold vp_in; decide)), ?_⟩
            | refine ⟨(by first | exact Nat.zero_lt_one | assumption | omega), rfl, ?_⟩
            | refine ⟨⟨(by first | exact Nat.zero_lt_one | assumption | omega), rfl⟩, Nat.le_of_ble_eq_true rfl, ?_⟩
            | refine ⟨(by first | exact Nat.zero_lt_one | assumption | omega), ?_⟩
            | refine ⟨Or.inl rfl, ?_⟩
            | refine ⟨Or.inr (Or.inl rfl), ?_⟩
            | refine ⟨Or.inr (Or.inr rfl), ?_⟩
            | refine ⟨Or.inr ⟨rfl, (by first | exact Or.inl rfl | exact Or.inr rfl | assumption)⟩, ?_⟩
            | refine ⟨fun h => absurd h (by decide), fun _ => ?_⟩
            | refine ⟨fun _ => ?_, fun h => absurd h (by decide)⟩
            | refine ⟨fun h => ?_, fun h => ?_⟩
            | fail)
        repeat' (first
          | (rw [hst _ cr]; exact e1)
          | (refine zs k_Mo_readTests rfl ?_; conv => whnf)
          | refine ⟨Nat.zero_lt_one, rfl, ?_⟩
          | refine ⟨rfl, ?_⟩
          | refine ⟨⟨Nat.zero_lt_one, rfl⟩, Nat.le_of_ble_eq_true rfl, ?_⟩
          | refine ⟨Nat.le_of_ble_eq_true rfl, Nat.le_of_ble_eq_true rfl, ?_⟩
          | refine ⟨(by first | exact Nat.zero_lt_one | assumption | omega), (by first | assumption | exact vp_in_nI (by omega) (by omega) | (unfold vp_in; decide)), ?_⟩
          | refine ⟨(by first | exact Nat.zero_lt_one | assumption | omega), rfl, ?_⟩
          | refine ⟨⟨(by first | exact Nat.zero_lt_one | assumption | omega), rfl⟩, Nat.le_of_ble_eq_true rfl, ?_⟩
          | refine ⟨(by first | exact Nat.zero_lt_one | assumption | omega), ?_⟩
          | refine ⟨Or.inl rfl, ?_⟩
          | refine ⟨Or.inr (Or.inl rfl), ?_⟩
          | refine ⟨Or.inr (Or.inr rfl), ?_⟩
          | refine ⟨Or.inr ⟨rfl, (by first | exact Or.inl rfl | exact Or.inr rfl | assumption)⟩, ?_⟩
          | refine ⟨fun h => absurd h (by decide), fun _ => ?_⟩
          | refine ⟨fun _ => ?_, fun h => absurd h (by decide)⟩
          | refine ⟨fun h => ?_, fun h => ?_⟩
          | fail)
      have hf : ¬ 0 ≤ μ2 48 0 29 := i32 _ (f29.trans o4)
      have f28 := (fv o4).1
      have b14 : μ2 48 0 14 = nI n := (gF_E G2 E).1
      by_cases hm : qMore n q4
      · have hlt : ¬ μ2 48 0 14 ≤ μ2 48 0 28 := by rw [b14, f28]; exact nI_ge hm.2 (by omega)
        have hk := hmore hm (zu μ2 72 0 r (nI (j + 1))) G3 f28 (f29.trans o4) zu_eq e69 (ent o4)
        have e1 : zG S (d + 3) m_Mo_readTests K 48 [some (zR 48 0), some (zI (nI r)), some (zI 1)] [] (zu μ2 72 0 r (nI (j + 1))) := by
          repeat' (first
            | exact hk
            | refine br_f hf ?_
            | refine br_f hlt ?_
            | (refine zs k_Mo_readTests rfl ?_; conv => whnf)
            | refine ⟨Nat.zero_lt_one, rfl, ?_⟩
            | refine ⟨rfl, ?_⟩
            | refine ⟨⟨Nat.zero_lt_one, rfl⟩, Nat.le_of_ble_eq_true rfl, ?_⟩
            | refine ⟨Nat.le_of_ble_eq_true rfl, Nat.le_of_ble_eq_true rfl, ?_⟩
            | refine ⟨(by first | exact Nat.zero_lt_one | assumption | omega), (by first | assumption | exact vp_in_nI (by omega) (by omega) | (unfold vp_in; decide)), ?_⟩
            | refine ⟨(by first | exact Nat.zero_lt_one | assumption | omega), rfl, ?_⟩
            | refine ⟨⟨(by first | exact Nat.zero_lt_one | assumption | omega), rfl⟩, Nat.le_of_ble_eq_true rfl, ?_⟩
            | refine ⟨(by first | exact Nat.zero_lt_one | assumption | omega), ?_⟩
            | refine ⟨Or.inl rfl, ?_⟩
            | refine ⟨Or.inr (Or.inl rfl), ?_⟩
            | refine ⟨Or.inr (Or.inr rfl), ?_⟩
            | refine ⟨Or.inr ⟨rfl, (by first | exact Or.inl rfl | exact Or.inr rfl | assumption)⟩, ?_⟩
            | refine ⟨fun h => absurd h (by decide), fun _ => ?_⟩
            | refine ⟨fun _ => ?_, fun h => absurd h (by decide)⟩
            | refine ⟨fun h => ?_, fun h => ?_⟩
            | fail)
        repeat' (first
          | (rw [hst _ cr]; exact e1)
          | (refine zs k_Mo_readTests rfl ?_; conv => whnf)
          | refine ⟨Nat.zero_lt_one, rfl, ?_⟩
          | refine ⟨rfl, ?_⟩
          | refine ⟨⟨Nat.zero_lt_one, rfl⟩, Nat.le_of_ble_eq_true rfl, ?_⟩
          | refine ⟨Nat.le_of_ble_eq_true rfl, Nat.le_of_ble_eq_true rfl, ?_⟩
          | refine ⟨(by first | exact Nat.zero_lt_one | assumption | omega), (by first | assumption | exact vp_in_nI (by omega) (by omega) | (unfold vp_in; decide)), ?_⟩
          | refine ⟨(by first | exact Nat.zero_lt_one | assumption | omega), rfl, ?_⟩
          | refine ⟨⟨(by first | exact Nat.zero_lt_one | assumption | omega), rfl⟩, Nat.le_of_ble_eq_true rfl, ?_⟩
          | refine ⟨(by first | exact Nat.zero_lt_one | assumption | omega), ?_⟩
          | refine ⟨Or.inl rfl, ?_⟩
          | refine ⟨Or.inr (Or.inl rfl), ?_⟩
          | refine ⟨Or.inr (Or.inr rfl), ?_⟩
          | refine ⟨Or.inr ⟨rfl, (by first | exact Or.inl rfl | exact Or.inr rfl | assumption)⟩, ?_⟩
          | refine ⟨fun h => absurd h (by decide), fun _ => ?_⟩
          | refine ⟨fun _ => ?_, fun h => absurd h (by decide)⟩
          | refine ⟨fun h => ?_, fun h => ?_⟩
          | fail)
      · have hge : μ2 48 0 14 ≤ μ2 48 0 28 := by
          rw [b14, f28]
          refine nI_le ?_ (by omega)
          rcases Nat.lt_or_ge q4.1 n with z | z
          · exact absurd ⟨o4, z⟩ hm
          · exact z
        obtain ⟨rfl, rfl, rfl⟩ := hno hm
        have hk := hK (zu μ2 72 0 r (nI (j + 1))) q'.2 G3 (Or.inr ⟨hm, rfl⟩) f29 fp (fun _ => ⟨by rw [zu_eq, List.length_append, hpl]; rfl, by rw [List.length_append, hpl]; simp; omega, e69, hany, ent o4⟩)
        have e1 : zG S (d + 3) m_Mo_readTests K 48 [some (zR 48 0), some (zI (nI r)), some (zI 1)] [] (zu μ2 72 0 r (nI (j + 1))) := by
          repeat' (first
            | exact end1 _ hk
            | refine br_f hf ?_
            | refine br_t hge ?_
            | (refine zs k_Mo_readTests rfl ?_; conv => whnf)
            | refine ⟨Nat.zero_lt_one, rfl, ?_⟩
            | refine ⟨rfl, ?_⟩
            | refine ⟨⟨Nat.zero_lt_one, rfl⟩, Nat.le_of_ble_eq_true rfl, ?_⟩
            | refine ⟨Nat.le_of_ble_eq_true rfl, Nat.le_of_ble_eq_true rfl, ?_⟩
            | refine ⟨(by first | exact Nat.zero_lt_one | assumption | omega), (by first | assumption | exact vp_in_nI (by omega) (by omega) | (unfold vp_in; decide)), ?_⟩
            | refine ⟨(by first | exact Nat.zero_lt_one | assumption | omega), rfl, ?_⟩
            | refine ⟨⟨(by first | exact Nat.zero_lt_one | assumption | omega), rfl⟩, Nat.le_of_ble_eq_true rfl, ?_⟩
            | refine ⟨(by first | exact Nat.zero_lt_one | assumption | omega), ?_⟩
            | refine ⟨Or.inl rfl, ?_⟩
            | refine ⟨Or.inr (Or.inl rfl), ?_⟩
            | refine ⟨Or.inr (Or.inr rfl), ?_⟩
            | refine ⟨Or.inr ⟨rfl, (by first | exact Or.inl rfl | exact Or.inr rfl | assumption)⟩, ?_⟩
            | refine ⟨fun h => absurd h (by decide), fun _ => ?_⟩
            | refine ⟨fun _ => ?_, fun h => absurd h (by decide)⟩
            | refine ⟨fun h => ?_, fun h => ?_⟩
            | fail)
        repeat' (first
          | (rw [hst _ cr]; exact e1)
          | (refine zs k_Mo_readTests rfl ?_; conv => whnf)
          | refine ⟨Nat.zero_lt_one, rfl, ?_⟩
          | refine ⟨rfl, ?_⟩
          | refine ⟨⟨Nat.zero_lt_one, rfl⟩, Nat.le_of_ble_eq_true rfl, ?_⟩
          | refine ⟨Nat.le_of_ble_eq_true rfl, Nat.le_of_ble_eq_true rfl, ?_⟩
          | refine ⟨(by first | exact Nat.zero_lt_one | assumption | omega), (by first | assumption | exact vp_in_nI (by omega) (by omega) | (unfold vp_in; decide)), ?_⟩
          | refine ⟨(by first | exact Nat.zero_lt_one | assumption | omega), rfl, ?_⟩
          | refine ⟨⟨(by first | exact Nat.zero_lt_one | assumption | omega), rfl⟩, Nat.le_of_ble_eq_true rfl, ?_⟩
          | refine ⟨(by first | exact Nat.zero_lt_one | assumption | omega), ?_⟩
          | refine ⟨Or.inl rfl, ?_⟩
          | refine ⟨Or.inr (Or.inl rfl), ?_⟩
          | refine ⟨Or.inr (Or.inr rfl), ?_⟩
          | refine ⟨Or.inr ⟨rfl, (by first | exact Or.inl rfl | exact Or.inr rfl | assumption)⟩, ?_⟩
          | refine ⟨fun h => absurd h (by decide), fun _ => ?_⟩
          | refine ⟨fun _ => ?_, fun h => absurd h (by decide)⟩
          | refine ⟨fun h => ?_, fun h => ?_⟩
          | fail)
    refine zs k_Mo_readTests rfl ?_; conv => whnf
    repeat' (first
      | refine c_Mo_readTest (q := q) (q' := q4) (t := t) (gF_E F E) s28 s29 o2 hqn mi (by omega) eT (fun μ2 F2 f29 fv fp => ?_)
      | exact fin μ2 F2 f29 (fun z => ⟨(fv z).1, (fv z).2⟩) fp
      | (refine zs k_Mo_readTests rfl ?_; conv => whnf)
      | refine ⟨Nat.zero_lt_one, rfl, ?_⟩
      | refine ⟨rfl, ?_⟩
      | refine ⟨⟨Nat.zero_lt_one, rfl⟩, Nat.le_of_ble_eq_true rfl, ?_⟩
      | refine ⟨Nat.le_of_ble_eq_true rfl, Nat.le_of_ble_eq_true rfl, ?_⟩
      | refine ⟨(by first | exact Nat.zero_lt_one | assumption | omega), (by first | assumption | exact vp_in_nI (by omega) (by omega) | (unfold vp_in; decide)), ?_⟩
      | refine ⟨(by first | exact Nat.zero_lt_one | assumption | omega), rfl, ?_⟩
      | refine ⟨⟨(by first | exact Nat.zero_lt_one | assumption | omega), rfl⟩, Nat.le_of_ble_eq_true rfl, ?_⟩
      | refine ⟨(by first | exact Nat.zero_lt_one | assumption | omega), ?_⟩
      | refine ⟨Or.inl rfl, ?_⟩
      | refine ⟨Or.inr (Or.inl rfl), ?_⟩
      | refine ⟨Or.inr (Or.inr rfl), ?_⟩
      | refine ⟨Or.inr ⟨rfl, (by first | exact Or.inl rfl | exact Or.inr rfl | assumption)⟩, ?_⟩
      | refine ⟨fun h => absurd h (by decide), fun _ => ?_⟩
      | refine ⟨fun _ => ?_, fun h => absurd h (by decide)⟩
      | refine ⟨fun h => ?_, fun h => ?_⟩
      | fail)
  have L : ∀ (k j : Nat) (any any' : Int32) (q q4 q' : zQ) (t : rT) (ts pre : List rT) (μ1 : zMu), j + k = 3 → q.2 = -1 → q.1 ≤ n → qTR a n q t q4 → qLR a n k any q4 ts any' q' → gF r μ μ1 → μ1 48 0 28 = nI q.1 → μ1 48 0 29 = -1 → μ1 72 0 r = nI j → μ1 69 0 r = any → (any = 0 ∨ any = 1) → pre.length = j → (∀ i e, pre[i]? = some e → tE μ1 (4 * r + i) e) →
      (∀ μ' fl, gF r μ μ' → ((qMore n q' ∧ fl = nI q'.1) ∨ (¬ qMore n q' ∧ fl = q'.2)) → μ' 48 0 29 = fl → (¬ fl = -1 → 0 ≤ fl) → (fl = -1 → μ' 72 0 r = nI (pre ++ t :: ts).length ∧ (pre ++ t :: ts).length ≤ 4 ∧ μ' 69 0 r = any' ∧ (any' = 0 ∨ any' = 1) ∧ ∀ i e, (pre ++ t :: ts)[i]? = some e → tE μ' (4 * r + i) e) → K none μ') → zG S (d + 3) m_Mo_readTests K 20 [some (zR 48 0), some (zI (nI r)), some (zI 1)] [] μ1 := by
    intro k
    induction k with
    | zero =>
      intro j any any' q q4 q' t ts pre μ1 hjk o2 hqn eT eL F s28 s29 s72 s69 hany hpl hpre hK
      obtain rfl : j = 3 := by omega
      have h4n := qTR_n hqn eT
      refine core 3 any any' q q4 q' t ts pre μ1 (by omega) o2 hqn eT (fun _ => eL) F s28 s29 s72 s69 hany hpl hpre hK (fun hm μ2 G2 t28 t29 t72 t69 ent => ?_)
      obtain ⟨rfl, rfl, rfl⟩ : ts = [] ∧ any' = any ∧ q' = q4 := eL
      have hnn : ¬ nI q'.1 = -1 := nI_nem1 (by omega)
      have hk := hK (zu μ2 48 0 29 (nI q'.1)) (nI q'.1) (gF_fl G2) (Or.inl ⟨hm, rfl⟩) zu_eq (fun _ => nI_pos' (by omega)) (fun z => absurd z hnn)
      have c72 : μ2 72 0 (nI r).toNatClampNeg = 4 := by rw [cr, t72]; rfl
      have hst : zu μ2 48 0 29 (μ2 48 0 28) = zu μ2 48 0 29 (nI q'.1) := by rw [t28]
      have hf : 0 ≤ zu μ2 48 0 29 (nI q'.1) 48 0 29 := by rw [zu_eq]; exact nI_pos' (by omega)
      have e1 : zG S (d + 3) m_Mo_readTests K 94 [some (zR 48 0), some (zI (nI r)), some (zI 1)] [] (zu μ2 48 0 29 (nI q'.1)) := by
        repeat' (first
          | exact end3 _ hf hk
          | refine br_t hf ?_
          | (refine zs k_Mo_readTests rfl ?_; conv => whnf)
          | refine ⟨Nat.zero_lt_one, rfl, ?_⟩
          | refine ⟨rfl, ?_⟩
          | refine ⟨⟨Nat.zero_lt_one, rfl⟩, Nat.le_of_ble_eq_true rfl, ?_⟩
          | refine ⟨Nat.le_of_ble_eq_true rfl, Nat.le_of_ble_eq_true rfl, ?_⟩
          | refine ⟨(by first | exact Nat.zero_lt_one | assumption | omega), (by first | assumption | exact vp_in_nI (by omega) (by omega) | (unfold vp_in; decide)), ?_⟩
          | refine ⟨(by first | exact Nat.zero_lt_one | assumption | omega), rfl, ?_⟩
          | refine ⟨⟨(by first | exact Nat.zero_lt_one | assumption | omega), rfl⟩, Nat.le_of_ble_eq_true rfl, ?_⟩
          | refine ⟨(by first | exact Nat.zero_lt_one | assumption | omega), ?_⟩
          | refine ⟨Or.inl rfl, ?_⟩
          | refine ⟨Or.inr (Or.inl rfl), ?_⟩
          | refine ⟨Or.inr (Or.inr rfl), ?_⟩
          | refine ⟨Or.inr ⟨rfl, (by first | exact Or.inl rfl | exact Or.inr rfl | assumption)⟩, ?_⟩
          | refine ⟨fun h => absurd h (by decide), fun _ => ?_⟩
          | refine ⟨fun _ => ?_, fun h => absurd h (by decide)⟩
          | refine ⟨fun h => ?_, fun h => ?_⟩
          | fail)
      repeat' (first
        | (rw [hst]; exact e1)
        | refine bn_f c72 ?_
        | (refine zs k_Mo_readTests rfl ?_; conv => whnf)
        | refine ⟨Nat.zero_lt_one, rfl, ?_⟩
        | refine ⟨rfl, ?_⟩
        | refine ⟨⟨Nat.zero_lt_one, rfl⟩, Nat.le_of_ble_eq_true rfl, ?_⟩
        | refine ⟨Nat.le_of_ble_eq_true rfl, Nat.le_of_ble_eq_true rfl, ?_⟩
        | refine ⟨(by first | exact Nat.zero_lt_one | assumption | omega), (by first | assumption | exact vp_in_nI (by omega) (by omega) | (unfold vp_in; decide)), ?_⟩
        | refine ⟨(by first | exact Nat.zero_lt_one | assumption | omega), rfl, ?_⟩
        | refine ⟨⟨(by first | exact Nat.zero_lt_one | assumption | omega), rfl⟩, Nat.le_of_ble_eq_true rfl, ?_⟩
        | refine ⟨(by first | exact Nat.zero_lt_one | assumption | omega), ?_⟩
        | refine ⟨Or.inl rfl, ?_⟩
        | refine ⟨Or.inr (Or.inl rfl), ?_⟩
        | refine ⟨Or.inr (Or.inr rfl), ?_⟩
        | refine ⟨Or.inr ⟨rfl, (by first | exact Or.inl rfl | exact Or.inr rfl | assumption)⟩, ?_⟩
        | refine ⟨fun h => absurd h (by decide), fun _ => ?_⟩
        | refine ⟨fun _ => ?_, fun h => absurd h (by decide)⟩
        | refine ⟨fun h => ?_, fun h => ?_⟩
        | fail)
    | succ k ih =>
      intro j any any' q q4 q' t ts pre μ1 hjk o2 hqn eT eL F s28 s29 s72 s69 hany hpl hpre hK
      have h4n := qTR_n hqn eT
      refine core j any any' q q4 q' t ts pre μ1 (by omega) o2 hqn eT (fun z => qLR_no z eL) F s28 s29 s72 s69 hany hpl hpre hK (fun hm μ2 G2 t28 t29 t72 t69 ent => ?_)
      rcases eL with eL | ⟨-, p1, any1, w2, p2, p3, t', p4, ts', f1, f2, f3, fT, rfl, fL⟩
      · exact absurd hm eL.1
      have hp1n : p1.1 ≤ n := by rw [← f1]; exact qB_le h4n
      have E2 := gF_E G2 E
      have o4 := hm.1
      have ok4 : qOk q4 := ⟨by omega, Or.inl o4⟩
      have hX1 : mX a n [32] q4 = p1 := by rw [mX_b]; exact f1
      have ok1 : qOk p1 := by rw [← hX1]; exact mX_ok h200 (by decide) ok4
      have c72 : ¬ μ2 72 0 (nI r).toNatClampNeg = 4 := by
        rw [cr, t72]
        exact fun z => absurd ((nI_eq (b := 4) (by omega) (by omega)).mp z) (by omega)
      have hf2 : ¬ 0 ≤ μ2 48 0 29 := i32 _ t29
      have t29' : μ2 48 0 29 = q4.2 := by rw [t29, o4]
      have hp2n : p2.1 ≤ n := by
        by_cases hk2 : k = 2
        · rw [if_pos hk2] at f2
          have := qW_le (a := a) (n := n) (k := 10) (q := p1) (by omega) hp1n
          rw [f2.1] at this
          exact this
        · rw [if_neg hk2] at f2
          have := qW_le (a := a) (n := n) (k := if any = 0 then 12 else 11) (q := p1) (by split <;> omega) hp1n
          rw [f2.1] at this
          exact this
      have hp3n : p3.1 ≤ n := by rw [← f3]; exact qB_le hp2n
      -- behind a fault nothing more is read
      have stop : ¬ p3.2 = -1 → q' = p3 ∧ ¬ qMore n q' := fun z => by
        have h4 := qTR_ft z fT
        subst h4
        obtain ⟨-, -, h5⟩ := qLR_no (fun w => z w.1) fL
        exact ⟨h5, fun w => z (by rw [← h5]; exact w.1)⟩
      have stop1 : ¬ p1.2 = -1 → p3 = p1 := fun z => by
        have h2 : p2 = p1 := by
          by_cases hk2 : k = 2
          · rw [if_pos hk2, qW_ft z] at f2
            exact (Prod.mk.inj f2.1).2.symm
          · rw [if_neg hk2, qW_ft z] at f2
            exact (Prod.mk.inj f2.1).2.symm
        rw [← f3, h2, qB_ft z]
      -- at 190
      have S190 : ∀ (μ3 : zMu) (Q : zQ), gF r μ μ3 → μ3 48 0 28 = nI Q.1 → μ3 48 0 29 = Q.2 → qOk Q → eqQ p3 Q → μ3 72 0 r = nI (j + 1) → (p3.2 = -1 → μ3 69 0 r = any1 ∧ (any1 = 0 ∨ any1 = 1)) → (∀ i e, (pre ++ [t])[i]? = some e → tE μ3 (4 * r + i) e) → zG S (d + 3) m_Mo_readTests K 190 [some (zR 48 0), some (zI (nI r)), some (zI 1)] [] μ3 := fun μ3 Q G3 u28 u29 okQ heQ u72 u69 ent3 => by
        by_cases o3 : p3.2 = -1
        · obtain rfl := (eqQ_1 heQ o3).symm
          have hf3 : ¬ 0 ≤ μ3 48 0 29 := i32 _ (u29.trans o3)
          obtain ⟨u691, u692⟩ := u69 o3
          have hgo := ih (j + 1) any1 any' p3 p4 q' t' ts' (pre ++ [t]) μ3 (by omega) o3 hp3n fT fL G3 u28 (u29.trans o3) u72 u691 u692 (by rw [List.length_append, hpl]; rfl) ent3 (fun μ' fl g1 g2 g3 g3b g4 => hK μ' fl g1 g2 g3 g3b (fun z => by
            have := g4 z
            rw [List.append_assoc] at this
            exact this))
          repeat' (first
            | exact hgo
            | refine br_f hf3 ?_
            | (refine zs k_Mo_readTests rfl ?_; conv => whnf)
            | refine ⟨Nat.zero_lt_one, rfl, ?_⟩
            | refine ⟨rfl, ?_⟩
            | refine ⟨⟨Nat.zero_lt_one, rfl⟩, Nat.le_of_ble_eq_true rfl, ?_⟩
            | refine ⟨Nat.le_of_ble_eq_true rfl, Nat.le_of_ble_eq_true rfl, ?_⟩
            | refine ⟨(by first | exact Nat.zero_lt_one | assumption | omega), (by first | assumption | exact vp_in_nI (by omega) (by omega) | (unfold vp_in; decide)), ?_⟩
            | refine ⟨(by first | exact Nat.zero_lt_one | assumption | omega), rfl, ?_⟩
            | refine ⟨⟨(by first | exact Nat.zero_lt_one | assumption | omega), rfl⟩, Nat.le_of_ble_eq_true rfl, ?_⟩
            | refine ⟨(by first | exact Nat.zero_lt_one | assumption | omega), ?_⟩
            | refine ⟨Or.inl rfl, ?_⟩
            | refine ⟨Or.inr (Or.inl rfl), ?_⟩
            | refine ⟨Or.inr (Or.inr rfl), ?_⟩
            | refine ⟨Or.inr ⟨rfl, (by first | exact Or.inl rfl | exact Or.inr rfl | assumption)⟩, ?_⟩
            | refine ⟨fun h => absurd h (by decide), fun _ => ?_⟩
            | refine ⟨fun _ => ?_, fun h => absurd h (by decide)⟩
            | refine ⟨fun h => ?_, fun h => ?_⟩
            | fail)
        · obtain ⟨h5, h6⟩ := stop o3
          have hf3 : 0 ≤ μ3 48 0 29 := by
            rw [u29]
            rcases qOk_neg okQ with ⟨z, -⟩ | ⟨-, z⟩
            · exact absurd (heQ.1.symm.trans z) o3
            · exact z
          have hk := hK μ3 q'.2 G3 (Or.inr ⟨h6, rfl⟩) (by rw [u29, heQ.1, h5]) (fun _ => by rw [h5, ← heQ.1, ← u29]; exact hf3) (fun z => absurd (by rw [← h5]; exact z) o3)
          exact end2 μ3 hf3 hk
      -- at 112
      have G4 : gF r μ (cM μ2 p1) := gF_cM G2
      have S112 : zG S (d + 3) m_Mo_readTests K 112 [some (zR 48 0), some (zI (nI r)), some (zI 1)] [] (cM μ2 p1) := by
        have u28 : cM μ2 p1 48 0 28 = nI p1.1 := cM_28
        have u29 : cM μ2 p1 48 0 29 = p1.2 := cM_29
        have u72 : cM μ2 p1 72 0 r = nI (j + 1) := t72
        have u69 : cM μ2 p1 69 0 r = any := t69
        have ent4 : ∀ i e, (pre ++ [t])[i]? = some e → tE (cM μ2 p1) (4 * r + i) e := ent
        have E4 := gF_E G4 E
        generalize cM μ2 p1 = ν at *
        by_cases o1 : p1.2 = -1
        case neg =>
          have hf4 : 0 ≤ ν 48 0 29 := by
            rw [u29]
            rcases qOk_neg ok1 with ⟨z, -⟩ | ⟨-, z⟩
            · exact absurd z o1
            · exact z
          have h3 := stop1 o1
          obtain ⟨h5, h6⟩ := stop (by rw [h3]; exact o1)
          have hk := hK ν q'.2 G4 (Or.inr ⟨h6, rfl⟩) (by rw [u29, h5, h3]) (fun _ => by rw [h5, h3, ← u29]; exact hf4) (fun z => absurd (by rw [← h3, ← h5]; exact z) o1)
          exact end3 ν hf4 hk
        have hf4 : ¬ 0 ≤ ν 48 0 29 := i32 _ (u29.trans o1)
        have exC : ∀ (cs : List Int32), cs.length ≤ 3 → eqQ p2 (mX a n cs p1) → eqQ p3 (mX a n (cs ++ [32]) p1) := fun cs hl he => by
          rw [mX_app (by omega), ← f3]
          exact eqQ_B he
        by_cases hj0 : j = 0
        · have hk2 : k = 2 := by omega
          rw [if_pos hk2] at f2
          obtain ⟨y1, y2⟩ := w10_eq (by omega) o1 f2.1
          have c1 : ν 72 0 (nI r).toNatClampNeg = 1 := by rw [cr, u72, hj0]; rfl
          by_cases l : pB a n p1.1 = 111
          · obtain ⟨z1, z2⟩ := y1 l
            have G5 : gF r μ (zu ν 69 0 r 1) := gF_r G4 (by decide)
            have hst : ∀ r', r' = r → zu ν 69 0 r' (vp_nar .boolean 1) = zu ν 69 0 r 1 := fun r' h => by rw [h]; rfl
            have hgo := S190 (cM (zu ν 69 0 r 1) (mX a n [111, 114, 32] p1)) (mX a n [111, 114, 32] p1) (gF_cM G5) cM_28 cM_29 (mX_ok h200 (by decide) ok1) (exC [111, 114] (by decide) z1) (by rw [cM_o (by omega), zu_ne (by omega)]; exact u72) (fun z => ⟨by
              rw [cM_o (by omega), zu_eq, f2.2]
              have : p2.2 = -1 := by
                by_cases w : p2.2 = -1
                · exact w
                · rw [← f3, qB_ft w] at z
                  exact absurd z w
              rw [z2 this]
              rfl, by rw [f2.2]; split <;> simp⟩) (fun i e he => by
              have := ent4 i e he
              unfold tE at *
              rw [cM_o (by omega), cM_o (by omega), cM_o (by omega), cM_o (by omega), cM_o (by omega), zu_ne (by omega), zu_ne (by omega), zu_ne (by omega), zu_ne (by omega), zu_ne (by omega)]
              exact this)
            have ne0 : ¬ zu ν 69 0 r 1 69 0 (nI r).toNatClampNeg = 0 := by rw [cr, zu_eq]; decide
            have e1 : zG S (d + 3) m_Mo_readTests K 153 [some (zR 48 0), some (zI (nI r)), some (zI 1)] [] (zu ν 69 0 r 1) := by
              repeat' (first
                | exact hgo
                | refine br_f hf4 ?_
                | refine br_f ne0 ?_
                | refine c_Mo_expect (cs := [111, 114, 32]) (q := p1) (gF_E G5 E) u28 u29 ok1 rfl (by decide) (by decide) (by decide) ?_
                | (refine zs k_Mo_readTests rfl ?_; conv => whnf)
                | refine ⟨Nat.zero_lt_one, rfl, ?_⟩
                | refine ⟨rfl, ?_⟩
                | refine ⟨⟨Nat.zero_lt_one, rfl⟩, Nat.le_of_ble_eq_true rfl, ?_⟩
                | refine ⟨Nat.le_of_ble_eq_true rfl, Nat.le_of_ble_eq_true rfl, ?_⟩
                | refine ⟨(by first | exact Nat.zero_lt_one | assumption | omega), (by first | assumption | exact vp_in_nI (by omega) (by omega) | (unfold vp_in; decide)), ?_⟩
                | refine ⟨(by first | exact Nat.zero_lt_one | assumption | omega), rfl, ?_⟩
                | refine ⟨⟨(by first | exact Nat.zero_lt_one | assumption | omega), rfl⟩, Nat.le_of_ble_eq_true rfl, ?_⟩
                | refine ⟨(by first | exact Nat.zero_lt_one | assumption | omega), ?_⟩
                | refine ⟨Or.inl rfl, ?_⟩
                | refine ⟨Or.inr (Or.inl rfl), ?_⟩
                | refine ⟨Or.inr (Or.inr rfl), ?_⟩
                | refine ⟨Or.inr ⟨rfl, (by first | exact Or.inl rfl | exact Or.inr rfl | assumption)⟩, ?_⟩
                | refine ⟨fun h => absurd h (by decide), fun _ => ?_⟩
                | refine ⟨fun _ => ?_, fun h => absurd h (by decide)⟩
                | refine ⟨fun h => ?_, fun h => ?_⟩
                | fail)
            repeat' (first
              | (rw [hst _ cr]; exact e1)
              | refine br_f hf4 ?_
              | refine bn_f c1 ?_
              | refine c_Mo_letter E4 u28 (by omega) ?_
              | refine bn_f l ?_
              | (refine zs k_Mo_readTests rfl ?_; conv => whnf)
              | refine ⟨Nat.zero_lt_one, rfl, ?_⟩
              | refine ⟨rfl, ?_⟩
              | refine ⟨⟨Nat.zero_lt_one, rfl⟩, Nat.le_of_ble_eq_true rfl, ?_⟩
              | refine ⟨Nat.le_of_ble_eq_true rfl, Nat.le_of_ble_eq_true rfl, ?_⟩
              | refine ⟨(by first | exact Nat.zero_lt_one | assumption | omega), (by first | assumption | exact vp_in_nI (by omega) (by omega) | (unfold vp_in; decide)), ?_⟩
              | refine ⟨(by first | exact Nat.zero_lt_one | assumption | omega), rfl, ?_⟩
              | refine ⟨⟨(by first | exact Nat.zero_lt_one | assumption | omega), rfl⟩, Nat.le_of_ble_eq_true rfl, ?_⟩
              | refine ⟨(by first | exact Nat.zero_lt_one | assumption | omega), ?_⟩
              | refine ⟨Or.inl rfl, ?_⟩
              | refine ⟨Or.inr (Or.inl rfl), ?_⟩
              | refine ⟨Or.inr (Or.inr rfl), ?_⟩
              | refine ⟨Or.inr ⟨rfl, (by first | exact Or.inl rfl | exact Or.inr rfl | assumption)⟩, ?_⟩
              | refine ⟨fun h => absurd h (by decide), fun _ => ?_⟩
              | refine ⟨fun _ => ?_, fun h => absurd h (by decide)⟩
              | refine ⟨fun h => ?_, fun h => ?_⟩
              | fail)
          · obtain ⟨z1, z2⟩ := y2 l
            have G5 : gF r μ (zu ν 69 0 r 0) := gF_r G4 (by decide)
            have hst : ∀ r', r' = r → zu ν 69 0 r' (vp_nar .boolean 0) = zu ν 69 0 r 0 := fun r' h => by rw [h]; rfl
            have hgo := S190 (cM (zu ν 69 0 r 0) (mX a n [97, 110, 100, 32] p1)) (mX a n [97, 110, 100, 32] p1) (gF_cM G5) cM_28 cM_29 (mX_ok h200 (by decide) ok1) (exC [97, 110, 100] (by decide) z1) (by rw [cM_o (by omega), zu_ne (by omega)]; exact u72) (fun z => ⟨by
              rw [cM_o (by omega), zu_eq, f2.2]
              have : p2.2 = -1 := by
                by_cases w : p2.2 = -1
                · exact w
                · rw [← f3, qB_ft w] at z
                  exact absurd z w
              rw [z2 this]
              rfl, by rw [f2.2]; split <;> simp⟩) (fun i e he => by
              have := ent4 i e he
              unfold tE at *
              rw [cM_o (by omega), cM_o (by omega), cM_o (by omega), cM_o (by omega), cM_o (by omega), zu_ne (by omega), zu_ne (by omega), zu_ne (by omega), zu_ne (by omega), zu_ne (by omega)]
              exact this)
            have ne0 : zu ν 69 0 r 0 69 0 (nI r).toNatClampNeg = 0 := by rw [cr, zu_eq]
            have e1 : zG S (d + 3) m_Mo_readTests K 153 [some (zR 48 0), some (zI (nI r)), some (zI 1)] [] (zu ν 69 0 r 0) := by
              repeat' (first
                | exact hgo
                | refine br_f hf4 ?_
                | refine br_t ne0 ?_
                | refine c_Mo_expect (cs := [97, 110, 100, 32]) (q := p1) (gF_E G5 E) u28 u29 ok1 rfl (by decide) (by decide) (by decide) ?_
                | (refine zs k_Mo_readTests rfl ?_; conv => whnf)
                | refine ⟨Nat.zero_lt_one, rfl, ?_⟩
                | refine ⟨rfl, ?_⟩
                | refine ⟨⟨Nat.zero_lt_one, rfl⟩, Nat.le_of_ble_eq_true rfl, ?_⟩
                | refine ⟨Nat.le_of_ble_eq_true rfl, Nat.le_of_ble_eq_true rfl, ?_⟩
                | refine ⟨(by first | exact Nat.zero_lt_one | assumption | omega), (by first | assumption | exact vp_in_nI (by omega) (by omega) | (unfold vp_in; decide)), ?_⟩
                | refine ⟨(by first | exact Nat.zero_lt_one | assumption | omega), rfl, ?_⟩
                | refine ⟨⟨(by first | exact Nat.zero_lt_one | assumption | omega), rfl⟩, Nat.le_of_ble_eq_true rfl, ?_⟩
                | refine ⟨(by first | exact Nat.zero_lt_one | assumption | omega), ?_⟩
                | refine ⟨Or.inl rfl, ?_⟩
                | refine ⟨Or.inr (Or.inl rfl), ?_⟩
                | refine ⟨Or.inr (Or.inr rfl), ?_⟩
                | refine ⟨Or.inr ⟨rfl, (by first | exact Or.inl rfl | exact Or.inr rfl | assumption)⟩, ?_⟩
                | refine ⟨fun h => absurd h (by decide), fun _ => ?_⟩
                | refine ⟨fun _ => ?_, fun h => absurd h (by decide)⟩
                | refine ⟨fun h => ?_, fun h => ?_⟩
                | fail)
            repeat' (first
              | (rw [hst _ cr]; exact e1)
              | refine br_f hf4 ?_
              | refine bn_f c1 ?_
              | refine c_Mo_letter E4 u28 (by omega) ?_
              | refine bn_t l ?_
              | (refine zs k_Mo_readTests rfl ?_; conv => whnf)
              | refine ⟨Nat.zero_lt_one, rfl, ?_⟩
              | refine ⟨rfl, ?_⟩
              | refine ⟨⟨Nat.zero_lt_one, rfl⟩, Nat.le_of_ble_eq_true rfl, ?_⟩
              | refine ⟨Nat.le_of_ble_eq_true rfl, Nat.le_of_ble_eq_true rfl, ?_⟩
              | refine ⟨(by first | exact Nat.zero_lt_one | assumption | omega), (by first | assumption | exact vp_in_nI (by omega) (by omega) | (unfold vp_in; decide)), ?_⟩
              | refine ⟨(by first | exact Nat.zero_lt_one | assumption | omega), rfl, ?_⟩
              | refine ⟨⟨(by first | exact Nat.zero_lt_one | assumption | omega), rfl⟩, Nat.le_of_ble_eq_true rfl, ?_⟩
              | refine ⟨(by first | exact Nat.zero_lt_one | assumption | omega), ?_⟩
              | refine ⟨Or.inl rfl, ?_⟩
              | refine ⟨Or.inr (Or.inl rfl), ?_⟩
              | refine ⟨Or.inr (Or.inr rfl), ?_⟩
              | refine ⟨Or.inr ⟨rfl, (by first | exact Or.inl rfl | exact Or.inr rfl | assumption)⟩, ?_⟩
              | refine ⟨fun h => absurd h (by decide), fun _ => ?_⟩
              | refine ⟨fun _ => ?_, fun h => absurd h (by decide)⟩
              | refine ⟨fun h => ?_, fun h => ?_⟩
              | fail)
        · have hk2 : ¬ k = 2 := by omega
          rw [if_neg hk2] at f2
          obtain ⟨f21, f22⟩ := f2
          have c1 : ¬ ν 72 0 (nI r).toNatClampNeg = 1 := by
            rw [cr, u72]
            exact fun z => absurd ((nI_eq (b := 1) (by omega) (by omega)).mp z) (by omega)
          rcases hany with h0 | h0
          · rw [if_pos h0] at f21
            have z1 := qW_1 (cs := [97, 110, 100]) (by omega) rfl (by show p1.1 + 3 < 2 ^ 31; omega) f21 eqQ_rf
            have hgo := S190 (cM ν (mX a n [97, 110, 100, 32] p1)) (mX a n [97, 110, 100, 32] p1) (gF_cM G4) cM_28 cM_29 (mX_ok h200 (by decide) ok1) (exC [97, 110, 100] (by decide) z1) (by rw [cM_o (by omega)]; exact u72) (fun _ => ⟨by rw [cM_o (by omega), f22]; exact u69, by rw [f22]; exact Or.inl h0⟩) ent4
            have ne0 : ν 69 0 (nI r).toNatClampNeg = 0 := by rw [cr, u69]; exact h0
            repeat' (first
              | exact hgo
              | refine br_f hf4 ?_
              | refine bn_t c1 ?_
              | refine br_t ne0 ?_
              | refine c_Mo_expect (cs := [97, 110, 100, 32]) (q := p1) E4 u28 u29 ok1 rfl (by decide) (by decide) (by decide) ?_
              | (refine zs k_Mo_readTests rfl ?_; conv => whnf)
              | refine ⟨Nat.zero_lt_one, rfl, ?_⟩
              | refine ⟨rfl, ?_⟩
              | refine ⟨⟨Nat.zero_lt_one, rfl⟩, Nat.le_of_ble_eq_true rfl, ?_⟩
              | refine ⟨Nat.le_of_ble_eq_true rfl, Nat.le_of_ble_eq_true rfl, ?_⟩
              | refine ⟨(by first | exact Nat.zero_lt_one | assumption | omega), (by first | assumption | exact vp_in_nI (by omega) (by omega) | (unfold vp_in; decide)), ?_⟩
              | refine ⟨(by first | exact Nat.zero_lt_one | assumption | omega), rfl, ?_⟩
              | refine ⟨⟨(by first | exact Nat.zero_lt_one | assumption | omega), rfl⟩, Nat.le_of_ble_eq_true rfl, ?_⟩
              | refine ⟨(by first | exact Nat.zero_lt_one | assumption | omega), ?_⟩
              | refine ⟨Or.inl rfl, ?_⟩
              | refine ⟨Or.inr (Or.inl rfl), ?_⟩
              | refine ⟨Or.inr (Or.inr rfl), ?_⟩
              | refine ⟨Or.inr ⟨rfl, (by first | exact Or.inl rfl | exact Or.inr rfl | assumption)⟩, ?_⟩
              | refine ⟨fun h => absurd h (by decide), fun _ => ?_⟩
              | refine ⟨fun _ => ?_, fun h => absurd h (by decide)⟩
              | refine ⟨fun h => ?_, fun h => ?_⟩
              | fail)
          · rw [if_neg (by rw [h0]; decide)] at f21
            have z1 := qW_1 (cs := [111, 114]) (by omega) rfl (by show p1.1 + 2 < 2 ^ 31; omega) f21 eqQ_rf
            have hgo := S190 (cM ν (mX a n [111, 114, 32] p1)) (mX a n [111, 114, 32] p1) (gF_cM G4) cM_28 cM_29 (mX_ok h200 (by decide) ok1) (exC [111, 114] (by decide) z1) (by rw [cM_o (by omega)]; exact u72) (fun _ => ⟨by rw [cM_o (by omega), f22]; exact u69, by rw [f22]; exact Or.inr h0⟩) ent4
            have ne0 : ¬ ν 69 0 (nI r).toNatClampNeg = 0 := by rw [cr, u69, h0]; decide
            repeat' (first
              | exact hgo
              | refine br_f hf4 ?_
              | refine bn_t c1 ?_
              | refine br_f ne0 ?_
              | refine c_Mo_expect (cs := [111, 114, 32]) (q := p1) E4 u28 u29 ok1 rfl (by decide) (by decide) (by decide) ?_
              | (refine zs k_Mo_readTests rfl ?_; conv => whnf)
              | refine ⟨Nat.zero_lt_one, rfl, ?_⟩
              | refine ⟨rfl, ?_⟩
              | refine ⟨⟨Nat.zero_lt_one, rfl⟩, Nat.le_of_ble_eq_true rfl, ?_⟩
              | refine ⟨Nat.le_of_ble_eq_true rfl, Nat.le_of_ble_eq_true rfl, ?_⟩
              | refine ⟨(by first | exact Nat.zero_lt_one | assumption | omega), (by first | assumption | exact vp_in_nI (by omega) (by omega) | (unfold vp_in; decide)), ?_⟩
              | refine ⟨(by first | exact Nat.zero_lt_one | assumption | omega), rfl, ?_⟩
              | refine ⟨⟨(by first | exact Nat.zero_lt_one | assumption | omega), rfl⟩, Nat.le_of_ble_eq_true rfl, ?_⟩
              | refine ⟨(by first | exact Nat.zero_lt_one | assumption | omega), ?_⟩
              | refine ⟨Or.inl rfl, ?_⟩
              | refine ⟨Or.inr (Or.inl rfl), ?_⟩
              | refine ⟨Or.inr (Or.inr rfl), ?_⟩
              | refine ⟨Or.inr ⟨rfl, (by first | exact Or.inl rfl | exact Or.inr rfl | assumption)⟩, ?_⟩
              | refine ⟨fun h => absurd h (by decide), fun _ => ?_⟩
              | refine ⟨fun _ => ?_, fun h => absurd h (by decide)⟩
              | refine ⟨fun h => ?_, fun h => ?_⟩
              | fail)
      repeat' (first
        | exact S112
        | refine bn_t c72 ?_
        | refine br_f hf2 ?_
        | (refine c_Mo_expect (cs := [32]) (q := q4) E2 t28 t29' ok4 rfl (by decide) (by decide) (by decide) ?_; rw [hX1])
        | (refine zs k_Mo_readTests rfl ?_; conv => whnf)
        | refine ⟨Nat.zero_lt_one, rfl, ?_⟩
        | refine ⟨rfl, ?_⟩
        | refine ⟨⟨Nat.zero_lt_one, rfl⟩, Nat.le_of_ble_eq_true rfl, ?_⟩
        | refine ⟨Nat.le_of_ble_eq_true rfl, Nat.le_of_ble_eq_true rfl, ?_⟩
        | refine ⟨(by first | exact Nat.zero_lt_one | assumption | omega), (by first | assumption | exact vp_in_nI (by omega) (by omega) | (unfold vp_in; decide)), ?_⟩
        | refine ⟨(by first | exact Nat.zero_lt_one | assumption | omega), rfl, ?_⟩
        | refine ⟨⟨(by first | exact Nat.zero_lt_one | assumption | omega), rfl⟩, Nat.le_of_ble_eq_true rfl, ?_⟩
        | refine ⟨(by first | exact Nat.zero_lt_one | assumption | omega), ?_⟩
        | refine ⟨Or.inl rfl, ?_⟩
        | refine ⟨Or.inr (Or.inl rfl), ?_⟩
        | refine ⟨Or.inr (Or.inr rfl), ?_⟩
        | refine ⟨Or.inr ⟨rfl, (by first | exact Or.inl rfl | exact Or.inr rfl | assumption)⟩, ?_⟩
        | refine ⟨fun h => absurd h (by decide), fun _ => ?_⟩
        | refine ⟨fun _ => ?_, fun h => absurd h (by decide)⟩
        | refine ⟨fun h => ?_, fun h => ?_⟩
        | fail)
  have okq : qOk q := ⟨by omega, Or.inl hq2⟩
  have hq1n : q1.1 ≤ n := by rw [← e1]; exact qB_le hqn
  have hq2n : q2.1 ≤ n := by have := qW_le (a := a) (n := n) (k := 4) (q := q1) (by omega) hq1n; rw [e2] at this; exact this
  have hq3n : q3.1 ≤ n := by rw [← e3]; exact qB_le hq2n
  have hX : eqQ q3 (mX a n [32, 105, 102, 32] q) := by
    have s1 : mX a n [32, 105, 102, 32] q = mX a n [32] (mX a n [105, 102] (mX a n [32] q)) := by
      rw [show ([32, 105, 102, 32] : List Int32) = ([32] ++ [105, 102]) ++ [32] from rfl, mX_app (by show q.1 + 3 < 2 ^ 31; omega), mX_app (by show q.1 + 1 < 2 ^ 31; omega)]
    rw [s1, ← e3]
    refine eqQ_B (qW_1 (by omega) rfl (by show q1.1 + 2 < 2 ^ 31; omega) e2 ?_)
    rw [← e1]
    exact eqQ_B eqQ_rf
  have okX : qOk (mX a n [32, 105, 102, 32] q) := mX_ok h200 (by decide) okq
  have GX : gF r μ (cM μ (mX a n [32, 105, 102, 32] q)) := gF_cM gF_rf
  have hend : zG S (d + 3) m_Mo_readTests K 7 [some (zR 48 0), some (zI (nI r)), none] [] (cM μ (mX a n [32, 105, 102, 32] q)) := by
    by_cases o3 : q3.2 = -1
    · have hXe := eqQ_1 hX o3
      rw [hXe] at GX ⊢
      have hf3 : ¬ 0 ≤ cM μ q3 48 0 29 := i32 _ (cM_29.trans o3)
      have hgo := L 3 0 0 any' q3 q4 q' t ts [] (cM μ q3) (by omega) o3 hq3n eT eL GX cM_28 (cM_29.trans o3) h72 h69 (Or.inl rfl) rfl (fun i e he => by simp at he) hK
      repeat' (first
        | exact hgo
        | refine br_f hf3 ?_
        | (refine zs k_Mo_readTests rfl ?_; conv => whnf)
        | refine ⟨Nat.zero_lt_one, rfl, ?_⟩
        | refine ⟨rfl, ?_⟩
        | refine ⟨⟨Nat.zero_lt_one, rfl⟩, Nat.le_of_ble_eq_true rfl, ?_⟩
        | refine ⟨Nat.le_of_ble_eq_true rfl, Nat.le_of_ble_eq_true rfl, ?_⟩
        | refine ⟨(by first | exact Nat.zero_lt_one | assumption | omega), (by first | assumption | exact vp_in_nI (by omega) (by omega) | (unfold vp_in; decide)), ?_⟩
        | refine ⟨(by first | exact Nat.zero_lt_one | assumption | omega), rfl, ?_⟩
        | refine ⟨⟨(by first | exact Nat.zero_lt_one | assumption | omega), rfl⟩, Nat.le_of_ble_eq_true rfl, ?_⟩
        | refine ⟨(by first | exact Nat.zero_lt_one | assumption | omega), ?_⟩
        | refine ⟨Or.inl rfl, ?_⟩
        | refine ⟨Or.inr (Or.inl rfl), ?_⟩
        | refine ⟨Or.inr (Or.inr rfl), ?_⟩
        | refine ⟨Or.inr ⟨rfl, (by first | exact Or.inl rfl | exact Or.inr rfl | assumption)⟩, ?_⟩
        | refine ⟨fun h => absurd h (by decide), fun _ => ?_⟩
        | refine ⟨fun _ => ?_, fun h => absurd h (by decide)⟩
        | refine ⟨fun h => ?_, fun h => ?_⟩
        | fail)
    · have h4 := qTR_ft o3 eT
      subst h4
      obtain ⟨h6, h7, h5⟩ := qLR_no (fun w => o3 w.1) eL
      have hnm : ¬ qMore n q' := fun w => o3 (by rw [← h5]; exact w.1)
      have hf3 : 0 ≤ cM μ (mX a n [32, 105, 102, 32] q) 48 0 29 := by
        rw [cM_29]
        rcases qOk_neg okX with ⟨z, -⟩ | ⟨-, z⟩
        · exact absurd (hX.1.symm.trans z) o3
        · exact z
      have hf3' := hf3
      rw [cM_29, hX.1] at hf3'
      have hk := hK _ q'.2 GX (Or.inr ⟨hnm, rfl⟩) (by rw [cM_29, hX.1, h5]) (fun _ => by rw [h5]; exact hf3') (fun z => absurd (by rw [← h5]; exact z) o3)
      repeat' (first
        | exact end0 _ hk
        | refine br_t hf3 ?_
        | (refine zs k_Mo_readTests rfl ?_; conv => whnf)
        | refine ⟨Nat.zero_lt_one, rfl, ?_⟩
        | refine ⟨rfl, ?_⟩
        | refine ⟨⟨Nat.zero_lt_one, rfl⟩, Nat.le_of_ble_eq_true rfl, ?_⟩
        | refine ⟨Nat.le_of_ble_eq_true rfl, Nat.le_of_ble_eq_true rfl, ?_⟩
        | refine ⟨(by first | exact Nat.zero_lt_one | assumption | omega), (by first | assumption | exact vp_in_nI (by omega) (by omega) | (unfold vp_in; decide)), ?_⟩
        | refine ⟨(by first | exact Nat.zero_lt_one | assumption | omega), rfl, ?_⟩
        | refine ⟨⟨(by first | exact Nat.zero_lt_one | assumption | omega), rfl⟩, Nat.le_of_ble_eq_true rfl, ?_⟩
        | refine ⟨(by first | exact Nat.zero_lt_one | assumption | omega), ?_⟩
        | refine ⟨Or.inl rfl, ?_⟩
        | refine ⟨Or.inr (Or.inl rfl), ?_⟩
        | refine ⟨Or.inr (Or.inr rfl), ?_⟩
        | refine ⟨Or.inr ⟨rfl, (by first | exact Or.inl rfl | exact Or.inr rfl | assumption)⟩, ?_⟩
        | refine ⟨fun h => absurd h (by decide), fun _ => ?_⟩
        | refine ⟨fun _ => ?_, fun h => absurd h (by decide)⟩
        | refine ⟨fun h => ?_, fun h => ?_⟩
        | fail)
  repeat' (first
    | exact hend
    | refine c_Mo_expect (cs := [32, 105, 102, 32]) (q := q) E h28 (h29.trans hq2.symm) okq rfl (by decide) (by decide) (by decide) ?_
    | (refine zs k_Mo_readTests rfl ?_; conv => whnf)
    | refine ⟨Nat.zero_lt_one, rfl, ?_⟩
    | refine ⟨rfl, ?_⟩
    | refine ⟨⟨Nat.zero_lt_one, rfl⟩, Nat.le_of_ble_eq_true rfl, ?_⟩
    | refine ⟨Nat.le_of_ble_eq_true rfl, Nat.le_of_ble_eq_true rfl, ?_⟩
    | refine ⟨(by first | exact Nat.zero_lt_one | assumption | omega), (by first | assumption | exact vp_in_nI (by omega) (by omega) | (unfold vp_in; decide)), ?_⟩
    | refine ⟨(by first | exact Nat.zero_lt_one | assumption | omega), rfl, ?_⟩
    | refine ⟨⟨(by first | exact Nat.zero_lt_one | assumption | omega), rfl⟩, Nat.le_of_ble_eq_true rfl, ?_⟩
    | refine ⟨(by first | exact Nat.zero_lt_one | assumption | omega), ?_⟩
    | refine ⟨Or.inl rfl, ?_⟩
    | refine ⟨Or.inr (Or.inl rfl), ?_⟩
    | refine ⟨Or.inr (Or.inr rfl), ?_⟩
    | refine ⟨Or.inr ⟨rfl, (by first | exact Or.inl rfl | exact Or.inr rfl | assumption)⟩, ?_⟩
    | refine ⟨fun h => absurd h (by decide), fun _ => ?_⟩
    | refine ⟨fun _ => ?_, fun h => absurd h (by decide)⟩
    | refine ⟨fun h => ?_, fun h => ?_⟩
    | fail)
