/-! DESK: keeps -/
def mT (μ : zMu) (ns n t z : Nat) (rd : Int32) (r : Nat → Int32) : Prop := gSt μ ns ∧ gPe μ ns n ∧ gFe μ ∧ gCo μ ∧ t < 4 ∧ μ 94 0 t = nI z ∧ 2 ≤ z ∧ z ≤ 12 ∧ μ 93 0 t = rd ∧ (rd = 0 ∨ rd = 1) ∧ (∀ k, k < 12 → μ 96 0 k = r k) ∧ ∀ k, k < 12 → r k = -1 ∨ ∃ p, p < n ∧ r k = nI p
theorem c_Mo_areFeuding {d ns n : Nat} {μ : zMu} {a b ra rb : Int32} {K : Option zV → zMu → Prop} (g1 : gSt μ ns) (g : gPe μ ns n) (g7 : gFe μ) (ea : a = ra) (eb : b = rb) (ha : ra = -1 ∨ ∃ p, p < n ∧ ra = nI p) (hb : rb = -1 ∨ ∃ p, p < n ∧ rb = nI p) (h1 : hFd μ ra rb → K (some (zI 1)) μ) (h0 : ¬ hFd μ ra rb → K (some (zI 0)) μ) : Ct d m_Mo_areFeuding [zR 48 0, zI a, zI b] μ K := by
  subst ea eb
  refine zmeet rfl (Nat.le_of_ble_eq_true rfl) (fun S => ?_)
  have h20 := g.2.2.1
  have h10 := g1.2.2.1
  rcases ha with ha | ⟨p, hp, rfl⟩
  · have hk := h0 (fun q => q.1 ha)
    repeat' (first
      | refine br_t ha ?_
      | exact hk
      | (refine zs k_Mo_areFeuding rfl ?_; conv => whnf)
      | refine ⟨Nat.zero_lt_one, rfl, ?_⟩
      | refine ⟨rfl, ?_⟩
      | refine ⟨⟨Nat.zero_lt_one, rfl⟩, Nat.le_of_ble_eq_true rfl, ?_⟩
      | refine ⟨Nat.le_of_ble_eq_true rfl, Nat.le_of_ble_eq_true rfl, ?_⟩
      | refine ⟨(by first | exact Nat.zero_lt_one | assumption | omega), (by first | assumption | exact vp_in_nI (by omega) (by omega) | (unfold vp_in; decide)), ?_⟩
      | refine ⟨(by first | exact Nat.zero_lt_one | assumption | omega), rfl, ?_⟩
      | refine ⟨⟨(by first | exact Nat.zero_lt_one | assumption | omega), rfl⟩, Nat.le_of_ble_eq_true rfl, ?_⟩
      | refine ⟨(by first | exact Nat.zero_lt_one | assumption | omega), ?_⟩
      | refine ⟨Or.inl rfl, ?_⟩
      | refine ⟨Or.inr (Or.inl rfl), ?_⟩
      | refine ⟨Or.inr (Or.inr rfl), ?_⟩
      | refine ⟨Or.inr ⟨rfl, (by first | exact Or.inl rfl | exact Or.inr rfl | assumption)⟩, ?_⟩
      | refine ⟨fun h => absurd h (by decide), fun _ => ?_⟩
      | refine ⟨fun _ => ?_, fun h => absurd h (by decide)⟩
      | refine ⟨fun h => ?_, fun h => ?_⟩
      | fail)
  have np : ¬ nI p = -1 := nI_nem1 (by omega)
  rcases hb with hb | ⟨q, hq, rfl⟩
  · have hk := h0 (fun q => q.2.1 hb)
    repeat' (first
      | refine br_f np ?_
      | refine br_t hb ?_
      | exact hk
      | (refine zs k_Mo_areFeuding rfl ?_; conv => whnf)
      | refine ⟨Nat.zero_lt_one, rfl, ?_⟩
      | refine ⟨rfl, ?_⟩
      | refine ⟨⟨Nat.zero_lt_one, rfl⟩, Nat.le_of_ble_eq_true rfl, ?_⟩
      | refine ⟨Nat.le_of_ble_eq_true rfl, Nat.le_of_ble_eq_true rfl, ?_⟩
      | refine ⟨(by first | exact Nat.zero_lt_one | assumption | omega), (by first | assumption | exact vp_in_nI (by omega) (by omega) | (unfold vp_in; decide)), ?_⟩
      | refine ⟨(by first | exact Nat.zero_lt_one | assumption | omega), rfl, ?_⟩
      | refine ⟨⟨(by first | exact Nat.zero_lt_one | assumption | omega), rfl⟩, Nat.le_of_ble_eq_true rfl, ?_⟩
      | refine ⟨(by first | exact Nat.zero_lt_one | assumption | omega), ?_⟩
      | refine ⟨Or.inl rfl, ?_⟩
      | refine ⟨Or.inr (Or.inl rfl), ?_⟩
      | refine ⟨Or.inr (Or.inr rfl), ?_⟩
      | refine ⟨Or.inr ⟨rfl, (by first | exact Or.inl rfl | exact Or.inr rfl | assumption)⟩, ?_⟩
      | refine ⟨fun h => absurd h (by decide), fun _ => ?_⟩
      | refine ⟨fun _ => ?_, fun h => absurd h (by decide)⟩
      | refine ⟨fun h => ?_, fun h => ?_⟩
      | fail)
  have nq : ¬ nI q = -1 := nI_nem1 (by omega)
  obtain ⟨-, -, -, -, -, -, -, -, a9, ⟨s, hs, b1, -, -⟩, -⟩ := g.2.2.2 p hp
  obtain ⟨-, -, -, -, -, -, -, -, a9', ⟨s', hs', b1', -, -⟩, -⟩ := g.2.2.2 q hq
  have cp : (nI p).toNatClampNeg = p := nI_clamp (by omega)
  have cq : (nI q).toNatClampNeg = q := nI_clamp (by omega)
  have vp : vp_in (nI p) 20 := vp_in_nI (by omega) (by omega)
  have vq : vp_in (nI q) 20 := vp_in_nI (by omega) (by omega)
  have m1 : (10 : Int32) * μ 56 0 (nI p).toNatClampNeg + μ 56 0 (nI q).toNatClampNeg = nI (10 * s + s') := by
    rw [cp, cq, a9, a9', b1, b1', show (10 : Int32) * nI s = nI (10 * s) from pk_mul 10 s, nI_add]
  have v1 : vp_in ((10 : Int32) * μ 56 0 (nI p).toNatClampNeg + μ 56 0 (nI q).toNatClampNeg) 100 := by rw [m1]; exact vp_in_nI (by omega) (by omega)
  have e53 : μ 53 0 ((10 : Int32) * μ 56 0 (nI p).toNatClampNeg + μ 56 0 (nI q).toNatClampNeg).toNatClampNeg = μ 36 s s' := by
    rw [m1, nI_clamp (by omega)]
    exact (g7 s s' (by omega) (by omega)).2.1
  have hF : hFd μ (nI p) (nI q) ↔ μ 36 s s' = 1 := by
    unfold hFd
    rw [cp, cq, b1, b1', nI_clamp (by omega), nI_clamp (by omega)]
    exact ⟨fun w => w.2.2, fun w => ⟨np, nq, w⟩⟩
  rcases (g7 s s' (by omega) (by omega)).1 with w | w
  · have hk := h0 (fun q => absurd (hF.mp q) (by rw [w]; decide))
    repeat' (first
      | refine br_f np ?_
      | refine br_f nq ?_
      | refine br_t (e53.trans w) ?_
      | exact hk
      | (refine zs k_Mo_areFeuding rfl ?_; conv => whnf)
      | refine ⟨Nat.zero_lt_one, rfl, ?_⟩
      | refine ⟨rfl, ?_⟩
      | refine ⟨⟨Nat.zero_lt_one, rfl⟩, Nat.le_of_ble_eq_true rfl, ?_⟩
      | refine ⟨Nat.le_of_ble_eq_true rfl, Nat.le_of_ble_eq_true rfl, ?_⟩
      | refine ⟨(by first | exact Nat.zero_lt_one | assumption | omega), (by first | assumption | exact vp_in_nI (by omega) (by omega) | (unfold vp_in; decide)), ?_⟩
      | refine ⟨(by first | exact Nat.zero_lt_one | assumption | omega), rfl, ?_⟩
      | refine ⟨⟨(by first | exact Nat.zero_lt_one | assumption | omega), rfl⟩, Nat.le_of_ble_eq_true rfl, ?_⟩
      | refine ⟨(by first | exact Nat.zero_lt_one | assumption | omega), ?_⟩
      | refine ⟨Or.inl rfl, ?_⟩
      | refine ⟨Or.inr (Or.inl rfl), ?_⟩
      | refine ⟨Or.inr (Or.inr rfl), ?_⟩
      | refine ⟨Or.inr ⟨rfl, (by first | exact Or.inl rfl | exact Or.inr rfl | assumption)⟩, ?_⟩
      | refine ⟨fun h => absurd h (by decide), fun _ => ?_⟩
      | refine ⟨fun _ => ?_, fun h => absurd h (by decide)⟩
      | refine ⟨fun h => ?_, fun h => ?_⟩
      | fail)
  · have hk := h1 (hF.mpr w)
    have w' : ¬ μ 53 0 ((10 : Int32) * μ 56 0 (nI p).toNatClampNeg + μ 56 0 (nI q).toNatClampNeg).toNatClampNeg = 0 := by rw [e53, w]; decide
    repeat' (first
      | refine br_f np ?_
      | refine br_f nq ?_
      | refine br_f w' ?_
      | exact hk
      | (refine zs k_Mo_areFeuding rfl ?_; conv => whnf)
      | refine ⟨Nat.zero_lt_one, rfl, ?_⟩
      | refine ⟨rfl, ?_⟩
      | refine ⟨⟨Nat.zero_lt_one, rfl⟩, Nat.le_of_ble_eq_true rfl, ?_⟩
      | refine ⟨Nat.le_of_ble_eq_true rfl, Nat.le_of_ble_eq_true rfl, ?_⟩
      | refine ⟨(by first | exact Nat.zero_lt_one | assumption | omega), (by first | assumption | exact vp_in_nI (by omega) (by omega) | (unfold vp_in; decide)), ?_⟩
      | refine ⟨(by first | exact Nat.zero_lt_one | assumption | omega), rfl, ?_⟩
      | refine ⟨⟨(by first | exact Nat.zero_lt_one | assumption | omega), rfl⟩, Nat.le_of_ble_eq_true rfl, ?_⟩
      | refine ⟨(by first | exact Nat.zero_lt_one | assumption | omega), ?_⟩
      | refine ⟨Or.inl rfl, ?_⟩
      | refine ⟨Or.inr (Or.inl rfl), ?_⟩
      | refine ⟨Or.inr (Or.inr rfl), ?_⟩
      | refine ⟨Or.inr ⟨rfl, (by first | exact Or.inl rfl | exact Or.inr rfl | assumption)⟩, ?_⟩
      | refine ⟨fun h => absurd h (by decide), fun _ => ?_⟩
      | refine ⟨fun _ => ?_, fun h => absurd h (by decide)⟩
      | refine ⟨fun h => ?_, fun h => ?_⟩
      | fail)
def bh (z i : Nat) : Nat := if i + 1 = z then 0 else i + 1
theorem bh_lt {z i : Nat} (h : i < z) : bh z i < z := by
  unfold bh
  split <;> omega
theorem c_Mo_behind {d z i : Nat} {μ : zMu} {x y : Int32} {K : Option zV → zMu → Prop} (hz : z ≤ 12) (hi : i < z) (hx : x = nI i) (hy : y = nI z) (hK : K (some (zI (nI (bh z i)))) μ) : Ct d m_Mo_behind [zI x, zI y] μ K := by
  subst hx hy
  refine zmeet rfl (Nat.le_of_ble_eq_true rfl) (fun S => ?_)
  have e1 : nI i + 1 = nI (i + 1) := nI_1 i
  unfold bh at hK
  by_cases q : i + 1 = z
  · rw [if_pos q] at hK
    have q' : nI i + 1 = nI z := by rw [e1, q]
    repeat' (first
      | refine bn_f q' ?_
      | exact hK
      | (refine zs k_Mo_behind rfl ?_; conv => whnf)
      | refine ⟨Nat.zero_lt_one, rfl, ?_⟩
      | refine ⟨rfl, ?_⟩
      | refine ⟨⟨Nat.zero_lt_one, rfl⟩, Nat.le_of_ble_eq_true rfl, ?_⟩
      | refine ⟨Nat.le_of_ble_eq_true rfl, Nat.le_of_ble_eq_true rfl, ?_⟩
      | refine ⟨(by first | exact Nat.zero_lt_one | assumption | omega), (by first | assumption | exact vp_in_nI (by omega) (by omega) | (unfold vp_in; decide)), ?_⟩
      | refine ⟨(by first | exact Nat.zero_lt_one | assumption | omega), rfl, ?_⟩
      | refine ⟨⟨(by first | exact Nat.zero_lt_one | assumption | omega), rfl⟩, Nat.le_of_ble_eq_true rfl, ?_⟩
      | refine ⟨(by first | exact Nat.zero_lt_one | assumption | omega), ?_⟩
      | refine ⟨Or.inl rfl, ?_⟩
      | refine ⟨Or.inr (Or.inl rfl), ?_⟩
      | refine ⟨Or.inr (Or.inr rfl), ?_⟩
      | refine ⟨Or.inr ⟨rfl, (by first | exact Or.inl rfl | exact Or.inr rfl | assumption)⟩, ?_⟩
      | refine ⟨fun h => absurd h (by decide), fun _ => ?_⟩
      | refine ⟨fun _ => ?_, fun h => absurd h (by decide)⟩
      | refine ⟨fun h => ?_, fun h => ?_⟩
      | fail)
  · rw [if_neg q] at hK
    have q' : ¬ nI i + 1 = nI z := by rw [e1]; exact fun e => q ((nI_eq (by omega) (by omega)).mp e)
    repeat' (first
      | refine bn_t q' ?_
      | exact zKe hK e1 rfl
      | (refine zs k_Mo_behind rfl ?_; conv => whnf)
      | refine ⟨Nat.zero_lt_one, rfl, ?_⟩
      | refine ⟨rfl, ?_⟩
      | refine ⟨⟨Nat.zero_lt_one, rfl⟩, Nat.le_of_ble_eq_true rfl, ?_⟩
      | refine ⟨Nat.le_of_ble_eq_true rfl, Nat.le_of_ble_eq_true rfl, ?_⟩
      | refine ⟨(by first | exact Nat.zero_lt_one | assumption | omega), (by first | assumption | exact vp_in_nI (by omega) (by omega) | (unfold vp_in; decide)), ?_⟩
      | refine ⟨(by first | exact Nat.zero_lt_one | assumption | omega), rfl, ?_⟩
      | refine ⟨⟨(by first | exact Nat.zero_lt_one | assumption | omega), rfl⟩, Nat.le_of_ble_eq_true rfl, ?_⟩
      | refine ⟨(by first | exact Nat.zero_lt_one | assumption | omega), ?_⟩
      | refine ⟨Or.inl rfl, ?_⟩
      | refine ⟨Or.inr (Or.inl rfl), ?_⟩
      | refine ⟨Or.inr (Or.inr rfl), ?_⟩
      | refine ⟨Or.inr ⟨rfl, (by first | exact Or.inl rfl | exact Or.inr rfl | assumption)⟩, ?_⟩
      | refine ⟨fun h => absurd h (by decide), fun _ => ?_⟩
      | refine ⟨fun _ => ?_, fun h => absurd h (by decide)⟩
      | refine ⟨fun h => ?_, fun h => ?_⟩
      | fail)
def bBs (z : Nat) (rd : Int32) (i : Nat) : Prop := i + 1 < z ∨ (¬ rd = 0 ∧ 2 < z)
theorem c_Mo_areBeside {d z i t : Nat} {μ : zMu} {rd x y : Int32} {K : Option zV → zMu → Prop} (ht : t < 4) (hz : z ≤ 12) (hi : i < z) (hx : x = nI t) (hy : y = nI i) (h94 : μ 94 0 t = nI z) (h93 : μ 93 0 t = rd) (h1 : bBs z rd i → K (some (zI 1)) μ) (h0 : ¬ bBs z rd i → K (some (zI 0)) μ) : Ct d m_Mo_areBeside [zR 48 0, zI x, zI y] μ K := by
  subst hx hy
  refine zmeet rfl (Nat.le_of_ble_eq_true rfl) (fun S => ?_)
  have ct : (nI t).toNatClampNeg = t := nI_clamp (by omega)
  have vt : vp_in (nI t) 4 := vp_in_nI (by omega) (by omega)
  have e1 : nI i + 1 = nI (i + 1) := nI_1 i
  have e94 : μ 94 0 (nI t).toNatClampNeg = nI z := by rw [ct]; exact h94
  have e93 : μ 93 0 (nI t).toNatClampNeg = rd := by rw [ct]; exact h93
  by_cases q : i + 1 < z
  · have hk := h1 (Or.inl q)
    have q' : nI i + 1 < μ 94 0 (nI t).toNatClampNeg := by rw [e1, e94]; exact nI_lt q (by omega)
    repeat' (first
      | refine br_t q' ?_
      | exact hk
      | (refine zs k_Mo_areBeside rfl ?_; conv => whnf)
      | refine ⟨Nat.zero_lt_one, rfl, ?_⟩
      | refine ⟨rfl, ?_⟩
      | refine ⟨⟨Nat.zero_lt_one, rfl⟩, Nat.le_of_ble_eq_true rfl, ?_⟩
      | refine ⟨Nat.le_of_ble_eq_true rfl, Nat.le_of_ble_eq_true rfl, ?_⟩
      | refine ⟨(by first | exact Nat.zero_lt_one | assumption | omega), (by first | assumption | exact vp_in_nI (by omega) (by omega) | (unfold vp_in; decide)), ?_⟩
      | refine ⟨(by first | exact Nat.zero_lt_one | assumption | omega), rfl, ?_⟩
      | refine ⟨⟨(by first | exact Nat.zero_lt_one | assumption | omega), rfl⟩, Nat.le_of_ble_eq_true rfl, ?_⟩
      | refine ⟨(by first | exact Nat.zero_lt_one | assumption | omega), ?_⟩
      | refine ⟨Or.inl rfl, ?_⟩
      | refine ⟨Or.inr (Or.inl rfl), ?_⟩
      | refine ⟨Or.inr (Or.inr rfl), ?_⟩
      | refine ⟨Or.inr ⟨rfl, (by first | exact Or.inl rfl | exact Or.inr rfl | assumption)⟩, ?_⟩
      | refine ⟨fun h => absurd h (by decide), fun _ => ?_⟩
      | refine ⟨fun _ => ?_, fun h => absurd h (by decide)⟩
      | refine ⟨fun h => ?_, fun h => ?_⟩
      | fail)
  have q' : ¬ nI i + 1 < μ 94 0 (nI t).toNatClampNeg := by rw [e1, e94]; exact nI_nlt (by omega) (by omega)
  by_cases r0 : rd = 0
  · have hk := h0 (fun w => w.elim q (fun w => w.1 r0))
    repeat' (first
      | refine br_f q' ?_
      | refine br_t (e93.trans r0) ?_
      | exact hk
      | (refine zs k_Mo_areBeside rfl ?_; conv => whnf)
      | refine ⟨Nat.zero_lt_one, rfl, ?_⟩
      | refine ⟨rfl, ?_⟩
      | refine ⟨⟨Nat.zero_lt_one, rfl⟩, Nat.le_of_ble_eq_true rfl, ?_⟩
      | refine ⟨Nat.le_of_ble_eq_true rfl, Nat.le_of_ble_eq_true rfl, ?_⟩
      | refine ⟨(by first | exact Nat.zero_lt_one | assumption | omega), (by first | assumption | exact vp_in_nI (by omega) (by omega) | (unfold vp_in; decide)), ?_⟩
      | refine ⟨(by first | exact Nat.zero_lt_one | assumption | omega), rfl, ?_⟩
      | refine ⟨⟨(by first | exact Nat.zero_lt_one | assumption | omega), rfl⟩, Nat.le_of_ble_eq_true rfl, ?_⟩
      | refine ⟨(by first | exact Nat.zero_lt_one | assumption | omega), ?_⟩
      | refine ⟨Or.inl rfl, ?_⟩
      | refine ⟨Or.inr (Or.inl rfl), ?_⟩
      | refine ⟨Or.inr (Or.inr rfl), ?_⟩
      | refine ⟨Or.inr ⟨rfl, (by first | exact Or.inl rfl | exact Or.inr rfl | assumption)⟩, ?_⟩
      | refine ⟨fun h => absurd h (by decide), fun _ => ?_⟩
      | refine ⟨fun _ => ?_, fun h => absurd h (by decide)⟩
      | refine ⟨fun h => ?_, fun h => ?_⟩
      | fail)
  have r0' : ¬ μ 93 0 (nI t).toNatClampNeg = 0 := by rw [e93]; exact r0
  by_cases z2 : 2 < z
  · have hk := h1 (Or.inr ⟨r0, z2⟩)
    have z2' : ¬ μ 94 0 (nI t).toNatClampNeg ≤ 2 := by rw [e94]; exact nI_ge (a := 2) z2 (by omega)
    repeat' (first
      | refine br_f q' ?_
      | refine br_f r0' ?_
      | refine br_f z2' ?_
      | exact hk
      | (refine zs k_Mo_areBeside rfl ?_; conv => whnf)
      | refine ⟨Nat.zero_lt_one, rfl, ?_⟩
      | refine ⟨rfl, ?_⟩
      | refine ⟨⟨Nat.zero_lt_one, rfl⟩, Nat.le_of_ble_eq_true rfl, ?_⟩
      | refine ⟨Nat.le_of_ble_eq_true rfl, Nat.le_of_ble_eq_true rfl, ?_⟩
      | refine ⟨(by first | exact Nat.zero_lt_one | assumption | omega), (by first | assumption | exact vp_in_nI (by omega) (by omega) | (unfold vp_in; decide)), ?_⟩
      | refine ⟨(by first | exact Nat.zero_lt_one | assumption | omega), rfl, ?_⟩
      | refine ⟨⟨(by first | exact Nat.zero_lt_one | assumption | omega), rfl⟩, Nat.le_of_ble_eq_true rfl, ?_⟩
      | refine ⟨(by first | exact Nat.zero_lt_one | assumption | omega), ?_⟩
      | refine ⟨Or.inl rfl, ?_⟩
      | refine ⟨Or.inr (Or.inl rfl), ?_⟩
      | refine ⟨Or.inr (Or.inr rfl), ?_⟩
      | refine ⟨Or.inr ⟨rfl, (by first | exact Or.inl rfl | exact Or.inr rfl | assumption)⟩, ?_⟩
      | refine ⟨fun h => absurd h (by decide), fun _ => ?_⟩
      | refine ⟨fun _ => ?_, fun h => absurd h (by decide)⟩
      | refine ⟨fun h => ?_, fun h => ?_⟩
      | fail)
  · have hk := h0 (fun w => w.elim q (fun w => z2 w.2))
    have z2' : μ 94 0 (nI t).toNatClampNeg ≤ 2 := by rw [e94]; exact nI_le (b := 2) (by omega) (by omega)
    repeat' (first
      | refine br_f q' ?_
      | refine br_f r0' ?_
      | refine br_t z2' ?_
      | exact hk
      | (refine zs k_Mo_areBeside rfl ?_; conv => whnf)
      | refine ⟨Nat.zero_lt_one, rfl, ?_⟩
      | refine ⟨rfl, ?_⟩
      | refine ⟨⟨Nat.zero_lt_one, rfl⟩, Nat.le_of_ble_eq_true rfl, ?_⟩
      | refine ⟨Nat.le_of_ble_eq_true rfl, Nat.le_of_ble_eq_true rfl, ?_⟩
      | refine ⟨(by first | exact Nat.zero_lt_one | assumption | omega), (by first | assumption | exact vp_in_nI (by omega) (by omega) | (unfold vp_in; decide)), ?_⟩
      | refine ⟨(by first | exact Nat.zero_lt_one | assumption | omega), rfl, ?_⟩
      | refine ⟨⟨(by first | exact Nat.zero_lt_one | assumption | omega), rfl⟩, Nat.le_of_ble_eq_true rfl, ?_⟩
      | refine ⟨(by first | exact Nat.zero_lt_one | assumption | omega), ?_⟩
      | refine ⟨Or.inl rfl, ?_⟩
      | refine ⟨Or.inr (Or.inl rfl), ?_⟩
      | refine ⟨Or.inr (Or.inr rfl), ?_⟩
      | refine ⟨Or.inr ⟨rfl, (by first | exact Or.inl rfl | exact Or.inr rfl | assumption)⟩, ?_⟩
      | refine ⟨fun h => absurd h (by decide), fun _ => ?_⟩
      | refine ⟨fun _ => ?_, fun h => absurd h (by decide)⟩
      | refine ⟨fun h => ?_, fun h => ?_⟩
      | fail)
def kC (μ : zMu) (r : Nat → Int32) (rd : Int32) (z i : Nat) : Prop := ¬ (bBs z rd i ∧ hFd μ (r i) (r (bh z i))) ∧ (¬ rd = 0 ∨ i = z - 1 - i ∨ ¬ hFd μ (r i) (r (z - 1 - i)))
def mKp (μ : zMu) (r : Nat → Int32) (rd : Int32) (z : Nat) : Prop := ∀ i, i < z → kC μ r rd z i
set_option maxHeartbeats 2000000 in
theorem c_Mo_isKept {d ns n t z : Nat} {μ : zMu} {rd x : Int32} {r : Nat → Int32} {K : Option zV → zMu → Prop} (E : mT μ ns n t z rd r) (hx : x = nI t) (h1 : mKp μ r rd z → K (some (zI 1)) μ) (h0 : ¬ mKp μ r rd z → K (some (zI 0)) μ) : Ct (d + 1) m_Mo_isKept [zR 48 0, zI x] μ K := by
  subst hx
  refine zmeet rfl (Nat.le_of_ble_eq_true rfl) (fun S => ?_)
  obtain ⟨g1, g2, g7, g8, ht, h94, hz2, hz, h93, hrd, h96, hr⟩ := E
  have ct : (nI t).toNatClampNeg = t := nI_clamp (by omega)
  have vt : vp_in (nI t) 4 := vp_in_nI (by omega) (by omega)
  have e94 : μ 94 0 (nI t).toNatClampNeg = nI z := by rw [ct]; exact h94
  have e93 : μ 93 0 (nI t).toNatClampNeg = rd := by rw [ct]; exact h93
  have L : ∀ (k i : Nat) (m c v : Int32), i + k = z → m = nI z → v = nI i → (((∀ j, j < i → kC μ r rd z j) ∧ c = 1) ∨ (¬ (∀ j, j < i → kC μ r rd z j) ∧ c = 0)) → zG S (d + 1) m_Mo_isKept K 12 [some (zR 48 0), some (zI (nI t)), some (zI m), some (zI c), some (zI v)] [] μ := by
    intro k
    induction k with
    | zero =>
      intro i m c v hi hm hv hc
      subst hm hv
      obtain rfl : i = z := by omega
      have hle : nI i ≤ nI i := nI_le (Nat.le_refl _) (by omega)
      rcases hc with ⟨hc, rfl⟩ | ⟨hc, rfl⟩
      · have hk := h1 hc
        refine zs k_Mo_isKept rfl ?_; conv => whnf
        repeat' (first
          | refine br_t hle ?_
          | exact hk
          | (refine zs k_Mo_isKept rfl ?_; conv => whnf)
          | refine ⟨Nat.zero_lt_one, rfl, ?_⟩
          | refine ⟨rfl, ?_⟩
          | refine ⟨⟨Nat.zero_lt_one, rfl⟩, Nat.le_of_ble_eq_true rfl, ?_⟩
          | refine ⟨Nat.le_of_ble_eq_true rfl, Nat.le_of_ble_eq_true rfl, ?_⟩
          | refine ⟨(by first | exact Nat.zero_lt_one | assumption | omega), (by first | assumption | exact vp_in_nI (by omega) (by omega) | (unfold vp_in; decide)), ?_⟩
          | refine ⟨(by first | exact Nat.zero_lt_one | assumption | omega), rfl, ?_⟩
          | refine ⟨⟨(by first | exact Nat.zero_lt_one | assumption | omega), rfl⟩, Nat.le_of_ble_eq_true rfl, ?_⟩
          | refine ⟨(by first | exact Nat.zero_lt_one | assumption | omega), ?_⟩
          | refine ⟨Or.inl rfl, ?_⟩
          | refine ⟨Or.inr (Or.inl rfl), ?_⟩
          | refine ⟨Or.inr (Or.inr rfl), ?_⟩
          | refine ⟨Or.inr ⟨rfl, (by first | exact Or.inl rfl | exact Or.inr rfl | assumption)⟩, ?_⟩
          | refine ⟨fun h => absurd h (by decide), fun _ => ?_⟩
          | refine ⟨fun _ => ?_, fun h => absurd h (by decide)⟩
          | refine ⟨fun h => ?_, fun h => ?_⟩
          | fail)
      · have hk := h0 hc
        refine zs k_Mo_isKept rfl ?_; conv => whnf
        repeat' (first
          | refine br_t hle ?_
          | exact hk
          | (refine zs k_Mo_isKept rfl ?_; conv => whnf)
          | refine ⟨Nat.zero_lt_one, rfl, ?_⟩
          | refine ⟨rfl, ?_⟩
          | refine ⟨⟨Nat.zero_lt_one, rfl⟩, Nat.le_of_ble_eq_true rfl, ?_⟩
          | refine ⟨Nat.le_of_ble_eq_true rfl, Nat.le_of_ble_eq_true rfl, ?_⟩
          | refine ⟨(by first | exact Nat.zero_lt_one | assumption | omega), (by first | assumption | exact vp_in_nI (by omega) (by omega) | (unfold vp_in; decide)), ?_⟩
          | refine ⟨(by first | exact Nat.zero_lt_one | assumption | omega), rfl, ?_⟩
          | refine ⟨⟨(by first | exact Nat.zero_lt_one | assumption | omega), rfl⟩, Nat.le_of_ble_eq_true rfl, ?_⟩
          | refine ⟨(by first | exact Nat.zero_lt_one | assumption | omega), ?_⟩
          | refine ⟨Or.inl rfl, ?_⟩
          | refine ⟨Or.inr (Or.inl rfl), ?_⟩
          | refine ⟨Or.inr (Or.inr rfl), ?_⟩
          | refine ⟨Or.inr ⟨rfl, (by first | exact Or.inl rfl | exact Or.inr rfl | assumption)⟩, ?_⟩
          | refine ⟨fun h => absurd h (by decide), fun _ => ?_⟩
          | refine ⟨fun _ => ?_, fun h => absurd h (by decide)⟩
          | refine ⟨fun h => ?_, fun h => ?_⟩
          | fail)
    | succ k ih =>
      intro i m c v hi hm hv hc
      subst hm hv
      have hle : ¬ nI z ≤ nI i := nI_ge (by omega) (by omega)
      rcases hc with ⟨hc, rfl⟩ | ⟨hc, rfl⟩
      case inr =>
        have hc' : ¬ ∀ j, j < i + 1 → kC μ r rd z j := fun w => hc (fun j hj => w j (by omega))
        refine zs k_Mo_isKept rfl ?_; conv => whnf
        repeat' (first
          | refine br_f hle ?_
          | refine ih (i + 1) _ _ _ (by omega) rfl (by exact nI_1 i) (Or.inr ⟨hc', rfl⟩)
          | (refine zs k_Mo_isKept rfl ?_; conv => whnf)
          | refine ⟨Nat.zero_lt_one, rfl, ?_⟩
          | refine ⟨rfl, ?_⟩
          | refine ⟨⟨Nat.zero_lt_one, rfl⟩, Nat.le_of_ble_eq_true rfl, ?_⟩
          | refine ⟨Nat.le_of_ble_eq_true rfl, Nat.le_of_ble_eq_true rfl, ?_⟩
          | refine ⟨(by first | exact Nat.zero_lt_one | assumption | omega), (by first | assumption | exact vp_in_nI (by omega) (by omega) | (unfold vp_in; decide)), ?_⟩
          | refine ⟨(by first | exact Nat.zero_lt_one | assumption | omega), rfl, ?_⟩
          | refine ⟨⟨(by first | exact Nat.zero_lt_one | assumption | omega), rfl⟩, Nat.le_of_ble_eq_true rfl, ?_⟩
          | refine ⟨(by first | exact Nat.zero_lt_one | assumption | omega), ?_⟩
          | refine ⟨Or.inl rfl, ?_⟩
          | refine ⟨Or.inr (Or.inl rfl), ?_⟩
          | refine ⟨Or.inr (Or.inr rfl), ?_⟩
          | refine ⟨Or.inr ⟨rfl, (by first | exact Or.inl rfl | exact Or.inr rfl | assumption)⟩, ?_⟩
          | refine ⟨fun h => absurd h (by decide), fun _ => ?_⟩
          | refine ⟨fun _ => ?_, fun h => absurd h (by decide)⟩
          | refine ⟨fun h => ?_, fun h => ?_⟩
          | fail)
      have ci : (nI i).toNatClampNeg = i := nI_clamp (by omega)
      have hb := bh_lt (z := z) (i := i) (by omega)
      have cb : (nI (bh z i)).toNatClampNeg = bh z i := nI_clamp (by omega)
      have vb : vp_in (nI (bh z i)) 12 := vp_in_nI (by omega) (by omega)
      have ei : μ 96 0 (nI i).toNatClampNeg = r i := by rw [ci]; exact h96 i (by omega)
      have eb : μ 96 0 (nI (bh z i)).toNatClampNeg = r (bh z i) := by rw [cb]; exact h96 _ (by omega)
      have mf : nI z - 1 - nI i = nI (z - 1 - i) := by
        obtain ⟨y, rfl⟩ : ∃ y, z = y + 1 := ⟨z - 1, by omega⟩
        rw [nI_pred, Nat.add_sub_cancel]
        exact pk_sub (by omega)
      have vf : vp_in (nI z - 1 - nI i) 12 := by rw [mf]; exact vp_in_nI (by omega) (by omega)
      have ef : μ 96 0 (nI z - 1 - nI i).toNatClampNeg = r (z - 1 - i) := by rw [mf, nI_clamp (by omega)]; exact h96 _ (by omega)
      have q1 : nI i = nI z - 1 - nI i ↔ i = z - 1 - i := by rw [mf]; exact nI_eq (by omega) (by omega)
      have yes : kC μ r rd z i → zG S (d + 1) m_Mo_isKept K 117 [some (zR 48 0), some (zI (nI t)), some (zI (nI z)), some (zI 1), some (zI (nI i))] [zI 1] μ := fun hC => by
        have hc' : ∀ j, j < i + 1 → kC μ r rd z j := lt_s hc hC
        repeat' (first
          | refine ih (i + 1) _ _ _ (by omega) rfl (by exact nI_1 i) (Or.inl ⟨hc', rfl⟩)
          | (refine zs k_Mo_isKept rfl ?_; conv => whnf)
          | refine ⟨Nat.zero_lt_one, rfl, ?_⟩
          | refine ⟨rfl, ?_⟩
          | refine ⟨⟨Nat.zero_lt_one, rfl⟩, Nat.le_of_ble_eq_true rfl, ?_⟩
          | refine ⟨Nat.le_of_ble_eq_true rfl, Nat.le_of_ble_eq_true rfl, ?_⟩
          | refine ⟨(by first | exact Nat.zero_lt_one | assumption | omega), (by first | assumption | exact vp_in_nI (by omega) (by omega) | (unfold vp_in; decide)), ?_⟩
          | refine ⟨(by first | exact Nat.zero_lt_one | assumption | omega), rfl, ?_⟩
          | refine ⟨⟨(by first | exact Nat.zero_lt_one | assumption | omega), rfl⟩, Nat.le_of_ble_eq_true rfl, ?_⟩
          | refine ⟨(by first | exact Nat.zero_lt_one | assumption | omega), ?_⟩
          | refine ⟨Or.inl rfl, ?_⟩
          | refine ⟨Or.inr (Or.inl rfl), ?_⟩
          | refine ⟨Or.inr (Or.inr rfl), ?_⟩
          | refine ⟨Or.inr ⟨rfl, (by first | exact Or.inl rfl | exact Or.inr rfl | assumption)⟩, ?_⟩
          | refine ⟨fun h => absurd h (by decide), fun _ => ?_⟩
          | refine ⟨fun _ => ?_, fun h => absurd h (by decide)⟩
          | refine ⟨fun h => ?_, fun h => ?_⟩
          | fail)
      have no : ∀ c : Int32, ¬ kC μ r rd z i → zG S (d + 1) m_Mo_isKept K 117 [some (zR 48 0), some (zI (nI t)), some (zI (nI z)), some (zI c), some (zI (nI i))] [zI 0] μ := fun c hC => by
        have hc' : ¬ ∀ j, j < i + 1 → kC μ r rd z j := fun w => hC (w i (by omega))
        repeat' (first
          | refine ih (i + 1) _ _ _ (by omega) rfl (by exact nI_1 i) (Or.inr ⟨hc', rfl⟩)
          | (refine zs k_Mo_isKept rfl ?_; conv => whnf)
          | refine ⟨Nat.zero_lt_one, rfl, ?_⟩
          | refine ⟨rfl, ?_⟩
          | refine ⟨⟨Nat.zero_lt_one, rfl⟩, Nat.le_of_ble_eq_true rfl, ?_⟩
          | refine ⟨Nat.le_of_ble_eq_true rfl, Nat.le_of_ble_eq_true rfl, ?_⟩
          | refine ⟨(by first | exact Nat.zero_lt_one | assumption | omega), (by first | assumption | exact vp_in_nI (by omega) (by omega) | (unfold vp_in; decide)), ?_⟩
          | refine ⟨(by first | exact Nat.zero_lt_one | assumption | omega), rfl, ?_⟩
          | refine ⟨⟨(by first | exact Nat.zero_lt_one | assumption | omega), rfl⟩, Nat.le_of_ble_eq_true rfl, ?_⟩
          | refine ⟨(by first | exact Nat.zero_lt_one | assumption | omega), ?_⟩
          | refine ⟨Or.inl rfl, ?_⟩
          | refine ⟨Or.inr (Or.inl rfl), ?_⟩
          | refine ⟨Or.inr (Or.inr rfl), ?_⟩
          | refine ⟨Or.inr ⟨rfl, (by first | exact Or.inl rfl | exact Or.inr rfl | assumption)⟩, ?_⟩
          | refine ⟨fun h => absurd h (by decide), fun _ => ?_⟩
          | refine ⟨fun _ => ?_, fun h => absurd h (by decide)⟩
          | refine ⟨fun h => ?_, fun h => ?_⟩
          | fail)
      by_cases hB : bBs z rd i ∧ hFd μ (r i) (r (bh z i))
      · have hC : ¬ kC μ r rd z i := fun w => w.1 hB
        refine zs k_Mo_isKept rfl ?_; conv => whnf
        repeat' (first
          | refine br_f hle ?_
          | exact no _ hC
          | refine c_Mo_areBeside ht hz (i := i) (by omega) rfl rfl h94 h93 (fun _ => ?_) (fun q => absurd hB.1 q)
          | refine c_Mo_behind hz (i := i) (by omega) rfl rfl ?_
          | refine c_Mo_areFeuding g1 g2 g7 ei eb (hr i (by omega)) (hr _ (by omega)) (fun _ => ?_) (fun q => absurd hB.2 q)
          | (refine zs k_Mo_isKept rfl ?_; conv => whnf)
          | refine ⟨Nat.zero_lt_one, rfl, ?_⟩
          | refine ⟨rfl, ?_⟩
          | refine ⟨⟨Nat.zero_lt_one, rfl⟩, Nat.le_of_ble_eq_true rfl, ?_⟩
          | refine ⟨Nat.le_of_ble_eq_true rfl, Nat.le_of_ble_eq_true rfl, ?_⟩
          | refine ⟨(by first | exact Nat.zero_lt_one | assumption | omega), (by first | assumption | exact vp_in_nI (by omega) (by omega) | (unfold vp_in; decide)), ?_⟩
          | refine ⟨(by first | exact Nat.zero_lt_one | assumption | omega), rfl, ?_⟩
          | refine ⟨⟨(by first | exact Nat.zero_lt_one | assumption | omega), rfl⟩, Nat.le_of_ble_eq_true rfl, ?_⟩
          | refine ⟨(by first | exact Nat.zero_lt_one | assumption | omega), ?_⟩
          | refine ⟨Or.inl rfl, ?_⟩
          | refine ⟨Or.inr (Or.inl rfl), ?_⟩
          | refine ⟨Or.inr (Or.inr rfl), ?_⟩
          | refine ⟨Or.inr ⟨rfl, (by first | exact Or.inl rfl | exact Or.inr rfl | assumption)⟩, ?_⟩
          | refine ⟨fun h => absurd h (by decide), fun _ => ?_⟩
          | refine ⟨fun _ => ?_, fun h => absurd h (by decide)⟩
          | refine ⟨fun h => ?_, fun h => ?_⟩
          | fail)
      have second : zG S (d + 1) m_Mo_isKept K 63 [some (zR 48 0), some (zI (nI t)), some (zI (nI z)), some (zI 1), some (zI (nI i))] [] μ := by
        by_cases r0 : rd = 0
        · have r0' := e93.trans r0
          by_cases q2 : i = z - 1 - i
          · have hC : kC μ r rd z i := ⟨hB, Or.inr (Or.inl q2)⟩
            repeat' (first
              | exact yes hC
              | refine bn_f r0' ?_
              | refine br_t (q1.mpr q2) ?_
              | (refine zs k_Mo_isKept rfl ?_; conv => whnf)
              | refine ⟨Nat.zero_lt_one, rfl, ?_⟩
              | refine ⟨rfl, ?_⟩
              | refine ⟨⟨Nat.zero_lt_one, rfl⟩, Nat.le_of_ble_eq_true rfl, ?_⟩
              | refine ⟨Nat.le_of_ble_eq_true rfl, Nat.le_of_ble_eq_true rfl, ?_⟩
              | refine ⟨(by first | exact Nat.zero_lt_one | assumption | omega), (by first | assumption | exact vp_in_nI (by omega) (by omega) | (unfold vp_in; decide)), ?_⟩
              | refine ⟨(by first | exact Nat.zero_lt_one | assumption | omega), rfl, ?_⟩
              | refine ⟨⟨(by first | exact Nat.zero_lt_one | assumption | omega), rfl⟩, Nat.le_of_ble_eq_true rfl, ?_⟩
              | refine ⟨(by first | exact Nat.zero_lt_one | assumption | omega), ?_⟩
              | refine ⟨Or.inl rfl, ?_⟩
              | refine ⟨Or.inr (Or.inl rfl), ?_⟩
              | refine ⟨Or.inr (Or.inr rfl), ?_⟩
              | refine ⟨Or.inr ⟨rfl, (by first | exact Or.inl rfl | exact Or.inr rfl | assumption)⟩, ?_⟩
              | refine ⟨fun h => absurd h (by decide), fun _ => ?_⟩
              | refine ⟨fun _ => ?_, fun h => absurd h (by decide)⟩
              | refine ⟨fun h => ?_, fun h => ?_⟩
              | fail)
          · have q2' : ¬ nI i = nI z - 1 - nI i := fun w => q2 (q1.mp w)
            repeat' (first
              | refine bn_f r0' ?_
              | refine br_f q2' ?_
              | refine c_Mo_areFeuding g1 g2 g7 ei ef (hr i (by omega)) (hr _ (by omega)) (fun w => ?_) (fun w => ?_)
              | exact yes ⟨hB, Or.inr (Or.inr w)⟩
              | exact no _ (fun v => v.2.elim (fun u => u r0) (fun u => u.elim q2 (fun u => u w)))
              | (refine zs k_Mo_isKept rfl ?_; conv => whnf)
              | refine ⟨Nat.zero_lt_one, rfl, ?_⟩
              | refine ⟨rfl, ?_⟩
              | refine ⟨⟨Nat.zero_lt_one, rfl⟩, Nat.le_of_ble_eq_true rfl, ?_⟩
              | refine ⟨Nat.le_of_ble_eq_true rfl, Nat.le_of_ble_eq_true rfl, ?_⟩
              | refine ⟨(by first | exact Nat.zero_lt_one | assumption | omega), (by first | assumption | exact vp_in_nI (by omega) (by omega) | (unfold vp_in; decide)), ?_⟩
              | refine ⟨(by first | exact Nat.zero_lt_one | assumption | omega), rfl, ?_⟩
              | refine ⟨⟨(by first | exact Nat.zero_lt_one | assumption | omega), rfl⟩, Nat.le_of_ble_eq_true rfl, ?_⟩
              | refine ⟨(by first | exact Nat.zero_lt_one | assumption | omega), ?_⟩
              | refine ⟨Or.inl rfl, ?_⟩
              | refine ⟨Or.inr (Or.inl rfl), ?_⟩
              | refine ⟨Or.inr (Or.inr rfl), ?_⟩
              | refine ⟨Or.inr ⟨rfl, (by first | exact Or.inl rfl | exact Or.inr rfl | assumption)⟩, ?_⟩
              | refine ⟨fun h => absurd h (by decide), fun _ => ?_⟩
              | refine ⟨fun _ => ?_, fun h => absurd h (by decide)⟩
              | refine ⟨fun h => ?_, fun h => ?_⟩
              | fail)
        · have hC : kC μ r rd z i := ⟨hB, Or.inl r0⟩
          have r0' : ¬ μ 93 0 (nI t).toNatClampNeg = 0 := by rw [e93]; exact r0
          repeat' (first
            | exact yes hC
            | refine bn_t r0' ?_
            | (refine zs k_Mo_isKept rfl ?_; conv => whnf)
            | refine ⟨Nat.zero_lt_one, rfl, ?_⟩
            | refine ⟨rfl, ?_⟩
            | refine ⟨⟨Nat.zero_lt_one, rfl⟩, Nat.le_of_ble_eq_true rfl, ?_⟩
            | refine ⟨Nat.le_of_ble_eq_true rfl, Nat.le_of_ble_eq_true rfl, ?_⟩
            | refine ⟨(by first | exact Nat.zero_lt_one | assumption | omega), (by first | assumption | exact vp_in_nI (by omega) (by omega) | (unfold vp_in; decide)), ?_⟩
            | refine ⟨(by first | exact Nat.zero_lt_one | assumption | omega), rfl, ?_⟩
            | refine ⟨⟨(by first | exact Nat.zero_lt_one | assumption | omega), rfl⟩, Nat.le_of_ble_eq_true rfl, ?_⟩
            | refine ⟨(by first | exact Nat.zero_lt_one | assumption | omega), ?_⟩
            | refine ⟨Or.inl rfl, ?_⟩
            | refine ⟨Or.inr (Or.inl rfl), ?_⟩
            | refine ⟨Or.inr (Or.inr rfl), ?_⟩
            | refine ⟨Or.inr ⟨rfl, (by first | exact Or.inl rfl | exact Or.inr rfl | assumption)⟩, ?_⟩
            | refine ⟨fun h => absurd h (by decide), fun _ => ?_⟩
            | refine ⟨fun _ => ?_, fun h => absurd h (by decide)⟩
            | refine ⟨fun h => ?_, fun h => ?_⟩
            | fail)
      refine zs k_Mo_isKept rfl ?_; conv => whnf
      repeat' (first
        | refine br_f hle ?_
        | exact second
        | refine c_Mo_areBeside ht hz (i := i) (by omega) rfl rfl h94 h93 (fun b1 => ?_) (fun b1 => ?_)
        | refine c_Mo_behind hz (i := i) (by omega) rfl rfl ?_
        | refine c_Mo_areFeuding g1 g2 g7 ei eb (hr i (by omega)) (hr _ (by omega)) (fun q => absurd ⟨b1, q⟩ hB) (fun _ => ?_)
        | (refine zs k_Mo_isKept rfl ?_; conv => whnf)
        | refine ⟨Nat.zero_lt_one, rfl, ?_⟩
        | refine ⟨rfl, ?_⟩
        | refine ⟨⟨Nat.zero_lt_one, rfl⟩, Nat.le_of_ble_eq_true rfl, ?_⟩
        | refine ⟨Nat.le_of_ble_eq_true rfl, Nat.le_of_ble_eq_true rfl, ?_⟩
        | refine ⟨(by first | exact Nat.zero_lt_one | assumption | omega), (by first | assumption | exact vp_in_nI (by omega) (by omega) | (unfold vp_in; decide)), ?_⟩
        | refine ⟨(by first | exact Nat.zero_lt_one | assumption | omega), rfl, ?_⟩
        | refine ⟨⟨(by first | exact Nat.zero_lt_one | assumption | omega), rfl⟩, Nat.le_of_ble_eq_true rfl, ?_⟩
        | refine ⟨(by first | exact Nat.zero_lt_one | assumption | omega), ?_⟩
        | refine ⟨Or.inl rfl, ?_⟩
        | refine ⟨Or.inr (Or.inl rfl), ?_⟩
        | refine ⟨Or.inr (Or.inr rfl), ?_⟩
        | refine ⟨Or.inr ⟨rfl, (by first | exact Or.inl rfl | exact Or.inr rfl | assumption)⟩, ?_⟩
        | refine ⟨fun h => absurd h (by decide), fun _ => ?_⟩
        | refine ⟨fun _ => ?_, fun h => absurd h (by decide)⟩
        | refine ⟨fun h => ?_, fun h => ?_⟩
        | fail)
  repeat' (first
    | refine L z 0 _ _ _ (by omega) e94 rfl (Or.inl ⟨fun j hj => absurd hj (by omega), rfl⟩)
    | (refine zs k_Mo_isKept rfl ?_; conv => whnf)
    | refine ⟨Nat.zero_lt_one, rfl, ?_⟩
    | refine ⟨rfl, ?_⟩
    | refine ⟨⟨Nat.zero_lt_one, rfl⟩, Nat.le_of_ble_eq_true rfl, ?_⟩
    | refine ⟨Nat.le_of_ble_eq_true rfl, Nat.le_of_ble_eq_true rfl, ?_⟩
    | refine ⟨(by first | exact Nat.zero_lt_one | assumption | omega), (by first | assumption | exact vp_in_nI (by omega) (by omega) | (unfold vp_in; decide)), ?_⟩
    | refine ⟨(by first | exact Nat.zero_lt_one | assumption | omega), rfl, ?_⟩
    | refine ⟨⟨(by first | exact Nat.zero_lt_one | assumption | omega), rfl⟩, Nat.le_of_ble_eq_true rfl, ?_⟩
    | refine ⟨(by first | exact Nat.zero_lt_one | assumption | omega), ?_⟩
    | refine ⟨Or.inl rfl, ?_⟩
    | refine ⟨Or.inr (Or.inl rfl), ?_⟩
    | refine ⟨Or.inr (Or.inr rfl), ?_⟩
    | refine ⟨Or.inr ⟨rfl, (by first | exact Or.inl rfl | exact Or.inr rfl | assumption)⟩, ?_⟩
    | refine ⟨fun h => absurd h (by decide), fun _ => ?_⟩
    | refine ⟨fun _ => ?_, fun h => absurd h (by decide)⟩
    | refine ⟨fun h => ?_, fun h => ?_⟩
    | fail)
/-- a feud goes either way -/
theorem hFd_sy {μ : zMu} {ns n : Nat} {a b : Int32} (g1 : gSt μ ns) (g : gPe μ ns n) (g7 : gFe μ) (ha : a = -1 ∨ ∃ p, p < n ∧ a = nI p) (hb : b = -1 ∨ ∃ p, p < n ∧ b = nI p) (h : hFd μ a b) : hFd μ b a := by
  have h20 := g.2.2.1
  have h10 := g1.2.2.1
  obtain ⟨n1, n2, h3⟩ := h
  refine ⟨n2, n1, ?_⟩
  rcases ha with ha | ⟨p, hp, rfl⟩
  · exact absurd ha n1
  rcases hb with hb | ⟨q, hq, rfl⟩
  · exact absurd hb n2
  obtain ⟨-, -, -, -, -, -, -, -, -, ⟨s, hs, b1, -, -⟩, -⟩ := g.2.2.2 p hp
  obtain ⟨-, -, -, -, -, -, -, -, -, ⟨s', hs', b1', -, -⟩, -⟩ := g.2.2.2 q hq
  rw [nI_clamp (show p < 2 ^ 31 by omega), nI_clamp (show q < 2 ^ 31 by omega), b1, b1', nI_clamp (show s < 2 ^ 31 by omega), nI_clamp (show s' < 2 ^ 31 by omega)] at h3 ⊢
  rw [← h3]
  exact (g7 s s' (by omega) (by omega)).2.2
theorem kp_iff {μ : zMu} {r : Nat → Int32} {rd : Int32} {z : Nat} (hz2 : 2 ≤ z) (hz : z ≤ 12) (sy : ∀ i j, i < z → j < z → hFd μ (r i) (r j) → hFd μ (r j) (r i)) : mKp μ r rd z ↔ ∀ k, k < z → hPe μ r rd z k := by
  have at0 : ∀ i j, hFd μ (r i) (jAt r (nI j)) ↔ (if j < 2 ^ 31 then hFd μ (r i) (r j) else hFd μ (r i) (jAt r (nI j))) := fun i j => by
    split
    · rename_i hj
      unfold jAt
      rw [if_neg (nI_nem1 hj), nI_clamp hj]
    · exact Iff.rfl
  have at1 : ∀ i j, j < 12 → (hFd μ (r i) (jAt r (nI j)) ↔ hFd μ (r i) (r j)) := fun i j hj => by
    rw [at0, if_pos (by omega)]
  have atm : ∀ i, ¬ hFd μ (r i) (jAt r (-1)) := fun i w => w.2.1 rfl
  constructor
  · intro h k hk
    refine ⟨?_, ?_, ?_⟩
    · unfold jBe
      split
      · exact atm k
      · rename_i hk0
        rw [at1 _ _ (by omega)]
        intro w
        have := (h (k - 1) (by omega)).1
        refine this ⟨Or.inl (by omega), ?_⟩
        have e : bh z (k - 1) = k := by
          unfold bh
          rw [if_neg (by omega)]
          omega
        rw [e]
        exact sy _ _ hk (by omega) w
    · unfold jAr
      split
      · rename_i hk0
        have h0 := at1 k 0 (by omega)
        rw [show (0 : Int32) = nI 0 from rfl, h0]
        intro w
        refine (h k hk).1 ⟨Or.inr ⟨hk0.1, hk0.2.1⟩, ?_⟩
        have e : bh z k = 0 := by
          unfold bh
          rw [if_pos hk0.2.2]
        rw [e]
        exact w
      · exact atm k
    · unfold jFa
      split
      · rename_i hk0
        rw [at1 _ _ (by omega)]
        rcases (h k hk).2 with w | w | w
        · exact absurd hk0.1 w
        · exact absurd hk0.2 (by omega)
        · exact w
      · exact atm k
  · intro h i hi
    refine ⟨fun w => ?_, ?_⟩
    · obtain ⟨wb, w⟩ := w
      unfold bh at w
      by_cases e : i + 1 = z
      · rw [if_pos e] at w
        have hb : ¬ rd = 0 ∧ 2 < z := wb.resolve_left (by omega)
        refine (h i hi).2.1 ?_
        unfold jAr
        rw [if_pos ⟨hb.1, hb.2, e⟩, show (0 : Int32) = nI 0 from rfl, at1 _ _ (by omega)]
        exact w
      · rw [if_neg e] at w
        refine (h (i + 1) (by omega)).1 ?_
        unfold jBe
        rw [if_neg (by omega), Nat.add_sub_cancel, at1 _ _ (by omega)]
        exact sy _ _ hi (by omega) w
    · by_cases r0 : rd = 0
      · rcases Nat.lt_trichotomy (z - 1 - i) i with q | q | q
        · refine Or.inr (Or.inr ?_)
          have := (h i hi).2.2
          unfold jFa at this
          rw [if_pos ⟨r0, q⟩, at1 _ _ (by omega)] at this
          exact this
        · exact Or.inr (Or.inl q.symm)
        · refine Or.inr (Or.inr (fun w => ?_))
          have := (h (z - 1 - i) (by omega)).2.2
          unfold jFa at this
          rw [if_pos ⟨r0, by omega⟩, at1 _ _ (by omega), show z - 1 - (z - 1 - i) = i by omega] at this
          exact this (sy _ _ hi (by omega) w)
      · exact Or.inl r0
/-- the table's row is taken -/
theorem c_Mo_take {d t : Nat} {μ : zMu} {x : Int32} {K : Option zV → zMu → Prop} (ht : t < 4) (hx : x = nI t) (hK : ∀ μ', (∀ f, f ≠ 96 → μ' f = μ f) → (∀ k, k < 12 → μ' 96 0 k = μ 95 0 (12 * t + k)) → K none μ') : Ct d m_Mo_take [zR 48 0, zI x] μ K := by
  subst hx
  refine zmeet rfl (Nat.le_of_ble_eq_true rfl) (fun S => ?_)
  have L : ∀ (k i : Nat) (v : Int32) (μ1 : zMu), i + k = 12 → v = nI i → (∀ f, f ≠ 96 → μ1 f = μ f) → (∀ k, k < i → μ1 96 0 k = μ 95 0 (12 * t + k)) → zG S d m_Mo_take K 2 [some (zR 48 0), some (zI (nI t)), some (zI v)] [] μ1 := by
    intro k
    induction k with
    | zero =>
      intro i v μ1 hi hv e1 e2
      obtain rfl : i = 12 := by omega
      subst hv
      have hk := hK μ1 e1 e2
      refine zs k_Mo_take rfl ?_; conv => whnf
      repeat' (first
        | refine br_t (by decide) ?_
        | exact hk
        | (refine zs k_Mo_take rfl ?_; conv => whnf)
        | refine ⟨Nat.zero_lt_one, rfl, ?_⟩
        | refine ⟨rfl, ?_⟩
        | refine ⟨⟨Nat.zero_lt_one, rfl⟩, Nat.le_of_ble_eq_true rfl, ?_⟩
        | refine ⟨Nat.le_of_ble_eq_true rfl, Nat.le_of_ble_eq_true rfl, ?_⟩
        | refine ⟨(by first | exact Nat.zero_lt_one | assumption | omega), (by first | assumption | exact vp_in_nI (by omega) (by omega) | (unfold vp_in; decide)), ?_⟩
        | refine ⟨(by first | exact Nat.zero_lt_one | assumption | omega), rfl, ?_⟩
        | refine ⟨⟨(by first | exact Nat.zero_lt_one | assumption | omega), rfl⟩, Nat.le_of_ble_eq_true rfl, ?_⟩
        | refine ⟨(by first | exact Nat.zero_lt_one | assumption | omega), ?_⟩
        | refine ⟨Or.inl rfl, ?_⟩
        | refine ⟨Or.inr (Or.inl rfl), ?_⟩
        | refine ⟨Or.inr (Or.inr rfl), ?_⟩
        | refine ⟨Or.inr ⟨rfl, (by first | exact Or.inl rfl | exact Or.inr rfl | assumption)⟩, ?_⟩
        | refine ⟨fun h => absurd h (by decide), fun _ => ?_⟩
        | refine ⟨fun _ => ?_, fun h => absurd h (by decide)⟩
        | refine ⟨fun h => ?_, fun h => ?_⟩
        | fail)
    | succ k ih =>
      intro i v μ1 hi hv e1 e2
      subst hv
      have ci : (nI i).toNatClampNeg = i := nI_clamp (by omega)
      have m1 : (12 : Int32) * nI t + nI i = nI (12 * t + i) := by rw [show (12 : Int32) * nI t = nI (12 * t) from pk_mul 12 t, nI_add]
      have v1 : vp_in ((12 : Int32) * nI t + nI i) 48 := by rw [m1]; exact vp_in_nI (by omega) (by omega)
      have c1 : ((12 : Int32) * nI t + nI i).toNatClampNeg = 12 * t + i := by rw [m1]; exact nI_clamp (by omega)
      refine zs k_Mo_take rfl ?_; conv => whnf
      repeat' (first
        | refine br_f (nI_ge (b := 12) (by omega) (by omega)) ?_
        | refine ih (i + 1) _ _ (by omega) (by exact nI_1 i) (fun f hf => ?_) (fun j hj => ?_)
        | (refine zs k_Mo_take rfl ?_; conv => whnf)
        | refine ⟨Nat.zero_lt_one, rfl, ?_⟩
        | refine ⟨rfl, ?_⟩
        | refine ⟨⟨Nat.zero_lt_one, rfl⟩, Nat.le_of_ble_eq_true rfl, ?_⟩
        | refine ⟨Nat.le_of_ble_eq_true rfl, Nat.le_of_ble_eq_true rfl, ?_⟩
        | refine ⟨(by first | exact Nat.zero_lt_one | assumption | omega), (by first | assumption | exact vp_in_nI (by omega) (by omega) | (unfold vp_in; decide)), ?_⟩
        | refine ⟨(by first | exact Nat.zero_lt_one | assumption | omega), rfl, ?_⟩
        | refine ⟨⟨(by first | exact Nat.zero_lt_one | assumption | omega), rfl⟩, Nat.le_of_ble_eq_true rfl, ?_⟩
        | refine ⟨(by first | exact Nat.zero_lt_one | assumption | omega), ?_⟩
        | refine ⟨Or.inl rfl, ?_⟩
        | refine ⟨Or.inr (Or.inl rfl), ?_⟩
        | refine ⟨Or.inr (Or.inr rfl), ?_⟩
        | refine ⟨Or.inr ⟨rfl, (by first | exact Or.inl rfl | exact Or.inr rfl | assumption)⟩, ?_⟩
        | refine ⟨fun h => absurd h (by decide), fun _ => ?_⟩
        | refine ⟨fun _ => ?_, fun h => absurd h (by decide)⟩
        | refine ⟨fun h => ?_, fun h => ?_⟩
        | fail)
      · funext a b
        rw [zu_ne (fun z => hf z.1), e1 f hf]
      · rw [ci, c1, e1 95 (by omega)]
        by_cases e : j = i
        · rw [e, zu_eq]
        · rw [zu_ne (by omega)]
          exact e2 j (by omega)
  repeat' (first
    | refine L 12 0 _ _ (by omega) rfl (fun _ _ => rfl) (fun k hk => absurd hk (by omega))
    | (refine zs k_Mo_take rfl ?_; conv => whnf)
    | refine ⟨Nat.zero_lt_one, rfl, ?_⟩
    | refine ⟨rfl, ?_⟩
    | refine ⟨⟨Nat.zero_lt_one, rfl⟩, Nat.le_of_ble_eq_true rfl, ?_⟩
    | refine ⟨Nat.le_of_ble_eq_true rfl, Nat.le_of_ble_eq_true rfl, ?_⟩
    | refine ⟨(by first | exact Nat.zero_lt_one | assumption | omega), (by first | assumption | exact vp_in_nI (by omega) (by omega) | (unfold vp_in; decide)), ?_⟩
    | refine ⟨(by first | exact Nat.zero_lt_one | assumption | omega), rfl, ?_⟩
    | refine ⟨⟨(by first | exact Nat.zero_lt_one | assumption | omega), rfl⟩, Nat.le_of_ble_eq_true rfl, ?_⟩
    | refine ⟨(by first | exact Nat.zero_lt_one | assumption | omega), ?_⟩
    | refine ⟨Or.inl rfl, ?_⟩
    | refine ⟨Or.inr (Or.inl rfl), ?_⟩
    | refine ⟨Or.inr (Or.inr rfl), ?_⟩
    | refine ⟨Or.inr ⟨rfl, (by first | exact Or.inl rfl | exact Or.inr rfl | assumption)⟩, ?_⟩
    | refine ⟨fun h => absurd h (by decide), fun _ => ?_⟩
    | refine ⟨fun _ => ?_, fun h => absurd h (by decide)⟩
    | refine ⟨fun h => ?_, fun h => ?_⟩
    | fail)
theorem hOk_of {μ : zMu} {ns n : Nat} {a : Int32} (g1 : gSt μ ns) (g : gPe μ ns n) (ha : a = -1 ∨ ∃ p, p < n ∧ a = nI p) : hOk μ a := by
  rcases ha with ha | ⟨p, hp, rfl⟩
  · exact Or.inl ha
  · have h20 := g.2.2.1
    have h10 := g1.2.2.1
    obtain ⟨-, -, -, -, -, -, -, -, -, ⟨s, hs, b1, -, b3⟩, -⟩ := g.2.2.2 p hp
    refine Or.inr ⟨vp_in_nI (by omega) (by omega), ?_, ?_⟩
    · rw [nI_clamp (by omega), b3]
      exact (g1.2.2.2 s hs).2.2
    · rw [nI_clamp (by omega), b1]
      exact vp_in_nI (by omega) (by omega)
theorem g6_row {μ : zMu} {nt n t : Nat} (g6 : gTb μ nt n) (ht : t < nt) : ∀ k, k < 12 → μ 40 t k = -1 ∨ ∃ p, p < n ∧ μ 40 t k = nI p := fun k hk => by
  rcases (g6.2.2.2 t ht).2.2.2.2.1 k hk with q | ⟨p, hp, q, -⟩
  · exact Or.inl q
  · exact Or.inr ⟨p, hp, q⟩
theorem c_De_keeps {d ns n nt : Nat} {μ : zMu} {x : Int32} {K : Option zV → zMu → Prop} (g1 : gSt μ ns) (g2 : gPe μ ns n) (g6 : gTb μ nt n) (h0 : ¬ okI nt x → K (some (zI (-1))) μ) (h1 : ∀ t z, t < nt → x = nI t → μ 9 t 0 = nI z → z ≤ 12 → (∀ k, k < z → hPe μ (μ 40 t) (μ 9 t 2) z k) → K (some (zI 1)) μ) (h2 : ∀ t z, t < nt → x = nI t → μ 9 t 0 = nI z → z ≤ 12 → (¬ ∀ k, k < z → hPe μ (μ 40 t) (μ 9 t 2) z k) → K (some (zI 0)) μ) : Ct (d + 4) m_De_keeps [zR 0 0, zI x] μ K := by
  refine zmeet rfl (Nat.le_of_ble_eq_true rfl) (fun S => ?_)
  have h4 := g6.2.2.1
  rcases zIx x (n := nt) (by omega) with ⟨t, ht, rfl⟩ | q
  case inr =>
    have hk := h0 q
    repeat' (first
      | refine c_Ha_hasTable (fun h h' => absurd (by rw [← g6.1]; exact ⟨h, h'⟩) q) (fun _ => ?_)
      | exact hk
      | (refine zs k_De_keeps rfl ?_; conv => whnf)
      | refine ⟨Nat.zero_lt_one, rfl, ?_⟩
      | refine ⟨rfl, ?_⟩
      | refine ⟨⟨Nat.zero_lt_one, rfl⟩, Nat.le_of_ble_eq_true rfl, ?_⟩
      | refine ⟨Nat.le_of_ble_eq_true rfl, Nat.le_of_ble_eq_true rfl, ?_⟩
      | refine ⟨(by first | exact Nat.zero_lt_one | assumption | omega), (by first | assumption | exact vp_in_nI (by omega) (by omega) | (unfold vp_in; decide)), ?_⟩
      | refine ⟨(by first | exact Nat.zero_lt_one | assumption | omega), rfl, ?_⟩
      | refine ⟨⟨(by first | exact Nat.zero_lt_one | assumption | omega), rfl⟩, Nat.le_of_ble_eq_true rfl, ?_⟩
      | refine ⟨(by first | exact Nat.zero_lt_one | assumption | omega), ?_⟩
      | refine ⟨Or.inl rfl, ?_⟩
      | refine ⟨Or.inr (Or.inl rfl), ?_⟩
      | refine ⟨Or.inr (Or.inr rfl), ?_⟩
      | refine ⟨Or.inr ⟨rfl, (by first | exact Or.inl rfl | exact Or.inr rfl | assumption)⟩, ?_⟩
      | refine ⟨fun h => absurd h (by decide), fun _ => ?_⟩
      | refine ⟨fun _ => ?_, fun h => absurd h (by decide)⟩
      | refine ⟨fun h => ?_, fun h => ?_⟩
      | fail)
  have hy : 0 ≤ nI t ∧ nI t < μ 5 0 0 := by rw [g6.1]; exact zIx_y ht (by omega)
  obtain ⟨-, -, ⟨z, z1, z2, z3, z4, z5⟩, -⟩ := g6.2.2.2 t ht
  have ct : (nI t).toNatClampNeg = t := nI_clamp (by omega)
  have vt : vp_in (nI t) 4 := vp_in_nI (by omega) (by omega)
  have hlt : (nI t).toNatClampNeg < 4 := by omega
  have k1 := h1 t z ht rfl z3 z2
  have k2 := h2 t z ht rfl z3 z2
  rw [← ct] at k1 k2 z3
  have hok : ∀ j, j < z → hOk μ (μ 40 (nI t).toNatClampNeg j) := fun j hj => by
    rw [ct]
    exact hOk_of g1 g2 (g6_row g6 ht j (by omega))
  repeat' (first
    | refine c_Ha_hasTable (fun _ _ => ?_) (fun h => absurd hy h)
    | refine c_Ha_isPeaceful hlt z3 z2 hok (fun hb => ?_) (fun hb => ?_)
    | exact k1 hb
    | exact k2 hb
    | (refine zs k_De_keeps rfl ?_; conv => whnf)
    | refine ⟨Nat.zero_lt_one, rfl, ?_⟩
    | refine ⟨rfl, ?_⟩
    | refine ⟨⟨Nat.zero_lt_one, rfl⟩, Nat.le_of_ble_eq_true rfl, ?_⟩
    | refine ⟨Nat.le_of_ble_eq_true rfl, Nat.le_of_ble_eq_true rfl, ?_⟩
    | refine ⟨(by first | exact Nat.zero_lt_one | assumption | omega), (by first | assumption | exact vp_in_nI (by omega) (by omega) | (unfold vp_in; decide)), ?_⟩
    | refine ⟨(by first | exact Nat.zero_lt_one | assumption | omega), rfl, ?_⟩
    | refine ⟨⟨(by first | exact Nat.zero_lt_one | assumption | omega), rfl⟩, Nat.le_of_ble_eq_true rfl, ?_⟩
    | refine ⟨(by first | exact Nat.zero_lt_one | assumption | omega), ?_⟩
    | refine ⟨Or.inl rfl, ?_⟩
    | refine ⟨Or.inr (Or.inl rfl), ?_⟩
    | refine ⟨Or.inr (Or.inr rfl), ?_⟩
    | refine ⟨Or.inr ⟨rfl, (by first | exact Or.inl rfl | exact Or.inr rfl | assumption)⟩, ?_⟩
    | refine ⟨fun h => absurd h (by decide), fun _ => ?_⟩
    | refine ⟨fun _ => ?_, fun h => absurd h (by decide)⟩
    | refine ⟨fun h => ?_, fun h => ?_⟩
    | fail)
theorem c_Mo_keeps {d ns n nt : Nat} {μ : zMu} {x : Int32} {K : Option zV → zMu → Prop} (g1 : gSt μ ns) (g2 : gPe μ ns n) (g6 : gTb μ nt n) (g7 : gFe μ) (g8 : gCo μ) (h0 : ¬ okI nt x → K (some (zI (-1))) μ) (h1 : ∀ t z μ', t < nt → x = nI t → μ 9 t 0 = nI z → z ≤ 12 → (∀ f, f ≠ 96 → μ' f = μ f) → (∀ k, k < z → hPe μ (μ 40 t) (μ 9 t 2) z k) → K (some (zI 1)) μ') (h2 : ∀ t z μ', t < nt → x = nI t → μ 9 t 0 = nI z → z ≤ 12 → (∀ f, f ≠ 96 → μ' f = μ f) → (¬ ∀ k, k < z → hPe μ (μ 40 t) (μ 9 t 2) z k) → K (some (zI 0)) μ') : Ct (d + 2) m_Mo_keeps [zR 48 0, zI x] μ K := by
  refine zmeet rfl (Nat.le_of_ble_eq_true rfl) (fun S => ?_)
  have h4 := g6.2.2.1
  rcases zIx x (n := nt) (by omega) with ⟨t, ht, rfl⟩ | q
  case inr =>
    have hk := h0 q
    repeat' (first
      | refine c_Mo_isTable (fun h => absurd (by rw [← g6.2.1]; exact h) q) (fun _ => ?_)
      | exact hk
      | (refine zs k_Mo_keeps rfl ?_; conv => whnf)
      | refine ⟨Nat.zero_lt_one, rfl, ?_⟩
      | refine ⟨rfl, ?_⟩
      | refine ⟨⟨Nat.zero_lt_one, rfl⟩, Nat.le_of_ble_eq_true rfl, ?_⟩
      | refine ⟨Nat.le_of_ble_eq_true rfl, Nat.le_of_ble_eq_true rfl, ?_⟩
      | refine ⟨(by first | exact Nat.zero_lt_one | assumption | omega), (by first | assumption | exact vp_in_nI (by omega) (by omega) | (unfold vp_in; decide)), ?_⟩
      | refine ⟨(by first | exact Nat.zero_lt_one | assumption | omega), rfl, ?_⟩
      | refine ⟨⟨(by first | exact Nat.zero_lt_one | assumption | omega), rfl⟩, Nat.le_of_ble_eq_true rfl, ?_⟩
      | refine ⟨(by first | exact Nat.zero_lt_one | assumption | omega), ?_⟩
      | refine ⟨Or.inl rfl, ?_⟩
      | refine ⟨Or.inr (Or.inl rfl), ?_⟩
      | refine ⟨Or.inr (Or.inr rfl), ?_⟩
      | refine ⟨Or.inr ⟨rfl, (by first | exact Or.inl rfl | exact Or.inr rfl | assumption)⟩, ?_⟩
      | refine ⟨fun h => absurd h (by decide), fun _ => ?_⟩
      | refine ⟨fun _ => ?_, fun h => absurd h (by decide)⟩
      | refine ⟨fun h => ?_, fun h => ?_⟩
      | fail)
  have hy : 0 ≤ nI t ∧ nI t < μ 48 0 42 := by rw [g6.2.1]; exact zIx_y ht (by omega)
  obtain ⟨a1, a2, ⟨z, z1, z2, z3, z4, z5⟩, a4, -⟩ := g6.2.2.2 t ht
  have hrow := g6_row g6 ht
  have T : ∀ μ' : zMu, (∀ f, f ≠ 96 → μ' f = μ f) → (∀ k, k < 12 → μ' 96 0 k = μ 95 0 (12 * t + k)) → mT μ' ns n t z (μ 9 t 2) (μ 40 t) ∧ (mKp μ' (μ 40 t) (μ 9 t 2) z ↔ ∀ k, k < z → hPe μ (μ 40 t) (μ 9 t 2) z k) := fun μ' e1 e2 => by
    have g1' := gSt_fr (μ' := μ') (fun f hf => e1 f (by rintro rfl; simp at hf)) (by rw [e1 48 (by omega)]) g1
    have g2' := gPe_fr (μ' := μ') (fun f hf => e1 f (by rintro rfl; simp at hf)) (by rw [e1 48 (by omega)]) g2
    have g7' := gFe_fr (μ' := μ') (fun f hf => e1 f (by rintro rfl; simp at hf)) g7
    have g8' := gCo_fr (μ' := μ') (fun f hf => e1 f (by rintro rfl; simp at hf)) g8
    refine ⟨⟨g1', g2', g7', g8', by omega, by rw [e1 94 (by omega)]; exact z4, z1, z2, by rw [e1 93 (by omega)]; exact a2, a1, fun k hk => by rw [e2 k hk]; exact a4 k hk, hrow⟩, ?_⟩
    have hp : ∀ k, hPe μ' (μ 40 t) (μ 9 t 2) z k ↔ hPe μ (μ 40 t) (μ 9 t 2) z k := fun k => by
      unfold hPe hFd
      rw [e1 36 (by omega), e1 17 (by omega)]
    rw [kp_iff z1 z2 (fun i j hi hj => hFd_sy g1' g2' g7' (hrow i (by omega)) (hrow j (by omega)))]
    exact ⟨fun w k hk => (hp k).mp (w k hk), fun w k hk => (hp k).mpr (w k hk)⟩
  have V : ∀ μ' : zMu, (∀ f, f ≠ 96 → μ' f = μ f) → (∀ k, k < 12 → μ' 96 0 k = μ 95 0 (12 * t + k)) → zG S (d + 2) m_Mo_keeps K 15 [some (zR 48 0), some (zI (nI t))] [] μ' := fun μ' e1 e2 => by
    obtain ⟨t1, t2⟩ := T μ' e1 e2
    repeat' (first
      | refine c_Mo_isKept t1 rfl (fun w => ?_) (fun w => ?_)
      | exact h1 t z μ' ht rfl z3 z2 e1 (t2.mp w)
      | exact h2 t z μ' ht rfl z3 z2 e1 (fun v => w (t2.mpr v))
      | (refine zs k_Mo_keeps rfl ?_; conv => whnf)
      | refine ⟨Nat.zero_lt_one, rfl, ?_⟩
      | refine ⟨rfl, ?_⟩
      | refine ⟨⟨Nat.zero_lt_one, rfl⟩, Nat.le_of_ble_eq_true rfl, ?_⟩
      | refine ⟨Nat.le_of_ble_eq_true rfl, Nat.le_of_ble_eq_true rfl, ?_⟩
      | refine ⟨(by first | exact Nat.zero_lt_one | assumption | omega), (by first | assumption | exact vp_in_nI (by omega) (by omega) | (unfold vp_in; decide)), ?_⟩
      | refine ⟨(by first | exact Nat.zero_lt_one | assumption | omega), rfl, ?_⟩
      | refine ⟨⟨(by first | exact Nat.zero_lt_one | assumption | omega), rfl⟩, Nat.le_of_ble_eq_true rfl, ?_⟩
      | refine ⟨(by first | exact Nat.zero_lt_one | assumption | omega), ?_⟩
      | refine ⟨Or.inl rfl, ?_⟩
      | refine ⟨Or.inr (Or.inl rfl), ?_⟩
      | refine ⟨Or.inr (Or.inr rfl), ?_⟩
      | refine ⟨Or.inr ⟨rfl, (by first | exact Or.inl rfl | exact Or.inr rfl | assumption)⟩, ?_⟩
      | refine ⟨fun h => absurd h (by decide), fun _ => ?_⟩
      | refine ⟨fun _ => ?_, fun h => absurd h (by decide)⟩
      | refine ⟨fun h => ?_, fun h => ?_⟩
      | fail)
  repeat' (first
    | refine c_Mo_isTable (fun _ => ?_) (fun h => absurd hy h)
    | refine c_Mo_take (t := t) (by omega) rfl (fun μ' e1 e2 => ?_)
    | exact V μ' e1 e2
    | (refine zs k_Mo_keeps rfl ?_; conv => whnf)
    | refine ⟨Nat.zero_lt_one, rfl, ?_⟩
    | refine ⟨rfl, ?_⟩
    | refine ⟨⟨Nat.zero_lt_one, rfl⟩, Nat.le_of_ble_eq_true rfl, ?_⟩
    | refine ⟨Nat.le_of_ble_eq_true rfl, Nat.le_of_ble_eq_true rfl, ?_⟩
    | refine ⟨(by first | exact Nat.zero_lt_one | assumption | omega), (by first | assumption | exact vp_in_nI (by omega) (by omega) | (unfold vp_in; decide)), ?_⟩
    | refine ⟨(by first | exact Nat.zero_lt_one | assumption | omega), rfl, ?_⟩
    | refine ⟨⟨(by first | exact Nat.zero_lt_one | assumption | omega), rfl⟩, Nat.le_of_ble_eq_true rfl, ?_⟩
    | refine ⟨(by first | exact Nat.zero_lt_one | assumption | omega), ?_⟩
    | refine ⟨Or.inl rfl, ?_⟩
    | refine ⟨Or.inr (Or.inl rfl), ?_⟩
    | refine ⟨Or.inr (Or.inr rfl), ?_⟩
    | refine ⟨Or.inr ⟨rfl, (by first | exact Or.inl rfl | exact Or.inr rfl | assumption)⟩, ?_⟩
    | refine ⟨fun h => absurd h (by decide), fun _ => ?_⟩
    | refine ⟨fun _ => ?_, fun h => absurd h (by decide)⟩
    | refine ⟨fun h => ?_, fun h => ?_⟩
    | fail)
theorem zScr_96 {μ μ' : zMu} (h : ∀ f, f ≠ 96 → μ' f = μ f) : zScr μ μ' := by
  refine ⟨fun f hf => h f (fun q => hf (by rw [q]; decide)), by rw [h 2 (by omega)], fun k _ => by rw [h 48 (by omega)]⟩
theorem b_keeps {μ : zMu} {x : Int32} (h : Rel μ) : Both m_De_keeps m_Mo_keeps [zI x] μ := by
  intro d K hK
  obtain ⟨ns, n, nr, nh, nt, nb, L, g1, g2, g3, g4, g5, g6, g7, g8, g9, g10, g11⟩ := id h
  have h4 := g6.2.2.1
  refine c_De_keeps g1 g2 g6 (fun a => hK _ _ (fun d K2 hK2 => ?_)) (fun t z ht ex e9 hz a => hK _ _ (fun d K2 hK2 => ?_)) (fun t z ht ex e9 hz a => hK _ _ (fun d K2 hK2 => ?_))
  · exact c_Mo_keeps g1 g2 g6 g7 g8 (fun _ => hK2 _ h) (fun t z μ' ht ex => absurd (by rw [ex]; exact okI_i ht (by omega)) a) (fun t z μ' ht ex => absurd (by rw [ex]; exact okI_i ht (by omega)) a)
  · subst ex
    refine c_Mo_keeps g1 g2 g6 g7 g8 (fun b => absurd (okI_i ht (by omega)) b) (fun t' z' μ' ht' ex e9' hz' e1 b => hK2 _ (Rel_scr (zScr_96 e1) h)) (fun t' z' μ' ht' ex e9' hz' e1 b => ?_)
    obtain rfl := (nI_eq (by omega) (by omega)).mp ex
    obtain rfl := (nI_eq (by omega) (by omega)).mp (e9.symm.trans e9')
    exact absurd a b
  · subst ex
    refine c_Mo_keeps g1 g2 g6 g7 g8 (fun b => absurd (okI_i ht (by omega)) b) (fun t' z' μ' ht' ex e9' hz' e1 b => ?_) (fun t' z' μ' ht' ex e9' hz' e1 b => hK2 _ (Rel_scr (zScr_96 e1) h))
    obtain rfl := (nI_eq (by omega) (by omega)).mp ex
    obtain rfl := (nI_eq (by omega) (by omega)).mp (e9.symm.trans e9')
    exact absurd b a
