/-! MODEL: findOrder -/
def dF (P : Nat → Bool) : Nat → Nat → Int32
  | _, 0 => -1
  | i, k + 1 => if P i then nI i else dF P (i + 1) k
theorem dF_none {P : Nat → Bool} : ∀ {k i : Nat}, (∀ j, i ≤ j → j < i + k → P j = false) → dF P i k = -1
  | 0, _, _ => rfl
  | k + 1, i, h => by
    rw [dF, h i (by omega) (by omega)]
    exact dF_none (fun j h1 h2 => h j (by omega) (by omega))
theorem dF_hit {P : Nat → Bool} {r : Nat} (hr : P r = true) : ∀ {k i : Nat}, i ≤ r → r < i + k → (∀ j, i ≤ j → j < r → P j = false) → dF P i k = nI r
  | 0, i, h1, h2, _ => absurd h2 (by omega)
  | k + 1, i, h1, h2, h => by
    rw [dF]
    by_cases e : i = r
    · rw [e, hr]
      rfl
    · rw [h i (by omega) (by omega)]
      exact dF_hit hr (by omega) (by omega) (fun j h3 h4 => h j (by omega) h4)
theorem dF_0 {P : Nat → Bool} {n : Nat} (hn : n < 2 ^ 31) : dF P 0 n = pFst P n := by
  rcases pFst_in (P := P) (n := n) hn with h | ⟨r, h1, h2, h3, h4⟩
  · rw [h]
    exact dF_none (fun j _ h2 => pFst_m1 hn h j (by omega))
  · rw [h2]
    exact dF_hit h3 (by omega) (by omega) (fun j _ h => h4 j h)
theorem dF_s {P : Nat → Bool} {j n : Nat} (h : j < n) : dF P j (n - j) = if P j then nI j else dF P (j + 1) (n - (j + 1)) := by
  obtain ⟨k, hk⟩ : ∃ k, n - j = k + 1 := ⟨n - j - 1, by omega⟩
  rw [hk, dF, show n - (j + 1) = k by omega]
theorem oLf_sub {A : Nat → Nat → Bool} {n : Nat} {lf0 : Nat → Bool} : ∀ k p, oLf A n lf0 k p = true → lf0 p = true
  | 0, p, h => h
  | k + 1, p, h => by
    have h' : (oLf A n lf0 k p && decide (p ≠ oNx A n (oLf A n lf0 k))) = true := h
    rw [Bool.and_eq_true] at h'
    exact oLf_sub k p h'.1
def mOrd (μ' : zMu) (A : Nat → Nat → Bool) (n : Nat) (lf0 : Nat → Bool) (m : Nat) : Prop := μ' 48 0 37 = nI m ∧ (∀ k, k < m → μ' 86 0 k = nI (oN A n lf0 k)) ∧ ∃ len fn, oRk A n lf0 m len fn ∧ len ≤ 20 ∧ μ' 48 0 40 = nI len ∧ ∀ k, k < len → μ' 89 0 k = nI (fn k)
def mRing (lf : Nat → Bool) (A : Nat → Nat → Bool) (n nx : Nat) (μ μ' : zMu) : Prop := (¬ (pUn lf A n = -1 ∧ μ 48 0 40 = 0) ∧ μ' 48 0 40 = μ 48 0 40 ∧ ∀ k, μ' 89 0 k = μ 89 0 k) ∨ ((pUn lf A n = -1 ∧ μ 48 0 40 = 0) ∧ ∃ T s, pRg (pWk lf A n nx) T s ∧ T ≤ 20 ∧ μ' 48 0 40 = nI (T - s) ∧ ∀ k, k < T - s → μ' 89 0 k = nI (pWk lf A n nx (s + k)))
set_option maxHeartbeats 4000000 in
theorem c_Mo_findOrder {d ns n nr nh : Nat} {μ : zMu} {o day : Int32} {K : Option zV → zMu → Prop} (g : gQ μ ns n nr nh) (hK : ∀ μ' : zMu, zScr μ μ' → mOrd μ' (cAd μ o day nr nh n) n (cLf0 μ n) (pCt (cLf0 μ n) n) → K none μ') : Ct (d + 9) m_Mo_findOrder [zR 48 0, zI o, zI day] μ K := by
  refine zmeet rfl (Nat.le_of_ble_eq_true rfl) (fun S => ?_)
  have h20 := g.2.1.2.2.1
  have hn := g.2.1.2.1
  have hpr : ∀ p, p < n → μ 10 0 p = 0 ∨ μ 10 0 p = 1 := fun p hp => (g.2.1.2.2.2 p hp).2.1
  have hm20 : pCt (cLf0 μ n) n ≤ n := pCt_le _ _
  have hAh : ∀ lf : Nat → Bool, (∀ p, lf p = true → cLf0 μ n p = true) → mAh μ o day nr nh n lf (cAd μ o day nr nh n) := fun lf hs q p _ _ hq hp => by
    unfold cAd cLdm
    rw [hs q hq, hs p hp]
    rfl
  have hct := cPres_ct (μ := μ) (n := n) hpr
  have hlfe : ∀ p, p < n → (μ 10 0 p = 0 → cLf0 μ n p = false) ∧ (μ 10 0 p = 1 → cLf0 μ n p = true) := fun p hp => by
    unfold cLf0
    constructor
    · intro e
      rw [e]
      simp
    · intro e
      rw [e]
      simp [hp]
  generalize hA : cAd μ o day nr nh n = A at hK hAh
  generalize hlf : cLf0 μ n = lf0 at hK hm20 hAh hct hlfe
  generalize hm : pCt lf0 n = m at hK hm20
  -- places
  have L3 : ∀ (k i : Nat) (l4 l5 l6 : Option zV) (μ1 : zMu), i + k = m → zScr μ μ1 → mLf μ1 n (oLf A n lf0 i) → mOrd μ1 A n lf0 i → zG S (d + 9) m_Mo_findOrder K 62 [some (zR 48 0), some (zI o), some (zI day), some (zI (nI m)), l4, l5, l6] [] μ1 := by
    intro k
    induction k with
    | zero =>
      intro i l4 l5 l6 μ1 hi hs hl ho
      obtain rfl : i = m := by omega
      have hk := hK μ1 hs ho
      have hle : nI i ≤ μ1 48 0 37 := by rw [ho.1]; exact nI_le (Nat.le_refl i) (by omega)
      refine zs k_Mo_findOrder rfl ?_; conv => whnf
      repeat' (first
        | refine br_t hle ?_
        | exact hk
        | (refine zs k_Mo_findOrder rfl ?_; conv => whnf)
        | refine ⟨Nat.zero_lt_one, rfl, ?_⟩
        | refine ⟨rfl, ?_⟩
        | refine ⟨⟨Nat.zero_lt_one, rfl⟩, Nat.le_of_ble_eq_true rfl, ?_⟩
        | refine ⟨Nat.le_of_ble_eq_true rfl, Nat.le_of_ble_eq_true rfl, ?_⟩
        | refine ⟨(by first | exact Nat.zero_lt_one | assumption | omega), (by first | assumption | exact vp_in_nI (by omega) (by omega) | (unfold vp_in; decide)), ?_⟩
        | refine ⟨(by first | exact Nat.zero_lt_one | assumption | omega), rfl, ?_⟩
        | refine ⟨⟨(by first | exact Nat.zero_lt_one | assumption | omega), rfl⟩, Nat.le_of_ble_eq_true rfl, ?_⟩
        | refine ⟨(by first | exact Nat.zero_lt_one | assumption | omega), ?_⟩
        | refine ⟨Or.inl rfl, ?_⟩
        | refine ⟨Or.inr (Or.inl rfl), ?_⟩
        | refine ⟨Or.inr (Or.inr rfl), ?_⟩
        | refine ⟨Or.inr ⟨rfl, (by first | exact Or.inl rfl | exact Or.inr rfl | assumption)⟩, ?_⟩
        | refine ⟨fun h => absurd h (by decide), fun _ => ?_⟩
        | refine ⟨fun _ => ?_, fun h => absurd h (by decide)⟩
        | refine ⟨fun h => ?_, fun h => ?_⟩
        | fail)
    | succ k ih =>
      intro i l4 l5 l6 μ1 hi hs hl ho
      have hlt : ¬ nI m ≤ μ1 48 0 37 := by rw [ho.1]; exact nI_ge (by omega) (by omega)
      have hcti := oLf_ct (A := A) (lf0 := lf0) h20 i (by omega)
      have hne := pCt_pos (lf := oLf A n lf0 i) (n := n) (by omega)
      have hsub := oLf_sub (A := A) (n := n) (lf0 := lf0) i
      have hAi := mAh_lk (zScr_lk hs) (hAh _ hsub)
      have gi := gQ_scr hs g
      have hn1 : μ1 48 0 5 = nI n := gi.2.1.2.1
      obtain ⟨ho1, ho2, len, fn, ho3, ho4, ho5, ho6⟩ := ho
      have hoN : oN A n lf0 i = oNx A n (oLf A n lf0 i) := rfl
      have hoL : oLf A n lf0 (i + 1) = fun p => oLf A n lf0 i p && decide (p ≠ oNx A n (oLf A n lf0 i)) := rfl
      have hrk : ∀ (len' : Nat) (fn' : Nat → Nat), ((¬ (pUn (oLf A n lf0 i) A n = -1 ∧ len = 0) ∧ len' = len ∧ fn' = fn) ∨ ((pUn (oLf A n lf0 i) A n = -1 ∧ len = 0) ∧ ∃ T s, pRg (pWk (oLf A n lf0 i) A n (oN A n lf0 i)) T s ∧ len' = T - s ∧ fn' = fun j => pWk (oLf A n lf0 i) A n (oN A n lf0 i) (s + j))) → oRk A n lf0 (i + 1) len' fn' := fun len' fn' h => ⟨len, fn, ho3, h⟩
      rw [hoN] at hrk
      have ih := ih (i + 1)
      rw [hoL] at ih
      generalize hlfi : oLf A n lf0 i = lf at hl hcti hne hsub hAi ih hrk
      obtain ⟨hx1, hx2, hx3, hx4⟩ := oNx_in (A := A) h20 hne
      have hoN' : oN A n lf0 i = oNx A n lf := by rw [hoN, hlfi]
      generalize oNx A n lf = nx at ih hx1 hx2 hx3 hx4 hoN' hrk
      have cx : (nI nx).toNatClampNeg = nx := nI_clamp (by omega)
      have hvx : vp_in (nI nx) 20 := vp_in_nI (by omega) (by omega)
      have tail : ∀ (v : Int32) (l5 l6 : Option zV) (μ2 : zMu), v = nI nx → zRn μ1 μ2 → mRing lf A n nx μ1 μ2 → zG S (d + 9) m_Mo_findOrder K 166 [some (zR 48 0), some (zI o), some (zI day), some (zI (nI m)), some (zI v), l5, l6] [] μ2 := by
        intro v l5 l6 μ2 hv hr hrg
        subst hv
        have e37 : μ2 48 0 37 = nI i := by rw [hr.2 37 (by omega)]; exact ho1
        have c37 : (μ2 48 0 37).toNatClampNeg = i := by rw [e37]; exact nI_clamp (by omega)
        have v37 : vp_in (μ2 48 0 37) 20 := by rw [e37]; exact vp_in_nI (by omega) (by omega)
        refine zs k_Mo_findOrder rfl ?_; conv => whnf
        repeat' (first
          | refine ih _ _ _ _ (by omega) ?_ ?_ ?_
          | (refine zs k_Mo_findOrder rfl ?_; conv => whnf)
          | refine ⟨Nat.zero_lt_one, rfl, ?_⟩
          | refine ⟨rfl, ?_⟩
          | refine ⟨⟨Nat.zero_lt_one, rfl⟩, Nat.le_of_ble_eq_true rfl, ?_⟩
          | refine ⟨Nat.le_of_ble_eq_true rfl, Nat.le_of_ble_eq_true rfl, ?_⟩
          | refine ⟨(by first | exact Nat.zero_lt_one | assumption | omega), (by first | assumption | exact vp_in_nI (by omega) (by omega) | (unfold vp_in; decide)), ?_⟩
          | refine ⟨(by first | exact Nat.zero_lt_one | assumption | omega), rfl, ?_⟩
          | refine ⟨⟨(by first | exact Nat.zero_lt_one | assumption | omega), rfl⟩, Nat.le_of_ble_eq_true rfl, ?_⟩
          | refine ⟨(by first | exact Nat.zero_lt_one | assumption | omega), ?_⟩
          | refine ⟨Or.inl rfl, ?_⟩
          | refine ⟨Or.inr (Or.inl rfl), ?_⟩
          | refine ⟨Or.inr (Or.inr rfl), ?_⟩
          | refine ⟨Or.inr ⟨rfl, (by first | exact Or.inl rfl | exact Or.inr rfl | assumption)⟩, ?_⟩
          | refine ⟨fun h => absurd h (by decide), fun _ => ?_⟩
          | refine ⟨fun _ => ?_, fun h => absurd h (by decide)⟩
          | refine ⟨fun h => ?_, fun h => ?_⟩
          | fail)
        · exact zScr_tr hs (zScr_tr (zRn_scr hr) (zScr_tr (zScr_zu (by decide)) (zScr_tr (zScr_zu (by decide)) (zScr_48 (by decide)))))
        · intro p hp
          rw [cx]
          show zu μ2 88 0 nx (vp_nar .boolean 0) 88 0 p = _
          by_cases e : p = nx
          · rw [e, zu_eq]
            simp
            rfl
          · rw [zu_ne (by omega), hr.1 88 (by decide), hl p hp]
            simp [e]
        · refine ⟨?_, fun j hj => ?_, ?_⟩
          · show μ2 48 0 37 + 1 = _
            rw [e37, nI_1]
          · show zu μ2 86 0 (μ2 48 0 37).toNatClampNeg (nI nx) 86 0 j = _
            rw [c37]
            by_cases e : j = i
            · rw [e, zu_eq, hoN']
            · rw [zu_ne (by omega), hr.1 86 (by decide)]
              exact ho2 j (by omega)
          · show ∃ len fn, oRk A n lf0 (i + 1) len fn ∧ len ≤ 20 ∧ μ2 48 0 40 = nI len ∧ ∀ k, k < len → μ2 89 0 k = nI (fn k)
            rcases hrg with ⟨u1, u2, u3⟩ | ⟨⟨u1, u2⟩, T, s, u3, u4, u5, u6⟩
            · exact ⟨len, fn, hrk len fn (Or.inl ⟨fun h => u1 ⟨h.1, by rw [ho5, h.2]; exact nI_0⟩, rfl, rfl⟩), ho4, by rw [u2]; exact ho5, fun j hj => by rw [u3]; exact ho6 j hj⟩
            · have hl0 : len = 0 := by
                rcases Nat.eq_zero_or_pos len with q | q
                · exact q
                · exact absurd (ho5.symm.trans u2) (nI_ne0 q (by omega))
              exact ⟨T - s, _, hrk (T - s) _ (Or.inr ⟨⟨u1, hl0⟩, T, s, u3, rfl, rfl⟩), by omega, u5, u6⟩
      have fin : ∀ (x y : Int32) (l6 : Option zV), x = pUn lf A n → y = pFst lf n → zG S (d + 9) m_Mo_findOrder K 130 [some (zR 48 0), some (zI o), some (zI day), some (zI (nI m)), some (zI x), some (zI y), l6] [] μ1 := by
        intro x y l6 hx hy
        by_cases hu : pUn lf A n = -1
        · have hpl := hx3 hu
          rw [hu] at hx
          rw [hpl] at hy
          subst hx hy
          have hall : ∀ p, p < n → lf p = true → ¬ pAh lf A n p = -1 := fun p hp hlp hah => by
            have := pFst_m1 (P := fun p => lf p && decide (pAh lf A n p = -1)) (n := n) (by omega) hu p hp
            simp [hlp, hah] at this
          by_cases hr0 : μ1 48 0 40 = 0
          · skip
            refine zs k_Mo_findOrder rfl ?_; conv => whnf
            repeat' (first
              | refine bn_f hr0 ?_
              | refine c_Mo_findRing gi hx1 rfl hx2 hl hAi hall (fun T s μ' hrg hT hf h40 h89 => ?_)
              | refine tail _ _ _ _ rfl hf (Or.inr ⟨⟨hu, hr0⟩, T, s, hrg, hT, h40, h89⟩)
              | (refine zs k_Mo_findOrder rfl ?_; conv => whnf)
              | refine ⟨Nat.zero_lt_one, rfl, ?_⟩
              | refine ⟨rfl, ?_⟩
              | refine ⟨⟨Nat.zero_lt_one, rfl⟩, Nat.le_of_ble_eq_true rfl, ?_⟩
              | refine ⟨Nat.le_of_ble_eq_true rfl, Nat.le_of_ble_eq_true rfl, ?_⟩
              | refine ⟨(by first | exact Nat.zero_lt_one | assumption | omega), (by first | assumption | exact vp_in_nI (by omega) (by omega) | (unfold vp_in; decide)), ?_⟩
              | refine ⟨(by first | exact Nat.zero_lt_one | assumption | omega), rfl, ?_⟩
              | refine ⟨⟨(by first | exact Nat.zero_lt_one | assumption | omega), rfl⟩, Nat.le_of_ble_eq_true rfl, ?_⟩
              | refine ⟨(by first | exact Nat.zero_lt_one | assumption | omega), ?_⟩
              | refine ⟨Or.inl rfl, ?_⟩
              | refine ⟨Or.inr (Or.inl rfl), ?_⟩
              | refine ⟨Or.inr (Or.inr rfl), ?_⟩
              | refine ⟨Or.inr ⟨rfl, (by first | exact Or.inl rfl | exact Or.inr rfl | assumption)⟩, ?_⟩
              | refine ⟨fun h => absurd h (by decide), fun _ => ?_⟩
              | refine ⟨fun _ => ?_, fun h => absurd h (by decide)⟩
              | refine ⟨fun h => ?_, fun h => ?_⟩
              | fail)
          · skip
            refine zs k_Mo_findOrder rfl ?_; conv => whnf
            repeat' (first
              | refine bn_t hr0 ?_
              | refine tail _ _ _ _ rfl ⟨fun _ _ => rfl, fun _ _ => rfl⟩ (Or.inl ⟨fun h => hr0 h.2, rfl, fun _ => rfl⟩)
              | (refine zs k_Mo_findOrder rfl ?_; conv => whnf)
              | refine ⟨Nat.zero_lt_one, rfl, ?_⟩
              | refine ⟨rfl, ?_⟩
              | refine ⟨⟨Nat.zero_lt_one, rfl⟩, Nat.le_of_ble_eq_true rfl, ?_⟩
              | refine ⟨Nat.le_of_ble_eq_true rfl, Nat.le_of_ble_eq_true rfl, ?_⟩
              | refine ⟨(by first | exact Nat.zero_lt_one | assumption | omega), (by first | assumption | exact vp_in_nI (by omega) (by omega) | (unfold vp_in; decide)), ?_⟩
              | refine ⟨(by first | exact Nat.zero_lt_one | assumption | omega), rfl, ?_⟩
              | refine ⟨⟨(by first | exact Nat.zero_lt_one | assumption | omega), rfl⟩, Nat.le_of_ble_eq_true rfl, ?_⟩
              | refine ⟨(by first | exact Nat.zero_lt_one | assumption | omega), ?_⟩
              | refine ⟨Or.inl rfl, ?_⟩
              | refine ⟨Or.inr (Or.inl rfl), ?_⟩
              | refine ⟨Or.inr (Or.inr rfl), ?_⟩
              | refine ⟨Or.inr ⟨rfl, (by first | exact Or.inl rfl | exact Or.inr rfl | assumption)⟩, ?_⟩
              | refine ⟨fun h => absurd h (by decide), fun _ => ?_⟩
              | refine ⟨fun _ => ?_, fun h => absurd h (by decide)⟩
              | refine ⟨fun h => ?_, fun h => ?_⟩
              | fail)
        · have hpl := hx4 hu
          have hxm : ¬ x = -1 := by rw [hx]; exact hu
          rw [hpl] at hx
          subst hx
          refine zs k_Mo_findOrder rfl ?_; conv => whnf
          repeat' (first
            | refine bn_t hxm ?_
            | refine tail _ _ _ _ rfl ⟨fun _ _ => rfl, fun _ _ => rfl⟩ (Or.inl ⟨fun h => hu h.1, rfl, fun _ => rfl⟩)
            | (refine zs k_Mo_findOrder rfl ?_; conv => whnf)
            | refine ⟨Nat.zero_lt_one, rfl, ?_⟩
            | refine ⟨rfl, ?_⟩
            | refine ⟨⟨Nat.zero_lt_one, rfl⟩, Nat.le_of_ble_eq_true rfl, ?_⟩
            | refine ⟨Nat.le_of_ble_eq_true rfl, Nat.le_of_ble_eq_true rfl, ?_⟩
            | refine ⟨(by first | exact Nat.zero_lt_one | assumption | omega), (by first | assumption | exact vp_in_nI (by omega) (by omega) | (unfold vp_in; decide)), ?_⟩
            | refine ⟨(by first | exact Nat.zero_lt_one | assumption | omega), rfl, ?_⟩
            | refine ⟨⟨(by first | exact Nat.zero_lt_one | assumption | omega), rfl⟩, Nat.le_of_ble_eq_true rfl, ?_⟩
            | refine ⟨(by first | exact Nat.zero_lt_one | assumption | omega), ?_⟩
            | refine ⟨Or.inl rfl, ?_⟩
            | refine ⟨Or.inr (Or.inl rfl), ?_⟩
            | refine ⟨Or.inr (Or.inr rfl), ?_⟩
            | refine ⟨Or.inr ⟨rfl, (by first | exact Or.inl rfl | exact Or.inr rfl | assumption)⟩, ?_⟩
            | refine ⟨fun h => absurd h (by decide), fun _ => ?_⟩
            | refine ⟨fun _ => ?_, fun h => absurd h (by decide)⟩
            | refine ⟨fun h => ?_, fun h => ?_⟩
            | fail)
      have L1 : ∀ (j : Nat) (x y v : Int32), j ≤ n → v = nI j - 1 → x = dF (fun p => lf p && decide (pAh lf A n p = -1)) j (n - j) → y = dF lf j (n - j) → zG S (d + 9) m_Mo_findOrder K 84 [some (zR 48 0), some (zI o), some (zI day), some (zI (nI m)), some (zI x), some (zI y), some (zI v)] [] μ1 := by
        intro j
        induction j with
        | zero =>
          intro x y v hj hv hx hy
          subst hv
          rw [Nat.sub_zero, dF_0 (by omega)] at hx hy
          refine zs k_Mo_findOrder rfl ?_; conv => whnf
          repeat' (first
            | refine br_t (by decide) ?_
            | refine fin _ _ _ hx hy
            | (refine zs k_Mo_findOrder rfl ?_; conv => whnf)
            | refine ⟨Nat.zero_lt_one, rfl, ?_⟩
            | refine ⟨rfl, ?_⟩
            | refine ⟨⟨Nat.zero_lt_one, rfl⟩, Nat.le_of_ble_eq_true rfl, ?_⟩
            | refine ⟨Nat.le_of_ble_eq_true rfl, Nat.le_of_ble_eq_true rfl, ?_⟩
            | refine ⟨(by first | exact Nat.zero_lt_one | assumption | omega), (by first | assumption | exact vp_in_nI (by omega) (by omega) | (unfold vp_in; decide)), ?_⟩
            | refine ⟨(by first | exact Nat.zero_lt_one | assumption | omega), rfl, ?_⟩
            | refine ⟨⟨(by first | exact Nat.zero_lt_one | assumption | omega), rfl⟩, Nat.le_of_ble_eq_true rfl, ?_⟩
            | refine ⟨(by first | exact Nat.zero_lt_one | assumption | omega), ?_⟩
            | refine ⟨Or.inl rfl, ?_⟩
            | refine ⟨Or.inr (Or.inl rfl), ?_⟩
            | refine ⟨Or.inr (Or.inr rfl), ?_⟩
            | refine ⟨Or.inr ⟨rfl, (by first | exact Or.inl rfl | exact Or.inr rfl | assumption)⟩, ?_⟩
            | refine ⟨fun h => absurd h (by decide), fun _ => ?_⟩
            | refine ⟨fun _ => ?_, fun h => absurd h (by decide)⟩
            | refine ⟨fun h => ?_, fun h => ?_⟩
            | fail)
        | succ j ihj =>
          intro x y v hj hv hx hy
          subst hv
          rw [nI_pred]
          have cj : (nI j).toNatClampNeg = j := nI_clamp (by omega)
          have hvj : vp_in (nI j) 20 := vp_in_nI (by omega) (by omega)
          have h88 : μ1 88 0 (nI j).toNatClampNeg = if lf j then 1 else 0 := by rw [cj]; exact hl j (by omega)
          have dx := dF_s (P := fun p => lf p && decide (pAh lf A n p = -1)) (j := j) (n := n) (by omega)
          have dy := dF_s (P := lf) (j := j) (n := n) (by omega)
          rw [← hx] at dx
          rw [← hy] at dy
          cases hlj : lf j with
          | false =>
            rw [hlj] at h88 dy
            simp only [hlj, Bool.false_and] at dx
            have h88' : μ1 88 0 (nI j).toNatClampNeg = 0 := h88
            refine zs k_Mo_findOrder rfl ?_; conv => whnf
            repeat' (first
              | refine br_f (nI_pos (by omega)) ?_
              | refine br_t h88' ?_
              | refine ihj _ _ _ (by omega) (by exact i32_m1 _) dx.symm dy.symm
              | (refine zs k_Mo_findOrder rfl ?_; conv => whnf)
              | refine ⟨Nat.zero_lt_one, rfl, ?_⟩
              | refine ⟨rfl, ?_⟩
              | refine ⟨⟨Nat.zero_lt_one, rfl⟩, Nat.le_of_ble_eq_true rfl, ?_⟩
              | refine ⟨Nat.le_of_ble_eq_true rfl, Nat.le_of_ble_eq_true rfl, ?_⟩
              | refine ⟨(by first | exact Nat.zero_lt_one | assumption | omega), (by first | assumption | exact vp_in_nI (by omega) (by omega) | (unfold vp_in; decide)), ?_⟩
              | refine ⟨(by first | exact Nat.zero_lt_one | assumption | omega), rfl, ?_⟩
              | refine ⟨⟨(by first | exact Nat.zero_lt_one | assumption | omega), rfl⟩, Nat.le_of_ble_eq_true rfl, ?_⟩
              | refine ⟨(by first | exact Nat.zero_lt_one | assumption | omega), ?_⟩
              | refine ⟨Or.inl rfl, ?_⟩
              | refine ⟨Or.inr (Or.inl rfl), ?_⟩
              | refine ⟨Or.inr (Or.inr rfl), ?_⟩
              | refine ⟨Or.inr ⟨rfl, (by first | exact Or.inl rfl | exact Or.inr rfl | assumption)⟩, ?_⟩
              | refine ⟨fun h => absurd h (by decide), fun _ => ?_⟩
              | refine ⟨fun _ => ?_, fun h => absurd h (by decide)⟩
              | refine ⟨fun h => ?_, fun h => ?_⟩
              | fail)
          | true =>
            rw [hlj] at h88 dy
            simp only [hlj, Bool.true_and] at dx
            have h88' : ¬ μ1 88 0 (nI j).toNatClampNeg = 0 := by rw [h88]; decide
            by_cases ha : pAh lf A n j = -1
            · rw [ha] at dx
              refine zs k_Mo_findOrder rfl ?_; conv => whnf
              repeat' (first
                | refine br_f (nI_pos (by omega)) ?_
                | refine br_f h88' ?_
                | refine c_Mo_leastAhead gi (p := j) (by omega) rfl hlj hl hAi ?_
                | refine bn_f ha ?_
                | refine ihj _ _ _ (by omega) (by exact i32_m1 _) dx.symm dy.symm
                | (refine zs k_Mo_findOrder rfl ?_; conv => whnf)
                | refine ⟨Nat.zero_lt_one, rfl, ?_⟩
                | refine ⟨rfl, ?_⟩
                | refine ⟨⟨Nat.zero_lt_one, rfl⟩, Nat.le_of_ble_eq_true rfl, ?_⟩
                | refine ⟨Nat.le_of_ble_eq_true rfl, Nat.le_of_ble_eq_true rfl, ?_⟩
                | refine ⟨(by first | exact Nat.zero_lt_one | assumption | omega), (by first | assumption | exact vp_in_nI (by omega) (by omega) | (unfold vp_in; decide)), ?_⟩
                | refine ⟨(by first | exact Nat.zero_lt_one | assumption | omega), rfl, ?_⟩
                | refine ⟨⟨(by first | exact Nat.zero_lt_one | assumption | omega), rfl⟩, Nat.le_of_ble_eq_true rfl, ?_⟩
                | refine ⟨(by first | exact Nat.zero_lt_one | assumption | omega), ?_⟩
                | refine ⟨Or.inl rfl, ?_⟩
                | refine ⟨Or.inr (Or.inl rfl), ?_⟩
                | refine ⟨Or.inr (Or.inr rfl), ?_⟩
                | refine ⟨Or.inr ⟨rfl, (by first | exact Or.inl rfl | exact Or.inr rfl | assumption)⟩, ?_⟩
                | refine ⟨fun h => absurd h (by decide), fun _ => ?_⟩
                | refine ⟨fun _ => ?_, fun h => absurd h (by decide)⟩
                | refine ⟨fun h => ?_, fun h => ?_⟩
                | fail)
            · rw [decide_eq_false ha] at dx
              refine zs k_Mo_findOrder rfl ?_; conv => whnf
              repeat' (first
                | refine br_f (nI_pos (by omega)) ?_
                | refine br_f h88' ?_
                | refine c_Mo_leastAhead gi (p := j) (by omega) rfl hlj hl hAi ?_
                | refine bn_t ha ?_
                | refine ihj _ _ _ (by omega) (by exact i32_m1 _) dx.symm dy.symm
                | (refine zs k_Mo_findOrder rfl ?_; conv => whnf)
                | refine ⟨Nat.zero_lt_one, rfl, ?_⟩
                | refine ⟨rfl, ?_⟩
                | refine ⟨⟨Nat.zero_lt_one, rfl⟩, Nat.le_of_ble_eq_true rfl, ?_⟩
                | refine ⟨Nat.le_of_ble_eq_true rfl, Nat.le_of_ble_eq_true rfl, ?_⟩
                | refine ⟨(by first | exact Nat.zero_lt_one | assumption | omega), (by first | assumption | exact vp_in_nI (by omega) (by omega) | (unfold vp_in; decide)), ?_⟩
                | refine ⟨(by first | exact Nat.zero_lt_one | assumption | omega), rfl, ?_⟩
                | refine ⟨⟨(by first | exact Nat.zero_lt_one | assumption | omega), rfl⟩, Nat.le_of_ble_eq_true rfl, ?_⟩
                | refine ⟨(by first | exact Nat.zero_lt_one | assumption | omega), ?_⟩
                | refine ⟨Or.inl rfl, ?_⟩
                | refine ⟨Or.inr (Or.inl rfl), ?_⟩
                | refine ⟨Or.inr (Or.inr rfl), ?_⟩
                | refine ⟨Or.inr ⟨rfl, (by first | exact Or.inl rfl | exact Or.inr rfl | assumption)⟩, ?_⟩
                | refine ⟨fun h => absurd h (by decide), fun _ => ?_⟩
                | refine ⟨fun _ => ?_, fun h => absurd h (by decide)⟩
                | refine ⟨fun h => ?_, fun h => ?_⟩
                | fail)
      have hd0 : ∀ P : Nat → Bool, (-1 : Int32) = dF P n (n - n) := fun P => by rw [Nat.sub_self]; rfl
      refine zs k_Mo_findOrder rfl ?_; conv => whnf
      repeat' (first
        | refine br_f hlt ?_
        | refine L1 n _ _ _ (Nat.le_refl n) (by rw [hn1]) (hd0 _) (hd0 _)
        | (refine zs k_Mo_findOrder rfl ?_; conv => whnf)
        | refine ⟨Nat.zero_lt_one, rfl, ?_⟩
        | refine ⟨rfl, ?_⟩
        | refine ⟨⟨Nat.zero_lt_one, rfl⟩, Nat.le_of_ble_eq_true rfl, ?_⟩
        | refine ⟨Nat.le_of_ble_eq_true rfl, Nat.le_of_ble_eq_true rfl, ?_⟩
        | refine ⟨(by first | exact Nat.zero_lt_one | assumption | omega), (by first | assumption | exact vp_in_nI (by omega) (by omega) | (unfold vp_in; decide)), ?_⟩
        | refine ⟨(by first | exact Nat.zero_lt_one | assumption | omega), rfl, ?_⟩
        | refine ⟨⟨(by first | exact Nat.zero_lt_one | assumption | omega), rfl⟩, Nat.le_of_ble_eq_true rfl, ?_⟩
        | refine ⟨(by first | exact Nat.zero_lt_one | assumption | omega), ?_⟩
        | refine ⟨Or.inl rfl, ?_⟩
        | refine ⟨Or.inr (Or.inl rfl), ?_⟩
        | refine ⟨Or.inr (Or.inr rfl), ?_⟩
        | refine ⟨Or.inr ⟨rfl, (by first | exact Or.inl rfl | exact Or.inr rfl | assumption)⟩, ?_⟩
        | refine ⟨fun h => absurd h (by decide), fun _ => ?_⟩
        | refine ⟨fun _ => ?_, fun h => absurd h (by decide)⟩
        | refine ⟨fun h => ?_, fun h => ?_⟩
        | fail)
  -- who is left
  have L0 : ∀ (k i : Nat) (f v : Int32) (μ1 : zMu), i + k = n → v = nI i → f = cPres μ i → zScr μ μ1 → μ1 48 0 37 = 0 → μ1 48 0 40 = 0 → (∀ p, p < i → μ1 88 0 p = if lf0 p then 1 else 0) → zG S (d + 9) m_Mo_findOrder K 15 [some (zR 48 0), some (zI o), some (zI day), some (zI f), some (zI v), none, none] [] μ1 := by
    intro k
    induction k with
    | zero =>
      intro i f v μ1 hi hv hf hs h37 h40 hl
      subst hv
      obtain rfl : i = n := by omega
      rw [hct i (Nat.le_refl i), hm] at hf
      subst hf
      have hn1 : μ1 48 0 5 = nI i := (gQ_scr hs g).2.1.2.1
      refine zs k_Mo_findOrder rfl ?_; conv => whnf
      repeat' (first
        | refine L3 m 0 _ _ _ _ (by omega) hs hl ⟨h37, fun k hk => absurd hk (by omega), 0, fun _ => 0, rfl, by omega, h40, fun k hk => absurd hk (by omega)⟩
        | (refine zs k_Mo_findOrder rfl ?_; conv => whnf)
        | refine br_t (by simp (disch := omega) only [hn1, nI_leI, nI_ltI, nI_eq]; omega) ?_
        | refine br_f (by simp (disch := omega) only [hn1, nI_leI, nI_ltI, nI_eq]; omega) ?_
        | refine ⟨Nat.zero_lt_one, rfl, ?_⟩
        | refine ⟨rfl, ?_⟩
        | refine ⟨⟨Nat.zero_lt_one, rfl⟩, Nat.le_of_ble_eq_true rfl, ?_⟩
        | refine ⟨Nat.le_of_ble_eq_true rfl, Nat.le_of_ble_eq_true rfl, ?_⟩
        | refine ⟨(by first | exact Nat.zero_lt_one | assumption | omega), (by first | assumption | exact vp_in_nI (by omega) (by omega) | (unfold vp_in; decide)), ?_⟩
        | refine ⟨(by first | exact Nat.zero_lt_one | assumption | omega), rfl, ?_⟩
        | refine ⟨⟨(by first | exact Nat.zero_lt_one | assumption | omega), rfl⟩, Nat.le_of_ble_eq_true rfl, ?_⟩
        | refine ⟨(by first | exact Nat.zero_lt_one | assumption | omega), ?_⟩
        | refine ⟨Or.inl rfl, ?_⟩
        | refine ⟨Or.inr (Or.inl rfl), ?_⟩
        | refine ⟨Or.inr (Or.inr rfl), ?_⟩
        | refine ⟨Or.inr ⟨rfl, (by first | exact Or.inl rfl | exact Or.inr rfl | assumption)⟩, ?_⟩
        | refine ⟨fun h => absurd h (by decide), fun _ => ?_⟩
        | refine ⟨fun _ => ?_, fun h => absurd h (by decide)⟩
        | refine ⟨fun h => ?_, fun h => ?_⟩
        | fail)
    | succ k ih =>
      intro i f v μ1 hi hv hf hs h37 h40 hl
      subst hv
      have hn1 : μ1 48 0 5 = nI n := (gQ_scr hs g).2.1.2.1
      have ci : (nI i).toNatClampNeg = i := nI_clamp (by omega)
      have h62 : μ1 62 0 (nI i).toNatClampNeg = μ 10 0 i := by
        rw [ci, zScr_in hs (l := [62]) rfl 62 (by simp)]
        exact (g.2.1.2.2.2 i (by omega)).1
      have hpres : cPres μ (i + 1) = f + μ 10 0 i := by rw [hf]; rfl
      obtain ⟨he0, he1⟩ := hlfe i (by omega)
      have nxt : ∀ v : Int32, v = μ 10 0 i → ∀ p, p < i + 1 → zu μ1 88 0 (nI i).toNatClampNeg (vp_nar .boolean v) 88 0 p = if lf0 p then 1 else 0 := fun v hv p hp => by
        rw [ci]
        by_cases e : p = i
        · rw [e, zu_eq, hv]
          rcases hpr i (by omega) with q | q
          · rw [q, he0 q]
            rfl
          · rw [q, he1 q]
            rfl
        · rw [zu_ne (by omega)]
          exact hl p (by omega)
      rcases hpr i (by omega) with q | q
      · have h62' : μ1 62 0 (nI i).toNatClampNeg = 0 := h62.trans q
        rw [q] at hpres
        refine zs k_Mo_findOrder rfl ?_; conv => whnf
        repeat' (first
          | refine br_t h62' ?_
          | refine ih (i + 1) _ _ _ (by omega) (by exact nI_1 i) hpres.symm (zScr_tr hs (zScr_zu (by decide))) h37 h40 (nxt _ h62)
          | (refine zs k_Mo_findOrder rfl ?_; conv => whnf)
          | refine br_t (by simp (disch := omega) only [hn1, nI_leI, nI_ltI, nI_eq]; omega) ?_
          | refine br_f (by simp (disch := omega) only [hn1, nI_leI, nI_ltI, nI_eq]; omega) ?_
          | refine ⟨Nat.zero_lt_one, rfl, ?_⟩
          | refine ⟨rfl, ?_⟩
          | refine ⟨⟨Nat.zero_lt_one, rfl⟩, Nat.le_of_ble_eq_true rfl, ?_⟩
          | refine ⟨Nat.le_of_ble_eq_true rfl, Nat.le_of_ble_eq_true rfl, ?_⟩
          | refine ⟨(by first | exact Nat.zero_lt_one | assumption | omega), (by first | assumption | exact vp_in_nI (by omega) (by omega) | (unfold vp_in; decide)), ?_⟩
          | refine ⟨(by first | exact Nat.zero_lt_one | assumption | omega), rfl, ?_⟩
          | refine ⟨⟨(by first | exact Nat.zero_lt_one | assumption | omega), rfl⟩, Nat.le_of_ble_eq_true rfl, ?_⟩
          | refine ⟨(by first | exact Nat.zero_lt_one | assumption | omega), ?_⟩
          | refine ⟨Or.inl rfl, ?_⟩
          | refine ⟨Or.inr (Or.inl rfl), ?_⟩
          | refine ⟨Or.inr (Or.inr rfl), ?_⟩
          | refine ⟨Or.inr ⟨rfl, (by first | exact Or.inl rfl | exact Or.inr rfl | assumption)⟩, ?_⟩
          | refine ⟨fun h => absurd h (by decide), fun _ => ?_⟩
          | refine ⟨fun _ => ?_, fun h => absurd h (by decide)⟩
          | refine ⟨fun h => ?_, fun h => ?_⟩
          | fail)
      · have h62' : ¬ μ1 62 0 (nI i).toNatClampNeg = 0 := by rw [h62, q]; decide
        rw [q] at hpres
        refine zs k_Mo_findOrder rfl ?_; conv => whnf
        repeat' (first
          | refine br_f h62' ?_
          | refine ih (i + 1) _ _ _ (by omega) (by exact nI_1 i) hpres.symm (zScr_tr hs (zScr_zu (by decide))) h37 h40 (nxt _ h62)
          | (refine zs k_Mo_findOrder rfl ?_; conv => whnf)
          | refine br_t (by simp (disch := omega) only [hn1, nI_leI, nI_ltI, nI_eq]; omega) ?_
          | refine br_f (by simp (disch := omega) only [hn1, nI_leI, nI_ltI, nI_eq]; omega) ?_
          | refine ⟨Nat.zero_lt_one, rfl, ?_⟩
          | refine ⟨rfl, ?_⟩
          | refine ⟨⟨Nat.zero_lt_one, rfl⟩, Nat.le_of_ble_eq_true rfl, ?_⟩
          | refine ⟨Nat.le_of_ble_eq_true rfl, Nat.le_of_ble_eq_true rfl, ?_⟩
          | refine ⟨(by first | exact Nat.zero_lt_one | assumption | omega), (by first | assumption | exact vp_in_nI (by omega) (by omega) | (unfold vp_in; decide)), ?_⟩
          | refine ⟨(by first | exact Nat.zero_lt_one | assumption | omega), rfl, ?_⟩
          | refine ⟨⟨(by first | exact Nat.zero_lt_one | assumption | omega), rfl⟩, Nat.le_of_ble_eq_true rfl, ?_⟩
          | refine ⟨(by first | exact Nat.zero_lt_one | assumption | omega), ?_⟩
          | refine ⟨Or.inl rfl, ?_⟩
          | refine ⟨Or.inr (Or.inl rfl), ?_⟩
          | refine ⟨Or.inr (Or.inr rfl), ?_⟩
          | refine ⟨Or.inr ⟨rfl, (by first | exact Or.inl rfl | exact Or.inr rfl | assumption)⟩, ?_⟩
          | refine ⟨fun h => absurd h (by decide), fun _ => ?_⟩
          | refine ⟨fun _ => ?_, fun h => absurd h (by decide)⟩
          | refine ⟨fun h => ?_, fun h => ?_⟩
          | fail)
  repeat' (first
    | refine L0 n 0 _ _ _ (by omega) rfl rfl (zScr_tr (zScr_48 (by decide)) (zScr_48 (by decide))) rfl rfl (fun p hp => absurd hp (by omega))
    | (refine zs k_Mo_findOrder rfl ?_; conv => whnf)
    | refine ⟨Nat.zero_lt_one, rfl, ?_⟩
    | refine ⟨rfl, ?_⟩
    | refine ⟨⟨Nat.zero_lt_one, rfl⟩, Nat.le_of_ble_eq_true rfl, ?_⟩
    | refine ⟨Nat.le_of_ble_eq_true rfl, Nat.le_of_ble_eq_true rfl, ?_⟩
    | refine ⟨(by first | exact Nat.zero_lt_one | assumption | omega), (by first | assumption | exact vp_in_nI (by omega) (by omega) | (unfold vp_in; decide)), ?_⟩
    | refine ⟨(by first | exact Nat.zero_lt_one | assumption | omega), rfl, ?_⟩
    | refine ⟨⟨(by first | exact Nat.zero_lt_one | assumption | omega), rfl⟩, Nat.le_of_ble_eq_true rfl, ?_⟩
    | refine ⟨(by first | exact Nat.zero_lt_one | assumption | omega), ?_⟩
    | refine ⟨Or.inl rfl, ?_⟩
    | refine ⟨Or.inr (Or.inl rfl), ?_⟩
    | refine ⟨Or.inr (Or.inr rfl), ?_⟩
    | refine ⟨Or.inr ⟨rfl, (by first | exact Or.inl rfl | exact Or.inr rfl | assumption)⟩, ?_⟩
    | refine ⟨fun h => absurd h (by decide), fun _ => ?_⟩
    | refine ⟨fun _ => ?_, fun h => absurd h (by decide)⟩
    | refine ⟨fun h => ?_, fun h => ?_⟩
    | fail)
/-! DESK: order, ring -/
theorem oN_df {A : Nat → Nat → Bool} {n : Nat} {lf0 : Nat → Bool} (h20 : n ≤ 20) : ∀ k, k < pCt lf0 n → oN A n lf0 k < n ∧ lf0 (oN A n lf0 k) = true ∧ oLf A n lf0 k (oN A n lf0 k) = true := fun k hk => by
  have hct := oLf_ct (A := A) (lf0 := lf0) h20 k (by omega)
  have hne := pCt_pos (lf := oLf A n lf0 k) (n := n) (by omega)
  obtain ⟨h1, h2, -⟩ := oNx_in (A := A) h20 hne
  exact ⟨h1, oLf_sub k _ h2, h2⟩
theorem oRk_one {A : Nat → Nat → Bool} {n : Nat} {lf0 : Nat → Bool} : ∀ {k len len' : Nat} {fn fn' : Nat → Nat}, oRk A n lf0 k len fn → oRk A n lf0 k len' fn' → len = len' ∧ ∀ i, i < len → fn i = fn' i
  | 0, len, len', fn, fn', h, h' => by
    have e : len = 0 := h
    have e' : len' = 0 := h'
    exact ⟨by omega, fun i hi => absurd hi (by omega)⟩
  | k + 1, len, len', fn, fn', h, h' => by
    obtain ⟨l0, f0, r0, c⟩ := h
    obtain ⟨l1, f1, r1, c'⟩ := h'
    obtain ⟨e1, e2⟩ := oRk_one r0 r1
    subst e1
    rcases c with ⟨c1, rfl, rfl⟩ | ⟨c1, T, s, t1, rfl, rfl⟩
    · rcases c' with ⟨d1, rfl, rfl⟩ | ⟨d1, T, s, t1, rfl, rfl⟩
      · exact ⟨rfl, e2⟩
      · exact absurd d1 c1
    · rcases c' with ⟨d1, rfl, rfl⟩ | ⟨d1, T', s', t1', rfl, rfl⟩
      · exact absurd c1 d1
      · obtain ⟨rfl, rfl⟩ := pRg_one t1 t1'
        exact ⟨rfl, fun _ _ => rfl⟩
theorem zFr7_scr {μ μ' : zMu} (h : zFr7 μ μ') : zScr μ μ' := by
  refine ⟨fun f hf => h f (fun q => hf ?_), by rw [h 2 (by decide)], fun k _ => by rw [h 48 (by decide)]⟩
  simp only [List.mem_cons, List.not_mem_nil, or_false] at q ⊢
  omega
abbrev okO (o day : Int32) : Prop := (0 ≤ o ∧ o ≤ 9) ∧ 0 ≤ day
theorem c_De_order {d ns n nr nh : Nat} {μ : zMu} {o day i : Int32} {K : Option zV → zMu → Prop} (g : gQ μ ns n nr nh) (h0 : ¬ okO o day → K (some (zI (-1))) μ)
    (h1 : okO o day → ∀ μ', zFr7 μ μ' → ¬ okI (pCt (cLf0 μ n) n) i → K (some (zI (-1))) μ')
    (h2 : okO o day → ∀ μ' k, zFr7 μ μ' → k < pCt (cLf0 μ n) n → i = nI k → K (some (zI (nI (oN (cAd μ o day nr nh n) n (cLf0 μ n) k)))) μ') : Ct (d + 6) m_De_order [zR 0 0, zI o, zI day, zI i] μ K := by
  refine zmeet rfl (Nat.le_of_ble_eq_true rfl) (fun S => ?_)
  obtain ⟨g1, g2, g4, g5⟩ := g
  have h20 := g2.2.2.1
  have hm := pCt_le (cLf0 μ n) n
  by_cases ho : okO o day
  case neg =>
    have hk := h0 ho
    repeat' (first
      | refine c_De_isOccasion (fun q => absurd q ho) (fun _ => ?_)
      | exact hk
      | (refine zs k_De_order rfl ?_; conv => whnf)
      | refine ⟨Nat.zero_lt_one, rfl, ?_⟩
      | refine ⟨rfl, ?_⟩
      | refine ⟨⟨Nat.zero_lt_one, rfl⟩, Nat.le_of_ble_eq_true rfl, ?_⟩
      | refine ⟨Nat.le_of_ble_eq_true rfl, Nat.le_of_ble_eq_true rfl, ?_⟩
      | refine ⟨(by first | exact Nat.zero_lt_one | assumption | omega), (by first | assumption | exact vp_in_nI (by omega) (by omega) | (unfold vp_in; decide)), ?_⟩
      | refine ⟨(by first | exact Nat.zero_lt_one | assumption | omega), rfl, ?_⟩
      | refine ⟨⟨(by first | exact Nat.zero_lt_one | assumption | omega), rfl⟩, Nat.le_of_ble_eq_true rfl, ?_⟩
      | refine ⟨(by first | exact Nat.zero_lt_one | assumption | omega), ?_⟩
      | refine ⟨Or.inl rfl, ?_⟩
      | refine ⟨Or.inr (Or.inl rfl), ?_⟩
      | refine ⟨Or.inr (Or.inr rfl), ?_⟩
      | refine ⟨Or.inr ⟨rfl, (by first | exact Or.inl rfl | exact Or.inr rfl | assumption)⟩, ?_⟩
      | refine ⟨fun h => absurd h (by decide), fun _ => ?_⟩
      | refine ⟨fun _ => ?_, fun h => absurd h (by decide)⟩
      | refine ⟨fun h => ?_, fun h => ?_⟩
      | fail)
  have T : ∀ μ' : zMu, zFr7 μ μ' → cOrd μ μ' (cAd μ o day nr nh n) n (cLf0 μ n) (pCt (cLf0 μ n) n) → zG S (d + 6) m_De_order K 19 [some (zR 0 0), some (zI o), some (zI day), some (zI i)] [] μ' := by
    intro μ' hf hc
    rcases zIx i (n := pCt (cLf0 μ n) n) (by omega) with ⟨k, hk, rfl⟩ | q
    · have hk2 := h2 ho μ' k hf hk rfl
      have ck : (nI k).toNatClampNeg = k := nI_clamp (by omega)
      have hlt : ¬ μ' 4 0 0 ≤ nI k := by rw [hc.1]; exact nI_ge hk (by omega)
      have hvk : vp_in (nI k) 20 := vp_in_nI (by omega) (by omega)
      refine zs k_De_order rfl ?_; conv => whnf
      repeat' (first
        | refine br_f (nI_pos (by omega)) ?_
        | refine br_f hlt ?_
        | exact zKe hk2 (by rw [ck]; exact hc.2.1 k hk) rfl
        | (refine zs k_De_order rfl ?_; conv => whnf)
        | refine ⟨Nat.zero_lt_one, rfl, ?_⟩
        | refine ⟨rfl, ?_⟩
        | refine ⟨⟨Nat.zero_lt_one, rfl⟩, Nat.le_of_ble_eq_true rfl, ?_⟩
        | refine ⟨Nat.le_of_ble_eq_true rfl, Nat.le_of_ble_eq_true rfl, ?_⟩
        | refine ⟨(by first | exact Nat.zero_lt_one | assumption | omega), (by first | assumption | exact vp_in_nI (by omega) (by omega) | (unfold vp_in; decide)), ?_⟩
        | refine ⟨(by first | exact Nat.zero_lt_one | assumption | omega), rfl, ?_⟩
        | refine ⟨⟨(by first | exact Nat.zero_lt_one | assumption | omega), rfl⟩, Nat.le_of_ble_eq_true rfl, ?_⟩
        | refine ⟨(by first | exact Nat.zero_lt_one | assumption | omega), ?_⟩
        | refine ⟨Or.inl rfl, ?_⟩
        | refine ⟨Or.inr (Or.inl rfl), ?_⟩
        | refine ⟨Or.inr (Or.inr rfl), ?_⟩
        | refine ⟨Or.inr ⟨rfl, (by first | exact Or.inl rfl | exact Or.inr rfl | assumption)⟩, ?_⟩
        | refine ⟨fun h => absurd h (by decide), fun _ => ?_⟩
        | refine ⟨fun _ => ?_, fun h => absurd h (by decide)⟩
        | refine ⟨fun h => ?_, fun h => ?_⟩
        | fail)
    · have hk2 := h1 ho μ' hf q
      rw [← hc.1] at q
      by_cases i0 : i < 0
      · skip
        refine zs k_De_order rfl ?_; conv => whnf
        repeat' (first
          | refine br_t i0 ?_
          | exact hk2
          | (refine zs k_De_order rfl ?_; conv => whnf)
          | refine ⟨Nat.zero_lt_one, rfl, ?_⟩
          | refine ⟨rfl, ?_⟩
          | refine ⟨⟨Nat.zero_lt_one, rfl⟩, Nat.le_of_ble_eq_true rfl, ?_⟩
          | refine ⟨Nat.le_of_ble_eq_true rfl, Nat.le_of_ble_eq_true rfl, ?_⟩
          | refine ⟨(by first | exact Nat.zero_lt_one | assumption | omega), (by first | assumption | exact vp_in_nI (by omega) (by omega) | (unfold vp_in; decide)), ?_⟩
          | refine ⟨(by first | exact Nat.zero_lt_one | assumption | omega), rfl, ?_⟩
          | refine ⟨⟨(by first | exact Nat.zero_lt_one | assumption | omega), rfl⟩, Nat.le_of_ble_eq_true rfl, ?_⟩
          | refine ⟨(by first | exact Nat.zero_lt_one | assumption | omega), ?_⟩
          | refine ⟨Or.inl rfl, ?_⟩
          | refine ⟨Or.inr (Or.inl rfl), ?_⟩
          | refine ⟨Or.inr (Or.inr rfl), ?_⟩
          | refine ⟨Or.inr ⟨rfl, (by first | exact Or.inl rfl | exact Or.inr rfl | assumption)⟩, ?_⟩
          | refine ⟨fun h => absurd h (by decide), fun _ => ?_⟩
          | refine ⟨fun _ => ?_, fun h => absurd h (by decide)⟩
          | refine ⟨fun h => ?_, fun h => ?_⟩
          | fail)
      · have i1 : μ' 4 0 0 ≤ i := by grind
        refine zs k_De_order rfl ?_; conv => whnf
        repeat' (first
          | refine br_f i0 ?_
          | refine br_t i1 ?_
          | exact hk2
          | (refine zs k_De_order rfl ?_; conv => whnf)
          | refine ⟨Nat.zero_lt_one, rfl, ?_⟩
          | refine ⟨rfl, ?_⟩
          | refine ⟨⟨Nat.zero_lt_one, rfl⟩, Nat.le_of_ble_eq_true rfl, ?_⟩
          | refine ⟨Nat.le_of_ble_eq_true rfl, Nat.le_of_ble_eq_true rfl, ?_⟩
          | refine ⟨(by first | exact Nat.zero_lt_one | assumption | omega), (by first | assumption | exact vp_in_nI (by omega) (by omega) | (unfold vp_in; decide)), ?_⟩
          | refine ⟨(by first | exact Nat.zero_lt_one | assumption | omega), rfl, ?_⟩
          | refine ⟨⟨(by first | exact Nat.zero_lt_one | assumption | omega), rfl⟩, Nat.le_of_ble_eq_true rfl, ?_⟩
          | refine ⟨(by first | exact Nat.zero_lt_one | assumption | omega), ?_⟩
          | refine ⟨Or.inl rfl, ?_⟩
          | refine ⟨Or.inr (Or.inl rfl), ?_⟩
          | refine ⟨Or.inr (Or.inr rfl), ?_⟩
          | refine ⟨Or.inr ⟨rfl, (by first | exact Or.inl rfl | exact Or.inr rfl | assumption)⟩, ?_⟩
          | refine ⟨fun h => absurd h (by decide), fun _ => ?_⟩
          | refine ⟨fun _ => ?_, fun h => absurd h (by decide)⟩
          | refine ⟨fun h => ?_, fun h => ?_⟩
          | fail)
  repeat' (first
    | refine c_De_isOccasion (fun _ => ?_) (fun q => absurd ho q)
    | refine c_Pr_form g2.1 h20 g4.1 g4.2.2.1 g5.1 g5.2.2.1 (gRu_ok g4) (fun p hp => (g2.2.2.2 p hp).2.1) (fun μ' hf hc => ?_)
    | exact T _ hf hc
    | (refine zs k_De_order rfl ?_; conv => whnf)
    | refine ⟨Nat.zero_lt_one, rfl, ?_⟩
    | refine ⟨rfl, ?_⟩
    | refine ⟨⟨Nat.zero_lt_one, rfl⟩, Nat.le_of_ble_eq_true rfl, ?_⟩
    | refine ⟨Nat.le_of_ble_eq_true rfl, Nat.le_of_ble_eq_true rfl, ?_⟩
    | refine ⟨(by first | exact Nat.zero_lt_one | assumption | omega), (by first | assumption | exact vp_in_nI (by omega) (by omega) | (unfold vp_in; decide)), ?_⟩
    | refine ⟨(by first | exact Nat.zero_lt_one | assumption | omega), rfl, ?_⟩
    | refine ⟨⟨(by first | exact Nat.zero_lt_one | assumption | omega), rfl⟩, Nat.le_of_ble_eq_true rfl, ?_⟩
    | refine ⟨(by first | exact Nat.zero_lt_one | assumption | omega), ?_⟩
    | refine ⟨Or.inl rfl, ?_⟩
    | refine ⟨Or.inr (Or.inl rfl), ?_⟩
    | refine ⟨Or.inr (Or.inr rfl), ?_⟩
    | refine ⟨Or.inr ⟨rfl, (by first | exact Or.inl rfl | exact Or.inr rfl | assumption)⟩, ?_⟩
    | refine ⟨fun h => absurd h (by decide), fun _ => ?_⟩
    | refine ⟨fun _ => ?_, fun h => absurd h (by decide)⟩
    | refine ⟨fun h => ?_, fun h => ?_⟩
    | fail)
theorem c_Mo_order {d ns n nr nh : Nat} {μ : zMu} {o day i : Int32} {K : Option zV → zMu → Prop} (g : gQ μ ns n nr nh) (h0 : ¬ okO o day → K (some (zI (-1))) μ)
    (h1 : okO o day → ∀ μ', zScr μ μ' → ¬ okI (pCt (cLf0 μ n) n) i → K (some (zI (-1))) μ')
    (h2 : okO o day → ∀ μ' k, zScr μ μ' → k < pCt (cLf0 μ n) n → i = nI k → K (some (zI (nI (oN (cAd μ o day nr nh n) n (cLf0 μ n) k)))) μ') : Ct (d + 10) m_Mo_order [zR 48 0, zI o, zI day, zI i] μ K := by
  refine zmeet rfl (Nat.le_of_ble_eq_true rfl) (fun S => ?_)
  have h20 := g.2.1.2.2.1
  have hm := pCt_le (cLf0 μ n) n
  by_cases ho : okO o day
  case neg =>
    have hk := h0 ho
    repeat' (first
      | refine c_Mo_isOccasion (fun q => absurd q ho) (fun _ => ?_)
      | exact hk
      | (refine zs k_Mo_order rfl ?_; conv => whnf)
      | refine ⟨Nat.zero_lt_one, rfl, ?_⟩
      | refine ⟨rfl, ?_⟩
      | refine ⟨⟨Nat.zero_lt_one, rfl⟩, Nat.le_of_ble_eq_true rfl, ?_⟩
      | refine ⟨Nat.le_of_ble_eq_true rfl, Nat.le_of_ble_eq_true rfl, ?_⟩
      | refine ⟨(by first | exact Nat.zero_lt_one | assumption | omega), (by first | assumption | exact vp_in_nI (by omega) (by omega) | (unfold vp_in; decide)), ?_⟩
      | refine ⟨(by first | exact Nat.zero_lt_one | assumption | omega), rfl, ?_⟩
      | refine ⟨⟨(by first | exact Nat.zero_lt_one | assumption | omega), rfl⟩, Nat.le_of_ble_eq_true rfl, ?_⟩
      | refine ⟨(by first | exact Nat.zero_lt_one | assumption | omega), ?_⟩
      | refine ⟨Or.inl rfl, ?_⟩
      | refine ⟨Or.inr (Or.inl rfl), ?_⟩
      | refine ⟨Or.inr (Or.inr rfl), ?_⟩
      | refine ⟨Or.inr ⟨rfl, (by first | exact Or.inl rfl | exact Or.inr rfl | assumption)⟩, ?_⟩
      | refine ⟨fun h => absurd h (by decide), fun _ => ?_⟩
      | refine ⟨fun _ => ?_, fun h => absurd h (by decide)⟩
      | refine ⟨fun h => ?_, fun h => ?_⟩
      | fail)
  have T : ∀ μ' : zMu, zScr μ μ' → mOrd μ' (cAd μ o day nr nh n) n (cLf0 μ n) (pCt (cLf0 μ n) n) → zG S (d + 10) m_Mo_order K 16 [some (zR 48 0), some (zI o), some (zI day), some (zI i)] [] μ' := by
    intro μ' hf hc
    rcases zIx i (n := pCt (cLf0 μ n) n) (by omega) with ⟨k, hk, rfl⟩ | q
    · have hk2 := h2 ho μ' k hf hk rfl
      have ck : (nI k).toNatClampNeg = k := nI_clamp (by omega)
      have hlt : nI k < μ' 48 0 37 := by rw [hc.1]; exact nI_lt hk (by omega)
      have hvk : vp_in (nI k) 20 := vp_in_nI (by omega) (by omega)
      refine zs k_Mo_order rfl ?_; conv => whnf
      repeat' (first
        | refine br_f (nI_pos (by omega)) ?_
        | refine br_t hlt ?_
        | exact zKe hk2 (by rw [ck]; exact hc.2.1 k hk) rfl
        | (refine zs k_Mo_order rfl ?_; conv => whnf)
        | refine ⟨Nat.zero_lt_one, rfl, ?_⟩
        | refine ⟨rfl, ?_⟩
        | refine ⟨⟨Nat.zero_lt_one, rfl⟩, Nat.le_of_ble_eq_true rfl, ?_⟩
        | refine ⟨Nat.le_of_ble_eq_true rfl, Nat.le_of_ble_eq_true rfl, ?_⟩
        | refine ⟨(by first | exact Nat.zero_lt_one | assumption | omega), (by first | assumption | exact vp_in_nI (by omega) (by omega) | (unfold vp_in; decide)), ?_⟩
        | refine ⟨(by first | exact Nat.zero_lt_one | assumption | omega), rfl, ?_⟩
        | refine ⟨⟨(by first | exact Nat.zero_lt_one | assumption | omega), rfl⟩, Nat.le_of_ble_eq_true rfl, ?_⟩
        | refine ⟨(by first | exact Nat.zero_lt_one | assumption | omega), ?_⟩
        | refine ⟨Or.inl rfl, ?_⟩
        | refine ⟨Or.inr (Or.inl rfl), ?_⟩
        | refine ⟨Or.inr (Or.inr rfl), ?_⟩
        | refine ⟨Or.inr ⟨rfl, (by first | exact Or.inl rfl | exact Or.inr rfl | assumption)⟩, ?_⟩
        | refine ⟨fun h => absurd h (by decide), fun _ => ?_⟩
        | refine ⟨fun _ => ?_, fun h => absurd h (by decide)⟩
        | refine ⟨fun h => ?_, fun h => ?_⟩
        | fail)
    · have hk2 := h1 ho μ' hf q
      rw [← hc.1] at q
      by_cases i0 : i < 0
      · skip
        refine zs k_Mo_order rfl ?_; conv => whnf
        repeat' (first
          | refine br_t i0 ?_
          | exact hk2
          | (refine zs k_Mo_order rfl ?_; conv => whnf)
          | refine ⟨Nat.zero_lt_one, rfl, ?_⟩
          | refine ⟨rfl, ?_⟩
          | refine ⟨⟨Nat.zero_lt_one, rfl⟩, Nat.le_of_ble_eq_true rfl, ?_⟩
          | refine ⟨Nat.le_of_ble_eq_true rfl, Nat.le_of_ble_eq_true rfl, ?_⟩
          | refine ⟨(by first | exact Nat.zero_lt_one | assumption | omega), (by first | assumption | exact vp_in_nI (by omega) (by omega) | (unfold vp_in; decide)), ?_⟩
          | refine ⟨(by first | exact Nat.zero_lt_one | assumption | omega), rfl, ?_⟩
          | refine ⟨⟨(by first | exact Nat.zero_lt_one | assumption | omega), rfl⟩, Nat.le_of_ble_eq_true rfl, ?_⟩
          | refine ⟨(by first | exact Nat.zero_lt_one | assumption | omega), ?_⟩
          | refine ⟨Or.inl rfl, ?_⟩
          | refine ⟨Or.inr (Or.inl rfl), ?_⟩
          | refine ⟨Or.inr (Or.inr rfl), ?_⟩
          | refine ⟨Or.inr ⟨rfl, (by first | exact Or.inl rfl | exact Or.inr rfl | assumption)⟩, ?_⟩
          | refine ⟨fun h => absurd h (by decide), fun _ => ?_⟩
          | refine ⟨fun _ => ?_, fun h => absurd h (by decide)⟩
          | refine ⟨fun h => ?_, fun h => ?_⟩
          | fail)
      · have i1 : ¬ i < μ' 48 0 37 := by grind
        refine zs k_Mo_order rfl ?_; conv => whnf
        repeat' (first
          | refine br_f i0 ?_
          | refine br_f i1 ?_
          | exact hk2
          | (refine zs k_Mo_order rfl ?_; conv => whnf)
          | refine ⟨Nat.zero_lt_one, rfl, ?_⟩
          | refine ⟨rfl, ?_⟩
          | refine ⟨⟨Nat.zero_lt_one, rfl⟩, Nat.le_of_ble_eq_true rfl, ?_⟩
          | refine ⟨Nat.le_of_ble_eq_true rfl, Nat.le_of_ble_eq_true rfl, ?_⟩
          | refine ⟨(by first | exact Nat.zero_lt_one | assumption | omega), (by first | assumption | exact vp_in_nI (by omega) (by omega) | (unfold vp_in; decide)), ?_⟩
          | refine ⟨(by first | exact Nat.zero_lt_one | assumption | omega), rfl, ?_⟩
          | refine ⟨⟨(by first | exact Nat.zero_lt_one | assumption | omega), rfl⟩, Nat.le_of_ble_eq_true rfl, ?_⟩
          | refine ⟨(by first | exact Nat.zero_lt_one | assumption | omega), ?_⟩
          | refine ⟨Or.inl rfl, ?_⟩
          | refine ⟨Or.inr (Or.inl rfl), ?_⟩
          | refine ⟨Or.inr (Or.inr rfl), ?_⟩
          | refine ⟨Or.inr ⟨rfl, (by first | exact Or.inl rfl | exact Or.inr rfl | assumption)⟩, ?_⟩
          | refine ⟨fun h => absurd h (by decide), fun _ => ?_⟩
          | refine ⟨fun _ => ?_, fun h => absurd h (by decide)⟩
          | refine ⟨fun h => ?_, fun h => ?_⟩
          | fail)
  repeat' (first
    | refine c_Mo_isOccasion (fun _ => ?_) (fun q => absurd ho q)
    | refine c_Mo_findOrder g (fun μ' hf hc => ?_)
    | exact T _ hf hc
    | (refine zs k_Mo_order rfl ?_; conv => whnf)
    | refine ⟨Nat.zero_lt_one, rfl, ?_⟩
    | refine ⟨rfl, ?_⟩
    | refine ⟨⟨Nat.zero_lt_one, rfl⟩, Nat.le_of_ble_eq_true rfl, ?_⟩
    | refine ⟨Nat.le_of_ble_eq_true rfl, Nat.le_of_ble_eq_true rfl, ?_⟩
    | refine ⟨(by first | exact Nat.zero_lt_one | assumption | omega), (by first | assumption | exact vp_in_nI (by omega) (by omega) | (unfold vp_in; decide)), ?_⟩
    | refine ⟨(by first | exact Nat.zero_lt_one | assumption | omega), rfl, ?_⟩
    | refine ⟨⟨(by first | exact Nat.zero_lt_one | assumption | omega), rfl⟩, Nat.le_of_ble_eq_true rfl, ?_⟩
    | refine ⟨(by first | exact Nat.zero_lt_one | assumption | omega), ?_⟩
    | refine ⟨Or.inl rfl, ?_⟩
    | refine ⟨Or.inr (Or.inl rfl), ?_⟩
    | refine ⟨Or.inr (Or.inr rfl), ?_⟩
    | refine ⟨Or.inr ⟨rfl, (by first | exact Or.inl rfl | exact Or.inr rfl | assumption)⟩, ?_⟩
    | refine ⟨fun h => absurd h (by decide), fun _ => ?_⟩
    | refine ⟨fun _ => ?_, fun h => absurd h (by decide)⟩
    | refine ⟨fun h => ?_, fun h => ?_⟩
    | fail)
theorem zScr_ad {μ μ' : zMu} (h : zScr μ μ') (o day : Int32) (nr nh n : Nat) : cAd μ' o day nr nh n = cAd μ o day nr nh n ∧ cLf0 μ' n = cLf0 μ n := by
  have e : cLf0 μ' n = cLf0 μ n := by
    funext p
    unfold cLf0
    rw [zScr_in h (l := [10]) rfl 10 (by simp)]
  refine ⟨?_, e⟩
  funext q p
  unfold cAd cLdm
  rw [e, zLk_ldr (zScr_lk h)]
theorem b_order {μ : zMu} {o day i : Int32} (h : Rel μ) : Both m_De_order m_Mo_order [zI o, zI day, zI i] μ := by
  intro d K hK
  obtain ⟨ns, n, nr, nh, nt, nb, L, g1, g2, g3, g4, g5, g6, g7, g8, g9, g10, g11⟩ := id h
  have h20 := g2.2.2.1
  have hm := pCt_le (cLf0 μ n) n
  have g : gQ μ ns n nr nh := ⟨g1, g2, g4, g5⟩
  refine c_De_order g (fun a => hK _ _ (fun d K2 hK2 => ?_)) (fun a μ1 f1 q => hK _ _ (fun d K2 hK2 => ?_)) (fun a μ1 k f1 hk q => hK _ _ (fun d K2 hK2 => ?_))
  · exact c_Mo_order g (fun _ => hK2 _ h) (fun q => absurd q a) (fun q => absurd q a)
  · have s1 := zFr7_scr f1
    obtain ⟨e1, e2⟩ := zScr_ad s1 o day nr nh n
    refine c_Mo_order (gQ_scr s1 g) (fun b => absurd a b) (fun _ μ2 s2 _ => hK2 _ (Rel_scr (zScr_tr s1 s2) h)) (fun _ μ2 k s2 hk ek => ?_)
    rw [e2] at hk
    rw [ek] at q
    exact absurd (okI_i hk (by omega)) q
  · subst q
    have s1 := zFr7_scr f1
    obtain ⟨e1, e2⟩ := zScr_ad s1 o day nr nh n
    refine c_Mo_order (gQ_scr s1 g) (fun b => absurd a b) (fun _ μ2 s2 b => ?_) (fun _ μ2 k' s2 hk' ek => ?_)
    · rw [e2] at b
      exact absurd (okI_i hk (by omega)) b
    · rw [e2] at hk'
      obtain rfl := (nI_eq (by omega) (by omega)).mp ek
      refine zKe (hK2 _ (Rel_scr (zScr_tr s1 s2) h)) ?_ rfl
      rw [e1, e2]
theorem c_De_ring {d ns n nr nh : Nat} {μ : zMu} {o day i : Int32} {K : Option zV → zMu → Prop} (g : gQ μ ns n nr nh) (h0 : ¬ okO o day → K (some (zI (-1))) μ)
    (h1 : okO o day → ∀ μ' len fn, zFr7 μ μ' → oRk (cAd μ o day nr nh n) n (cLf0 μ n) (pCt (cLf0 μ n) n) len fn → len ≤ 20 → ¬ okI len i → K (some (zI (-1))) μ')
    (h2 : okO o day → ∀ μ' len fn k, zFr7 μ μ' → oRk (cAd μ o day nr nh n) n (cLf0 μ n) (pCt (cLf0 μ n) n) len fn → len ≤ 20 → k < len → i = nI k → K (some (zI (nI (fn k)))) μ') : Ct (d + 6) m_De_ring [zR 0 0, zI o, zI day, zI i] μ K := by
  refine zmeet rfl (Nat.le_of_ble_eq_true rfl) (fun S => ?_)
  obtain ⟨g1, g2, g4, g5⟩ := g
  have h20 := g2.2.2.1
  by_cases ho : okO o day
  case neg =>
    have hk := h0 ho
    repeat' (first
      | refine c_De_isOccasion (fun q => absurd q ho) (fun _ => ?_)
      | exact hk
      | (refine zs k_De_ring rfl ?_; conv => whnf)
      | refine ⟨Nat.zero_lt_one, rfl, ?_⟩
      | refine ⟨rfl, ?_⟩
      | refine ⟨⟨Nat.zero_lt_one, rfl⟩, Nat.le_of_ble_eq_true rfl, ?_⟩
      | refine ⟨Nat.le_of_ble_eq_true rfl, Nat.le_of_ble_eq_true rfl, ?_⟩
      | refine ⟨(by first | exact Nat.zero_lt_one | assumption | omega), (by first | assumption | exact vp_in_nI (by omega) (by omega) | (unfold vp_in; decide)), ?_⟩
      | refine ⟨(by first | exact Nat.zero_lt_one | assumption | omega), rfl, ?_⟩
      | refine ⟨⟨(by first | exact Nat.zero_lt_one | assumption | omega), rfl⟩, Nat.le_of_ble_eq_true rfl, ?_⟩
      | refine ⟨(by first | exact Nat.zero_lt_one | assumption | omega), ?_⟩
      | refine ⟨Or.inl rfl, ?_⟩
      | refine ⟨Or.inr (Or.inl rfl), ?_⟩
      | refine ⟨Or.inr (Or.inr rfl), ?_⟩
      | refine ⟨Or.inr ⟨rfl, (by first | exact Or.inl rfl | exact Or.inr rfl | assumption)⟩, ?_⟩
      | refine ⟨fun h => absurd h (by decide), fun _ => ?_⟩
      | refine ⟨fun _ => ?_, fun h => absurd h (by decide)⟩
      | refine ⟨fun h => ?_, fun h => ?_⟩
      | fail)
  have T : ∀ μ' : zMu, zFr7 μ μ' → cOrd μ μ' (cAd μ o day nr nh n) n (cLf0 μ n) (pCt (cLf0 μ n) n) → zG S (d + 6) m_De_ring K 19 [some (zR 0 0), some (zI o), some (zI day), some (zI i)] [] μ' := by
    intro μ' hf hc
    obtain ⟨-, -, len, fn, r1, r2, r3, r4⟩ := hc
    rcases zIx i (n := len) (by omega) with ⟨k, hk, rfl⟩ | q
    · have hk2 := h2 ho μ' len fn k hf r1 r2 hk rfl
      have ck : (nI k).toNatClampNeg = k := nI_clamp (by omega)
      have hlt : ¬ μ' 4 0 1 ≤ nI k := by rw [r3]; exact nI_ge hk (by omega)
      have hvk : vp_in (nI k) 20 := vp_in_nI (by omega) (by omega)
      refine zs k_De_ring rfl ?_; conv => whnf
      repeat' (first
        | refine br_f (nI_pos (by omega)) ?_
        | refine br_f hlt ?_
        | exact zKe hk2 (by rw [ck]; exact r4 k hk) rfl
        | (refine zs k_De_ring rfl ?_; conv => whnf)
        | refine ⟨Nat.zero_lt_one, rfl, ?_⟩
        | refine ⟨rfl, ?_⟩
        | refine ⟨⟨Nat.zero_lt_one, rfl⟩, Nat.le_of_ble_eq_true rfl, ?_⟩
        | refine ⟨Nat.le_of_ble_eq_true rfl, Nat.le_of_ble_eq_true rfl, ?_⟩
        | refine ⟨(by first | exact Nat.zero_lt_one | assumption | omega), (by first | assumption | exact vp_in_nI (by omega) (by omega) | (unfold vp_in; decide)), ?_⟩
        | refine ⟨(by first | exact Nat.zero_lt_one | assumption | omega), rfl, ?_⟩
        | refine ⟨⟨(by first | exact Nat.zero_lt_one | assumption | omega), rfl⟩, Nat.le_of_ble_eq_true rfl, ?_⟩
        | refine ⟨(by first | exact Nat.zero_lt_one | assumption | omega), ?_⟩
        | refine ⟨Or.inl rfl, ?_⟩
        | refine ⟨Or.inr (Or.inl rfl), ?_⟩
        | refine ⟨Or.inr (Or.inr rfl), ?_⟩
        | refine ⟨Or.inr ⟨rfl, (by first | exact Or.inl rfl | exact Or.inr rfl | assumption)⟩, ?_⟩
        | refine ⟨fun h => absurd h (by decide), fun _ => ?_⟩
        | refine ⟨fun _ => ?_, fun h => absurd h (by decide)⟩
        | refine ⟨fun h => ?_, fun h => ?_⟩
        | fail)
    · have hk2 := h1 ho μ' len fn hf r1 r2 q
      rw [← r3] at q
      by_cases i0 : i < 0
      · skip
        refine zs k_De_ring rfl ?_; conv => whnf
        repeat' (first
          | refine br_t i0 ?_
          | exact hk2
          | (refine zs k_De_ring rfl ?_; conv => whnf)
          | refine ⟨Nat.zero_lt_one, rfl, ?_⟩
          | refine ⟨rfl, ?_⟩
          | refine ⟨⟨Nat.zero_lt_one, rfl⟩, Nat.le_of_ble_eq_true rfl, ?_⟩
          | refine ⟨Nat.le_of_ble_eq_true rfl, Nat.le_of_ble_eq_true rfl, ?_⟩
          | refine ⟨(by first | exact Nat.zero_lt_one | assumption | omega), (by first | assumption | exact vp_in_nI (by omega) (by omega) | (unfold vp_in; decide)), ?_⟩
          | refine ⟨(by first | exact Nat.zero_lt_one | assumption | omega), rfl, ?_⟩
          | refine ⟨⟨(by first | exact Nat.zero_lt_one | assumption | omega), rfl⟩, Nat.le_of_ble_eq_true rfl, ?_⟩
          | refine ⟨(by first | exact Nat.zero_lt_one | assumption | omega), ?_⟩
          | refine ⟨Or.inl rfl, ?_⟩
          | refine ⟨Or.inr (Or.inl rfl), ?_⟩
          | refine ⟨Or.inr (Or.inr rfl), ?_⟩
          | refine ⟨Or.inr ⟨rfl, (by first | exact Or.inl rfl | exact Or.inr rfl | assumption)⟩, ?_⟩
          | refine ⟨fun h => absurd h (by decide), fun _ => ?_⟩
          | refine ⟨fun _ => ?_, fun h => absurd h (by decide)⟩
          | refine ⟨fun h => ?_, fun h => ?_⟩
          | fail)
      · have i1 : μ' 4 0 1 ≤ i := by grind
        refine zs k_De_ring rfl ?_; conv => whnf
        repeat' (first
          | refine br_f i0 ?_
          | refine br_t i1 ?_
          | exact hk2
          | (refine zs k_De_ring rfl ?_; conv => whnf)
          | refine ⟨Nat.zero_lt_one, rfl, ?_⟩
          | refine ⟨rfl, ?_⟩
          | refine ⟨⟨Nat.zero_lt_one, rfl⟩, Nat.le_of_ble_eq_true rfl, ?_⟩
          | refine ⟨Nat.le_of_ble_eq_true rfl, Nat.le_of_ble_eq_true rfl, ?_⟩
          | refine ⟨(by first | exact Nat.zero_lt_one | assumption | omega), (by first | assumption | exact vp_in_nI (by omega) (by omega) | (unfold vp_in; decide)), ?_⟩
          | refine ⟨(by first | exact Nat.zero_lt_one | assumption | omega), rfl, ?_⟩
          | refine ⟨⟨(by first | exact Nat.zero_lt_one | assumption | omega), rfl⟩, Nat.le_of_ble_eq_true rfl, ?_⟩
          | refine ⟨(by first | exact Nat.zero_lt_one | assumption | omega), ?_⟩
          | refine ⟨Or.inl rfl, ?_⟩
          | refine ⟨Or.inr (Or.inl rfl), ?_⟩
          | refine ⟨Or.inr (Or.inr rfl), ?_⟩
          | refine ⟨Or.inr ⟨rfl, (by first | exact Or.inl rfl | exact Or.inr rfl | assumption)⟩, ?_⟩
          | refine ⟨fun h => absurd h (by decide), fun _ => ?_⟩
          | refine ⟨fun _ => ?_, fun h => absurd h (by decide)⟩
          | refine ⟨fun h => ?_, fun h => ?_⟩
          | fail)
  repeat' (first
    | refine c_De_isOccasion (fun _ => ?_) (fun q => absurd ho q)
    | refine c_Pr_form g2.1 h20 g4.1 g4.2.2.1 g5.1 g5.2.2.1 (gRu_ok g4) (fun p hp => (g2.2.2.2 p hp).2.1) (fun μ' hf hc => ?_)
    | exact T _ hf hc
    | (refine zs k_De_ring rfl ?_; conv => whnf)
    | refine ⟨Nat.zero_lt_one, rfl, ?_⟩
    | refine ⟨rfl, ?_⟩
    | refine ⟨⟨Nat.zero_lt_one, rfl⟩, Nat.le_of_ble_eq_true rfl, ?_⟩
    | refine ⟨Nat.le_of_ble_eq_true rfl, Nat.le_of_ble_eq_true rfl, ?_⟩
    | refine ⟨(by first | exact Nat.zero_lt_one | assumption | omega), (by first | assumption | exact vp_in_nI (by omega) (by omega) | (unfold vp_in; decide)), ?_⟩
    | refine ⟨(by first | exact Nat.zero_lt_one | assumption | omega), rfl, ?_⟩
    | refine ⟨⟨(by first | exact Nat.zero_lt_one | assumption | omega), rfl⟩, Nat.le_of_ble_eq_true rfl, ?_⟩
    | refine ⟨(by first | exact Nat.zero_lt_one | assumption | omega), ?_⟩
    | refine ⟨Or.inl rfl, ?_⟩
    | refine ⟨Or.inr (Or.inl rfl), ?_⟩
    | refine ⟨Or.inr (Or.inr rfl), ?_⟩
    | refine ⟨Or.inr ⟨rfl, (by first | exact Or.inl rfl | exact Or.inr rfl | assumption)⟩, ?_⟩
    | refine ⟨fun h => absurd h (by decide), fun _ => ?_⟩
    | refine ⟨fun _ => ?_, fun h => absurd h (by decide)⟩
    | refine ⟨fun h => ?_, fun h => ?_⟩
    | fail)
theorem c_Mo_ring {d ns n nr nh : Nat} {μ : zMu} {o day i : Int32} {K : Option zV → zMu → Prop} (g : gQ μ ns n nr nh) (h0 : ¬ okO o day → K (some (zI (-1))) μ)
    (h1 : okO o day → ∀ μ' len fn, zScr μ μ' → oRk (cAd μ o day nr nh n) n (cLf0 μ n) (pCt (cLf0 μ n) n) len fn → len ≤ 20 → ¬ okI len i → K (some (zI (-1))) μ')
    (h2 : okO o day → ∀ μ' len fn k, zScr μ μ' → oRk (cAd μ o day nr nh n) n (cLf0 μ n) (pCt (cLf0 μ n) n) len fn → len ≤ 20 → k < len → i = nI k → K (some (zI (nI (fn k)))) μ') : Ct (d + 10) m_Mo_ring [zR 48 0, zI o, zI day, zI i] μ K := by
  refine zmeet rfl (Nat.le_of_ble_eq_true rfl) (fun S => ?_)
  have h20 := g.2.1.2.2.1
  by_cases ho : okO o day
  case neg =>
    have hk := h0 ho
    repeat' (first
      | refine c_Mo_isOccasion (fun q => absurd q ho) (fun _ => ?_)
      | exact hk
      | (refine zs k_Mo_ring rfl ?_; conv => whnf)
      | refine ⟨Nat.zero_lt_one, rfl, ?_⟩
      | refine ⟨rfl, ?_⟩
      | refine ⟨⟨Nat.zero_lt_one, rfl⟩, Nat.le_of_ble_eq_true rfl, ?_⟩
      | refine ⟨Nat.le_of_ble_eq_true rfl, Nat.le_of_ble_eq_true rfl, ?_⟩
      | refine ⟨(by first | exact Nat.zero_lt_one | assumption | omega), (by first | assumption | exact vp_in_nI (by omega) (by omega) | (unfold vp_in; decide)), ?_⟩
      | refine ⟨(by first | exact Nat.zero_lt_one | assumption | omega), rfl, ?_⟩
      | refine ⟨⟨(by first | exact Nat.zero_lt_one | assumption | omega), rfl⟩, Nat.le_of_ble_eq_true rfl, ?_⟩
      | refine ⟨(by first | exact Nat.zero_lt_one | assumption | omega), ?_⟩
      | refine ⟨Or.inl rfl, ?_⟩
      | refine ⟨Or.inr (Or.inl rfl), ?_⟩
      | refine ⟨Or.inr (Or.inr rfl), ?_⟩
      | refine ⟨Or.inr ⟨rfl, (by first | exact Or.inl rfl | exact Or.inr rfl | assumption)⟩, ?_⟩
      | refine ⟨fun h => absurd h (by decide), fun _ => ?_⟩
      | refine ⟨fun _ => ?_, fun h => absurd h (by decide)⟩
      | refine ⟨fun h => ?_, fun h => ?_⟩
      | fail)
  have T : ∀ μ' : zMu, zScr μ μ' → mOrd μ' (cAd μ o day nr nh n) n (cLf0 μ n) (pCt (cLf0 μ n) n) → zG S (d + 10) m_Mo_ring K 16 [some (zR 48 0), some (zI o), some (zI day), some (zI i)] [] μ' := by
    intro μ' hf hc
    obtain ⟨-, -, len, fn, r1, r2, r3, r4⟩ := hc
    rcases zIx i (n := len) (by omega) with ⟨k, hk, rfl⟩ | q
    · have hk2 := h2 ho μ' len fn k hf r1 r2 hk rfl
      have ck : (nI k).toNatClampNeg = k := nI_clamp (by omega)
      have hlt : nI k < μ' 48 0 40 := by rw [r3]; exact nI_lt hk (by omega)
      have hvk : vp_in (nI k) 20 := vp_in_nI (by omega) (by omega)
      refine zs k_Mo_ring rfl ?_; conv => whnf
      repeat' (first
        | refine br_f (nI_pos (by omega)) ?_
        | refine br_t hlt ?_
        | exact zKe hk2 (by rw [ck]; exact r4 k hk) rfl
        | (refine zs k_Mo_ring rfl ?_; conv => whnf)
        | refine ⟨Nat.zero_lt_one, rfl, ?_⟩
        | refine ⟨rfl, ?_⟩
        | refine ⟨⟨Nat.zero_lt_one, rfl⟩, Nat.le_of_ble_eq_true rfl, ?_⟩
        | refine ⟨Nat.le_of_ble_eq_true rfl, Nat.le_of_ble_eq_true rfl, ?_⟩
        | refine ⟨(by first | exact Nat.zero_lt_one | assumption | omega), (by first | assumption | exact vp_in_nI (by omega) (by omega) | (unfold vp_in; decide)), ?_⟩
        | refine ⟨(by first | exact Nat.zero_lt_one | assumption | omega), rfl, ?_⟩
        | refine ⟨⟨(by first | exact Nat.zero_lt_one | assumption | omega), rfl⟩, Nat.le_of_ble_eq_true rfl, ?_⟩
        | refine ⟨(by first | exact Nat.zero_lt_one | assumption | omega), ?_⟩
        | refine ⟨Or.inl rfl, ?_⟩
        | refine ⟨Or.inr (Or.inl rfl), ?_⟩
        | refine ⟨Or.inr (Or.inr rfl), ?_⟩
        | refine ⟨Or.inr ⟨rfl, (by first | exact Or.inl rfl | exact Or.inr rfl | assumption)⟩, ?_⟩
        | refine ⟨fun h => absurd h (by decide), fun _ => ?_⟩
        | refine ⟨fun _ => ?_, fun h => absurd h (by decide)⟩
        | refine ⟨fun h => ?_, fun h => ?_⟩
        | fail)
    · have hk2 := h1 ho μ' len fn hf r1 r2 q
      rw [← r3] at q
      by_cases i0 : i < 0
      · skip
        refine zs k_Mo_ring rfl ?_; conv => whnf
        repeat' (first
          | refine br_t i0 ?_
          | exact hk2
          | (refine zs k_Mo_ring rfl ?_; conv => whnf)
          | refine ⟨Nat.zero_lt_one, rfl, ?_⟩
          | refine ⟨rfl, ?_⟩
          | refine ⟨⟨Nat.zero_lt_one, rfl⟩, Nat.le_of_ble_eq_true rfl, ?_⟩
          | refine ⟨Nat.le_of_ble_eq_true rfl, Nat.le_of_ble_eq_true rfl, ?_⟩
          | refine ⟨(by first | exact Nat.zero_lt_one | assumption | omega), (by first | assumption | exact vp_in_nI (by omega) (by omega) | (unfold vp_in; decide)), ?_⟩
          | refine ⟨(by first | exact Nat.zero_lt_one | assumption | omega), rfl, ?_⟩
          | refine ⟨⟨(by first | exact Nat.zero_lt_one | assumption | omega), rfl⟩, Nat.le_of_ble_eq_true rfl, ?_⟩
          | refine ⟨(by first | exact Nat.zero_lt_one | assumption | omega), ?_⟩
          | refine ⟨Or.inl rfl, ?_⟩
          | refine ⟨Or.inr (Or.inl rfl), ?_⟩
          | refine ⟨Or.inr (Or.inr rfl), ?_⟩
          | refine ⟨Or.inr ⟨rfl, (by first | exact Or.inl rfl | exact Or.inr rfl | assumption)⟩, ?_⟩
          | refine ⟨fun h => absurd h (by decide), fun _ => ?_⟩
          | refine ⟨fun _ => ?_, fun h => absurd h (by decide)⟩
          | refine ⟨fun h => ?_, fun h => ?_⟩
          | fail)
      · have i1 : ¬ i < μ' 48 0 40 := by grind
        refine zs k_Mo_ring rfl ?_; conv => whnf
        repeat' (first
          | refine br_f i0 ?_
          | refine br_f i1 ?_
          | exact hk2
          | (refine zs k_Mo_ring rfl ?_; conv => whnf)
          | refine ⟨Nat.zero_lt_one, rfl, ?_⟩
          | refine ⟨rfl, ?_⟩
          | refine ⟨⟨Nat.zero_lt_one, rfl⟩, Nat.le_of_ble_eq_true rfl, ?_⟩
          | refine ⟨Nat.le_of_ble_eq_true rfl, Nat.le_of_ble_eq_true rfl, ?_⟩
          | refine ⟨(by first | exact Nat.zero_lt_one | assumption | omega), (by first | assumption | exact vp_in_nI (by omega) (by omega) | (unfold vp_in; decide)), ?_⟩
          | refine ⟨(by first | exact Nat.zero_lt_one | assumption | omega), rfl, ?_⟩
          | refine ⟨⟨(by first | exact Nat.zero_lt_one | assumption | omega), rfl⟩, Nat.le_of_ble_eq_true rfl, ?_⟩
          | refine ⟨(by first | exact Nat.zero_lt_one | assumption | omega), ?_⟩
          | refine ⟨Or.inl rfl, ?_⟩
          | refine ⟨Or.inr (Or.inl rfl), ?_⟩
          | refine ⟨Or.inr (Or.inr rfl), ?_⟩
          | refine ⟨Or.inr ⟨rfl, (by first | exact Or.inl rfl | exact Or.inr rfl | assumption)⟩, ?_⟩
          | refine ⟨fun h => absurd h (by decide), fun _ => ?_⟩
          | refine ⟨fun _ => ?_, fun h => absurd h (by decide)⟩
          | refine ⟨fun h => ?_, fun h => ?_⟩
          | fail)
  repeat' (first
    | refine c_Mo_isOccasion (fun _ => ?_) (fun q => absurd ho q)
    | refine c_Mo_findOrder g (fun μ' hf hc => ?_)
    | exact T _ hf hc
    | (refine zs k_Mo_ring rfl ?_; conv => whnf)
    | refine ⟨Nat.zero_lt_one, rfl, ?_⟩
    | refine ⟨rfl, ?_⟩
    | refine ⟨⟨Nat.zero_lt_one, rfl⟩, Nat.le_of_ble_eq_true rfl, ?_⟩
    | refine ⟨Nat.le_of_ble_eq_true rfl, Nat.le_of_ble_eq_true rfl, ?_⟩
    | refine ⟨(by first | exact Nat.zero_lt_one | assumption | omega), (by first | assumption | exact vp_in_nI (by omega) (by omega) | (unfold vp_in; decide)), ?_⟩
    | refine ⟨(by first | exact Nat.zero_lt_one | assumption | omega), rfl, ?_⟩
    | refine ⟨⟨(by first | exact Nat.zero_lt_one | assumption | omega), rfl⟩, Nat.le_of_ble_eq_true rfl, ?_⟩
    | refine ⟨(by first | exact Nat.zero_lt_one | assumption | omega), ?_⟩
    | refine ⟨Or.inl rfl, ?_⟩
    | refine ⟨Or.inr (Or.inl rfl), ?_⟩
    | refine ⟨Or.inr (Or.inr rfl), ?_⟩
    | refine ⟨Or.inr ⟨rfl, (by first | exact Or.inl rfl | exact Or.inr rfl | assumption)⟩, ?_⟩
    | refine ⟨fun h => absurd h (by decide), fun _ => ?_⟩
    | refine ⟨fun _ => ?_, fun h => absurd h (by decide)⟩
    | refine ⟨fun h => ?_, fun h => ?_⟩
    | fail)
theorem b_ring {μ : zMu} {o day i : Int32} (h : Rel μ) : Both m_De_ring m_Mo_ring [zI o, zI day, zI i] μ := by
  intro d K hK
  obtain ⟨ns, n, nr, nh, nt, nb, L, g1, g2, g3, g4, g5, g6, g7, g8, g9, g10, g11⟩ := id h
  have g : gQ μ ns n nr nh := ⟨g1, g2, g4, g5⟩
  refine c_De_ring g (fun a => hK _ _ (fun d K2 hK2 => ?_)) (fun a μ1 len fn f1 r1 r2 q => hK _ _ (fun d K2 hK2 => ?_)) (fun a μ1 len fn k f1 r1 r2 hk q => hK _ _ (fun d K2 hK2 => ?_))
  · exact c_Mo_ring g (fun _ => hK2 _ h) (fun q => absurd q a) (fun q => absurd q a)
  · have s1 := zFr7_scr f1
    obtain ⟨e1, e2⟩ := zScr_ad s1 o day nr nh n
    refine c_Mo_ring (gQ_scr s1 g) (fun b => absurd a b) (fun _ μ2 _ _ s2 _ _ _ => hK2 _ (Rel_scr (zScr_tr s1 s2) h)) (fun _ μ2 len' fn' k s2 r1' r2' hk ek => ?_)
    rw [e1, e2] at r1'
    obtain ⟨u1, u2⟩ := oRk_one r1 r1'
    rw [ek] at q
    exact absurd (okI_i (by omega) (by omega)) q
  · subst q
    have s1 := zFr7_scr f1
    obtain ⟨e1, e2⟩ := zScr_ad s1 o day nr nh n
    refine c_Mo_ring (gQ_scr s1 g) (fun b => absurd a b) (fun _ μ2 len' fn' s2 r1' r2' b => ?_) (fun _ μ2 len' fn' k' s2 r1' r2' hk' ek => ?_)
    · rw [e1, e2] at r1'
      obtain ⟨u1, u2⟩ := oRk_one r1 r1'
      exact absurd (okI_i (by omega) (by omega)) b
    · rw [e1, e2] at r1'
      obtain ⟨u1, u2⟩ := oRk_one r1 r1'
      obtain rfl := (nI_eq (by omega) (by omega)).mp ek
      refine zKe (hK2 _ (Rel_scr (zScr_tr s1 s2) h)) ?_ rfl
      rw [u2 k hk]
