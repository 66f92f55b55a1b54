/-! MODEL: the next way, the bits, the begin -/
theorem nxR_perm {u v : List Nat} (h : nxR u v) : v.Perm u := by
  obtain ⟨p, x, a, y, b, rfl, rfl, -⟩ := h
  refine List.Perm.append_left p ?_
  have h1 : (b.reverse ++ x :: a.reverse).Perm (x :: (a ++ b)) := by
    refine List.perm_middle.trans (List.Perm.cons x ?_)
    exact ((List.reverse_perm b).append (List.reverse_perm a)).trans List.perm_append_comm
  refine (List.Perm.cons y h1).trans ?_
  refine (List.Perm.swap x y (a ++ b)).trans (List.Perm.cons x ?_)
  exact List.perm_middle.symm
def rvR (r : Nat → Int32) (A B s : Nat) : Nat → Int32 := fun k => if (A ≤ k ∧ k < A + s) ∨ (B < k + s ∧ k ≤ B) then r (A + B - k) else r k
theorem lw_lt {v : List Nat} {i j p q : Nat} (hv : ∀ x ∈ v, x < 20) (hi : v[i]? = some p) (hj : v[j]? = some q) : (lw v i ≤ lw v j ↔ p ≤ q) := by
  rw [lw_at hi, lw_at hj]
  have h1 := hv p (List.mem_of_getElem? hi)
  have h2 := hv q (List.mem_of_getElem? hj)
  exact nI_leI (by omega) (by omega)
theorem c_Mo_isNext_n {d m : Nat} {μ : zMu} {v : List Nat} {x : Int32} {K : Option zV → zMu → Prop} (hm : v.length = m) (h1 : 1 ≤ m) (h12 : m ≤ 12) (hx : x = nI m) (hv : ∀ x ∈ v, x < 20) (hd : v.Pairwise (· > ·)) (hrow : ∀ k, k < 12 → μ 96 0 k = lw v k) (hK : K (some (zI 0)) μ) : Ct d m_Mo_isNext [zR 48 0, zI x] μ K := by
  subst hx
  refine zmeet rfl (Nat.le_of_ble_eq_true rfl) (fun S => ?_)
  have L : ∀ (i : Nat) (w : Int32), i ≤ m - 1 → w = nI i - 1 → zG S d m_Mo_isNext K 4 [some (zR 48 0), some (zI (nI m)), some (zI w), none, none, none, none] [] μ := by
    intro i
    induction i with
    | zero =>
      intro w hi hw
      subst hw
      refine zs k_Mo_isNext rfl ?_; conv => whnf
      repeat' (first
        | refine br_t (show (nI 0 - 1 : Int32) < 0 by decide) ?_
        | refine br_f (show ¬ (0 : Int32) ≤ nI 0 - 1 by decide) ?_
        | exact hK
        | (refine zs k_Mo_isNext rfl ?_; conv => whnf)
        | refine ⟨Nat.zero_lt_one, rfl, ?_⟩
        | refine ⟨rfl, ?_⟩
        | refine ⟨⟨Nat.zero_lt_one, rfl⟩, Nat.le_of_ble_eq_true rfl, ?_⟩
        | refine ⟨Nat.le_of_ble_eq_true rfl, Nat.le_of_ble_eq_true rfl, ?_⟩
        | refine ⟨(by first | exact Nat.zero_lt_one | assumption | omega), (by first | assumption | exact vp_in_nI (by omega) (by omega) | (unfold vp_in; decide)), ?_⟩
        | refine ⟨(by first | exact Nat.zero_lt_one | assumption | omega), rfl, ?_⟩
        | refine ⟨⟨(by first | exact Nat.zero_lt_one | assumption | omega), rfl⟩, Nat.le_of_ble_eq_true rfl, ?_⟩
        | refine ⟨(by first | exact Nat.zero_lt_one | assumption | omega), ?_⟩
        | refine ⟨Or.inl rfl, ?_⟩
        | refine ⟨Or.inr (Or.inl rfl), ?_⟩
        | refine ⟨Or.inr (Or.inr rfl), ?_⟩
        | refine ⟨Or.inr ⟨rfl, (by first | exact Or.inl rfl | exact Or.inr rfl | assumption)⟩, ?_⟩
        | refine ⟨fun h => absurd h (by decide), fun _ => ?_⟩
        | refine ⟨fun _ => ?_, fun h => absurd h (by decide)⟩
        | refine ⟨fun h => ?_, fun h => ?_⟩
        | fail)
    | succ i ih =>
      intro w hi hw
      subst hw
      rw [nI_pred]
      have ci : (nI i).toNatClampNeg = i := nI_clamp (by omega)
      have c1 : (nI i + 1).toNatClampNeg = i + 1 := by rw [nI_1]; exact nI_clamp (by omega)
      have v0 : vp_in (nI i) 12 := vp_in_nI (by omega) (by omega)
      have v1 : vp_in (nI i + 1) 12 := by rw [nI_1]; exact vp_in_nI (by omega) (by omega)
      have g0 : v[i]? = some v[i] := List.getElem?_eq_getElem (by omega)
      have g1 : v[i + 1]? = some v[i + 1] := List.getElem?_eq_getElem (by omega)
      have hgt := List.pairwise_iff_getElem.mp hd i (i + 1) (by omega) (by omega) (by omega)
      have hle : ¬ μ 96 0 (nI i).toNatClampNeg ≤ μ 96 0 (nI i + 1).toNatClampNeg := by
        rw [ci, c1, hrow i (by omega), hrow (i + 1) (by omega), lw_lt hv g0 g1]
        omega
      refine zs k_Mo_isNext rfl ?_; conv => whnf
      repeat' (first
        | refine br_f (nI_pos (by omega)) ?_
        | refine br_f hle ?_
        | refine ih _ (by omega) (by exact i32_m1 _)
        | (refine zs k_Mo_isNext rfl ?_; conv => whnf)
        | refine ⟨Nat.zero_lt_one, rfl, ?_⟩
        | refine ⟨rfl, ?_⟩
        | refine ⟨⟨Nat.zero_lt_one, rfl⟩, Nat.le_of_ble_eq_true rfl, ?_⟩
        | refine ⟨Nat.le_of_ble_eq_true rfl, Nat.le_of_ble_eq_true rfl, ?_⟩
        | refine ⟨(by first | exact Nat.zero_lt_one | assumption | omega), (by first | assumption | exact vp_in_nI (by omega) (by omega) | (unfold vp_in; decide)), ?_⟩
        | refine ⟨(by first | exact Nat.zero_lt_one | assumption | omega), rfl, ?_⟩
        | refine ⟨⟨(by first | exact Nat.zero_lt_one | assumption | omega), rfl⟩, Nat.le_of_ble_eq_true rfl, ?_⟩
        | refine ⟨(by first | exact Nat.zero_lt_one | assumption | omega), ?_⟩
        | refine ⟨Or.inl rfl, ?_⟩
        | refine ⟨Or.inr (Or.inl rfl), ?_⟩
        | refine ⟨Or.inr (Or.inr rfl), ?_⟩
        | refine ⟨Or.inr ⟨rfl, (by first | exact Or.inl rfl | exact Or.inr rfl | assumption)⟩, ?_⟩
        | refine ⟨fun h => absurd h (by decide), fun _ => ?_⟩
        | refine ⟨fun _ => ?_, fun h => absurd h (by decide)⟩
        | refine ⟨fun h => ?_, fun h => ?_⟩
        | fail)
  have h0 : nI m - 2 = nI (m - 1) - 1 := by
    obtain ⟨y, rfl⟩ : ∃ y, m = y + 1 := ⟨m - 1, by omega⟩
    rw [Nat.add_sub_cancel, ← nI_1]
    grind
  repeat' (first
    | exact L (m - 1) _ (Nat.le_refl _) h0
    | (refine zs k_Mo_isNext rfl ?_; conv => whnf)
    | refine ⟨Nat.zero_lt_one, rfl, ?_⟩
    | refine ⟨rfl, ?_⟩
    | refine ⟨⟨Nat.zero_lt_one, rfl⟩, Nat.le_of_ble_eq_true rfl, ?_⟩
    | refine ⟨Nat.le_of_ble_eq_true rfl, Nat.le_of_ble_eq_true rfl, ?_⟩
    | refine ⟨(by first | exact Nat.zero_lt_one | assumption | omega), (by first | assumption | exact vp_in_nI (by omega) (by omega) | (unfold vp_in; decide)), ?_⟩
    | refine ⟨(by first | exact Nat.zero_lt_one | assumption | omega), rfl, ?_⟩
    | refine ⟨⟨(by first | exact Nat.zero_lt_one | assumption | omega), rfl⟩, Nat.le_of_ble_eq_true rfl, ?_⟩
    | refine ⟨(by first | exact Nat.zero_lt_one | assumption | omega), ?_⟩
    | refine ⟨Or.inl rfl, ?_⟩
    | refine ⟨Or.inr (Or.inl rfl), ?_⟩
    | refine ⟨Or.inr (Or.inr rfl), ?_⟩
    | refine ⟨Or.inr ⟨rfl, (by first | exact Or.inl rfl | exact Or.inr rfl | assumption)⟩, ?_⟩
    | refine ⟨fun h => absurd h (by decide), fun _ => ?_⟩
    | refine ⟨fun _ => ?_, fun h => absurd h (by decide)⟩
    | refine ⟨fun h => ?_, fun h => ?_⟩
    | fail)
set_option maxHeartbeats 2000000 in
theorem c_Mo_isNext_y {d m : Nat} {μ : zMu} {u v : List Nat} {x : Int32} {K : Option zV → zMu → Prop} (hn : nxR u v) (hm : u.length = m) (h12 : m ≤ 12) (hx : x = nI m) (hv : ∀ x ∈ u, x < 20) (hrow : ∀ k, k < 12 → μ 96 0 k = lw u k) (hK : ∀ μ', (∀ f, f ≠ 96 → μ' f = μ f) → (∀ k, k < 12 → μ' 96 0 k = lw v k) → K (some (zI 1)) μ') : Ct d m_Mo_isNext [zR 48 0, zI x] μ K := by
  subst hx
  refine zmeet rfl (Nat.le_of_ble_eq_true rfl) (fun S => ?_)
  obtain ⟨p, e, a, y, b, hu, hv2, hdes, hey, hb⟩ := hn
  generalize hT : a ++ y :: b = T at hu hdes
  have hTl : T.length = a.length + 1 + b.length := by rw [← hT]; simp; omega
  have hml : m = p.length + 1 + T.length := by rw [← hm, hu]; simp; omega
  have uP : u[p.length]? = some e := by rw [hu, List.getElem?_append_right (Nat.le_refl _), Nat.sub_self]; rfl
  have uT : ∀ q, u[p.length + 1 + q]? = T[q]? := fun q => by
    rw [hu, List.getElem?_append_right (by omega), show p.length + 1 + q - p.length = q + 1 by omega]
    rfl
  have uP2 : ∀ k, k < p.length → u[k]? = p[k]? := fun k hk => by rw [hu, List.getElem?_append_left hk]
  have Ty : T[a.length]? = some y := by rw [← hT, List.getElem?_append_right (Nat.le_refl _), Nat.sub_self]; rfl
  have Tb : ∀ q z, a.length < q → T[q]? = some z → z < e := fun q z hq hz => by
    rw [← hT, List.getElem?_append_right (by omega), show q - a.length = (q - a.length - 1) + 1 by omega] at hz
    exact hb z (List.mem_of_getElem? (show b[q - a.length - 1]? = some z from hz))
  have Tpos : 0 < T.length := by omega
  have T0 : T[0]? = some T[0] := List.getElem?_eq_getElem Tpos
  have Th : e < T[0] := by
    rcases Nat.eq_zero_or_pos a.length with q | q
    · have := Ty
      rw [q, T0] at this
      have e2 : T[0] = y := Option.some.inj this
      omega
    · have hl : a.length < T.length := by omega
      have := List.pairwise_iff_getElem.mp hdes 0 a.length Tpos hl q
      have e2 : T[a.length] = y := Option.some.inj ((List.getElem?_eq_getElem hl).symm.trans Ty)
      omega
  -- the row behind the exchange, and turned
  generalize hr1 : (fun k => if k = p.length then nI y else if k = p.length + 1 + a.length then nI e else lw u k) = r1
  have fin : ∀ k, k < 12 → lw v k = (if p.length + 1 ≤ k ∧ k ≤ m - 1 then r1 (p.length + 1 + (m - 1) - k) else r1 k) := fun k hk => by
    rw [hv2]
    rcases Nat.lt_or_ge k p.length with q | q
    · rw [if_neg (by omega), ← hr1]
      show _ = (if k = p.length then nI y else if k = p.length + 1 + a.length then nI e else lw u k)
      rw [if_neg (by omega), if_neg (by omega)]
      unfold lw
      rw [List.getElem?_append_left q, uP2 k q]
    · rcases Nat.eq_or_lt_of_le q with q | q
      · subst q
        rw [if_neg (by omega), ← hr1]
        show _ = (if p.length = p.length then nI y else if p.length = p.length + 1 + a.length then nI e else lw u p.length)
        rw [if_pos rfl]
        refine lw_at ?_
        rw [List.getElem?_append_right (Nat.le_refl _), Nat.sub_self]
        rfl
      · have hr : b.reverse ++ e :: a.reverse = (a ++ e :: b).reverse := by simp
        rcases Nat.lt_or_ge k m with q2 | q2
        · rw [if_pos (by omega)]
          have hlen : (a ++ e :: b).length = T.length := by rw [hTl]; simp; omega
          have e1 : (p ++ y :: (b.reverse ++ e :: a.reverse))[k]? = (a ++ e :: b)[m - 1 - k]? := by
            rw [List.getElem?_append_right (by omega), show k - p.length = (k - p.length - 1) + 1 by omega]
            show (b.reverse ++ e :: a.reverse)[k - p.length - 1]? = _
            rw [hr, List.getElem?_reverse (by omega)]
            congr 1
            omega
          unfold lw
          rw [e1, show p.length + 1 + (m - 1) - k = p.length + 1 + (m - 1 - k) by omega, ← hr1]
          show _ = (if p.length + 1 + (m - 1 - k) = p.length then nI y else if p.length + 1 + (m - 1 - k) = p.length + 1 + a.length then nI e else lw u (p.length + 1 + (m - 1 - k)))
          rw [if_neg (by omega)]
          by_cases w : m - 1 - k = a.length
          · rw [if_pos (by omega), w, List.getElem?_append_right (Nat.le_refl _), Nat.sub_self]
            rfl
          · rw [if_neg (by omega)]
            unfold lw
            rw [uT, ← hT]
            rcases Nat.lt_or_ge (m - 1 - k) a.length with w2 | w2
            · rw [List.getElem?_append_left w2, List.getElem?_append_left w2]
            · rw [List.getElem?_append_right w2, List.getElem?_append_right w2, show m - 1 - k - a.length = (m - 1 - k - a.length - 1) + 1 by omega]
              rfl
        · rw [if_neg (by omega), ← hr1]
          show _ = (if k = p.length then nI y else if k = p.length + 1 + a.length then nI e else lw u k)
          rw [if_neg (by omega), if_neg (by omega), lw_out (by rw [List.length_append, List.length_cons, hr, List.length_reverse, List.length_append, List.length_cons]; omega), lw_out (by omega)]
  -- turning
  have L3 : ∀ (k s : Nat) (i j : Int32) (l4 : Option zV) (μ1 : zMu), s + k = m → p.length + 1 + s ≤ m → s ≤ m - 1 → i = nI (p.length + 1 + s) → j = nI (m - 1 - s) → (∀ f, f ≠ 96 → μ1 f = μ f) → (∀ k, k < 12 → μ1 96 0 k = rvR r1 (p.length + 1) (m - 1) s k) → zG S d m_Mo_isNext K 100 [some (zR 48 0), some (zI (nI m)), some (zI (nI p.length)), some (zI (nI (p.length + 1 + a.length))), l4, some (zI i), some (zI j)] [] μ1 := by
    intro k
    induction k with
    | zero =>
      intro s i j l4 μ1 hs h1 h2
      omega
    | succ k ih =>
      intro s i j l4 μ1 hs h1 h2 hi hj e1 e2
      subst hi hj
      rcases Nat.lt_or_ge (p.length + 1 + s) (m - 1 - s) with q | q
      case inr =>
        have hle : nI (m - 1 - s) ≤ nI (p.length + 1 + s) := nI_le q (by omega)
        have hk := hK μ1 e1 (fun k hk => by
          rw [e2 k hk, fin k hk]
          unfold rvR
          by_cases w : p.length + 1 ≤ k ∧ k ≤ m - 1
          · rw [if_pos w]
            by_cases w2 : (p.length + 1 ≤ k ∧ k < p.length + 1 + s) ∨ (m - 1 < k + s ∧ k ≤ m - 1)
            · rw [if_pos w2]
            · rw [if_neg w2, show p.length + 1 + (m - 1) - k = k by omega]
          · rw [if_neg w, if_neg (by omega)])
        refine zs k_Mo_isNext rfl ?_; conv => whnf
        repeat' (first
          | refine br_t hle ?_
          | exact hk
          | (refine zs k_Mo_isNext rfl ?_; conv => whnf)
          | refine ⟨Nat.zero_lt_one, rfl, ?_⟩
          | refine ⟨rfl, ?_⟩
          | refine ⟨⟨Nat.zero_lt_one, rfl⟩, Nat.le_of_ble_eq_true rfl, ?_⟩
          | refine ⟨Nat.le_of_ble_eq_true rfl, Nat.le_of_ble_eq_true rfl, ?_⟩
          | refine ⟨(by first | exact Nat.zero_lt_one | assumption | omega), (by first | assumption | exact vp_in_nI (by omega) (by omega) | (unfold vp_in; decide)), ?_⟩
          | refine ⟨(by first | exact Nat.zero_lt_one | assumption | omega), rfl, ?_⟩
          | refine ⟨⟨(by first | exact Nat.zero_lt_one | assumption | omega), rfl⟩, Nat.le_of_ble_eq_true rfl, ?_⟩
          | refine ⟨(by first | exact Nat.zero_lt_one | assumption | omega), ?_⟩
          | refine ⟨Or.inl rfl, ?_⟩
          | refine ⟨Or.inr (Or.inl rfl), ?_⟩
          | refine ⟨Or.inr (Or.inr rfl), ?_⟩
          | refine ⟨Or.inr ⟨rfl, (by first | exact Or.inl rfl | exact Or.inr rfl | assumption)⟩, ?_⟩
          | refine ⟨fun h => absurd h (by decide), fun _ => ?_⟩
          | refine ⟨fun _ => ?_, fun h => absurd h (by decide)⟩
          | refine ⟨fun h => ?_, fun h => ?_⟩
          | fail)
      have hle : ¬ nI (m - 1 - s) ≤ nI (p.length + 1 + s) := nI_ge q (by omega)
      have ci : (nI (p.length + 1 + s)).toNatClampNeg = p.length + 1 + s := nI_clamp (by omega)
      have cj : (nI (m - 1 - s)).toNatClampNeg = m - 1 - s := nI_clamp (by omega)
      have vi : vp_in (nI (p.length + 1 + s)) 12 := vp_in_nI (by omega) (by omega)
      have vj : vp_in (nI (m - 1 - s)) 12 := vp_in_nI (by omega) (by omega)
      have w1 : μ1 96 0 (p.length + 1 + s) = r1 (p.length + 1 + s) := by
        rw [e2 _ (by omega)]
        unfold rvR
        rw [if_neg (by omega)]
      have w2 : μ1 96 0 (m - 1 - s) = r1 (m - 1 - s) := by
        rw [e2 _ (by omega)]
        unfold rvR
        rw [if_neg (by omega)]
      refine zs k_Mo_isNext rfl ?_; conv => whnf
      repeat' (first
        | refine br_f hle ?_
        | refine ih (s + 1) _ _ _ _ (by omega) (by omega) (by omega) (by exact nI_1 _) ?_ (fun f hf => ?_) (fun k hk => ?_)
        | (refine zs k_Mo_isNext rfl ?_; conv => whnf)
        | refine ⟨Nat.zero_lt_one, rfl, ?_⟩
        | refine ⟨rfl, ?_⟩
        | refine ⟨⟨Nat.zero_lt_one, rfl⟩, Nat.le_of_ble_eq_true rfl, ?_⟩
        | refine ⟨Nat.le_of_ble_eq_true rfl, Nat.le_of_ble_eq_true rfl, ?_⟩
        | refine ⟨(by first | exact Nat.zero_lt_one | assumption | omega), (by first | assumption | exact vp_in_nI (by omega) (by omega) | (unfold vp_in; decide)), ?_⟩
        | refine ⟨(by first | exact Nat.zero_lt_one | assumption | omega), rfl, ?_⟩
        | refine ⟨⟨(by first | exact Nat.zero_lt_one | assumption | omega), rfl⟩, Nat.le_of_ble_eq_true rfl, ?_⟩
        | refine ⟨(by first | exact Nat.zero_lt_one | assumption | omega), ?_⟩
        | refine ⟨Or.inl rfl, ?_⟩
        | refine ⟨Or.inr (Or.inl rfl), ?_⟩
        | refine ⟨Or.inr (Or.inr rfl), ?_⟩
        | refine ⟨Or.inr ⟨rfl, (by first | exact Or.inl rfl | exact Or.inr rfl | assumption)⟩, ?_⟩
        | refine ⟨fun h => absurd h (by decide), fun _ => ?_⟩
        | refine ⟨fun _ => ?_, fun h => absurd h (by decide)⟩
        | refine ⟨fun h => ?_, fun h => ?_⟩
        | fail)
      · rw [i32_m1, show m - 1 - s = (m - 1 - (s + 1)) + 1 by omega, nI_pred]
      · funext c1 c2
        rw [zu_ne (fun z => hf z.1), zu_ne (fun z => hf z.1), e1 f hf]
      · rw [ci, cj]
        by_cases k1 : k = m - 1 - s
        · rw [k1, zu_eq, w1]
          unfold rvR
          rw [if_pos (by omega)]
          congr 1
          omega
        · rw [zu_ne (by omega)]
          by_cases k2 : k = p.length + 1 + s
          · rw [k2, zu_eq, w2]
            unfold rvR
            rw [if_pos (by omega)]
            congr 1
            omega
          · rw [zu_ne (by omega), e2 k hk]
            unfold rvR
            by_cases w : (p.length + 1 ≤ k ∧ k < p.length + 1 + s) ∨ (m - 1 < k + s ∧ k ≤ m - 1)
            · rw [if_pos w, if_pos (by omega)]
            · rw [if_neg w, if_neg (by omega)]
  have cP : (nI p.length).toNatClampNeg = p.length := nI_clamp (by omega)
  have vP : vp_in (nI p.length) 12 := vp_in_nI (by omega) (by omega)
  have rP : μ 96 0 (nI p.length).toNatClampNeg = nI e := by rw [cP, hrow _ (by omega)]; exact lw_at uP
  have cJ : (nI (p.length + 1 + a.length)).toNatClampNeg = p.length + 1 + a.length := nI_clamp (by omega)
  have vJ : vp_in (nI (p.length + 1 + a.length)) 12 := vp_in_nI (by omega) (by omega)
  have uJ : u[p.length + 1 + a.length]? = some y := (uT _).trans Ty
  have rJ : μ 96 0 (nI (p.length + 1 + a.length)).toNatClampNeg = nI y := by rw [cJ, hrow _ (by omega)]; exact lw_at uJ
  have he20 := hv e (List.mem_of_getElem? uP)
  have hy20 := hv y (List.mem_of_getElem? uJ)
  -- the one to exchange with
  have L2 : ∀ (k j : Nat) (w : Int32), j = p.length + 1 + a.length + k → j < m → w = nI j → zG S d m_Mo_isNext K 41 [some (zR 48 0), some (zI (nI m)), some (zI (nI p.length)), some (zI w), none, none, none] [] μ := by
    intro k
    induction k with
    | zero =>
      intro j w hj hjm hw
      subst hw
      obtain rfl : j = p.length + 1 + a.length := hj
      have hle : μ 96 0 (nI p.length).toNatClampNeg ≤ μ 96 0 (nI (p.length + 1 + a.length)).toNatClampNeg := by rw [rP, rJ]; exact nI_le (by omega) (by omega)
      refine zs k_Mo_isNext rfl ?_; conv => whnf
      repeat' (first
        | refine br_t hle ?_
        | refine L3 m 0 _ _ _ _ (by omega) (by omega) (by omega) (by exact nI_1 _) ?_ (fun f hf => ?_) (fun k hk => ?_)
        | (refine zs k_Mo_isNext rfl ?_; conv => whnf)
        | refine ⟨Nat.zero_lt_one, rfl, ?_⟩
        | refine ⟨rfl, ?_⟩
        | refine ⟨⟨Nat.zero_lt_one, rfl⟩, Nat.le_of_ble_eq_true rfl, ?_⟩
        | refine ⟨Nat.le_of_ble_eq_true rfl, Nat.le_of_ble_eq_true rfl, ?_⟩
        | refine ⟨(by first | exact Nat.zero_lt_one | assumption | omega), (by first | assumption | exact vp_in_nI (by omega) (by omega) | (unfold vp_in; decide)), ?_⟩
        | refine ⟨(by first | exact Nat.zero_lt_one | assumption | omega), rfl, ?_⟩
        | refine ⟨⟨(by first | exact Nat.zero_lt_one | assumption | omega), rfl⟩, Nat.le_of_ble_eq_true rfl, ?_⟩
        | refine ⟨(by first | exact Nat.zero_lt_one | assumption | omega), ?_⟩
        | refine ⟨Or.inl rfl, ?_⟩
        | refine ⟨Or.inr (Or.inl rfl), ?_⟩
        | refine ⟨Or.inr (Or.inr rfl), ?_⟩
        | refine ⟨Or.inr ⟨rfl, (by first | exact Or.inl rfl | exact Or.inr rfl | assumption)⟩, ?_⟩
        | refine ⟨fun h => absurd h (by decide), fun _ => ?_⟩
        | refine ⟨fun _ => ?_, fun h => absurd h (by decide)⟩
        | refine ⟨fun h => ?_, fun h => ?_⟩
        | fail)
      · obtain ⟨y', hy'⟩ : ∃ y', m = y' + 1 := ⟨m - 1, by omega⟩
        rw [hy', nI_pred]
        rfl
      · funext c1 c2
        rw [zu_ne (fun z => hf z.1), zu_ne (fun z => hf z.1)]
      · rw [rP, rJ, cP, cJ]
        unfold rvR
        rw [if_neg (by omega), ← hr1]
        show _ = (if k = p.length then nI y else if k = p.length + 1 + a.length then nI e else lw u k)
        by_cases k1 : k = p.length + 1 + a.length
        · rw [k1, zu_eq, if_neg (by omega), if_pos rfl]
        · rw [zu_ne (by omega)]
          by_cases k2 : k = p.length
          · rw [k2, zu_eq, if_pos rfl]
          · rw [zu_ne (by omega), if_neg k2, if_neg k1]
            exact hrow k hk
    | succ k ih =>
      intro j w hj hjm hw
      subst hw
      have cj : (nI j).toNatClampNeg = j := nI_clamp (by omega)
      have vj : vp_in (nI j) 12 := vp_in_nI (by omega) (by omega)
      have hq : a.length + (k + 1) < T.length := by omega
      have g0 : T[a.length + (k + 1)]? = some T[a.length + (k + 1)] := List.getElem?_eq_getElem hq
      have g1 : u[j]? = some T[a.length + (k + 1)] := by
        rw [show j = p.length + 1 + (a.length + (k + 1)) by omega, uT]
        exact g0
      have hlt := Tb _ _ (by omega) g0
      have hle : ¬ μ 96 0 (nI p.length).toNatClampNeg ≤ μ 96 0 (nI j).toNatClampNeg := by
        rw [rP, cj, hrow j (by omega), lw_at g1]
        exact nI_ge hlt (by omega)
      refine zs k_Mo_isNext rfl ?_; conv => whnf
      repeat' (first
        | refine br_f hle ?_
        | refine ih (j - 1) _ (by omega) (by omega) ?_
        | (refine zs k_Mo_isNext rfl ?_; conv => whnf)
        | refine ⟨Nat.zero_lt_one, rfl, ?_⟩
        | refine ⟨rfl, ?_⟩
        | refine ⟨⟨Nat.zero_lt_one, rfl⟩, Nat.le_of_ble_eq_true rfl, ?_⟩
        | refine ⟨Nat.le_of_ble_eq_true rfl, Nat.le_of_ble_eq_true rfl, ?_⟩
        | refine ⟨(by first | exact Nat.zero_lt_one | assumption | omega), (by first | assumption | exact vp_in_nI (by omega) (by omega) | (unfold vp_in; decide)), ?_⟩
        | refine ⟨(by first | exact Nat.zero_lt_one | assumption | omega), rfl, ?_⟩
        | refine ⟨⟨(by first | exact Nat.zero_lt_one | assumption | omega), rfl⟩, Nat.le_of_ble_eq_true rfl, ?_⟩
        | refine ⟨(by first | exact Nat.zero_lt_one | assumption | omega), ?_⟩
        | refine ⟨Or.inl rfl, ?_⟩
        | refine ⟨Or.inr (Or.inl rfl), ?_⟩
        | refine ⟨Or.inr (Or.inr rfl), ?_⟩
        | refine ⟨Or.inr ⟨rfl, (by first | exact Or.inl rfl | exact Or.inr rfl | assumption)⟩, ?_⟩
        | refine ⟨fun h => absurd h (by decide), fun _ => ?_⟩
        | refine ⟨fun _ => ?_, fun h => absurd h (by decide)⟩
        | refine ⟨fun h => ?_, fun h => ?_⟩
        | fail)
      rw [i32_m1]
      obtain ⟨j', rfl⟩ : ∃ j', j = j' + 1 := ⟨j - 1, by omega⟩
      rw [nI_pred, Nat.add_sub_cancel]
  -- where it rises
  have L1 : ∀ (k i : Nat) (w : Int32), i = p.length + k → i + 2 ≤ m → w = nI i → zG S d m_Mo_isNext K 4 [some (zR 48 0), some (zI (nI m)), some (zI w), none, none, none, none] [] μ := by
    intro k
    induction k with
    | zero =>
      intro i w hi him hw
      subst hw
      obtain rfl : i = p.length := hi
      have c1 : (nI p.length + 1).toNatClampNeg = p.length + 1 := by rw [nI_1]; exact nI_clamp (by omega)
      have v1 : vp_in (nI p.length + 1) 12 := by rw [nI_1]; exact vp_in_nI (by omega) (by omega)
      have g1 : u[p.length + 1]? = some T[0] := (uT 0).trans T0
      have h20 := hv _ (List.mem_of_getElem? g1)
      have hle : μ 96 0 (nI p.length).toNatClampNeg ≤ μ 96 0 (nI p.length + 1).toNatClampNeg := by
        rw [rP, c1, hrow _ (by omega), lw_at g1]
        exact nI_le (by omega) (by omega)
      refine zs k_Mo_isNext rfl ?_; conv => whnf
      repeat' (first
        | refine br_f (nI_pos (by omega)) ?_
        | refine br_t hle ?_
        | refine br_t (nI_pos' (by omega)) ?_
        | refine L2 (m - 1 - (p.length + 1 + a.length)) (m - 1) _ (by omega) (by omega) ?_
        | (refine zs k_Mo_isNext rfl ?_; conv => whnf)
        | refine ⟨Nat.zero_lt_one, rfl, ?_⟩
        | refine ⟨rfl, ?_⟩
        | refine ⟨⟨Nat.zero_lt_one, rfl⟩, Nat.le_of_ble_eq_true rfl, ?_⟩
        | refine ⟨Nat.le_of_ble_eq_true rfl, Nat.le_of_ble_eq_true rfl, ?_⟩
        | refine ⟨(by first | exact Nat.zero_lt_one | assumption | omega), (by first | assumption | exact vp_in_nI (by omega) (by omega) | (unfold vp_in; decide)), ?_⟩
        | refine ⟨(by first | exact Nat.zero_lt_one | assumption | omega), rfl, ?_⟩
        | refine ⟨⟨(by first | exact Nat.zero_lt_one | assumption | omega), rfl⟩, Nat.le_of_ble_eq_true rfl, ?_⟩
        | refine ⟨(by first | exact Nat.zero_lt_one | assumption | omega), ?_⟩
        | refine ⟨Or.inl rfl, ?_⟩
        | refine ⟨Or.inr (Or.inl rfl), ?_⟩
        | refine ⟨Or.inr (Or.inr rfl), ?_⟩
        | refine ⟨Or.inr ⟨rfl, (by first | exact Or.inl rfl | exact Or.inr rfl | assumption)⟩, ?_⟩
        | refine ⟨fun h => absurd h (by decide), fun _ => ?_⟩
        | refine ⟨fun _ => ?_, fun h => absurd h (by decide)⟩
        | refine ⟨fun h => ?_, fun h => ?_⟩
        | fail)
      obtain ⟨y', hy'⟩ : ∃ y', m = y' + 1 := ⟨m - 1, by omega⟩
      rw [hy', nI_pred]
      rfl
    | succ k ih =>
      intro i w hi him hw
      subst hw
      have ci : (nI i).toNatClampNeg = i := nI_clamp (by omega)
      have c1 : (nI i + 1).toNatClampNeg = i + 1 := by rw [nI_1]; exact nI_clamp (by omega)
      have v0 : vp_in (nI i) 12 := vp_in_nI (by omega) (by omega)
      have v1 : vp_in (nI i + 1) 12 := by rw [nI_1]; exact vp_in_nI (by omega) (by omega)
      have hk1 : k < T.length := by omega
      have hk2 : k + 1 < T.length := by omega
      have g0 : u[i]? = some T[k] := by
        rw [show i = p.length + 1 + k by omega, uT]
        exact List.getElem?_eq_getElem hk1
      have g1 : u[i + 1]? = some T[k + 1] := by
        rw [show i + 1 = p.length + 1 + (k + 1) by omega, uT]
        exact List.getElem?_eq_getElem hk2
      have hgt := List.pairwise_iff_getElem.mp hdes k (k + 1) hk1 hk2 (by omega)
      have hle : ¬ μ 96 0 (nI i).toNatClampNeg ≤ μ 96 0 (nI i + 1).toNatClampNeg := by
        rw [ci, c1, hrow i (by omega), hrow (i + 1) (by omega), lw_lt hv g0 g1]
        omega
      refine zs k_Mo_isNext rfl ?_; conv => whnf
      repeat' (first
        | refine br_f (nI_pos (by omega)) ?_
        | refine br_f hle ?_
        | refine ih (i - 1) _ (by omega) (by omega) ?_
        | (refine zs k_Mo_isNext rfl ?_; conv => whnf)
        | refine ⟨Nat.zero_lt_one, rfl, ?_⟩
        | refine ⟨rfl, ?_⟩
        | refine ⟨⟨Nat.zero_lt_one, rfl⟩, Nat.le_of_ble_eq_true rfl, ?_⟩
        | refine ⟨Nat.le_of_ble_eq_true rfl, Nat.le_of_ble_eq_true rfl, ?_⟩
        | refine ⟨(by first | exact Nat.zero_lt_one | assumption | omega), (by first | assumption | exact vp_in_nI (by omega) (by omega) | (unfold vp_in; decide)), ?_⟩
        | refine ⟨(by first | exact Nat.zero_lt_one | assumption | omega), rfl, ?_⟩
        | refine ⟨⟨(by first | exact Nat.zero_lt_one | assumption | omega), rfl⟩, Nat.le_of_ble_eq_true rfl, ?_⟩
        | refine ⟨(by first | exact Nat.zero_lt_one | assumption | omega), ?_⟩
        | refine ⟨Or.inl rfl, ?_⟩
        | refine ⟨Or.inr (Or.inl rfl), ?_⟩
        | refine ⟨Or.inr (Or.inr rfl), ?_⟩
        | refine ⟨Or.inr ⟨rfl, (by first | exact Or.inl rfl | exact Or.inr rfl | assumption)⟩, ?_⟩
        | refine ⟨fun h => absurd h (by decide), fun _ => ?_⟩
        | refine ⟨fun _ => ?_, fun h => absurd h (by decide)⟩
        | refine ⟨fun h => ?_, fun h => ?_⟩
        | fail)
      rw [i32_m1]
      obtain ⟨j', rfl⟩ : ∃ j', i = j' + 1 := ⟨i - 1, by omega⟩
      rw [nI_pred, Nat.add_sub_cancel]
  have h0 : nI m - 2 = nI (m - 2) := pk_sub (a := m) (b := 2) (by omega)
  repeat' (first
    | exact L1 (m - 2 - p.length) (m - 2) _ (by omega) (by omega) h0
    | (refine zs k_Mo_isNext rfl ?_; conv => whnf)
    | refine ⟨Nat.zero_lt_one, rfl, ?_⟩
    | refine ⟨rfl, ?_⟩
    | refine ⟨⟨Nat.zero_lt_one, rfl⟩, Nat.le_of_ble_eq_true rfl, ?_⟩
    | refine ⟨Nat.le_of_ble_eq_true rfl, Nat.le_of_ble_eq_true rfl, ?_⟩
    | refine ⟨(by first | exact Nat.zero_lt_one | assumption | omega), (by first | assumption | exact vp_in_nI (by omega) (by omega) | (unfold vp_in; decide)), ?_⟩
    | refine ⟨(by first | exact Nat.zero_lt_one | assumption | omega), rfl, ?_⟩
    | refine ⟨⟨(by first | exact Nat.zero_lt_one | assumption | omega), rfl⟩, Nat.le_of_ble_eq_true rfl, ?_⟩
    | refine ⟨(by first | exact Nat.zero_lt_one | assumption | omega), ?_⟩
    | refine ⟨Or.inl rfl, ?_⟩
    | refine ⟨Or.inr (Or.inl rfl), ?_⟩
    | refine ⟨Or.inr (Or.inr rfl), ?_⟩
    | refine ⟨Or.inr ⟨rfl, (by first | exact Or.inl rfl | exact Or.inr rfl | assumption)⟩, ?_⟩
    | refine ⟨fun h => absurd h (by decide), fun _ => ?_⟩
    | refine ⟨fun _ => ?_, fun h => absurd h (by decide)⟩
    | refine ⟨fun h => ?_, fun h => ?_⟩
    | fail)
-- ---- bits
theorem bit_v {x : Int32} {p : Nat} (hx : bN x < 2 ^ 20) (hp : p < 32) : (x >>> (nI p &&& 31)) &&& 1 = nI (if zbt x p then 1 else 0) := by
  have e : x = nI (bN x) := bN_inj (by rw [bN_nI (bN_lt x)])
  have h1 : (x >>> (nI p &&& 31)) &&& 1 = nI (bN x / 2 ^ p % 2) := by
    conv => lhs; rw [e]
    rw [pk_shrN (by omega) (nI p &&& 31) p (bt_s p hp), bt_1, bN_nI (show bN x / 2 ^ p < 2 ^ 32 from Nat.lt_of_le_of_lt (Nat.div_le_self _ _) (by omega))]
  rw [h1]
  congr 1
  unfold zbt
  rw [Nat.testBit_eq_decide_div_mod_eq]
  have : bN x / 2 ^ p % 2 < 2 := Nat.mod_lt _ (by omega)
  by_cases q : bN x / 2 ^ p % 2 = 1
  · rw [q]
    rfl
  · rw [decide_eq_false q]
    show bN x / 2 ^ p % 2 = 0
    omega
theorem zbt_hi {x : Int32} {n p : Nat} (hx : bN x < 2 ^ n) (hp : n ≤ p) : zbt x p = false := Nat.testBit_lt_two_pow (Nat.lt_of_lt_of_le hx (Nat.pow_le_pow_right (by omega) hp))
theorem pCt_hi {x : Int32} {n : Nat} (hx : bN x < 2 ^ n) : ∀ k, pCt (zbt x) (n + k) = pCt (zbt x) n
  | 0 => rfl
  | k + 1 => by
    show pCt (zbt x) (n + k) + (if zbt x (n + k) then 1 else 0) = _
    rw [zbt_hi hx (by omega), pCt_hi hx k]
    rfl
theorem gsT_hi {x : Int32} {n : Nat} (hx : bN x < 2 ^ n) : ∀ k, gsT x (n + k) = gsT x n
  | 0 => rfl
  | k + 1 => by
    rw [← Nat.add_assoc, gsT_s, zbt_hi hx (by omega), gsT_hi hx k]
    simp
theorem c_Mo_countBits {d : Nat} {μ : zMu} {x : Int32} {K : Option zV → zMu → Prop} (hx : bN x < 2 ^ 20) (hK : K (some (zI (nI (gsT x 20).length))) μ) : Ct d m_Mo_countBits [zI x] μ K := by
  refine zmeet rfl (Nat.le_of_ble_eq_true rfl) (fun S => ?_)
  have L : ∀ (k i : Nat) (c v : Int32), i + k = 31 → v = nI i → c = nI (pCt (zbt x) i) → zG S d m_Mo_countBits K 4 [some (zI x), some (zI c), some (zI v)] [] μ := by
    intro k
    induction k with
    | zero =>
      intro i c v hi hv hc
      obtain rfl : i = 31 := by omega
      subst hv hc
      have e : pCt (zbt x) 31 = (gsT x 20).length := by rw [gsT_len]; exact pCt_hi hx 11
      rw [e]
      refine zs k_Mo_countBits rfl ?_; conv => whnf
      repeat' (first
        | refine br_t (by decide) ?_
        | exact hK
        | (refine zs k_Mo_countBits rfl ?_; conv => whnf)
        | refine ⟨Nat.zero_lt_one, rfl, ?_⟩
        | refine ⟨rfl, ?_⟩
        | refine ⟨⟨Nat.zero_lt_one, rfl⟩, Nat.le_of_ble_eq_true rfl, ?_⟩
        | refine ⟨Nat.le_of_ble_eq_true rfl, Nat.le_of_ble_eq_true rfl, ?_⟩
        | refine ⟨(by first | exact Nat.zero_lt_one | assumption | omega), (by first | assumption | exact vp_in_nI (by omega) (by omega) | (unfold vp_in; decide)), ?_⟩
        | refine ⟨(by first | exact Nat.zero_lt_one | assumption | omega), rfl, ?_⟩
        | refine ⟨⟨(by first | exact Nat.zero_lt_one | assumption | omega), rfl⟩, Nat.le_of_ble_eq_true rfl, ?_⟩
        | refine ⟨(by first | exact Nat.zero_lt_one | assumption | omega), ?_⟩
        | refine ⟨Or.inl rfl, ?_⟩
        | refine ⟨Or.inr (Or.inl rfl), ?_⟩
        | refine ⟨Or.inr (Or.inr rfl), ?_⟩
        | refine ⟨Or.inr ⟨rfl, (by first | exact Or.inl rfl | exact Or.inr rfl | assumption)⟩, ?_⟩
        | refine ⟨fun h => absurd h (by decide), fun _ => ?_⟩
        | refine ⟨fun _ => ?_, fun h => absurd h (by decide)⟩
        | refine ⟨fun h => ?_, fun h => ?_⟩
        | fail)
    | succ k ih =>
      intro i c v hi hv hc
      subst hv
      have hb := bit_v (x := x) (p := i) hx (by omega)
      refine zs k_Mo_countBits rfl ?_; conv => whnf
      repeat' (first
        | refine br_f (nI_ge (b := 31) (by omega) (by omega)) ?_
        | refine ih (i + 1) _ _ (by omega) (by exact nI_1 i) ?_
        | (refine zs k_Mo_countBits rfl ?_; conv => whnf)
        | refine ⟨Nat.zero_lt_one, rfl, ?_⟩
        | refine ⟨rfl, ?_⟩
        | refine ⟨⟨Nat.zero_lt_one, rfl⟩, Nat.le_of_ble_eq_true rfl, ?_⟩
        | refine ⟨Nat.le_of_ble_eq_true rfl, Nat.le_of_ble_eq_true rfl, ?_⟩
        | refine ⟨(by first | exact Nat.zero_lt_one | assumption | omega), (by first | assumption | exact vp_in_nI (by omega) (by omega) | (unfold vp_in; decide)), ?_⟩
        | refine ⟨(by first | exact Nat.zero_lt_one | assumption | omega), rfl, ?_⟩
        | refine ⟨⟨(by first | exact Nat.zero_lt_one | assumption | omega), rfl⟩, Nat.le_of_ble_eq_true rfl, ?_⟩
        | refine ⟨(by first | exact Nat.zero_lt_one | assumption | omega), ?_⟩
        | refine ⟨Or.inl rfl, ?_⟩
        | refine ⟨Or.inr (Or.inl rfl), ?_⟩
        | refine ⟨Or.inr (Or.inr rfl), ?_⟩
        | refine ⟨Or.inr ⟨rfl, (by first | exact Or.inl rfl | exact Or.inr rfl | assumption)⟩, ?_⟩
        | refine ⟨fun h => absurd h (by decide), fun _ => ?_⟩
        | refine ⟨fun _ => ?_, fun h => absurd h (by decide)⟩
        | refine ⟨fun h => ?_, fun h => ?_⟩
        | fail)
      rw [hb, hc, nI_add]
      rfl
  repeat' (first
    | exact L 31 0 _ _ (by omega) rfl rfl
    | (refine zs k_Mo_countBits rfl ?_; conv => whnf)
    | refine ⟨Nat.zero_lt_one, rfl, ?_⟩
    | refine ⟨rfl, ?_⟩
    | refine ⟨⟨Nat.zero_lt_one, rfl⟩, Nat.le_of_ble_eq_true rfl, ?_⟩
    | refine ⟨Nat.le_of_ble_eq_true rfl, Nat.le_of_ble_eq_true rfl, ?_⟩
    | refine ⟨(by first | exact Nat.zero_lt_one | assumption | omega), (by first | assumption | exact vp_in_nI (by omega) (by omega) | (unfold vp_in; decide)), ?_⟩
    | refine ⟨(by first | exact Nat.zero_lt_one | assumption | omega), rfl, ?_⟩
    | refine ⟨⟨(by first | exact Nat.zero_lt_one | assumption | omega), rfl⟩, Nat.le_of_ble_eq_true rfl, ?_⟩
    | refine ⟨(by first | exact Nat.zero_lt_one | assumption | omega), ?_⟩
    | refine ⟨Or.inl rfl, ?_⟩
    | refine ⟨Or.inr (Or.inl rfl), ?_⟩
    | refine ⟨Or.inr (Or.inr rfl), ?_⟩
    | refine ⟨Or.inr ⟨rfl, (by first | exact Or.inl rfl | exact Or.inr rfl | assumption)⟩, ?_⟩
    | refine ⟨fun h => absurd h (by decide), fun _ => ?_⟩
    | refine ⟨fun _ => ?_, fun h => absurd h (by decide)⟩
    | refine ⟨fun h => ?_, fun h => ?_⟩
    | fail)
theorem c_Mo_begin {d n : Nat} {μ : zMu} {x : Int32} {K : Option zV → zMu → Prop} (hn : μ 48 0 5 = nI n) (h20 : n ≤ 20) (hx : bN x < 2 ^ n) (h7 : (gsT x 20).length ≤ 7) (hK : ∀ μ', (∀ f, f ≠ 96 → μ' f = μ f) → (∀ k, k < 12 → μ' 96 0 k = lw (gsT x 20) k) → K (some (zI (nI (gsT x 20).length))) μ') : Ct d m_Mo_begin [zR 48 0, zI x] μ K := by
  refine zmeet rfl (Nat.le_of_ble_eq_true rfl) (fun S => ?_)
  have hp : 2 ^ n ≤ 2 ^ 20 := Nat.pow_le_pow_right (by omega) h20
  have hgs : gsT x 20 = gsT x n := by
    have := gsT_hi hx (20 - n)
    rw [show n + (20 - n) = 20 by omega] at this
    exact this
  have L2 : ∀ (k i : Nat) (c v : Int32) (μ1 : zMu), i + k = n → v = nI i → c = nI (gsT x i).length → (∀ f, f ≠ 96 → μ1 f = μ f) → (∀ k, k < 12 → μ1 96 0 k = lw (gsT x i) k) → zG S d m_Mo_begin K 25 [some (zR 48 0), some (zI x), some (zI c), some (zI v)] [] μ1 := by
    intro k
    induction k with
    | zero =>
      intro i c v μ1 hi hv hc e1 e2
      obtain rfl : i = n := by omega
      subst hv hc
      have hk := hK μ1 e1 (fun k hk => by rw [hgs]; exact e2 k hk)
      rw [hgs] at hk
      have hle : μ1 48 0 5 ≤ nI i := by rw [e1 48 (by omega), hn]; exact nI_le (Nat.le_refl _) (by omega)
      refine zs k_Mo_begin rfl ?_; conv => whnf
      repeat' (first
        | refine br_t hle ?_
        | exact hk
        | (refine zs k_Mo_begin rfl ?_; conv => whnf)
        | refine ⟨Nat.zero_lt_one, rfl, ?_⟩
        | refine ⟨rfl, ?_⟩
        | refine ⟨⟨Nat.zero_lt_one, rfl⟩, Nat.le_of_ble_eq_true rfl, ?_⟩
        | refine ⟨Nat.le_of_ble_eq_true rfl, Nat.le_of_ble_eq_true rfl, ?_⟩
        | refine ⟨(by first | exact Nat.zero_lt_one | assumption | omega), (by first | assumption | exact vp_in_nI (by omega) (by omega) | (unfold vp_in; decide)), ?_⟩
        | refine ⟨(by first | exact Nat.zero_lt_one | assumption | omega), rfl, ?_⟩
        | refine ⟨⟨(by first | exact Nat.zero_lt_one | assumption | omega), rfl⟩, Nat.le_of_ble_eq_true rfl, ?_⟩
        | refine ⟨(by first | exact Nat.zero_lt_one | assumption | omega), ?_⟩
        | refine ⟨Or.inl rfl, ?_⟩
        | refine ⟨Or.inr (Or.inl rfl), ?_⟩
        | refine ⟨Or.inr (Or.inr rfl), ?_⟩
        | refine ⟨Or.inr ⟨rfl, (by first | exact Or.inl rfl | exact Or.inr rfl | assumption)⟩, ?_⟩
        | refine ⟨fun h => absurd h (by decide), fun _ => ?_⟩
        | refine ⟨fun _ => ?_, fun h => absurd h (by decide)⟩
        | refine ⟨fun h => ?_, fun h => ?_⟩
        | fail)
    | succ k ih =>
      intro i c v μ1 hi hv hc e1 e2
      subst hv
      have hle : ¬ μ1 48 0 5 ≤ nI i := by rw [e1 48 (by omega), hn]; exact nI_ge (by omega) (by omega)
      have hb := bit_v (x := x) (p := i) (by omega) (by omega)
      have hs := gsT_s x i
      obtain ⟨u, hu⟩ := gsT_pre (x := x) (p := i + 1) (n - (i + 1))
      rw [show i + 1 + (n - (i + 1)) = n by omega, ← hgs] at hu
      have hlen : (gsT x (i + 1)).length ≤ 7 := by
        have := congrArg List.length hu
        rw [List.length_append] at this
        omega
      cases hz : zbt x i with
      | true =>
        rw [hz] at hb hs
        have hb' : (x >>> (nI i &&& 31)) &&& 1 = 1 := hb
        rw [if_pos rfl] at hs
        rw [hs, List.length_append, List.length_singleton] at hlen
        have cc : c.toNatClampNeg = (gsT x i).length := by rw [hc]; exact nI_clamp (by omega)
        have vc : vp_in c 12 := by rw [hc]; exact vp_in_nI (by omega) (by omega)
        refine zs k_Mo_begin rfl ?_; conv => whnf
        repeat' (first
          | refine br_f hle ?_
          | refine bn_f hb' ?_
          | refine ih (i + 1) _ _ _ (by omega) (by exact nI_1 i) ?_ (fun f hf => ?_) (fun k hk => ?_)
          | (refine zs k_Mo_begin rfl ?_; conv => whnf)
          | refine ⟨Nat.zero_lt_one, rfl, ?_⟩
          | refine ⟨rfl, ?_⟩
          | refine ⟨⟨Nat.zero_lt_one, rfl⟩, Nat.le_of_ble_eq_true rfl, ?_⟩
          | refine ⟨Nat.le_of_ble_eq_true rfl, Nat.le_of_ble_eq_true rfl, ?_⟩
          | refine ⟨(by first | exact Nat.zero_lt_one | assumption | omega), (by first | assumption | exact vp_in_nI (by omega) (by omega) | (unfold vp_in; decide)), ?_⟩
          | refine ⟨(by first | exact Nat.zero_lt_one | assumption | omega), rfl, ?_⟩
          | refine ⟨⟨(by first | exact Nat.zero_lt_one | assumption | omega), rfl⟩, Nat.le_of_ble_eq_true rfl, ?_⟩
          | refine ⟨(by first | exact Nat.zero_lt_one | assumption | omega), ?_⟩
          | refine ⟨Or.inl rfl, ?_⟩
          | refine ⟨Or.inr (Or.inl rfl), ?_⟩
          | refine ⟨Or.inr (Or.inr rfl), ?_⟩
          | refine ⟨Or.inr ⟨rfl, (by first | exact Or.inl rfl | exact Or.inr rfl | assumption)⟩, ?_⟩
          | refine ⟨fun h => absurd h (by decide), fun _ => ?_⟩
          | refine ⟨fun _ => ?_, fun h => absurd h (by decide)⟩
          | refine ⟨fun h => ?_, fun h => ?_⟩
          | fail)
        · rw [hs, List.length_append, List.length_singleton, hc, nI_1]
        · funext a b
          rw [zu_ne (fun z => hf z.1), e1 f hf]
        · rw [cc, hs]
          by_cases q : k = (gsT x i).length
          · rw [q, zu_eq]
            exact lw_new.symm
          · rw [zu_ne (by omega), e2 k hk]
            rcases Nat.lt_or_ge k (gsT x i).length with w | w
            · exact (lw_app w).symm
            · rw [lw_out w, lw_out (by rw [List.length_append, List.length_singleton]; omega)]
      | false =>
        rw [hz] at hb hs
        have hb' : ¬ (x >>> (nI i &&& 31)) &&& 1 = 1 := by rw [hb]; decide
        have hs' : gsT x (i + 1) = gsT x i := by rw [hs]; simp
        refine zs k_Mo_begin rfl ?_; conv => whnf
        repeat' (first
          | refine br_f hle ?_
          | refine bn_t hb' ?_
          | refine ih (i + 1) _ _ _ (by omega) (by exact nI_1 i) (by rw [hs']; exact hc) e1 (by rw [hs']; exact e2)
          | (refine zs k_Mo_begin rfl ?_; conv => whnf)
          | refine ⟨Nat.zero_lt_one, rfl, ?_⟩
          | refine ⟨rfl, ?_⟩
          | refine ⟨⟨Nat.zero_lt_one, rfl⟩, Nat.le_of_ble_eq_true rfl, ?_⟩
          | refine ⟨Nat.le_of_ble_eq_true rfl, Nat.le_of_ble_eq_true rfl, ?_⟩
          | refine ⟨(by first | exact Nat.zero_lt_one | assumption | omega), (by first | assumption | exact vp_in_nI (by omega) (by omega) | (unfold vp_in; decide)), ?_⟩
          | refine ⟨(by first | exact Nat.zero_lt_one | assumption | omega), rfl, ?_⟩
          | refine ⟨⟨(by first | exact Nat.zero_lt_one | assumption | omega), rfl⟩, Nat.le_of_ble_eq_true rfl, ?_⟩
          | refine ⟨(by first | exact Nat.zero_lt_one | assumption | omega), ?_⟩
          | refine ⟨Or.inl rfl, ?_⟩
          | refine ⟨Or.inr (Or.inl rfl), ?_⟩
          | refine ⟨Or.inr (Or.inr rfl), ?_⟩
          | refine ⟨Or.inr ⟨rfl, (by first | exact Or.inl rfl | exact Or.inr rfl | assumption)⟩, ?_⟩
          | refine ⟨fun h => absurd h (by decide), fun _ => ?_⟩
          | refine ⟨fun _ => ?_, fun h => absurd h (by decide)⟩
          | refine ⟨fun h => ?_, fun h => ?_⟩
          | fail)
  have L1 : ∀ (k i : Nat) (v : Int32) (μ1 : zMu), i + k = 12 → v = nI i → (∀ f, f ≠ 96 → μ1 f = μ f) → (∀ k, k < i → μ1 96 0 k = -1) → zG S d m_Mo_begin K 4 [some (zR 48 0), some (zI x), some (zI 0), some (zI v)] [] μ1 := by
    intro k
    induction k with
    | zero =>
      intro i v μ1 hi hv e1 e2
      obtain rfl : i = 12 := by omega
      subst hv
      refine zs k_Mo_begin rfl ?_; conv => whnf
      repeat' (first
        | refine br_t (by decide) ?_
        | refine L2 n 0 _ _ _ (by omega) rfl rfl e1 (fun k hk => (e2 k hk).trans (lw_out (Nat.zero_le _)).symm)
        | (refine zs k_Mo_begin rfl ?_; conv => whnf)
        | refine ⟨Nat.zero_lt_one, rfl, ?_⟩
        | refine ⟨rfl, ?_⟩
        | refine ⟨⟨Nat.zero_lt_one, rfl⟩, Nat.le_of_ble_eq_true rfl, ?_⟩
        | refine ⟨Nat.le_of_ble_eq_true rfl, Nat.le_of_ble_eq_true rfl, ?_⟩
        | refine ⟨(by first | exact Nat.zero_lt_one | assumption | omega), (by first | assumption | exact vp_in_nI (by omega) (by omega) | (unfold vp_in; decide)), ?_⟩
        | refine ⟨(by first | exact Nat.zero_lt_one | assumption | omega), rfl, ?_⟩
        | refine ⟨⟨(by first | exact Nat.zero_lt_one | assumption | omega), rfl⟩, Nat.le_of_ble_eq_true rfl, ?_⟩
        | refine ⟨(by first | exact Nat.zero_lt_one | assumption | omega), ?_⟩
        | refine ⟨Or.inl rfl, ?_⟩
        | refine ⟨Or.inr (Or.inl rfl), ?_⟩
        | refine ⟨Or.inr (Or.inr rfl), ?_⟩
        | refine ⟨Or.inr ⟨rfl, (by first | exact Or.inl rfl | exact Or.inr rfl | assumption)⟩, ?_⟩
        | refine ⟨fun h => absurd h (by decide), fun _ => ?_⟩
        | refine ⟨fun _ => ?_, fun h => absurd h (by decide)⟩
        | refine ⟨fun h => ?_, fun h => ?_⟩
        | fail)
    | succ k ih =>
      intro i v μ1 hi hv e1 e2
      subst hv
      have ci : (nI i).toNatClampNeg = i := nI_clamp (by omega)
      refine zs k_Mo_begin rfl ?_; conv => whnf
      repeat' (first
        | refine br_f (nI_ge (b := 12) (by omega) (by omega)) ?_
        | refine ih (i + 1) _ _ (by omega) (by exact nI_1 i) (fun f hf => ?_) (fun k hk => ?_)
        | (refine zs k_Mo_begin rfl ?_; conv => whnf)
        | refine ⟨Nat.zero_lt_one, rfl, ?_⟩
        | refine ⟨rfl, ?_⟩
        | refine ⟨⟨Nat.zero_lt_one, rfl⟩, Nat.le_of_ble_eq_true rfl, ?_⟩
        | refine ⟨Nat.le_of_ble_eq_true rfl, Nat.le_of_ble_eq_true rfl, ?_⟩
        | refine ⟨(by first | exact Nat.zero_lt_one | assumption | omega), (by first | assumption | exact vp_in_nI (by omega) (by omega) | (unfold vp_in; decide)), ?_⟩
        | refine ⟨(by first | exact Nat.zero_lt_one | assumption | omega), rfl, ?_⟩
        | refine ⟨⟨(by first | exact Nat.zero_lt_one | assumption | omega), rfl⟩, Nat.le_of_ble_eq_true rfl, ?_⟩
        | refine ⟨(by first | exact Nat.zero_lt_one | assumption | omega), ?_⟩
        | refine ⟨Or.inl rfl, ?_⟩
        | refine ⟨Or.inr (Or.inl rfl), ?_⟩
        | refine ⟨Or.inr (Or.inr rfl), ?_⟩
        | refine ⟨Or.inr ⟨rfl, (by first | exact Or.inl rfl | exact Or.inr rfl | assumption)⟩, ?_⟩
        | refine ⟨fun h => absurd h (by decide), fun _ => ?_⟩
        | refine ⟨fun _ => ?_, fun h => absurd h (by decide)⟩
        | refine ⟨fun h => ?_, fun h => ?_⟩
        | fail)
      · funext a b
        rw [zu_ne (fun z => hf z.1), e1 f hf]
      · rw [ci]
        by_cases q : k = i
        · rw [q, zu_eq]
        · rw [zu_ne (by omega)]
          exact e2 k (by omega)
  repeat' (first
    | refine L1 12 0 _ _ (by omega) rfl (fun _ _ => rfl) (fun k hk => absurd hk (by omega))
    | (refine zs k_Mo_begin rfl ?_; conv => whnf)
    | refine ⟨Nat.zero_lt_one, rfl, ?_⟩
    | refine ⟨rfl, ?_⟩
    | refine ⟨⟨Nat.zero_lt_one, rfl⟩, Nat.le_of_ble_eq_true rfl, ?_⟩
    | refine ⟨Nat.le_of_ble_eq_true rfl, Nat.le_of_ble_eq_true rfl, ?_⟩
    | refine ⟨(by first | exact Nat.zero_lt_one | assumption | omega), (by first | assumption | exact vp_in_nI (by omega) (by omega) | (unfold vp_in; decide)), ?_⟩
    | refine ⟨(by first | exact Nat.zero_lt_one | assumption | omega), rfl, ?_⟩
    | refine ⟨⟨(by first | exact Nat.zero_lt_one | assumption | omega), rfl⟩, Nat.le_of_ble_eq_true rfl, ?_⟩
    | refine ⟨(by first | exact Nat.zero_lt_one | assumption | omega), ?_⟩
    | refine ⟨Or.inl rfl, ?_⟩
    | refine ⟨Or.inr (Or.inl rfl), ?_⟩
    | refine ⟨Or.inr (Or.inr rfl), ?_⟩
    | refine ⟨Or.inr ⟨rfl, (by first | exact Or.inl rfl | exact Or.inr rfl | assumption)⟩, ?_⟩
    | refine ⟨fun h => absurd h (by decide), fun _ => ?_⟩
    | refine ⟨fun _ => ?_, fun h => absurd h (by decide)⟩
    | refine ⟨fun h => ?_, fun h => ?_⟩
    | fail)
