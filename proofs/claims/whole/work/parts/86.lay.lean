/-! DESK: lay -/
def okLy (x : Int32) (n z : Nat) : Prop := bN x < 2 ^ n ∧ 1 ≤ (gsT x 20).length ∧ (gsT x 20).length ≤ 7 ∧ (gsT x 20).length ≤ z
theorem ln0 {x : Int32} (hx : bN x < 2 ^ 20) : (gsT x 20).length = 0 ↔ x = 0 := by
  constructor
  · intro h
    have h0 : ∀ p, p < 20 → zbt x p = false := fun p hp => by
      cases e : zbt x p with
      | false => rfl
      | true =>
        have hm : p ∈ gsT x 20 := gsT_mem.mpr ⟨hp, e⟩
        rw [List.eq_nil_of_length_eq_zero h] at hm
        cases hm
    have hb : bN x = 0 := by
      refine Nat.eq_of_testBit_eq (fun i => ?_)
      rw [Nat.zero_testBit]
      rcases Nat.lt_or_ge i 20 with q | q
      · exact h0 i q
      · exact zbt_hi hx q
    exact bN_inj (by rw [hb]; rfl)
  · intro h
    rw [h]
    decide
def fd (kp : List Nat → Bool) (pr : List Nat → Nat) (l : List (List Nat)) : Nat × List Nat := ((l.filter kp).map (fun v => (pr v, v))).foldl bst (1000000, [])
theorem fd_snoc {kp : List Nat → Bool} {pr : List Nat → Nat} {l : List (List Nat)} {v : List Nat} : fd kp pr (l ++ [v]) = if kp v = true then bst (fd kp pr l) (pr v, v) else fd kp pr l := by
  unfold fd
  rw [List.filter_append, List.map_append, List.foldl_append]
  by_cases h : kp v = true
  · rw [if_pos h, List.filter_cons_of_pos h]
    rfl
  · rw [if_neg h, List.filter_cons_of_neg h]
    rfl
theorem fd_le {kp : List Nat → Bool} {pr : List Nat → Nat} {l : List (List Nat)} : (fd kp pr l).1 ≤ 1000000 := bst_le
def lsB (b : Nat) : Int32 := if b = 1000000 then -6 else nI b
theorem lw_ok {v gs : List Nat} {n : Nat} (hp : v.Perm gs) (hg : ∀ g ∈ gs, g < n) : ∀ k, pOk n (lw v k) := fun k => by
  unfold lw
  cases h : v[k]? with
  | none => exact Or.inl rfl
  | some p => exact Or.inr ⟨p, hg p (hp.mem_iff.mp (List.mem_of_getElem? h)), rfl⟩
theorem lw_inj {v : List Nat} (hn : v.Nodup) (h20 : ∀ g ∈ v, g < 20) {j k : Nat} (hjk : j < k) (e : lw v j = lw v k) : lw v j = -1 := by
  unfold lw at *
  cases h : v[j]? with
  | none => rfl
  | some p =>
    rw [h] at e
    cases h' : v[k]? with
    | none =>
      rw [h'] at e
      have := h20 p (List.mem_of_getElem? h)
      exact absurd e (nI_nem1 (by omega))
    | some q =>
      rw [h'] at e
      have hp := h20 p (List.mem_of_getElem? h)
      have hq := h20 q (List.mem_of_getElem? h')
      obtain rfl : p = q := (nI_eq (by omega) (by omega)).mp e
      exact absurd (gs_ix hn h h') (by omega)
theorem lw_mem {v : List Nat} {z p : Nat} (hp : p < 20) (h20 : ∀ g ∈ v, g < 20) (hz : v.length ≤ z) : (∃ k, k < z ∧ lw v k = nI p) ↔ p ∈ v := by
  constructor
  · rintro ⟨k, hk, e⟩
    unfold lw at e
    cases h : v[k]? with
    | none =>
      rw [h] at e
      exact absurd e.symm (nI_nem1 (by omega))
    | some q =>
      rw [h] at e
      have hq := h20 q (List.mem_of_getElem? h)
      obtain rfl : q = p := (nI_eq (by omega) (by omega)).mp e
      exact List.mem_of_getElem? h
  · intro h
    obtain ⟨k, hk, e⟩ := List.getElem_of_mem h
    exact ⟨k, by omega, lw_at (by rw [List.getElem?_eq_getElem hk, e])⟩
def gTw (μ : zMu) (nt : Nat) : Prop := μ 48 0 42 = nI nt ∧ nt ≤ 4 ∧ ∀ t, t < nt → (μ 9 t 2 = 0 ∨ μ 9 t 2 = 1) ∧ μ 93 0 t = μ 9 t 2 ∧ ∃ z, 2 ≤ z ∧ z ≤ 12 ∧ μ 9 t 0 = nI z ∧ μ 94 0 t = nI z
set_option maxHeartbeats 4000000 in
theorem c_Mo_lay {d ns n nr nh nt : Nat} {μ : zMu} {x o day w : Int32} {K : Option zV → zMu → Prop} (g : gQ μ ns n nr nh) (g6 : gTw μ nt) (g7 : gFe μ) (g8 : gCo μ) (h0 : ¬ (okI nt x ∧ okO o day) → K (some (zI (-1))) μ)
    (h1 : ∀ t z, okO o day → t < nt → x = nI t → μ 9 t 0 = nI z → z ≤ 12 → ¬ okLy w n z → K (some (zI (-2))) μ)
    (h2 : ∀ t z, okO o day → t < nt → x = nI t → μ 9 t 0 = nI z → z ≤ 12 → okLy w n z → ¬ cAll μ w n → K (some (zI (-3))) μ)
    (h3 : ∀ t z, okO o day → t < nt → x = nI t → μ 9 t 0 = nI z → z ≤ 12 → okLy w n z → cAll μ w n → ∃ kp pr, (∀ v : List Nat, v.Perm (gsT w 20) → (mKp μ (lw v) (μ 9 t 2) z ↔ kp v = true)) ∧ (∀ v : List Nat, v.Perm (gsT w 20) → nI ((mO (lw v) (oN (cAd μ o day nr nh n) n (cLf0 μ n)) z (pCt (cLf0 μ n) n)).1 + nS (mTk μ (lw v) (μ 9 t 2) z) z) = nI (pr v) ∧ pr v < 1000000) ∧ ((fd kp pr (pm (gsT w 20).length [] (gsT w 20))).1 = 1000000 → ∀ μ', zScr μ μ' → K (some (zI (-6))) μ') ∧ ((fd kp pr (pm (gsT w 20).length [] (gsT w 20))).1 < 1000000 → ∀ μ' μ2, zScr μ μ2 → (∀ f, f ≠ 95 → μ' f = μ2 f) → (∀ k, ¬ (12 * t ≤ k ∧ k < 12 * t + 12) → μ' 95 0 k = μ 95 0 k) → (∀ k, k < 12 → μ' 95 0 (12 * t + k) = lw (fd kp pr (pm (gsT w 20).length [] (gsT w 20))).2 k) → K (some (zI (nI (fd kp pr (pm (gsT w 20).length [] (gsT w 20))).1))) μ')) : Ct (d + 10) m_Mo_lay [zR 48 0, zI x, zI o, zI day, zI w] μ K := by
  refine zmeet rfl (Nat.le_of_ble_eq_true rfl) (fun S => ?_)
  have h20 := g.2.1.2.2.1
  have hn := g.2.1.2.1
  have h4 := g6.2.1
  have hm := pCt_le (cLf0 μ n) n
  have hpn : 2 ^ n ≤ 2 ^ 20 := Nat.pow_le_pow_right (by omega) h20
  by_cases hx : okI nt x
  case neg =>
    have hk := h0 (fun q => hx q.1)
    have hx' : ¬ (0 ≤ x ∧ x < μ 48 0 42) := by rw [g6.1]; exact hx
    repeat' (first
      | refine c_Mo_isTable (fun h => absurd h hx') (fun _ => ?_)
      | exact hk
      | (refine zs k_Mo_lay rfl ?_; conv => whnf)
      | refine ⟨Nat.zero_lt_one, rfl, ?_⟩
      | refine ⟨rfl, ?_⟩
      | refine ⟨⟨Nat.zero_lt_one, rfl⟩, Nat.le_of_ble_eq_true rfl, ?_⟩
      | refine ⟨Nat.le_of_ble_eq_true rfl, Nat.le_of_ble_eq_true rfl, ?_⟩
      | refine ⟨(by first | exact Nat.zero_lt_one | assumption | omega), (by first | assumption | exact vp_in_nI (by omega) (by omega) | (unfold vp_in; decide)), ?_⟩
      | refine ⟨(by first | exact Nat.zero_lt_one | assumption | omega), rfl, ?_⟩
      | refine ⟨⟨(by first | exact Nat.zero_lt_one | assumption | omega), rfl⟩, Nat.le_of_ble_eq_true rfl, ?_⟩
      | refine ⟨(by first | exact Nat.zero_lt_one | assumption | omega), ?_⟩
      | refine ⟨Or.inl rfl, ?_⟩
      | refine ⟨Or.inr (Or.inl rfl), ?_⟩
      | refine ⟨Or.inr (Or.inr rfl), ?_⟩
      | refine ⟨Or.inr ⟨rfl, (by first | exact Or.inl rfl | exact Or.inr rfl | assumption)⟩, ?_⟩
      | refine ⟨fun h => absurd h (by decide), fun _ => ?_⟩
      | refine ⟨fun _ => ?_, fun h => absurd h (by decide)⟩
      | refine ⟨fun h => ?_, fun h => ?_⟩
      | fail)
  have hx' : 0 ≤ x ∧ x < μ 48 0 42 := by rw [g6.1]; exact hx
  by_cases ho : okO o day
  case neg =>
    have hk := h0 (fun q => ho q.2)
    repeat' (first
      | refine c_Mo_isTable (fun _ => ?_) (fun h => absurd hx' h)
      | refine c_Mo_isOccasion (fun q => absurd q ho) (fun _ => ?_)
      | exact hk
      | (refine zs k_Mo_lay rfl ?_; conv => whnf)
      | refine ⟨Nat.zero_lt_one, rfl, ?_⟩
      | refine ⟨rfl, ?_⟩
      | refine ⟨⟨Nat.zero_lt_one, rfl⟩, Nat.le_of_ble_eq_true rfl, ?_⟩
      | refine ⟨Nat.le_of_ble_eq_true rfl, Nat.le_of_ble_eq_true rfl, ?_⟩
      | refine ⟨(by first | exact Nat.zero_lt_one | assumption | omega), (by first | assumption | exact vp_in_nI (by omega) (by omega) | (unfold vp_in; decide)), ?_⟩
      | refine ⟨(by first | exact Nat.zero_lt_one | assumption | omega), rfl, ?_⟩
      | refine ⟨⟨(by first | exact Nat.zero_lt_one | assumption | omega), rfl⟩, Nat.le_of_ble_eq_true rfl, ?_⟩
      | refine ⟨(by first | exact Nat.zero_lt_one | assumption | omega), ?_⟩
      | refine ⟨Or.inl rfl, ?_⟩
      | refine ⟨Or.inr (Or.inl rfl), ?_⟩
      | refine ⟨Or.inr (Or.inr rfl), ?_⟩
      | refine ⟨Or.inr ⟨rfl, (by first | exact Or.inl rfl | exact Or.inr rfl | assumption)⟩, ?_⟩
      | refine ⟨fun h => absurd h (by decide), fun _ => ?_⟩
      | refine ⟨fun _ => ?_, fun h => absurd h (by decide)⟩
      | refine ⟨fun h => ?_, fun h => ?_⟩
      | fail)
  rcases zIx x (n := nt) (by omega) with ⟨t, ht, rfl⟩ | q
  case inr => exact absurd hx q
  obtain ⟨a1, a2, z, z1, z2, z3, z4⟩ := g6.2.2 t ht
  have ct : (nI t).toNatClampNeg = t := nI_clamp (by omega)
  have vt : vp_in (nI t) 4 := vp_in_nI (by omega) (by omega)
  have e94 : μ 94 0 (nI t).toNatClampNeg = nI z := by rw [ct]; exact z4
  have hset : (¬ w < 0 ∧ w < 1 <<< (μ 48 0 5 &&& 31)) ↔ bN w < 2 ^ n := by rw [hn]; exact set_lt h20
  by_cases hb : bN w < 2 ^ n
  case neg =>
    have hk := h1 t z ho ht rfl z3 z2 (fun q => hb q.1)
    by_cases w0 : w ≤ 0
    · skip
      repeat' (first
        | refine c_Mo_isTable (fun _ => ?_) (fun h => absurd hx' h)
        | refine c_Mo_isOccasion (fun _ => ?_) (fun q => absurd ho q)
        | refine br_t w0 ?_
        | exact hk
        | (refine zs k_Mo_lay rfl ?_; conv => whnf)
        | refine ⟨Nat.zero_lt_one, rfl, ?_⟩
        | refine ⟨rfl, ?_⟩
        | refine ⟨⟨Nat.zero_lt_one, rfl⟩, Nat.le_of_ble_eq_true rfl, ?_⟩
        | refine ⟨Nat.le_of_ble_eq_true rfl, Nat.le_of_ble_eq_true rfl, ?_⟩
        | refine ⟨(by first | exact Nat.zero_lt_one | assumption | omega), (by first | assumption | exact vp_in_nI (by omega) (by omega) | (unfold vp_in; decide)), ?_⟩
        | refine ⟨(by first | exact Nat.zero_lt_one | assumption | omega), rfl, ?_⟩
        | refine ⟨⟨(by first | exact Nat.zero_lt_one | assumption | omega), rfl⟩, Nat.le_of_ble_eq_true rfl, ?_⟩
        | refine ⟨(by first | exact Nat.zero_lt_one | assumption | omega), ?_⟩
        | refine ⟨Or.inl rfl, ?_⟩
        | refine ⟨Or.inr (Or.inl rfl), ?_⟩
        | refine ⟨Or.inr (Or.inr rfl), ?_⟩
        | refine ⟨Or.inr ⟨rfl, (by first | exact Or.inl rfl | exact Or.inr rfl | assumption)⟩, ?_⟩
        | refine ⟨fun h => absurd h (by decide), fun _ => ?_⟩
        | refine ⟨fun _ => ?_, fun h => absurd h (by decide)⟩
        | refine ⟨fun h => ?_, fun h => ?_⟩
        | fail)
    · have w1 : 1 <<< (μ 48 0 5 &&& 31) ≤ w := by
        have w2 : ¬ w < 0 := by grind
        have w3 : ¬ w < 1 <<< (μ 48 0 5 &&& 31) := fun q => hb (hset.mp ⟨w2, q⟩)
        grind
      repeat' (first
        | refine c_Mo_isTable (fun _ => ?_) (fun h => absurd hx' h)
        | refine c_Mo_isOccasion (fun _ => ?_) (fun q => absurd ho q)
        | refine br_f w0 ?_
        | refine br_t w1 ?_
        | exact hk
        | (refine zs k_Mo_lay rfl ?_; conv => whnf)
        | refine ⟨Nat.zero_lt_one, rfl, ?_⟩
        | refine ⟨rfl, ?_⟩
        | refine ⟨⟨Nat.zero_lt_one, rfl⟩, Nat.le_of_ble_eq_true rfl, ?_⟩
        | refine ⟨Nat.le_of_ble_eq_true rfl, Nat.le_of_ble_eq_true rfl, ?_⟩
        | refine ⟨(by first | exact Nat.zero_lt_one | assumption | omega), (by first | assumption | exact vp_in_nI (by omega) (by omega) | (unfold vp_in; decide)), ?_⟩
        | refine ⟨(by first | exact Nat.zero_lt_one | assumption | omega), rfl, ?_⟩
        | refine ⟨⟨(by first | exact Nat.zero_lt_one | assumption | omega), rfl⟩, Nat.le_of_ble_eq_true rfl, ?_⟩
        | refine ⟨(by first | exact Nat.zero_lt_one | assumption | omega), ?_⟩
        | refine ⟨Or.inl rfl, ?_⟩
        | refine ⟨Or.inr (Or.inl rfl), ?_⟩
        | refine ⟨Or.inr (Or.inr rfl), ?_⟩
        | refine ⟨Or.inr ⟨rfl, (by first | exact Or.inl rfl | exact Or.inr rfl | assumption)⟩, ?_⟩
        | refine ⟨fun h => absurd h (by decide), fun _ => ?_⟩
        | refine ⟨fun _ => ?_, fun h => absurd h (by decide)⟩
        | refine ⟨fun h => ?_, fun h => ?_⟩
        | fail)
  have hb20 : bN w < 2 ^ 20 := by omega
  have hw := hset.mpr hb
  by_cases wz : w = 0
  · have hk := h1 t z ho ht rfl z3 z2 (fun q => absurd ((ln0 hb20).mpr wz) (by have := q.2.1; omega))
    have w0 : w ≤ 0 := by rw [wz]; decide
    repeat' (first
      | refine c_Mo_isTable (fun _ => ?_) (fun h => absurd hx' h)
      | refine c_Mo_isOccasion (fun _ => ?_) (fun q => absurd ho q)
      | refine br_t w0 ?_
      | exact hk
      | (refine zs k_Mo_lay rfl ?_; conv => whnf)
      | refine ⟨Nat.zero_lt_one, rfl, ?_⟩
      | refine ⟨rfl, ?_⟩
      | refine ⟨⟨Nat.zero_lt_one, rfl⟩, Nat.le_of_ble_eq_true rfl, ?_⟩
      | refine ⟨Nat.le_of_ble_eq_true rfl, Nat.le_of_ble_eq_true rfl, ?_⟩
      | refine ⟨(by first | exact Nat.zero_lt_one | assumption | omega), (by first | assumption | exact vp_in_nI (by omega) (by omega) | (unfold vp_in; decide)), ?_⟩
      | refine ⟨(by first | exact Nat.zero_lt_one | assumption | omega), rfl, ?_⟩
      | refine ⟨⟨(by first | exact Nat.zero_lt_one | assumption | omega), rfl⟩, Nat.le_of_ble_eq_true rfl, ?_⟩
      | refine ⟨(by first | exact Nat.zero_lt_one | assumption | omega), ?_⟩
      | refine ⟨Or.inl rfl, ?_⟩
      | refine ⟨Or.inr (Or.inl rfl), ?_⟩
      | refine ⟨Or.inr (Or.inr rfl), ?_⟩
      | refine ⟨Or.inr ⟨rfl, (by first | exact Or.inl rfl | exact Or.inr rfl | assumption)⟩, ?_⟩
      | refine ⟨fun h => absurd h (by decide), fun _ => ?_⟩
      | refine ⟨fun _ => ?_, fun h => absurd h (by decide)⟩
      | refine ⟨fun h => ?_, fun h => ?_⟩
      | fail)
  have w0 : ¬ w ≤ 0 := by have := hw.1; grind
  have w1 : ¬ 1 <<< (μ 48 0 5 &&& 31) ≤ w := by have := hw.2; grind
  have hl1 : 1 ≤ (gsT w 20).length := by
    rcases Nat.eq_zero_or_pos (gsT w 20).length with q | q
    · exact absurd ((ln0 hb20).mp q) wz
    · exact q
  have hl20 : (gsT w 20).length ≤ 20 := by rw [gsT_len]; exact pCt_le _ _
  by_cases h7 : (gsT w 20).length ≤ 7
  case neg =>
    have hk := h1 t z ho ht rfl z3 z2 (fun q => h7 q.2.2.1)
    have w2 : 7 < nI (gsT w 20).length := nI_lt (a := 7) (by omega) (by omega)
    repeat' (first
      | refine c_Mo_isTable (fun _ => ?_) (fun h => absurd hx' h)
      | refine c_Mo_isOccasion (fun _ => ?_) (fun q => absurd ho q)
      | refine br_f w0 ?_
      | refine br_f w1 ?_
      | refine c_Mo_countBits hb20 ?_
      | refine br_t w2 ?_
      | exact hk
      | (refine zs k_Mo_lay rfl ?_; conv => whnf)
      | refine ⟨Nat.zero_lt_one, rfl, ?_⟩
      | refine ⟨rfl, ?_⟩
      | refine ⟨⟨Nat.zero_lt_one, rfl⟩, Nat.le_of_ble_eq_true rfl, ?_⟩
      | refine ⟨Nat.le_of_ble_eq_true rfl, Nat.le_of_ble_eq_true rfl, ?_⟩
      | refine ⟨(by first | exact Nat.zero_lt_one | assumption | omega), (by first | assumption | exact vp_in_nI (by omega) (by omega) | (unfold vp_in; decide)), ?_⟩
      | refine ⟨(by first | exact Nat.zero_lt_one | assumption | omega), rfl, ?_⟩
      | refine ⟨⟨(by first | exact Nat.zero_lt_one | assumption | omega), rfl⟩, Nat.le_of_ble_eq_true rfl, ?_⟩
      | refine ⟨(by first | exact Nat.zero_lt_one | assumption | omega), ?_⟩
      | refine ⟨Or.inl rfl, ?_⟩
      | refine ⟨Or.inr (Or.inl rfl), ?_⟩
      | refine ⟨Or.inr (Or.inr rfl), ?_⟩
      | refine ⟨Or.inr ⟨rfl, (by first | exact Or.inl rfl | exact Or.inr rfl | assumption)⟩, ?_⟩
      | refine ⟨fun h => absurd h (by decide), fun _ => ?_⟩
      | refine ⟨fun _ => ?_, fun h => absurd h (by decide)⟩
      | refine ⟨fun h => ?_, fun h => ?_⟩
      | fail)
  have w2 : ¬ 7 < nI (gsT w 20).length := nI_nlt (b := (gsT w 20).length) (a := 7) h7 (by omega)
  by_cases hz : (gsT w 20).length ≤ z
  case neg =>
    have hk := h1 t z ho ht rfl z3 z2 (fun q => hz q.2.2.2)
    have w3 : ¬ nI (gsT w 20).length ≤ μ 94 0 (nI t).toNatClampNeg := by rw [e94]; exact nI_ge (by omega) (by omega)
    repeat' (first
      | refine c_Mo_isTable (fun _ => ?_) (fun h => absurd hx' h)
      | refine c_Mo_isOccasion (fun _ => ?_) (fun q => absurd ho q)
      | refine br_f w0 ?_
      | refine br_f w1 ?_
      | refine c_Mo_countBits hb20 ?_
      | refine br_f w2 ?_
      | refine br_f w3 ?_
      | exact hk
      | (refine zs k_Mo_lay rfl ?_; conv => whnf)
      | refine ⟨Nat.zero_lt_one, rfl, ?_⟩
      | refine ⟨rfl, ?_⟩
      | refine ⟨⟨Nat.zero_lt_one, rfl⟩, Nat.le_of_ble_eq_true rfl, ?_⟩
      | refine ⟨Nat.le_of_ble_eq_true rfl, Nat.le_of_ble_eq_true rfl, ?_⟩
      | refine ⟨(by first | exact Nat.zero_lt_one | assumption | omega), (by first | assumption | exact vp_in_nI (by omega) (by omega) | (unfold vp_in; decide)), ?_⟩
      | refine ⟨(by first | exact Nat.zero_lt_one | assumption | omega), rfl, ?_⟩
      | refine ⟨⟨(by first | exact Nat.zero_lt_one | assumption | omega), rfl⟩, Nat.le_of_ble_eq_true rfl, ?_⟩
      | refine ⟨(by first | exact Nat.zero_lt_one | assumption | omega), ?_⟩
      | refine ⟨Or.inl rfl, ?_⟩
      | refine ⟨Or.inr (Or.inl rfl), ?_⟩
      | refine ⟨Or.inr (Or.inr rfl), ?_⟩
      | refine ⟨Or.inr ⟨rfl, (by first | exact Or.inl rfl | exact Or.inr rfl | assumption)⟩, ?_⟩
      | refine ⟨fun h => absurd h (by decide), fun _ => ?_⟩
      | refine ⟨fun _ => ?_, fun h => absurd h (by decide)⟩
      | refine ⟨fun h => ?_, fun h => ?_⟩
      | fail)
  have w3 : nI (gsT w 20).length ≤ μ 94 0 (nI t).toNatClampNeg := by rw [e94]; exact nI_le hz (by omega)
  have hok : okLy w n z := ⟨hb, hl1, h7, hz⟩
  have bit : ∀ i, i < n → ((w >>> (nI i &&& 31)) &&& 1 = 1 ↔ zbit w (nI i)) := fun i hi => bit_s h20 hb (by omega)
  -- all present: then on
  have main : cAll μ w n → ∀ (l5 : Option zV), zG S (d + 10) m_Mo_lay K 103 [some (zR 48 0), some (zI (nI t)), some (zI o), some (zI day), some (zI w), l5, none, none, none, none] [] μ := fun hall l5 => by
    obtain ⟨kp, pr, k1, k2, k3, k4⟩ := h3 t z ho ht rfl z3 z2 hok hall
    have gsn : ∀ q ∈ gsT w 20, q < n := fun q hq => by
      have hq2 := (gsT_mem.mp hq).2
      rcases Nat.lt_or_ge q n with w | w
      · exact w
      · rw [zbt_hi hb w] at hq2
        cases hq2
    have gs20 : ∀ q ∈ gsT w 20, q < 20 := fun q hq => (gsT_mem.mp hq).1
    have gsd : (gsT w 20).Nodup := (gsT_sorted w 20).imp (fun h => by omega)
    obtain ⟨l, pm1, pm2⟩ := pm_chn (m := (gsT w 20).length) (w := []) (A := gsT w 20) rfl (gsT_sorted w 20)
    rw [List.nil_append, List.nil_append] at pm2
    rw [List.nil_append] at pm1
    generalize hM : pm (gsT w 20).length [] (gsT w 20) = M at k3 k4 pm1
    generalize hG : gsT w 20 = gs at *
    generalize hO : oN (cAd μ o day nr nh n) n (cLf0 μ n) = og at k2
    generalize hmm : pCt (cLf0 μ n) n = m at k2 hm
    -- the end
    have E : ∀ (l8 l9 : Option zV) (μ1 : zMu), zScr μ μ1 → ((fd kp pr M).1 < 1000000 → ∀ k, k < 12 → μ1 97 0 k = lw (fd kp pr M).2 k) → zG S (d + 10) m_Mo_lay K 201 [some (zR 48 0), some (zI (nI t)), some (zI o), some (zI day), some (zI w), some (zI (nI gs.length)), some (zI (lsB (fd kp pr M).1)), some (zI 0), l8, l9] [] μ1 := fun l8 l9 μ1 s1 hbst => by
      by_cases hf : (fd kp pr M).1 = 1000000
      · have hk := k3 hf μ1 s1
        have hls : lsB (fd kp pr M).1 = -6 := if_pos hf
        rw [hls]
        repeat' (first
          | exact hk
          | (refine zs k_Mo_lay rfl ?_; conv => whnf)
          | refine ⟨Nat.zero_lt_one, rfl, ?_⟩
          | refine ⟨rfl, ?_⟩
          | refine ⟨⟨Nat.zero_lt_one, rfl⟩, Nat.le_of_ble_eq_true rfl, ?_⟩
          | refine ⟨Nat.le_of_ble_eq_true rfl, Nat.le_of_ble_eq_true rfl, ?_⟩
          | refine ⟨(by first | exact Nat.zero_lt_one | assumption | omega), (by first | assumption | exact vp_in_nI (by omega) (by omega) | (unfold vp_in; decide)), ?_⟩
          | refine ⟨(by first | exact Nat.zero_lt_one | assumption | omega), rfl, ?_⟩
          | refine ⟨⟨(by first | exact Nat.zero_lt_one | assumption | omega), rfl⟩, Nat.le_of_ble_eq_true rfl, ?_⟩
          | refine ⟨(by first | exact Nat.zero_lt_one | assumption | omega), ?_⟩
          | refine ⟨Or.inl rfl, ?_⟩
          | refine ⟨Or.inr (Or.inl rfl), ?_⟩
          | refine ⟨Or.inr (Or.inr rfl), ?_⟩
          | refine ⟨Or.inr ⟨rfl, (by first | exact Or.inl rfl | exact Or.inr rfl | assumption)⟩, ?_⟩
          | refine ⟨fun h => absurd h (by decide), fun _ => ?_⟩
          | refine ⟨fun _ => ?_, fun h => absurd h (by decide)⟩
          | refine ⟨fun h => ?_, fun h => ?_⟩
          | fail)
      · have hflt : (fd kp pr M).1 < 1000000 := by have := fd_le (kp := kp) (pr := pr) (l := M); omega
        have hls : lsB (fd kp pr M).1 = nI (fd kp pr M).1 := if_neg hf
        have hb2 := hbst hflt
        have hk := k4 hflt
        rw [hls]
        have e95 : μ1 95 = μ 95 := zScr_in s1 (l := [95]) rfl 95 (by simp)
        generalize fd kp pr M = F at *
        have hpos : ¬ nI F.1 < 0 := nI_pos (by omega)
        have L4 : ∀ (k i : Nat) (v : Int32) (μ2 : zMu), i + k = 12 → v = nI i → (∀ f, f ≠ 95 → μ2 f = μ1 f) → (∀ k, ¬ (12 * t ≤ k ∧ k < 12 * t + 12) → μ2 95 0 k = μ 95 0 k) → (∀ k, k < i → μ2 95 0 (12 * t + k) = lw F.2 k) → zG S (d + 10) m_Mo_lay K 204 [some (zR 48 0), some (zI (nI t)), some (zI o), some (zI day), some (zI w), some (zI (nI gs.length)), some (zI (nI F.1)), some (zI 0), some (zI v), l9] [] μ2 := by
          intro k
          induction k with
          | zero =>
            intro i v μ2 hi hv e1 e2 e3
            obtain rfl : i = 12 := by omega
            subst hv
            have hk2 := hk μ2 μ1 s1 e1 e2 e3
            refine zs k_Mo_lay rfl ?_; conv => whnf
            repeat' (first
              | refine br_t (show (12 : Int32) ≤ nI 12 by decide) ?_
              | exact hk2
              | (refine zs k_Mo_lay rfl ?_; conv => whnf)
              | refine ⟨Nat.zero_lt_one, rfl, ?_⟩
              | refine ⟨rfl, ?_⟩
              | refine ⟨⟨Nat.zero_lt_one, rfl⟩, Nat.le_of_ble_eq_true rfl, ?_⟩
              | refine ⟨Nat.le_of_ble_eq_true rfl, Nat.le_of_ble_eq_true rfl, ?_⟩
              | refine ⟨(by first | exact Nat.zero_lt_one | assumption | omega), (by first | assumption | exact vp_in_nI (by omega) (by omega) | (unfold vp_in; decide)), ?_⟩
              | refine ⟨(by first | exact Nat.zero_lt_one | assumption | omega), rfl, ?_⟩
              | refine ⟨⟨(by first | exact Nat.zero_lt_one | assumption | omega), rfl⟩, Nat.le_of_ble_eq_true rfl, ?_⟩
              | refine ⟨(by first | exact Nat.zero_lt_one | assumption | omega), ?_⟩
              | refine ⟨Or.inl rfl, ?_⟩
              | refine ⟨Or.inr (Or.inl rfl), ?_⟩
              | refine ⟨Or.inr (Or.inr rfl), ?_⟩
              | refine ⟨Or.inr ⟨rfl, (by first | exact Or.inl rfl | exact Or.inr rfl | assumption)⟩, ?_⟩
              | refine ⟨fun h => absurd h (by decide), fun _ => ?_⟩
              | refine ⟨fun _ => ?_, fun h => absurd h (by decide)⟩
              | refine ⟨fun h => ?_, fun h => ?_⟩
              | fail)
          | succ k ih =>
            intro i v μ2 hi hv e1 e2 e3
            subst hv
            have ci : (nI i).toNatClampNeg = i := nI_clamp (by omega)
            have m1 : (12 : Int32) * nI t + nI i = nI (12 * t + i) := by rw [show (12 : Int32) * nI t = nI (12 * t) from pk_mul 12 t, nI_add]
            have v1 : vp_in ((12 : Int32) * nI t + nI i) 48 := by rw [m1]; exact vp_in_nI (by omega) (by omega)
            have c1 : ((12 : Int32) * nI t + nI i).toNatClampNeg = 12 * t + i := by rw [m1]; exact nI_clamp (by omega)
            have hle : ¬ (12 : Int32) ≤ nI i := nI_ge (b := 12) (by omega) (by omega)
            refine zs k_Mo_lay rfl ?_; conv => whnf
            repeat' (first
              | refine br_f hle ?_
              | refine br_f hpos ?_
              | refine ih (i + 1) _ _ (by omega) (by exact nI_1 i) (fun f hf => ?_) (fun k hk => ?_) (fun k hk => ?_)
              | (refine zs k_Mo_lay rfl ?_; conv => whnf)
              | refine ⟨Nat.zero_lt_one, rfl, ?_⟩
              | refine ⟨rfl, ?_⟩
              | refine ⟨⟨Nat.zero_lt_one, rfl⟩, Nat.le_of_ble_eq_true rfl, ?_⟩
              | refine ⟨Nat.le_of_ble_eq_true rfl, Nat.le_of_ble_eq_true rfl, ?_⟩
              | refine ⟨(by first | exact Nat.zero_lt_one | assumption | omega), (by first | assumption | exact vp_in_nI (by omega) (by omega) | (unfold vp_in; decide)), ?_⟩
              | refine ⟨(by first | exact Nat.zero_lt_one | assumption | omega), rfl, ?_⟩
              | refine ⟨⟨(by first | exact Nat.zero_lt_one | assumption | omega), rfl⟩, Nat.le_of_ble_eq_true rfl, ?_⟩
              | refine ⟨(by first | exact Nat.zero_lt_one | assumption | omega), ?_⟩
              | refine ⟨Or.inl rfl, ?_⟩
              | refine ⟨Or.inr (Or.inl rfl), ?_⟩
              | refine ⟨Or.inr (Or.inr rfl), ?_⟩
              | refine ⟨Or.inr ⟨rfl, (by first | exact Or.inl rfl | exact Or.inr rfl | assumption)⟩, ?_⟩
              | refine ⟨fun h => absurd h (by decide), fun _ => ?_⟩
              | refine ⟨fun _ => ?_, fun h => absurd h (by decide)⟩
              | refine ⟨fun h => ?_, fun h => ?_⟩
              | fail)
            · funext a b
              rw [zu_ne (fun q => hf q.1), e1 f hf]
            · rw [c1, zu_ne (by omega)]
              exact e2 k hk
            · rw [c1, ci, e1 97 (by omega)]
              by_cases q : k = i
              · rw [q, zu_eq]
                exact hb2 i (by omega)
              · rw [zu_ne (by omega)]
                exact e3 k (by omega)
        repeat' (first
          | refine L4 12 0 _ _ (by omega) rfl (fun _ _ => rfl) (fun k _ => by rw [e95]) (fun k hk => absurd hk (by omega))
          | (refine zs k_Mo_lay rfl ?_; conv => whnf)
          | refine ⟨Nat.zero_lt_one, rfl, ?_⟩
          | refine ⟨rfl, ?_⟩
          | refine ⟨⟨Nat.zero_lt_one, rfl⟩, Nat.le_of_ble_eq_true rfl, ?_⟩
          | refine ⟨Nat.le_of_ble_eq_true rfl, Nat.le_of_ble_eq_true rfl, ?_⟩
          | refine ⟨(by first | exact Nat.zero_lt_one | assumption | omega), (by first | assumption | exact vp_in_nI (by omega) (by omega) | (unfold vp_in; decide)), ?_⟩
          | refine ⟨(by first | exact Nat.zero_lt_one | assumption | omega), rfl, ?_⟩
          | refine ⟨⟨(by first | exact Nat.zero_lt_one | assumption | omega), rfl⟩, Nat.le_of_ble_eq_true rfl, ?_⟩
          | refine ⟨(by first | exact Nat.zero_lt_one | assumption | omega), ?_⟩
          | refine ⟨Or.inl rfl, ?_⟩
          | refine ⟨Or.inr (Or.inl rfl), ?_⟩
          | refine ⟨Or.inr (Or.inr rfl), ?_⟩
          | refine ⟨Or.inr ⟨rfl, (by first | exact Or.inl rfl | exact Or.inr rfl | assumption)⟩, ?_⟩
          | refine ⟨fun h => absurd h (by decide), fun _ => ?_⟩
          | refine ⟨fun _ => ?_, fun h => absurd h (by decide)⟩
          | refine ⟨fun h => ?_, fun h => ?_⟩
          | fail)
    -- what holds at the head
    have inv0 : ∀ (μ1 : zMu) (v : List Nat), zScr μ μ1 → v.Perm gs → (∀ k, k < 12 → μ1 96 0 k = lw v k) → mT μ1 ns n t z (μ 9 t 2) (lw v) ∧ (mKp μ1 (lw v) (μ 9 t 2) z ↔ kp v = true) ∧ mTk μ1 (lw v) (μ 9 t 2) z = mTk μ (lw v) (μ 9 t 2) z := fun μ1 v s1 hp e1 => by
      obtain ⟨g1', g2', -, -⟩ := gQ_scr s1 g
      refine ⟨⟨g1', g2', gFe_fr (zScr_in s1 rfl) g7, gCo_fr (zScr_in s1 rfl) g8, by omega, by rw [zScr_in s1 (l := [94]) rfl 94 (by simp)]; exact z4, z1, z2, by rw [zScr_in s1 (l := [93]) rfl 93 (by simp)]; exact a2, a1, e1, fun k _ => lw_ok hp gsn k⟩, ?_, hPr_fr (zScr_in s1 (l := [38]) rfl 38 (by simp)) (zScr_in s1 (l := [17]) rfl 17 (by simp))⟩
      rw [← k1 v hp]
      unfold mKp kC hFd
      rw [zScr_in s1 (l := [36]) rfl 36 (by simp), zScr_in s1 (l := [17]) rfl 17 (by simp)]
    have stp : ∀ (v : List Nat) (done : List (List Nat)) (ls : Int32) (l8 l9 : Option zV) (μ1 : zMu), v.Perm gs → zScr μ μ1 → μ1 48 0 37 = nI m → (∀ k, k < m → μ1 86 0 k = nI (og k)) → (∀ k, k < 12 → μ1 96 0 k = lw v k) → ls = lsB (fd kp pr done).1 → ((fd kp pr done).1 < 1000000 → ∀ k, k < 12 → μ1 97 0 k = lw (fd kp pr done).2 k) → (∀ (ls' : Int32) (l8' l9' : Option zV) (μ2 : zMu), zScr μ μ2 → μ2 48 0 37 = nI m → (∀ k, k < m → μ2 86 0 k = nI (og k)) → (∀ k, k < 12 → μ2 96 0 k = lw v k) → ls' = lsB (fd kp pr (done ++ [v])).1 → ((fd kp pr (done ++ [v])).1 < 1000000 → ∀ k, k < 12 → μ2 97 0 k = lw (fd kp pr (done ++ [v])).2 k) → zG S (d + 10) m_Mo_lay K 190 [some (zR 48 0), some (zI (nI t)), some (zI o), some (zI day), some (zI w), some (zI (nI gs.length)), some (zI ls'), some (zI 1), l8', l9'] [] μ2) → zG S (d + 10) m_Mo_lay K 124 [some (zR 48 0), some (zI (nI t)), some (zI o), some (zI day), some (zI w), some (zI (nI gs.length)), some (zI ls), some (zI 1), l8, l9] [] μ1 := by
      intro v done ls l8 l9 μ1 hp s1 o1 o2 e96 hls h97 nxt
      obtain ⟨T1, T2, T3⟩ := inv0 μ1 v s1 hp e96
      obtain ⟨q1, q2⟩ := k2 v hp
      have hfl := fd_le (kp := kp) (pr := pr) (l := done)
      have hsn := fd_snoc (kp := kp) (pr := pr) (l := done) (v := v)
      by_cases hkp : kp v = true
      case neg =>
        rw [if_neg hkp] at hsn
        rw [hsn] at nxt
        refine zs k_Mo_lay rfl ?_; conv => whnf
        repeat' (first
          | refine c_Mo_isKept T1 rfl (fun q => absurd (T2.mp q) hkp) (fun _ => ?_)
          | exact nxt _ _ _ _ s1 o1 o2 e96 hls h97
          | (refine zs k_Mo_lay rfl ?_; conv => whnf)
          | refine ⟨Nat.zero_lt_one, rfl, ?_⟩
          | refine ⟨rfl, ?_⟩
          | refine ⟨⟨Nat.zero_lt_one, rfl⟩, Nat.le_of_ble_eq_true rfl, ?_⟩
          | refine ⟨Nat.le_of_ble_eq_true rfl, Nat.le_of_ble_eq_true rfl, ?_⟩
          | refine ⟨(by first | exact Nat.zero_lt_one | assumption | omega), (by first | assumption | exact vp_in_nI (by omega) (by omega) | (unfold vp_in; decide)), ?_⟩
          | refine ⟨(by first | exact Nat.zero_lt_one | assumption | omega), rfl, ?_⟩
          | refine ⟨⟨(by first | exact Nat.zero_lt_one | assumption | omega), rfl⟩, Nat.le_of_ble_eq_true rfl, ?_⟩
          | refine ⟨(by first | exact Nat.zero_lt_one | assumption | omega), ?_⟩
          | refine ⟨Or.inl rfl, ?_⟩
          | refine ⟨Or.inr (Or.inl rfl), ?_⟩
          | refine ⟨Or.inr (Or.inr rfl), ?_⟩
          | refine ⟨Or.inr ⟨rfl, (by first | exact Or.inl rfl | exact Or.inr rfl | assumption)⟩, ?_⟩
          | refine ⟨fun h => absurd h (by decide), fun _ => ?_⟩
          | refine ⟨fun _ => ?_, fun h => absurd h (by decide)⟩
          | refine ⟨fun h => ?_, fun h => ?_⟩
          | fail)
      rw [if_pos hkp] at hsn
      have keep := T2.mpr hkp
      have hpri : nI ((mO (lw v) og z m).1 + nS (mTk μ1 (lw v) (μ 9 t 2) z) z) = nI (pr v) := by rw [T3]; exact q1
      have take : pr v < (fd kp pr done).1 → ∀ (l9 : Option zV) (y : Int32), y = nI (pr v) → zG S (d + 10) m_Mo_lay K 156 [some (zR 48 0), some (zI (nI t)), some (zI o), some (zI day), some (zI w), some (zI (nI gs.length)), some (zI ls), some (zI 1), some (zI y), l9] [] μ1 := fun hlt l9 y hy => by
        have hbs : bst (fd kp pr done) (pr v, v) = (pr v, v) := if_pos hlt
        rw [hbs] at hsn
        rw [hsn] at nxt
        have L5 : ∀ (k i : Nat) (c : Int32) (μ2 : zMu), i + k = 12 → c = nI i → (∀ f, f ≠ 97 → μ2 f = μ1 f) → (∀ k, k < i → μ2 97 0 k = lw v k) → zG S (d + 10) m_Mo_lay K 163 [some (zR 48 0), some (zI (nI t)), some (zI o), some (zI day), some (zI w), some (zI (nI gs.length)), some (zI y), some (zI 1), some (zI y), some (zI c)] [] μ2 := by
          intro k
          induction k with
          | zero =>
            intro i c μ2 hi hc e1 e2
            obtain rfl : i = 12 := by omega
            subst hc
            have s2 : zScr μ μ2 := zScr_tr s1 ⟨fun f hf => e1 f (fun q => hf (by rw [q]; decide)), by rw [e1 2 (by omega)], fun k _ => by rw [e1 48 (by omega)]⟩
            have hk2 := nxt y (some (zI y)) (some (zI (nI 12))) μ2 s2 (by rw [e1 48 (by omega)]; exact o1) (fun k hk => by rw [e1 86 (by omega)]; exact o2 k hk) (fun k hk => by rw [e1 96 (by omega)]; exact e96 k hk) (by rw [hy]; exact (if_neg (show ¬ pr v = 1000000 by omega)).symm) (fun _ => e2)
            refine zs k_Mo_lay rfl ?_; conv => whnf
            repeat' (first
              | exact hk2
              | refine br_t (show (12 : Int32) ≤ nI 12 by decide) ?_
              | (refine zs k_Mo_lay rfl ?_; conv => whnf)
              | refine ⟨Nat.zero_lt_one, rfl, ?_⟩
              | refine ⟨rfl, ?_⟩
              | refine ⟨⟨Nat.zero_lt_one, rfl⟩, Nat.le_of_ble_eq_true rfl, ?_⟩
              | refine ⟨Nat.le_of_ble_eq_true rfl, Nat.le_of_ble_eq_true rfl, ?_⟩
              | refine ⟨(by first | exact Nat.zero_lt_one | assumption | omega), (by first | assumption | exact vp_in_nI (by omega) (by omega) | (unfold vp_in; decide)), ?_⟩
              | refine ⟨(by first | exact Nat.zero_lt_one | assumption | omega), rfl, ?_⟩
              | refine ⟨⟨(by first | exact Nat.zero_lt_one | assumption | omega), rfl⟩, Nat.le_of_ble_eq_true rfl, ?_⟩
              | refine ⟨(by first | exact Nat.zero_lt_one | assumption | omega), ?_⟩
              | refine ⟨Or.inl rfl, ?_⟩
              | refine ⟨Or.inr (Or.inl rfl), ?_⟩
              | refine ⟨Or.inr (Or.inr rfl), ?_⟩
              | refine ⟨Or.inr ⟨rfl, (by first | exact Or.inl rfl | exact Or.inr rfl | assumption)⟩, ?_⟩
              | refine ⟨fun h => absurd h (by decide), fun _ => ?_⟩
              | refine ⟨fun _ => ?_, fun h => absurd h (by decide)⟩
              | refine ⟨fun h => ?_, fun h => ?_⟩
              | fail)
          | succ k ih =>
            intro i c μ2 hi hc e1 e2
            subst hc
            have ci : (nI i).toNatClampNeg = i := nI_clamp (by omega)
            have hle : ¬ (12 : Int32) ≤ nI i := nI_ge (b := 12) (by omega) (by omega)
            refine zs k_Mo_lay rfl ?_; conv => whnf
            repeat' (first
              | refine br_f hle ?_
              | refine ih (i + 1) _ _ (by omega) (by exact nI_1 i) (fun f hf => ?_) (fun k hk => ?_)
              | (refine zs k_Mo_lay rfl ?_; conv => whnf)
              | refine ⟨Nat.zero_lt_one, rfl, ?_⟩
              | refine ⟨rfl, ?_⟩
              | refine ⟨⟨Nat.zero_lt_one, rfl⟩, Nat.le_of_ble_eq_true rfl, ?_⟩
              | refine ⟨Nat.le_of_ble_eq_true rfl, Nat.le_of_ble_eq_true rfl, ?_⟩
              | refine ⟨(by first | exact Nat.zero_lt_one | assumption | omega), (by first | assumption | exact vp_in_nI (by omega) (by omega) | (unfold vp_in; decide)), ?_⟩
              | refine ⟨(by first | exact Nat.zero_lt_one | assumption | omega), rfl, ?_⟩
              | refine ⟨⟨(by first | exact Nat.zero_lt_one | assumption | omega), rfl⟩, Nat.le_of_ble_eq_true rfl, ?_⟩
              | refine ⟨(by first | exact Nat.zero_lt_one | assumption | omega), ?_⟩
              | refine ⟨Or.inl rfl, ?_⟩
              | refine ⟨Or.inr (Or.inl rfl), ?_⟩
              | refine ⟨Or.inr (Or.inr rfl), ?_⟩
              | refine ⟨Or.inr ⟨rfl, (by first | exact Or.inl rfl | exact Or.inr rfl | assumption)⟩, ?_⟩
              | refine ⟨fun h => absurd h (by decide), fun _ => ?_⟩
              | refine ⟨fun _ => ?_, fun h => absurd h (by decide)⟩
              | refine ⟨fun h => ?_, fun h => ?_⟩
              | fail)
            · funext a b
              rw [zu_ne (fun q => hf q.1), e1 f hf]
            · rw [ci, e1 96 (by omega)]
              by_cases q : k = i
              · rw [q, zu_eq]
                exact e96 i (by omega)
              · rw [zu_ne (by omega)]
                exact e2 k (by omega)
        repeat' (first
          | refine L5 12 0 _ _ (by omega) rfl (fun _ _ => rfl) (fun k hk => absurd hk (by omega))
          | (refine zs k_Mo_lay rfl ?_; conv => whnf)
          | refine ⟨Nat.zero_lt_one, rfl, ?_⟩
          | refine ⟨rfl, ?_⟩
          | refine ⟨⟨Nat.zero_lt_one, rfl⟩, Nat.le_of_ble_eq_true rfl, ?_⟩
          | refine ⟨Nat.le_of_ble_eq_true rfl, Nat.le_of_ble_eq_true rfl, ?_⟩
          | refine ⟨(by first | exact Nat.zero_lt_one | assumption | omega), (by first | assumption | exact vp_in_nI (by omega) (by omega) | (unfold vp_in; decide)), ?_⟩
          | refine ⟨(by first | exact Nat.zero_lt_one | assumption | omega), rfl, ?_⟩
          | refine ⟨⟨(by first | exact Nat.zero_lt_one | assumption | omega), rfl⟩, Nat.le_of_ble_eq_true rfl, ?_⟩
          | refine ⟨(by first | exact Nat.zero_lt_one | assumption | omega), ?_⟩
          | refine ⟨Or.inl rfl, ?_⟩
          | refine ⟨Or.inr (Or.inl rfl), ?_⟩
          | refine ⟨Or.inr (Or.inr rfl), ?_⟩
          | refine ⟨Or.inr ⟨rfl, (by first | exact Or.inl rfl | exact Or.inr rfl | assumption)⟩, ?_⟩
          | refine ⟨fun h => absurd h (by decide), fun _ => ?_⟩
          | refine ⟨fun _ => ?_, fun h => absurd h (by decide)⟩
          | refine ⟨fun h => ?_, fun h => ?_⟩
          | fail)
      by_cases hf : (fd kp pr done).1 = 1000000
      · have hls6 : ls < 0 := by rw [hls, show lsB (fd kp pr done).1 = -6 from if_pos hf]; decide
        have tk := take (by omega)
        refine zs k_Mo_lay rfl ?_; conv => whnf
        repeat' (first
          | refine c_Mo_isKept T1 rfl (fun _ => ?_) (fun q => absurd keep q)
          | refine c_Mo_priceOf T1 rfl o1 (by omega) o2 ?_
          | refine br_t hls6 ?_
          | exact tk _ _ hpri
          | (refine zs k_Mo_lay rfl ?_; conv => whnf)
          | refine ⟨Nat.zero_lt_one, rfl, ?_⟩
          | refine ⟨rfl, ?_⟩
          | refine ⟨⟨Nat.zero_lt_one, rfl⟩, Nat.le_of_ble_eq_true rfl, ?_⟩
          | refine ⟨Nat.le_of_ble_eq_true rfl, Nat.le_of_ble_eq_true rfl, ?_⟩
          | refine ⟨(by first | exact Nat.zero_lt_one | assumption | omega), (by first | assumption | exact vp_in_nI (by omega) (by omega) | (unfold vp_in; decide)), ?_⟩
          | refine ⟨(by first | exact Nat.zero_lt_one | assumption | omega), rfl, ?_⟩
          | refine ⟨⟨(by first | exact Nat.zero_lt_one | assumption | omega), rfl⟩, Nat.le_of_ble_eq_true rfl, ?_⟩
          | refine ⟨(by first | exact Nat.zero_lt_one | assumption | omega), ?_⟩
          | refine ⟨Or.inl rfl, ?_⟩
          | refine ⟨Or.inr (Or.inl rfl), ?_⟩
          | refine ⟨Or.inr (Or.inr rfl), ?_⟩
          | refine ⟨Or.inr ⟨rfl, (by first | exact Or.inl rfl | exact Or.inr rfl | assumption)⟩, ?_⟩
          | refine ⟨fun h => absurd h (by decide), fun _ => ?_⟩
          | refine ⟨fun _ => ?_, fun h => absurd h (by decide)⟩
          | refine ⟨fun h => ?_, fun h => ?_⟩
          | fail)
      · have hls2 : ls = nI (fd kp pr done).1 := hls.trans (if_neg hf)
        have hnn : ¬ ls < 0 := by rw [hls2]; exact nI_pos (by omega)
        rcases Nat.lt_or_ge (pr v) (fd kp pr done).1 with q | q
        · have tk := take q
          have hle : ¬ ls ≤ nI ((mO (lw v) og z m).1 + nS (mTk μ1 (lw v) (μ 9 t 2) z) z) := by rw [hpri, hls2]; exact nI_ge q (by omega)
          refine zs k_Mo_lay rfl ?_; conv => whnf
          repeat' (first
            | refine c_Mo_isKept T1 rfl (fun _ => ?_) (fun q => absurd keep q)
            | refine c_Mo_priceOf T1 rfl o1 (by omega) o2 ?_
            | refine br_f hnn ?_
            | refine br_f hle ?_
            | exact tk _ _ hpri
            | (refine zs k_Mo_lay rfl ?_; conv => whnf)
            | refine ⟨Nat.zero_lt_one, rfl, ?_⟩
            | refine ⟨rfl, ?_⟩
            | refine ⟨⟨Nat.zero_lt_one, rfl⟩, Nat.le_of_ble_eq_true rfl, ?_⟩
            | refine ⟨Nat.le_of_ble_eq_true rfl, Nat.le_of_ble_eq_true rfl, ?_⟩
            | refine ⟨(by first | exact Nat.zero_lt_one | assumption | omega), (by first | assumption | exact vp_in_nI (by omega) (by omega) | (unfold vp_in; decide)), ?_⟩
            | refine ⟨(by first | exact Nat.zero_lt_one | assumption | omega), rfl, ?_⟩
            | refine ⟨⟨(by first | exact Nat.zero_lt_one | assumption | omega), rfl⟩, Nat.le_of_ble_eq_true rfl, ?_⟩
            | refine ⟨(by first | exact Nat.zero_lt_one | assumption | omega), ?_⟩
            | refine ⟨Or.inl rfl, ?_⟩
            | refine ⟨Or.inr (Or.inl rfl), ?_⟩
            | refine ⟨Or.inr (Or.inr rfl), ?_⟩
            | refine ⟨Or.inr ⟨rfl, (by first | exact Or.inl rfl | exact Or.inr rfl | assumption)⟩, ?_⟩
            | refine ⟨fun h => absurd h (by decide), fun _ => ?_⟩
            | refine ⟨fun _ => ?_, fun h => absurd h (by decide)⟩
            | refine ⟨fun h => ?_, fun h => ?_⟩
            | fail)
        · have hle : ls ≤ nI ((mO (lw v) og z m).1 + nS (mTk μ1 (lw v) (μ 9 t 2) z) z) := by rw [hpri, hls2]; exact nI_le q (by omega)
          have hbs : bst (fd kp pr done) (pr v, v) = fd kp pr done := if_neg (by omega)
          rw [hbs] at hsn
          rw [hsn] at nxt
          refine zs k_Mo_lay rfl ?_; conv => whnf
          repeat' (first
            | refine c_Mo_isKept T1 rfl (fun _ => ?_) (fun q => absurd keep q)
            | refine c_Mo_priceOf T1 rfl o1 (by omega) o2 ?_
            | refine br_f hnn ?_
            | refine br_t hle ?_
            | exact nxt _ _ _ _ s1 o1 o2 e96 hls h97
            | (refine zs k_Mo_lay rfl ?_; conv => whnf)
            | refine ⟨Nat.zero_lt_one, rfl, ?_⟩
            | refine ⟨rfl, ?_⟩
            | refine ⟨⟨Nat.zero_lt_one, rfl⟩, Nat.le_of_ble_eq_true rfl, ?_⟩
            | refine ⟨Nat.le_of_ble_eq_true rfl, Nat.le_of_ble_eq_true rfl, ?_⟩
            | refine ⟨(by first | exact Nat.zero_lt_one | assumption | omega), (by first | assumption | exact vp_in_nI (by omega) (by omega) | (unfold vp_in; decide)), ?_⟩
            | refine ⟨(by first | exact Nat.zero_lt_one | assumption | omega), rfl, ?_⟩
            | refine ⟨⟨(by first | exact Nat.zero_lt_one | assumption | omega), rfl⟩, Nat.le_of_ble_eq_true rfl, ?_⟩
            | refine ⟨(by first | exact Nat.zero_lt_one | assumption | omega), ?_⟩
            | refine ⟨Or.inl rfl, ?_⟩
            | refine ⟨Or.inr (Or.inl rfl), ?_⟩
            | refine ⟨Or.inr (Or.inr rfl), ?_⟩
            | refine ⟨Or.inr ⟨rfl, (by first | exact Or.inl rfl | exact Or.inr rfl | assumption)⟩, ?_⟩
            | refine ⟨fun h => absurd h (by decide), fun _ => ?_⟩
            | refine ⟨fun _ => ?_, fun h => absurd h (by decide)⟩
            | refine ⟨fun h => ?_, fun h => ?_⟩
            | fail)
    have L : ∀ (rest : List (List Nat)) (v : List Nat) (done : List (List Nat)) (ls : Int32) (l8 l9 : Option zV) (μ1 : zMu), done ++ v :: rest = M → chn v rest gs.reverse → v.Perm gs → zScr μ μ1 → μ1 48 0 37 = nI m → (∀ k, k < m → μ1 86 0 k = nI (og k)) → (∀ k, k < 12 → μ1 96 0 k = lw v k) → ls = lsB (fd kp pr done).1 → ((fd kp pr done).1 < 1000000 → ∀ k, k < 12 → μ1 97 0 k = lw (fd kp pr done).2 k) → zG S (d + 10) m_Mo_lay K 124 [some (zR 48 0), some (zI (nI t)), some (zI o), some (zI day), some (zI w), some (zI (nI gs.length)), some (zI ls), some (zI 1), l8, l9] [] μ1 := by
      intro rest
      induction rest with
      | nil =>
        intro v done ls l8 l9 μ1 hMd hc hp s1 o1 o2 e96 hls h97
        have hv : v = gs.reverse := hc
        refine stp v done ls l8 l9 μ1 hp s1 o1 o2 e96 hls h97 (fun ls' l8' l9' μ2 s2 p1 p2 f96 hls' f97 => ?_)
        rw [hMd] at hls' f97
        have hdes : v.Pairwise (· > ·) := by
          rw [hv, List.pairwise_reverse, ← hG]
          exact gsT_sorted w 20
        have hlv : v.length = gs.length := hp.length_eq
        subst hls'
        repeat' (first
          | refine c_Mo_isNext_n (v := v) hlv hl1 (by omega) rfl (fun q hq => gs20 q (hp.mem_iff.mp hq)) hdes f96 ?_
          | exact E _ _ _ s2 f97
          | (refine zs k_Mo_lay rfl ?_; conv => whnf)
          | refine ⟨Nat.zero_lt_one, rfl, ?_⟩
          | refine ⟨rfl, ?_⟩
          | refine ⟨⟨Nat.zero_lt_one, rfl⟩, Nat.le_of_ble_eq_true rfl, ?_⟩
          | refine ⟨Nat.le_of_ble_eq_true rfl, Nat.le_of_ble_eq_true rfl, ?_⟩
          | refine ⟨(by first | exact Nat.zero_lt_one | assumption | omega), (by first | assumption | exact vp_in_nI (by omega) (by omega) | (unfold vp_in; decide)), ?_⟩
          | refine ⟨(by first | exact Nat.zero_lt_one | assumption | omega), rfl, ?_⟩
          | refine ⟨⟨(by first | exact Nat.zero_lt_one | assumption | omega), rfl⟩, Nat.le_of_ble_eq_true rfl, ?_⟩
          | refine ⟨(by first | exact Nat.zero_lt_one | assumption | omega), ?_⟩
          | refine ⟨Or.inl rfl, ?_⟩
          | refine ⟨Or.inr (Or.inl rfl), ?_⟩
          | refine ⟨Or.inr (Or.inr rfl), ?_⟩
          | refine ⟨Or.inr ⟨rfl, (by first | exact Or.inl rfl | exact Or.inr rfl | assumption)⟩, ?_⟩
          | refine ⟨fun h => absurd h (by decide), fun _ => ?_⟩
          | refine ⟨fun _ => ?_, fun h => absurd h (by decide)⟩
          | refine ⟨fun h => ?_, fun h => ?_⟩
          | fail)
      | cons v' rest ih =>
        intro v done ls l8 l9 μ1 hMd hc hp s1 o1 o2 e96 hls h97
        have hp' : v'.Perm gs := (nxR_perm hc.1).trans hp
        have hlv : v.length = gs.length := hp.length_eq
        refine stp v done ls l8 l9 μ1 hp s1 o1 o2 e96 hls h97 (fun ls' l8' l9' μ2 s2 p1 p2 f96 hls' f97 => ?_)
        repeat' (first
          | refine c_Mo_isNext_y (u := v) (v := v') hc.1 hlv (by omega) rfl (fun q hq => gs20 q (hp.mem_iff.mp hq)) f96 (fun μ3 c1 c2 => ?_)
          | refine ih v' (done ++ [v]) _ _ _ _ ?_ hc.2 hp' (zScr_tr s2 (zScr_96 c1)) (by rw [c1 48 (by omega)]; exact p1) (fun k hk => by rw [c1 86 (by omega)]; exact p2 k hk) c2 hls' (fun q k hk => by rw [c1 97 (by omega)]; exact f97 q k hk)
          | (refine zs k_Mo_lay rfl ?_; conv => whnf)
          | refine ⟨Nat.zero_lt_one, rfl, ?_⟩
          | refine ⟨rfl, ?_⟩
          | refine ⟨⟨Nat.zero_lt_one, rfl⟩, Nat.le_of_ble_eq_true rfl, ?_⟩
          | refine ⟨Nat.le_of_ble_eq_true rfl, Nat.le_of_ble_eq_true rfl, ?_⟩
          | refine ⟨(by first | exact Nat.zero_lt_one | assumption | omega), (by first | assumption | exact vp_in_nI (by omega) (by omega) | (unfold vp_in; decide)), ?_⟩
          | refine ⟨(by first | exact Nat.zero_lt_one | assumption | omega), rfl, ?_⟩
          | refine ⟨⟨(by first | exact Nat.zero_lt_one | assumption | omega), rfl⟩, Nat.le_of_ble_eq_true rfl, ?_⟩
          | refine ⟨(by first | exact Nat.zero_lt_one | assumption | omega), ?_⟩
          | refine ⟨Or.inl rfl, ?_⟩
          | refine ⟨Or.inr (Or.inl rfl), ?_⟩
          | refine ⟨Or.inr (Or.inr rfl), ?_⟩
          | refine ⟨Or.inr ⟨rfl, (by first | exact Or.inl rfl | exact Or.inr rfl | assumption)⟩, ?_⟩
          | refine ⟨fun h => absurd h (by decide), fun _ => ?_⟩
          | refine ⟨fun _ => ?_, fun h => absurd h (by decide)⟩
          | refine ⟨fun h => ?_, fun h => ?_⟩
          | fail)
        rw [List.append_assoc]
        exact hMd
    have fd0 : (fd kp pr []).1 = 1000000 := rfl
    have B : ∀ μ1 : zMu, zScr μ μ1 → μ1 48 0 37 = nI m → (∀ k, k < m → μ1 86 0 k = nI (og k)) → (∀ k, k < 12 → μ1 96 0 k = lw gs k) → zG S (d + 10) m_Mo_lay K 115 [some (zR 48 0), some (zI (nI t)), some (zI o), some (zI day), some (zI w), l5, none, none, none, none] [zI (nI gs.length)] μ1 := fun μ1 s1 o1 o2 e96 => by
      repeat' (first
        | refine L l gs [] _ _ _ _ pm1.symm pm2 (List.Perm.refl _) s1 o1 o2 e96 rfl (fun q => absurd q (by rw [fd0]; omega))
        | (refine zs k_Mo_lay rfl ?_; conv => whnf)
        | refine ⟨Nat.zero_lt_one, rfl, ?_⟩
        | refine ⟨rfl, ?_⟩
        | refine ⟨⟨Nat.zero_lt_one, rfl⟩, Nat.le_of_ble_eq_true rfl, ?_⟩
        | refine ⟨Nat.le_of_ble_eq_true rfl, Nat.le_of_ble_eq_true rfl, ?_⟩
        | refine ⟨(by first | exact Nat.zero_lt_one | assumption | omega), (by first | assumption | exact vp_in_nI (by omega) (by omega) | (unfold vp_in; decide)), ?_⟩
        | refine ⟨(by first | exact Nat.zero_lt_one | assumption | omega), rfl, ?_⟩
        | refine ⟨⟨(by first | exact Nat.zero_lt_one | assumption | omega), rfl⟩, Nat.le_of_ble_eq_true rfl, ?_⟩
        | refine ⟨(by first | exact Nat.zero_lt_one | assumption | omega), ?_⟩
        | refine ⟨Or.inl rfl, ?_⟩
        | refine ⟨Or.inr (Or.inl rfl), ?_⟩
        | refine ⟨Or.inr (Or.inr rfl), ?_⟩
        | refine ⟨Or.inr ⟨rfl, (by first | exact Or.inl rfl | exact Or.inr rfl | assumption)⟩, ?_⟩
        | refine ⟨fun h => absurd h (by decide), fun _ => ?_⟩
        | refine ⟨fun _ => ?_, fun h => absurd h (by decide)⟩
        | refine ⟨fun h => ?_, fun h => ?_⟩
        | fail)
    have A : ∀ μ1 : zMu, zScr μ μ1 → μ1 48 0 37 = nI m → (∀ k, k < m → μ1 86 0 k = nI (og k)) → zG S (d + 10) m_Mo_lay K 109 [some (zR 48 0), some (zI (nI t)), some (zI o), some (zI day), some (zI w), l5, none, none, none, none] [] μ1 := fun μ1 s1 o1 o2 => by
      have hn1 : μ1 48 0 5 = nI n := (gQ_scr s1 g).2.1.2.1
      have h7' : (gsT w 20).length ≤ 7 := by rw [hG]; exact h7
      repeat' (first
        | refine c_Mo_begin hn1 h20 hb h7' (fun μ2 c1 c2 => ?_)
        | (rw [hG] at c2 ⊢; refine B μ2 (zScr_tr s1 (zScr_96 c1)) (by rw [c1 48 (by omega)]; exact o1) (fun k hk => by rw [c1 86 (by omega)]; exact o2 k hk) c2)
        | (refine zs k_Mo_lay rfl ?_; conv => whnf)
        | refine ⟨Nat.zero_lt_one, rfl, ?_⟩
        | refine ⟨rfl, ?_⟩
        | refine ⟨⟨Nat.zero_lt_one, rfl⟩, Nat.le_of_ble_eq_true rfl, ?_⟩
        | refine ⟨Nat.le_of_ble_eq_true rfl, Nat.le_of_ble_eq_true rfl, ?_⟩
        | refine ⟨(by first | exact Nat.zero_lt_one | assumption | omega), (by first | assumption | exact vp_in_nI (by omega) (by omega) | (unfold vp_in; decide)), ?_⟩
        | refine ⟨(by first | exact Nat.zero_lt_one | assumption | omega), rfl, ?_⟩
        | refine ⟨⟨(by first | exact Nat.zero_lt_one | assumption | omega), rfl⟩, Nat.le_of_ble_eq_true rfl, ?_⟩
        | refine ⟨(by first | exact Nat.zero_lt_one | assumption | omega), ?_⟩
        | refine ⟨Or.inl rfl, ?_⟩
        | refine ⟨Or.inr (Or.inl rfl), ?_⟩
        | refine ⟨Or.inr (Or.inr rfl), ?_⟩
        | refine ⟨Or.inr ⟨rfl, (by first | exact Or.inl rfl | exact Or.inr rfl | assumption)⟩, ?_⟩
        | refine ⟨fun h => absurd h (by decide), fun _ => ?_⟩
        | refine ⟨fun _ => ?_, fun h => absurd h (by decide)⟩
        | refine ⟨fun h => ?_, fun h => ?_⟩
        | fail)
    repeat' (first
      | refine c_Mo_findOrder g (fun μ1 s1 c1 => ?_)
      | exact A μ1 s1 (by rw [← hmm]; exact c1.1) (by rw [← hmm, ← hO]; exact c1.2.1)
      | (refine zs k_Mo_lay rfl ?_; conv => whnf)
      | refine ⟨Nat.zero_lt_one, rfl, ?_⟩
      | refine ⟨rfl, ?_⟩
      | refine ⟨⟨Nat.zero_lt_one, rfl⟩, Nat.le_of_ble_eq_true rfl, ?_⟩
      | refine ⟨Nat.le_of_ble_eq_true rfl, Nat.le_of_ble_eq_true rfl, ?_⟩
      | refine ⟨(by first | exact Nat.zero_lt_one | assumption | omega), (by first | assumption | exact vp_in_nI (by omega) (by omega) | (unfold vp_in; decide)), ?_⟩
      | refine ⟨(by first | exact Nat.zero_lt_one | assumption | omega), rfl, ?_⟩
      | refine ⟨⟨(by first | exact Nat.zero_lt_one | assumption | omega), rfl⟩, Nat.le_of_ble_eq_true rfl, ?_⟩
      | refine ⟨(by first | exact Nat.zero_lt_one | assumption | omega), ?_⟩
      | refine ⟨Or.inl rfl, ?_⟩
      | refine ⟨Or.inr (Or.inl rfl), ?_⟩
      | refine ⟨Or.inr (Or.inr rfl), ?_⟩
      | refine ⟨Or.inr ⟨rfl, (by first | exact Or.inl rfl | exact Or.inr rfl | assumption)⟩, ?_⟩
      | refine ⟨fun h => absurd h (by decide), fun _ => ?_⟩
      | refine ⟨fun _ => ?_, fun h => absurd h (by decide)⟩
      | refine ⟨fun h => ?_, fun h => ?_⟩
      | fail)
  -- is one absent
  have L0 : ∀ (k i : Nat) (v : Int32), i + k = n → v = nI i → (∀ j, j < i → zbit w (nI j) → ¬ μ 10 0 j = 0) → zG S (d + 10) m_Mo_lay K 64 [some (zR 48 0), some (zI (nI t)), some (zI o), some (zI day), some (zI w), some (zI v), none, none, none, none] [] μ := by
    intro k
    induction k with
    | zero =>
      intro i v hi hv hj
      subst hv
      obtain rfl : i = n := by omega
      have hle : μ 48 0 5 ≤ nI i := by rw [hn]; exact nI_le (Nat.le_refl _) (by omega)
      refine zs k_Mo_lay rfl ?_; conv => whnf
      repeat' (first
        | refine br_t hle ?_
        | exact main hj _
        | (refine zs k_Mo_lay rfl ?_; conv => whnf)
        | refine ⟨Nat.zero_lt_one, rfl, ?_⟩
        | refine ⟨rfl, ?_⟩
        | refine ⟨⟨Nat.zero_lt_one, rfl⟩, Nat.le_of_ble_eq_true rfl, ?_⟩
        | refine ⟨Nat.le_of_ble_eq_true rfl, Nat.le_of_ble_eq_true rfl, ?_⟩
        | refine ⟨(by first | exact Nat.zero_lt_one | assumption | omega), (by first | assumption | exact vp_in_nI (by omega) (by omega) | (unfold vp_in; decide)), ?_⟩
        | refine ⟨(by first | exact Nat.zero_lt_one | assumption | omega), rfl, ?_⟩
        | refine ⟨⟨(by first | exact Nat.zero_lt_one | assumption | omega), rfl⟩, Nat.le_of_ble_eq_true rfl, ?_⟩
        | refine ⟨(by first | exact Nat.zero_lt_one | assumption | omega), ?_⟩
        | refine ⟨Or.inl rfl, ?_⟩
        | refine ⟨Or.inr (Or.inl rfl), ?_⟩
        | refine ⟨Or.inr (Or.inr rfl), ?_⟩
        | refine ⟨Or.inr ⟨rfl, (by first | exact Or.inl rfl | exact Or.inr rfl | assumption)⟩, ?_⟩
        | refine ⟨fun h => absurd h (by decide), fun _ => ?_⟩
        | refine ⟨fun _ => ?_, fun h => absurd h (by decide)⟩
        | refine ⟨fun h => ?_, fun h => ?_⟩
        | fail)
    | succ k ih =>
      intro i v hi hv hj
      subst hv
      have hle : ¬ μ 48 0 5 ≤ nI i := by rw [hn]; exact nI_ge (by omega) (by omega)
      have ci : (nI i).toNatClampNeg = i := nI_clamp (by omega)
      have vi : vp_in (nI i) 20 := vp_in_nI (by omega) (by omega)
      have e62 : μ 62 0 (nI i).toNatClampNeg = μ 10 0 i := by rw [ci]; exact (g.2.1.2.2.2 i (by omega)).1
      by_cases hz : zbit w (nI i)
      · have hz' := (bit i (by omega)).mpr hz
        by_cases h10 : μ 10 0 i = 0
        · have hk := h2 t z ho ht rfl z3 z2 hok (fun q => q i (by omega) hz h10)
          refine zs k_Mo_lay rfl ?_; conv => whnf
          repeat' (first
            | refine br_f hle ?_
            | refine bn_f hz' ?_
            | refine bn_f (e62.trans h10) ?_
            | exact hk
            | (refine zs k_Mo_lay rfl ?_; conv => whnf)
            | refine ⟨Nat.zero_lt_one, rfl, ?_⟩
            | refine ⟨rfl, ?_⟩
            | refine ⟨⟨Nat.zero_lt_one, rfl⟩, Nat.le_of_ble_eq_true rfl, ?_⟩
            | refine ⟨Nat.le_of_ble_eq_true rfl, Nat.le_of_ble_eq_true rfl, ?_⟩
            | refine ⟨(by first | exact Nat.zero_lt_one | assumption | omega), (by first | assumption | exact vp_in_nI (by omega) (by omega) | (unfold vp_in; decide)), ?_⟩
            | refine ⟨(by first | exact Nat.zero_lt_one | assumption | omega), rfl, ?_⟩
            | refine ⟨⟨(by first | exact Nat.zero_lt_one | assumption | omega), rfl⟩, Nat.le_of_ble_eq_true rfl, ?_⟩
            | refine ⟨(by first | exact Nat.zero_lt_one | assumption | omega), ?_⟩
            | refine ⟨Or.inl rfl, ?_⟩
            | refine ⟨Or.inr (Or.inl rfl), ?_⟩
            | refine ⟨Or.inr (Or.inr rfl), ?_⟩
            | refine ⟨Or.inr ⟨rfl, (by first | exact Or.inl rfl | exact Or.inr rfl | assumption)⟩, ?_⟩
            | refine ⟨fun h => absurd h (by decide), fun _ => ?_⟩
            | refine ⟨fun _ => ?_, fun h => absurd h (by decide)⟩
            | refine ⟨fun h => ?_, fun h => ?_⟩
            | fail)
        · have h10' : ¬ μ 62 0 (nI i).toNatClampNeg = 0 := by rw [e62]; exact h10
          refine zs k_Mo_lay rfl ?_; conv => whnf
          repeat' (first
            | refine br_f hle ?_
            | refine bn_f hz' ?_
            | refine bn_t h10' ?_
            | refine ih (i + 1) _ (by omega) (by exact nI_1 i) (lt_s hj (fun _ => h10))
            | (refine zs k_Mo_lay rfl ?_; conv => whnf)
            | refine ⟨Nat.zero_lt_one, rfl, ?_⟩
            | refine ⟨rfl, ?_⟩
            | refine ⟨⟨Nat.zero_lt_one, rfl⟩, Nat.le_of_ble_eq_true rfl, ?_⟩
            | refine ⟨Nat.le_of_ble_eq_true rfl, Nat.le_of_ble_eq_true rfl, ?_⟩
            | refine ⟨(by first | exact Nat.zero_lt_one | assumption | omega), (by first | assumption | exact vp_in_nI (by omega) (by omega) | (unfold vp_in; decide)), ?_⟩
            | refine ⟨(by first | exact Nat.zero_lt_one | assumption | omega), rfl, ?_⟩
            | refine ⟨⟨(by first | exact Nat.zero_lt_one | assumption | omega), rfl⟩, Nat.le_of_ble_eq_true rfl, ?_⟩
            | refine ⟨(by first | exact Nat.zero_lt_one | assumption | omega), ?_⟩
            | refine ⟨Or.inl rfl, ?_⟩
            | refine ⟨Or.inr (Or.inl rfl), ?_⟩
            | refine ⟨Or.inr (Or.inr rfl), ?_⟩
            | refine ⟨Or.inr ⟨rfl, (by first | exact Or.inl rfl | exact Or.inr rfl | assumption)⟩, ?_⟩
            | refine ⟨fun h => absurd h (by decide), fun _ => ?_⟩
            | refine ⟨fun _ => ?_, fun h => absurd h (by decide)⟩
            | refine ⟨fun h => ?_, fun h => ?_⟩
            | fail)
      · have hz' : ¬ (w >>> (nI i &&& 31)) &&& 1 = 1 := fun q => hz ((bit i (by omega)).mp q)
        refine zs k_Mo_lay rfl ?_; conv => whnf
        repeat' (first
          | refine br_f hle ?_
          | refine bn_t hz' ?_
          | refine ih (i + 1) _ (by omega) (by exact nI_1 i) (lt_s hj (fun q => absurd q hz))
          | (refine zs k_Mo_lay rfl ?_; conv => whnf)
          | refine ⟨Nat.zero_lt_one, rfl, ?_⟩
          | refine ⟨rfl, ?_⟩
          | refine ⟨⟨Nat.zero_lt_one, rfl⟩, Nat.le_of_ble_eq_true rfl, ?_⟩
          | refine ⟨Nat.le_of_ble_eq_true rfl, Nat.le_of_ble_eq_true rfl, ?_⟩
          | refine ⟨(by first | exact Nat.zero_lt_one | assumption | omega), (by first | assumption | exact vp_in_nI (by omega) (by omega) | (unfold vp_in; decide)), ?_⟩
          | refine ⟨(by first | exact Nat.zero_lt_one | assumption | omega), rfl, ?_⟩
          | refine ⟨⟨(by first | exact Nat.zero_lt_one | assumption | omega), rfl⟩, Nat.le_of_ble_eq_true rfl, ?_⟩
          | refine ⟨(by first | exact Nat.zero_lt_one | assumption | omega), ?_⟩
          | refine ⟨Or.inl rfl, ?_⟩
          | refine ⟨Or.inr (Or.inl rfl), ?_⟩
          | refine ⟨Or.inr (Or.inr rfl), ?_⟩
          | refine ⟨Or.inr ⟨rfl, (by first | exact Or.inl rfl | exact Or.inr rfl | assumption)⟩, ?_⟩
          | refine ⟨fun h => absurd h (by decide), fun _ => ?_⟩
          | refine ⟨fun _ => ?_, fun h => absurd h (by decide)⟩
          | refine ⟨fun h => ?_, fun h => ?_⟩
          | fail)
  repeat' (first
    | refine c_Mo_isTable (fun _ => ?_) (fun h => absurd hx' h)
    | refine c_Mo_isOccasion (fun _ => ?_) (fun q => absurd ho q)
    | refine br_f w0 ?_
    | refine br_f w1 ?_
    | refine c_Mo_countBits hb20 ?_
    | refine br_f w2 ?_
    | refine br_t w3 ?_
    | refine L0 n 0 _ (by omega) rfl (fun j hj => absurd hj (by omega))
    | (refine zs k_Mo_lay rfl ?_; conv => whnf)
    | refine ⟨Nat.zero_lt_one, rfl, ?_⟩
    | refine ⟨rfl, ?_⟩
    | refine ⟨⟨Nat.zero_lt_one, rfl⟩, Nat.le_of_ble_eq_true rfl, ?_⟩
    | refine ⟨Nat.le_of_ble_eq_true rfl, Nat.le_of_ble_eq_true rfl, ?_⟩
    | refine ⟨(by first | exact Nat.zero_lt_one | assumption | omega), (by first | assumption | exact vp_in_nI (by omega) (by omega) | (unfold vp_in; decide)), ?_⟩
    | refine ⟨(by first | exact Nat.zero_lt_one | assumption | omega), rfl, ?_⟩
    | refine ⟨⟨(by first | exact Nat.zero_lt_one | assumption | omega), rfl⟩, Nat.le_of_ble_eq_true rfl, ?_⟩
    | refine ⟨(by first | exact Nat.zero_lt_one | assumption | omega), ?_⟩
    | refine ⟨Or.inl rfl, ?_⟩
    | refine ⟨Or.inr (Or.inl rfl), ?_⟩
    | refine ⟨Or.inr (Or.inr rfl), ?_⟩
    | refine ⟨Or.inr ⟨rfl, (by first | exact Or.inl rfl | exact Or.inr rfl | assumption)⟩, ?_⟩
    | refine ⟨fun h => absurd h (by decide), fun _ => ?_⟩
    | refine ⟨fun _ => ?_, fun h => absurd h (by decide)⟩
    | refine ⟨fun h => ?_, fun h => ?_⟩
    | fail)
