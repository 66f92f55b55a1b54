/-! DESK: lay, both sides -/
theorem n_bit {d : Nat} {μ : zMu} {x : Int32} {K : Option zV → zMu → Prop} (hx : bN x < 2 ^ 20) (hK : K (some (zI (nI (gsT x 20).length))) μ) : Ct d m_Jint_bitCount [zI x] μ K := c_Jint_bitCount (zKe hK (bc_ct hx) rfl)
theorem sBeg_scr {μ μ1 μ0 : zMu} {m : Nat} {o : Nat → Nat} {w : Int32} (f1 : zFr7 μ μ1) (sb : sBeg μ1 μ0 m o w) : zScr μ μ0 := by
  refine ⟨fun f hf => ?_, ?_, fun k _ => ?_⟩
  · rw [sb.1 f (fun q => hf ?_), f1 f (fun q => hf ?_)]
    · simp only [List.mem_cons, List.not_mem_nil, or_false] at q ⊢
      omega
    · simp only [List.mem_cons, List.not_mem_nil, or_false] at q ⊢
      omega
  · rw [sb.1 2 (by decide), f1 2 (by decide)]
  · rw [sb.1 48 (by decide), f1 48 (by decide)]
theorem lay_39 {μ μ1 μ0 : zMu} {ns n nr nh : Nat} {o day w : Int32} (g : gQ μ ns n nr nh) (sb : sBeg μ1 μ0 (pCt (cLf0 μ n) n) (oN (cAd μ o day nr nh n) n (cLf0 μ n)) w) (hb : bN w < 2 ^ n) (hall : cAll μ w n) {p : Nat} (hp : p ∈ gsT w 20) : ∃ i, i < pCt (cLf0 μ n) n ∧ p = oN (cAd μ o day nr nh n) n (cLf0 μ n) i ∧ ∃ c, c ≤ 20 ∧ μ0 39 0 p = nI c := by
  have h20 := g.2.1.2.2.1
  obtain ⟨p20, pb⟩ := gsT_mem.mp hp
  have hpn : p < n := by
    rcases Nat.lt_or_ge p n with q | q
    · exact q
    · rw [zbt_hi hb q] at pb
      cases pb
  have h10 : μ 10 0 p = 1 := by
    rcases (g.2.1.2.2.2 p hpn).2.1 with q | q
    · exact absurd q (hall p hpn ((zbit_iff (by omega)).mpr pb))
    · exact q
  obtain ⟨i, hi, e⟩ := oN_all (A := cAd μ o day nr nh n) (lf0 := cLf0 μ n) h20 hpn (by unfold cLf0; simp [hpn, h10])
  have hm := pCt_le (cLf0 μ n) n
  refine ⟨i, hi, e, _, Nat.le_trans (pCt_le (fun i => zbt w (oN (cAd μ o day nr nh n) n (cLf0 μ n) i)) i) (by omega), ?_⟩
  rw [e]
  exact sb.2.1 i hi (by rw [← e]; exact pb)
theorem gs_lt {w : Int32} {n : Nat} (hb : bN w < 2 ^ n) : ∀ q ∈ gsT w 20, q < n := fun q hq => by
  have hq2 := (gsT_mem.mp hq).2
  rcases Nat.lt_or_ge q n with v | v
  · exact v
  · rw [zbt_hi hb v] at hq2
    cases hq2
theorem lw_in {v gs : List Nat} {n : Nat} (hv : ∀ x ∈ v, x ∈ gs) (hg : ∀ g ∈ gs, g < n) : ∀ k, pOk n (lw v k) := fun k => by
  unfold lw
  cases h : v[k]? with
  | none => exact Or.inl rfl
  | some p => exact Or.inr ⟨p, hg p (hv p (List.mem_of_getElem? h)), rfl⟩
theorem lay_hPr {μ μ1 μ0 : zMu} {ns n nr nh z : Nat} {o day w rd : Int32} (g : gQ μ ns n nr nh) (g8 : gCo μ) (f1 : zFr7 μ μ1) (sb : sBeg μ1 μ0 (pCt (cLf0 μ n) n) (oN (cAd μ o day nr nh n) n (cLf0 μ n)) w) (hok : okLy w n z) (hz : z ≤ 12) (hall : cAll μ w n) {v : List Nat} (hv : ∀ x ∈ v, x ∈ gsT w 20) {k : Nat} (hk : k < z) : ∃ N, N ≤ 100 ∧ hPr μ0 (lw v) rd z k = nI N := by
  have s0 := sBeg_scr f1 sb
  obtain ⟨g1', g2', -, -⟩ := gQ_scr s0 g
  have g8' := gCo_fr (zScr_in s0 rfl) g8
  have h := hPr_eq (μ := μ0) (r := lw v) (rd := rd) g1' g2' g8' hz hk (fun k _ => lw_in hv (gs_lt hok.1) k) (fun hne => by
    unfold lw at hne ⊢
    cases h : v[k]? with
    | none =>
      rw [h] at hne
      exact absurd rfl hne
    | some p =>
      obtain ⟨i, hi, e, c, hc, ec⟩ := lay_39 g sb hok.1 hall (hv p (List.mem_of_getElem? h))
      have := gs_lt hok.1 p (hv p (List.mem_of_getElem? h))
      have h20 := g.2.1.2.2.1
      exact ⟨c, hc, by show μ0 39 0 (nI p).toNatClampNeg = nI c; rw [nI_clamp (by omega)]; exact ec⟩)
  exact ⟨_, h.2, h.1⟩
theorem lay_env {μ μ1 μ0 : zMu} {ns n nr nh t z : Nat} {o day w : Int32} (g : gQ μ ns n nr nh) (g8 : gCo μ) (f1 : zFr7 μ μ1) (sb : sBeg μ1 μ0 (pCt (cLf0 μ n) n) (oN (cAd μ o day nr nh n) n (cLf0 μ n)) w) (ht : t < 4) (h9 : μ 9 t 0 = nI z) (hok : okLy w n z) (hz : z ≤ 12) (hall : cAll μ w n) : sEnv μ0 t z (gsT w 20) := by
  have s0 := sBeg_scr f1 sb
  obtain ⟨g1', g2', -, -⟩ := gQ_scr s0 g
  have h20 := g.2.1.2.2.1
  refine ⟨ht, by rw [zScr_in s0 (l := [9]) rfl 9 (by simp)]; exact h9, hz, hok.2.2.1, hok.2.2.2, (gsT_sorted w 20).imp (fun h => by omega), fun q hq => ⟨(gsT_mem.mp hq).1, hOk_of g1' g2' (Or.inr ⟨q, gs_lt hok.1 q hq, rfl⟩)⟩, sb.2.2, fun v hv hl hm => ?_⟩
  have : 0 < v.length := List.length_pos_iff.mpr hv
  have := hok.2.2.2
  exact lay_hPr g g8 f1 sb hok hz hall hm (by omega)
theorem kpW_iff {pe : List Nat → Bool} {v : List Nat} : ∀ {n : Nat}, kpW pe v n = true ↔ ∀ k, k < n → pe (v.take (k + 1)) = true
  | 0 => ⟨fun _ k hk => absurd hk (by omega), fun _ => rfl⟩
  | n + 1 => by
    rw [kpW, Bool.and_eq_true, kpW_iff]
    constructor
    · rintro ⟨h1, h2⟩ k hk
      rcases Nat.lt_or_ge k n with q | q
      · exact h1 k q
      · obtain rfl : k = n := by omega
        exact h2
    · intro h
      exact ⟨fun k hk => h k (by omega), h n (by omega)⟩
theorem csW_nS {pc : List Nat → Nat} {v : List Nat} : ∀ {n : Nat}, csW pc v n = nS (fun k => pc (v.take (k + 1))) n
  | 0 => rfl
  | n + 1 => by
    rw [csW, nS, csW_nS]
theorem nS_le {f : Nat → Nat} {c : Nat} : ∀ {n : Nat}, (∀ k, k < n → f k ≤ c) → nS f n ≤ n * c
  | 0, _ => Nat.zero_le _
  | n + 1, h => by
    have h1 := nS_le (f := f) (c := c) (n := n) (fun k hk => h k (by omega))
    have h2 := h n (by omega)
    rw [nS, Nat.succ_mul]
    omega
theorem nS_ext {f : Nat → Nat} {m : Nat} : ∀ {k : Nat}, (∀ j, m ≤ j → j < m + k → f j = 0) → nS f (m + k) = nS f m
  | 0, _ => rfl
  | k + 1, h => by
    show nS f (m + k) + f (m + k) = _
    rw [nS_ext (fun j h1 h2 => h j h1 (by omega)), h (m + k) (by omega) (by omega), Nat.add_zero]
theorem lw_take {v : List Nat} {k j : Nat} (hj : j ≤ k) : lw (v.take (k + 1)) j = lw v j := by
  unfold lw
  rw [List.getElem?_take_of_lt (by omega)]
theorem kp_cls {μ0 : zMu} {rd : Int32} {z : Nat} {v : List Nat} (hz : z ≤ 12) (hl : v.length ≤ z) : kpW (sPe μ0 rd z) v v.length = true ↔ ∀ k, k < z → hPe μ0 (lw v) rd z k := by
  rw [kpW_iff]
  have e : ∀ k, k < v.length → (sPe μ0 rd z (v.take (k + 1)) = true ↔ hPe μ0 (lw v) rd z k) := fun k hk => by
    unfold sPe
    have hlk : (v.take (k + 1)).length - 1 = k := by
      rw [List.length_take]
      omega
    rw [hlk, ← hPe_iff]
    exact hPe_loc (by omega) (fun j hj => lw_take hj) rfl rfl
  constructor
  · intro h k hk
    rcases Nat.lt_or_ge k v.length with q | q
    · exact (e k q).mp (h k q)
    · have hm : lw v k = -1 := lw_out q
      refine ⟨fun w => w.1 hm, fun w => w.1 hm, fun w => w.1 hm⟩
  · intro h k hk
    exact (e k hk).mpr (h k (by omega))
theorem pr_cls {μ0 : zMu} {rd : Int32} {z : Nat} {v : List Nat} (hz : z ≤ 12) (hl : v.length ≤ z) (hN : ∀ k, k < z → ∃ N, N ≤ 100 ∧ hPr μ0 (lw v) rd z k = nI N) : pSum (hPr μ0 (lw v) rd z) z = nI (csW (sPc μ0 rd z) v v.length) ∧ csW (sPc μ0 rd z) v v.length < 1000000 := by
  have e : ∀ k, k < v.length → sPc μ0 rd z (v.take (k + 1)) = (hPr μ0 (lw v) rd z k).toNatClampNeg := fun k hk => by
    unfold sPc
    have hlk : (v.take (k + 1)).length - 1 = k := by
      rw [List.length_take]
      omega
    rw [hlk, hPr_loc (μ := μ0) (r := lw v) (by omega) (fun j hj => lw_take hj) rfl rfl rfl]
  have hf : ∀ k, k < z → hPr μ0 (lw v) rd z k = nI (hPr μ0 (lw v) rd z k).toNatClampNeg ∧ (hPr μ0 (lw v) rd z k).toNatClampNeg ≤ 100 := fun k hk => by
    obtain ⟨N, h1, h2⟩ := hN k hk
    rw [h2, nI_clamp (by omega)]
    exact ⟨rfl, h1⟩
  have h0 : ∀ k, v.length ≤ k → (hPr μ0 (lw v) rd z k).toNatClampNeg = 0 := fun k hk => by
    unfold hPr
    rw [if_pos (lw_out hk)]
    rfl
  have hs : csW (sPc μ0 rd z) v v.length = nS (fun k => (hPr μ0 (lw v) rd z k).toNatClampNeg) z := by
    rw [csW_nS, nS_cg (fun k hk => e k hk)]
    have := nS_ext (f := fun k => (hPr μ0 (lw v) rd z k).toNatClampNeg) (m := v.length) (k := z - v.length) (fun j h1 _ => h0 j h1)
    rw [show v.length + (z - v.length) = z by omega] at this
    exact this.symm
  rw [hs]
  refine ⟨pSum_nI (fun k hk => (hf k hk).1), ?_⟩
  have := nS_le (f := fun k => (hPr μ0 (lw v) rd z k).toNatClampNeg) (c := 100) (n := z) (fun k hk => (hf k hk).2)
  omega
theorem sRes_fd {μ0 : zMu} {t z : Nat} {gs : List Nat} : sRes μ0 t z gs = fd (fun v => kpW (sPe μ0 (μ0 9 t 2) z) v gs.length) (fun v => csW (sPc μ0 (μ0 9 t 2) z) v gs.length) (pm gs.length [] gs) := by
  unfold sRes fd
  have h := en_pm (pe := sPe μ0 (μ0 9 t 2) z) (pc := sPc μ0 (μ0 9 t 2) z) (m := gs.length) (w := []) (A := gs) rfl
  rw [List.length_nil, Nat.zero_add] at h
  rw [show (0 : Nat) = csW (sPc μ0 (μ0 9 t 2) z) [] 0 from rfl, h]
theorem c_De_lay {d ns n nr nh nt : Nat} {μ : zMu} {x o day w : Int32} {K : Option zV → zMu → Prop} (g : gQ μ ns n nr nh) (g6 : gTb μ nt n) (g8 : gCo μ) (h0 : ¬ (okI nt x ∧ okO o day) → K (some (zI (-1))) μ)
    (h1 : ∀ t z, okO o day → t < nt → x = nI t → μ 9 t 0 = nI z → z ≤ 12 → ¬ okLy w n z → K (some (zI (-2))) μ)
    (h2 : ∀ t z, okO o day → t < nt → x = nI t → μ 9 t 0 = nI z → z ≤ 12 → okLy w n z → ¬ cAll μ w n → K (some (zI (-3))) μ)
    (h3 : ∀ t z μ1 μ0 μ', okO o day → t < nt → x = nI t → μ 9 t 0 = nI z → z ≤ 12 → okLy w n z → cAll μ w n → zFr7 μ μ1 → sBeg μ1 μ0 (pCt (cLf0 μ n) n) (oN (cAd μ o day nr nh n) n (cLf0 μ n)) w → (sRes μ0 t z (gsT w 20)).1 = 1000000 → (∀ f, f ∉ [6, 39, 41, 42, 43, 44] → μ' f = μ1 f) → K (some (zI (-6))) μ')
    (h4 : ∀ t z μ1 μ0 μ', okO o day → t < nt → x = nI t → μ 9 t 0 = nI z → z ≤ 12 → okLy w n z → cAll μ w n → zFr7 μ μ1 → sBeg μ1 μ0 (pCt (cLf0 μ n) n) (oN (cAd μ o day nr nh n) n (cLf0 μ n)) w → (sRes μ0 t z (gsT w 20)).1 < 1000000 → (∀ f, f ∉ [6, 39, 40, 41, 42, 43, 44] → μ' f = μ1 f) → (∀ i k, μ' 40 i k = if i = t ∧ k < 12 then lw (sRes μ0 t z (gsT w 20)).2 k else μ1 40 i k) → K (some (zI (nI (sRes μ0 t z (gsT w 20)).1))) μ') : Ct (d + 14) m_De_lay [zR 0 0, zI x, zI o, zI day, zI w] μ K := by
  refine zmeet rfl (Nat.le_of_ble_eq_true rfl) (fun S => ?_)
  obtain ⟨g1, g2, g4, g5⟩ := id g
  have h20 := g2.2.2.1
  have hn := g2.1
  have ht4 := g6.2.2.1
  have hm := pCt_le (cLf0 μ n) n
  have hpn : 2 ^ n ≤ 2 ^ 20 := Nat.pow_le_pow_right (by omega) h20
  by_cases hx : okI nt x
  case neg =>
    have hk := h0 (fun q => hx q.1)
    have hx' : ¬ (0 ≤ x ∧ x < μ 5 0 0) := by rw [g6.1]; exact hx
    repeat' (first
      | refine c_Ha_hasTable (fun h h' => absurd ⟨h, h'⟩ hx') (fun _ => ?_)
      | exact hk
      | (refine zs k_De_lay rfl ?_; conv => whnf)
      | refine ⟨Nat.zero_lt_one, rfl, ?_⟩
      | refine ⟨rfl, ?_⟩
      | refine ⟨⟨Nat.zero_lt_one, rfl⟩, Nat.le_of_ble_eq_true rfl, ?_⟩
      | refine ⟨Nat.le_of_ble_eq_true rfl, Nat.le_of_ble_eq_true rfl, ?_⟩
      | refine ⟨(by first | exact Nat.zero_lt_one | assumption | omega), (by first | assumption | exact vp_in_nI (by omega) (by omega) | (unfold vp_in; decide)), ?_⟩
      | refine ⟨(by first | exact Nat.zero_lt_one | assumption | omega), rfl, ?_⟩
      | refine ⟨⟨(by first | exact Nat.zero_lt_one | assumption | omega), rfl⟩, Nat.le_of_ble_eq_true rfl, ?_⟩
      | refine ⟨(by first | exact Nat.zero_lt_one | assumption | omega), ?_⟩
      | refine ⟨Or.inl rfl, ?_⟩
      | refine ⟨Or.inr (Or.inl rfl), ?_⟩
      | refine ⟨Or.inr (Or.inr rfl), ?_⟩
      | refine ⟨Or.inr ⟨rfl, (by first | exact Or.inl rfl | exact Or.inr rfl | assumption)⟩, ?_⟩
      | refine ⟨fun h => absurd h (by decide), fun _ => ?_⟩
      | refine ⟨fun _ => ?_, fun h => absurd h (by decide)⟩
      | refine ⟨fun h => ?_, fun h => ?_⟩
      | fail)
  have hx' : 0 ≤ x ∧ x < μ 5 0 0 := by rw [g6.1]; exact hx
  by_cases ho : okO o day
  case neg =>
    have hk := h0 (fun q => ho q.2)
    repeat' (first
      | refine c_Ha_hasTable (fun _ _ => ?_) (fun h => absurd hx' h)
      | refine c_De_isOccasion (fun q => absurd q ho) (fun _ => ?_)
      | exact hk
      | (refine zs k_De_lay rfl ?_; conv => whnf)
      | refine ⟨Nat.zero_lt_one, rfl, ?_⟩
      | refine ⟨rfl, ?_⟩
      | refine ⟨⟨Nat.zero_lt_one, rfl⟩, Nat.le_of_ble_eq_true rfl, ?_⟩
      | refine ⟨Nat.le_of_ble_eq_true rfl, Nat.le_of_ble_eq_true rfl, ?_⟩
      | refine ⟨(by first | exact Nat.zero_lt_one | assumption | omega), (by first | assumption | exact vp_in_nI (by omega) (by omega) | (unfold vp_in; decide)), ?_⟩
      | refine ⟨(by first | exact Nat.zero_lt_one | assumption | omega), rfl, ?_⟩
      | refine ⟨⟨(by first | exact Nat.zero_lt_one | assumption | omega), rfl⟩, Nat.le_of_ble_eq_true rfl, ?_⟩
      | refine ⟨(by first | exact Nat.zero_lt_one | assumption | omega), ?_⟩
      | refine ⟨Or.inl rfl, ?_⟩
      | refine ⟨Or.inr (Or.inl rfl), ?_⟩
      | refine ⟨Or.inr (Or.inr rfl), ?_⟩
      | refine ⟨Or.inr ⟨rfl, (by first | exact Or.inl rfl | exact Or.inr rfl | assumption)⟩, ?_⟩
      | refine ⟨fun h => absurd h (by decide), fun _ => ?_⟩
      | refine ⟨fun _ => ?_, fun h => absurd h (by decide)⟩
      | refine ⟨fun h => ?_, fun h => ?_⟩
      | fail)
  rcases zIx x (n := nt) (by omega) with ⟨t, ht, rfl⟩ | q
  case inr => exact absurd hx q
  obtain ⟨-, -, ⟨z, z1, z2, z3, z4, z5⟩, -⟩ := g6.2.2.2 t ht
  have ct : (nI t).toNatClampNeg = t := nI_clamp (by omega)
  have vt : vp_in (nI t) 4 := vp_in_nI (by omega) (by omega)
  have hlt : (nI t).toNatClampNeg < 4 := by omega
  have e9 : μ 9 (nI t).toNatClampNeg 0 = nI z := by rw [ct]; exact z3
  have hset : (w.toUInt32 >>> ((μ 1 0 1).toUInt32 &&& Int32.toUInt32 31)).toInt32 = 0 ↔ bN w < 2 ^ n := by rw [hn]; exact set_ok (by omega)
  by_cases hb : bN w < 2 ^ n
  case neg =>
    have hk := h1 t z ho ht rfl z3 z2 (fun q => hb q.1)
    repeat' (first
      | refine c_Ha_hasTable (fun _ _ => ?_) (fun h => absurd hx' h)
      | refine c_De_isOccasion (fun _ => ?_) (fun q => absurd ho q)
      | refine c_Jint_bitCount ?_
      | refine c_Ro_isSetOfPersons (fun q => absurd (hset.mp q) hb) (fun _ => ?_)
      | exact hk
      | (refine zs k_De_lay rfl ?_; conv => whnf)
      | refine ⟨Nat.zero_lt_one, rfl, ?_⟩
      | refine ⟨rfl, ?_⟩
      | refine ⟨⟨Nat.zero_lt_one, rfl⟩, Nat.le_of_ble_eq_true rfl, ?_⟩
      | refine ⟨Nat.le_of_ble_eq_true rfl, Nat.le_of_ble_eq_true rfl, ?_⟩
      | refine ⟨(by first | exact Nat.zero_lt_one | assumption | omega), (by first | assumption | exact vp_in_nI (by omega) (by omega) | (unfold vp_in; decide)), ?_⟩
      | refine ⟨(by first | exact Nat.zero_lt_one | assumption | omega), rfl, ?_⟩
      | refine ⟨⟨(by first | exact Nat.zero_lt_one | assumption | omega), rfl⟩, Nat.le_of_ble_eq_true rfl, ?_⟩
      | refine ⟨(by first | exact Nat.zero_lt_one | assumption | omega), ?_⟩
      | refine ⟨Or.inl rfl, ?_⟩
      | refine ⟨Or.inr (Or.inl rfl), ?_⟩
      | refine ⟨Or.inr (Or.inr rfl), ?_⟩
      | refine ⟨Or.inr ⟨rfl, (by first | exact Or.inl rfl | exact Or.inr rfl | assumption)⟩, ?_⟩
      | refine ⟨fun h => absurd h (by decide), fun _ => ?_⟩
      | refine ⟨fun _ => ?_, fun h => absurd h (by decide)⟩
      | refine ⟨fun h => ?_, fun h => ?_⟩
      | fail)
  have hb20 : bN w < 2 ^ 20 := by omega
  have hl20 : (gsT w 20).length ≤ 20 := by rw [gsT_len]; exact pCt_le _ _
  by_cases hok : okLy w n z
  case neg =>
    have hk := h1 t z ho ht rfl z3 z2 hok
    by_cases q1 : 1 ≤ (gsT w 20).length
    case neg =>
      have q1' : nI (gsT w 20).length < 1 := nI_lt (b := 1) (by omega) (by omega)
      repeat' (first
        | refine c_Ha_hasTable (fun _ _ => ?_) (fun h => absurd hx' h)
        | refine c_De_isOccasion (fun _ => ?_) (fun q => absurd ho q)
        | refine n_bit hb20 ?_
        | refine br_t q1' ?_
        | exact hk
        | (refine zs k_De_lay rfl ?_; conv => whnf)
        | refine ⟨Nat.zero_lt_one, rfl, ?_⟩
        | refine ⟨rfl, ?_⟩
        | refine ⟨⟨Nat.zero_lt_one, rfl⟩, Nat.le_of_ble_eq_true rfl, ?_⟩
        | refine ⟨Nat.le_of_ble_eq_true rfl, Nat.le_of_ble_eq_true rfl, ?_⟩
        | refine ⟨(by first | exact Nat.zero_lt_one | assumption | omega), (by first | assumption | exact vp_in_nI (by omega) (by omega) | (unfold vp_in; decide)), ?_⟩
        | refine ⟨(by first | exact Nat.zero_lt_one | assumption | omega), rfl, ?_⟩
        | refine ⟨⟨(by first | exact Nat.zero_lt_one | assumption | omega), rfl⟩, Nat.le_of_ble_eq_true rfl, ?_⟩
        | refine ⟨(by first | exact Nat.zero_lt_one | assumption | omega), ?_⟩
        | refine ⟨Or.inl rfl, ?_⟩
        | refine ⟨Or.inr (Or.inl rfl), ?_⟩
        | refine ⟨Or.inr (Or.inr rfl), ?_⟩
        | refine ⟨Or.inr ⟨rfl, (by first | exact Or.inl rfl | exact Or.inr rfl | assumption)⟩, ?_⟩
        | refine ⟨fun h => absurd h (by decide), fun _ => ?_⟩
        | refine ⟨fun _ => ?_, fun h => absurd h (by decide)⟩
        | refine ⟨fun h => ?_, fun h => ?_⟩
        | fail)
    have q1' : ¬ nI (gsT w 20).length < 1 := nI_nlt (b := 1) q1 (by omega)
    by_cases q2 : (gsT w 20).length ≤ 7
    case neg =>
      have q2' : 7 < nI (gsT w 20).length := nI_lt (a := 7) (by omega) (by omega)
      repeat' (first
        | refine c_Ha_hasTable (fun _ _ => ?_) (fun h => absurd hx' h)
        | refine c_De_isOccasion (fun _ => ?_) (fun q => absurd ho q)
        | refine n_bit hb20 ?_
        | refine br_f q1' ?_
        | refine br_t q2' ?_
        | exact hk
        | (refine zs k_De_lay rfl ?_; conv => whnf)
        | refine ⟨Nat.zero_lt_one, rfl, ?_⟩
        | refine ⟨rfl, ?_⟩
        | refine ⟨⟨Nat.zero_lt_one, rfl⟩, Nat.le_of_ble_eq_true rfl, ?_⟩
        | refine ⟨Nat.le_of_ble_eq_true rfl, Nat.le_of_ble_eq_true rfl, ?_⟩
        | refine ⟨(by first | exact Nat.zero_lt_one | assumption | omega), (by first | assumption | exact vp_in_nI (by omega) (by omega) | (unfold vp_in; decide)), ?_⟩
        | refine ⟨(by first | exact Nat.zero_lt_one | assumption | omega), rfl, ?_⟩
        | refine ⟨⟨(by first | exact Nat.zero_lt_one | assumption | omega), rfl⟩, Nat.le_of_ble_eq_true rfl, ?_⟩
        | refine ⟨(by first | exact Nat.zero_lt_one | assumption | omega), ?_⟩
        | refine ⟨Or.inl rfl, ?_⟩
        | refine ⟨Or.inr (Or.inl rfl), ?_⟩
        | refine ⟨Or.inr (Or.inr rfl), ?_⟩
        | refine ⟨Or.inr ⟨rfl, (by first | exact Or.inl rfl | exact Or.inr rfl | assumption)⟩, ?_⟩
        | refine ⟨fun h => absurd h (by decide), fun _ => ?_⟩
        | refine ⟨fun _ => ?_, fun h => absurd h (by decide)⟩
        | refine ⟨fun h => ?_, fun h => ?_⟩
        | fail)
    have q2' : ¬ 7 < nI (gsT w 20).length := nI_nlt (b := (gsT w 20).length) (a := 7) q2 (by omega)
    have q3' : μ 9 (nI t).toNatClampNeg 0 < nI (gsT w 20).length := by
      rw [e9]
      refine nI_lt ?_ (by omega)
      rcases Nat.lt_or_ge z (gsT w 20).length with q | q
      · exact q
      · exact absurd ⟨hb, q1, q2, q⟩ hok
    repeat' (first
      | refine c_Ha_hasTable (fun _ _ => ?_) (fun h => absurd hx' h)
      | refine c_De_isOccasion (fun _ => ?_) (fun q => absurd ho q)
      | refine n_bit hb20 ?_
      | refine br_f q1' ?_
      | refine br_f q2' ?_
      | refine br_t q3' ?_
      | exact hk
      | (refine zs k_De_lay rfl ?_; conv => whnf)
      | refine ⟨Nat.zero_lt_one, rfl, ?_⟩
      | refine ⟨rfl, ?_⟩
      | refine ⟨⟨Nat.zero_lt_one, rfl⟩, Nat.le_of_ble_eq_true rfl, ?_⟩
      | refine ⟨Nat.le_of_ble_eq_true rfl, Nat.le_of_ble_eq_true rfl, ?_⟩
      | refine ⟨(by first | exact Nat.zero_lt_one | assumption | omega), (by first | assumption | exact vp_in_nI (by omega) (by omega) | (unfold vp_in; decide)), ?_⟩
      | refine ⟨(by first | exact Nat.zero_lt_one | assumption | omega), rfl, ?_⟩
      | refine ⟨⟨(by first | exact Nat.zero_lt_one | assumption | omega), rfl⟩, Nat.le_of_ble_eq_true rfl, ?_⟩
      | refine ⟨(by first | exact Nat.zero_lt_one | assumption | omega), ?_⟩
      | refine ⟨Or.inl rfl, ?_⟩
      | refine ⟨Or.inr (Or.inl rfl), ?_⟩
      | refine ⟨Or.inr (Or.inr rfl), ?_⟩
      | refine ⟨Or.inr ⟨rfl, (by first | exact Or.inl rfl | exact Or.inr rfl | assumption)⟩, ?_⟩
      | refine ⟨fun h => absurd h (by decide), fun _ => ?_⟩
      | refine ⟨fun _ => ?_, fun h => absurd h (by decide)⟩
      | refine ⟨fun h => ?_, fun h => ?_⟩
      | fail)
  have q1' : ¬ nI (gsT w 20).length < 1 := nI_nlt (b := 1) hok.2.1 (by omega)
  have q2' : ¬ 7 < nI (gsT w 20).length := nI_nlt (b := (gsT w 20).length) (a := 7) hok.2.2.1 (by omega)
  have q3' : ¬ μ 9 (nI t).toNatClampNeg 0 < nI (gsT w 20).length := by rw [e9]; exact nI_nlt hok.2.2.2 (by omega)
  by_cases hall : cAll μ w n
  case neg =>
    have hk := h2 t z ho ht rfl z3 z2 hok hall
    repeat' (first
      | refine c_Ha_hasTable (fun _ _ => ?_) (fun h => absurd hx' h)
      | refine c_De_isOccasion (fun _ => ?_) (fun q => absurd ho q)
      | refine n_bit hb20 ?_
      | refine br_f q1' ?_
      | refine br_f q2' ?_
      | refine br_f q3' ?_
      | refine c_Ro_isSetOfPersons (fun _ => ?_) (fun q => absurd (hset.mpr hb) q)
      | refine c_Ro_areAllPresent hn h20 (fun q => absurd q hall) (fun _ => ?_)
      | exact hk
      | (refine zs k_De_lay rfl ?_; conv => whnf)
      | refine ⟨Nat.zero_lt_one, rfl, ?_⟩
      | refine ⟨rfl, ?_⟩
      | refine ⟨⟨Nat.zero_lt_one, rfl⟩, Nat.le_of_ble_eq_true rfl, ?_⟩
      | refine ⟨Nat.le_of_ble_eq_true rfl, Nat.le_of_ble_eq_true rfl, ?_⟩
      | refine ⟨(by first | exact Nat.zero_lt_one | assumption | omega), (by first | assumption | exact vp_in_nI (by omega) (by omega) | (unfold vp_in; decide)), ?_⟩
      | refine ⟨(by first | exact Nat.zero_lt_one | assumption | omega), rfl, ?_⟩
      | refine ⟨⟨(by first | exact Nat.zero_lt_one | assumption | omega), rfl⟩, Nat.le_of_ble_eq_true rfl, ?_⟩
      | refine ⟨(by first | exact Nat.zero_lt_one | assumption | omega), ?_⟩
      | refine ⟨Or.inl rfl, ?_⟩
      | refine ⟨Or.inr (Or.inl rfl), ?_⟩
      | refine ⟨Or.inr (Or.inr rfl), ?_⟩
      | refine ⟨Or.inr ⟨rfl, (by first | exact Or.inl rfl | exact Or.inr rfl | assumption)⟩, ?_⟩
      | refine ⟨fun h => absurd h (by decide), fun _ => ?_⟩
      | refine ⟨fun _ => ?_, fun h => absurd h (by decide)⟩
      | refine ⟨fun h => ?_, fun h => ?_⟩
      | fail)
  have V : ∀ μ1 : zMu, zFr7 μ μ1 → cOrd μ μ1 (cAd μ o day nr nh n) n (cLf0 μ n) (pCt (cLf0 μ n) n) → zG S (d + 14) m_De_lay K 113 [some (zR 0 0), some (zI (nI t)), some (zI o), some (zI day), some (zI w), some (zR 9 (nI t).toNatClampNeg), some (zI (nI (gsT w 20).length)), some (zI 1), none] [] μ1 := fun μ1 f1 c1 => by
    rw [ct]
    repeat' (first
      | refine c_Se_arrange (n := z) (m := pCt (cLf0 μ n) n) (o := oN (cAd μ o day nr nh n) n (cLf0 μ n)) (by omega) hok.2.2.1 c1.1 (by omega) (fun i hi => ⟨Nat.lt_of_lt_of_le (oN_df h20 i hi).1 h20, c1.2.1 i hi⟩) (oN_inj h20) (fun μ0 sb => lay_env g g8 f1 sb (by omega) z3 hok z2 hall) (fun μ0 μ' sb hr hf => ?_) (fun μ0 μ' sb hr hf h40 => ?_)
      | exact h3 t z μ1 μ0 μ' ho ht rfl z3 z2 hok hall f1 sb hr hf
      | exact h4 t z μ1 μ0 μ' ho ht rfl z3 z2 hok hall f1 sb hr hf h40
      | refine br_f (nI_nem1 (by omega)) ?_
      | (refine zs k_De_lay rfl ?_; conv => whnf)
      | refine ⟨Nat.zero_lt_one, rfl, ?_⟩
      | refine ⟨rfl, ?_⟩
      | refine ⟨⟨Nat.zero_lt_one, rfl⟩, Nat.le_of_ble_eq_true rfl, ?_⟩
      | refine ⟨Nat.le_of_ble_eq_true rfl, Nat.le_of_ble_eq_true rfl, ?_⟩
      | refine ⟨(by first | exact Nat.zero_lt_one | assumption | omega), (by first | assumption | exact vp_in_nI (by omega) (by omega) | (unfold vp_in; decide)), ?_⟩
      | refine ⟨(by first | exact Nat.zero_lt_one | assumption | omega), rfl, ?_⟩
      | refine ⟨⟨(by first | exact Nat.zero_lt_one | assumption | omega), rfl⟩, Nat.le_of_ble_eq_true rfl, ?_⟩
      | refine ⟨(by first | exact Nat.zero_lt_one | assumption | omega), ?_⟩
      | refine ⟨Or.inl rfl, ?_⟩
      | refine ⟨Or.inr (Or.inl rfl), ?_⟩
      | refine ⟨Or.inr (Or.inr rfl), ?_⟩
      | refine ⟨Or.inr ⟨rfl, (by first | exact Or.inl rfl | exact Or.inr rfl | assumption)⟩, ?_⟩
      | refine ⟨fun h => absurd h (by decide), fun _ => ?_⟩
      | refine ⟨fun _ => ?_, fun h => absurd h (by decide)⟩
      | refine ⟨fun h => ?_, fun h => ?_⟩
      | fail)
  repeat' (first
    | refine c_Ha_hasTable (fun _ _ => ?_) (fun h => absurd hx' h)
    | refine c_De_isOccasion (fun _ => ?_) (fun q => absurd ho q)
    | refine n_bit hb20 ?_
    | refine br_f q1' ?_
    | refine br_f q2' ?_
    | refine br_f q3' ?_
    | refine c_Ro_isSetOfPersons (fun _ => ?_) (fun q => absurd (hset.mpr hb) q)
    | refine c_Ro_areAllPresent hn h20 (fun _ => ?_) (fun q => absurd hall q)
    | refine c_Pr_form g2.1 h20 g4.1 g4.2.2.1 g5.1 g5.2.2.1 (gRu_ok g4) (fun p hp => (g2.2.2.2 p hp).2.1) (fun μ' hf hc => ?_)
    | exact V _ hf hc
    | (refine zs k_De_lay rfl ?_; conv => whnf)
    | refine ⟨Nat.zero_lt_one, rfl, ?_⟩
    | refine ⟨rfl, ?_⟩
    | refine ⟨⟨Nat.zero_lt_one, rfl⟩, Nat.le_of_ble_eq_true rfl, ?_⟩
    | refine ⟨Nat.le_of_ble_eq_true rfl, Nat.le_of_ble_eq_true rfl, ?_⟩
    | refine ⟨(by first | exact Nat.zero_lt_one | assumption | omega), (by first | assumption | exact vp_in_nI (by omega) (by omega) | (unfold vp_in; decide)), ?_⟩
    | refine ⟨(by first | exact Nat.zero_lt_one | assumption | omega), rfl, ?_⟩
    | refine ⟨⟨(by first | exact Nat.zero_lt_one | assumption | omega), rfl⟩, Nat.le_of_ble_eq_true rfl, ?_⟩
    | refine ⟨(by first | exact Nat.zero_lt_one | assumption | omega), ?_⟩
    | refine ⟨Or.inl rfl, ?_⟩
    | refine ⟨Or.inr (Or.inl rfl), ?_⟩
    | refine ⟨Or.inr (Or.inr rfl), ?_⟩
    | refine ⟨Or.inr ⟨rfl, (by first | exact Or.inl rfl | exact Or.inr rfl | assumption)⟩, ?_⟩
    | refine ⟨fun h => absurd h (by decide), fun _ => ?_⟩
    | refine ⟨fun _ => ?_, fun h => absurd h (by decide)⟩
    | refine ⟨fun h => ?_, fun h => ?_⟩
    | fail)
-- ---- the scratch and one row have changed
def zSc4 (μ μ' : zMu) : Prop := (∀ f, f ∉ [2, 4, 6, 27, 28, 29, 30, 31, 33, 39, 40, 41, 42, 43, 44, 48, 86, 88, 89, 91, 96, 97] → μ' f = μ f) ∧ μ' 2 0 0 = μ 2 0 0 ∧ ∀ k, k ∉ [28, 29, 37, 40] → μ' 48 0 k = μ 48 0 k
theorem zSc4_of {μ μ' : zMu} (h : zScr μ μ') : zSc4 μ μ' := ⟨fun f hf => h.1 f (fun q => hf (by simp only [List.mem_cons, List.not_mem_nil, or_false] at q ⊢; omega)), h.2⟩
theorem zSc4_in {μ μ' : zMu} (h : zSc4 μ μ') {l : List Nat} (hl : l.all (fun f => !([2, 4, 6, 27, 28, 29, 30, 31, 33, 39, 40, 41, 42, 43, 44, 48, 86, 88, 89, 91, 96, 97] : List Nat).contains f) = true) : ∀ f, f ∈ l → μ' f = μ f := fun f hf => h.1 f (fun q => by
  have := List.all_eq_true.mp hl f hf
  simp only [Bool.not_eq_true', List.contains_eq_mem, decide_eq_false_iff_not] at this
  exact this q)
theorem gQ_sc4 {μ μ' : zMu} {ns n nr nh : Nat} (h : zSc4 μ μ') (g : gQ μ ns n nr nh) : gQ μ' ns n nr nh :=
  ⟨gSt_fr (zSc4_in h rfl) (h.2.2 0 (by decide)) g.1, gPe_fr (zSc4_in h rfl) (h.2.2 5 (by decide)) g.2.1, gRu_fr (zSc4_in h rfl) (h.2.2 15 (by decide)) g.2.2.1, gHd_fr (zSc4_in h rfl) (h.2.2 33 (by decide)) g.2.2.2⟩
theorem zSc4_ad {μ μ' : zMu} (h : zSc4 μ μ') (o day : Int32) (nr nh n : Nat) : cAd μ' o day nr nh n = cAd μ o day nr nh n ∧ cLf0 μ' n = cLf0 μ n := by
  have e : cLf0 μ' n = cLf0 μ n := by
    funext p
    unfold cLf0
    rw [zSc4_in h (l := [10]) rfl 10 (by simp)]
  refine ⟨?_, e⟩
  have hlk : zLk μ μ' := fun f hf => zSc4_in h (l := [1, 3, 8, 10, 17, 20, 21, 22, 23, 24, 25, 26]) rfl f hf
  funext q p
  unfold cAd cLdm
  rw [e, zLk_ldr hlk]
theorem gTw_sc4 {μ μ' : zMu} {nt n : Nat} (h : zSc4 μ μ') (g : gTb μ nt n) : gTw μ' nt := by
  unfold gTw
  rw [h.2.2 42 (by decide), zSc4_in h (l := [9]) rfl 9 (by simp), zSc4_in h (l := [93]) rfl 93 (by simp), zSc4_in h (l := [94]) rfl 94 (by simp)]
  refine ⟨g.2.1, g.2.2.1, fun t ht => ?_⟩
  obtain ⟨a1, a2, ⟨z, z1, z2, z3, z4, -⟩, -⟩ := g.2.2.2 t ht
  exact ⟨a1, a2, z, z1, z2, z3, z4⟩
theorem chn_perm : ∀ {l : List (List Nat)} {u z : List Nat}, chn u l z → ∀ v ∈ u :: l, v.Perm u
  | [], u, z, _, v, hv => by
    rw [List.mem_singleton.mp hv]
  | w :: l, u, z, h, v, hv => by
    rcases List.mem_cons.mp hv with e | hv
    · rw [e]
    · exact (chn_perm h.2 v hv).trans (nxR_perm h.1)
theorem bst_mem : ∀ {l : List (Nat × List Nat)} {b : Nat × List Nat}, l.foldl bst b = b ∨ l.foldl bst b ∈ l
  | [], b => Or.inl rfl
  | e :: l, b => by
    rw [List.foldl_cons]
    rcases bst_mem (l := l) (b := bst b e) with h | h
    · rw [h]
      unfold bst
      split
      · exact Or.inr List.mem_cons_self
      · exact Or.inl rfl
    · exact Or.inr (List.mem_cons_of_mem _ h)
theorem fd_mem {kp : List Nat → Bool} {pr : List Nat → Nat} {l : List (List Nat)} (h : (fd kp pr l).1 < 1000000) : (fd kp pr l).2 ∈ l := by
  unfold fd at *
  rcases bst_mem (l := (l.filter kp).map (fun v => (pr v, v))) (b := (1000000, [])) with q | q
  · rw [q] at h
    exact absurd h (by decide)
  · obtain ⟨v, hv, e⟩ := List.mem_map.mp q
    rw [← e]
    exact (List.mem_filter.mp hv).1
set_option maxHeartbeats 1000000 in
theorem lay_bun {μ μ1 μ0 M : zMu} {ns n nr nh nt t z : Nat} {o day w : Int32} (g : gQ μ ns n nr nh) (g6 : gTb μ nt n) (g7 : gFe μ) (g8 : gCo μ) (ht : t < nt) (h9 : μ 9 t 0 = nI z) (hz : z ≤ 12) (hok : okLy w n z) (hall : cAll μ w n) (f1 : zFr7 μ μ1) (sb : sBeg μ1 μ0 (pCt (cLf0 μ n) n) (oN (cAd μ o day nr nh n) n (cLf0 μ n)) w) (s4 : zSc4 μ M) : (∀ v : List Nat, v.Perm (gsT w 20) → (mKp M (lw v) (M 9 t 2) z ↔ kpW (sPe μ0 (μ0 9 t 2) z) v (gsT w 20).length = true)) ∧ (∀ v : List Nat, v.Perm (gsT w 20) → nI ((mO (lw v) (oN (cAd M o day nr nh n) n (cLf0 M n)) z (pCt (cLf0 M n) n)).1 + nS (mTk M (lw v) (M 9 t 2) z) z) = nI (csW (sPc μ0 (μ0 9 t 2) z) v (gsT w 20).length) ∧ csW (sPc μ0 (μ0 9 t 2) z) v (gsT w 20).length < 1000000) := by
  have s0 := sBeg_scr f1 sb
  have h20 := g.2.1.2.2.1
  have hm := pCt_le (cLf0 μ n) n
  obtain ⟨g1', g2', -, -⟩ := gQ_sc4 s4 g
  have g7' := gFe_fr (zSc4_in s4 rfl) g7
  obtain ⟨k1', k2', -, -⟩ := gQ_scr s0 g
  have k8' := gCo_fr (zScr_in s0 rfl) g8
  obtain ⟨e1, e2⟩ := zSc4_ad s4 o day nr nh n
  have m9 : M 9 = μ 9 := zSc4_in s4 (l := [9]) rfl 9 (by simp)
  have n9 : μ0 9 = μ 9 := zScr_in s0 (l := [9]) rfl 9 (by simp)
  have m17 : M 17 = μ0 17 := (zSc4_in s4 (l := [17]) rfl 17 (by simp)).trans (zScr_in s0 (l := [17]) rfl 17 (by simp)).symm
  have m36 : M 36 = μ0 36 := (zSc4_in s4 (l := [36]) rfl 36 (by simp)).trans (zScr_in s0 (l := [36]) rfl 36 (by simp)).symm
  have m38 : M 38 = μ0 38 := (zSc4_in s4 (l := [38]) rfl 38 (by simp)).trans (zScr_in s0 (l := [38]) rfl 38 (by simp)).symm
  obtain ⟨-, -, ⟨y, y1, y2, y3, -, -⟩, -⟩ := g6.2.2.2 t ht
  obtain rfl := (nI_eq (by omega) (by omega)).mp (h9.symm.trans y3)
  rw [e1, e2, m9, n9]
  have gs20 : ∀ q ∈ gsT w 20, q < 20 := fun q hq => (gsT_mem.mp hq).1
  have gsd : (gsT w 20).Nodup := (gsT_sorted w 20).imp (fun h => by omega)
  constructor
  · intro v hv
    have hl : v.length = (gsT w 20).length := hv.length_eq
    have hrow := lw_ok hv (gs_lt hok.1)
    rw [kp_iff y1 hz (fun i j _ _ => hFd_sy g1' g2' g7' (hrow i) (hrow j)), ← hl, kp_cls hz (by rw [hl]; exact hok.2.2.2)]
    unfold hPe hFd
    rw [m17, m36]
  · intro v hv
    have hl : v.length = (gsT w 20).length := hv.length_eq
    have hrow := lw_ok hv (gs_lt hok.1)
    have hvm : ∀ x ∈ v, x ∈ gsT w 20 := fun x hx => hv.mem_iff.mp hx
    obtain ⟨p1, p2⟩ := pr_cls (μ0 := μ0) (rd := μ 9 t 2) (v := v) hz (by rw [hl]; exact hok.2.2.2) (fun k hk => lay_hPr g g8 f1 sb hok hz hall hvm hk)
    rw [← hl]
    refine ⟨?_, p2⟩
    rw [← p1, hPr_fr m38 m17]
    refine (price_all (μ := μ0) (ns := ns) (n := n) (sits := zbt w) k1' k2' k8' y1 hz (fun k _ => hrow k) (fun j k hjk _ e => lw_inj (hv.nodup_iff.mpr gsd) (fun q hq => gs20 q (hvm q hq)) hjk e) (fun p hp => ?_) (fun i hi => Nat.lt_of_lt_of_le (oN_df h20 i hi).1 h20) (by omega) (oN_inj h20) (fun k hk hne => ?_) sb.2.1).symm
    · rw [lw_mem hp (fun q hq => gs20 q (hvm q hq)) (by rw [hl]; exact hok.2.2.2), hv.mem_iff, gsT_mem]
      exact ⟨fun q => ⟨hp, q⟩, fun q => q.2⟩
    · unfold lw at hne ⊢
      cases h : v[k]? with
      | none =>
        rw [h] at hne
        exact absurd rfl hne
      | some p =>
        obtain ⟨i, hi, e, -⟩ := lay_39 g sb hok.1 hall (hvm p (List.mem_of_getElem? h))
        exact ⟨i, hi, by show nI p = _; rw [e]⟩
theorem b_lay {μ : zMu} {x o day w : Int32} (h : Rel μ) : Both m_De_lay m_Mo_lay [zI x, zI o, zI day, zI w] μ := by
  intro d K hK
  obtain ⟨ns, n, nr, nh, nt, nb, L, g1, g2, g3, g4, g5, g6, g7, g8, g9, g10, g11⟩ := id h
  have h20 := g2.2.2.1
  have h4 := g6.2.2.1
  have g : gQ μ ns n nr nh := ⟨g1, g2, g4, g5⟩
  have z9 : ∀ (t z z' : Nat), z ≤ 12 → z' ≤ 12 → μ 9 t 0 = nI z → μ 9 t 0 = nI z' → z = z' := fun t z z' h1 h2 e e' => (nI_eq (by omega) (by omega)).mp (e.symm.trans e')
  have gw : gTw μ nt := gTw_sc4 (zSc4_of zScr_rf) g6
  refine c_De_lay g g6 g8 (fun a => hK _ _ (fun d K2 hK2 => ?_)) (fun t z a ht ex e9 hz b => hK _ _ (fun d K2 hK2 => ?_)) (fun t z a ht ex e9 hz b c => hK _ _ (fun d K2 hK2 => ?_)) (fun t z μ1 μ0 M a ht ex e9 hz b c f1 sb hr hf => hK _ _ (fun d K2 hK2 => ?_)) (fun t z μ1 μ0 M a ht ex e9 hz b c f1 sb hr hf h40 => hK _ _ (fun d K2 hK2 => ?_))
  · exact c_Mo_lay g gw g7 g8 (fun _ => hK2 _ h) (fun t z b ht ex => absurd ⟨by rw [ex]; exact okI_i ht (by omega), b⟩ a) (fun t z b ht ex => absurd ⟨by rw [ex]; exact okI_i ht (by omega), b⟩ a) (fun t z b ht ex => absurd ⟨by rw [ex]; exact okI_i ht (by omega), b⟩ a)
  · subst ex
    refine c_Mo_lay g gw g7 g8 (fun q => absurd ⟨okI_i ht (by omega), a⟩ q) (fun t' z' _ ht' ex e9' hz' b' => hK2 _ h) (fun t' z' _ ht' ex e9' hz' b' => ?_) (fun t' z' _ ht' ex e9' hz' b' => ?_)
    · obtain rfl := (nI_eq (by omega) (by omega)).mp ex
      obtain rfl := z9 t _ _ hz hz' e9 e9'
      exact absurd b' b
    · obtain rfl := (nI_eq (by omega) (by omega)).mp ex
      obtain rfl := z9 t _ _ hz hz' e9 e9'
      exact absurd b' b
  · subst ex
    refine c_Mo_lay g gw g7 g8 (fun q => absurd ⟨okI_i ht (by omega), a⟩ q) (fun t' z' _ ht' ex e9' hz' b' => ?_) (fun t' z' _ ht' ex e9' hz' b' c' => hK2 _ h) (fun t' z' _ ht' ex e9' hz' b' c' => absurd c' c)
    obtain rfl := (nI_eq (by omega) (by omega)).mp ex
    obtain rfl := z9 t _ _ hz hz' e9 e9'
    exact absurd b b'
  · subst ex
    have s1 : zScr μ M := by
      refine zScr_tr (zFr7_scr f1) ⟨fun f hf' => hf f (fun q => hf' (by simp only [List.mem_cons, List.not_mem_nil, or_false] at q ⊢; omega)), by rw [hf 2 (by decide)], fun k _ => by rw [hf 48 (by decide)]⟩
    have s4 := zSc4_of s1
    have m9 : M 9 = μ 9 := zSc4_in s4 (l := [9]) rfl 9 (by simp)
    have m10 : M 10 = μ 10 := zSc4_in s4 (l := [10]) rfl 10 (by simp)
    have cM : cAll M w n := by unfold cAll; rw [m10]; exact c
    refine c_Mo_lay (gQ_sc4 s4 g) (gTw_sc4 s4 g6) (gFe_fr (zSc4_in s4 rfl) g7) (gCo_fr (zSc4_in s4 rfl) g8) (fun q => absurd ⟨okI_i ht (by omega), a⟩ q) (fun t' z' _ ht' ex e9' hz' b' => ?_) (fun t' z' _ ht' ex e9' hz' b' c' => absurd cM c') (fun t' z' _ ht' ex e9' hz' b' c' => ?_)
    · obtain rfl := (nI_eq (by omega) (by omega)).mp ex
      rw [m9] at e9'
      obtain rfl := z9 t _ _ hz hz' e9 e9'
      exact absurd b b'
    · obtain rfl := (nI_eq (by omega) (by omega)).mp ex
      rw [m9] at e9'
      obtain rfl := z9 t _ _ hz hz' e9 e9'
      obtain ⟨u1, u2⟩ := lay_bun (M := M) g g6 g7 g8 ht e9 hz b c f1 sb s4
      refine ⟨_, _, u1, u2, fun q μ' s' => hK2 _ (Rel_scr (zScr_tr s1 s') h), fun q => ?_⟩
      rw [← sRes_fd] at q
      exact absurd q (by omega)
  · subst ex
    have s4 : zSc4 μ M := by
      refine ⟨fun f hf' => ?_, ?_, fun k _ => ?_⟩
      · rw [hf f (fun q => hf' (by simp only [List.mem_cons, List.not_mem_nil, or_false] at q ⊢; omega)), f1 f (fun q => hf' (by simp only [List.mem_cons, List.not_mem_nil, or_false] at q ⊢; omega))]
      · rw [hf 2 (by decide), f1 2 (by decide)]
      · rw [hf 48 (by decide), f1 48 (by decide)]
    have m9 : M 9 = μ 9 := zSc4_in s4 (l := [9]) rfl 9 (by simp)
    have m10 : M 10 = μ 10 := zSc4_in s4 (l := [10]) rfl 10 (by simp)
    have m95 : M 95 = μ 95 := zSc4_in s4 (l := [95]) rfl 95 (by simp)
    have cM : cAll M w n := by unfold cAll; rw [m10]; exact c
    refine c_Mo_lay (gQ_sc4 s4 g) (gTw_sc4 s4 g6) (gFe_fr (zSc4_in s4 rfl) g7) (gCo_fr (zSc4_in s4 rfl) g8) (fun q => absurd ⟨okI_i ht (by omega), a⟩ q) (fun t' z' _ ht' ex e9' hz' b' => ?_) (fun t' z' _ ht' ex e9' hz' b' c' => absurd cM c') (fun t' z' _ ht' ex e9' hz' b' c' => ?_)
    · obtain rfl := (nI_eq (by omega) (by omega)).mp ex
      rw [m9] at e9'
      obtain rfl := z9 t _ _ hz hz' e9 e9'
      exact absurd b b'
    · obtain rfl := (nI_eq (by omega) (by omega)).mp ex
      rw [m9] at e9'
      obtain rfl := z9 t _ _ hz hz' e9 e9'
      obtain ⟨u1, u2⟩ := lay_bun (M := M) g g6 g7 g8 ht e9 hz b c f1 sb s4
      refine ⟨_, _, u1, u2, fun q => ?_, fun q μ' μ2 s2 c1 c2 c3 => ?_⟩
      · rw [← sRes_fd] at q
        exact absurd hr (by omega)
      · have hvm := fd_mem q
        rw [← sRes_fd] at c3 hvm ⊢
        refine hK2 _ ?_
        obtain ⟨l, pm1, pm2⟩ := pm_chn (m := (gsT w 20).length) (w := []) (A := gsT w 20) rfl (gsT_sorted w 20)
        rw [List.nil_append] at pm1
        rw [List.nil_append, List.nil_append] at pm2
        rw [pm1] at hvm
        have hp := chn_perm pm2 _ hvm
        generalize sRes μ0 t z (gsT w 20) = R at *
        have gs20 : ∀ p ∈ gsT w 20, p < 20 := fun p hp => (gsT_mem.mp hp).1
        have gsd : (gsT w 20).Nodup := (gsT_sorted w 20).imp (fun h => by omega)
        have sν : zScr μ (fun f => if f = 40 then μ 40 else if f = 95 then μ 95 else μ' f) := by
          refine ⟨fun f hf' => ?_, ?_, fun k hk => ?_⟩
          · show (if f = 40 then μ 40 else if f = 95 then μ 95 else μ' f) = μ f
            by_cases q1 : f = 40
            · rw [if_pos q1, q1]
            · rw [if_neg q1]
              by_cases q2 : f = 95
              · rw [if_pos q2, q2]
              · rw [if_neg q2, c1 f q2, s2.1 f hf', s4.1 f (fun q => hf' (by simp only [List.mem_cons, List.not_mem_nil, or_false] at q ⊢; omega))]
          · show μ' 2 0 0 = μ 2 0 0
            rw [c1 2 (by omega), s2.2.1, s4.2.1]
          · show μ' 48 0 k = μ 48 0 k
            rw [c1 48 (by omega), s2.2.2 k hk, s4.2.2 k hk]
        have e40 : μ' 40 = M 40 := by rw [c1 40 (by omega)]; exact zScr_in s2 (l := [40]) rfl 40 (by simp)
        generalize hν : (fun f => if f = 40 then μ 40 else if f = 95 then μ 95 else μ' f) = ν at sν
        have n40 : ν 40 = μ 40 := by rw [← hν]; rfl
        have n95 : ν 95 = μ 95 := by rw [← hν]; rfl
        have nf : ∀ f, f ≠ 40 → f ≠ 95 → μ' f = ν f := fun f q1 q2 => by
          rw [← hν]
          show μ' f = (if f = 40 then μ 40 else if f = 95 then μ 95 else μ' f)
          rw [if_neg q1, if_neg q2]
        refine Rel_row (μ := ν) (t := t) (z := z) (a := lw R.2) (gSt_fr (zScr_in sν rfl) (sν.2.2 0 (by decide)) g1) (gPe_fr (zScr_in sν rfl) (sν.2.2 5 (by decide)) g2) (gTp_fr (zScr_in sν rfl) sν.2.1 (sν.2.2 14 (by decide)) g3) (gRu_fr (zScr_in sν rfl) (sν.2.2 15 (by decide)) g4) (gHd_fr (zScr_in sν rfl) (sν.2.2 33 (by decide)) g5) (gTb_scr sν g6) (gFe_fr (zScr_in sν rfl) g7) (gCo_fr (zScr_in sν rfl) g8) (gVs_fr (zScr_in sν rfl) (sν.2.2 48 (by decide)) g9) (gWi_fr (sν.1 7 (by decide)) (sν.2.2 52 (by decide)) g10) (gCs_fr (zScr_in sν rfl) g11) ht nf (fun u k => ?_) (fun k hk => ?_) c3 (by rw [zScr_in sν (l := [9]) rfl 9 (by simp)]; exact e9) hz (fun k h1 h2 => ?_) (fun k hk => ?_) (fun j k hjk hk e => ?_)
        · rw [e40, h40, n40, f1 40 (by decide)]
        · rw [c2 k hk, n95, m95]
        · exact lw_out (by rw [hp.length_eq]; exact Nat.le_trans b.2.2.2 h1)
        · unfold lw
          cases h' : R.2[k]? with
          | none => exact Or.inl rfl
          | some p =>
            have hpm := hp.mem_iff.mp (List.mem_of_getElem? h')
            have hpn := gs_lt b.1 p hpm
            refine Or.inr ⟨p, hpn, rfl, ?_⟩
            rw [zScr_in sν (l := [10]) rfl 10 (by simp)]
            rcases (g2.2.2.2 p hpn).2.1 with q1 | q1
            · exact absurd q1 (c p hpn ((zbit_iff (by omega)).mpr (gsT_mem.mp hpm).2))
            · exact q1
        · exact lw_inj (hp.nodup_iff.mpr gsd) (fun p hpp => gs20 p (hp.mem_iff.mp hpp)) hjk e
