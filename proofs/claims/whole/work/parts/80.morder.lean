/-! MODEL: the order -/
def gQ (μ : zMu) (ns n nr nh : Nat) : Prop := gSt μ ns ∧ gPe μ ns n ∧ gRu μ nr ∧ gHd μ nh
theorem gQ_scr {μ μ' : zMu} {ns n nr nh : Nat} (h : zScr μ μ') (g : gQ μ ns n nr nh) : gQ μ' ns n nr nh :=
  ⟨gSt_fr (zScr_in h rfl) (h.2.2 0 (by decide)) g.1, gPe_fr (zScr_in h rfl) (h.2.2 5 (by decide)) g.2.1, gRu_fr (zScr_in h rfl) (h.2.2 15 (by decide)) g.2.2.1, gHd_fr (zScr_in h rfl) (h.2.2 33 (by decide)) g.2.2.2⟩
theorem zScr_lk {μ μ' : zMu} (h : zScr μ μ') : zLk μ μ' := fun f hf => zScr_in h (l := [1, 3, 8, 10, 17, 20, 21, 22, 23, 24, 25, 26]) rfl f hf
/-- one cell of the scratch has changed -/
theorem zScr_zu {μ : zMu} {f i k : Nat} {v : Int32} (hf : f ∈ [4, 6, 27, 28, 29, 30, 31, 33, 39, 41, 42, 43, 44, 86, 88, 89, 91, 96, 97]) : zScr μ (zu μ f i k v) := by
  refine ⟨fun f' hf' => ?_, ?_, fun k' _ => ?_⟩
  · funext a b
    refine zu_ne (fun z => hf' ?_)
    rw [z.1]
    simp only [List.mem_cons, List.not_mem_nil, or_false] at hf ⊢
    omega
  · refine zu_ne (fun z => ?_)
    rw [← z.1] at hf
    exact absurd hf (by decide)
  · refine zu_ne (fun z => ?_)
    rw [← z.1] at hf
    exact absurd hf (by decide)
theorem zScr_48 {μ : zMu} {k : Nat} {v : Int32} (hk : k ∈ [28, 29, 37, 40]) : zScr μ (zu μ 48 0 k v) := by
  refine ⟨fun f' hf' => ?_, zu_ne (by omega), fun k' hk' => ?_⟩
  · funext a b
    exact zu_ne (fun z => hf' (by rw [z.1]; decide))
  · refine zu_ne (fun z => hk' ?_)
    rw [z.2.1]
    exact hk
def mLf (μ : zMu) (n : Nat) (lf : Nat → Bool) : Prop := ∀ p, p < n → μ 88 0 p = if lf p then 1 else 0
/-- A says who leads whom of those who are left -/
def mAh (μ : zMu) (o day : Int32) (nr nh n : Nat) (lf : Nat → Bool) (A : Nat → Nat → Bool) : Prop := ∀ q p, q < n → p < n → lf q = true → lf p = true → A q p = decide (cLdr μ o day nr nh q p = 1)
theorem mAh_lk {μ μ' : zMu} {o day : Int32} {nr nh n : Nat} {lf : Nat → Bool} {A : Nat → Nat → Bool} (h : zLk μ μ') (g : mAh μ o day nr nh n lf A) : mAh μ' o day nr nh n lf A := fun q p a b c e => by
  rw [zLk_ldr h]
  exact g q p a b c e
set_option maxHeartbeats 1000000 in
theorem c_Mo_leastAhead {d ns n nr nh p : Nat} {μ : zMu} {lf : Nat → Bool} {A : Nat → Nat → Bool} {o day x : Int32} {K : Option zV → zMu → Prop} (g : gQ μ ns n nr nh) (hp : p < n) (hx : x = nI p) (hlp : lf p = true) (hl : mLf μ n lf) (hA : mAh μ o day nr nh n lf A) (hK : K (some (zI (pAh lf A n p))) μ) : Ct (d + 7) m_Mo_leastAhead [zR 48 0, zI o, zI day, zI x] μ K := by
  subst hx
  refine zmeet rfl (Nat.le_of_ble_eq_true rfl) (fun S => ?_)
  obtain ⟨g1, g2, g4, g5⟩ := g
  have h20 := g2.2.2.1
  have hn := g2.2.1
  unfold pAh at hK
  have L : ∀ (k i : Nat) (v : Int32), i + k = n → v = nI i → (∀ q, q < i → (decide (q ≠ p) && lf q && A q p) = false) → zG S (d + 7) m_Mo_leastAhead K 3 [some (zR 48 0), some (zI o), some (zI day), some (zI (nI p)), some (zI v)] [] μ := by
    intro k
    induction k with
    | zero =>
      intro i v hi hv hz
      subst hv
      obtain rfl : i = n := by omega
      rw [pFst_none hz] at hK
      refine zs k_Mo_leastAhead rfl ?_; conv => whnf
      repeat' (first
        | exact hK
        | (refine zs k_Mo_leastAhead rfl ?_; conv => whnf)
        | refine br_t (by simp (disch := omega) only [hn, nI_leI, nI_ltI, nI_eq]; omega) ?_
        | refine br_f (by simp (disch := omega) only [hn, nI_leI, nI_ltI, nI_eq]; omega) ?_
        | refine ⟨Nat.zero_lt_one, rfl, ?_⟩
        | refine ⟨rfl, ?_⟩
        | refine ⟨⟨Nat.zero_lt_one, rfl⟩, Nat.le_of_ble_eq_true rfl, ?_⟩
        | refine ⟨Nat.le_of_ble_eq_true rfl, Nat.le_of_ble_eq_true rfl, ?_⟩
        | refine ⟨(by first | exact Nat.zero_lt_one | assumption | omega), (by first | assumption | exact vp_in_nI (by omega) (by omega) | (unfold vp_in; decide)), ?_⟩
        | refine ⟨(by first | exact Nat.zero_lt_one | assumption | omega), rfl, ?_⟩
        | refine ⟨⟨(by first | exact Nat.zero_lt_one | assumption | omega), rfl⟩, Nat.le_of_ble_eq_true rfl, ?_⟩
        | refine ⟨(by first | exact Nat.zero_lt_one | assumption | omega), ?_⟩
        | refine ⟨Or.inl rfl, ?_⟩
        | refine ⟨Or.inr (Or.inl rfl), ?_⟩
        | refine ⟨Or.inr (Or.inr rfl), ?_⟩
        | refine ⟨Or.inr ⟨rfl, (by first | exact Or.inl rfl | exact Or.inr rfl | assumption)⟩, ?_⟩
        | refine ⟨fun h => absurd h (by decide), fun _ => ?_⟩
        | refine ⟨fun _ => ?_, fun h => absurd h (by decide)⟩
        | refine ⟨fun h => ?_, fun h => ?_⟩
        | fail)
    | succ k ih =>
      intro i v hi hv hz
      subst hv
      have hc : (nI i).toNatClampNeg = i := nI_clamp (by omega)
      have h88 : μ 88 0 (nI i).toNatClampNeg = if lf i then 1 else 0 := by rw [hc]; exact hl i (by omega)
      cases hli : lf i with
      | false =>
        rw [hli] at h88
        have h88' : μ 88 0 (nI i).toNatClampNeg = 0 := h88
        refine zs k_Mo_leastAhead rfl ?_; conv => whnf
        repeat' (first
          | refine br_t h88' ?_
          | refine ih (i + 1) _ (by omega) (by exact nI_1 i) (lt_s hz (by rw [hli]; simp))
          | (refine zs k_Mo_leastAhead rfl ?_; conv => whnf)
          | refine br_t (by simp (disch := omega) only [hn, nI_leI, nI_ltI, nI_eq]; omega) ?_
          | refine br_f (by simp (disch := omega) only [hn, nI_leI, nI_ltI, nI_eq]; omega) ?_
          | refine ⟨Nat.zero_lt_one, rfl, ?_⟩
          | refine ⟨rfl, ?_⟩
          | refine ⟨⟨Nat.zero_lt_one, rfl⟩, Nat.le_of_ble_eq_true rfl, ?_⟩
          | refine ⟨Nat.le_of_ble_eq_true rfl, Nat.le_of_ble_eq_true rfl, ?_⟩
          | refine ⟨(by first | exact Nat.zero_lt_one | assumption | omega), (by first | assumption | exact vp_in_nI (by omega) (by omega) | (unfold vp_in; decide)), ?_⟩
          | refine ⟨(by first | exact Nat.zero_lt_one | assumption | omega), rfl, ?_⟩
          | refine ⟨⟨(by first | exact Nat.zero_lt_one | assumption | omega), rfl⟩, Nat.le_of_ble_eq_true rfl, ?_⟩
          | refine ⟨(by first | exact Nat.zero_lt_one | assumption | omega), ?_⟩
          | refine ⟨Or.inl rfl, ?_⟩
          | refine ⟨Or.inr (Or.inl rfl), ?_⟩
          | refine ⟨Or.inr (Or.inr rfl), ?_⟩
          | refine ⟨Or.inr ⟨rfl, (by first | exact Or.inl rfl | exact Or.inr rfl | assumption)⟩, ?_⟩
          | refine ⟨fun h => absurd h (by decide), fun _ => ?_⟩
          | refine ⟨fun _ => ?_, fun h => absurd h (by decide)⟩
          | refine ⟨fun h => ?_, fun h => ?_⟩
          | fail)
      | true =>
        rw [hli] at h88
        have h88' : ¬ μ 88 0 (nI i).toNatClampNeg = 0 := by rw [h88]; decide
        by_cases hip : i = p
        · have hip' : nI i = nI p := by rw [hip]
          refine zs k_Mo_leastAhead rfl ?_; conv => whnf
          repeat' (first
            | refine br_f h88' ?_
            | refine br_t hip' ?_
            | refine ih (i + 1) _ (by omega) (by exact nI_1 i) (lt_s hz (by simp [hip]))
            | (refine zs k_Mo_leastAhead rfl ?_; conv => whnf)
            | refine br_t (by simp (disch := omega) only [hn, nI_leI, nI_ltI, nI_eq]; omega) ?_
            | refine br_f (by simp (disch := omega) only [hn, nI_leI, nI_ltI, nI_eq]; omega) ?_
            | refine ⟨Nat.zero_lt_one, rfl, ?_⟩
            | refine ⟨rfl, ?_⟩
            | refine ⟨⟨Nat.zero_lt_one, rfl⟩, Nat.le_of_ble_eq_true rfl, ?_⟩
            | refine ⟨Nat.le_of_ble_eq_true rfl, Nat.le_of_ble_eq_true rfl, ?_⟩
            | refine ⟨(by first | exact Nat.zero_lt_one | assumption | omega), (by first | assumption | exact vp_in_nI (by omega) (by omega) | (unfold vp_in; decide)), ?_⟩
            | refine ⟨(by first | exact Nat.zero_lt_one | assumption | omega), rfl, ?_⟩
            | refine ⟨⟨(by first | exact Nat.zero_lt_one | assumption | omega), rfl⟩, Nat.le_of_ble_eq_true rfl, ?_⟩
            | refine ⟨(by first | exact Nat.zero_lt_one | assumption | omega), ?_⟩
            | refine ⟨Or.inl rfl, ?_⟩
            | refine ⟨Or.inr (Or.inl rfl), ?_⟩
            | refine ⟨Or.inr (Or.inr rfl), ?_⟩
            | refine ⟨Or.inr ⟨rfl, (by first | exact Or.inl rfl | exact Or.inr rfl | assumption)⟩, ?_⟩
            | refine ⟨fun h => absurd h (by decide), fun _ => ?_⟩
            | refine ⟨fun _ => ?_, fun h => absurd h (by decide)⟩
            | refine ⟨fun h => ?_, fun h => ?_⟩
            | fail)
        · have hip' : ¬ nI i = nI p := fun e => hip ((nI_eq (by omega) (by omega)).mp e)
          have hAi := hA i p (by omega) hp hli hlp
          by_cases hv : cLdr μ o day nr nh i p = 1
          · rw [pFst_hit hz (by rw [hAi, hli, hv]; simp [hip]) (by omega) (by omega)] at hK
            refine zs k_Mo_leastAhead rfl ?_; conv => whnf
            repeat' (first
              | refine br_f h88' ?_
              | refine br_f hip' ?_
              | refine c_Mo_first g1 g2 g4 g5 (by omega) hp hip rfl rfl ?_
              | refine bn_f hv ?_
              | exact hK
              | (refine zs k_Mo_leastAhead rfl ?_; conv => whnf)
              | refine br_t (by simp (disch := omega) only [hn, nI_leI, nI_ltI, nI_eq]; omega) ?_
              | refine br_f (by simp (disch := omega) only [hn, nI_leI, nI_ltI, nI_eq]; omega) ?_
              | refine ⟨Nat.zero_lt_one, rfl, ?_⟩
              | refine ⟨rfl, ?_⟩
              | refine ⟨⟨Nat.zero_lt_one, rfl⟩, Nat.le_of_ble_eq_true rfl, ?_⟩
              | refine ⟨Nat.le_of_ble_eq_true rfl, Nat.le_of_ble_eq_true rfl, ?_⟩
              | refine ⟨(by first | exact Nat.zero_lt_one | assumption | omega), (by first | assumption | exact vp_in_nI (by omega) (by omega) | (unfold vp_in; decide)), ?_⟩
              | refine ⟨(by first | exact Nat.zero_lt_one | assumption | omega), rfl, ?_⟩
              | refine ⟨⟨(by first | exact Nat.zero_lt_one | assumption | omega), rfl⟩, Nat.le_of_ble_eq_true rfl, ?_⟩
              | refine ⟨(by first | exact Nat.zero_lt_one | assumption | omega), ?_⟩
              | refine ⟨Or.inl rfl, ?_⟩
              | refine ⟨Or.inr (Or.inl rfl), ?_⟩
              | refine ⟨Or.inr (Or.inr rfl), ?_⟩
              | refine ⟨Or.inr ⟨rfl, (by first | exact Or.inl rfl | exact Or.inr rfl | assumption)⟩, ?_⟩
              | refine ⟨fun h => absurd h (by decide), fun _ => ?_⟩
              | refine ⟨fun _ => ?_, fun h => absurd h (by decide)⟩
              | refine ⟨fun h => ?_, fun h => ?_⟩
              | fail)
          · skip
            refine zs k_Mo_leastAhead rfl ?_; conv => whnf
            repeat' (first
              | refine br_f h88' ?_
              | refine br_f hip' ?_
              | refine c_Mo_first g1 g2 g4 g5 (by omega) hp hip rfl rfl ?_
              | refine bn_t hv ?_
              | refine ih (i + 1) _ (by omega) (by exact nI_1 i) (lt_s hz (by rw [hAi]; simp [hv]))
              | (refine zs k_Mo_leastAhead rfl ?_; conv => whnf)
              | refine br_t (by simp (disch := omega) only [hn, nI_leI, nI_ltI, nI_eq]; omega) ?_
              | refine br_f (by simp (disch := omega) only [hn, nI_leI, nI_ltI, nI_eq]; omega) ?_
              | refine ⟨Nat.zero_lt_one, rfl, ?_⟩
              | refine ⟨rfl, ?_⟩
              | refine ⟨⟨Nat.zero_lt_one, rfl⟩, Nat.le_of_ble_eq_true rfl, ?_⟩
              | refine ⟨Nat.le_of_ble_eq_true rfl, Nat.le_of_ble_eq_true rfl, ?_⟩
              | refine ⟨(by first | exact Nat.zero_lt_one | assumption | omega), (by first | assumption | exact vp_in_nI (by omega) (by omega) | (unfold vp_in; decide)), ?_⟩
              | refine ⟨(by first | exact Nat.zero_lt_one | assumption | omega), rfl, ?_⟩
              | refine ⟨⟨(by first | exact Nat.zero_lt_one | assumption | omega), rfl⟩, Nat.le_of_ble_eq_true rfl, ?_⟩
              | refine ⟨(by first | exact Nat.zero_lt_one | assumption | omega), ?_⟩
              | refine ⟨Or.inl rfl, ?_⟩
              | refine ⟨Or.inr (Or.inl rfl), ?_⟩
              | refine ⟨Or.inr (Or.inr rfl), ?_⟩
              | refine ⟨Or.inr ⟨rfl, (by first | exact Or.inl rfl | exact Or.inr rfl | assumption)⟩, ?_⟩
              | refine ⟨fun h => absurd h (by decide), fun _ => ?_⟩
              | refine ⟨fun _ => ?_, fun h => absurd h (by decide)⟩
              | refine ⟨fun h => ?_, fun h => ?_⟩
              | fail)
  repeat' (first
    | exact L n 0 _ (by omega) rfl (fun r hr => absurd hr (by omega))
    | (refine zs k_Mo_leastAhead rfl ?_; conv => whnf)
    | refine ⟨Nat.zero_lt_one, rfl, ?_⟩
    | refine ⟨rfl, ?_⟩
    | refine ⟨⟨Nat.zero_lt_one, rfl⟩, Nat.le_of_ble_eq_true rfl, ?_⟩
    | refine ⟨Nat.le_of_ble_eq_true rfl, Nat.le_of_ble_eq_true rfl, ?_⟩
    | refine ⟨(by first | exact Nat.zero_lt_one | assumption | omega), (by first | assumption | exact vp_in_nI (by omega) (by omega) | (unfold vp_in; decide)), ?_⟩
    | refine ⟨(by first | exact Nat.zero_lt_one | assumption | omega), rfl, ?_⟩
    | refine ⟨⟨(by first | exact Nat.zero_lt_one | assumption | omega), rfl⟩, Nat.le_of_ble_eq_true rfl, ?_⟩
    | refine ⟨(by first | exact Nat.zero_lt_one | assumption | omega), ?_⟩
    | refine ⟨Or.inl rfl, ?_⟩
    | refine ⟨Or.inr (Or.inl rfl), ?_⟩
    | refine ⟨Or.inr (Or.inr rfl), ?_⟩
    | refine ⟨Or.inr ⟨rfl, (by first | exact Or.inl rfl | exact Or.inr rfl | assumption)⟩, ?_⟩
    | refine ⟨fun h => absurd h (by decide), fun _ => ?_⟩
    | refine ⟨fun _ => ?_, fun h => absurd h (by decide)⟩
    | refine ⟨fun h => ?_, fun h => ?_⟩
    | fail)
/-- the ring's cells alone have changed -/
def zRn (μ μ' : zMu) : Prop := (∀ f, f ∉ [48, 89, 91] → μ' f = μ f) ∧ ∀ k, k ≠ 40 → μ' 48 0 k = μ 48 0 k
theorem zRn_scr {μ μ' : zMu} (h : zRn μ μ') : zScr μ μ' := by
  refine ⟨fun f hf => h.1 f (fun q => hf ?_), by rw [h.1 2 (by decide)], fun k hk => h.2 k (fun q => hk ?_)⟩
  · simp only [List.mem_cons, List.not_mem_nil, or_false] at q ⊢
    omega
  · rw [q]
    decide
theorem zRn_tr {μ μ' μ'' : zMu} (h : zRn μ μ') (h' : zRn μ' μ'') : zRn μ μ'' := ⟨fun f hf => (h'.1 f hf).trans (h.1 f hf), fun k hk => (h'.2 k hk).trans (h.2 k hk)⟩
theorem zRn_zu {μ : zMu} {f i k : Nat} {v : Int32} (hf : f = 89 ∨ f = 91) : zRn μ (zu μ f i k v) := by
  refine ⟨fun f' hf' => ?_, fun k' _ => zu_ne (by omega)⟩
  funext a b
  simp only [List.mem_cons, List.not_mem_nil, or_false, not_or] at hf'
  exact zu_ne (by omega)
/-- the first of the walk that is like the next one -/
def mAg (w : Nat → Nat) (v : Nat) : Nat → Int32
  | 0 => -1
  | k + 1 => if mAg w v k = -1 ∧ w k = v then nI k else mAg w v k
theorem mAg_in {w : Nat → Nat} {v : Nat} : ∀ k, k < 2 ^ 31 → (mAg w v k = -1 ∧ ∀ j, j < k → w j ≠ v) ∨ ∃ s, s < k ∧ mAg w v k = nI s ∧ w s = v
  | 0, _ => Or.inl ⟨rfl, fun j hj => absurd hj (by omega)⟩
  | k + 1, hk => by
    rw [mAg]
    rcases mAg_in (w := w) (v := v) k (by omega) with ⟨h1, h2⟩ | ⟨s, h1, h2, h3⟩
    · by_cases e : w k = v
      · rw [if_pos ⟨h1, e⟩]
        exact Or.inr ⟨k, by omega, rfl, e⟩
      · rw [if_neg (fun z => e z.2)]
        refine Or.inl ⟨h1, fun j hj => ?_⟩
        rcases Nat.lt_or_ge j k with q | q
        · exact h2 j q
        · obtain rfl : j = k := by omega
          exact e
    · rw [if_neg (fun z => absurd z.1 (by rw [h2]; exact nI_nem1 (by omega)))]
      exact Or.inr ⟨s, by omega, h2, h3⟩
set_option maxHeartbeats 2000000 in
theorem c_Mo_findRing {d ns n nr nh st : Nat} {μ : zMu} {lf : Nat → Bool} {A : Nat → Nat → Bool} {o day x : Int32} {K : Option zV → zMu → Prop} (g : gQ μ ns n nr nh) (hst : st < n) (hx : x = nI st) (hls : lf st = true) (hl : mLf μ n lf) (hA : mAh μ o day nr nh n lf A) (hu : ∀ p, p < n → lf p = true → ¬ pAh lf A n p = -1)
    (hK : ∀ (T s : Nat) (μ' : zMu), pRg (pWk lf A n st) T s → T ≤ 20 → zRn μ μ' → μ' 48 0 40 = nI (T - s) → (∀ k, k < T - s → μ' 89 0 k = nI (pWk lf A n st (s + k))) → K none μ') : Ct (d + 8) m_Mo_findRing [zR 48 0, zI o, zI day, zI x] μ K := by
  subst hx
  refine zmeet rfl (Nat.le_of_ble_eq_true rfl) (fun S => ?_)
  have h20 := g.2.1.2.2.1
  have hw := pWk_in h20 hst hls hu
  generalize hwe : pWk lf A n st = w at hw hK
  -- the ring is copied
  have L3 : ∀ (T s : Nat) (l5 : Option zV), pRg w T s → T ≤ 20 → ∀ (k j : Nat) (v : Int32) (μ1 : zMu), j + k = T - s → v = nI j → zRn μ μ1 → μ1 48 0 40 = nI (T - s) → (∀ i, i < T → μ1 91 0 i = nI (w i)) → (∀ i, i < j → μ1 89 0 i = nI (w (s + i))) → zG S (d + 8) m_Mo_findRing K 95 [some (zR 48 0), some (zI o), some (zI day), some (zI (nI st)), some (zI (nI T)), l5, some (zI (nI s)), some (zI v)] [] μ1 := by
    intro T s l5 hrg hT k
    have hsT := hrg.1
    induction k with
    | zero =>
      intro j v μ1 hj hv hr h40 h91 h89
      subst hv
      have hk := hK T s μ1 hrg hT hr h40 (fun i hi => h89 i (by omega))
      have hle : μ1 48 0 40 ≤ nI j := by rw [h40]; exact nI_le (by omega) (by omega)
      refine zs k_Mo_findRing rfl ?_; conv => whnf
      repeat' (first
        | refine br_t hle ?_
        | exact hk
        | (refine zs k_Mo_findRing rfl ?_; conv => whnf)
        | refine ⟨Nat.zero_lt_one, rfl, ?_⟩
        | refine ⟨rfl, ?_⟩
        | refine ⟨⟨Nat.zero_lt_one, rfl⟩, Nat.le_of_ble_eq_true rfl, ?_⟩
        | refine ⟨Nat.le_of_ble_eq_true rfl, Nat.le_of_ble_eq_true rfl, ?_⟩
        | refine ⟨(by first | exact Nat.zero_lt_one | assumption | omega), (by first | assumption | exact vp_in_nI (by omega) (by omega) | (unfold vp_in; decide)), ?_⟩
        | refine ⟨(by first | exact Nat.zero_lt_one | assumption | omega), rfl, ?_⟩
        | refine ⟨⟨(by first | exact Nat.zero_lt_one | assumption | omega), rfl⟩, Nat.le_of_ble_eq_true rfl, ?_⟩
        | refine ⟨(by first | exact Nat.zero_lt_one | assumption | omega), ?_⟩
        | refine ⟨Or.inl rfl, ?_⟩
        | refine ⟨Or.inr (Or.inl rfl), ?_⟩
        | refine ⟨Or.inr (Or.inr rfl), ?_⟩
        | refine ⟨Or.inr ⟨rfl, (by first | exact Or.inl rfl | exact Or.inr rfl | assumption)⟩, ?_⟩
        | refine ⟨fun h => absurd h (by decide), fun _ => ?_⟩
        | refine ⟨fun _ => ?_, fun h => absurd h (by decide)⟩
        | refine ⟨fun h => ?_, fun h => ?_⟩
        | fail)
    | succ k ih =>
      intro j v μ1 hj hv hr h40 h91 h89
      subst hv
      have hle : ¬ μ1 48 0 40 ≤ nI j := by rw [h40]; exact nI_ge (by omega) (by omega)
      have cj : (nI j).toNatClampNeg = j := nI_clamp (by omega)
      have hvs : vp_in (nI s + nI j) 21 := by rw [nI_add]; exact vp_in_nI (by omega) (by omega)
      have cs : (nI s + nI j).toNatClampNeg = s + j := by rw [nI_add]; exact nI_clamp (by omega)
      have hv := h91 (s + j) (by omega)
      refine zs k_Mo_findRing rfl ?_; conv => whnf
      repeat' (first
        | refine br_f hle ?_
        | refine ih (j + 1) _ _ (by omega) (by exact nI_1 j) (zRn_tr hr (zRn_zu (Or.inl rfl))) (by exact h40) (by exact h91) ?_
        | (refine zs k_Mo_findRing rfl ?_; conv => whnf)
        | refine ⟨Nat.zero_lt_one, rfl, ?_⟩
        | refine ⟨rfl, ?_⟩
        | refine ⟨⟨Nat.zero_lt_one, rfl⟩, Nat.le_of_ble_eq_true rfl, ?_⟩
        | refine ⟨Nat.le_of_ble_eq_true rfl, Nat.le_of_ble_eq_true rfl, ?_⟩
        | refine ⟨(by first | exact Nat.zero_lt_one | assumption | omega), (by first | assumption | exact vp_in_nI (by omega) (by omega) | (unfold vp_in; decide)), ?_⟩
        | refine ⟨(by first | exact Nat.zero_lt_one | assumption | omega), rfl, ?_⟩
        | refine ⟨⟨(by first | exact Nat.zero_lt_one | assumption | omega), rfl⟩, Nat.le_of_ble_eq_true rfl, ?_⟩
        | refine ⟨(by first | exact Nat.zero_lt_one | assumption | omega), ?_⟩
        | refine ⟨Or.inl rfl, ?_⟩
        | refine ⟨Or.inr (Or.inl rfl), ?_⟩
        | refine ⟨Or.inr (Or.inr rfl), ?_⟩
        | refine ⟨Or.inr ⟨rfl, (by first | exact Or.inl rfl | exact Or.inr rfl | assumption)⟩, ?_⟩
        | refine ⟨fun h => absurd h (by decide), fun _ => ?_⟩
        | refine ⟨fun _ => ?_, fun h => absurd h (by decide)⟩
        | refine ⟨fun h => ?_, fun h => ?_⟩
        | fail)
      intro i hi
      rw [cj, cs, hv]
      by_cases e : i = j
      · rw [e, zu_eq]
      · rw [zu_ne (by omega)]
        exact h89 i (by omega)
  -- has one come again
  have L2 : ∀ (t : Nat) (m : Int32) (μ1 : zMu), m = nI t → t ≤ 20 → (∀ i, i < t → μ1 91 0 i = nI (w i)) → (∀ (v : Int32) (l7 : Option zV), v = mAg w (w t) t → zG S (d + 8) m_Mo_findRing K 9 [some (zR 48 0), some (zI o), some (zI day), some (zI (nI st)), some (zI m), some (zI (nI (w t))), some (zI v), l7] [] μ1) → ∀ (k j : Nat) (a v : Int32), j + k = t → v = nI j → a = mAg w (w t) j → zG S (d + 8) m_Mo_findRing K 40 [some (zR 48 0), some (zI o), some (zI day), some (zI (nI st)), some (zI m), some (zI (nI (w t))), some (zI a), some (zI v)] [] μ1 := by
    intro t m μ1 hm ht h91 hend k
    subst hm
    induction k with
    | zero =>
      intro j a v hj hv ha
      subst hv ha
      obtain rfl : j = t := by omega
      have hle : nI j ≤ nI j := nI_le (Nat.le_refl _) (by omega)
      refine zs k_Mo_findRing rfl ?_; conv => whnf
      repeat' (first
        | refine br_t hle ?_
        | exact hend _ _ rfl
        | (refine zs k_Mo_findRing rfl ?_; conv => whnf)
        | refine ⟨Nat.zero_lt_one, rfl, ?_⟩
        | refine ⟨rfl, ?_⟩
        | refine ⟨⟨Nat.zero_lt_one, rfl⟩, Nat.le_of_ble_eq_true rfl, ?_⟩
        | refine ⟨Nat.le_of_ble_eq_true rfl, Nat.le_of_ble_eq_true rfl, ?_⟩
        | refine ⟨(by first | exact Nat.zero_lt_one | assumption | omega), (by first | assumption | exact vp_in_nI (by omega) (by omega) | (unfold vp_in; decide)), ?_⟩
        | refine ⟨(by first | exact Nat.zero_lt_one | assumption | omega), rfl, ?_⟩
        | refine ⟨⟨(by first | exact Nat.zero_lt_one | assumption | omega), rfl⟩, Nat.le_of_ble_eq_true rfl, ?_⟩
        | refine ⟨(by first | exact Nat.zero_lt_one | assumption | omega), ?_⟩
        | refine ⟨Or.inl rfl, ?_⟩
        | refine ⟨Or.inr (Or.inl rfl), ?_⟩
        | refine ⟨Or.inr (Or.inr rfl), ?_⟩
        | refine ⟨Or.inr ⟨rfl, (by first | exact Or.inl rfl | exact Or.inr rfl | assumption)⟩, ?_⟩
        | refine ⟨fun h => absurd h (by decide), fun _ => ?_⟩
        | refine ⟨fun _ => ?_, fun h => absurd h (by decide)⟩
        | refine ⟨fun h => ?_, fun h => ?_⟩
        | fail)
    | succ k ih =>
      intro j a v hj hv ha
      subst hv
      have hle : ¬ nI t ≤ nI j := nI_ge (by omega) (by omega)
      have cj : (nI j).toNatClampNeg = j := nI_clamp (by omega)
      have hs : mAg w (w t) (j + 1) = if a = -1 ∧ w j = w t then nI j else a := by rw [ha]; rfl
      have h91j : μ1 91 0 (nI j).toNatClampNeg = nI (w j) := by rw [cj]; exact h91 j (by omega)
      have hwj := (hw j).1
      have hwt := (hw t).1
      by_cases e : w j = w t
      · have e' : μ1 91 0 (nI j).toNatClampNeg = nI (w t) := by rw [h91j, e]
        by_cases a1 : a = -1
        · rw [if_pos ⟨a1, e⟩] at hs
          refine zs k_Mo_findRing rfl ?_; conv => whnf
          repeat' (first
            | refine br_f hle ?_
            | refine bn_f e' ?_
            | refine bn_f a1 ?_
            | refine ih (j + 1) _ _ (by omega) (by exact nI_1 j) hs.symm
            | (refine zs k_Mo_findRing rfl ?_; conv => whnf)
            | refine ⟨Nat.zero_lt_one, rfl, ?_⟩
            | refine ⟨rfl, ?_⟩
            | refine ⟨⟨Nat.zero_lt_one, rfl⟩, Nat.le_of_ble_eq_true rfl, ?_⟩
            | refine ⟨Nat.le_of_ble_eq_true rfl, Nat.le_of_ble_eq_true rfl, ?_⟩
            | refine ⟨(by first | exact Nat.zero_lt_one | assumption | omega), (by first | assumption | exact vp_in_nI (by omega) (by omega) | (unfold vp_in; decide)), ?_⟩
            | refine ⟨(by first | exact Nat.zero_lt_one | assumption | omega), rfl, ?_⟩
            | refine ⟨⟨(by first | exact Nat.zero_lt_one | assumption | omega), rfl⟩, Nat.le_of_ble_eq_true rfl, ?_⟩
            | refine ⟨(by first | exact Nat.zero_lt_one | assumption | omega), ?_⟩
            | refine ⟨Or.inl rfl, ?_⟩
            | refine ⟨Or.inr (Or.inl rfl), ?_⟩
            | refine ⟨Or.inr (Or.inr rfl), ?_⟩
            | refine ⟨Or.inr ⟨rfl, (by first | exact Or.inl rfl | exact Or.inr rfl | assumption)⟩, ?_⟩
            | refine ⟨fun h => absurd h (by decide), fun _ => ?_⟩
            | refine ⟨fun _ => ?_, fun h => absurd h (by decide)⟩
            | refine ⟨fun h => ?_, fun h => ?_⟩
            | fail)
        · rw [if_neg (fun z => a1 z.1)] at hs
          refine zs k_Mo_findRing rfl ?_; conv => whnf
          repeat' (first
            | refine br_f hle ?_
            | refine bn_f e' ?_
            | refine bn_t a1 ?_
            | refine ih (j + 1) _ _ (by omega) (by exact nI_1 j) hs.symm
            | (refine zs k_Mo_findRing rfl ?_; conv => whnf)
            | refine ⟨Nat.zero_lt_one, rfl, ?_⟩
            | refine ⟨rfl, ?_⟩
            | refine ⟨⟨Nat.zero_lt_one, rfl⟩, Nat.le_of_ble_eq_true rfl, ?_⟩
            | refine ⟨Nat.le_of_ble_eq_true rfl, Nat.le_of_ble_eq_true rfl, ?_⟩
            | refine ⟨(by first | exact Nat.zero_lt_one | assumption | omega), (by first | assumption | exact vp_in_nI (by omega) (by omega) | (unfold vp_in; decide)), ?_⟩
            | refine ⟨(by first | exact Nat.zero_lt_one | assumption | omega), rfl, ?_⟩
            | refine ⟨⟨(by first | exact Nat.zero_lt_one | assumption | omega), rfl⟩, Nat.le_of_ble_eq_true rfl, ?_⟩
            | refine ⟨(by first | exact Nat.zero_lt_one | assumption | omega), ?_⟩
            | refine ⟨Or.inl rfl, ?_⟩
            | refine ⟨Or.inr (Or.inl rfl), ?_⟩
            | refine ⟨Or.inr (Or.inr rfl), ?_⟩
            | refine ⟨Or.inr ⟨rfl, (by first | exact Or.inl rfl | exact Or.inr rfl | assumption)⟩, ?_⟩
            | refine ⟨fun h => absurd h (by decide), fun _ => ?_⟩
            | refine ⟨fun _ => ?_, fun h => absurd h (by decide)⟩
            | refine ⟨fun h => ?_, fun h => ?_⟩
            | fail)
      · have e' : ¬ μ1 91 0 (nI j).toNatClampNeg = nI (w t) := by rw [h91j]; exact fun z => e ((nI_eq (by omega) (by omega)).mp z)
        rw [if_neg (fun z => e z.2)] at hs
        refine zs k_Mo_findRing rfl ?_; conv => whnf
        repeat' (first
          | refine br_f hle ?_
          | refine bn_t e' ?_
          | refine ih (j + 1) _ _ (by omega) (by exact nI_1 j) hs.symm
          | (refine zs k_Mo_findRing rfl ?_; conv => whnf)
          | refine ⟨Nat.zero_lt_one, rfl, ?_⟩
          | refine ⟨rfl, ?_⟩
          | refine ⟨⟨Nat.zero_lt_one, rfl⟩, Nat.le_of_ble_eq_true rfl, ?_⟩
          | refine ⟨Nat.le_of_ble_eq_true rfl, Nat.le_of_ble_eq_true rfl, ?_⟩
          | refine ⟨(by first | exact Nat.zero_lt_one | assumption | omega), (by first | assumption | exact vp_in_nI (by omega) (by omega) | (unfold vp_in; decide)), ?_⟩
          | refine ⟨(by first | exact Nat.zero_lt_one | assumption | omega), rfl, ?_⟩
          | refine ⟨⟨(by first | exact Nat.zero_lt_one | assumption | omega), rfl⟩, Nat.le_of_ble_eq_true rfl, ?_⟩
          | refine ⟨(by first | exact Nat.zero_lt_one | assumption | omega), ?_⟩
          | refine ⟨Or.inl rfl, ?_⟩
          | refine ⟨Or.inr (Or.inl rfl), ?_⟩
          | refine ⟨Or.inr (Or.inr rfl), ?_⟩
          | refine ⟨Or.inr ⟨rfl, (by first | exact Or.inl rfl | exact Or.inr rfl | assumption)⟩, ?_⟩
          | refine ⟨fun h => absurd h (by decide), fun _ => ?_⟩
          | refine ⟨fun _ => ?_, fun h => absurd h (by decide)⟩
          | refine ⟨fun h => ?_, fun h => ?_⟩
          | fail)
  -- the walk
  have L : ∀ (k t : Nat) (a p m : Int32) (l7 : Option zV) (μ1 : zMu), t + k = 20 → m = nI t → p = nI (w t) → a = -1 → (∀ i j, i < j → j ≤ t → w i ≠ w j) → zRn μ μ1 → (∀ i, i < t → μ1 91 0 i = nI (w i)) → zG S (d + 8) m_Mo_findRing K 9 [some (zR 48 0), some (zI o), some (zI day), some (zI (nI st)), some (zI m), some (zI p), some (zI a), l7] [] μ1 := by
    intro k
    induction k with
    | zero =>
      intro t a p m l7 μ1 ht hm hp ha hd hr h91
      obtain rfl : t = 20 := by omega
      have := fb_holes0 n 21 w (fun i _ => (hw i).1) (fun i j hij hj => hd i j hij (by omega))
      omega
    | succ k ih =>
      intro t a p m l7 μ1 ht hm hp ha hd hr h91
      subst hm hp ha
      have hwt := (hw t).1
      have ct : (nI t).toNatClampNeg = t := nI_clamp (by omega)
      have hvt : vp_in (nI t) 21 := vp_in_nI (by omega) (by omega)
      have hah : pAh lf A n (w t) = nI (w (t + 1)) := (hw t).2.2
      have r2 : zRn μ (zu μ1 91 0 (nI t).toNatClampNeg (nI (w t))) := zRn_tr hr (zRn_zu (Or.inr rfl))
      have s2 := zRn_scr r2
      have h91' : ∀ i, i < t + 1 → zu μ1 91 0 (nI t).toNatClampNeg (nI (w t)) 91 0 i = nI (w i) := fun i hi => by
        rw [ct]
        by_cases e : i = t
        · rw [e, zu_eq]
        · rw [zu_ne (by omega)]
          exact h91 i (by omega)
      have hl2 : mLf (zu μ1 91 0 (nI t).toNatClampNeg (nI (w t))) n lf := fun p hp => by
        rw [r2.1 88 (by decide)]
        exact hl p hp
      have g2 := gQ_scr s2 g
      have A2 := mAh_lk (zScr_lk s2) hA
      generalize hν : zu μ1 91 0 (nI t).toNatClampNeg (nI (w t)) = ν at r2 s2 h91' hl2 g2 A2
      have hend : ∀ (m v : Int32) (l7 : Option zV), m = nI (t + 1) → v = mAg w (w (t + 1)) (t + 1) → zG S (d + 8) m_Mo_findRing K 9 [some (zR 48 0), some (zI o), some (zI day), some (zI (nI st)), some (zI m), some (zI (nI (w (t + 1)))), some (zI v), l7] [] ν := fun m v l7 hm hv => by
        subst hm
        rcases mAg_in (w := w) (v := w (t + 1)) (t + 1) (by omega) with ⟨q1, q2⟩ | ⟨s, q1, q2, q3⟩
        · refine ih (t + 1) _ _ _ _ _ (by omega) rfl rfl (hv.trans q1) (fun i j hij hj => ?_) r2 h91'
          rcases Nat.lt_or_ge j (t + 1) with w1 | w1
          · exact hd i j hij (by omega)
          · obtain rfl : j = t + 1 := by omega
            exact q2 i (by omega)
        · rw [q2] at hv
          subst hv
          have hrg : pRg w (t + 1) s := ⟨q1, q3.symm, fun i j hij hj => hd i j hij (by omega)⟩
          have hm1 : ¬ nI s = -1 := nI_nem1 (by omega)
          have hsub : nI (t + 1) - nI s = nI (t + 1 - s) := pk_sub (by omega)
          have r3 : zRn μ (zu ν 48 0 40 (nI (t + 1) - nI s)) := by
            refine zRn_tr r2 ⟨fun f hf => ?_, fun k hk => ?_⟩
            · funext a b
              simp only [List.mem_cons, List.not_mem_nil, or_false, not_or] at hf
              exact zu_ne (fun z => hf.1 z.1)
            · exact zu_ne (fun z => hk z.2.1)
          refine zs k_Mo_findRing rfl ?_; conv => whnf
          repeat' (first
            | refine bn_t hm1 ?_
            | refine L3 (t + 1) s _ hrg (by omega) (t + 1 - s) 0 _ _ (by omega) rfl (by exact r3) hsub (by exact h91') (fun i hi => absurd hi (by omega))
            | (refine zs k_Mo_findRing rfl ?_; conv => whnf)
            | refine ⟨Nat.zero_lt_one, rfl, ?_⟩
            | refine ⟨rfl, ?_⟩
            | refine ⟨⟨Nat.zero_lt_one, rfl⟩, Nat.le_of_ble_eq_true rfl, ?_⟩
            | refine ⟨Nat.le_of_ble_eq_true rfl, Nat.le_of_ble_eq_true rfl, ?_⟩
            | refine ⟨(by first | exact Nat.zero_lt_one | assumption | omega), (by first | assumption | exact vp_in_nI (by omega) (by omega) | (unfold vp_in; decide)), ?_⟩
            | refine ⟨(by first | exact Nat.zero_lt_one | assumption | omega), rfl, ?_⟩
            | refine ⟨⟨(by first | exact Nat.zero_lt_one | assumption | omega), rfl⟩, Nat.le_of_ble_eq_true rfl, ?_⟩
            | refine ⟨(by first | exact Nat.zero_lt_one | assumption | omega), ?_⟩
            | refine ⟨Or.inl rfl, ?_⟩
            | refine ⟨Or.inr (Or.inl rfl), ?_⟩
            | refine ⟨Or.inr (Or.inr rfl), ?_⟩
            | refine ⟨Or.inr ⟨rfl, (by first | exact Or.inl rfl | exact Or.inr rfl | assumption)⟩, ?_⟩
            | refine ⟨fun h => absurd h (by decide), fun _ => ?_⟩
            | refine ⟨fun _ => ?_, fun h => absurd h (by decide)⟩
            | refine ⟨fun h => ?_, fun h => ?_⟩
            | fail)
      refine zs k_Mo_findRing rfl ?_; conv => whnf
      repeat' (first
        | (rw [hν]; refine c_Mo_leastAhead g2 hwt rfl (hw t).2.1 hl2 A2 ?_; rw [hah])
        | refine L2 (t + 1) _ ν (by exact nI_1 t) (by omega) h91' (fun v l7 hv => hend _ v l7 (nI_1 t) hv) (t + 1) 0 _ _ (by omega) rfl rfl
        | (refine zs k_Mo_findRing rfl ?_; conv => whnf)
        | refine ⟨Nat.zero_lt_one, rfl, ?_⟩
        | refine ⟨rfl, ?_⟩
        | refine ⟨⟨Nat.zero_lt_one, rfl⟩, Nat.le_of_ble_eq_true rfl, ?_⟩
        | refine ⟨Nat.le_of_ble_eq_true rfl, Nat.le_of_ble_eq_true rfl, ?_⟩
        | refine ⟨(by first | exact Nat.zero_lt_one | assumption | omega), (by first | assumption | exact vp_in_nI (by omega) (by omega) | (unfold vp_in; decide)), ?_⟩
        | refine ⟨(by first | exact Nat.zero_lt_one | assumption | omega), rfl, ?_⟩
        | refine ⟨⟨(by first | exact Nat.zero_lt_one | assumption | omega), rfl⟩, Nat.le_of_ble_eq_true rfl, ?_⟩
        | refine ⟨(by first | exact Nat.zero_lt_one | assumption | omega), ?_⟩
        | refine ⟨Or.inl rfl, ?_⟩
        | refine ⟨Or.inr (Or.inl rfl), ?_⟩
        | refine ⟨Or.inr (Or.inr rfl), ?_⟩
        | refine ⟨Or.inr ⟨rfl, (by first | exact Or.inl rfl | exact Or.inr rfl | assumption)⟩, ?_⟩
        | refine ⟨fun h => absurd h (by decide), fun _ => ?_⟩
        | refine ⟨fun _ => ?_, fun h => absurd h (by decide)⟩
        | refine ⟨fun h => ?_, fun h => ?_⟩
        | fail)
  repeat' (first
    | refine L 20 0 _ _ _ _ _ (by omega) rfl (by rw [← hwe]; rfl) rfl (fun i j hij hj => absurd hj (by omega)) ⟨fun _ _ => rfl, fun _ _ => rfl⟩ (fun i hi => absurd hi (by omega))
    | (refine zs k_Mo_findRing rfl ?_; conv => whnf)
    | refine ⟨Nat.zero_lt_one, rfl, ?_⟩
    | refine ⟨rfl, ?_⟩
    | refine ⟨⟨Nat.zero_lt_one, rfl⟩, Nat.le_of_ble_eq_true rfl, ?_⟩
    | refine ⟨Nat.le_of_ble_eq_true rfl, Nat.le_of_ble_eq_true rfl, ?_⟩
    | refine ⟨(by first | exact Nat.zero_lt_one | assumption | omega), (by first | assumption | exact vp_in_nI (by omega) (by omega) | (unfold vp_in; decide)), ?_⟩
    | refine ⟨(by first | exact Nat.zero_lt_one | assumption | omega), rfl, ?_⟩
    | refine ⟨⟨(by first | exact Nat.zero_lt_one | assumption | omega), rfl⟩, Nat.le_of_ble_eq_true rfl, ?_⟩
    | refine ⟨(by first | exact Nat.zero_lt_one | assumption | omega), ?_⟩
    | refine ⟨Or.inl rfl, ?_⟩
    | refine ⟨Or.inr (Or.inl rfl), ?_⟩
    | refine ⟨Or.inr (Or.inr rfl), ?_⟩
    | refine ⟨Or.inr ⟨rfl, (by first | exact Or.inl rfl | exact Or.inr rfl | assumption)⟩, ?_⟩
    | refine ⟨fun h => absurd h (by decide), fun _ => ?_⟩
    | refine ⟨fun _ => ?_, fun h => absurd h (by decide)⟩
    | refine ⟨fun h => ?_, fun h => ?_⟩
    | fail)
