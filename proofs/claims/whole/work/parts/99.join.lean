/-! MODEL: the order -/
def gQ (μ : zMu) (ns n nr nh : Nat) : Prop := gSt μ ns ∧ gPe μ ns n ∧ gRu μ nr ∧ gHd μ nh
theorem gQ_scr {μ μ' : zMu} {ns n nr nh : Nat} (h : zScr μ μ') (g : gQ μ ns n nr nh) : gQ μ' ns n nr nh :=
  ⟨gSt_fr (zScr_in h rfl) (h.2.2 0 (by decide)) g.1, gPe_fr (zScr_in h rfl) (h.2.2 5 (by decide)) g.2.1, gRu_fr (zScr_in h rfl) (h.2.2 15 (by decide)) g.2.2.1, gHd_fr (zScr_in h rfl) (h.2.2 33 (by decide)) g.2.2.2⟩
theorem zScr_lk {μ μ' : zMu} (h : zScr μ μ') : zLk μ μ' := fun f hf => zScr_in h (l := [1, 3, 8, 10, 17, 20, 21, 22, 23, 24, 25, 26]) rfl f hf
/-- one cell of the scratch has changed -/
theorem zScr_zu {μ : zMu} {f i k : Nat} {v : Int32} (hf : f ∈ [4, 6, 27, 28, 29, 30, 31, 33, 39, 41, 42, 43, 44, 86, 88, 89, 91, 96, 97]) : zScr μ (zu μ f i k v) := by
  refine ⟨fun f' hf' => ?_, ?_, fun k' _ => ?_⟩
  · funext a b
    refine zu_ne (fun z => hf' ?_)
    rw [z.1]
    simp only [List.mem_cons, List.not_mem_nil, or_false] at hf ⊢
    omega
  · refine zu_ne (fun z => ?_)
    rw [← z.1] at hf
    exact absurd hf (by decide)
  · refine zu_ne (fun z => ?_)
    rw [← z.1] at hf
    exact absurd hf (by decide)
theorem zScr_48 {μ : zMu} {k : Nat} {v : Int32} (hk : k ∈ [28, 29, 37, 40]) : zScr μ (zu μ 48 0 k v) := by
  refine ⟨fun f' hf' => ?_, zu_ne (by omega), fun k' hk' => ?_⟩
  · funext a b
    exact zu_ne (fun z => hf' (by rw [z.1]; decide))
  · refine zu_ne (fun z => hk' ?_)
    rw [z.2.1]
    exact hk
def mLf (μ : zMu) (n : Nat) (lf : Nat → Bool) : Prop := ∀ p, p < n → μ 88 0 p = if lf p then 1 else 0
/-- A says who leads whom of those who are left -/
def mAh (μ : zMu) (o day : Int32) (nr nh n : Nat) (lf : Nat → Bool) (A : Nat → Nat → Bool) : Prop := ∀ q p, q < n → p < n → lf q = true → lf p = true → A q p = decide (cLdr μ o day nr nh q p = 1)
theorem mAh_lk {μ μ' : zMu} {o day : Int32} {nr nh n : Nat} {lf : Nat → Bool} {A : Nat → Nat → Bool} (h : zLk μ μ') (g : mAh μ o day nr nh n lf A) : mAh μ' o day nr nh n lf A := fun q p a b c e => by
  rw [zLk_ldr h]
  exact g q p a b c e
set_option maxHeartbeats 1000000 in
theorem c_Mo_leastAhead {d ns n nr nh p : Nat} {μ : zMu} {lf : Nat → Bool} {A : Nat → Nat → Bool} {o day x : Int32} {K : Option zV → zMu → Prop} (g : gQ μ ns n nr nh) (hp : p < n) (hx : x = nI p) (hlp : lf p = true) (hl : mLf μ n lf) (hA : mAh μ o day nr nh n lf A) (hK : K (some (zI (pAh lf A n p))) μ) : Ct (d + 7) m_Mo_leastAhead [zR 48 0, zI o, zI day, zI x] μ K := by
  subst hx
  refine zmeet rfl (Nat.le_of_ble_eq_true rfl) (fun S => ?_)
  obtain ⟨g1, g2, g4, g5⟩ := g
  have h20 := g2.2.2.1
  have hn := g2.2.1
  unfold pAh at hK
  have L : ∀ (k i : Nat) (v : Int32), i + k = n → v = nI i → (∀ q, q < i → (decide (q ≠ p) && lf q && A q p) = false) → zG S (d + 7) m_Mo_leastAhead K 3 [some (zR 48 0), some (zI o), some (zI day), some (zI (nI p)), some (zI v)] [] μ := by
    intro k
    induction k with
    | zero =>
      intro i v hi hv hz
      subst hv
      obtain rfl : i = n := by omega
      rw [pFst_none hz] at hK
      refine zs k_Mo_leastAhead rfl ?_; conv => whnf
      repeat' (first
        | exact hK
        | (refine zs k_Mo_leastAhead rfl ?_; conv => whnf)
        | refine br_t (by simp (disch := omega) only [hn, nI_leI, nI_ltI, nI_eq]; omega) ?_
        | refine br_f (by simp (disch := omega) only [hn, nI_leI, nI_ltI, nI_eq]; omega) ?_
        | refine ⟨Nat.zero_lt_one, rfl, ?_⟩
        | refine ⟨rfl, ?_⟩
        | refine ⟨⟨Nat.zero_lt_one, rfl⟩, Nat.le_of_ble_eq_true rfl, ?_⟩
        | refine ⟨Nat.le_of_ble_eq_true rfl, Nat.le_of_ble_eq_true rfl, ?_⟩
        | refine ⟨(by first | exact Nat.zero_lt_one | assumption | omega), (by first | assumption | exact vp_in_nI (by omega) (by omega) | (unfold vp_in; decide)), ?_⟩
        | refine ⟨(by first | exact Nat.zero_lt_one | assumption | omega), rfl, ?_⟩
        | refine ⟨⟨(by first | exact Nat.zero_lt_one | assumption | omega), rfl⟩, Nat.le_of_ble_eq_true rfl, ?_⟩
        | refine ⟨(by first | exact Nat.zero_lt_one | assumption | omega), ?_⟩
        | refine ⟨Or.inl rfl, ?_⟩
        | refine ⟨Or.inr (Or.inl rfl), ?_⟩
        | refine ⟨Or.inr (Or.inr rfl), ?_⟩
        | refine ⟨Or.inr ⟨rfl, (by first | exact Or.inl rfl | exact Or.inr rfl | assumption)⟩, ?_⟩
        | refine ⟨fun h => absurd h (by decide), fun _ => ?_⟩
        | refine ⟨fun _ => ?_, fun h => absurd h (by decide)⟩
        | refine ⟨fun h => ?_, fun h => ?_⟩
        | fail)
    | succ k ih =>
      intro i v hi hv hz
      subst hv
      have hc : (nI i).toNatClampNeg = i := nI_clamp (by omega)
      have h88 : μ 88 0 (nI i).toNatClampNeg = if lf i then 1 else 0 := by rw [hc]; exact hl i (by omega)
      cases hli : lf i with
      | false =>
        rw [hli] at h88
        have h88' : μ 88 0 (nI i).toNatClampNeg = 0 := h88
        refine zs k_Mo_leastAhead rfl ?_; conv => whnf
        repeat' (first
          | refine br_t h88' ?_
          | refine ih (i + 1) _ (by omega) (by exact nI_1 i) (lt_s hz (by rw [hli]; simp))
          | (refine zs k_Mo_leastAhead rfl ?_; conv => whnf)
          | refine br_t (by simp (disch := omega) only [hn, nI_leI, nI_ltI, nI_eq]; omega) ?_
          | refine br_f (by simp (disch := omega) only [hn, nI_leI, nI_ltI, nI_eq]; omega) ?_
          | refine ⟨Nat.zero_lt_one, rfl, ?_⟩
          | refine ⟨rfl, ?_⟩
          | refine ⟨⟨Nat.zero_lt_one, rfl⟩, Nat.le_of_ble_eq_true rfl, ?_⟩
          | refine ⟨Nat.le_of_ble_eq_true rfl, Nat.le_of_ble_eq_true rfl, ?_⟩
          | refine ⟨(by first | exact Nat.zero_lt_one | assumption | omega), (by first | assumption | exact vp_in_nI (by omega) (by omega) | (unfold vp_in; decide)), ?_⟩
          | refine ⟨(by first | exact Nat.zero_lt_one | assumption | omega), rfl, ?_⟩
          | refine ⟨⟨(by first | exact Nat.zero_lt_one | assumption | omega), rfl⟩, Nat.le_of_ble_eq_true rfl, ?_⟩
          | refine ⟨(by first | exact Nat.zero_lt_one | assumption | omega), ?_⟩
          | refine ⟨Or.inl rfl, ?_⟩
          | refine ⟨Or.inr (Or.inl rfl), ?_⟩
          | refine ⟨Or.inr (Or.inr rfl), ?_⟩
          | refine ⟨Or.inr ⟨rfl, (by first | exact Or.inl rfl | exact Or.inr rfl | assumption)⟩, ?_⟩
          | refine ⟨fun h => absurd h (by decide), fun _ => ?_⟩
          | refine ⟨fun _ => ?_, fun h => absurd h (by decide)⟩
          | refine ⟨fun h => ?_, fun h => ?_⟩
          | fail)
      | true =>
        rw [hli] at h88
        have h88' : ¬ μ 88 0 (nI i).toNatClampNeg = 0 := by rw [h88]; decide
        by_cases hip : i = p
        · have hip' : nI i = nI p := by rw [hip]
          refine zs k_Mo_leastAhead rfl ?_; conv => whnf
          repeat' (first
            | refine br_f h88' ?_
            | refine br_t hip' ?_
            | refine ih (i + 1) _ (by omega) (by exact nI_1 i) (lt_s hz (by simp [hip]))
            | (refine zs k_Mo_leastAhead rfl ?_; conv => whnf)
            | refine br_t (by simp (disch := omega) only [hn, nI_leI, nI_ltI, nI_eq]; omega) ?_
            | refine br_f (by simp (disch := omega) only [hn, nI_leI, nI_ltI, nI_eq]; omega) ?_
            | refine ⟨Nat.zero_lt_one, rfl, ?_⟩
            | refine ⟨rfl, ?_⟩
            | refine ⟨⟨Nat.zero_lt_one, rfl⟩, Nat.le_of_ble_eq_true rfl, ?_⟩
            | refine ⟨Nat.le_of_ble_eq_true rfl, Nat.le_of_ble_eq_true rfl, ?_⟩
            | refine ⟨(by first | exact Nat.zero_lt_one | assumption | omega), (by first | assumption | exact vp_in_nI (by omega) (by omega) | (unfold vp_in; decide)), ?_⟩
            | refine ⟨(by first | exact Nat.zero_lt_one | assumption | omega), rfl, ?_⟩
            | refine ⟨⟨(by first | exact Nat.zero_lt_one | assumption | omega), rfl⟩, Nat.le_of_ble_eq_true rfl, ?_⟩
            | refine ⟨(by first | exact Nat.zero_lt_one | assumption | omega), ?_⟩
            | refine ⟨Or.inl rfl, ?_⟩
            | refine ⟨Or.inr (Or.inl rfl), ?_⟩
            | refine ⟨Or.inr (Or.inr rfl), ?_⟩
            | refine ⟨Or.inr ⟨rfl, (by first | exact Or.inl rfl | exact Or.inr rfl | assumption)⟩, ?_⟩
            | refine ⟨fun h => absurd h (by decide), fun _ => ?_⟩
            | refine ⟨fun _ => ?_, fun h => absurd h (by decide)⟩
            | refine ⟨fun h => ?_, fun h => ?_⟩
            | fail)
        · have hip' : ¬ nI i = nI p := fun e => hip ((nI_eq (by omega) (by omega)).mp e)
          have hAi := hA i p (by omega) hp hli hlp
          by_cases hv : cLdr μ o day nr nh i p = 1
          · rw [pFst_hit hz (by rw [hAi, hli, hv]; simp [hip]) (by omega) (by omega)] at hK
            refine zs k_Mo_leastAhead rfl ?_; conv => whnf
            repeat' (first
              | refine br_f h88' ?_
              | refine br_f hip' ?_
              | refine c_Mo_first g1 g2 g4 g5 (by omega) hp hip rfl rfl ?_
              | refine bn_f hv ?_
              | exact hK
              | (refine zs k_Mo_leastAhead rfl ?_; conv => whnf)
              | refine br_t (by simp (disch := omega) only [hn, nI_leI, nI_ltI, nI_eq]; omega) ?_
              | refine br_f (by simp (disch := omega) only [hn, nI_leI, nI_ltI, nI_eq]; omega) ?_
              | refine ⟨Nat.zero_lt_one, rfl, ?_⟩
              | refine ⟨rfl, ?_⟩
              | refine ⟨⟨Nat.zero_lt_one, rfl⟩, Nat.le_of_ble_eq_true rfl, ?_⟩
              | refine ⟨Nat.le_of_ble_eq_true rfl, Nat.le_of_ble_eq_true rfl, ?_⟩
              | refine ⟨(by first | exact Nat.zero_lt_one | assumption | omega), (by first | assumption | exact vp_in_nI (by omega) (by omega) | (unfold vp_in; decide)), ?_⟩
              | refine ⟨(by first | exact Nat.zero_lt_one | assumption | omega), rfl, ?_⟩
              | refine ⟨⟨(by first | exact Nat.zero_lt_one | assumption | omega), rfl⟩, Nat.le_of_ble_eq_true rfl, ?_⟩
              | refine ⟨(by first | exact Nat.zero_lt_one | assumption | omega), ?_⟩
              | refine ⟨Or.inl rfl, ?_⟩
              | refine ⟨Or.inr (Or.inl rfl), ?_⟩
              | refine ⟨Or.inr (Or.inr rfl), ?_⟩
              | refine ⟨Or.inr ⟨rfl, (by first | exact Or.inl rfl | exact Or.inr rfl | assumption)⟩, ?_⟩
              | refine ⟨fun h => absurd h (by decide), fun _ => ?_⟩
              | refine ⟨fun _ => ?_, fun h => absurd h (by decide)⟩
              | refine ⟨fun h => ?_, fun h => ?_⟩
              | fail)
          · skip
            refine zs k_Mo_leastAhead rfl ?_; conv => whnf
            repeat' (first
              | refine br_f h88' ?_
              | refine br_f hip' ?_
              | refine c_Mo_first g1 g2 g4 g5 (by omega) hp hip rfl rfl ?_
              | refine bn_t hv ?_
              | refine ih (i + 1) _ (by omega) (by exact nI_1 i) (lt_s hz (by rw [hAi]; simp [hv]))
              | (refine zs k_Mo_leastAhead rfl ?_; conv => whnf)
              | refine br_t (by simp (disch := omega) only [hn, nI_leI, nI_ltI, nI_eq]; omega) ?_
              | refine br_f (by simp (disch := omega) only [hn, nI_leI, nI_ltI, nI_eq]; omega) ?_
              | refine ⟨Nat.zero_lt_one, rfl, ?_⟩
              | refine ⟨rfl, ?_⟩
              | refine ⟨⟨Nat.zero_lt_one, rfl⟩, Nat.le_of_ble_eq_true rfl, ?_⟩
              | refine ⟨Nat.le_of_ble_eq_true rfl, Nat.le_of_ble_eq_true rfl, ?_⟩
              | refine ⟨(by first | exact Nat.zero_lt_one | assumption | omega), (by first | assumption | exact vp_in_nI (by omega) (by omega) | (unfold vp_in; decide)), ?_⟩
              | refine ⟨(by first | exact Nat.zero_lt_one | assumption | omega), rfl, ?_⟩
              | refine ⟨⟨(by first | exact Nat.zero_lt_one | assumption | omega), rfl⟩, Nat.le_of_ble_eq_true rfl, ?_⟩
              | refine ⟨(by first | exact Nat.zero_lt_one | assumption | omega), ?_⟩
              | refine ⟨Or.inl rfl, ?_⟩
              | refine ⟨Or.inr (Or.inl rfl), ?_⟩
              | refine ⟨Or.inr (Or.inr rfl), ?_⟩
              | refine ⟨Or.inr ⟨rfl, (by first | exact Or.inl rfl | exact Or.inr rfl | assumption)⟩, ?_⟩
              | refine ⟨fun h => absurd h (by decide), fun _ => ?_⟩
              | refine ⟨fun _ => ?_, fun h => absurd h (by decide)⟩
              | refine ⟨fun h => ?_, fun h => ?_⟩
              | fail)
  repeat' (first
    | exact L n 0 _ (by omega) rfl (fun r hr => absurd hr (by omega))
    | (refine zs k_Mo_leastAhead rfl ?_; conv => whnf)
    | refine ⟨Nat.zero_lt_one, rfl, ?_⟩
    | refine ⟨rfl, ?_⟩
    | refine ⟨⟨Nat.zero_lt_one, rfl⟩, Nat.le_of_ble_eq_true rfl, ?_⟩
    | refine ⟨Nat.le_of_ble_eq_true rfl, Nat.le_of_ble_eq_true rfl, ?_⟩
    | refine ⟨(by first | exact Nat.zero_lt_one | assumption | omega), (by first | assumption | exact vp_in_nI (by omega) (by omega) | (unfold vp_in; decide)), ?_⟩
    | refine ⟨(by first | exact Nat.zero_lt_one | assumption | omega), rfl, ?_⟩
    | refine ⟨⟨(by first | exact Nat.zero_lt_one | assumption | omega), rfl⟩, Nat.le_of_ble_eq_true rfl, ?_⟩
    | refine ⟨(by first | exact Nat.zero_lt_one | assumption | omega), ?_⟩
    | refine ⟨Or.inl rfl, ?_⟩
    | refine ⟨Or.inr (Or.inl rfl), ?_⟩
    | refine ⟨Or.inr (Or.inr rfl), ?_⟩
    | refine ⟨Or.inr ⟨rfl, (by first | exact Or.inl rfl | exact Or.inr rfl | assumption)⟩, ?_⟩
    | refine ⟨fun h => absurd h (by decide), fun _ => ?_⟩
    | refine ⟨fun _ => ?_, fun h => absurd h (by decide)⟩
    | refine ⟨fun h => ?_, fun h => ?_⟩
    | fail)
/-- the ring's cells alone have changed -/
def zRn (μ μ' : zMu) : Prop := (∀ f, f ∉ [48, 89, 91] → μ' f = μ f) ∧ ∀ k, k ≠ 40 → μ' 48 0 k = μ 48 0 k
theorem zRn_scr {μ μ' : zMu} (h : zRn μ μ') : zScr μ μ' := by
  refine ⟨fun f hf => h.1 f (fun q => hf ?_), by rw [h.1 2 (by decide)], fun k hk => h.2 k (fun q => hk ?_)⟩
  · simp only [List.mem_cons, List.not_mem_nil, or_false] at q ⊢
    omega
  · rw [q]
    decide
theorem zRn_tr {μ μ' μ'' : zMu} (h : zRn μ μ') (h' : zRn μ' μ'') : zRn μ μ'' := ⟨fun f hf => (h'.1 f hf).trans (h.1 f hf), fun k hk => (h'.2 k hk).trans (h.2 k hk)⟩
theorem zRn_zu {μ : zMu} {f i k : Nat} {v : Int32} (hf : f = 89 ∨ f = 91) : zRn μ (zu μ f i k v) := by
  refine ⟨fun f' hf' => ?_, fun k' _ => zu_ne (by omega)⟩
  funext a b
  simp only [List.mem_cons, List.not_mem_nil, or_false, not_or] at hf'
  exact zu_ne (by omega)
/-- the first of the walk that is like the next one -/
def mAg (w : Nat → Nat) (v : Nat) : Nat → Int32
  | 0 => -1
  | k + 1 => if mAg w v k = -1 ∧ w k = v then nI k else mAg w v k
theorem mAg_in {w : Nat → Nat} {v : Nat} : ∀ k, k < 2 ^ 31 → (mAg w v k = -1 ∧ ∀ j, j < k → w j ≠ v) ∨ ∃ s, s < k ∧ mAg w v k = nI s ∧ w s = v
  | 0, _ => Or.inl ⟨rfl, fun j hj => absurd hj (by omega)⟩
  | k + 1, hk => by
    rw [mAg]
    rcases mAg_in (w := w) (v := v) k (by omega) with ⟨h1, h2⟩ | ⟨s, h1, h2, h3⟩
    · by_cases e : w k = v
      · rw [if_pos ⟨h1, e⟩]
        exact Or.inr ⟨k, by omega, rfl, e⟩
      · rw [if_neg (fun z => e z.2)]
        refine Or.inl ⟨h1, fun j hj => ?_⟩
        rcases Nat.lt_or_ge j k with q | q
        · exact h2 j q
        · obtain rfl : j = k := by omega
          exact e
    · rw [if_neg (fun z => absurd z.1 (by rw [h2]; exact nI_nem1 (by omega)))]
      exact Or.inr ⟨s, by omega, h2, h3⟩
set_option maxHeartbeats 2000000 in
theorem c_Mo_findRing {d ns n nr nh st : Nat} {μ : zMu} {lf : Nat → Bool} {A : Nat → Nat → Bool} {o day x : Int32} {K : Option zV → zMu → Prop} (g : gQ μ ns n nr nh) (hst : st < n) (hx : x = nI st) (hls : lf st = true) (hl : mLf μ n lf) (hA : mAh μ o day nr nh n lf A) (hu : ∀ p, p < n → lf p = true → ¬ pAh lf A n p = -1)
    (hK : ∀ (T s : Nat) (μ' : zMu), pRg (pWk lf A n st) T s → T ≤ 20 → zRn μ μ' → μ' 48 0 40 = nI (T - s) → (∀ k, k < T - s → μ' 89 0 k = nI (pWk lf A n st (s + k))) → K none μ') : Ct (d + 8) m_Mo_findRing [zR 48 0, zI o, zI day, zI x] μ K := by
  subst hx
  refine zmeet rfl (Nat.le_of_ble_eq_true rfl) (fun S => ?_)
  have h20 := g.2.1.2.2.1
  have hw := pWk_in h20 hst hls hu
  generalize hwe : pWk lf A n st = w at hw hK
  -- the ring is copied
  have L3 : ∀ (T s : Nat) (l5 : Option zV), pRg w T s → T ≤ 20 → ∀ (k j : Nat) (v : Int32) (μ1 : zMu), j + k = T - s → v = nI j → zRn μ μ1 → μ1 48 0 40 = nI (T - s) → (∀ i, i < T → μ1 91 0 i = nI (w i)) → (∀ i, i < j → μ1 89 0 i = nI (w (s + i))) → zG S (d + 8) m_Mo_findRing K 95 [some (zR 48 0), some (zI o), some (zI day), some (zI (nI st)), some (zI (nI T)), l5, some (zI (nI s)), some (zI v)] [] μ1 := by
    intro T s l5 hrg hT k
    have hsT := hrg.1
    induction k with
    | zero =>
      intro j v μ1 hj hv hr h40 h91 h89
      subst hv
      have hk := hK T s μ1 hrg hT hr h40 (fun i hi => h89 i (by omega))
      have hle : μ1 48 0 40 ≤ nI j := by rw [h40]; exact nI_le (by omega) (by omega)
      refine zs k_Mo_findRing rfl ?_; conv => whnf
      repeat' (first
        | refine br_t hle ?_
        | exact hk
        | (refine zs k_Mo_findRing rfl ?_; conv => whnf)
        | refine ⟨Nat.zero_lt_one, rfl, ?_⟩
        | refine ⟨rfl, ?_⟩
        | refine ⟨⟨Nat.zero_lt_one, rfl⟩, Nat.le_of_ble_eq_true rfl, ?_⟩
        | refine ⟨Nat.le_of_ble_eq_true rfl, Nat.le_of_ble_eq_true rfl, ?_⟩
        | refine ⟨(by first | exact Nat.zero_lt_one | assumption | omega), (by first | assumption | exact vp_in_nI (by omega) (by omega) | (unfold vp_in; decide)), ?_⟩
        | refine ⟨(by first | exact Nat.zero_lt_one | assumption | omega), rfl, ?_⟩
        | refine ⟨⟨(by first | exact Nat.zero_lt_one | assumption | omega), rfl⟩, Nat.le_of_ble_eq_true rfl, ?_⟩
        | refine ⟨(by first | exact Nat.zero_lt_one | assumption | omega), ?_⟩
        | refine ⟨Or.inl rfl, ?_⟩
        | refine ⟨Or.inr (Or.inl rfl), ?_⟩
        | refine ⟨Or.inr (Or.inr rfl), ?_⟩
        | refine ⟨Or.inr ⟨rfl, (by first | exact Or.inl rfl | exact Or.inr rfl | assumption)⟩, ?_⟩
        | refine ⟨fun h => absurd h (by decide), fun _ => ?_⟩
        | refine ⟨fun _ => ?_, fun h => absurd h (by decide)⟩
        | refine ⟨fun h => ?_, fun h => ?_⟩
        | fail)
    | succ k ih =>
      intro j v μ1 hj hv hr h40 h91 h89
      subst hv
      have hle : ¬ μ1 48 0 40 ≤ nI j := by rw [h40]; exact nI_ge (by omega) (by omega)
      have cj : (nI j).toNatClampNeg = j := nI_clamp (by omega)
      have hvs : vp_in (nI s + nI j) 21 := by rw [nI_add]; exact vp_in_nI (by omega) (by omega)
      have cs : (nI s + nI j).toNatClampNeg = s + j := by rw [nI_add]; exact nI_clamp (by omega)
      have hv := h91 (s + j) (by omega)
      refine zs k_Mo_findRing rfl ?_; conv => whnf
      repeat' (first
        | refine br_f hle ?_
        | refine ih (j + 1) _ _ (by omega) (by exact nI_1 j) (zRn_tr hr (zRn_zu (Or.inl rfl))) (by exact h40) (by exact h91) ?_
        | (refine zs k_Mo_findRing rfl ?_; conv => whnf)
        | refine ⟨Nat.zero_lt_one, rfl, ?_⟩
        | refine ⟨rfl, ?_⟩
        | refine ⟨⟨Nat.zero_lt_one, rfl⟩, Nat.le_of_ble_eq_true rfl, ?_⟩
        | refine ⟨Nat.le_of_ble_eq_true rfl, Nat.le_of_ble_eq_true rfl, ?_⟩
        | refine ⟨(by first | exact Nat.zero_lt_one | assumption | omega), (by first | assumption | exact vp_in_nI (by omega) (by omega) | (unfold vp_in; decide)), ?_⟩
        | refine ⟨(by first | exact Nat.zero_lt_one | assumption | omega), rfl, ?_⟩
        | refine ⟨⟨(by first | exact Nat.zero_lt_one | assumption | omega), rfl⟩, Nat.le_of_ble_eq_true rfl, ?_⟩
        | refine ⟨(by first | exact Nat.zero_lt_one | assumption | omega), ?_⟩
        | refine ⟨Or.inl rfl, ?_⟩
        | refine ⟨Or.inr (Or.inl rfl), ?_⟩
        | refine ⟨Or.inr (Or.inr rfl), ?_⟩
        | refine ⟨Or.inr ⟨rfl, (by first | exact Or.inl rfl | exact Or.inr rfl | assumption)⟩, ?_⟩
        | refine ⟨fun h => absurd h (by decide), fun _ => ?_⟩
        | refine ⟨fun _ => ?_, fun h => absurd h (by decide)⟩
        | refine ⟨fun h => ?_, fun h => ?_⟩
        | fail)
      intro i hi
      rw [cj, cs, hv]
      by_cases e : i = j
      · rw [e, zu_eq]
      · rw [zu_ne (by omega)]
        exact h89 i (by omega)
  -- has one come again
  have L2 : ∀ (t : Nat) (m : Int32) (μ1 : zMu), m = nI t → t ≤ 20 → (∀ i, i < t → μ1 91 0 i = nI (w i)) → (∀ (v : Int32) (l7 : Option zV), v = mAg w (w t) t → zG S (d + 8) m_Mo_findRing K 9 [some (zR 48 0), some (zI o), some (zI day), some (zI (nI st)), some (zI m), some (zI (nI (w t))), some (zI v), l7] [] μ1) → ∀ (k j : Nat) (a v : Int32), j + k = t → v = nI j → a = mAg w (w t) j → zG S (d + 8) m_Mo_findRing K 40 [some (zR 48 0), some (zI o), some (zI day), some (zI (nI st)), some (zI m), some (zI (nI (w t))), some (zI a), some (zI v)] [] μ1 := by
    intro t m μ1 hm ht h91 hend k
    subst hm
    induction k with
    | zero =>
      intro j a v hj hv ha
      subst hv ha
      obtain rfl : j = t := by omega
      have hle : nI j ≤ nI j := nI_le (Nat.le_refl _) (by omega)
      refine zs k_Mo_findRing rfl ?_; conv => whnf
      repeat' (first
        | refine br_t hle ?_
        | exact hend _ _ rfl
        | (refine zs k_Mo_findRing rfl ?_; conv => whnf)
        | refine ⟨Nat.zero_lt_one, rfl, ?_⟩
        | refine ⟨rfl, ?_⟩
        | refine ⟨⟨Nat.zero_lt_one, rfl⟩, Nat.le_of_ble_eq_true rfl, ?_⟩
        | refine ⟨Nat.le_of_ble_eq_true rfl, Nat.le_of_ble_eq_true rfl, ?_⟩
        | refine ⟨(by first | exact Nat.zero_lt_one | assumption | omega), (by first | assumption | exact vp_in_nI (by omega) (by omega) | (unfold vp_in; decide)), ?_⟩
        | refine ⟨(by first | exact Nat.zero_lt_one | assumption | omega), rfl, ?_⟩
        | refine ⟨⟨(by first | exact Nat.zero_lt_one | assumption | omega), rfl⟩, Nat.le_of_ble_eq_true rfl, ?_⟩
        | refine ⟨(by first | exact Nat.zero_lt_one | assumption | omega), ?_⟩
        | refine ⟨Or.inl rfl, ?_⟩
        | refine ⟨Or.inr (Or.inl rfl), ?_⟩
        | refine ⟨Or.inr (Or.inr rfl), ?_⟩
        | refine ⟨Or.inr ⟨rfl, (by first | exact Or.inl rfl | exact Or.inr rfl | assumption)⟩, ?_⟩
        | refine ⟨fun h => absurd h (by decide), fun _ => ?_⟩
        | refine ⟨fun _ => ?_, fun h => absurd h (by decide)⟩
        | refine ⟨fun h => ?_, fun h => ?_⟩
        | fail)
    | succ k ih =>
      intro j a v hj hv ha
      subst hv
      have hle : ¬ nI t ≤ nI j := nI_ge (by omega) (by omega)
      have cj : (nI j).toNatClampNeg = j := nI_clamp (by omega)
      have hs : mAg w (w t) (j + 1) = if a = -1 ∧ w j = w t then nI j else a := by rw [ha]; rfl
      have h91j : μ1 91 0 (nI j).toNatClampNeg = nI (w j) := by rw [cj]; exact h91 j (by omega)
      have hwj := (hw j).1
      have hwt := (hw t).1
      by_cases e : w j = w t
      · have e' : μ1 91 0 (nI j).toNatClampNeg = nI (w t) := by rw [h91j, e]
        by_cases a1 : a = -1
        · rw [if_pos ⟨a1, e⟩] at hs
          refine zs k_Mo_findRing rfl ?_; conv => whnf
          repeat' (first
            | refine br_f hle ?_
            | refine bn_f e' ?_
            | refine bn_f a1 ?_
            | refine ih (j + 1) _ _ (by omega) (by exact nI_1 j) hs.symm
            | (refine zs k_Mo_findRing rfl ?_; conv => whnf)
            | refine ⟨Nat.zero_lt_one, rfl, ?_⟩
            | refine ⟨rfl, ?_⟩
            | refine ⟨⟨Nat.zero_lt_one, rfl⟩, Nat.le_of_ble_eq_true rfl, ?_⟩
            | refine ⟨Nat.le_of_ble_eq_true rfl, Nat.le_of_ble_eq_true rfl, ?_⟩
            | refine ⟨(by first | exact Nat.zero_lt_one | assumption | omega), (by first | assumption | exact vp_in_nI (by omega) (by omega) | (unfold vp_in; decide)), ?_⟩
            | refine ⟨(by first | exact Nat.zero_lt_one | assumption | omega), rfl, ?_⟩
            | refine ⟨⟨(by first | exact Nat.zero_lt_one | assumption | omega), rfl⟩, Nat.le_of_ble_eq_true rfl, ?_⟩
            | refine ⟨(by first | exact Nat.zero_lt_one | assumption | omega), ?_⟩
            | refine ⟨Or.inl rfl, ?_⟩
            | refine ⟨Or.inr (Or.inl rfl), ?_⟩
            | refine ⟨Or.inr (Or.inr rfl), ?_⟩
            | refine ⟨Or.inr ⟨rfl, (by first | exact Or.inl rfl | exact Or.inr rfl | assumption)⟩, ?_⟩
            | refine ⟨fun h => absurd h (by decide), fun _ => ?_⟩
            | refine ⟨fun _ => ?_, fun h => absurd h (by decide)⟩
            | refine ⟨fun h => ?_, fun h => ?_⟩
            | fail)
        · rw [if_neg (fun z => a1 z.1)] at hs
          refine zs k_Mo_findRing rfl ?_; conv => whnf
          repeat' (first
            | refine br_f hle ?_
            | refine bn_f e' ?_
            | refine bn_t a1 ?_
            | refine ih (j + 1) _ _ (by omega) (by exact nI_1 j) hs.symm
            | (refine zs k_Mo_findRing rfl ?_; conv => whnf)
            | refine ⟨Nat.zero_lt_one, rfl, ?_⟩
            | refine ⟨rfl, ?_⟩
            | refine ⟨⟨Nat.zero_lt_one, rfl⟩, Nat.le_of_ble_eq_true rfl, ?_⟩
            | refine ⟨Nat.le_of_ble_eq_true rfl, Nat.le_of_ble_eq_true rfl, ?_⟩
            | refine ⟨(by first | exact Nat.zero_lt_one | assumption | omega), (by first | assumption | exact vp_in_nI (by omega) (by omega) | (unfold vp_in; decide)), ?_⟩
            | refine ⟨(by first | exact Nat.zero_lt_one | assumption | omega), rfl, ?_⟩
            | refine ⟨⟨(by first | exact Nat.zero_lt_one | assumption | omega), rfl⟩, Nat.le_of_ble_eq_true rfl, ?_⟩
            | refine ⟨(by first | exact Nat.zero_lt_one | assumption | omega), ?_⟩
            | refine ⟨Or.inl rfl, ?_⟩
            | refine ⟨Or.inr (Or.inl rfl), ?_⟩
            | refine ⟨Or.inr (Or.inr rfl), ?_⟩
            | refine ⟨Or.inr ⟨rfl, (by first | exact Or.inl rfl | exact Or.inr rfl | assumption)⟩, ?_⟩
            | refine ⟨fun h => absurd h (by decide), fun _ => ?_⟩
            | refine ⟨fun _ => ?_, fun h => absurd h (by decide)⟩
            | refine ⟨fun h => ?_, fun h => ?_⟩
            | fail)
      · have e' : ¬ μ1 91 0 (nI j).toNatClampNeg = nI (w t) := by rw [h91j]; exact fun z => e ((nI_eq (by omega) (by omega)).mp z)
        rw [if_neg (fun z => e z.2)] at hs
        refine zs k_Mo_findRing rfl ?_; conv => whnf
        repeat' (first
          | refine br_f hle ?_
          | refine bn_t e' ?_
          | refine ih (j + 1) _ _ (by omega) (by exact nI_1 j) hs.symm
          | (refine zs k_Mo_findRing rfl ?_; conv => whnf)
          | refine ⟨Nat.zero_lt_one, rfl, ?_⟩
          | refine ⟨rfl, ?_⟩
          | refine ⟨⟨Nat.zero_lt_one, rfl⟩, Nat.le_of_ble_eq_true rfl, ?_⟩
          | refine ⟨Nat.le_of_ble_eq_true rfl, Nat.le_of_ble_eq_true rfl, ?_⟩
          | refine ⟨(by first | exact Nat.zero_lt_one | assumption | omega), (by first | assumption | exact vp_in_nI (by omega) (by omega) | (unfold vp_in; decide)), ?_⟩
          | refine ⟨(by first | exact Nat.zero_lt_one | assumption | omega), rfl, ?_⟩
          | refine ⟨⟨(by first | exact Nat.zero_lt_one | assumption | omega), rfl⟩, Nat.le_of_ble_eq_true rfl, ?_⟩
          | refine ⟨(by first | exact Nat.zero_lt_one | assumption | omega), ?_⟩
          | refine ⟨Or.inl rfl, ?_⟩
          | refine ⟨Or.inr (Or.inl rfl), ?_⟩
          | refine ⟨Or.inr (Or.inr rfl), ?_⟩
          | refine ⟨Or.inr ⟨rfl, (by first | exact Or.inl rfl | exact Or.inr rfl | assumption)⟩, ?_⟩
          | refine ⟨fun h => absurd h (by decide), fun _ => ?_⟩
          | refine ⟨fun _ => ?_, fun h => absurd h (by decide)⟩
          | refine ⟨fun h => ?_, fun h => ?_⟩
          | fail)
  -- the walk
  have L : ∀ (k t : Nat) (a p m : Int32) (l7 : Option zV) (μ1 : zMu), t + k = 20 → m = nI t → p = nI (w t) → a = -1 → (∀ i j, i < j → j ≤ t → w i ≠ w j) → zRn μ μ1 → (∀ i, i < t → μ1 91 0 i = nI (w i)) → zG S (d + 8) m_Mo_findRing K 9 [some (zR 48 0), some (zI o), some (zI day), some (zI (nI st)), some (zI m), some (zI p), some (zI a), l7] [] μ1 := by
    intro k
    induction k with
    | zero =>
      intro t a p m l7 μ1 ht hm hp ha hd hr h91
      obtain rfl : t = 20 := by omega
      have := fb_holes0 n 21 w (fun i _ => (hw i).1) (fun i j hij hj => hd i j hij (by omega))
      omega
    | succ k ih =>
      intro t a p m l7 μ1 ht hm hp ha hd hr h91
      subst hm hp ha
      have hwt := (hw t).1
      have ct : (nI t).toNatClampNeg = t := nI_clamp (by omega)
      have hvt : vp_in (nI t) 21 := vp_in_nI (by omega) (by omega)
      have hah : pAh lf A n (w t) = nI (w (t + 1)) := (hw t).2.2
      have r2 : zRn μ (zu μ1 91 0 (nI t).toNatClampNeg (nI (w t))) := zRn_tr hr (zRn_zu (Or.inr rfl))
      have s2 := zRn_scr r2
      have h91' : ∀ i, i < t + 1 → zu μ1 91 0 (nI t).toNatClampNeg (nI (w t)) 91 0 i = nI (w i) := fun i hi => by
        rw [ct]
        by_cases e : i = t
        · rw [e, zu_eq]
        · rw [zu_ne (by omega)]
          exact h91 i (by omega)
      have hl2 : mLf (zu μ1 91 0 (nI t).toNatClampNeg (nI (w t))) n lf := fun p hp => by
        rw [r2.1 88 (by decide)]
        exact hl p hp
      have g2 := gQ_scr s2 g
      have A2 := mAh_lk (zScr_lk s2) hA
      generalize hν : zu μ1 91 0 (nI t).toNatClampNeg (nI (w t)) = ν at r2 s2 h91' hl2 g2 A2
      have hend : ∀ (m v : Int32) (l7 : Option zV), m = nI (t + 1) → v = mAg w (w (t + 1)) (t + 1) → zG S (d + 8) m_Mo_findRing K 9 [some (zR 48 0), some (zI o), some (zI day), some (zI (nI st)), some (zI m), some (zI (nI (w (t + 1)))), some (zI v), l7] [] ν := fun m v l7 hm hv => by
        subst hm
        rcases mAg_in (w := w) (v := w (t + 1)) (t + 1) (by omega) with ⟨q1, q2⟩ | ⟨s, q1, q2, q3⟩
        · refine ih (t + 1) _ _ _ _ _ (by omega) rfl rfl (hv.trans q1) (fun i j hij hj => ?_) r2 h91'
          rcases Nat.lt_or_ge j (t + 1) with w1 | w1
          · exact hd i j hij (by omega)
          · obtain rfl : j = t + 1 := by omega
            exact q2 i (by omega)
        · rw [q2] at hv
          subst hv
          have hrg : pRg w (t + 1) s := ⟨q1, q3.symm, fun i j hij hj => hd i j hij (by omega)⟩
          have hm1 : ¬ nI s = -1 := nI_nem1 (by omega)
          have hsub : nI (t + 1) - nI s = nI (t + 1 - s) := pk_sub (by omega)
          have r3 : zRn μ (zu ν 48 0 40 (nI (t + 1) - nI s)) := by
            refine zRn_tr r2 ⟨fun f hf => ?_, fun k hk => ?_⟩
            · funext a b
              simp only [List.mem_cons, List.not_mem_nil, or_false, not_or] at hf
              exact zu_ne (fun z => hf.1 z.1)
            · exact zu_ne (fun z => hk z.2.1)
          refine zs k_Mo_findRing rfl ?_; conv => whnf
          repeat' (first
            | refine bn_t hm1 ?_
            | refine L3 (t + 1) s _ hrg (by omega) (t + 1 - s) 0 _ _ (by omega) rfl (by exact r3) hsub (by exact h91') (fun i hi => absurd hi (by omega))
            | (refine zs k_Mo_findRing rfl ?_; conv => whnf)
            | refine ⟨Nat.zero_lt_one, rfl, ?_⟩
            | refine ⟨rfl, ?_⟩
            | refine ⟨⟨Nat.zero_lt_one, rfl⟩, Nat.le_of_ble_eq_true rfl, ?_⟩
            | refine ⟨Nat.le_of_ble_eq_true rfl, Nat.le_of_ble_eq_true rfl, ?_⟩
            | refine ⟨(by first | exact Nat.zero_lt_one | assumption | omega), (by first | assumption | exact vp_in_nI (by omega) (by omega) | (unfold vp_in; decide)), ?_⟩
            | refine ⟨(by first | exact Nat.zero_lt_one | assumption | omega), rfl, ?_⟩
            | refine ⟨⟨(by first | exact Nat.zero_lt_one | assumption | omega), rfl⟩, Nat.le_of_ble_eq_true rfl, ?_⟩
            | refine ⟨(by first | exact Nat.zero_lt_one | assumption | omega), ?_⟩
            | refine ⟨Or.inl rfl, ?_⟩
            | refine ⟨Or.inr (Or.inl rfl), ?_⟩
            | refine ⟨Or.inr (Or.inr rfl), ?_⟩
            | refine ⟨Or.inr ⟨rfl, (by first | exact Or.inl rfl | exact Or.inr rfl | assumption)⟩, ?_⟩
            | refine ⟨fun h => absurd h (by decide), fun _ => ?_⟩
            | refine ⟨fun _ => ?_, fun h => absurd h (by decide)⟩
            | refine ⟨fun h => ?_, fun h => ?_⟩
            | fail)
      refine zs k_Mo_findRing rfl ?_; conv => whnf
      repeat' (first
        | (rw [hν]; refine c_Mo_leastAhead g2 hwt rfl (hw t).2.1 hl2 A2 ?_; rw [hah])
        | refine L2 (t + 1) _ ν (by exact nI_1 t) (by omega) h91' (fun v l7 hv => hend _ v l7 (nI_1 t) hv) (t + 1) 0 _ _ (by omega) rfl rfl
        | (refine zs k_Mo_findRing rfl ?_; conv => whnf)
        | refine ⟨Nat.zero_lt_one, rfl, ?_⟩
        | refine ⟨rfl, ?_⟩
        | refine ⟨⟨Nat.zero_lt_one, rfl⟩, Nat.le_of_ble_eq_true rfl, ?_⟩
        | refine ⟨Nat.le_of_ble_eq_true rfl, Nat.le_of_ble_eq_true rfl, ?_⟩
        | refine ⟨(by first | exact Nat.zero_lt_one | assumption | omega), (by first | assumption | exact vp_in_nI (by omega) (by omega) | (unfold vp_in; decide)), ?_⟩
        | refine ⟨(by first | exact Nat.zero_lt_one | assumption | omega), rfl, ?_⟩
        | refine ⟨⟨(by first | exact Nat.zero_lt_one | assumption | omega), rfl⟩, Nat.le_of_ble_eq_true rfl, ?_⟩
        | refine ⟨(by first | exact Nat.zero_lt_one | assumption | omega), ?_⟩
        | refine ⟨Or.inl rfl, ?_⟩
        | refine ⟨Or.inr (Or.inl rfl), ?_⟩
        | refine ⟨Or.inr (Or.inr rfl), ?_⟩
        | refine ⟨Or.inr ⟨rfl, (by first | exact Or.inl rfl | exact Or.inr rfl | assumption)⟩, ?_⟩
        | refine ⟨fun h => absurd h (by decide), fun _ => ?_⟩
        | refine ⟨fun _ => ?_, fun h => absurd h (by decide)⟩
        | refine ⟨fun h => ?_, fun h => ?_⟩
        | fail)
  repeat' (first
    | refine L 20 0 _ _ _ _ _ (by omega) rfl (by rw [← hwe]; rfl) rfl (fun i j hij hj => absurd hj (by omega)) ⟨fun _ _ => rfl, fun _ _ => rfl⟩ (fun i hi => absurd hi (by omega))
    | (refine zs k_Mo_findRing rfl ?_; conv => whnf)
    | refine ⟨Nat.zero_lt_one, rfl, ?_⟩
    | refine ⟨rfl, ?_⟩
    | refine ⟨⟨Nat.zero_lt_one, rfl⟩, Nat.le_of_ble_eq_true rfl, ?_⟩
    | refine ⟨Nat.le_of_ble_eq_true rfl, Nat.le_of_ble_eq_true rfl, ?_⟩
    | refine ⟨(by first | exact Nat.zero_lt_one | assumption | omega), (by first | assumption | exact vp_in_nI (by omega) (by omega) | (unfold vp_in; decide)), ?_⟩
    | refine ⟨(by first | exact Nat.zero_lt_one | assumption | omega), rfl, ?_⟩
    | refine ⟨⟨(by first | exact Nat.zero_lt_one | assumption | omega), rfl⟩, Nat.le_of_ble_eq_true rfl, ?_⟩
    | refine ⟨(by first | exact Nat.zero_lt_one | assumption | omega), ?_⟩
    | refine ⟨Or.inl rfl, ?_⟩
    | refine ⟨Or.inr (Or.inl rfl), ?_⟩
    | refine ⟨Or.inr (Or.inr rfl), ?_⟩
    | refine ⟨Or.inr ⟨rfl, (by first | exact Or.inl rfl | exact Or.inr rfl | assumption)⟩, ?_⟩
    | refine ⟨fun h => absurd h (by decide), fun _ => ?_⟩
    | refine ⟨fun _ => ?_, fun h => absurd h (by decide)⟩
    | refine ⟨fun h => ?_, fun h => ?_⟩
    | fail)
/-! MODEL: findOrder -/
def dF (P : Nat → Bool) : Nat → Nat → Int32
  | _, 0 => -1
  | i, k + 1 => if P i then nI i else dF P (i + 1) k
theorem dF_none {P : Nat → Bool} : ∀ {k i : Nat}, (∀ j, i ≤ j → j < i + k → P j = false) → dF P i k = -1
  | 0, _, _ => rfl
  | k + 1, i, h => by
    rw [dF, h i (by omega) (by omega)]
    exact dF_none (fun j h1 h2 => h j (by omega) (by omega))
theorem dF_hit {P : Nat → Bool} {r : Nat} (hr : P r = true) : ∀ {k i : Nat}, i ≤ r → r < i + k → (∀ j, i ≤ j → j < r → P j = false) → dF P i k = nI r
  | 0, i, h1, h2, _ => absurd h2 (by omega)
  | k + 1, i, h1, h2, h => by
    rw [dF]
    by_cases e : i = r
    · rw [e, hr]
      rfl
    · rw [h i (by omega) (by omega)]
      exact dF_hit hr (by omega) (by omega) (fun j h3 h4 => h j (by omega) h4)
theorem dF_0 {P : Nat → Bool} {n : Nat} (hn : n < 2 ^ 31) : dF P 0 n = pFst P n := by
  rcases pFst_in (P := P) (n := n) hn with h | ⟨r, h1, h2, h3, h4⟩
  · rw [h]
    exact dF_none (fun j _ h2 => pFst_m1 hn h j (by omega))
  · rw [h2]
    exact dF_hit h3 (by omega) (by omega) (fun j _ h => h4 j h)
theorem dF_s {P : Nat → Bool} {j n : Nat} (h : j < n) : dF P j (n - j) = if P j then nI j else dF P (j + 1) (n - (j + 1)) := by
  obtain ⟨k, hk⟩ : ∃ k, n - j = k + 1 := ⟨n - j - 1, by omega⟩
  rw [hk, dF, show n - (j + 1) = k by omega]
theorem oLf_sub {A : Nat → Nat → Bool} {n : Nat} {lf0 : Nat → Bool} : ∀ k p, oLf A n lf0 k p = true → lf0 p = true
  | 0, p, h => h
  | k + 1, p, h => by
    have h' : (oLf A n lf0 k p && decide (p ≠ oNx A n (oLf A n lf0 k))) = true := h
    rw [Bool.and_eq_true] at h'
    exact oLf_sub k p h'.1
def mOrd (μ' : zMu) (A : Nat → Nat → Bool) (n : Nat) (lf0 : Nat → Bool) (m : Nat) : Prop := μ' 48 0 37 = nI m ∧ (∀ k, k < m → μ' 86 0 k = nI (oN A n lf0 k)) ∧ ∃ len fn, oRk A n lf0 m len fn ∧ len ≤ 20 ∧ μ' 48 0 40 = nI len ∧ ∀ k, k < len → μ' 89 0 k = nI (fn k)
def mRing (lf : Nat → Bool) (A : Nat → Nat → Bool) (n nx : Nat) (μ μ' : zMu) : Prop := (¬ (pUn lf A n = -1 ∧ μ 48 0 40 = 0) ∧ μ' 48 0 40 = μ 48 0 40 ∧ ∀ k, μ' 89 0 k = μ 89 0 k) ∨ ((pUn lf A n = -1 ∧ μ 48 0 40 = 0) ∧ ∃ T s, pRg (pWk lf A n nx) T s ∧ T ≤ 20 ∧ μ' 48 0 40 = nI (T - s) ∧ ∀ k, k < T - s → μ' 89 0 k = nI (pWk lf A n nx (s + k)))
set_option maxHeartbeats 4000000 in
theorem c_Mo_findOrder {d ns n nr nh : Nat} {μ : zMu} {o day : Int32} {K : Option zV → zMu → Prop} (g : gQ μ ns n nr nh) (hK : ∀ μ' : zMu, zScr μ μ' → mOrd μ' (cAd μ o day nr nh n) n (cLf0 μ n) (pCt (cLf0 μ n) n) → K none μ') : Ct (d + 9) m_Mo_findOrder [zR 48 0, zI o, zI day] μ K := by
  refine zmeet rfl (Nat.le_of_ble_eq_true rfl) (fun S => ?_)
  have h20 := g.2.1.2.2.1
  have hn := g.2.1.2.1
  have hpr : ∀ p, p < n → μ 10 0 p = 0 ∨ μ 10 0 p = 1 := fun p hp => (g.2.1.2.2.2 p hp).2.1
  have hm20 : pCt (cLf0 μ n) n ≤ n := pCt_le _ _
  have hAh : ∀ lf : Nat → Bool, (∀ p, lf p = true → cLf0 μ n p = true) → mAh μ o day nr nh n lf (cAd μ o day nr nh n) := fun lf hs q p _ _ hq hp => by
    unfold cAd cLdm
    rw [hs q hq, hs p hp]
    rfl
  have hct := cPres_ct (μ := μ) (n := n) hpr
  have hlfe : ∀ p, p < n → (μ 10 0 p = 0 → cLf0 μ n p = false) ∧ (μ 10 0 p = 1 → cLf0 μ n p = true) := fun p hp => by
    unfold cLf0
    constructor
    · intro e
      rw [e]
      simp
    · intro e
      rw [e]
      simp [hp]
  generalize hA : cAd μ o day nr nh n = A at hK hAh
  generalize hlf : cLf0 μ n = lf0 at hK hm20 hAh hct hlfe
  generalize hm : pCt lf0 n = m at hK hm20
  -- places
  have L3 : ∀ (k i : Nat) (l4 l5 l6 : Option zV) (μ1 : zMu), i + k = m → zScr μ μ1 → mLf μ1 n (oLf A n lf0 i) → mOrd μ1 A n lf0 i → zG S (d + 9) m_Mo_findOrder K 62 [some (zR 48 0), some (zI o), some (zI day), some (zI (nI m)), l4, l5, l6] [] μ1 := by
    intro k
    induction k with
    | zero =>
      intro i l4 l5 l6 μ1 hi hs hl ho
      obtain rfl : i = m := by omega
      have hk := hK μ1 hs ho
      have hle : nI i ≤ μ1 48 0 37 := by rw [ho.1]; exact nI_le (Nat.le_refl i) (by omega)
      refine zs k_Mo_findOrder rfl ?_; conv => whnf
      repeat' (first
        | refine br_t hle ?_
        | exact hk
        | (refine zs k_Mo_findOrder rfl ?_; conv => whnf)
        | refine ⟨Nat.zero_lt_one, rfl, ?_⟩
        | refine ⟨rfl, ?_⟩
        | refine ⟨⟨Nat.zero_lt_one, rfl⟩, Nat.le_of_ble_eq_true rfl, ?_⟩
        | refine ⟨Nat.le_of_ble_eq_true rfl, Nat.le_of_ble_eq_true rfl, ?_⟩
        | refine ⟨(by first | exact Nat.zero_lt_one | assumption | omega), (by first | assumption | exact vp_in_nI (by omega) (by omega) | (unfold vp_in; decide)), ?_⟩
        | refine ⟨(by first | exact Nat.zero_lt_one | assumption | omega), rfl, ?_⟩
        | refine ⟨⟨(by first | exact Nat.zero_lt_one | assumption | omega), rfl⟩, Nat.le_of_ble_eq_true rfl, ?_⟩
        | refine ⟨(by first | exact Nat.zero_lt_one | assumption | omega), ?_⟩
        | refine ⟨Or.inl rfl, ?_⟩
        | refine ⟨Or.inr (Or.inl rfl), ?_⟩
        | refine ⟨Or.inr (Or.inr rfl), ?_⟩
        | refine ⟨Or.inr ⟨rfl, (by first | exact Or.inl rfl | exact Or.inr rfl | assumption)⟩, ?_⟩
        | refine ⟨fun h => absurd h (by decide), fun _ => ?_⟩
        | refine ⟨fun _ => ?_, fun h => absurd h (by decide)⟩
        | refine ⟨fun h => ?_, fun h => ?_⟩
        | fail)
    | succ k ih =>
      intro i l4 l5 l6 μ1 hi hs hl ho
      have hlt : ¬ nI m ≤ μ1 48 0 37 := by rw [ho.1]; exact nI_ge (by omega) (by omega)
      have hcti := oLf_ct (A := A) (lf0 := lf0) h20 i (by omega)
      have hne := pCt_pos (lf := oLf A n lf0 i) (n := n) (by omega)
      have hsub := oLf_sub (A := A) (n := n) (lf0 := lf0) i
      have hAi := mAh_lk (zScr_lk hs) (hAh _ hsub)
      have gi := gQ_scr hs g
      have hn1 : μ1 48 0 5 = nI n := gi.2.1.2.1
      obtain ⟨ho1, ho2, len, fn, ho3, ho4, ho5, ho6⟩ := ho
      have hoN : oN A n lf0 i = oNx A n (oLf A n lf0 i) := rfl
      have hoL : oLf A n lf0 (i + 1) = fun p => oLf A n lf0 i p && decide (p ≠ oNx A n (oLf A n lf0 i)) := rfl
      have hrk : ∀ (len' : Nat) (fn' : Nat → Nat), ((¬ (pUn (oLf A n lf0 i) A n = -1 ∧ len = 0) ∧ len' = len ∧ fn' = fn) ∨ ((pUn (oLf A n lf0 i) A n = -1 ∧ len = 0) ∧ ∃ T s, pRg (pWk (oLf A n lf0 i) A n (oN A n lf0 i)) T s ∧ len' = T - s ∧ fn' = fun j => pWk (oLf A n lf0 i) A n (oN A n lf0 i) (s + j))) → oRk A n lf0 (i + 1) len' fn' := fun len' fn' h => ⟨len, fn, ho3, h⟩
      rw [hoN] at hrk
      have ih := ih (i + 1)
      rw [hoL] at ih
      generalize hlfi : oLf A n lf0 i = lf at hl hcti hne hsub hAi ih hrk
      obtain ⟨hx1, hx2, hx3, hx4⟩ := oNx_in (A := A) h20 hne
      have hoN' : oN A n lf0 i = oNx A n lf := by rw [hoN, hlfi]
      generalize oNx A n lf = nx at ih hx1 hx2 hx3 hx4 hoN' hrk
      have cx : (nI nx).toNatClampNeg = nx := nI_clamp (by omega)
      have hvx : vp_in (nI nx) 20 := vp_in_nI (by omega) (by omega)
      have tail : ∀ (v : Int32) (l5 l6 : Option zV) (μ2 : zMu), v = nI nx → zRn μ1 μ2 → mRing lf A n nx μ1 μ2 → zG S (d + 9) m_Mo_findOrder K 166 [some (zR 48 0), some (zI o), some (zI day), some (zI (nI m)), some (zI v), l5, l6] [] μ2 := by
        intro v l5 l6 μ2 hv hr hrg
        subst hv
        have e37 : μ2 48 0 37 = nI i := by rw [hr.2 37 (by omega)]; exact ho1
        have c37 : (μ2 48 0 37).toNatClampNeg = i := by rw [e37]; exact nI_clamp (by omega)
        have v37 : vp_in (μ2 48 0 37) 20 := by rw [e37]; exact vp_in_nI (by omega) (by omega)
        refine zs k_Mo_findOrder rfl ?_; conv => whnf
        repeat' (first
          | refine ih _ _ _ _ (by omega) ?_ ?_ ?_
          | (refine zs k_Mo_findOrder rfl ?_; conv => whnf)
          | refine ⟨Nat.zero_lt_one, rfl, ?_⟩
          | refine ⟨rfl, ?_⟩
          | refine ⟨⟨Nat.zero_lt_one, rfl⟩, Nat.le_of_ble_eq_true rfl, ?_⟩
          | refine ⟨Nat.le_of_ble_eq_true rfl, Nat.le_of_ble_eq_true rfl, ?_⟩
          | refine ⟨(by first | exact Nat.zero_lt_one | assumption | omega), (by first | assumption | exact vp_in_nI (by omega) (by omega) | (unfold vp_in; decide)), ?_⟩
          | refine ⟨(by first | exact Nat.zero_lt_one | assumption | omega), rfl, ?_⟩
          | refine ⟨⟨(by first | exact Nat.zero_lt_one | assumption | omega), rfl⟩, Nat.le_of_ble_eq_true rfl, ?_⟩
          | refine ⟨(by first | exact Nat.zero_lt_one | assumption | omega), ?_⟩
          | refine ⟨Or.inl rfl, ?_⟩
          | refine ⟨Or.inr (Or.inl rfl), ?_⟩
          | refine ⟨Or.inr (Or.inr rfl), ?_⟩
          | refine ⟨Or.inr ⟨rfl, (by first | exact Or.inl rfl | exact Or.inr rfl | assumption)⟩, ?_⟩
          | refine ⟨fun h => absurd h (by decide), fun _ => ?_⟩
          | refine ⟨fun _ => ?_, fun h => absurd h (by decide)⟩
          | refine ⟨fun h => ?_, fun h => ?_⟩
          | fail)
        · exact zScr_tr hs (zScr_tr (zRn_scr hr) (zScr_tr (zScr_zu (by decide)) (zScr_tr (zScr_zu (by decide)) (zScr_48 (by decide)))))
        · intro p hp
          rw [cx]
          show zu μ2 88 0 nx (vp_nar .boolean 0) 88 0 p = _
          by_cases e : p = nx
          · rw [e, zu_eq]
            simp
            rfl
          · rw [zu_ne (by omega), hr.1 88 (by decide), hl p hp]
            simp [e]
        · refine ⟨?_, fun j hj => ?_, ?_⟩
          · show μ2 48 0 37 + 1 = _
            rw [e37, nI_1]
          · show zu μ2 86 0 (μ2 48 0 37).toNatClampNeg (nI nx) 86 0 j = _
            rw [c37]
            by_cases e : j = i
            · rw [e, zu_eq, hoN']
            · rw [zu_ne (by omega), hr.1 86 (by decide)]
              exact ho2 j (by omega)
          · show ∃ len fn, oRk A n lf0 (i + 1) len fn ∧ len ≤ 20 ∧ μ2 48 0 40 = nI len ∧ ∀ k, k < len → μ2 89 0 k = nI (fn k)
            rcases hrg with ⟨u1, u2, u3⟩ | ⟨⟨u1, u2⟩, T, s, u3, u4, u5, u6⟩
            · exact ⟨len, fn, hrk len fn (Or.inl ⟨fun h => u1 ⟨h.1, by rw [ho5, h.2]; exact nI_0⟩, rfl, rfl⟩), ho4, by rw [u2]; exact ho5, fun j hj => by rw [u3]; exact ho6 j hj⟩
            · have hl0 : len = 0 := by
                rcases Nat.eq_zero_or_pos len with q | q
                · exact q
                · exact absurd (ho5.symm.trans u2) (nI_ne0 q (by omega))
              exact ⟨T - s, _, hrk (T - s) _ (Or.inr ⟨⟨u1, hl0⟩, T, s, u3, rfl, rfl⟩), by omega, u5, u6⟩
      have fin : ∀ (x y : Int32) (l6 : Option zV), x = pUn lf A n → y = pFst lf n → zG S (d + 9) m_Mo_findOrder K 130 [some (zR 48 0), some (zI o), some (zI day), some (zI (nI m)), some (zI x), some (zI y), l6] [] μ1 := by
        intro x y l6 hx hy
        by_cases hu : pUn lf A n = -1
        · have hpl := hx3 hu
          rw [hu] at hx
          rw [hpl] at hy
          subst hx hy
          have hall : ∀ p, p < n → lf p = true → ¬ pAh lf A n p = -1 := fun p hp hlp hah => by
            have := pFst_m1 (P := fun p => lf p && decide (pAh lf A n p = -1)) (n := n) (by omega) hu p hp
            simp [hlp, hah] at this
          by_cases hr0 : μ1 48 0 40 = 0
          · skip
            refine zs k_Mo_findOrder rfl ?_; conv => whnf
            repeat' (first
              | refine bn_f hr0 ?_
              | refine c_Mo_findRing gi hx1 rfl hx2 hl hAi hall (fun T s μ' hrg hT hf h40 h89 => ?_)
              | refine tail _ _ _ _ rfl hf (Or.inr ⟨⟨hu, hr0⟩, T, s, hrg, hT, h40, h89⟩)
              | (refine zs k_Mo_findOrder rfl ?_; conv => whnf)
              | refine ⟨Nat.zero_lt_one, rfl, ?_⟩
              | refine ⟨rfl, ?_⟩
              | refine ⟨⟨Nat.zero_lt_one, rfl⟩, Nat.le_of_ble_eq_true rfl, ?_⟩
              | refine ⟨Nat.le_of_ble_eq_true rfl, Nat.le_of_ble_eq_true rfl, ?_⟩
              | refine ⟨(by first | exact Nat.zero_lt_one | assumption | omega), (by first | assumption | exact vp_in_nI (by omega) (by omega) | (unfold vp_in; decide)), ?_⟩
              | refine ⟨(by first | exact Nat.zero_lt_one | assumption | omega), rfl, ?_⟩
              | refine ⟨⟨(by first | exact Nat.zero_lt_one | assumption | omega), rfl⟩, Nat.le_of_ble_eq_true rfl, ?_⟩
              | refine ⟨(by first | exact Nat.zero_lt_one | assumption | omega), ?_⟩
              | refine ⟨Or.inl rfl, ?_⟩
              | refine ⟨Or.inr (Or.inl rfl), ?_⟩
              | refine ⟨Or.inr (Or.inr rfl), ?_⟩
              | refine ⟨Or.inr ⟨rfl, (by first | exact Or.inl rfl | exact Or.inr rfl | assumption)⟩, ?_⟩
              | refine ⟨fun h => absurd h (by decide), fun _ => ?_⟩
              | refine ⟨fun _ => ?_, fun h => absurd h (by decide)⟩
              | refine ⟨fun h => ?_, fun h => ?_⟩
              | fail)
          · skip
            refine zs k_Mo_findOrder rfl ?_; conv => whnf
            repeat' (first
              | refine bn_t hr0 ?_
              | refine tail _ _ _ _ rfl ⟨fun _ _ => rfl, fun _ _ => rfl⟩ (Or.inl ⟨fun h => hr0 h.2, rfl, fun _ => rfl⟩)
              | (refine zs k_Mo_findOrder rfl ?_; conv => whnf)
              | refine ⟨Nat.zero_lt_one, rfl, ?_⟩
              | refine ⟨rfl, ?_⟩
              | refine ⟨⟨Nat.zero_lt_one, rfl⟩, Nat.le_of_ble_eq_true rfl, ?_⟩
              | refine ⟨Nat.le_of_ble_eq_true rfl, Nat.le_of_ble_eq_true rfl, ?_⟩
              | refine ⟨(by first | exact Nat.zero_lt_one | assumption | omega), (by first | assumption | exact vp_in_nI (by omega) (by omega) | (unfold vp_in; decide)), ?_⟩
              | refine ⟨(by first | exact Nat.zero_lt_one | assumption | omega), rfl, ?_⟩
              | refine ⟨⟨(by first | exact Nat.zero_lt_one | assumption | omega), rfl⟩, Nat.le_of_ble_eq_true rfl, ?_⟩
              | refine ⟨(by first | exact Nat.zero_lt_one | assumption | omega), ?_⟩
              | refine ⟨Or.inl rfl, ?_⟩
              | refine ⟨Or.inr (Or.inl rfl), ?_⟩
              | refine ⟨Or.inr (Or.inr rfl), ?_⟩
              | refine ⟨Or.inr ⟨rfl, (by first | exact Or.inl rfl | exact Or.inr rfl | assumption)⟩, ?_⟩
              | refine ⟨fun h => absurd h (by decide), fun _ => ?_⟩
              | refine ⟨fun _ => ?_, fun h => absurd h (by decide)⟩
              | refine ⟨fun h => ?_, fun h => ?_⟩
              | fail)
        · have hpl := hx4 hu
          have hxm : ¬ x = -1 := by rw [hx]; exact hu
          rw [hpl] at hx
          subst hx
          refine zs k_Mo_findOrder rfl ?_; conv => whnf
          repeat' (first
            | refine bn_t hxm ?_
            | refine tail _ _ _ _ rfl ⟨fun _ _ => rfl, fun _ _ => rfl⟩ (Or.inl ⟨fun h => hu h.1, rfl, fun _ => rfl⟩)
            | (refine zs k_Mo_findOrder rfl ?_; conv => whnf)
            | refine ⟨Nat.zero_lt_one, rfl, ?_⟩
            | refine ⟨rfl, ?_⟩
            | refine ⟨⟨Nat.zero_lt_one, rfl⟩, Nat.le_of_ble_eq_true rfl, ?_⟩
            | refine ⟨Nat.le_of_ble_eq_true rfl, Nat.le_of_ble_eq_true rfl, ?_⟩
            | refine ⟨(by first | exact Nat.zero_lt_one | assumption | omega), (by first | assumption | exact vp_in_nI (by omega) (by omega) | (unfold vp_in; decide)), ?_⟩
            | refine ⟨(by first | exact Nat.zero_lt_one | assumption | omega), rfl, ?_⟩
            | refine ⟨⟨(by first | exact Nat.zero_lt_one | assumption | omega), rfl⟩, Nat.le_of_ble_eq_true rfl, ?_⟩
            | refine ⟨(by first | exact Nat.zero_lt_one | assumption | omega), ?_⟩
            | refine ⟨Or.inl rfl, ?_⟩
            | refine ⟨Or.inr (Or.inl rfl), ?_⟩
            | refine ⟨Or.inr (Or.inr rfl), ?_⟩
            | refine ⟨Or.inr ⟨rfl, (by first | exact Or.inl rfl | exact Or.inr rfl | assumption)⟩, ?_⟩
            | refine ⟨fun h => absurd h (by decide), fun _ => ?_⟩
            | refine ⟨fun _ => ?_, fun h => absurd h (by decide)⟩
            | refine ⟨fun h => ?_, fun h => ?_⟩
            | fail)
      have L1 : ∀ (j : Nat) (x y v : Int32), j ≤ n → v = nI j - 1 → x = dF (fun p => lf p && decide (pAh lf A n p = -1)) j (n - j) → y = dF lf j (n - j) → zG S (d + 9) m_Mo_findOrder K 84 [some (zR 48 0), some (zI o), some (zI day), some (zI (nI m)), some (zI x), some (zI y), some (zI v)] [] μ1 := by
        intro j
        induction j with
        | zero =>
          intro x y v hj hv hx hy
          subst hv
          rw [Nat.sub_zero, dF_0 (by omega)] at hx hy
          refine zs k_Mo_findOrder rfl ?_; conv => whnf
          repeat' (first
            | refine br_t (by decide) ?_
            | refine fin _ _ _ hx hy
            | (refine zs k_Mo_findOrder rfl ?_; conv => whnf)
            | refine ⟨Nat.zero_lt_one, rfl, ?_⟩
            | refine ⟨rfl, ?_⟩
            | refine ⟨⟨Nat.zero_lt_one, rfl⟩, Nat.le_of_ble_eq_true rfl, ?_⟩
            | refine ⟨Nat.le_of_ble_eq_true rfl, Nat.le_of_ble_eq_true rfl, ?_⟩
            | refine ⟨(by first | exact Nat.zero_lt_one | assumption | omega), (by first | assumption | exact vp_in_nI (by omega) (by omega) | (unfold vp_in; decide)), ?_⟩
            | refine ⟨(by first | exact Nat.zero_lt_one | assumption | omega), rfl, ?_⟩
            | refine ⟨⟨(by first | exact Nat.zero_lt_one | assumption | omega), rfl⟩, Nat.le_of_ble_eq_true rfl, ?_⟩
            | refine ⟨(by first | exact Nat.zero_lt_one | assumption | omega), ?_⟩
            | refine ⟨Or.inl rfl, ?_⟩
            | refine ⟨Or.inr (Or.inl rfl), ?_⟩
            | refine ⟨Or.inr (Or.inr rfl), ?_⟩
            | refine ⟨Or.inr ⟨rfl, (by first | exact Or.inl rfl | exact Or.inr rfl | assumption)⟩, ?_⟩
            | refine ⟨fun h => absurd h (by decide), fun _ => ?_⟩
            | refine ⟨fun _ => ?_, fun h => absurd h (by decide)⟩
            | refine ⟨fun h => ?_, fun h => ?_⟩
            | fail)
        | succ j ihj =>
          intro x y v hj hv hx hy
          subst hv
          rw [nI_pred]
          have cj : (nI j).toNatClampNeg = j := nI_clamp (by omega)
          have hvj : vp_in (nI j) 20 := vp_in_nI (by omega) (by omega)
          have h88 : μ1 88 0 (nI j).toNatClampNeg = if lf j then 1 else 0 := by rw [cj]; exact hl j (by omega)
          have dx := dF_s (P := fun p => lf p && decide (pAh lf A n p = -1)) (j := j) (n := n) (by omega)
          have dy := dF_s (P := lf) (j := j) (n := n) (by omega)
          rw [← hx] at dx
          rw [← hy] at dy
          cases hlj : lf j with
          | false =>
            rw [hlj] at h88 dy
            simp only [hlj, Bool.false_and] at dx
            have h88' : μ1 88 0 (nI j).toNatClampNeg = 0 := h88
            refine zs k_Mo_findOrder rfl ?_; conv => whnf
            repeat' (first
              | refine br_f (nI_pos (by omega)) ?_
              | refine br_t h88' ?_
              | refine ihj _ _ _ (by omega) (by exact i32_m1 _) dx.symm dy.symm
              | (refine zs k_Mo_findOrder rfl ?_; conv => whnf)
              | refine ⟨Nat.zero_lt_one, rfl, ?_⟩
              | refine ⟨rfl, ?_⟩
              | refine ⟨⟨Nat.zero_lt_one, rfl⟩, Nat.le_of_ble_eq_true rfl, ?_⟩
              | refine ⟨Nat.le_of_ble_eq_true rfl, Nat.le_of_ble_eq_true rfl, ?_⟩
              | refine ⟨(by first | exact Nat.zero_lt_one | assumption | omega), (by first | assumption | exact vp_in_nI (by omega) (by omega) | (unfold vp_in; decide)), ?_⟩
              | refine ⟨(by first | exact Nat.zero_lt_one | assumption | omega), rfl, ?_⟩
              | refine ⟨⟨(by first | exact Nat.zero_lt_one | assumption | omega), rfl⟩, Nat.le_of_ble_eq_true rfl, ?_⟩
              | refine ⟨(by first | exact Nat.zero_lt_one | assumption | omega), ?_⟩
              | refine ⟨Or.inl rfl, ?_⟩
              | refine ⟨Or.inr (Or.inl rfl), ?_⟩
              | refine ⟨Or.inr (Or.inr rfl), ?_⟩
              | refine ⟨Or.inr ⟨rfl, (by first | exact Or.inl rfl | exact Or.inr rfl | assumption)⟩, ?_⟩
              | refine ⟨fun h => absurd h (by decide), fun _ => ?_⟩
              | refine ⟨fun _ => ?_, fun h => absurd h (by decide)⟩
              | refine ⟨fun h => ?_, fun h => ?_⟩
              | fail)
          | true =>
            rw [hlj] at h88 dy
            simp only [hlj, Bool.true_and] at dx
            have h88' : ¬ μ1 88 0 (nI j).toNatClampNeg = 0 := by rw [h88]; decide
            by_cases ha : pAh lf A n j = -1
            · rw [ha] at dx
              refine zs k_Mo_findOrder rfl ?_; conv => whnf
              repeat' (first
                | refine br_f (nI_pos (by omega)) ?_
                | refine br_f h88' ?_
                | refine c_Mo_leastAhead gi (p := j) (by omega) rfl hlj hl hAi ?_
                | refine bn_f ha ?_
                | refine ihj _ _ _ (by omega) (by exact i32_m1 _) dx.symm dy.symm
                | (refine zs k_Mo_findOrder rfl ?_; conv => whnf)
                | refine ⟨Nat.zero_lt_one, rfl, ?_⟩
                | refine ⟨rfl, ?_⟩
                | refine ⟨⟨Nat.zero_lt_one, rfl⟩, Nat.le_of_ble_eq_true rfl, ?_⟩
                | refine ⟨Nat.le_of_ble_eq_true rfl, Nat.le_of_ble_eq_true rfl, ?_⟩
                | refine ⟨(by first | exact Nat.zero_lt_one | assumption | omega), (by first | assumption | exact vp_in_nI (by omega) (by omega) | (unfold vp_in; decide)), ?_⟩
                | refine ⟨(by first | exact Nat.zero_lt_one | assumption | omega), rfl, ?_⟩
                | refine ⟨⟨(by first | exact Nat.zero_lt_one | assumption | omega), rfl⟩, Nat.le_of_ble_eq_true rfl, ?_⟩
                | refine ⟨(by first | exact Nat.zero_lt_one | assumption | omega), ?_⟩
                | refine ⟨Or.inl rfl, ?_⟩
                | refine ⟨Or.inr (Or.inl rfl), ?_⟩
                | refine ⟨Or.inr (Or.inr rfl), ?_⟩
                | refine ⟨Or.inr ⟨rfl, (by first | exact Or.inl rfl | exact Or.inr rfl | assumption)⟩, ?_⟩
                | refine ⟨fun h => absurd h (by decide), fun _ => ?_⟩
                | refine ⟨fun _ => ?_, fun h => absurd h (by decide)⟩
                | refine ⟨fun h => ?_, fun h => ?_⟩
                | fail)
            · rw [decide_eq_false ha] at dx
              refine zs k_Mo_findOrder rfl ?_; conv => whnf
              repeat' (first
                | refine br_f (nI_pos (by omega)) ?_
                | refine br_f h88' ?_
                | refine c_Mo_leastAhead gi (p := j) (by omega) rfl hlj hl hAi ?_
                | refine bn_t ha ?_
                | refine ihj _ _ _ (by omega) (by exact i32_m1 _) dx.symm dy.symm
                | (refine zs k_Mo_findOrder rfl ?_; conv => whnf)
                | refine ⟨Nat.zero_lt_one, rfl, ?_⟩
                | refine ⟨rfl, ?_⟩
                | refine ⟨⟨Nat.zero_lt_one, rfl⟩, Nat.le_of_ble_eq_true rfl, ?_⟩
                | refine ⟨Nat.le_of_ble_eq_true rfl, Nat.le_of_ble_eq_true rfl, ?_⟩
                | refine ⟨(by first | exact Nat.zero_lt_one | assumption | omega), (by first | assumption | exact vp_in_nI (by omega) (by omega) | (unfold vp_in; decide)), ?_⟩
                | refine ⟨(by first | exact Nat.zero_lt_one | assumption | omega), rfl, ?_⟩
                | refine ⟨⟨(by first | exact Nat.zero_lt_one | assumption | omega), rfl⟩, Nat.le_of_ble_eq_true rfl, ?_⟩
                | refine ⟨(by first | exact Nat.zero_lt_one | assumption | omega), ?_⟩
                | refine ⟨Or.inl rfl, ?_⟩
                | refine ⟨Or.inr (Or.inl rfl), ?_⟩
                | refine ⟨Or.inr (Or.inr rfl), ?_⟩
                | refine ⟨Or.inr ⟨rfl, (by first | exact Or.inl rfl | exact Or.inr rfl | assumption)⟩, ?_⟩
                | refine ⟨fun h => absurd h (by decide), fun _ => ?_⟩
                | refine ⟨fun _ => ?_, fun h => absurd h (by decide)⟩
                | refine ⟨fun h => ?_, fun h => ?_⟩
                | fail)
      have hd0 : ∀ P : Nat → Bool, (-1 : Int32) = dF P n (n - n) := fun P => by rw [Nat.sub_self]; rfl
      refine zs k_Mo_findOrder rfl ?_; conv => whnf
      repeat' (first
        | refine br_f hlt ?_
        | refine L1 n _ _ _ (Nat.le_refl n) (by rw [hn1]) (hd0 _) (hd0 _)
        | (refine zs k_Mo_findOrder rfl ?_; conv => whnf)
        | refine ⟨Nat.zero_lt_one, rfl, ?_⟩
        | refine ⟨rfl, ?_⟩
        | refine ⟨⟨Nat.zero_lt_one, rfl⟩, Nat.le_of_ble_eq_true rfl, ?_⟩
        | refine ⟨Nat.le_of_ble_eq_true rfl, Nat.le_of_ble_eq_true rfl, ?_⟩
        | refine ⟨(by first | exact Nat.zero_lt_one | assumption | omega), (by first | assumption | exact vp_in_nI (by omega) (by omega) | (unfold vp_in; decide)), ?_⟩
        | refine ⟨(by first | exact Nat.zero_lt_one | assumption | omega), rfl, ?_⟩
        | refine ⟨⟨(by first | exact Nat.zero_lt_one | assumption | omega), rfl⟩, Nat.le_of_ble_eq_true rfl, ?_⟩
        | refine ⟨(by first | exact Nat.zero_lt_one | assumption | omega), ?_⟩
        | refine ⟨Or.inl rfl, ?_⟩
        | refine ⟨Or.inr (Or.inl rfl), ?_⟩
        | refine ⟨Or.inr (Or.inr rfl), ?_⟩
        | refine ⟨Or.inr ⟨rfl, (by first | exact Or.inl rfl | exact Or.inr rfl | assumption)⟩, ?_⟩
        | refine ⟨fun h => absurd h (by decide), fun _ => ?_⟩
        | refine ⟨fun _ => ?_, fun h => absurd h (by decide)⟩
        | refine ⟨fun h => ?_, fun h => ?_⟩
        | fail)
  -- who is left
  have L0 : ∀ (k i : Nat) (f v : Int32) (μ1 : zMu), i + k = n → v = nI i → f = cPres μ i → zScr μ μ1 → μ1 48 0 37 = 0 → μ1 48 0 40 = 0 → (∀ p, p < i → μ1 88 0 p = if lf0 p then 1 else 0) → zG S (d + 9) m_Mo_findOrder K 15 [some (zR 48 0), some (zI o), some (zI day), some (zI f), some (zI v), none, none] [] μ1 := by
    intro k
    induction k with
    | zero =>
      intro i f v μ1 hi hv hf hs h37 h40 hl
      subst hv
      obtain rfl : i = n := by omega
      rw [hct i (Nat.le_refl i), hm] at hf
      subst hf
      have hn1 : μ1 48 0 5 = nI i := (gQ_scr hs g).2.1.2.1
      refine zs k_Mo_findOrder rfl ?_; conv => whnf
      repeat' (first
        | refine L3 m 0 _ _ _ _ (by omega) hs hl ⟨h37, fun k hk => absurd hk (by omega), 0, fun _ => 0, rfl, by omega, h40, fun k hk => absurd hk (by omega)⟩
        | (refine zs k_Mo_findOrder rfl ?_; conv => whnf)
        | refine br_t (by simp (disch := omega) only [hn1, nI_leI, nI_ltI, nI_eq]; omega) ?_
        | refine br_f (by simp (disch := omega) only [hn1, nI_leI, nI_ltI, nI_eq]; omega) ?_
        | refine ⟨Nat.zero_lt_one, rfl, ?_⟩
        | refine ⟨rfl, ?_⟩
        | refine ⟨⟨Nat.zero_lt_one, rfl⟩, Nat.le_of_ble_eq_true rfl, ?_⟩
        | refine ⟨Nat.le_of_ble_eq_true rfl, Nat.le_of_ble_eq_true rfl, ?_⟩
        | refine ⟨(by first | exact Nat.zero_lt_one | assumption | omega), (by first | assumption | exact vp_in_nI (by omega) (by omega) | (unfold vp_in; decide)), ?_⟩
        | refine ⟨(by first | exact Nat.zero_lt_one | assumption | omega), rfl, ?_⟩
        | refine ⟨⟨(by first | exact Nat.zero_lt_one | assumption | omega), rfl⟩, Nat.le_of_ble_eq_true rfl, ?_⟩
        | refine ⟨(by first | exact Nat.zero_lt_one | assumption | omega), ?_⟩
        | refine ⟨Or.inl rfl, ?_⟩
        | refine ⟨Or.inr (Or.inl rfl), ?_⟩
        | refine ⟨Or.inr (Or.inr rfl), ?_⟩
        | refine ⟨Or.inr ⟨rfl, (by first | exact Or.inl rfl | exact Or.inr rfl | assumption)⟩, ?_⟩
        | refine ⟨fun h => absurd h (by decide), fun _ => ?_⟩
        | refine ⟨fun _ => ?_, fun h => absurd h (by decide)⟩
        | refine ⟨fun h => ?_, fun h => ?_⟩
        | fail)
    | succ k ih =>
      intro i f v μ1 hi hv hf hs h37 h40 hl
      subst hv
      have hn1 : μ1 48 0 5 = nI n := (gQ_scr hs g).2.1.2.1
      have ci : (nI i).toNatClampNeg = i := nI_clamp (by omega)
      have h62 : μ1 62 0 (nI i).toNatClampNeg = μ 10 0 i := by
        rw [ci, zScr_in hs (l := [62]) rfl 62 (by simp)]
        exact (g.2.1.2.2.2 i (by omega)).1
      have hpres : cPres μ (i + 1) = f + μ 10 0 i := by rw [hf]; rfl
      obtain ⟨he0, he1⟩ := hlfe i (by omega)
      have nxt : ∀ v : Int32, v = μ 10 0 i → ∀ p, p < i + 1 → zu μ1 88 0 (nI i).toNatClampNeg (vp_nar .boolean v) 88 0 p = if lf0 p then 1 else 0 := fun v hv p hp => by
        rw [ci]
        by_cases e : p = i
        · rw [e, zu_eq, hv]
          rcases hpr i (by omega) with q | q
          · rw [q, he0 q]
            rfl
          · rw [q, he1 q]
            rfl
        · rw [zu_ne (by omega)]
          exact hl p (by omega)
      rcases hpr i (by omega) with q | q
      · have h62' : μ1 62 0 (nI i).toNatClampNeg = 0 := h62.trans q
        rw [q] at hpres
        refine zs k_Mo_findOrder rfl ?_; conv => whnf
        repeat' (first
          | refine br_t h62' ?_
          | refine ih (i + 1) _ _ _ (by omega) (by exact nI_1 i) hpres.symm (zScr_tr hs (zScr_zu (by decide))) h37 h40 (nxt _ h62)
          | (refine zs k_Mo_findOrder rfl ?_; conv => whnf)
          | refine br_t (by simp (disch := omega) only [hn1, nI_leI, nI_ltI, nI_eq]; omega) ?_
          | refine br_f (by simp (disch := omega) only [hn1, nI_leI, nI_ltI, nI_eq]; omega) ?_
          | refine ⟨Nat.zero_lt_one, rfl, ?_⟩
          | refine ⟨rfl, ?_⟩
          | refine ⟨⟨Nat.zero_lt_one, rfl⟩, Nat.le_of_ble_eq_true rfl, ?_⟩
          | refine ⟨Nat.le_of_ble_eq_true rfl, Nat.le_of_ble_eq_true rfl, ?_⟩
          | refine ⟨(by first | exact Nat.zero_lt_one | assumption | omega), (by first | assumption | exact vp_in_nI (by omega) (by omega) | (unfold vp_in; decide)), ?_⟩
          | refine ⟨(by first | exact Nat.zero_lt_one | assumption | omega), rfl, ?_⟩
          | refine ⟨⟨(by first | exact Nat.zero_lt_one | assumption | omega), rfl⟩, Nat.le_of_ble_eq_true rfl, ?_⟩
          | refine ⟨(by first | exact Nat.zero_lt_one | assumption | omega), ?_⟩
          | refine ⟨Or.inl rfl, ?_⟩
          | refine ⟨Or.inr (Or.inl rfl), ?_⟩
          | refine ⟨Or.inr (Or.inr rfl), ?_⟩
          | refine ⟨Or.inr ⟨rfl, (by first | exact Or.inl rfl | exact Or.inr rfl | assumption)⟩, ?_⟩
          | refine ⟨fun h => absurd h (by decide), fun _ => ?_⟩
          | refine ⟨fun _ => ?_, fun h => absurd h (by decide)⟩
          | refine ⟨fun h => ?_, fun h => ?_⟩
          | fail)
      · have h62' : ¬ μ1 62 0 (nI i).toNatClampNeg = 0 := by rw [h62, q]; decide
        rw [q] at hpres
        refine zs k_Mo_findOrder rfl ?_; conv => whnf
        repeat' (first
          | refine br_f h62' ?_
          | refine ih (i + 1) _ _ _ (by omega) (by exact nI_1 i) hpres.symm (zScr_tr hs (zScr_zu (by decide))) h37 h40 (nxt _ h62)
          | (refine zs k_Mo_findOrder rfl ?_; conv => whnf)
          | refine br_t (by simp (disch := omega) only [hn1, nI_leI, nI_ltI, nI_eq]; omega) ?_
          | refine br_f (by simp (disch := omega) only [hn1, nI_leI, nI_ltI, nI_eq]; omega) ?_
          | refine ⟨Nat.zero_lt_one, rfl, ?_⟩
          | refine ⟨rfl, ?_⟩
          | refine ⟨⟨Nat.zero_lt_one, rfl⟩, Nat.le_of_ble_eq_true rfl, ?_⟩
          | refine ⟨Nat.le_of_ble_eq_true rfl, Nat.le_of_ble_eq_true rfl, ?_⟩
          | refine ⟨(by first | exact Nat.zero_lt_one | assumption | omega), (by first | assumption | exact vp_in_nI (by omega) (by omega) | (unfold vp_in; decide)), ?_⟩
          | refine ⟨(by first | exact Nat.zero_lt_one | assumption | omega), rfl, ?_⟩
          | refine ⟨⟨(by first | exact Nat.zero_lt_one | assumption | omega), rfl⟩, Nat.le_of_ble_eq_true rfl, ?_⟩
          | refine ⟨(by first | exact Nat.zero_lt_one | assumption | omega), ?_⟩
          | refine ⟨Or.inl rfl, ?_⟩
          | refine ⟨Or.inr (Or.inl rfl), ?_⟩
          | refine ⟨Or.inr (Or.inr rfl), ?_⟩
          | refine ⟨Or.inr ⟨rfl, (by first | exact Or.inl rfl | exact Or.inr rfl | assumption)⟩, ?_⟩
          | refine ⟨fun h => absurd h (by decide), fun _ => ?_⟩
          | refine ⟨fun _ => ?_, fun h => absurd h (by decide)⟩
          | refine ⟨fun h => ?_, fun h => ?_⟩
          | fail)
  repeat' (first
    | refine L0 n 0 _ _ _ (by omega) rfl rfl (zScr_tr (zScr_48 (by decide)) (zScr_48 (by decide))) rfl rfl (fun p hp => absurd hp (by omega))
    | (refine zs k_Mo_findOrder rfl ?_; conv => whnf)
    | refine ⟨Nat.zero_lt_one, rfl, ?_⟩
    | refine ⟨rfl, ?_⟩
    | refine ⟨⟨Nat.zero_lt_one, rfl⟩, Nat.le_of_ble_eq_true rfl, ?_⟩
    | refine ⟨Nat.le_of_ble_eq_true rfl, Nat.le_of_ble_eq_true rfl, ?_⟩
    | refine ⟨(by first | exact Nat.zero_lt_one | assumption | omega), (by first | assumption | exact vp_in_nI (by omega) (by omega) | (unfold vp_in; decide)), ?_⟩
    | refine ⟨(by first | exact Nat.zero_lt_one | assumption | omega), rfl, ?_⟩
    | refine ⟨⟨(by first | exact Nat.zero_lt_one | assumption | omega), rfl⟩, Nat.le_of_ble_eq_true rfl, ?_⟩
    | refine ⟨(by first | exact Nat.zero_lt_one | assumption | omega), ?_⟩
    | refine ⟨Or.inl rfl, ?_⟩
    | refine ⟨Or.inr (Or.inl rfl), ?_⟩
    | refine ⟨Or.inr (Or.inr rfl), ?_⟩
    | refine ⟨Or.inr ⟨rfl, (by first | exact Or.inl rfl | exact Or.inr rfl | assumption)⟩, ?_⟩
    | refine ⟨fun h => absurd h (by decide), fun _ => ?_⟩
    | refine ⟨fun _ => ?_, fun h => absurd h (by decide)⟩
    | refine ⟨fun h => ?_, fun h => ?_⟩
    | fail)
/-! DESK: order, ring -/
theorem oN_df {A : Nat → Nat → Bool} {n : Nat} {lf0 : Nat → Bool} (h20 : n ≤ 20) : ∀ k, k < pCt lf0 n → oN A n lf0 k < n ∧ lf0 (oN A n lf0 k) = true ∧ oLf A n lf0 k (oN A n lf0 k) = true := fun k hk => by
  have hct := oLf_ct (A := A) (lf0 := lf0) h20 k (by omega)
  have hne := pCt_pos (lf := oLf A n lf0 k) (n := n) (by omega)
  obtain ⟨h1, h2, -⟩ := oNx_in (A := A) h20 hne
  exact ⟨h1, oLf_sub k _ h2, h2⟩
theorem oRk_one {A : Nat → Nat → Bool} {n : Nat} {lf0 : Nat → Bool} : ∀ {k len len' : Nat} {fn fn' : Nat → Nat}, oRk A n lf0 k len fn → oRk A n lf0 k len' fn' → len = len' ∧ ∀ i, i < len → fn i = fn' i
  | 0, len, len', fn, fn', h, h' => by
    have e : len = 0 := h
    have e' : len' = 0 := h'
    exact ⟨by omega, fun i hi => absurd hi (by omega)⟩
  | k + 1, len, len', fn, fn', h, h' => by
    obtain ⟨l0, f0, r0, c⟩ := h
    obtain ⟨l1, f1, r1, c'⟩ := h'
    obtain ⟨e1, e2⟩ := oRk_one r0 r1
    subst e1
    rcases c with ⟨c1, rfl, rfl⟩ | ⟨c1, T, s, t1, rfl, rfl⟩
    · rcases c' with ⟨d1, rfl, rfl⟩ | ⟨d1, T, s, t1, rfl, rfl⟩
      · exact ⟨rfl, e2⟩
      · exact absurd d1 c1
    · rcases c' with ⟨d1, rfl, rfl⟩ | ⟨d1, T', s', t1', rfl, rfl⟩
      · exact absurd c1 d1
      · obtain ⟨rfl, rfl⟩ := pRg_one t1 t1'
        exact ⟨rfl, fun _ _ => rfl⟩
theorem zFr7_scr {μ μ' : zMu} (h : zFr7 μ μ') : zScr μ μ' := by
  refine ⟨fun f hf => h f (fun q => hf ?_), by rw [h 2 (by decide)], fun k _ => by rw [h 48 (by decide)]⟩
  simp only [List.mem_cons, List.not_mem_nil, or_false] at q ⊢
  omega
abbrev okO (o day : Int32) : Prop := (0 ≤ o ∧ o ≤ 9) ∧ 0 ≤ day
theorem c_De_order {d ns n nr nh : Nat} {μ : zMu} {o day i : Int32} {K : Option zV → zMu → Prop} (g : gQ μ ns n nr nh) (h0 : ¬ okO o day → K (some (zI (-1))) μ)
    (h1 : okO o day → ∀ μ', zFr7 μ μ' → ¬ okI (pCt (cLf0 μ n) n) i → K (some (zI (-1))) μ')
    (h2 : okO o day → ∀ μ' k, zFr7 μ μ' → k < pCt (cLf0 μ n) n → i = nI k → K (some (zI (nI (oN (cAd μ o day nr nh n) n (cLf0 μ n) k)))) μ') : Ct (d + 6) m_De_order [zR 0 0, zI o, zI day, zI i] μ K := by
  refine zmeet rfl (Nat.le_of_ble_eq_true rfl) (fun S => ?_)
  obtain ⟨g1, g2, g4, g5⟩ := g
  have h20 := g2.2.2.1
  have hm := pCt_le (cLf0 μ n) n
  by_cases ho : okO o day
  case neg =>
    have hk := h0 ho
    repeat' (first
      | refine c_De_isOccasion (fun q => absurd q ho) (fun _ => ?_)
      | exact hk
      | (refine zs k_De_order rfl ?_; conv => whnf)
      | refine ⟨Nat.zero_lt_one, rfl, ?_⟩
      | refine ⟨rfl, ?_⟩
      | refine ⟨⟨Nat.zero_lt_one, rfl⟩, Nat.le_of_ble_eq_true rfl, ?_⟩
      | refine ⟨Nat.le_of_ble_eq_true rfl, Nat.le_of_ble_eq_true rfl, ?_⟩
      | refine ⟨(by first | exact Nat.zero_lt_one | assumption | omega), (by first | assumption | exact vp_in_nI (by omega) (by omega) | (unfold vp_in; decide)), ?_⟩
      | refine ⟨(by first | exact Nat.zero_lt_one | assumption | omega), rfl, ?_⟩
      | refine ⟨⟨(by first | exact Nat.zero_lt_one | assumption | omega), rfl⟩, Nat.le_of_ble_eq_true rfl, ?_⟩
      | refine ⟨(by first | exact Nat.zero_lt_one | assumption | omega), ?_⟩
      | refine ⟨Or.inl rfl, ?_⟩
      | refine ⟨Or.inr (Or.inl rfl), ?_⟩
      | refine ⟨Or.inr (Or.inr rfl), ?_⟩
      | refine ⟨Or.inr ⟨rfl, (by first | exact Or.inl rfl | exact Or.inr rfl | assumption)⟩, ?_⟩
      | refine ⟨fun h => absurd h (by decide), fun _ => ?_⟩
      | refine ⟨fun _ => ?_, fun h => absurd h (by decide)⟩
      | refine ⟨fun h => ?_, fun h => ?_⟩
      | fail)
  have T : ∀ μ' : zMu, zFr7 μ μ' → cOrd μ μ' (cAd μ o day nr nh n) n (cLf0 μ n) (pCt (cLf0 μ n) n) → zG S (d + 6) m_De_order K 19 [some (zR 0 0), some (zI o), some (zI day), some (zI i)] [] μ' := by
    intro μ' hf hc
    rcases zIx i (n := pCt (cLf0 μ n) n) (by omega) with ⟨k, hk, rfl⟩ | q
    · have hk2 := h2 ho μ' k hf hk rfl
      have ck : (nI k).toNatClampNeg = k := nI_clamp (by omega)
      have hlt : ¬ μ' 4 0 0 ≤ nI k := by rw [hc.1]; exact nI_ge hk (by omega)
      have hvk : vp_in (nI k) 20 := vp_in_nI (by omega) (by omega)
      refine zs k_De_order rfl ?_; conv => whnf
      repeat' (first
        | refine br_f (nI_pos (by omega)) ?_
        | refine br_f hlt ?_
        | exact zKe hk2 (by rw [ck]; exact hc.2.1 k hk) rfl
        | (refine zs k_De_order rfl ?_; conv => whnf)
        | refine ⟨Nat.zero_lt_one, rfl, ?_⟩
        | refine ⟨rfl, ?_⟩
        | refine ⟨⟨Nat.zero_lt_one, rfl⟩, Nat.le_of_ble_eq_true rfl, ?_⟩
        | refine ⟨Nat.le_of_ble_eq_true rfl, Nat.le_of_ble_eq_true rfl, ?_⟩
        | refine ⟨(by first | exact Nat.zero_lt_one | assumption | omega), (by first | assumption | exact vp_in_nI (by omega) (by omega) | (unfold vp_in; decide)), ?_⟩
        | refine ⟨(by first | exact Nat.zero_lt_one | assumption | omega), rfl, ?_⟩
        | refine ⟨⟨(by first | exact Nat.zero_lt_one | assumption | omega), rfl⟩, Nat.le_of_ble_eq_true rfl, ?_⟩
        | refine ⟨(by first | exact Nat.zero_lt_one | assumption | omega), ?_⟩
        | refine ⟨Or.inl rfl, ?_⟩
        | refine ⟨Or.inr (Or.inl rfl), ?_⟩
        | refine ⟨Or.inr (Or.inr rfl), ?_⟩
        | refine ⟨Or.inr ⟨rfl, (by first | exact Or.inl rfl | exact Or.inr rfl | assumption)⟩, ?_⟩
        | refine ⟨fun h => absurd h (by decide), fun _ => ?_⟩
        | refine ⟨fun _ => ?_, fun h => absurd h (by decide)⟩
        | refine ⟨fun h => ?_, fun h => ?_⟩
        | fail)
    · have hk2 := h1 ho μ' hf q
      rw [← hc.1] at q
      by_cases i0 : i < 0
      · skip
        refine zs k_De_order rfl ?_; conv => whnf
        repeat' (first
          | refine br_t i0 ?_
          | exact hk2
          | (refine zs k_De_order rfl ?_; conv => whnf)
          | refine ⟨Nat.zero_lt_one, rfl, ?_⟩
          | refine ⟨rfl, ?_⟩
          | refine ⟨⟨Nat.zero_lt_one, rfl⟩, Nat.le_of_ble_eq_true rfl, ?_⟩
          | refine ⟨Nat.le_of_ble_eq_true rfl, Nat.le_of_ble_eq_true rfl, ?_⟩
          | refine ⟨(by first | exact Nat.zero_lt_one | assumption | omega), (by first | assumption | exact vp_in_nI (by omega) (by omega) | (unfold vp_in; decide)), ?_⟩
          | refine ⟨(by first | exact Nat.zero_lt_one | assumption | omega), rfl, ?_⟩
          | refine ⟨⟨(by first | exact Nat.zero_lt_one | assumption | omega), rfl⟩, Nat.le_of_ble_eq_true rfl, ?_⟩
          | refine ⟨(by first | exact Nat.zero_lt_one | assumption | omega), ?_⟩
          | refine ⟨Or.inl rfl, ?_⟩
          | refine ⟨Or.inr (Or.inl rfl), ?_⟩
          | refine ⟨Or.inr (Or.inr rfl), ?_⟩
          | refine ⟨Or.inr ⟨rfl, (by first | exact Or.inl rfl | exact Or.inr rfl | assumption)⟩, ?_⟩
          | refine ⟨fun h => absurd h (by decide), fun _ => ?_⟩
          | refine ⟨fun _ => ?_, fun h => absurd h (by decide)⟩
          | refine ⟨fun h => ?_, fun h => ?_⟩
          | fail)
      · have i1 : μ' 4 0 0 ≤ i := by grind
        refine zs k_De_order rfl ?_; conv => whnf
        repeat' (first
          | refine br_f i0 ?_
          | refine br_t i1 ?_
          | exact hk2
          | (refine zs k_De_order rfl ?_; conv => whnf)
          | refine ⟨Nat.zero_lt_one, rfl, ?_⟩
          | refine ⟨rfl, ?_⟩
          | refine ⟨⟨Nat.zero_lt_one, rfl⟩, Nat.le_of_ble_eq_true rfl, ?_⟩
          | refine ⟨Nat.le_of_ble_eq_true rfl, Nat.le_of_ble_eq_true rfl, ?_⟩
          | refine ⟨(by first | exact Nat.zero_lt_one | assumption | omega), (by first | assumption | exact vp_in_nI (by omega) (by omega) | (unfold vp_in; decide)), ?_⟩
          | refine ⟨(by first | exact Nat.zero_lt_one | assumption | omega), rfl, ?_⟩
          | refine ⟨⟨(by first | exact Nat.zero_lt_one | assumption | omega), rfl⟩, Nat.le_of_ble_eq_true rfl, ?_⟩
          | refine ⟨(by first | exact Nat.zero_lt_one | assumption | omega), ?_⟩
          | refine ⟨Or.inl rfl, ?_⟩
          | refine ⟨Or.inr (Or.inl rfl), ?_⟩
          | refine ⟨Or.inr (Or.inr rfl), ?_⟩
          | refine ⟨Or.inr ⟨rfl, (by first | exact Or.inl rfl | exact Or.inr rfl | assumption)⟩, ?_⟩
          | refine ⟨fun h => absurd h (by decide), fun _ => ?_⟩
          | refine ⟨fun _ => ?_, fun h => absurd h (by decide)⟩
          | refine ⟨fun h => ?_, fun h => ?_⟩
          | fail)
  repeat' (first
    | refine c_De_isOccasion (fun _ => ?_) (fun q => absurd ho q)
    | refine c_Pr_form g2.1 h20 g4.1 g4.2.2.1 g5.1 g5.2.2.1 (gRu_ok g4) (fun p hp => (g2.2.2.2 p hp).2.1) (fun μ' hf hc => ?_)
    | exact T _ hf hc
    | (refine zs k_De_order rfl ?_; conv => whnf)
    | refine ⟨Nat.zero_lt_one, rfl, ?_⟩
    | refine ⟨rfl, ?_⟩
    | refine ⟨⟨Nat.zero_lt_one, rfl⟩, Nat.le_of_ble_eq_true rfl, ?_⟩
    | refine ⟨Nat.le_of_ble_eq_true rfl, Nat.le_of_ble_eq_true rfl, ?_⟩
    | refine ⟨(by first | exact Nat.zero_lt_one | assumption | omega), (by first | assumption | exact vp_in_nI (by omega) (by omega) | (unfold vp_in; decide)), ?_⟩
    | refine ⟨(by first | exact Nat.zero_lt_one | assumption | omega), rfl, ?_⟩
    | refine ⟨⟨(by first | exact Nat.zero_lt_one | assumption | omega), rfl⟩, Nat.le_of_ble_eq_true rfl, ?_⟩
    | refine ⟨(by first | exact Nat.zero_lt_one | assumption | omega), ?_⟩
    | refine ⟨Or.inl rfl, ?_⟩
    | refine ⟨Or.inr (Or.inl rfl), ?_⟩
    | refine ⟨Or.inr (Or.inr rfl), ?_⟩
    | refine ⟨Or.inr ⟨rfl, (by first | exact Or.inl rfl | exact Or.inr rfl | assumption)⟩, ?_⟩
    | refine ⟨fun h => absurd h (by decide), fun _ => ?_⟩
    | refine ⟨fun _ => ?_, fun h => absurd h (by decide)⟩
    | refine ⟨fun h => ?_, fun h => ?_⟩
    | fail)
theorem c_Mo_order {d ns n nr nh : Nat} {μ : zMu} {o day i : Int32} {K : Option zV → zMu → Prop} (g : gQ μ ns n nr nh) (h0 : ¬ okO o day → K (some (zI (-1))) μ)
    (h1 : okO o day → ∀ μ', zScr μ μ' → ¬ okI (pCt (cLf0 μ n) n) i → K (some (zI (-1))) μ')
    (h2 : okO o day → ∀ μ' k, zScr μ μ' → k < pCt (cLf0 μ n) n → i = nI k → K (some (zI (nI (oN (cAd μ o day nr nh n) n (cLf0 μ n) k)))) μ') : Ct (d + 10) m_Mo_order [zR 48 0, zI o, zI day, zI i] μ K := by
  refine zmeet rfl (Nat.le_of_ble_eq_true rfl) (fun S => ?_)
  have h20 := g.2.1.2.2.1
  have hm := pCt_le (cLf0 μ n) n
  by_cases ho : okO o day
  case neg =>
    have hk := h0 ho
    repeat' (first
      | refine c_Mo_isOccasion (fun q => absurd q ho) (fun _ => ?_)
      | exact hk
      | (refine zs k_Mo_order rfl ?_; conv => whnf)
      | refine ⟨Nat.zero_lt_one, rfl, ?_⟩
      | refine ⟨rfl, ?_⟩
      | refine ⟨⟨Nat.zero_lt_one, rfl⟩, Nat.le_of_ble_eq_true rfl, ?_⟩
      | refine ⟨Nat.le_of_ble_eq_true rfl, Nat.le_of_ble_eq_true rfl, ?_⟩
      | refine ⟨(by first | exact Nat.zero_lt_one | assumption | omega), (by first | assumption | exact vp_in_nI (by omega) (by omega) | (unfold vp_in; decide)), ?_⟩
      | refine ⟨(by first | exact Nat.zero_lt_one | assumption | omega), rfl, ?_⟩
      | refine ⟨⟨(by first | exact Nat.zero_lt_one | assumption | omega), rfl⟩, Nat.le_of_ble_eq_true rfl, ?_⟩
      | refine ⟨(by first | exact Nat.zero_lt_one | assumption | omega), ?_⟩
      | refine ⟨Or.inl rfl, ?_⟩
      | refine ⟨Or.inr (Or.inl rfl), ?_⟩
      | refine ⟨Or.inr (Or.inr rfl), ?_⟩
      | refine ⟨Or.inr ⟨rfl, (by first | exact Or.inl rfl | exact Or.inr rfl | assumption)⟩, ?_⟩
      | refine ⟨fun h => absurd h (by decide), fun _ => ?_⟩
      | refine ⟨fun _ => ?_, fun h => absurd h (by decide)⟩
      | refine ⟨fun h => ?_, fun h => ?_⟩
      | fail)
  have T : ∀ μ' : zMu, zScr μ μ' → mOrd μ' (cAd μ o day nr nh n) n (cLf0 μ n) (pCt (cLf0 μ n) n) → zG S (d + 10) m_Mo_order K 16 [some (zR 48 0), some (zI o), some (zI day), some (zI i)] [] μ' := by
    intro μ' hf hc
    rcases zIx i (n := pCt (cLf0 μ n) n) (by omega) with ⟨k, hk, rfl⟩ | q
    · have hk2 := h2 ho μ' k hf hk rfl
      have ck : (nI k).toNatClampNeg = k := nI_clamp (by omega)
      have hlt : nI k < μ' 48 0 37 := by rw [hc.1]; exact nI_lt hk (by omega)
      have hvk : vp_in (nI k) 20 := vp_in_nI (by omega) (by omega)
      refine zs k_Mo_order rfl ?_; conv => whnf
      repeat' (first
        | refine br_f (nI_pos (by omega)) ?_
        | refine br_t hlt ?_
        | exact zKe hk2 (by rw [ck]; exact hc.2.1 k hk) rfl
        | (refine zs k_Mo_order rfl ?_; conv => whnf)
        | refine ⟨Nat.zero_lt_one, rfl, ?_⟩
        | refine ⟨rfl, ?_⟩
        | refine ⟨⟨Nat.zero_lt_one, rfl⟩, Nat.le_of_ble_eq_true rfl, ?_⟩
        | refine ⟨Nat.le_of_ble_eq_true rfl, Nat.le_of_ble_eq_true rfl, ?_⟩
        | refine ⟨(by first | exact Nat.zero_lt_one | assumption | omega), (by first | assumption | exact vp_in_nI (by omega) (by omega) | (unfold vp_in; decide)), ?_⟩
        | refine ⟨(by first | exact Nat.zero_lt_one | assumption | omega), rfl, ?_⟩
        | refine ⟨⟨(by first | exact Nat.zero_lt_one | assumption | omega), rfl⟩, Nat.le_of_ble_eq_true rfl, ?_⟩
        | refine ⟨(by first | exact Nat.zero_lt_one | assumption | omega), ?_⟩
        | refine ⟨Or.inl rfl, ?_⟩
        | refine ⟨Or.inr (Or.inl rfl), ?_⟩
        | refine ⟨Or.inr (Or.inr rfl), ?_⟩
        | refine ⟨Or.inr ⟨rfl, (by first | exact Or.inl rfl | exact Or.inr rfl | assumption)⟩, ?_⟩
        | refine ⟨fun h => absurd h (by decide), fun _ => ?_⟩
        | refine ⟨fun _ => ?_, fun h => absurd h (by decide)⟩
        | refine ⟨fun h => ?_, fun h => ?_⟩
        | fail)
    · have hk2 := h1 ho μ' hf q
      rw [← hc.1] at q
      by_cases i0 : i < 0
      · skip
        refine zs k_Mo_order rfl ?_; conv => whnf
        repeat' (first
          | refine br_t i0 ?_
          | exact hk2
          | (refine zs k_Mo_order rfl ?_; conv => whnf)
          | refine ⟨Nat.zero_lt_one, rfl, ?_⟩
          | refine ⟨rfl, ?_⟩
          | refine ⟨⟨Nat.zero_lt_one, rfl⟩, Nat.le_of_ble_eq_true rfl, ?_⟩
          | refine ⟨Nat.le_of_ble_eq_true rfl, Nat.le_of_ble_eq_true rfl, ?_⟩
          | refine ⟨(by first | exact Nat.zero_lt_one | assumption | omega), (by first | assumption | exact vp_in_nI (by omega) (by omega) | (unfold vp_in; decide)), ?_⟩
          | refine ⟨(by first | exact Nat.zero_lt_one | assumption | omega), rfl, ?_⟩
          | refine ⟨⟨(by first | exact Nat.zero_lt_one | assumption | omega), rfl⟩, Nat.le_of_ble_eq_true rfl, ?_⟩
          | refine ⟨(by first | exact Nat.zero_lt_one | assumption | omega), ?_⟩
          | refine ⟨Or.inl rfl, ?_⟩
          | refine ⟨Or.inr (Or.inl rfl), ?_⟩
          | refine ⟨Or.inr (Or.inr rfl), ?_⟩
          | refine ⟨Or.inr ⟨rfl, (by first | exact Or.inl rfl | exact Or.inr rfl | assumption)⟩, ?_⟩
          | refine ⟨fun h => absurd h (by decide), fun _ => ?_⟩
          | refine ⟨fun _ => ?_, fun h => absurd h (by decide)⟩
          | refine ⟨fun h => ?_, fun h => ?_⟩
          | fail)
      · have i1 : ¬ i < μ' 48 0 37 := by grind
        refine zs k_Mo_order rfl ?_; conv => whnf
        repeat' (first
          | refine br_f i0 ?_
          | refine br_f i1 ?_
          | exact hk2
          | (refine zs k_Mo_order rfl ?_; conv => whnf)
          | refine ⟨Nat.zero_lt_one, rfl, ?_⟩
          | refine ⟨rfl, ?_⟩
          | refine ⟨⟨Nat.zero_lt_one, rfl⟩, Nat.le_of_ble_eq_true rfl, ?_⟩
          | refine ⟨Nat.le_of_ble_eq_true rfl, Nat.le_of_ble_eq_true rfl, ?_⟩
          | refine ⟨(by first | exact Nat.zero_lt_one | assumption | omega), (by first | assumption | exact vp_in_nI (by omega) (by omega) | (unfold vp_in; decide)), ?_⟩
          | refine ⟨(by first | exact Nat.zero_lt_one | assumption | omega), rfl, ?_⟩
          | refine ⟨⟨(by first | exact Nat.zero_lt_one | assumption | omega), rfl⟩, Nat.le_of_ble_eq_true rfl, ?_⟩
          | refine ⟨(by first | exact Nat.zero_lt_one | assumption | omega), ?_⟩
          | refine ⟨Or.inl rfl, ?_⟩
          | refine ⟨Or.inr (Or.inl rfl), ?_⟩
          | refine ⟨Or.inr (Or.inr rfl), ?_⟩
          | refine ⟨Or.inr ⟨rfl, (by first | exact Or.inl rfl | exact Or.inr rfl | assumption)⟩, ?_⟩
          | refine ⟨fun h => absurd h (by decide), fun _ => ?_⟩
          | refine ⟨fun _ => ?_, fun h => absurd h (by decide)⟩
          | refine ⟨fun h => ?_, fun h => ?_⟩
          | fail)
  repeat' (first
    | refine c_Mo_isOccasion (fun _ => ?_) (fun q => absurd ho q)
    | refine c_Mo_findOrder g (fun μ' hf hc => ?_)
    | exact T _ hf hc
    | (refine zs k_Mo_order rfl ?_; conv => whnf)
    | refine ⟨Nat.zero_lt_one, rfl, ?_⟩
    | refine ⟨rfl, ?_⟩
    | refine ⟨⟨Nat.zero_lt_one, rfl⟩, Nat.le_of_ble_eq_true rfl, ?_⟩
    | refine ⟨Nat.le_of_ble_eq_true rfl, Nat.le_of_ble_eq_true rfl, ?_⟩
    | refine ⟨(by first | exact Nat.zero_lt_one | assumption | omega), (by first | assumption | exact vp_in_nI (by omega) (by omega) | (unfold vp_in; decide)), ?_⟩
    | refine ⟨(by first | exact Nat.zero_lt_one | assumption | omega), rfl, ?_⟩
    | refine ⟨⟨(by first | exact Nat.zero_lt_one | assumption | omega), rfl⟩, Nat.le_of_ble_eq_true rfl, ?_⟩
    | refine ⟨(by first | exact Nat.zero_lt_one | assumption | omega), ?_⟩
    | refine ⟨Or.inl rfl, ?_⟩
    | refine ⟨Or.inr (Or.inl rfl), ?_⟩
    | refine ⟨Or.inr (Or.inr rfl), ?_⟩
    | refine ⟨Or.inr ⟨rfl, (by first | exact Or.inl rfl | exact Or.inr rfl | assumption)⟩, ?_⟩
    | refine ⟨fun h => absurd h (by decide), fun _ => ?_⟩
    | refine ⟨fun _ => ?_, fun h => absurd h (by decide)⟩
    | refine ⟨fun h => ?_, fun h => ?_⟩
    | fail)
theorem zScr_ad {μ μ' : zMu} (h : zScr μ μ') (o day : Int32) (nr nh n : Nat) : cAd μ' o day nr nh n = cAd μ o day nr nh n ∧ cLf0 μ' n = cLf0 μ n := by
  have e : cLf0 μ' n = cLf0 μ n := by
    funext p
    unfold cLf0
    rw [zScr_in h (l := [10]) rfl 10 (by simp)]
  refine ⟨?_, e⟩
  funext q p
  unfold cAd cLdm
  rw [e, zLk_ldr (zScr_lk h)]
theorem b_order {μ : zMu} {o day i : Int32} (h : Rel μ) : Both m_De_order m_Mo_order [zI o, zI day, zI i] μ := by
  intro d K hK
  obtain ⟨ns, n, nr, nh, nt, nb, L, g1, g2, g3, g4, g5, g6, g7, g8, g9, g10, g11⟩ := id h
  have h20 := g2.2.2.1
  have hm := pCt_le (cLf0 μ n) n
  have g : gQ μ ns n nr nh := ⟨g1, g2, g4, g5⟩
  refine c_De_order g (fun a => hK _ _ (fun d K2 hK2 => ?_)) (fun a μ1 f1 q => hK _ _ (fun d K2 hK2 => ?_)) (fun a μ1 k f1 hk q => hK _ _ (fun d K2 hK2 => ?_))
  · exact c_Mo_order g (fun _ => hK2 _ h) (fun q => absurd q a) (fun q => absurd q a)
  · have s1 := zFr7_scr f1
    obtain ⟨e1, e2⟩ := zScr_ad s1 o day nr nh n
    refine c_Mo_order (gQ_scr s1 g) (fun b => absurd a b) (fun _ μ2 s2 _ => hK2 _ (Rel_scr (zScr_tr s1 s2) h)) (fun _ μ2 k s2 hk ek => ?_)
    rw [e2] at hk
    rw [ek] at q
    exact absurd (okI_i hk (by omega)) q
  · subst q
    have s1 := zFr7_scr f1
    obtain ⟨e1, e2⟩ := zScr_ad s1 o day nr nh n
    refine c_Mo_order (gQ_scr s1 g) (fun b => absurd a b) (fun _ μ2 s2 b => ?_) (fun _ μ2 k' s2 hk' ek => ?_)
    · rw [e2] at b
      exact absurd (okI_i hk (by omega)) b
    · rw [e2] at hk'
      obtain rfl := (nI_eq (by omega) (by omega)).mp ek
      refine zKe (hK2 _ (Rel_scr (zScr_tr s1 s2) h)) ?_ rfl
      rw [e1, e2]
theorem c_De_ring {d ns n nr nh : Nat} {μ : zMu} {o day i : Int32} {K : Option zV → zMu → Prop} (g : gQ μ ns n nr nh) (h0 : ¬ okO o day → K (some (zI (-1))) μ)
    (h1 : okO o day → ∀ μ' len fn, zFr7 μ μ' → oRk (cAd μ o day nr nh n) n (cLf0 μ n) (pCt (cLf0 μ n) n) len fn → len ≤ 20 → ¬ okI len i → K (some (zI (-1))) μ')
    (h2 : okO o day → ∀ μ' len fn k, zFr7 μ μ' → oRk (cAd μ o day nr nh n) n (cLf0 μ n) (pCt (cLf0 μ n) n) len fn → len ≤ 20 → k < len → i = nI k → K (some (zI (nI (fn k)))) μ') : Ct (d + 6) m_De_ring [zR 0 0, zI o, zI day, zI i] μ K := by
  refine zmeet rfl (Nat.le_of_ble_eq_true rfl) (fun S => ?_)
  obtain ⟨g1, g2, g4, g5⟩ := g
  have h20 := g2.2.2.1
  by_cases ho : okO o day
  case neg =>
    have hk := h0 ho
    repeat' (first
      | refine c_De_isOccasion (fun q => absurd q ho) (fun _ => ?_)
      | exact hk
      | (refine zs k_De_ring rfl ?_; conv => whnf)
      | refine ⟨Nat.zero_lt_one, rfl, ?_⟩
      | refine ⟨rfl, ?_⟩
      | refine ⟨⟨Nat.zero_lt_one, rfl⟩, Nat.le_of_ble_eq_true rfl, ?_⟩
      | refine ⟨Nat.le_of_ble_eq_true rfl, Nat.le_of_ble_eq_true rfl, ?_⟩
      | refine ⟨(by first | exact Nat.zero_lt_one | assumption | omega), (by first | assumption | exact vp_in_nI (by omega) (by omega) | (unfold vp_in; decide)), ?_⟩
      | refine ⟨(by first | exact Nat.zero_lt_one | assumption | omega), rfl, ?_⟩
      | refine ⟨⟨(by first | exact Nat.zero_lt_one | assumption | omega), rfl⟩, Nat.le_of_ble_eq_true rfl, ?_⟩
      | refine ⟨(by first | exact Nat.zero_lt_one | assumption | omega), ?_⟩
      | refine ⟨Or.inl rfl, ?_⟩
      | refine ⟨Or.inr (Or.inl rfl), ?_⟩
      | refine ⟨Or.inr (Or.inr rfl), ?_⟩
      | refine ⟨Or.inr ⟨rfl, (by first | exact Or.inl rfl | exact Or.inr rfl | assumption)⟩, ?_⟩
      | refine ⟨fun h => absurd h (by decide), fun _ => ?_⟩
      | refine ⟨fun _ => ?_, fun h => absurd h (by decide)⟩
      | refine ⟨fun h => ?_, fun h => ?_⟩
      | fail)
  have T : ∀ μ' : zMu, zFr7 μ μ' → cOrd μ μ' (cAd μ o day nr nh n) n (cLf0 μ n) (pCt (cLf0 μ n) n) → zG S (d + 6) m_De_ring K 19 [some (zR 0 0), some (zI o), some (zI day), some (zI i)] [] μ' := by
    intro μ' hf hc
    obtain ⟨-, -, len, fn, r1, r2, r3, r4⟩ := hc
    rcases zIx i (n := len) (by omega) with ⟨k, hk, rfl⟩ | q
    · have hk2 := h2 ho μ' len fn k hf r1 r2 hk rfl
      have ck : (nI k).toNatClampNeg = k := nI_clamp (by omega)
      have hlt : ¬ μ' 4 0 1 ≤ nI k := by rw [r3]; exact nI_ge hk (by omega)
      have hvk : vp_in (nI k) 20 := vp_in_nI (by omega) (by omega)
      refine zs k_De_ring rfl ?_; conv => whnf
      repeat' (first
        | refine br_f (nI_pos (by omega)) ?_
        | refine br_f hlt ?_
        | exact zKe hk2 (by rw [ck]; exact r4 k hk) rfl
        | (refine zs k_De_ring rfl ?_; conv => whnf)
        | refine ⟨Nat.zero_lt_one, rfl, ?_⟩
        | refine ⟨rfl, ?_⟩
        | refine ⟨⟨Nat.zero_lt_one, rfl⟩, Nat.le_of_ble_eq_true rfl, ?_⟩
        | refine ⟨Nat.le_of_ble_eq_true rfl, Nat.le_of_ble_eq_true rfl, ?_⟩
        | refine ⟨(by first | exact Nat.zero_lt_one | assumption | omega), (by first | assumption | exact vp_in_nI (by omega) (by omega) | (unfold vp_in; decide)), ?_⟩
        | refine ⟨(by first | exact Nat.zero_lt_one | assumption | omega), rfl, ?_⟩
        | refine ⟨⟨(by first | exact Nat.zero_lt_one | assumption | omega), rfl⟩, Nat.le_of_ble_eq_true rfl, ?_⟩
        | refine ⟨(by first | exact Nat.zero_lt_one | assumption | omega), ?_⟩
        | refine ⟨Or.inl rfl, ?_⟩
        | refine ⟨Or.inr (Or.inl rfl), ?_⟩
        | refine ⟨Or.inr (Or.inr rfl), ?_⟩
        | refine ⟨Or.inr ⟨rfl, (by first | exact Or.inl rfl | exact Or.inr rfl | assumption)⟩, ?_⟩
        | refine ⟨fun h => absurd h (by decide), fun _ => ?_⟩
        | refine ⟨fun _ => ?_, fun h => absurd h (by decide)⟩
        | refine ⟨fun h => ?_, fun h => ?_⟩
        | fail)
    · have hk2 := h1 ho μ' len fn hf r1 r2 q
      rw [← r3] at q
      by_cases i0 : i < 0
      · skip
        refine zs k_De_ring rfl ?_; conv => whnf
        repeat' (first
          | refine br_t i0 ?_
          | exact hk2
          | (refine zs k_De_ring rfl ?_; conv => whnf)
          | refine ⟨Nat.zero_lt_one, rfl, ?_⟩
          | refine ⟨rfl, ?_⟩
          | refine ⟨⟨Nat.zero_lt_one, rfl⟩, Nat.le_of_ble_eq_true rfl, ?_⟩
          | refine ⟨Nat.le_of_ble_eq_true rfl, Nat.le_of_ble_eq_true rfl, ?_⟩
          | refine ⟨(by first | exact Nat.zero_lt_one | assumption | omega), (by first | assumption | exact vp_in_nI (by omega) (by omega) | (unfold vp_in; decide)), ?_⟩
          | refine ⟨(by first | exact Nat.zero_lt_one | assumption | omega), rfl, ?_⟩
          | refine ⟨⟨(by first | exact Nat.zero_lt_one | assumption | omega), rfl⟩, Nat.le_of_ble_eq_true rfl, ?_⟩
          | refine ⟨(by first | exact Nat.zero_lt_one | assumption | omega), ?_⟩
          | refine ⟨Or.inl rfl, ?_⟩
          | refine ⟨Or.inr (Or.inl rfl), ?_⟩
          | refine ⟨Or.inr (Or.inr rfl), ?_⟩
          | refine ⟨Or.inr ⟨rfl, (by first | exact Or.inl rfl | exact Or.inr rfl | assumption)⟩, ?_⟩
          | refine ⟨fun h => absurd h (by decide), fun _ => ?_⟩
          | refine ⟨fun _ => ?_, fun h => absurd h (by decide)⟩
          | refine ⟨fun h => ?_, fun h => ?_⟩
          | fail)
      · have i1 : μ' 4 0 1 ≤ i := by grind
        refine zs k_De_ring rfl ?_; conv => whnf
        repeat' (first
          | refine br_f i0 ?_
          | refine br_t i1 ?_
          | exact hk2
          | (refine zs k_De_ring rfl ?_; conv => whnf)
          | refine ⟨Nat.zero_lt_one, rfl, ?_⟩
          | refine ⟨rfl, ?_⟩
          | refine ⟨⟨Nat.zero_lt_one, rfl⟩, Nat.le_of_ble_eq_true rfl, ?_⟩
          | refine ⟨Nat.le_of_ble_eq_true rfl, Nat.le_of_ble_eq_true rfl, ?_⟩
          | refine ⟨(by first | exact Nat.zero_lt_one | assumption | omega), (by first | assumption | exact vp_in_nI (by omega) (by omega) | (unfold vp_in; decide)), ?_⟩
          | refine ⟨(by first | exact Nat.zero_lt_one | assumption | omega), rfl, ?_⟩
          | refine ⟨⟨(by first | exact Nat.zero_lt_one | assumption | omega), rfl⟩, Nat.le_of_ble_eq_true rfl, ?_⟩
          | refine ⟨(by first | exact Nat.zero_lt_one | assumption | omega), ?_⟩
          | refine ⟨Or.inl rfl, ?_⟩
          | refine ⟨Or.inr (Or.inl rfl), ?_⟩
          | refine ⟨Or.inr (Or.inr rfl), ?_⟩
          | refine ⟨Or.inr ⟨rfl, (by first | exact Or.inl rfl | exact Or.inr rfl | assumption)⟩, ?_⟩
          | refine ⟨fun h => absurd h (by decide), fun _ => ?_⟩
          | refine ⟨fun _ => ?_, fun h => absurd h (by decide)⟩
          | refine ⟨fun h => ?_, fun h => ?_⟩
          | fail)
  repeat' (first
    | refine c_De_isOccasion (fun _ => ?_) (fun q => absurd ho q)
    | refine c_Pr_form g2.1 h20 g4.1 g4.2.2.1 g5.1 g5.2.2.1 (gRu_ok g4) (fun p hp => (g2.2.2.2 p hp).2.1) (fun μ' hf hc => ?_)
    | exact T _ hf hc
    | (refine zs k_De_ring rfl ?_; conv => whnf)
    | refine ⟨Nat.zero_lt_one, rfl, ?_⟩
    | refine ⟨rfl, ?_⟩
    | refine ⟨⟨Nat.zero_lt_one, rfl⟩, Nat.le_of_ble_eq_true rfl, ?_⟩
    | refine ⟨Nat.le_of_ble_eq_true rfl, Nat.le_of_ble_eq_true rfl, ?_⟩
    | refine ⟨(by first | exact Nat.zero_lt_one | assumption | omega), (by first | assumption | exact vp_in_nI (by omega) (by omega) | (unfold vp_in; decide)), ?_⟩
    | refine ⟨(by first | exact Nat.zero_lt_one | assumption | omega), rfl, ?_⟩
    | refine ⟨⟨(by first | exact Nat.zero_lt_one | assumption | omega), rfl⟩, Nat.le_of_ble_eq_true rfl, ?_⟩
    | refine ⟨(by first | exact Nat.zero_lt_one | assumption | omega), ?_⟩
    | refine ⟨Or.inl rfl, ?_⟩
    | refine ⟨Or.inr (Or.inl rfl), ?_⟩
    | refine ⟨Or.inr (Or.inr rfl), ?_⟩
    | refine ⟨Or.inr ⟨rfl, (by first | exact Or.inl rfl | exact Or.inr rfl | assumption)⟩, ?_⟩
    | refine ⟨fun h => absurd h (by decide), fun _ => ?_⟩
    | refine ⟨fun _ => ?_, fun h => absurd h (by decide)⟩
    | refine ⟨fun h => ?_, fun h => ?_⟩
    | fail)
theorem c_Mo_ring {d ns n nr nh : Nat} {μ : zMu} {o day i : Int32} {K : Option zV → zMu → Prop} (g : gQ μ ns n nr nh) (h0 : ¬ okO o day → K (some (zI (-1))) μ)
    (h1 : okO o day → ∀ μ' len fn, zScr μ μ' → oRk (cAd μ o day nr nh n) n (cLf0 μ n) (pCt (cLf0 μ n) n) len fn → len ≤ 20 → ¬ okI len i → K (some (zI (-1))) μ')
    (h2 : okO o day → ∀ μ' len fn k, zScr μ μ' → oRk (cAd μ o day nr nh n) n (cLf0 μ n) (pCt (cLf0 μ n) n) len fn → len ≤ 20 → k < len → i = nI k → K (some (zI (nI (fn k)))) μ') : Ct (d + 10) m_Mo_ring [zR 48 0, zI o, zI day, zI i] μ K := by
  refine zmeet rfl (Nat.le_of_ble_eq_true rfl) (fun S => ?_)
  have h20 := g.2.1.2.2.1
  by_cases ho : okO o day
  case neg =>
    have hk := h0 ho
    repeat' (first
      | refine c_Mo_isOccasion (fun q => absurd q ho) (fun _ => ?_)
      | exact hk
      | (refine zs k_Mo_ring rfl ?_; conv => whnf)
      | refine ⟨Nat.zero_lt_one, rfl, ?_⟩
      | refine ⟨rfl, ?_⟩
      | refine ⟨⟨Nat.zero_lt_one, rfl⟩, Nat.le_of_ble_eq_true rfl, ?_⟩
      | refine ⟨Nat.le_of_ble_eq_true rfl, Nat.le_of_ble_eq_true rfl, ?_⟩
      | refine ⟨(by first | exact Nat.zero_lt_one | assumption | omega), (by first | assumption | exact vp_in_nI (by omega) (by omega) | (unfold vp_in; decide)), ?_⟩
      | refine ⟨(by first | exact Nat.zero_lt_one | assumption | omega), rfl, ?_⟩
      | refine ⟨⟨(by first | exact Nat.zero_lt_one | assumption | omega), rfl⟩, Nat.le_of_ble_eq_true rfl, ?_⟩
      | refine ⟨(by first | exact Nat.zero_lt_one | assumption | omega), ?_⟩
      | refine ⟨Or.inl rfl, ?_⟩
      | refine ⟨Or.inr (Or.inl rfl), ?_⟩
      | refine ⟨Or.inr (Or.inr rfl), ?_⟩
      | refine ⟨Or.inr ⟨rfl, (by first | exact Or.inl rfl | exact Or.inr rfl | assumption)⟩, ?_⟩
      | refine ⟨fun h => absurd h (by decide), fun _ => ?_⟩
      | refine ⟨fun _ => ?_, fun h => absurd h (by decide)⟩
      | refine ⟨fun h => ?_, fun h => ?_⟩
      | fail)
  have T : ∀ μ' : zMu, zScr μ μ' → mOrd μ' (cAd μ o day nr nh n) n (cLf0 μ n) (pCt (cLf0 μ n) n) → zG S (d + 10) m_Mo_ring K 16 [some (zR 48 0), some (zI o), some (zI day), some (zI i)] [] μ' := by
    intro μ' hf hc
    obtain ⟨-, -, len, fn, r1, r2, r3, r4⟩ := hc
    rcases zIx i (n := len) (by omega) with ⟨k, hk, rfl⟩ | q
    · have hk2 := h2 ho μ' len fn k hf r1 r2 hk rfl
      have ck : (nI k).toNatClampNeg = k := nI_clamp (by omega)
      have hlt : nI k < μ' 48 0 40 := by rw [r3]; exact nI_lt hk (by omega)
      have hvk : vp_in (nI k) 20 := vp_in_nI (by omega) (by omega)
      refine zs k_Mo_ring rfl ?_; conv => whnf
      repeat' (first
        | refine br_f (nI_pos (by omega)) ?_
        | refine br_t hlt ?_
        | exact zKe hk2 (by rw [ck]; exact r4 k hk) rfl
        | (refine zs k_Mo_ring rfl ?_; conv => whnf)
        | refine ⟨Nat.zero_lt_one, rfl, ?_⟩
        | refine ⟨rfl, ?_⟩
        | refine ⟨⟨Nat.zero_lt_one, rfl⟩, Nat.le_of_ble_eq_true rfl, ?_⟩
        | refine ⟨Nat.le_of_ble_eq_true rfl, Nat.le_of_ble_eq_true rfl, ?_⟩
        | refine ⟨(by first | exact Nat.zero_lt_one | assumption | omega), (by first | assumption | exact vp_in_nI (by omega) (by omega) | (unfold vp_in; decide)), ?_⟩
        | refine ⟨(by first | exact Nat.zero_lt_one | assumption | omega), rfl, ?_⟩
        | refine ⟨⟨(by first | exact Nat.zero_lt_one | assumption | omega), rfl⟩, Nat.le_of_ble_eq_true rfl, ?_⟩
        | refine ⟨(by first | exact Nat.zero_lt_one | assumption | omega), ?_⟩
        | refine ⟨Or.inl rfl, ?_⟩
        | refine ⟨Or.inr (Or.inl rfl), ?_⟩
        | refine ⟨Or.inr (Or.inr rfl), ?_⟩
        | refine ⟨Or.inr ⟨rfl, (by first | exact Or.inl rfl | exact Or.inr rfl | assumption)⟩, ?_⟩
        | refine ⟨fun h => absurd h (by decide), fun _ => ?_⟩
        | refine ⟨fun _ => ?_, fun h => absurd h (by decide)⟩
        | refine ⟨fun h => ?_, fun h => ?_⟩
        | fail)
    · have hk2 := h1 ho μ' len fn hf r1 r2 q
      rw [← r3] at q
      by_cases i0 : i < 0
      · skip
        refine zs k_Mo_ring rfl ?_; conv => whnf
        repeat' (first
          | refine br_t i0 ?_
          | exact hk2
          | (refine zs k_Mo_ring rfl ?_; conv => whnf)
          | refine ⟨Nat.zero_lt_one, rfl, ?_⟩
          | refine ⟨rfl, ?_⟩
          | refine ⟨⟨Nat.zero_lt_one, rfl⟩, Nat.le_of_ble_eq_true rfl, ?_⟩
          | refine ⟨Nat.le_of_ble_eq_true rfl, Nat.le_of_ble_eq_true rfl, ?_⟩
          | refine ⟨(by first | exact Nat.zero_lt_one | assumption | omega), (by first | assumption | exact vp_in_nI (by omega) (by omega) | (unfold vp_in; decide)), ?_⟩
          | refine ⟨(by first | exact Nat.zero_lt_one | assumption | omega), rfl, ?_⟩
          | refine ⟨⟨(by first | exact Nat.zero_lt_one | assumption | omega), rfl⟩, Nat.le_of_ble_eq_true rfl, ?_⟩
          | refine ⟨(by first | exact Nat.zero_lt_one | assumption | omega), ?_⟩
          | refine ⟨Or.inl rfl, ?_⟩
          | refine ⟨Or.inr (Or.inl rfl), ?_⟩
          | refine ⟨Or.inr (Or.inr rfl), ?_⟩
          | refine ⟨Or.inr ⟨rfl, (by first | exact Or.inl rfl | exact Or.inr rfl | assumption)⟩, ?_⟩
          | refine ⟨fun h => absurd h (by decide), fun _ => ?_⟩
          | refine ⟨fun _ => ?_, fun h => absurd h (by decide)⟩
          | refine ⟨fun h => ?_, fun h => ?_⟩
          | fail)
      · have i1 : ¬ i < μ' 48 0 40 := by grind
        refine zs k_Mo_ring rfl ?_; conv => whnf
        repeat' (first
          | refine br_f i0 ?_
          | refine br_f i1 ?_
          | exact hk2
          | (refine zs k_Mo_ring rfl ?_; conv => whnf)
          | refine ⟨Nat.zero_lt_one, rfl, ?_⟩
          | refine ⟨rfl, ?_⟩
          | refine ⟨⟨Nat.zero_lt_one, rfl⟩, Nat.le_of_ble_eq_true rfl, ?_⟩
          | refine ⟨Nat.le_of_ble_eq_true rfl, Nat.le_of_ble_eq_true rfl, ?_⟩
          | refine ⟨(by first | exact Nat.zero_lt_one | assumption | omega), (by first | assumption | exact vp_in_nI (by omega) (by omega) | (unfold vp_in; decide)), ?_⟩
          | refine ⟨(by first | exact Nat.zero_lt_one | assumption | omega), rfl, ?_⟩
          | refine ⟨⟨(by first | exact Nat.zero_lt_one | assumption | omega), rfl⟩, Nat.le_of_ble_eq_true rfl, ?_⟩
          | refine ⟨(by first | exact Nat.zero_lt_one | assumption | omega), ?_⟩
          | refine ⟨Or.inl rfl, ?_⟩
          | refine ⟨Or.inr (Or.inl rfl), ?_⟩
          | refine ⟨Or.inr (Or.inr rfl), ?_⟩
          | refine ⟨Or.inr ⟨rfl, (by first | exact Or.inl rfl | exact Or.inr rfl | assumption)⟩, ?_⟩
          | refine ⟨fun h => absurd h (by decide), fun _ => ?_⟩
          | refine ⟨fun _ => ?_, fun h => absurd h (by decide)⟩
          | refine ⟨fun h => ?_, fun h => ?_⟩
          | fail)
  repeat' (first
    | refine c_Mo_isOccasion (fun _ => ?_) (fun q => absurd ho q)
    | refine c_Mo_findOrder g (fun μ' hf hc => ?_)
    | exact T _ hf hc
    | (refine zs k_Mo_ring rfl ?_; conv => whnf)
    | refine ⟨Nat.zero_lt_one, rfl, ?_⟩
    | refine ⟨rfl, ?_⟩
    | refine ⟨⟨Nat.zero_lt_one, rfl⟩, Nat.le_of_ble_eq_true rfl, ?_⟩
    | refine ⟨Nat.le_of_ble_eq_true rfl, Nat.le_of_ble_eq_true rfl, ?_⟩
    | refine ⟨(by first | exact Nat.zero_lt_one | assumption | omega), (by first | assumption | exact vp_in_nI (by omega) (by omega) | (unfold vp_in; decide)), ?_⟩
    | refine ⟨(by first | exact Nat.zero_lt_one | assumption | omega), rfl, ?_⟩
    | refine ⟨⟨(by first | exact Nat.zero_lt_one | assumption | omega), rfl⟩, Nat.le_of_ble_eq_true rfl, ?_⟩
    | refine ⟨(by first | exact Nat.zero_lt_one | assumption | omega), ?_⟩
    | refine ⟨Or.inl rfl, ?_⟩
    | refine ⟨Or.inr (Or.inl rfl), ?_⟩
    | refine ⟨Or.inr (Or.inr rfl), ?_⟩
    | refine ⟨Or.inr ⟨rfl, (by first | exact Or.inl rfl | exact Or.inr rfl | assumption)⟩, ?_⟩
    | refine ⟨fun h => absurd h (by decide), fun _ => ?_⟩
    | refine ⟨fun _ => ?_, fun h => absurd h (by decide)⟩
    | refine ⟨fun h => ?_, fun h => ?_⟩
    | fail)
theorem b_ring {μ : zMu} {o day i : Int32} (h : Rel μ) : Both m_De_ring m_Mo_ring [zI o, zI day, zI i] μ := by
  intro d K hK
  obtain ⟨ns, n, nr, nh, nt, nb, L, g1, g2, g3, g4, g5, g6, g7, g8, g9, g10, g11⟩ := id h
  have g : gQ μ ns n nr nh := ⟨g1, g2, g4, g5⟩
  refine c_De_ring g (fun a => hK _ _ (fun d K2 hK2 => ?_)) (fun a μ1 len fn f1 r1 r2 q => hK _ _ (fun d K2 hK2 => ?_)) (fun a μ1 len fn k f1 r1 r2 hk q => hK _ _ (fun d K2 hK2 => ?_))
  · exact c_Mo_ring g (fun _ => hK2 _ h) (fun q => absurd q a) (fun q => absurd q a)
  · have s1 := zFr7_scr f1
    obtain ⟨e1, e2⟩ := zScr_ad s1 o day nr nh n
    refine c_Mo_ring (gQ_scr s1 g) (fun b => absurd a b) (fun _ μ2 _ _ s2 _ _ _ => hK2 _ (Rel_scr (zScr_tr s1 s2) h)) (fun _ μ2 len' fn' k s2 r1' r2' hk ek => ?_)
    rw [e1, e2] at r1'
    obtain ⟨u1, u2⟩ := oRk_one r1 r1'
    rw [ek] at q
    exact absurd (okI_i (by omega) (by omega)) q
  · subst q
    have s1 := zFr7_scr f1
    obtain ⟨e1, e2⟩ := zScr_ad s1 o day nr nh n
    refine c_Mo_ring (gQ_scr s1 g) (fun b => absurd a b) (fun _ μ2 len' fn' s2 r1' r2' b => ?_) (fun _ μ2 len' fn' k' s2 r1' r2' hk' ek => ?_)
    · rw [e1, e2] at r1'
      obtain ⟨u1, u2⟩ := oRk_one r1 r1'
      exact absurd (okI_i (by omega) (by omega)) b
    · rw [e1, e2] at r1'
      obtain ⟨u1, u2⟩ := oRk_one r1 r1'
      obtain rfl := (nI_eq (by omega) (by omega)).mp ek
      refine zKe (hK2 _ (Rel_scr (zScr_tr s1 s2) h)) ?_ rfl
      rw [u2 k hk]
/-! DESK: keeps -/
def mT (μ : zMu) (ns n t z : Nat) (rd : Int32) (r : Nat → Int32) : Prop := gSt μ ns ∧ gPe μ ns n ∧ gFe μ ∧ gCo μ ∧ t < 4 ∧ μ 94 0 t = nI z ∧ 2 ≤ z ∧ z ≤ 12 ∧ μ 93 0 t = rd ∧ (rd = 0 ∨ rd = 1) ∧ (∀ k, k < 12 → μ 96 0 k = r k) ∧ ∀ k, k < 12 → r k = -1 ∨ ∃ p, p < n ∧ r k = nI p
theorem c_Mo_areFeuding {d ns n : Nat} {μ : zMu} {a b ra rb : Int32} {K : Option zV → zMu → Prop} (g1 : gSt μ ns) (g : gPe μ ns n) (g7 : gFe μ) (ea : a = ra) (eb : b = rb) (ha : ra = -1 ∨ ∃ p, p < n ∧ ra = nI p) (hb : rb = -1 ∨ ∃ p, p < n ∧ rb = nI p) (h1 : hFd μ ra rb → K (some (zI 1)) μ) (h0 : ¬ hFd μ ra rb → K (some (zI 0)) μ) : Ct d m_Mo_areFeuding [zR 48 0, zI a, zI b] μ K := by
  subst ea eb
  refine zmeet rfl (Nat.le_of_ble_eq_true rfl) (fun S => ?_)
  have h20 := g.2.2.1
  have h10 := g1.2.2.1
  rcases ha with ha | ⟨p, hp, rfl⟩
  · have hk := h0 (fun q => q.1 ha)
    repeat' (first
      | refine br_t ha ?_
      | exact hk
      | (refine zs k_Mo_areFeuding rfl ?_; conv => whnf)
      | refine ⟨Nat.zero_lt_one, rfl, ?_⟩
      | refine ⟨rfl, ?_⟩
      | refine ⟨⟨Nat.zero_lt_one, rfl⟩, Nat.le_of_ble_eq_true rfl, ?_⟩
      | refine ⟨Nat.le_of_ble_eq_true rfl, Nat.le_of_ble_eq_true rfl, ?_⟩
      | refine ⟨(by first | exact Nat.zero_lt_one | assumption | omega), (by first | assumption | exact vp_in_nI (by omega) (by omega) | (unfold vp_in; decide)), ?_⟩
      | refine ⟨(by first | exact Nat.zero_lt_one | assumption | omega), rfl, ?_⟩
      | refine ⟨⟨(by first | exact Nat.zero_lt_one | assumption | omega), rfl⟩, Nat.le_of_ble_eq_true rfl, ?_⟩
      | refine ⟨(by first | exact Nat.zero_lt_one | assumption | omega), ?_⟩
      | refine ⟨Or.inl rfl, ?_⟩
      | refine ⟨Or.inr (Or.inl rfl), ?_⟩
      | refine ⟨Or.inr (Or.inr rfl), ?_⟩
      | refine ⟨Or.inr ⟨rfl, (by first | exact Or.inl rfl | exact Or.inr rfl | assumption)⟩, ?_⟩
      | refine ⟨fun h => absurd h (by decide), fun _ => ?_⟩
      | refine ⟨fun _ => ?_, fun h => absurd h (by decide)⟩
      | refine ⟨fun h => ?_, fun h => ?_⟩
      | fail)
  have np : ¬ nI p = -1 := nI_nem1 (by omega)
  rcases hb with hb | ⟨q, hq, rfl⟩
  · have hk := h0 (fun q => q.2.1 hb)
    repeat' (first
      | refine br_f np ?_
      | refine br_t hb ?_
      | exact hk
      | (refine zs k_Mo_areFeuding rfl ?_; conv => whnf)
      | refine ⟨Nat.zero_lt_one, rfl, ?_⟩
      | refine ⟨rfl, ?_⟩
      | refine ⟨⟨Nat.zero_lt_one, rfl⟩, Nat.le_of_ble_eq_true rfl, ?_⟩
      | refine ⟨Nat.le_of_ble_eq_true rfl, Nat.le_of_ble_eq_true rfl, ?_⟩
      | refine ⟨(by first | exact Nat.zero_lt_one | assumption | omega), (by first | assumption | exact vp_in_nI (by omega) (by omega) | (unfold vp_in; decide)), ?_⟩
      | refine ⟨(by first | exact Nat.zero_lt_one | assumption | omega), rfl, ?_⟩
      | refine ⟨⟨(by first | exact Nat.zero_lt_one | assumption | omega), rfl⟩, Nat.le_of_ble_eq_true rfl, ?_⟩
      | refine ⟨(by first | exact Nat.zero_lt_one | assumption | omega), ?_⟩
      | refine ⟨Or.inl rfl, ?_⟩
      | refine ⟨Or.inr (Or.inl rfl), ?_⟩
      | refine ⟨Or.inr (Or.inr rfl), ?_⟩
      | refine ⟨Or.inr ⟨rfl, (by first | exact Or.inl rfl | exact Or.inr rfl | assumption)⟩, ?_⟩
      | refine ⟨fun h => absurd h (by decide), fun _ => ?_⟩
      | refine ⟨fun _ => ?_, fun h => absurd h (by decide)⟩
      | refine ⟨fun h => ?_, fun h => ?_⟩
      | fail)
  have nq : ¬ nI q = -1 := nI_nem1 (by omega)
  obtain ⟨-, -, -, -, -, -, -, -, a9, ⟨s, hs, b1, -, -⟩, -⟩ := g.2.2.2 p hp
  obtain ⟨-, -, -, -, -, -, -, -, a9', ⟨s', hs', b1', -, -⟩, -⟩ := g.2.2.2 q hq
  have cp : (nI p).toNatClampNeg = p := nI_clamp (by omega)
  have cq : (nI q).toNatClampNeg = q := nI_clamp (by omega)
  have vp : vp_in (nI p) 20 := vp_in_nI (by omega) (by omega)
  have vq : vp_in (nI q) 20 := vp_in_nI (by omega) (by omega)
  have m1 : (10 : Int32) * μ 56 0 (nI p).toNatClampNeg + μ 56 0 (nI q).toNatClampNeg = nI (10 * s + s') := by
    rw [cp, cq, a9, a9', b1, b1', show (10 : Int32) * nI s = nI (10 * s) from pk_mul 10 s, nI_add]
  have v1 : vp_in ((10 : Int32) * μ 56 0 (nI p).toNatClampNeg + μ 56 0 (nI q).toNatClampNeg) 100 := by rw [m1]; exact vp_in_nI (by omega) (by omega)
  have e53 : μ 53 0 ((10 : Int32) * μ 56 0 (nI p).toNatClampNeg + μ 56 0 (nI q).toNatClampNeg).toNatClampNeg = μ 36 s s' := by
    rw [m1, nI_clamp (by omega)]
    exact (g7 s s' (by omega) (by omega)).2.1
  have hF : hFd μ (nI p) (nI q) ↔ μ 36 s s' = 1 := by
    unfold hFd
    rw [cp, cq, b1, b1', nI_clamp (by omega), nI_clamp (by omega)]
    exact ⟨fun w => w.2.2, fun w => ⟨np, nq, w⟩⟩
  rcases (g7 s s' (by omega) (by omega)).1 with w | w
  · have hk := h0 (fun q => absurd (hF.mp q) (by rw [w]; decide))
    repeat' (first
      | refine br_f np ?_
      | refine br_f nq ?_
      | refine br_t (e53.trans w) ?_
      | exact hk
      | (refine zs k_Mo_areFeuding rfl ?_; conv => whnf)
      | refine ⟨Nat.zero_lt_one, rfl, ?_⟩
      | refine ⟨rfl, ?_⟩
      | refine ⟨⟨Nat.zero_lt_one, rfl⟩, Nat.le_of_ble_eq_true rfl, ?_⟩
      | refine ⟨Nat.le_of_ble_eq_true rfl, Nat.le_of_ble_eq_true rfl, ?_⟩
      | refine ⟨(by first | exact Nat.zero_lt_one | assumption | omega), (by first | assumption | exact vp_in_nI (by omega) (by omega) | (unfold vp_in; decide)), ?_⟩
      | refine ⟨(by first | exact Nat.zero_lt_one | assumption | omega), rfl, ?_⟩
      | refine ⟨⟨(by first | exact Nat.zero_lt_one | assumption | omega), rfl⟩, Nat.le_of_ble_eq_true rfl, ?_⟩
      | refine ⟨(by first | exact Nat.zero_lt_one | assumption | omega), ?_⟩
      | refine ⟨Or.inl rfl, ?_⟩
      | refine ⟨Or.inr (Or.inl rfl), ?_⟩
      | refine ⟨Or.inr (Or.inr rfl), ?_⟩
      | refine ⟨Or.inr ⟨rfl, (by first | exact Or.inl rfl | exact Or.inr rfl | assumption)⟩, ?_⟩
      | refine ⟨fun h => absurd h (by decide), fun _ => ?_⟩
      | refine ⟨fun _ => ?_, fun h => absurd h (by decide)⟩
      | refine ⟨fun h => ?_, fun h => ?_⟩
      | fail)
  · have hk := h1 (hF.mpr w)
    have w' : ¬ μ 53 0 ((10 : Int32) * μ 56 0 (nI p).toNatClampNeg + μ 56 0 (nI q).toNatClampNeg).toNatClampNeg = 0 := by rw [e53, w]; decide
    repeat' (first
      | refine br_f np ?_
      | refine br_f nq ?_
      | refine br_f w' ?_
      | exact hk
      | (refine zs k_Mo_areFeuding rfl ?_; conv => whnf)
      | refine ⟨Nat.zero_lt_one, rfl, ?_⟩
      | refine ⟨rfl, ?_⟩
      | refine ⟨⟨Nat.zero_lt_one, rfl⟩, Nat.le_of_ble_eq_true rfl, ?_⟩
      | refine ⟨Nat.le_of_ble_eq_true rfl, Nat.le_of_ble_eq_true rfl, ?_⟩
      | refine ⟨(by first | exact Nat.zero_lt_one | assumption | omega), (by first | assumption | exact vp_in_nI (by omega) (by omega) | (unfold vp_in; decide)), ?_⟩
      | refine ⟨(by first | exact Nat.zero_lt_one | assumption | omega), rfl, ?_⟩
      | refine ⟨⟨(by first | exact Nat.zero_lt_one | assumption | omega), rfl⟩, Nat.le_of_ble_eq_true rfl, ?_⟩
      | refine ⟨(by first | exact Nat.zero_lt_one | assumption | omega), ?_⟩
      | refine ⟨Or.inl rfl, ?_⟩
      | refine ⟨Or.inr (Or.inl rfl), ?_⟩
      | refine ⟨Or.inr (Or.inr rfl), ?_⟩
      | refine ⟨Or.inr ⟨rfl, (by first | exact Or.inl rfl | exact Or.inr rfl | assumption)⟩, ?_⟩
      | refine ⟨fun h => absurd h (by decide), fun _ => ?_⟩
      | refine ⟨fun _ => ?_, fun h => absurd h (by decide)⟩
      | refine ⟨fun h => ?_, fun h => ?_⟩
      | fail)
def bh (z i : Nat) : Nat := if i + 1 = z then 0 else i + 1
theorem bh_lt {z i : Nat} (h : i < z) : bh z i < z := by
  unfold bh
  split <;> omega
theorem c_Mo_behind {d z i : Nat} {μ : zMu} {x y : Int32} {K : Option zV → zMu → Prop} (hz : z ≤ 12) (hi : i < z) (hx : x = nI i) (hy : y = nI z) (hK : K (some (zI (nI (bh z i)))) μ) : Ct d m_Mo_behind [zI x, zI y] μ K := by
  subst hx hy
  refine zmeet rfl (Nat.le_of_ble_eq_true rfl) (fun S => ?_)
  have e1 : nI i + 1 = nI (i + 1) := nI_1 i
  unfold bh at hK
  by_cases q : i + 1 = z
  · rw [if_pos q] at hK
    have q' : nI i + 1 = nI z := by rw [e1, q]
    repeat' (first
      | refine bn_f q' ?_
      | exact hK
      | (refine zs k_Mo_behind rfl ?_; conv => whnf)
      | refine ⟨Nat.zero_lt_one, rfl, ?_⟩
      | refine ⟨rfl, ?_⟩
      | refine ⟨⟨Nat.zero_lt_one, rfl⟩, Nat.le_of_ble_eq_true rfl, ?_⟩
      | refine ⟨Nat.le_of_ble_eq_true rfl, Nat.le_of_ble_eq_true rfl, ?_⟩
      | refine ⟨(by first | exact Nat.zero_lt_one | assumption | omega), (by first | assumption | exact vp_in_nI (by omega) (by omega) | (unfold vp_in; decide)), ?_⟩
      | refine ⟨(by first | exact Nat.zero_lt_one | assumption | omega), rfl, ?_⟩
      | refine ⟨⟨(by first | exact Nat.zero_lt_one | assumption | omega), rfl⟩, Nat.le_of_ble_eq_true rfl, ?_⟩
      | refine ⟨(by first | exact Nat.zero_lt_one | assumption | omega), ?_⟩
      | refine ⟨Or.inl rfl, ?_⟩
      | refine ⟨Or.inr (Or.inl rfl), ?_⟩
      | refine ⟨Or.inr (Or.inr rfl), ?_⟩
      | refine ⟨Or.inr ⟨rfl, (by first | exact Or.inl rfl | exact Or.inr rfl | assumption)⟩, ?_⟩
      | refine ⟨fun h => absurd h (by decide), fun _ => ?_⟩
      | refine ⟨fun _ => ?_, fun h => absurd h (by decide)⟩
      | refine ⟨fun h => ?_, fun h => ?_⟩
      | fail)
  · rw [if_neg q] at hK
    have q' : ¬ nI i + 1 = nI z := by rw [e1]; exact fun e => q ((nI_eq (by omega) (by omega)).mp e)
    repeat' (first
      | refine bn_t q' ?_
      | exact zKe hK e1 rfl
      | (refine zs k_Mo_behind rfl ?_; conv => whnf)
      | refine ⟨Nat.zero_lt_one, rfl, ?_⟩
      | refine ⟨rfl, ?_⟩
      | refine ⟨⟨Nat.zero_lt_one, rfl⟩, Nat.le_of_ble_eq_true rfl, ?_⟩
      | refine ⟨Nat.le_of_ble_eq_true rfl, Nat.le_of_ble_eq_true rfl, ?_⟩
      | refine ⟨(by first | exact Nat.zero_lt_one | assumption | omega), (by first | assumption | exact vp_in_nI (by omega) (by omega) | (unfold vp_in; decide)), ?_⟩
      | refine ⟨(by first | exact Nat.zero_lt_one | assumption | omega), rfl, ?_⟩
      | refine ⟨⟨(by first | exact Nat.zero_lt_one | assumption | omega), rfl⟩, Nat.le_of_ble_eq_true rfl, ?_⟩
      | refine ⟨(by first | exact Nat.zero_lt_one | assumption | omega), ?_⟩
      | refine ⟨Or.inl rfl, ?_⟩
      | refine ⟨Or.inr (Or.inl rfl), ?_⟩
      | refine ⟨Or.inr (Or.inr rfl), ?_⟩
      | refine ⟨Or.inr ⟨rfl, (by first | exact Or.inl rfl | exact Or.inr rfl | assumption)⟩, ?_⟩
      | refine ⟨fun h => absurd h (by decide), fun _ => ?_⟩
      | refine ⟨fun _ => ?_, fun h => absurd h (by decide)⟩
      | refine ⟨fun h => ?_, fun h => ?_⟩
      | fail)
def bBs (z : Nat) (rd : Int32) (i : Nat) : Prop := i + 1 < z ∨ (¬ rd = 0 ∧ 2 < z)
theorem c_Mo_areBeside {d z i t : Nat} {μ : zMu} {rd x y : Int32} {K : Option zV → zMu → Prop} (ht : t < 4) (hz : z ≤ 12) (hi : i < z) (hx : x = nI t) (hy : y = nI i) (h94 : μ 94 0 t = nI z) (h93 : μ 93 0 t = rd) (h1 : bBs z rd i → K (some (zI 1)) μ) (h0 : ¬ bBs z rd i → K (some (zI 0)) μ) : Ct d m_Mo_areBeside [zR 48 0, zI x, zI y] μ K := by
  subst hx hy
  refine zmeet rfl (Nat.le_of_ble_eq_true rfl) (fun S => ?_)
  have ct : (nI t).toNatClampNeg = t := nI_clamp (by omega)
  have vt : vp_in (nI t) 4 := vp_in_nI (by omega) (by omega)
  have e1 : nI i + 1 = nI (i + 1) := nI_1 i
  have e94 : μ 94 0 (nI t).toNatClampNeg = nI z := by rw [ct]; exact h94
  have e93 : μ 93 0 (nI t).toNatClampNeg = rd := by rw [ct]; exact h93
  by_cases q : i + 1 < z
  · have hk := h1 (Or.inl q)
    have q' : nI i + 1 < μ 94 0 (nI t).toNatClampNeg := by rw [e1, e94]; exact nI_lt q (by omega)
    repeat' (first
      | refine br_t q' ?_
      | exact hk
      | (refine zs k_Mo_areBeside rfl ?_; conv => whnf)
      | refine ⟨Nat.zero_lt_one, rfl, ?_⟩
      | refine ⟨rfl, ?_⟩
      | refine ⟨⟨Nat.zero_lt_one, rfl⟩, Nat.le_of_ble_eq_true rfl, ?_⟩
      | refine ⟨Nat.le_of_ble_eq_true rfl, Nat.le_of_ble_eq_true rfl, ?_⟩
      | refine ⟨(by first | exact Nat.zero_lt_one | assumption | omega), (by first | assumption | exact vp_in_nI (by omega) (by omega) | (unfold vp_in; decide)), ?_⟩
      | refine ⟨(by first | exact Nat.zero_lt_one | assumption | omega), rfl, ?_⟩
      | refine ⟨⟨(by first | exact Nat.zero_lt_one | assumption | omega), rfl⟩, Nat.le_of_ble_eq_true rfl, ?_⟩
      | refine ⟨(by first | exact Nat.zero_lt_one | assumption | omega), ?_⟩
      | refine ⟨Or.inl rfl, ?_⟩
      | refine ⟨Or.inr (Or.inl rfl), ?_⟩
      | refine ⟨Or.inr (Or.inr rfl), ?_⟩
      | refine ⟨Or.inr ⟨rfl, (by first | exact Or.inl rfl | exact Or.inr rfl | assumption)⟩, ?_⟩
      | refine ⟨fun h => absurd h (by decide), fun _ => ?_⟩
      | refine ⟨fun _ => ?_, fun h => absurd h (by decide)⟩
      | refine ⟨fun h => ?_, fun h => ?_⟩
      | fail)
  have q' : ¬ nI i + 1 < μ 94 0 (nI t).toNatClampNeg := by rw [e1, e94]; exact nI_nlt (by omega) (by omega)
  by_cases r0 : rd = 0
  · have hk := h0 (fun w => w.elim q (fun w => w.1 r0))
    repeat' (first
      | refine br_f q' ?_
      | refine br_t (e93.trans r0) ?_
      | exact hk
      | (refine zs k_Mo_areBeside rfl ?_; conv => whnf)
      | refine ⟨Nat.zero_lt_one, rfl, ?_⟩
      | refine ⟨rfl, ?_⟩
      | refine ⟨⟨Nat.zero_lt_one, rfl⟩, Nat.le_of_ble_eq_true rfl, ?_⟩
      | refine ⟨Nat.le_of_ble_eq_true rfl, Nat.le_of_ble_eq_true rfl, ?_⟩
      | refine ⟨(by first | exact Nat.zero_lt_one | assumption | omega), (by first | assumption | exact vp_in_nI (by omega) (by omega) | (unfold vp_in; decide)), ?_⟩
      | refine ⟨(by first | exact Nat.zero_lt_one | assumption | omega), rfl, ?_⟩
      | refine ⟨⟨(by first | exact Nat.zero_lt_one | assumption | omega), rfl⟩, Nat.le_of_ble_eq_true rfl, ?_⟩
      | refine ⟨(by first | exact Nat.zero_lt_one | assumption | omega), ?_⟩
      | refine ⟨Or.inl rfl, ?_⟩
      | refine ⟨Or.inr (Or.inl rfl), ?_⟩
      | refine ⟨Or.inr (Or.inr rfl), ?_⟩
      | refine ⟨Or.inr ⟨rfl, (by first | exact Or.inl rfl | exact Or.inr rfl | assumption)⟩, ?_⟩
      | refine ⟨fun h => absurd h (by decide), fun _ => ?_⟩
      | refine ⟨fun _ => ?_, fun h => absurd h (by decide)⟩
      | refine ⟨fun h => ?_, fun h => ?_⟩
      | fail)
  have r0' : ¬ μ 93 0 (nI t).toNatClampNeg = 0 := by rw [e93]; exact r0
  by_cases z2 : 2 < z
  · have hk := h1 (Or.inr ⟨r0, z2⟩)
    have z2' : ¬ μ 94 0 (nI t).toNatClampNeg ≤ 2 := by rw [e94]; exact nI_ge (a := 2) z2 (by omega)
    repeat' (first
      | refine br_f q' ?_
      | refine br_f r0' ?_
      | refine br_f z2' ?_
      | exact hk
      | (refine zs k_Mo_areBeside rfl ?_; conv => whnf)
      | refine ⟨Nat.zero_lt_one, rfl, ?_⟩
      | refine ⟨rfl, ?_⟩
      | refine ⟨⟨Nat.zero_lt_one, rfl⟩, Nat.le_of_ble_eq_true rfl, ?_⟩
      | refine ⟨Nat.le_of_ble_eq_true rfl, Nat.le_of_ble_eq_true rfl, ?_⟩
      | refine ⟨(by first | exact Nat.zero_lt_one | assumption | omega), (by first | assumption | exact vp_in_nI (by omega) (by omega) | (unfold vp_in; decide)), ?_⟩
      | refine ⟨(by first | exact Nat.zero_lt_one | assumption | omega), rfl, ?_⟩
      | refine ⟨⟨(by first | exact Nat.zero_lt_one | assumption | omega), rfl⟩, Nat.le_of_ble_eq_true rfl, ?_⟩
      | refine ⟨(by first | exact Nat.zero_lt_one | assumption | omega), ?_⟩
      | refine ⟨Or.inl rfl, ?_⟩
      | refine ⟨Or.inr (Or.inl rfl), ?_⟩
      | refine ⟨Or.inr (Or.inr rfl), ?_⟩
      | refine ⟨Or.inr ⟨rfl, (by first | exact Or.inl rfl | exact Or.inr rfl | assumption)⟩, ?_⟩
      | refine ⟨fun h => absurd h (by decide), fun _ => ?_⟩
      | refine ⟨fun _ => ?_, fun h => absurd h (by decide)⟩
      | refine ⟨fun h => ?_, fun h => ?_⟩
      | fail)
  · have hk := h0 (fun w => w.elim q (fun w => z2 w.2))
    have z2' : μ 94 0 (nI t).toNatClampNeg ≤ 2 := by rw [e94]; exact nI_le (b := 2) (by omega) (by omega)
    repeat' (first
      | refine br_f q' ?_
      | refine br_f r0' ?_
      | refine br_t z2' ?_
      | exact hk
      | (refine zs k_Mo_areBeside rfl ?_; conv => whnf)
      | refine ⟨Nat.zero_lt_one, rfl, ?_⟩
      | refine ⟨rfl, ?_⟩
      | refine ⟨⟨Nat.zero_lt_one, rfl⟩, Nat.le_of_ble_eq_true rfl, ?_⟩
      | refine ⟨Nat.le_of_ble_eq_true rfl, Nat.le_of_ble_eq_true rfl, ?_⟩
      | refine ⟨(by first | exact Nat.zero_lt_one | assumption | omega), (by first | assumption | exact vp_in_nI (by omega) (by omega) | (unfold vp_in; decide)), ?_⟩
      | refine ⟨(by first | exact Nat.zero_lt_one | assumption | omega), rfl, ?_⟩
      | refine ⟨⟨(by first | exact Nat.zero_lt_one | assumption | omega), rfl⟩, Nat.le_of_ble_eq_true rfl, ?_⟩
      | refine ⟨(by first | exact Nat.zero_lt_one | assumption | omega), ?_⟩
      | refine ⟨Or.inl rfl, ?_⟩
      | refine ⟨Or.inr (Or.inl rfl), ?_⟩
      | refine ⟨Or.inr (Or.inr rfl), ?_⟩
      | refine ⟨Or.inr ⟨rfl, (by first | exact Or.inl rfl | exact Or.inr rfl | assumption)⟩, ?_⟩
      | refine ⟨fun h => absurd h (by decide), fun _ => ?_⟩
      | refine ⟨fun _ => ?_, fun h => absurd h (by decide)⟩
      | refine ⟨fun h => ?_, fun h => ?_⟩
      | fail)
def kC (μ : zMu) (r : Nat → Int32) (rd : Int32) (z i : Nat) : Prop := ¬ (bBs z rd i ∧ hFd μ (r i) (r (bh z i))) ∧ (¬ rd = 0 ∨ i = z - 1 - i ∨ ¬ hFd μ (r i) (r (z - 1 - i)))
def mKp (μ : zMu) (r : Nat → Int32) (rd : Int32) (z : Nat) : Prop := ∀ i, i < z → kC μ r rd z i
set_option maxHeartbeats 2000000 in
theorem c_Mo_isKept {d ns n t z : Nat} {μ : zMu} {rd x : Int32} {r : Nat → Int32} {K : Option zV → zMu → Prop} (E : mT μ ns n t z rd r) (hx : x = nI t) (h1 : mKp μ r rd z → K (some (zI 1)) μ) (h0 : ¬ mKp μ r rd z → K (some (zI 0)) μ) : Ct (d + 1) m_Mo_isKept [zR 48 0, zI x] μ K := by
  subst hx
  refine zmeet rfl (Nat.le_of_ble_eq_true rfl) (fun S => ?_)
  obtain ⟨g1, g2, g7, g8, ht, h94, hz2, hz, h93, hrd, h96, hr⟩ := E
  have ct : (nI t).toNatClampNeg = t := nI_clamp (by omega)
  have vt : vp_in (nI t) 4 := vp_in_nI (by omega) (by omega)
  have e94 : μ 94 0 (nI t).toNatClampNeg = nI z := by rw [ct]; exact h94
  have e93 : μ 93 0 (nI t).toNatClampNeg = rd := by rw [ct]; exact h93
  have L : ∀ (k i : Nat) (m c v : Int32), i + k = z → m = nI z → v = nI i → (((∀ j, j < i → kC μ r rd z j) ∧ c = 1) ∨ (¬ (∀ j, j < i → kC μ r rd z j) ∧ c = 0)) → zG S (d + 1) m_Mo_isKept K 12 [some (zR 48 0), some (zI (nI t)), some (zI m), some (zI c), some (zI v)] [] μ := by
    intro k
    induction k with
    | zero =>
      intro i m c v hi hm hv hc
      subst hm hv
      obtain rfl : i = z := by omega
      have hle : nI i ≤ nI i := nI_le (Nat.le_refl _) (by omega)
      rcases hc with ⟨hc, rfl⟩ | ⟨hc, rfl⟩
      · have hk := h1 hc
        refine zs k_Mo_isKept rfl ?_; conv => whnf
        repeat' (first
          | refine br_t hle ?_
          | exact hk
          | (refine zs k_Mo_isKept rfl ?_; conv => whnf)
          | refine ⟨Nat.zero_lt_one, rfl, ?_⟩
          | refine ⟨rfl, ?_⟩
          | refine ⟨⟨Nat.zero_lt_one, rfl⟩, Nat.le_of_ble_eq_true rfl, ?_⟩
          | refine ⟨Nat.le_of_ble_eq_true rfl, Nat.le_of_ble_eq_true rfl, ?_⟩
          | refine ⟨(by first | exact Nat.zero_lt_one | assumption | omega), (by first | assumption | exact vp_in_nI (by omega) (by omega) | (unfold vp_in; decide)), ?_⟩
          | refine ⟨(by first | exact Nat.zero_lt_one | assumption | omega), rfl, ?_⟩
          | refine ⟨⟨(by first | exact Nat.zero_lt_one | assumption | omega), rfl⟩, Nat.le_of_ble_eq_true rfl, ?_⟩
          | refine ⟨(by first | exact Nat.zero_lt_one | assumption | omega), ?_⟩
          | refine ⟨Or.inl rfl, ?_⟩
          | refine ⟨Or.inr (Or.inl rfl), ?_⟩
          | refine ⟨Or.inr (Or.inr rfl), ?_⟩
          | refine ⟨Or.inr ⟨rfl, (by first | exact Or.inl rfl | exact Or.inr rfl | assumption)⟩, ?_⟩
          | refine ⟨fun h => absurd h (by decide), fun _ => ?_⟩
          | refine ⟨fun _ => ?_, fun h => absurd h (by decide)⟩
          | refine ⟨fun h => ?_, fun h => ?_⟩
          | fail)
      · have hk := h0 hc
        refine zs k_Mo_isKept rfl ?_; conv => whnf
        repeat' (first
          | refine br_t hle ?_
          | exact hk
          | (refine zs k_Mo_isKept rfl ?_; conv => whnf)
          | refine ⟨Nat.zero_lt_one, rfl, ?_⟩
          | refine ⟨rfl, ?_⟩
          | refine ⟨⟨Nat.zero_lt_one, rfl⟩, Nat.le_of_ble_eq_true rfl, ?_⟩
          | refine ⟨Nat.le_of_ble_eq_true rfl, Nat.le_of_ble_eq_true rfl, ?_⟩
          | refine ⟨(by first | exact Nat.zero_lt_one | assumption | omega), (by first | assumption | exact vp_in_nI (by omega) (by omega) | (unfold vp_in; decide)), ?_⟩
          | refine ⟨(by first | exact Nat.zero_lt_one | assumption | omega), rfl, ?_⟩
          | refine ⟨⟨(by first | exact Nat.zero_lt_one | assumption | omega), rfl⟩, Nat.le_of_ble_eq_true rfl, ?_⟩
          | refine ⟨(by first | exact Nat.zero_lt_one | assumption | omega), ?_⟩
          | refine ⟨Or.inl rfl, ?_⟩
          | refine ⟨Or.inr (Or.inl rfl), ?_⟩
          | refine ⟨Or.inr (Or.inr rfl), ?_⟩
          | refine ⟨Or.inr ⟨rfl, (by first | exact Or.inl rfl | exact Or.inr rfl | assumption)⟩, ?_⟩
          | refine ⟨fun h => absurd h (by decide), fun _ => ?_⟩
          | refine ⟨fun _ => ?_, fun h => absurd h (by decide)⟩
          | refine ⟨fun h => ?_, fun h => ?_⟩
          | fail)
    | succ k ih =>
      intro i m c v hi hm hv hc
      subst hm hv
      have hle : ¬ nI z ≤ nI i := nI_ge (by omega) (by omega)
      rcases hc with ⟨hc, rfl⟩ | ⟨hc, rfl⟩
      case inr =>
        have hc' : ¬ ∀ j, j < i + 1 → kC μ r rd z j := fun w => hc (fun j hj => w j (by omega))
        refine zs k_Mo_isKept rfl ?_; conv => whnf
        repeat' (first
          | refine br_f hle ?_
          | refine ih (i + 1) _ _ _ (by omega) rfl (by exact nI_1 i) (Or.inr ⟨hc', rfl⟩)
          | (refine zs k_Mo_isKept rfl ?_; conv => whnf)
          | refine ⟨Nat.zero_lt_one, rfl, ?_⟩
          | refine ⟨rfl, ?_⟩
          | refine ⟨⟨Nat.zero_lt_one, rfl⟩, Nat.le_of_ble_eq_true rfl, ?_⟩
          | refine ⟨Nat.le_of_ble_eq_true rfl, Nat.le_of_ble_eq_true rfl, ?_⟩
          | refine ⟨(by first | exact Nat.zero_lt_one | assumption | omega), (by first | assumption | exact vp_in_nI (by omega) (by omega) | (unfold vp_in; decide)), ?_⟩
          | refine ⟨(by first | exact Nat.zero_lt_one | assumption | omega), rfl, ?_⟩
          | refine ⟨⟨(by first | exact Nat.zero_lt_one | assumption | omega), rfl⟩, Nat.le_of_ble_eq_true rfl, ?_⟩
          | refine ⟨(by first | exact Nat.zero_lt_one | assumption | omega), ?_⟩
          | refine ⟨Or.inl rfl, ?_⟩
          | refine ⟨Or.inr (Or.inl rfl), ?_⟩
          | refine ⟨Or.inr (Or.inr rfl), ?_⟩
          | refine ⟨Or.inr ⟨rfl, (by first | exact Or.inl rfl | exact Or.inr rfl | assumption)⟩, ?_⟩
          | refine ⟨fun h => absurd h (by decide), fun _ => ?_⟩
          | refine ⟨fun _ => ?_, fun h => absurd h (by decide)⟩
          | refine ⟨fun h => ?_, fun h => ?_⟩
          | fail)
      have ci : (nI i).toNatClampNeg = i := nI_clamp (by omega)
      have hb := bh_lt (z := z) (i := i) (by omega)
      have cb : (nI (bh z i)).toNatClampNeg = bh z i := nI_clamp (by omega)
      have vb : vp_in (nI (bh z i)) 12 := vp_in_nI (by omega) (by omega)
      have ei : μ 96 0 (nI i).toNatClampNeg = r i := by rw [ci]; exact h96 i (by omega)
      have eb : μ 96 0 (nI (bh z i)).toNatClampNeg = r (bh z i) := by rw [cb]; exact h96 _ (by omega)
      have mf : nI z - 1 - nI i = nI (z - 1 - i) := by
        obtain ⟨y, rfl⟩ : ∃ y, z = y + 1 := ⟨z - 1, by omega⟩
        rw [nI_pred, Nat.add_sub_cancel]
        exact pk_sub (by omega)
      have vf : vp_in (nI z - 1 - nI i) 12 := by rw [mf]; exact vp_in_nI (by omega) (by omega)
      have ef : μ 96 0 (nI z - 1 - nI i).toNatClampNeg = r (z - 1 - i) := by rw [mf, nI_clamp (by omega)]; exact h96 _ (by omega)
      have q1 : nI i = nI z - 1 - nI i ↔ i = z - 1 - i := by rw [mf]; exact nI_eq (by omega) (by omega)
      have yes : kC μ r rd z i → zG S (d + 1) m_Mo_isKept K 117 [some (zR 48 0), some (zI (nI t)), some (zI (nI z)), some (zI 1), some (zI (nI i))] [zI 1] μ := fun hC => by
        have hc' : ∀ j, j < i + 1 → kC μ r rd z j := lt_s hc hC
        repeat' (first
          | refine ih (i + 1) _ _ _ (by omega) rfl (by exact nI_1 i) (Or.inl ⟨hc', rfl⟩)
          | (refine zs k_Mo_isKept rfl ?_; conv => whnf)
          | refine ⟨Nat.zero_lt_one, rfl, ?_⟩
          | refine ⟨rfl, ?_⟩
          | refine ⟨⟨Nat.zero_lt_one, rfl⟩, Nat.le_of_ble_eq_true rfl, ?_⟩
          | refine ⟨Nat.le_of_ble_eq_true rfl, Nat.le_of_ble_eq_true rfl, ?_⟩
          | refine ⟨(by first | exact Nat.zero_lt_one | assumption | omega), (by first | assumption | exact vp_in_nI (by omega) (by omega) | (unfold vp_in; decide)), ?_⟩
          | refine ⟨(by first | exact Nat.zero_lt_one | assumption | omega), rfl, ?_⟩
          | refine ⟨⟨(by first | exact Nat.zero_lt_one | assumption | omega), rfl⟩, Nat.le_of_ble_eq_true rfl, ?_⟩
          | refine ⟨(by first | exact Nat.zero_lt_one | assumption | omega), ?_⟩
          | refine ⟨Or.inl rfl, ?_⟩
          | refine ⟨Or.inr (Or.inl rfl), ?_⟩
          | refine ⟨Or.inr (Or.inr rfl), ?_⟩
          | refine ⟨Or.inr ⟨rfl, (by first | exact Or.inl rfl | exact Or.inr rfl | assumption)⟩, ?_⟩
          | refine ⟨fun h => absurd h (by decide), fun _ => ?_⟩
          | refine ⟨fun _ => ?_, fun h => absurd h (by decide)⟩
          | refine ⟨fun h => ?_, fun h => ?_⟩
          | fail)
      have no : ∀ c : Int32, ¬ kC μ r rd z i → zG S (d + 1) m_Mo_isKept K 117 [some (zR 48 0), some (zI (nI t)), some (zI (nI z)), some (zI c), some (zI (nI i))] [zI 0] μ := fun c hC => by
        have hc' : ¬ ∀ j, j < i + 1 → kC μ r rd z j := fun w => hC (w i (by omega))
        repeat' (first
          | refine ih (i + 1) _ _ _ (by omega) rfl (by exact nI_1 i) (Or.inr ⟨hc', rfl⟩)
          | (refine zs k_Mo_isKept rfl ?_; conv => whnf)
          | refine ⟨Nat.zero_lt_one, rfl, ?_⟩
          | refine ⟨rfl, ?_⟩
          | refine ⟨⟨Nat.zero_lt_one, rfl⟩, Nat.le_of_ble_eq_true rfl, ?_⟩
          | refine ⟨Nat.le_of_ble_eq_true rfl, Nat.le_of_ble_eq_true rfl, ?_⟩
          | refine ⟨(by first | exact Nat.zero_lt_one | assumption | omega), (by first | assumption | exact vp_in_nI (by omega) (by omega) | (unfold vp_in; decide)), ?_⟩
          | refine ⟨(by first | exact Nat.zero_lt_one | assumption | omega), rfl, ?_⟩
          | refine ⟨⟨(by first | exact Nat.zero_lt_one | assumption | omega), rfl⟩, Nat.le_of_ble_eq_true rfl, ?_⟩
          | refine ⟨(by first | exact Nat.zero_lt_one | assumption | omega), ?_⟩
          | refine ⟨Or.inl rfl, ?_⟩
          | refine ⟨Or.inr (Or.inl rfl), ?_⟩
          | refine ⟨Or.inr (Or.inr rfl), ?_⟩
          | refine ⟨Or.inr ⟨rfl, (by first | exact Or.inl rfl | exact Or.inr rfl | assumption)⟩, ?_⟩
          | refine ⟨fun h => absurd h (by decide), fun _ => ?_⟩
          | refine ⟨fun _ => ?_, fun h => absurd h (by decide)⟩
          | refine ⟨fun h => ?_, fun h => ?_⟩
          | fail)
      by_cases hB : bBs z rd i ∧ hFd μ (r i) (r (bh z i))
      · have hC : ¬ kC μ r rd z i := fun w => w.1 hB
        refine zs k_Mo_isKept rfl ?_; conv => whnf
        repeat' (first
          | refine br_f hle ?_
          | exact no _ hC
          | refine c_Mo_areBeside ht hz (i := i) (by omega) rfl rfl h94 h93 (fun _ => ?_) (fun q => absurd hB.1 q)
          | refine c_Mo_behind hz (i := i) (by omega) rfl rfl ?_
          | refine c_Mo_areFeuding g1 g2 g7 ei eb (hr i (by omega)) (hr _ (by omega)) (fun _ => ?_) (fun q => absurd hB.2 q)
          | (refine zs k_Mo_isKept rfl ?_; conv => whnf)
          | refine ⟨Nat.zero_lt_one, rfl, ?_⟩
          | refine ⟨rfl, ?_⟩
          | refine ⟨⟨Nat.zero_lt_one, rfl⟩, Nat.le_of_ble_eq_true rfl, ?_⟩
          | refine ⟨Nat.le_of_ble_eq_true rfl, Nat.le_of_ble_eq_true rfl, ?_⟩
          | refine ⟨(by first | exact Nat.zero_lt_one | assumption | omega), (by first | assumption | exact vp_in_nI (by omega) (by omega) | (unfold vp_in; decide)), ?_⟩
          | refine ⟨(by first | exact Nat.zero_lt_one | assumption | omega), rfl, ?_⟩
          | refine ⟨⟨(by first | exact Nat.zero_lt_one | assumption | omega), rfl⟩, Nat.le_of_ble_eq_true rfl, ?_⟩
          | refine ⟨(by first | exact Nat.zero_lt_one | assumption | omega), ?_⟩
          | refine ⟨Or.inl rfl, ?_⟩
          | refine ⟨Or.inr (Or.inl rfl), ?_⟩
          | refine ⟨Or.inr (Or.inr rfl), ?_⟩
          | refine ⟨Or.inr ⟨rfl, (by first | exact Or.inl rfl | exact Or.inr rfl | assumption)⟩, ?_⟩
          | refine ⟨fun h => absurd h (by decide), fun _ => ?_⟩
          | refine ⟨fun _ => ?_, fun h => absurd h (by decide)⟩
          | refine ⟨fun h => ?_, fun h => ?_⟩
          | fail)
      have second : zG S (d + 1) m_Mo_isKept K 63 [some (zR 48 0), some (zI (nI t)), some (zI (nI z)), some (zI 1), some (zI (nI i))] [] μ := by
        by_cases r0 : rd = 0
        · have r0' := e93.trans r0
          by_cases q2 : i = z - 1 - i
          · have hC : kC μ r rd z i := ⟨hB, Or.inr (Or.inl q2)⟩
            repeat' (first
              | exact yes hC
              | refine bn_f r0' ?_
              | refine br_t (q1.mpr q2) ?_
              | (refine zs k_Mo_isKept rfl ?_; conv => whnf)
              | refine ⟨Nat.zero_lt_one, rfl, ?_⟩
              | refine ⟨rfl, ?_⟩
              | refine ⟨⟨Nat.zero_lt_one, rfl⟩, Nat.le_of_ble_eq_true rfl, ?_⟩
              | refine ⟨Nat.le_of_ble_eq_true rfl, Nat.le_of_ble_eq_true rfl, ?_⟩
              | refine ⟨(by first | exact Nat.zero_lt_one | assumption | omega), (by first | assumption | exact vp_in_nI (by omega) (by omega) | (unfold vp_in; decide)), ?_⟩
              | refine ⟨(by first | exact Nat.zero_lt_one | assumption | omega), rfl, ?_⟩
              | refine ⟨⟨(by first | exact Nat.zero_lt_one | assumption | omega), rfl⟩, Nat.le_of_ble_eq_true rfl, ?_⟩
              | refine ⟨(by first | exact Nat.zero_lt_one | assumption | omega), ?_⟩
              | refine ⟨Or.inl rfl, ?_⟩
              | refine ⟨Or.inr (Or.inl rfl), ?_⟩
              | refine ⟨Or.inr (Or.inr rfl), ?_⟩
              | refine ⟨Or.inr ⟨rfl, (by first | exact Or.inl rfl | exact Or.inr rfl | assumption)⟩, ?_⟩
              | refine ⟨fun h => absurd h (by decide), fun _ => ?_⟩
              | refine ⟨fun _ => ?_, fun h => absurd h (by decide)⟩
              | refine ⟨fun h => ?_, fun h => ?_⟩
              | fail)
          · have q2' : ¬ nI i = nI z - 1 - nI i := fun w => q2 (q1.mp w)
            repeat' (first
              | refine bn_f r0' ?_
              | refine br_f q2' ?_
              | refine c_Mo_areFeuding g1 g2 g7 ei ef (hr i (by omega)) (hr _ (by omega)) (fun w => ?_) (fun w => ?_)
              | exact yes ⟨hB, Or.inr (Or.inr w)⟩
              | exact no _ (fun v => v.2.elim (fun u => u r0) (fun u => u.elim q2 (fun u => u w)))
              | (refine zs k_Mo_isKept rfl ?_; conv => whnf)
              | refine ⟨Nat.zero_lt_one, rfl, ?_⟩
              | refine ⟨rfl, ?_⟩
              | refine ⟨⟨Nat.zero_lt_one, rfl⟩, Nat.le_of_ble_eq_true rfl, ?_⟩
              | refine ⟨Nat.le_of_ble_eq_true rfl, Nat.le_of_ble_eq_true rfl, ?_⟩
              | refine ⟨(by first | exact Nat.zero_lt_one | assumption | omega), (by first | assumption | exact vp_in_nI (by omega) (by omega) | (unfold vp_in; decide)), ?_⟩
              | refine ⟨(by first | exact Nat.zero_lt_one | assumption | omega), rfl, ?_⟩
              | refine ⟨⟨(by first | exact Nat.zero_lt_one | assumption | omega), rfl⟩, Nat.le_of_ble_eq_true rfl, ?_⟩
              | refine ⟨(by first | exact Nat.zero_lt_one | assumption | omega), ?_⟩
              | refine ⟨Or.inl rfl, ?_⟩
              | refine ⟨Or.inr (Or.inl rfl), ?_⟩
              | refine ⟨Or.inr (Or.inr rfl), ?_⟩
              | refine ⟨Or.inr ⟨rfl, (by first | exact Or.inl rfl | exact Or.inr rfl | assumption)⟩, ?_⟩
              | refine ⟨fun h => absurd h (by decide), fun _ => ?_⟩
              | refine ⟨fun _ => ?_, fun h => absurd h (by decide)⟩
              | refine ⟨fun h => ?_, fun h => ?_⟩
              | fail)
        · have hC : kC μ r rd z i := ⟨hB, Or.inl r0⟩
          have r0' : ¬ μ 93 0 (nI t).toNatClampNeg = 0 := by rw [e93]; exact r0
          repeat' (first
            | exact yes hC
            | refine bn_t r0' ?_
            | (refine zs k_Mo_isKept rfl ?_; conv => whnf)
            | refine ⟨Nat.zero_lt_one, rfl, ?_⟩
            | refine ⟨rfl, ?_⟩
            | refine ⟨⟨Nat.zero_lt_one, rfl⟩, Nat.le_of_ble_eq_true rfl, ?_⟩
            | refine ⟨Nat.le_of_ble_eq_true rfl, Nat.le_of_ble_eq_true rfl, ?_⟩
            | refine ⟨(by first | exact Nat.zero_lt_one | assumption | omega), (by first | assumption | exact vp_in_nI (by omega) (by omega) | (unfold vp_in; decide)), ?_⟩
            | refine ⟨(by first | exact Nat.zero_lt_one | assumption | omega), rfl, ?_⟩
            | refine ⟨⟨(by first | exact Nat.zero_lt_one | assumption | omega), rfl⟩, Nat.le_of_ble_eq_true rfl, ?_⟩
            | refine ⟨(by first | exact Nat.zero_lt_one | assumption | omega), ?_⟩
            | refine ⟨Or.inl rfl, ?_⟩
            | refine ⟨Or.inr (Or.inl rfl), ?_⟩
            | refine ⟨Or.inr (Or.inr rfl), ?_⟩
            | refine ⟨Or.inr ⟨rfl, (by first | exact Or.inl rfl | exact Or.inr rfl | assumption)⟩, ?_⟩
            | refine ⟨fun h => absurd h (by decide), fun _ => ?_⟩
            | refine ⟨fun _ => ?_, fun h => absurd h (by decide)⟩
            | refine ⟨fun h => ?_, fun h => ?_⟩
            | fail)
      refine zs k_Mo_isKept rfl ?_; conv => whnf
      repeat' (first
        | refine br_f hle ?_
        | exact second
        | refine c_Mo_areBeside ht hz (i := i) (by omega) rfl rfl h94 h93 (fun b1 => ?_) (fun b1 => ?_)
        | refine c_Mo_behind hz (i := i) (by omega) rfl rfl ?_
        | refine c_Mo_areFeuding g1 g2 g7 ei eb (hr i (by omega)) (hr _ (by omega)) (fun q => absurd ⟨b1, q⟩ hB) (fun _ => ?_)
        | (refine zs k_Mo_isKept rfl ?_; conv => whnf)
        | refine ⟨Nat.zero_lt_one, rfl, ?_⟩
        | refine ⟨rfl, ?_⟩
        | refine ⟨⟨Nat.zero_lt_one, rfl⟩, Nat.le_of_ble_eq_true rfl, ?_⟩
        | refine ⟨Nat.le_of_ble_eq_true rfl, Nat.le_of_ble_eq_true rfl, ?_⟩
        | refine ⟨(by first | exact Nat.zero_lt_one | assumption | omega), (by first | assumption | exact vp_in_nI (by omega) (by omega) | (unfold vp_in; decide)), ?_⟩
        | refine ⟨(by first | exact Nat.zero_lt_one | assumption | omega), rfl, ?_⟩
        | refine ⟨⟨(by first | exact Nat.zero_lt_one | assumption | omega), rfl⟩, Nat.le_of_ble_eq_true rfl, ?_⟩
        | refine ⟨(by first | exact Nat.zero_lt_one | assumption | omega), ?_⟩
        | refine ⟨Or.inl rfl, ?_⟩
        | refine ⟨Or.inr (Or.inl rfl), ?_⟩
        | refine ⟨Or.inr (Or.inr rfl), ?_⟩
        | refine ⟨Or.inr ⟨rfl, (by first | exact Or.inl rfl | exact Or.inr rfl | assumption)⟩, ?_⟩
        | refine ⟨fun h => absurd h (by decide), fun _ => ?_⟩
        | refine ⟨fun _ => ?_, fun h => absurd h (by decide)⟩
        | refine ⟨fun h => ?_, fun h => ?_⟩
        | fail)
  repeat' (first
    | refine L z 0 _ _ _ (by omega) e94 rfl (Or.inl ⟨fun j hj => absurd hj (by omega), rfl⟩)
    | (refine zs k_Mo_isKept rfl ?_; conv => whnf)
    | refine ⟨Nat.zero_lt_one, rfl, ?_⟩
    | refine ⟨rfl, ?_⟩
    | refine ⟨⟨Nat.zero_lt_one, rfl⟩, Nat.le_of_ble_eq_true rfl, ?_⟩
    | refine ⟨Nat.le_of_ble_eq_true rfl, Nat.le_of_ble_eq_true rfl, ?_⟩
    | refine ⟨(by first | exact Nat.zero_lt_one | assumption | omega), (by first | assumption | exact vp_in_nI (by omega) (by omega) | (unfold vp_in; decide)), ?_⟩
    | refine ⟨(by first | exact Nat.zero_lt_one | assumption | omega), rfl, ?_⟩
    | refine ⟨⟨(by first | exact Nat.zero_lt_one | assumption | omega), rfl⟩, Nat.le_of_ble_eq_true rfl, ?_⟩
    | refine ⟨(by first | exact Nat.zero_lt_one | assumption | omega), ?_⟩
    | refine ⟨Or.inl rfl, ?_⟩
    | refine ⟨Or.inr (Or.inl rfl), ?_⟩
    | refine ⟨Or.inr (Or.inr rfl), ?_⟩
    | refine ⟨Or.inr ⟨rfl, (by first | exact Or.inl rfl | exact Or.inr rfl | assumption)⟩, ?_⟩
    | refine ⟨fun h => absurd h (by decide), fun _ => ?_⟩
    | refine ⟨fun _ => ?_, fun h => absurd h (by decide)⟩
    | refine ⟨fun h => ?_, fun h => ?_⟩
    | fail)
/-- a feud goes either way -/
theorem hFd_sy {μ : zMu} {ns n : Nat} {a b : Int32} (g1 : gSt μ ns) (g : gPe μ ns n) (g7 : gFe μ) (ha : a = -1 ∨ ∃ p, p < n ∧ a = nI p) (hb : b = -1 ∨ ∃ p, p < n ∧ b = nI p) (h : hFd μ a b) : hFd μ b a := by
  have h20 := g.2.2.1
  have h10 := g1.2.2.1
  obtain ⟨n1, n2, h3⟩ := h
  refine ⟨n2, n1, ?_⟩
  rcases ha with ha | ⟨p, hp, rfl⟩
  · exact absurd ha n1
  rcases hb with hb | ⟨q, hq, rfl⟩
  · exact absurd hb n2
  obtain ⟨-, -, -, -, -, -, -, -, -, ⟨s, hs, b1, -, -⟩, -⟩ := g.2.2.2 p hp
  obtain ⟨-, -, -, -, -, -, -, -, -, ⟨s', hs', b1', -, -⟩, -⟩ := g.2.2.2 q hq
  rw [nI_clamp (show p < 2 ^ 31 by omega), nI_clamp (show q < 2 ^ 31 by omega), b1, b1', nI_clamp (show s < 2 ^ 31 by omega), nI_clamp (show s' < 2 ^ 31 by omega)] at h3 ⊢
  rw [← h3]
  exact (g7 s s' (by omega) (by omega)).2.2
theorem kp_iff {μ : zMu} {r : Nat → Int32} {rd : Int32} {z : Nat} (hz2 : 2 ≤ z) (hz : z ≤ 12) (sy : ∀ i j, i < z → j < z → hFd μ (r i) (r j) → hFd μ (r j) (r i)) : mKp μ r rd z ↔ ∀ k, k < z → hPe μ r rd z k := by
  have at0 : ∀ i j, hFd μ (r i) (jAt r (nI j)) ↔ (if j < 2 ^ 31 then hFd μ (r i) (r j) else hFd μ (r i) (jAt r (nI j))) := fun i j => by
    split
    · rename_i hj
      unfold jAt
      rw [if_neg (nI_nem1 hj), nI_clamp hj]
    · exact Iff.rfl
  have at1 : ∀ i j, j < 12 → (hFd μ (r i) (jAt r (nI j)) ↔ hFd μ (r i) (r j)) := fun i j hj => by
    rw [at0, if_pos (by omega)]
  have atm : ∀ i, ¬ hFd μ (r i) (jAt r (-1)) := fun i w => w.2.1 rfl
  constructor
  · intro h k hk
    refine ⟨?_, ?_, ?_⟩
    · unfold jBe
      split
      · exact atm k
      · rename_i hk0
        rw [at1 _ _ (by omega)]
        intro w
        have := (h (k - 1) (by omega)).1
        refine this ⟨Or.inl (by omega), ?_⟩
        have e : bh z (k - 1) = k := by
          unfold bh
          rw [if_neg (by omega)]
          omega
        rw [e]
        exact sy _ _ hk (by omega) w
    · unfold jAr
      split
      · rename_i hk0
        have h0 := at1 k 0 (by omega)
        rw [show (0 : Int32) = nI 0 from rfl, h0]
        intro w
        refine (h k hk).1 ⟨Or.inr ⟨hk0.1, hk0.2.1⟩, ?_⟩
        have e : bh z k = 0 := by
          unfold bh
          rw [if_pos hk0.2.2]
        rw [e]
        exact w
      · exact atm k
    · unfold jFa
      split
      · rename_i hk0
        rw [at1 _ _ (by omega)]
        rcases (h k hk).2 with w | w | w
        · exact absurd hk0.1 w
        · exact absurd hk0.2 (by omega)
        · exact w
      · exact atm k
  · intro h i hi
    refine ⟨fun w => ?_, ?_⟩
    · obtain ⟨wb, w⟩ := w
      unfold bh at w
      by_cases e : i + 1 = z
      · rw [if_pos e] at w
        have hb : ¬ rd = 0 ∧ 2 < z := wb.resolve_left (by omega)
        refine (h i hi).2.1 ?_
        unfold jAr
        rw [if_pos ⟨hb.1, hb.2, e⟩, show (0 : Int32) = nI 0 from rfl, at1 _ _ (by omega)]
        exact w
      · rw [if_neg e] at w
        refine (h (i + 1) (by omega)).1 ?_
        unfold jBe
        rw [if_neg (by omega), Nat.add_sub_cancel, at1 _ _ (by omega)]
        exact sy _ _ hi (by omega) w
    · by_cases r0 : rd = 0
      · rcases Nat.lt_trichotomy (z - 1 - i) i with q | q | q
        · refine Or.inr (Or.inr ?_)
          have := (h i hi).2.2
          unfold jFa at this
          rw [if_pos ⟨r0, q⟩, at1 _ _ (by omega)] at this
          exact this
        · exact Or.inr (Or.inl q.symm)
        · refine Or.inr (Or.inr (fun w => ?_))
          have := (h (z - 1 - i) (by omega)).2.2
          unfold jFa at this
          rw [if_pos ⟨r0, by omega⟩, at1 _ _ (by omega), show z - 1 - (z - 1 - i) = i by omega] at this
          exact this (sy _ _ hi (by omega) w)
      · exact Or.inl r0
/-- the table's row is taken -/
theorem c_Mo_take {d t : Nat} {μ : zMu} {x : Int32} {K : Option zV → zMu → Prop} (ht : t < 4) (hx : x = nI t) (hK : ∀ μ', (∀ f, f ≠ 96 → μ' f = μ f) → (∀ k, k < 12 → μ' 96 0 k = μ 95 0 (12 * t + k)) → K none μ') : Ct d m_Mo_take [zR 48 0, zI x] μ K := by
  subst hx
  refine zmeet rfl (Nat.le_of_ble_eq_true rfl) (fun S => ?_)
  have L : ∀ (k i : Nat) (v : Int32) (μ1 : zMu), i + k = 12 → v = nI i → (∀ f, f ≠ 96 → μ1 f = μ f) → (∀ k, k < i → μ1 96 0 k = μ 95 0 (12 * t + k)) → zG S d m_Mo_take K 2 [some (zR 48 0), some (zI (nI t)), some (zI v)] [] μ1 := by
    intro k
    induction k with
    | zero =>
      intro i v μ1 hi hv e1 e2
      obtain rfl : i = 12 := by omega
      subst hv
      have hk := hK μ1 e1 e2
      refine zs k_Mo_take rfl ?_; conv => whnf
      repeat' (first
        | refine br_t (by decide) ?_
        | exact hk
        | (refine zs k_Mo_take rfl ?_; conv => whnf)
        | refine ⟨Nat.zero_lt_one, rfl, ?_⟩
        | refine ⟨rfl, ?_⟩
        | refine ⟨⟨Nat.zero_lt_one, rfl⟩, Nat.le_of_ble_eq_true rfl, ?_⟩
        | refine ⟨Nat.le_of_ble_eq_true rfl, Nat.le_of_ble_eq_true rfl, ?_⟩
        | refine ⟨(by first | exact Nat.zero_lt_one | assumption | omega), (by first | assumption | exact vp_in_nI (by omega) (by omega) | (unfold vp_in; decide)), ?_⟩
        | refine ⟨(by first | exact Nat.zero_lt_one | assumption | omega), rfl, ?_⟩
        | refine ⟨⟨(by first | exact Nat.zero_lt_one | assumption | omega), rfl⟩, Nat.le_of_ble_eq_true rfl, ?_⟩
        | refine ⟨(by first | exact Nat.zero_lt_one | assumption | omega), ?_⟩
        | refine ⟨Or.inl rfl, ?_⟩
        | refine ⟨Or.inr (Or.inl rfl), ?_⟩
        | refine ⟨Or.inr (Or.inr rfl), ?_⟩
        | refine ⟨Or.inr ⟨rfl, (by first | exact Or.inl rfl | exact Or.inr rfl | assumption)⟩, ?_⟩
        | refine ⟨fun h => absurd h (by decide), fun _ => ?_⟩
        | refine ⟨fun _ => ?_, fun h => absurd h (by decide)⟩
        | refine ⟨fun h => ?_, fun h => ?_⟩
        | fail)
    | succ k ih =>
      intro i v μ1 hi hv e1 e2
      subst hv
      have ci : (nI i).toNatClampNeg = i := nI_clamp (by omega)
      have m1 : (12 : Int32) * nI t + nI i = nI (12 * t + i) := by rw [show (12 : Int32) * nI t = nI (12 * t) from pk_mul 12 t, nI_add]
      have v1 : vp_in ((12 : Int32) * nI t + nI i) 48 := by rw [m1]; exact vp_in_nI (by omega) (by omega)
      have c1 : ((12 : Int32) * nI t + nI i).toNatClampNeg = 12 * t + i := by rw [m1]; exact nI_clamp (by omega)
      refine zs k_Mo_take rfl ?_; conv => whnf
      repeat' (first
        | refine br_f (nI_ge (b := 12) (by omega) (by omega)) ?_
        | refine ih (i + 1) _ _ (by omega) (by exact nI_1 i) (fun f hf => ?_) (fun j hj => ?_)
        | (refine zs k_Mo_take rfl ?_; conv => whnf)
        | refine ⟨Nat.zero_lt_one, rfl, ?_⟩
        | refine ⟨rfl, ?_⟩
        | refine ⟨⟨Nat.zero_lt_one, rfl⟩, Nat.le_of_ble_eq_true rfl, ?_⟩
        | refine ⟨Nat.le_of_ble_eq_true rfl, Nat.le_of_ble_eq_true rfl, ?_⟩
        | refine ⟨(by first | exact Nat.zero_lt_one | assumption | omega), (by first | assumption | exact vp_in_nI (by omega) (by omega) | (unfold vp_in; decide)), ?_⟩
        | refine ⟨(by first | exact Nat.zero_lt_one | assumption | omega), rfl, ?_⟩
        | refine ⟨⟨(by first | exact Nat.zero_lt_one | assumption | omega), rfl⟩, Nat.le_of_ble_eq_true rfl, ?_⟩
        | refine ⟨(by first | exact Nat.zero_lt_one | assumption | omega), ?_⟩
        | refine ⟨Or.inl rfl, ?_⟩
        | refine ⟨Or.inr (Or.inl rfl), ?_⟩
        | refine ⟨Or.inr (Or.inr rfl), ?_⟩
        | refine ⟨Or.inr ⟨rfl, (by first | exact Or.inl rfl | exact Or.inr rfl | assumption)⟩, ?_⟩
        | refine ⟨fun h => absurd h (by decide), fun _ => ?_⟩
        | refine ⟨fun _ => ?_, fun h => absurd h (by decide)⟩
        | refine ⟨fun h => ?_, fun h => ?_⟩
        | fail)
      · funext a b
        rw [zu_ne (fun z => hf z.1), e1 f hf]
      · rw [ci, c1, e1 95 (by omega)]
        by_cases e : j = i
        · rw [e, zu_eq]
        · rw [zu_ne (by omega)]
          exact e2 j (by omega)
  repeat' (first
    | refine L 12 0 _ _ (by omega) rfl (fun _ _ => rfl) (fun k hk => absurd hk (by omega))
    | (refine zs k_Mo_take rfl ?_; conv => whnf)
    | refine ⟨Nat.zero_lt_one, rfl, ?_⟩
    | refine ⟨rfl, ?_⟩
    | refine ⟨⟨Nat.zero_lt_one, rfl⟩, Nat.le_of_ble_eq_true rfl, ?_⟩
    | refine ⟨Nat.le_of_ble_eq_true rfl, Nat.le_of_ble_eq_true rfl, ?_⟩
    | refine ⟨(by first | exact Nat.zero_lt_one | assumption | omega), (by first | assumption | exact vp_in_nI (by omega) (by omega) | (unfold vp_in; decide)), ?_⟩
    | refine ⟨(by first | exact Nat.zero_lt_one | assumption | omega), rfl, ?_⟩
    | refine ⟨⟨(by first | exact Nat.zero_lt_one | assumption | omega), rfl⟩, Nat.le_of_ble_eq_true rfl, ?_⟩
    | refine ⟨(by first | exact Nat.zero_lt_one | assumption | omega), ?_⟩
    | refine ⟨Or.inl rfl, ?_⟩
    | refine ⟨Or.inr (Or.inl rfl), ?_⟩
    | refine ⟨Or.inr (Or.inr rfl), ?_⟩
    | refine ⟨Or.inr ⟨rfl, (by first | exact Or.inl rfl | exact Or.inr rfl | assumption)⟩, ?_⟩
    | refine ⟨fun h => absurd h (by decide), fun _ => ?_⟩
    | refine ⟨fun _ => ?_, fun h => absurd h (by decide)⟩
    | refine ⟨fun h => ?_, fun h => ?_⟩
    | fail)
theorem hOk_of {μ : zMu} {ns n : Nat} {a : Int32} (g1 : gSt μ ns) (g : gPe μ ns n) (ha : a = -1 ∨ ∃ p, p < n ∧ a = nI p) : hOk μ a := by
  rcases ha with ha | ⟨p, hp, rfl⟩
  · exact Or.inl ha
  · have h20 := g.2.2.1
    have h10 := g1.2.2.1
    obtain ⟨-, -, -, -, -, -, -, -, -, ⟨s, hs, b1, -, b3⟩, -⟩ := g.2.2.2 p hp
    refine Or.inr ⟨vp_in_nI (by omega) (by omega), ?_, ?_⟩
    · rw [nI_clamp (by omega), b3]
      exact (g1.2.2.2 s hs).2.2
    · rw [nI_clamp (by omega), b1]
      exact vp_in_nI (by omega) (by omega)
theorem g6_row {μ : zMu} {nt n t : Nat} (g6 : gTb μ nt n) (ht : t < nt) : ∀ k, k < 12 → μ 40 t k = -1 ∨ ∃ p, p < n ∧ μ 40 t k = nI p := fun k hk => by
  rcases (g6.2.2.2 t ht).2.2.2.2.1 k hk with q | ⟨p, hp, q, -⟩
  · exact Or.inl q
  · exact Or.inr ⟨p, hp, q⟩
theorem c_De_keeps {d ns n nt : Nat} {μ : zMu} {x : Int32} {K : Option zV → zMu → Prop} (g1 : gSt μ ns) (g2 : gPe μ ns n) (g6 : gTb μ nt n) (h0 : ¬ okI nt x → K (some (zI (-1))) μ) (h1 : ∀ t z, t < nt → x = nI t → μ 9 t 0 = nI z → z ≤ 12 → (∀ k, k < z → hPe μ (μ 40 t) (μ 9 t 2) z k) → K (some (zI 1)) μ) (h2 : ∀ t z, t < nt → x = nI t → μ 9 t 0 = nI z → z ≤ 12 → (¬ ∀ k, k < z → hPe μ (μ 40 t) (μ 9 t 2) z k) → K (some (zI 0)) μ) : Ct (d + 4) m_De_keeps [zR 0 0, zI x] μ K := by
  refine zmeet rfl (Nat.le_of_ble_eq_true rfl) (fun S => ?_)
  have h4 := g6.2.2.1
  rcases zIx x (n := nt) (by omega) with ⟨t, ht, rfl⟩ | q
  case inr =>
    have hk := h0 q
    repeat' (first
      | refine c_Ha_hasTable (fun h h' => absurd (by rw [← g6.1]; exact ⟨h, h'⟩) q) (fun _ => ?_)
      | exact hk
      | (refine zs k_De_keeps rfl ?_; conv => whnf)
      | refine ⟨Nat.zero_lt_one, rfl, ?_⟩
      | refine ⟨rfl, ?_⟩
      | refine ⟨⟨Nat.zero_lt_one, rfl⟩, Nat.le_of_ble_eq_true rfl, ?_⟩
      | refine ⟨Nat.le_of_ble_eq_true rfl, Nat.le_of_ble_eq_true rfl, ?_⟩
      | refine ⟨(by first | exact Nat.zero_lt_one | assumption | omega), (by first | assumption | exact vp_in_nI (by omega) (by omega) | (unfold vp_in; decide)), ?_⟩
      | refine ⟨(by first | exact Nat.zero_lt_one | assumption | omega), rfl, ?_⟩
      | refine ⟨⟨(by first | exact Nat.zero_lt_one | assumption | omega), rfl⟩, Nat.le_of_ble_eq_true rfl, ?_⟩
      | refine ⟨(by first | exact Nat.zero_lt_one | assumption | omega), ?_⟩
      | refine ⟨Or.inl rfl, ?_⟩
      | refine ⟨Or.inr (Or.inl rfl), ?_⟩
      | refine ⟨Or.inr (Or.inr rfl), ?_⟩
      | refine ⟨Or.inr ⟨rfl, (by first | exact Or.inl rfl | exact Or.inr rfl | assumption)⟩, ?_⟩
      | refine ⟨fun h => absurd h (by decide), fun _ => ?_⟩
      | refine ⟨fun _ => ?_, fun h => absurd h (by decide)⟩
      | refine ⟨fun h => ?_, fun h => ?_⟩
      | fail)
  have hy : 0 ≤ nI t ∧ nI t < μ 5 0 0 := by rw [g6.1]; exact zIx_y ht (by omega)
  obtain ⟨-, -, ⟨z, z1, z2, z3, z4, z5⟩, -⟩ := g6.2.2.2 t ht
  have ct : (nI t).toNatClampNeg = t := nI_clamp (by omega)
  have vt : vp_in (nI t) 4 := vp_in_nI (by omega) (by omega)
  have hlt : (nI t).toNatClampNeg < 4 := by omega
  have k1 := h1 t z ht rfl z3 z2
  have k2 := h2 t z ht rfl z3 z2
  rw [← ct] at k1 k2 z3
  have hok : ∀ j, j < z → hOk μ (μ 40 (nI t).toNatClampNeg j) := fun j hj => by
    rw [ct]
    exact hOk_of g1 g2 (g6_row g6 ht j (by omega))
  repeat' (first
    | refine c_Ha_hasTable (fun _ _ => ?_) (fun h => absurd hy h)
    | refine c_Ha_isPeaceful hlt z3 z2 hok (fun hb => ?_) (fun hb => ?_)
    | exact k1 hb
    | exact k2 hb
    | (refine zs k_De_keeps rfl ?_; conv => whnf)
    | refine ⟨Nat.zero_lt_one, rfl, ?_⟩
    | refine ⟨rfl, ?_⟩
    | refine ⟨⟨Nat.zero_lt_one, rfl⟩, Nat.le_of_ble_eq_true rfl, ?_⟩
    | refine ⟨Nat.le_of_ble_eq_true rfl, Nat.le_of_ble_eq_true rfl, ?_⟩
    | refine ⟨(by first | exact Nat.zero_lt_one | assumption | omega), (by first | assumption | exact vp_in_nI (by omega) (by omega) | (unfold vp_in; decide)), ?_⟩
    | refine ⟨(by first | exact Nat.zero_lt_one | assumption | omega), rfl, ?_⟩
    | refine ⟨⟨(by first | exact Nat.zero_lt_one | assumption | omega), rfl⟩, Nat.le_of_ble_eq_true rfl, ?_⟩
    | refine ⟨(by first | exact Nat.zero_lt_one | assumption | omega), ?_⟩
    | refine ⟨Or.inl rfl, ?_⟩
    | refine ⟨Or.inr (Or.inl rfl), ?_⟩
    | refine ⟨Or.inr (Or.inr rfl), ?_⟩
    | refine ⟨Or.inr ⟨rfl, (by first | exact Or.inl rfl | exact Or.inr rfl | assumption)⟩, ?_⟩
    | refine ⟨fun h => absurd h (by decide), fun _ => ?_⟩
    | refine ⟨fun _ => ?_, fun h => absurd h (by decide)⟩
    | refine ⟨fun h => ?_, fun h => ?_⟩
    | fail)
theorem c_Mo_keeps {d ns n nt : Nat} {μ : zMu} {x : Int32} {K : Option zV → zMu → Prop} (g1 : gSt μ ns) (g2 : gPe μ ns n) (g6 : gTb μ nt n) (g7 : gFe μ) (g8 : gCo μ) (h0 : ¬ okI nt x → K (some (zI (-1))) μ) (h1 : ∀ t z μ', t < nt → x = nI t → μ 9 t 0 = nI z → z ≤ 12 → (∀ f, f ≠ 96 → μ' f = μ f) → (∀ k, k < z → hPe μ (μ 40 t) (μ 9 t 2) z k) → K (some (zI 1)) μ') (h2 : ∀ t z μ', t < nt → x = nI t → μ 9 t 0 = nI z → z ≤ 12 → (∀ f, f ≠ 96 → μ' f = μ f) → (¬ ∀ k, k < z → hPe μ (μ 40 t) (μ 9 t 2) z k) → K (some (zI 0)) μ') : Ct (d + 2) m_Mo_keeps [zR 48 0, zI x] μ K := by
  refine zmeet rfl (Nat.le_of_ble_eq_true rfl) (fun S => ?_)
  have h4 := g6.2.2.1
  rcases zIx x (n := nt) (by omega) with ⟨t, ht, rfl⟩ | q
  case inr =>
    have hk := h0 q
    repeat' (first
      | refine c_Mo_isTable (fun h => absurd (by rw [← g6.2.1]; exact h) q) (fun _ => ?_)
      | exact hk
      | (refine zs k_Mo_keeps rfl ?_; conv => whnf)
      | refine ⟨Nat.zero_lt_one, rfl, ?_⟩
      | refine ⟨rfl, ?_⟩
      | refine ⟨⟨Nat.zero_lt_one, rfl⟩, Nat.le_of_ble_eq_true rfl, ?_⟩
      | refine ⟨Nat.le_of_ble_eq_true rfl, Nat.le_of_ble_eq_true rfl, ?_⟩
      | refine ⟨(by first | exact Nat.zero_lt_one | assumption | omega), (by first | assumption | exact vp_in_nI (by omega) (by omega) | (unfold vp_in; decide)), ?_⟩
      | refine ⟨(by first | exact Nat.zero_lt_one | assumption | omega), rfl, ?_⟩
      | refine ⟨⟨(by first | exact Nat.zero_lt_one | assumption | omega), rfl⟩, Nat.le_of_ble_eq_true rfl, ?_⟩
      | refine ⟨(by first | exact Nat.zero_lt_one | assumption | omega), ?_⟩
      | refine ⟨Or.inl rfl, ?_⟩
      | refine ⟨Or.inr (Or.inl rfl), ?_⟩
      | refine ⟨Or.inr (Or.inr rfl), ?_⟩
      | refine ⟨Or.inr ⟨rfl, (by first | exact Or.inl rfl | exact Or.inr rfl | assumption)⟩, ?_⟩
      | refine ⟨fun h => absurd h (by decide), fun _ => ?_⟩
      | refine ⟨fun _ => ?_, fun h => absurd h (by decide)⟩
      | refine ⟨fun h => ?_, fun h => ?_⟩
      | fail)
  have hy : 0 ≤ nI t ∧ nI t < μ 48 0 42 := by rw [g6.2.1]; exact zIx_y ht (by omega)
  obtain ⟨a1, a2, ⟨z, z1, z2, z3, z4, z5⟩, a4, -⟩ := g6.2.2.2 t ht
  have hrow := g6_row g6 ht
  have T : ∀ μ' : zMu, (∀ f, f ≠ 96 → μ' f = μ f) → (∀ k, k < 12 → μ' 96 0 k = μ 95 0 (12 * t + k)) → mT μ' ns n t z (μ 9 t 2) (μ 40 t) ∧ (mKp μ' (μ 40 t) (μ 9 t 2) z ↔ ∀ k, k < z → hPe μ (μ 40 t) (μ 9 t 2) z k) := fun μ' e1 e2 => by
    have g1' := gSt_fr (μ' := μ') (fun f hf => e1 f (by rintro rfl; simp at hf)) (by rw [e1 48 (by omega)]) g1
    have g2' := gPe_fr (μ' := μ') (fun f hf => e1 f (by rintro rfl; simp at hf)) (by rw [e1 48 (by omega)]) g2
    have g7' := gFe_fr (μ' := μ') (fun f hf => e1 f (by rintro rfl; simp at hf)) g7
    have g8' := gCo_fr (μ' := μ') (fun f hf => e1 f (by rintro rfl; simp at hf)) g8
    refine ⟨⟨g1', g2', g7', g8', by omega, by rw [e1 94 (by omega)]; exact z4, z1, z2, by rw [e1 93 (by omega)]; exact a2, a1, fun k hk => by rw [e2 k hk]; exact a4 k hk, hrow⟩, ?_⟩
    have hp : ∀ k, hPe μ' (μ 40 t) (μ 9 t 2) z k ↔ hPe μ (μ 40 t) (μ 9 t 2) z k := fun k => by
      unfold hPe hFd
      rw [e1 36 (by omega), e1 17 (by omega)]
    rw [kp_iff z1 z2 (fun i j hi hj => hFd_sy g1' g2' g7' (hrow i (by omega)) (hrow j (by omega)))]
    exact ⟨fun w k hk => (hp k).mp (w k hk), fun w k hk => (hp k).mpr (w k hk)⟩
  have V : ∀ μ' : zMu, (∀ f, f ≠ 96 → μ' f = μ f) → (∀ k, k < 12 → μ' 96 0 k = μ 95 0 (12 * t + k)) → zG S (d + 2) m_Mo_keeps K 15 [some (zR 48 0), some (zI (nI t))] [] μ' := fun μ' e1 e2 => by
    obtain ⟨t1, t2⟩ := T μ' e1 e2
    repeat' (first
      | refine c_Mo_isKept t1 rfl (fun w => ?_) (fun w => ?_)
      | exact h1 t z μ' ht rfl z3 z2 e1 (t2.mp w)
      | exact h2 t z μ' ht rfl z3 z2 e1 (fun v => w (t2.mpr v))
      | (refine zs k_Mo_keeps rfl ?_; conv => whnf)
      | refine ⟨Nat.zero_lt_one, rfl, ?_⟩
      | refine ⟨rfl, ?_⟩
      | refine ⟨⟨Nat.zero_lt_one, rfl⟩, Nat.le_of_ble_eq_true rfl, ?_⟩
      | refine ⟨Nat.le_of_ble_eq_true rfl, Nat.le_of_ble_eq_true rfl, ?_⟩
      | refine ⟨(by first | exact Nat.zero_lt_one | assumption | omega), (by first | assumption | exact vp_in_nI (by omega) (by omega) | (unfold vp_in; decide)), ?_⟩
      | refine ⟨(by first | exact Nat.zero_lt_one | assumption | omega), rfl, ?_⟩
      | refine ⟨⟨(by first | exact Nat.zero_lt_one | assumption | omega), rfl⟩, Nat.le_of_ble_eq_true rfl, ?_⟩
      | refine ⟨(by first | exact Nat.zero_lt_one | assumption | omega), ?_⟩
      | refine ⟨Or.inl rfl, ?_⟩
      | refine ⟨Or.inr (Or.inl rfl), ?_⟩
      | refine ⟨Or.inr (Or.inr rfl), ?_⟩
      | refine ⟨Or.inr ⟨rfl, (by first | exact Or.inl rfl | exact Or.inr rfl | assumption)⟩, ?_⟩
      | refine ⟨fun h => absurd h (by decide), fun _ => ?_⟩
      | refine ⟨fun _ => ?_, fun h => absurd h (by decide)⟩
      | refine ⟨fun h => ?_, fun h => ?_⟩
      | fail)
  repeat' (first
    | refine c_Mo_isTable (fun _ => ?_) (fun h => absurd hy h)
    | refine c_Mo_take (t := t) (by omega) rfl (fun μ' e1 e2 => ?_)
    | exact V μ' e1 e2
    | (refine zs k_Mo_keeps rfl ?_; conv => whnf)
    | refine ⟨Nat.zero_lt_one, rfl, ?_⟩
    | refine ⟨rfl, ?_⟩
    | refine ⟨⟨Nat.zero_lt_one, rfl⟩, Nat.le_of_ble_eq_true rfl, ?_⟩
    | refine ⟨Nat.le_of_ble_eq_true rfl, Nat.le_of_ble_eq_true rfl, ?_⟩
    | refine ⟨(by first | exact Nat.zero_lt_one | assumption | omega), (by first | assumption | exact vp_in_nI (by omega) (by omega) | (unfold vp_in; decide)), ?_⟩
    | refine ⟨(by first | exact Nat.zero_lt_one | assumption | omega), rfl, ?_⟩
    | refine ⟨⟨(by first | exact Nat.zero_lt_one | assumption | omega), rfl⟩, Nat.le_of_ble_eq_true rfl, ?_⟩
    | refine ⟨(by first | exact Nat.zero_lt_one | assumption | omega), ?_⟩
    | refine ⟨Or.inl rfl, ?_⟩
    | refine ⟨Or.inr (Or.inl rfl), ?_⟩
    | refine ⟨Or.inr (Or.inr rfl), ?_⟩
    | refine ⟨Or.inr ⟨rfl, (by first | exact Or.inl rfl | exact Or.inr rfl | assumption)⟩, ?_⟩
    | refine ⟨fun h => absurd h (by decide), fun _ => ?_⟩
    | refine ⟨fun _ => ?_, fun h => absurd h (by decide)⟩
    | refine ⟨fun h => ?_, fun h => ?_⟩
    | fail)
theorem zScr_96 {μ μ' : zMu} (h : ∀ f, f ≠ 96 → μ' f = μ f) : zScr μ μ' := by
  refine ⟨fun f hf => h f (fun q => hf (by rw [q]; decide)), by rw [h 2 (by omega)], fun k _ => by rw [h 48 (by omega)]⟩
theorem b_keeps {μ : zMu} {x : Int32} (h : Rel μ) : Both m_De_keeps m_Mo_keeps [zI x] μ := by
  intro d K hK
  obtain ⟨ns, n, nr, nh, nt, nb, L, g1, g2, g3, g4, g5, g6, g7, g8, g9, g10, g11⟩ := id h
  have h4 := g6.2.2.1
  refine c_De_keeps g1 g2 g6 (fun a => hK _ _ (fun d K2 hK2 => ?_)) (fun t z ht ex e9 hz a => hK _ _ (fun d K2 hK2 => ?_)) (fun t z ht ex e9 hz a => hK _ _ (fun d K2 hK2 => ?_))
  · exact c_Mo_keeps g1 g2 g6 g7 g8 (fun _ => hK2 _ h) (fun t z μ' ht ex => absurd (by rw [ex]; exact okI_i ht (by omega)) a) (fun t z μ' ht ex => absurd (by rw [ex]; exact okI_i ht (by omega)) a)
  · subst ex
    refine c_Mo_keeps g1 g2 g6 g7 g8 (fun b => absurd (okI_i ht (by omega)) b) (fun t' z' μ' ht' ex e9' hz' e1 b => hK2 _ (Rel_scr (zScr_96 e1) h)) (fun t' z' μ' ht' ex e9' hz' e1 b => ?_)
    obtain rfl := (nI_eq (by omega) (by omega)).mp ex
    obtain rfl := (nI_eq (by omega) (by omega)).mp (e9.symm.trans e9')
    exact absurd a b
  · subst ex
    refine c_Mo_keeps g1 g2 g6 g7 g8 (fun b => absurd (okI_i ht (by omega)) b) (fun t' z' μ' ht' ex e9' hz' e1 b => ?_) (fun t' z' μ' ht' ex e9' hz' e1 b => hK2 _ (Rel_scr (zScr_96 e1) h))
    obtain rfl := (nI_eq (by omega) (by omega)).mp ex
    obtain rfl := (nI_eq (by omega) (by omega)).mp (e9.symm.trans e9')
    exact absurd b a
/-! PRICE: what both sides add up -/
def nS (f : Nat → Nat) : Nat → Nat
  | 0 => 0
  | n + 1 => nS f n + f n
theorem nS_cg {f g : Nat → Nat} : ∀ {n : Nat}, (∀ k, k < n → f k = g k) → nS f n = nS g n
  | 0, _ => rfl
  | n + 1, h => by
    rw [nS, nS, nS_cg (fun k hk => h k (by omega)), h n (by omega)]
theorem nS_add {f g : Nat → Nat} : ∀ {n : Nat}, nS (fun k => f k + g k) n = nS f n + nS g n
  | 0 => rfl
  | n + 1 => by
    rw [nS, nS, nS, nS_add]
    omega
theorem nS_sh {f : Nat → Nat} : ∀ {n : Nat}, nS f (n + 1) = f 0 + nS (fun k => f (k + 1)) n
  | 0 => by
    show 0 + f 0 = f 0 + 0
    omega
  | n + 1 => by
    rw [nS, nS_sh]
    show _ = f 0 + (nS (fun k => f (k + 1)) n + f (n + 1))
    omega
theorem nS_0 {f : Nat → Nat} : ∀ {n : Nat}, (∀ k, k < n → f k = 0) → nS f n = 0
  | 0, _ => rfl
  | n + 1, h => by
    rw [nS, nS_0 (fun k hk => h k (by omega)), h n (by omega)]
theorem pSum_nI {F : Nat → Int32} {f : Nat → Nat} : ∀ {n : Nat}, (∀ k, k < n → F k = nI (f k)) → pSum F n = nI (nS f n)
  | 0, _ => rfl
  | n + 1, h => by
    rw [pSum, pSum_nI (fun k hk => h k (by omega)), h n (by omega), nI_add]
    rfl
def nD (a b : Nat) : Nat := if b < a then a - b else b - a
theorem nD_abs {a b : Nat} (ha : a < 2 ^ 30) (hb : b < 2 ^ 30) : pAbs (nI a - nI b) = nI (nD a b) := by
  rcases Nat.lt_or_ge b a with h | h
  · have e : nD a b = a - b := if_pos h
    rw [e, pk_sub (by omega)]
    exact if_pos (nI_pos' (by omega))
  · have e : nD a b = b - a := if_neg (by omega)
    rw [e]
    rcases Nat.lt_or_ge a b with h2 | h2
    · have hs := pk_sneg (a := a) (b := b) hb h2
      have e2 : pAbs (nI a - nI b) = -(nI a - nI b) := if_neg (by grind)
      rw [e2, ← pk_sub h]
      grind
    · obtain rfl : a = b := by omega
      rw [pk_sub (Nat.le_refl a), Nat.sub_self]
      rfl
-- ---- talk
def tN (μ : zMu) (p q : Int32) : Nat := (hTk μ p q).toNatClampNeg
abbrev pOk (n : Nat) (a : Int32) : Prop := a = -1 ∨ ∃ p, p < n ∧ a = nI p
theorem tN_eq {μ : zMu} {ns n : Nat} {a b : Int32} (g1 : gSt μ ns) (g : gPe μ ns n) (g8 : gCo μ) (ha : pOk n a) (hb : pOk n b) : hTk μ a b = nI (tN μ a b) ∧ tN μ a b ≤ 9 ∧ tN μ b a = tN μ a b := by
  have h20 := g.2.2.1
  have h10 := g1.2.2.1
  by_cases q : a = -1 ∨ b = -1
  · have e : hTk μ a b = 0 := if_pos q
    have e' : hTk μ b a = 0 := if_pos q.symm
    unfold tN
    rw [e, e']
    exact ⟨rfl, by decide, rfl⟩
  · rcases ha with ha | ⟨p, hp, rfl⟩
    · exact absurd (Or.inl ha) q
    rcases hb with hb | ⟨p', hp', rfl⟩
    · exact absurd (Or.inr hb) q
    obtain ⟨-, -, -, -, -, -, -, -, -, ⟨s, hs, -, -, b3⟩, -⟩ := g.2.2.2 p hp
    obtain ⟨-, -, -, -, -, -, -, -, -, ⟨s', hs', -, -, b3'⟩, -⟩ := g.2.2.2 p' hp'
    obtain ⟨u, hu, eu⟩ := vp_in_of (g1.2.2.2 s hs).2.2 (by omega)
    obtain ⟨u', hu', eu'⟩ := vp_in_of (g1.2.2.2 s' hs').2.2 (by omega)
    have e : hTk μ (nI p) (nI p') = μ 38 u u' := by
      unfold hTk
      rw [if_neg q, nI_clamp (show p < 2 ^ 31 by omega), nI_clamp (show p' < 2 ^ 31 by omega), b3, b3', eu, eu', nI_clamp (show u < 2 ^ 31 by omega), nI_clamp (show u' < 2 ^ 31 by omega)]
    have e' : hTk μ (nI p') (nI p) = μ 38 u' u := by
      unfold hTk
      rw [if_neg (fun w => q w.symm), nI_clamp (show p < 2 ^ 31 by omega), nI_clamp (show p' < 2 ^ 31 by omega), b3, b3', eu, eu', nI_clamp (show u < 2 ^ 31 by omega), nI_clamp (show u' < 2 ^ 31 by omega)]
    obtain ⟨⟨c, hc, ec⟩, -, sy⟩ := g8 u u' hu hu'
    unfold tN
    rw [e, e', sy, ec, nI_clamp (by omega)]
    exact ⟨rfl, hc, rfl⟩
theorem tN_m {μ : zMu} {b : Int32} : tN μ (-1) b = 0 ∧ tN μ b (-1) = 0 := by
  have e : hTk μ (-1) b = 0 := if_pos (Or.inl rfl)
  have e' : hTk μ b (-1) = 0 := if_pos (Or.inr rfl)
  unfold tN
  rw [e, e']
  exact ⟨rfl, rfl⟩
def mTk (μ : zMu) (r : Nat → Int32) (rd : Int32) (z i : Nat) : Nat := if i + 1 < z ∨ (¬ rd = 0 ∧ 2 < z) then tN μ (r i) (r (bh z i)) else 0
-- ---- places
def mP (r : Nat → Int32) (v : Int32) (q : Nat × Nat) : Nat → Nat × Nat
  | 0 => q
  | i + 1 => if r i = v then ((mP r v q i).1 + nD (mP r v q i).2 i, (mP r v q i).2 + 1) else mP r v q i
def mO (r : Nat → Int32) (o : Nat → Nat) (z : Nat) : Nat → Nat × Nat
  | 0 => (0, 0)
  | k + 1 => mP r (nI (o k)) (mO r o z k) z
theorem mP_le {r : Nat → Int32} {v : Int32} {q : Nat × Nat} : ∀ i, (mP r v q i).2 ≤ q.2 + i
  | 0 => Nat.le_refl _
  | i + 1 => by
    have := mP_le (r := r) (v := v) (q := q) i
    rw [mP]
    split
    · show (mP r v q i).2 + 1 ≤ _
      omega
    · omega
theorem mO_le {r : Nat → Int32} {o : Nat → Nat} {z : Nat} : ∀ k, (mO r o z k).2 ≤ k * z
  | 0 => Nat.zero_le _
  | k + 1 => by
    have h1 := mO_le (r := r) (o := o) (z := z) k
    have h2 := mP_le (r := r) (v := nI (o k)) (q := mO r o z k) z
    rw [mO, Nat.succ_mul]
    omega
theorem mP_eq {r : Nat → Int32} {v : Int32} {s c : Nat} (hd : ∀ j k, j < k → k < 12 → r j = r k → r j = -1) (hv : ¬ v = -1) : ∀ i, i ≤ 12 → mP r v (s, c) i = (s + nS (fun j => if r j = v then nD c j else 0) i, c + pCt (fun j => decide (r j = v)) i)
  | 0, _ => rfl
  | i + 1, hi => by
    have ih := mP_eq (s := s) (c := c) hd hv i (by omega)
    rw [mP, ih, nS, pCt]
    by_cases e : r i = v
    · have h0 : pCt (fun j => decide (r j = v)) i = 0 := by
        have : ∀ k, k ≤ i → pCt (fun j => decide (r j = v)) k = 0 := fun k => by
          induction k with
          | zero => exact fun _ => rfl
          | succ k ihk =>
            intro hk
            rw [pCt, ihk (by omega), decide_eq_false (fun w => hv ?_)]
            · rfl
            · rw [← w]
              exact hd k i (by omega) (by omega) (w.trans e.symm)
        exact this i (Nat.le_refl i)
      rw [if_pos e, if_pos e, h0, decide_eq_true e, if_pos rfl]
      show (s + nS (fun j => if r j = v then nD c j else 0) i + nD (c + 0) i, c + 0 + 1) = _
      rw [Nat.add_zero, Nat.add_assoc, Nat.zero_add]
    · rw [if_neg e, if_neg e, decide_eq_false e]
      rfl
theorem pCt_0 {P : Nat → Bool} : ∀ {z : Nat}, (∀ j, j < z → P j = false) → pCt P z = 0
  | 0, _ => rfl
  | z + 1, h => by
    rw [pCt, pCt_0 (fun j hj => h j (by omega)), h z (by omega)]
    rfl
theorem pCt_1 {P : Nat → Bool} {j0 : Nat} (h0 : P j0 = true) : ∀ {z : Nat}, j0 < z → (∀ j, j < z → j ≠ j0 → P j = false) → pCt P z = 1
  | 0, hz, _ => absurd hz (by omega)
  | z + 1, hz, h => by
    rw [pCt]
    by_cases e : z = j0
    · rw [e, h0, pCt_0 (fun j hj => h j (by omega) (by omega))]
      rfl
    · rw [h z (by omega) e, pCt_1 h0 (by omega) (fun j hj hne => h j (by omega) hne)]
      rfl
def inO (o : Nat → Nat) (v : Int32) : Nat → Bool
  | 0 => false
  | k + 1 => inO o v k || decide (v = nI (o k))
theorem inO_y {o : Nat → Nat} {v : Int32} {i : Nat} (h : v = nI (o i)) : ∀ {k : Nat}, i < k → inO o v k = true
  | 0, hk => absurd hk (by omega)
  | k + 1, hk => by
    rw [inO]
    by_cases e : i = k
    · rw [← e, decide_eq_true h, Bool.or_true]
    · rw [inO_y h (by omega), Bool.true_or]
theorem inO_n {o : Nat → Nat} {v : Int32} : ∀ {k : Nat}, (∀ i, i < k → ¬ v = nI (o i)) → inO o v k = false
  | 0, _ => rfl
  | k + 1, h => by
    rw [inO, inO_n (fun i hi => h i (by omega)), decide_eq_false (h k (by omega))]
    rfl
theorem mO_eq {μ : zMu} {r : Nat → Int32} {o : Nat → Nat} {z m : Nat} {sits : Nat → Bool} (hz : z ≤ 12) (hd : ∀ j k, j < k → k < 12 → r j = r k → r j = -1) (hsit : ∀ p, p < 20 → (sits p = true ↔ ∃ k, k < z ∧ r k = nI p)) (ho : ∀ i, i < m → o i < 20) (hm : m ≤ 20) (hinj : ∀ i j, i < j → j < m → o i ≠ o j) (hall : ∀ k, k < z → ¬ r k = -1 → ∃ i, i < m ∧ r k = nI (o i)) (h39 : ∀ i, i < m → sits (o i) = true → μ 39 0 (o i) = nI (pCt (fun i => sits (o i)) i)) : (mO r o z m).1 = nS (fun i => if r i = -1 then 0 else nD (μ 39 0 (r i).toNatClampNeg).toNatClampNeg i) z := by
  have hpl : ∀ k, pCt (fun i => sits (o i)) k ≤ k := fun k => pCt_le _ k
  have H : ∀ k, k ≤ m → mO r o z k = (nS (fun i => if r i = -1 then 0 else if inO o (r i) k then nD (μ 39 0 (r i).toNatClampNeg).toNatClampNeg i else 0) z, pCt (fun i => sits (o i)) k) := fun k => by
    induction k with
    | zero =>
      intro _
      rw [nS_0 (fun k _ => by split <;> rfl)]
      rfl
    | succ k ih =>
      intro hk
      have hok := ho k (by omega)
      have hne : ¬ nI (o k) = -1 := nI_nem1 (by omega)
      rw [mO, ih (by omega), mP_eq hd hne z hz, ← nS_add]
      refine Prod.ext ?_ ?_
      · refine nS_cg (fun i hi => ?_)
        show (if r i = -1 then 0 else if inO o (r i) k = true then nD (μ 39 0 (r i).toNatClampNeg).toNatClampNeg i else 0) + (if r i = nI (o k) then nD (pCt (fun i => sits (o i)) k) i else 0) = (if r i = -1 then 0 else if inO o (r i) (k + 1) = true then nD (μ 39 0 (r i).toNatClampNeg).toNatClampNeg i else 0)
        by_cases e1 : r i = -1
        · rw [if_pos e1, if_pos e1, if_neg (by rw [e1]; exact fun w => hne w.symm)]
        · rw [if_neg e1, if_neg e1]
          by_cases e2 : r i = nI (o k)
          · have hs : sits (o k) = true := (hsit (o k) hok).mpr ⟨i, hi, e2⟩
            have hn : inO o (r i) k = false := inO_n (fun i' hi' w => hinj i' k hi' (by omega) ((nI_eq (by have := ho i' (by omega); omega) (by omega)).mp (w.symm.trans e2)))
            have hp := hpl k
            rw [hn, inO_y e2 (Nat.lt_succ_self k), if_pos e2, if_neg (by decide), if_pos rfl, e2, nI_clamp (by omega), h39 k (by omega) hs, nI_clamp (by omega), Nat.zero_add]
          · rw [if_neg e2, inO, decide_eq_false e2, Bool.or_false, Nat.add_zero]
      · show pCt (fun i => sits (o i)) k + pCt (fun j => decide (r j = nI (o k))) z = pCt (fun i => sits (o i)) (k + 1)
        rw [show pCt (fun i => sits (o i)) (k + 1) = pCt (fun i => sits (o i)) k + (if sits (o k) then 1 else 0) from rfl]
        congr 1
        cases hs : sits (o k) with
        | true =>
          obtain ⟨j, hj, ej⟩ := (hsit (o k) hok).mp hs
          rw [pCt_1 (P := fun j => decide (r j = nI (o k))) (j0 := j) (decide_eq_true ej) hj (fun j' hj' hjj => decide_eq_false (fun w => ?_))]
          · rfl
          · rcases Nat.lt_or_gt_of_ne hjj with q | q
            · exact hne (w.symm.trans (hd j' j q (by omega) (w.trans ej.symm)))
            · exact hne (ej.symm.trans (hd j j' q (by omega) (ej.trans w.symm)))
        | false =>
          rw [pCt_0 (P := fun j => decide (r j = nI (o k))) (fun j hj => decide_eq_false (fun w => ?_))]
          · rfl
          · rw [(hsit (o k) hok).mpr ⟨j, hj, w⟩] at hs
            cases hs
  rw [H m (Nat.le_refl m)]
  refine nS_cg (fun i hi => ?_)
  by_cases e1 : r i = -1
  · rw [if_pos e1, if_pos e1]
  · obtain ⟨k, hk, ek⟩ := hall i hi e1
    rw [if_neg e1, if_neg e1, inO_y ek hk, if_pos rfl]
theorem tk_eq {μ : zMu} {ns n z : Nat} {rd : Int32} {r : Nat → Int32} (g1 : gSt μ ns) (g : gPe μ ns n) (g8 : gCo μ) (hz2 : 2 ≤ z) (hz : z ≤ 12) (hr : ∀ k, k < 12 → pOk n (r k)) : nS (fun k => tN μ (r k) (jAt r (jBe k))) z + nS (fun k => tN μ (r k) (jAt r (jAr rd z k))) z = nS (mTk μ r rd z) z := by
  obtain ⟨y, rfl⟩ : ∃ y, z = y + 1 := ⟨z - 1, by omega⟩
  have at1 : ∀ j, j < 12 → jAt r (nI j) = r j := fun j hj => by
    unfold jAt
    rw [if_neg (nI_nem1 (by omega)), nI_clamp (by omega)]
  have atm : jAt r (-1) = -1 := if_pos rfl
  rw [nS_sh]
  have e0 : tN μ (r 0) (jAt r (jBe 0)) = 0 := by
    rw [show jBe 0 = -1 from rfl, atm]
    exact tN_m.2
  have e1 : nS (fun k => tN μ (r (k + 1)) (jAt r (jBe (k + 1)))) y = nS (mTk μ r rd (y + 1)) y := nS_cg (fun k hk => by
    unfold mTk jBe bh
    rw [if_neg (by omega), if_pos (Or.inl (by omega)), if_neg (by omega), Nat.add_sub_cancel, at1 k (by omega)]
    exact (tN_eq g1 g g8 (hr k (by omega)) (hr (k + 1) (by omega))).2.2)
  have e2 : nS (fun k => tN μ (r k) (jAt r (jAr rd (y + 1) k))) y = 0 := nS_0 (fun k hk => by
    unfold jAr
    rw [if_neg (by omega), atm]
    exact tN_m.2)
  have e3 : tN μ (r y) (jAt r (jAr rd (y + 1) y)) = mTk μ r rd (y + 1) y := by
    unfold jAr mTk bh
    rw [if_pos rfl]
    by_cases q : ¬ rd = 0 ∧ 2 < y + 1
    · rw [if_pos ⟨q.1, q.2, rfl⟩, if_pos (Or.inr q), show (0 : Int32) = nI 0 from rfl, at1 0 (by omega)]
    · rw [if_neg (fun w => q ⟨w.1, w.2.1⟩), if_neg (fun w => w.elim (by omega) q), atm]
      exact tN_m.2
  rw [e0, e1, Nat.zero_add]
  show nS (mTk μ r rd (y + 1)) y + (nS (fun k => tN μ (r k) (jAt r (jAr rd (y + 1) k))) y + tN μ (r y) (jAt r (jAr rd (y + 1) y))) = nS (mTk μ r rd (y + 1)) y + mTk μ r rd (y + 1) y
  rw [e2, e3, Nat.zero_add]
theorem hPr_eq {μ : zMu} {ns n z k : Nat} {rd : Int32} {r : Nat → Int32} (g1 : gSt μ ns) (g : gPe μ ns n) (g8 : gCo μ) (hz : z ≤ 12) (hk : k < z) (hr : ∀ k, k < 12 → pOk n (r k)) (h39 : ¬ r k = -1 → ∃ c, c ≤ 20 ∧ μ 39 0 (r k).toNatClampNeg = nI c) : hPr μ r rd z k = nI ((if r k = -1 then 0 else nD (μ 39 0 (r k).toNatClampNeg).toNatClampNeg k) + (tN μ (r k) (jAt r (jBe k)) + tN μ (r k) (jAt r (jAr rd z k)))) ∧ (if r k = -1 then 0 else nD (μ 39 0 (r k).toNatClampNeg).toNatClampNeg k) + (tN μ (r k) (jAt r (jBe k)) + tN μ (r k) (jAt r (jAr rd z k))) ≤ 100 := by
  have hj : ∀ x : Int32, (x = -1 ∨ ∃ j, j ≤ k ∧ j < 20 ∧ x = nI j) → pOk n (jAt r x) := fun x hx => by
    unfold jAt
    rcases hx with h | ⟨j, hj, h20, rfl⟩
    · rw [if_pos h]
      exact Or.inl rfl
    · rw [if_neg (nI_nem1 (by omega)), nI_clamp (by omega)]
      exact hr j (by omega)
  obtain ⟨t1, t2, -⟩ := tN_eq g1 g g8 (hr k (by omega)) (hj _ (jBe_ok (k := k) (by omega)))
  obtain ⟨t3, t4, -⟩ := tN_eq g1 g g8 (hr k (by omega)) (hj _ (jAr_ok (rd := rd) (n := z) (k := k)))
  unfold hPr
  by_cases e : r k = -1
  · rw [if_pos e, if_pos e, e, tN_m.1, tN_m.1]
    exact ⟨rfl, by omega⟩
  · obtain ⟨c, hc, ec⟩ := h39 e
    rw [if_neg e, if_neg e, t1, t3, ec, nI_clamp (by omega), nD_abs (by omega) (by omega), nI_add, nI_add, Nat.add_assoc]
    refine ⟨rfl, ?_⟩
    have : nD c k ≤ 20 := by
      unfold nD
      split <;> omega
    omega
theorem price_all {μ : zMu} {ns n z m : Nat} {rd : Int32} {r : Nat → Int32} {o : Nat → Nat} {sits : Nat → Bool} (g1 : gSt μ ns) (g : gPe μ ns n) (g8 : gCo μ) (hz2 : 2 ≤ z) (hz : z ≤ 12) (hr : ∀ k, k < 12 → pOk n (r k)) (hd : ∀ j k, j < k → k < 12 → r j = r k → r j = -1) (hsit : ∀ p, p < 20 → (sits p = true ↔ ∃ k, k < z ∧ r k = nI p)) (ho : ∀ i, i < m → o i < 20) (hm : m ≤ 20) (hinj : ∀ i j, i < j → j < m → o i ≠ o j) (hall : ∀ k, k < z → ¬ r k = -1 → ∃ i, i < m ∧ r k = nI (o i)) (h39 : ∀ i, i < m → sits (o i) = true → μ 39 0 (o i) = nI (pCt (fun i => sits (o i)) i)) : pSum (hPr μ r rd z) z = nI ((mO r o z m).1 + nS (mTk μ r rd z) z) := by
  have hh : ∀ k, k < z → ¬ r k = -1 → ∃ c, c ≤ 20 ∧ μ 39 0 (r k).toNatClampNeg = nI c := fun k hk e => by
    obtain ⟨i, hi, ei⟩ := hall k hk e
    have hoi := ho i hi
    have hs : sits (o i) = true := (hsit (o i) hoi).mpr ⟨k, hk, ei⟩
    refine ⟨_, Nat.le_trans (pCt_le (fun i => sits (o i)) i) (by omega), ?_⟩
    rw [ei, nI_clamp (by omega)]
    exact h39 i hi hs
  rw [pSum_nI (fun k hk => (hPr_eq g1 g g8 hz hk hr (hh k hk)).1), nS_add, nS_add, mO_eq (μ := μ) hz hd hsit ho hm hinj hall h39, tk_eq g1 g g8 hz2 hz hr]
/-! DESK: price -/
theorem nD_le {c i : Nat} (h : ¬ nI c ≤ nI i) (hc : c < 2 ^ 31) (hi : i < 2 ^ 31) : nI c - nI i = nI (nD c i) := by
  have h1 : i < c := by
    rcases Nat.lt_or_ge i c with q | q
    · exact q
    · exact absurd (nI_le q hi) h
  unfold nD
  rw [if_pos h1, pk_sub (by omega)]
theorem nD_ge {c i : Nat} (h : nI c ≤ nI i) (hc : c < 2 ^ 31) (hi : i < 2 ^ 31) : nI i - nI c = nI (nD c i) := by
  have h1 : c ≤ i := (nI_leI hc hi).mp h
  unfold nD
  rw [if_neg (by omega), pk_sub h1]
set_option maxHeartbeats 2000000 in
theorem c_Mo_priceOf {d ns n t z m : Nat} {μ : zMu} {rd x : Int32} {r : Nat → Int32} {o : Nat → Nat} {K : Option zV → zMu → Prop} (E : mT μ ns n t z rd r) (hx : x = nI t) (hm : μ 48 0 37 = nI m) (hm20 : m ≤ 20) (h86 : ∀ k, k < m → μ 86 0 k = nI (o k)) (hK : K (some (zI (nI ((mO r o z m).1 + nS (mTk μ r rd z) z)))) μ) : Ct (d + 2) m_Mo_priceOf [zR 48 0, zI x] μ K := by
  subst hx
  refine zmeet rfl (Nat.le_of_ble_eq_true rfl) (fun S => ?_)
  obtain ⟨g1, g2, g7, g8, ht, h94, hz2, hz, h93, hrd, h96, hr⟩ := E
  have h20 := g2.2.2.1
  have h10 := g1.2.2.1
  have ct : (nI t).toNatClampNeg = t := nI_clamp (by omega)
  have vt : vp_in (nI t) 4 := vp_in_nI (by omega) (by omega)
  have e94 : μ 94 0 (nI t).toNatClampNeg = nI z := by rw [ct]; exact h94
  -- talk
  have L2 : ∀ (k i : Nat) (c s v : Int32) (l6 : Option zV), i + k = z → v = nI i → s = nI ((mO r o z m).1 + nS (mTk μ r rd z) i) → zG S (d + 2) m_Mo_priceOf K 91 [some (zR 48 0), some (zI (nI t)), some (zI (nI z)), some (zI s), some (zI c), some (zI v), l6] [] μ := by
    intro k
    induction k with
    | zero =>
      intro i c s v l6 hi hv hs
      subst hv hs
      obtain rfl : i = z := by omega
      have hle : nI i ≤ nI i := nI_le (Nat.le_refl _) (by omega)
      refine zs k_Mo_priceOf rfl ?_; conv => whnf
      repeat' (first
        | refine br_t hle ?_
        | exact hK
        | (refine zs k_Mo_priceOf rfl ?_; conv => whnf)
        | refine ⟨Nat.zero_lt_one, rfl, ?_⟩
        | refine ⟨rfl, ?_⟩
        | refine ⟨⟨Nat.zero_lt_one, rfl⟩, Nat.le_of_ble_eq_true rfl, ?_⟩
        | refine ⟨Nat.le_of_ble_eq_true rfl, Nat.le_of_ble_eq_true rfl, ?_⟩
        | refine ⟨(by first | exact Nat.zero_lt_one | assumption | omega), (by first | assumption | exact vp_in_nI (by omega) (by omega) | (unfold vp_in; decide)), ?_⟩
        | refine ⟨(by first | exact Nat.zero_lt_one | assumption | omega), rfl, ?_⟩
        | refine ⟨⟨(by first | exact Nat.zero_lt_one | assumption | omega), rfl⟩, Nat.le_of_ble_eq_true rfl, ?_⟩
        | refine ⟨(by first | exact Nat.zero_lt_one | assumption | omega), ?_⟩
        | refine ⟨Or.inl rfl, ?_⟩
        | refine ⟨Or.inr (Or.inl rfl), ?_⟩
        | refine ⟨Or.inr (Or.inr rfl), ?_⟩
        | refine ⟨Or.inr ⟨rfl, (by first | exact Or.inl rfl | exact Or.inr rfl | assumption)⟩, ?_⟩
        | refine ⟨fun h => absurd h (by decide), fun _ => ?_⟩
        | refine ⟨fun _ => ?_, fun h => absurd h (by decide)⟩
        | refine ⟨fun h => ?_, fun h => ?_⟩
        | fail)
    | succ k ih =>
      intro i c s v l6 hi hv hs
      subst hv
      have hle : ¬ nI z ≤ nI i := nI_ge (by omega) (by omega)
      have ci : (nI i).toNatClampNeg = i := nI_clamp (by omega)
      have hb := bh_lt (z := z) (i := i) (by omega)
      have cb : (nI (bh z i)).toNatClampNeg = bh z i := nI_clamp (by omega)
      have vb : vp_in (nI (bh z i)) 12 := vp_in_nI (by omega) (by omega)
      have ei : μ 96 0 (nI i).toNatClampNeg = r i := by rw [ci]; exact h96 i (by omega)
      have eb : μ 96 0 (nI (bh z i)).toNatClampNeg = r (bh z i) := by rw [cb]; exact h96 _ (by omega)
      have hS : nS (mTk μ r rd z) (i + 1) = nS (mTk μ r rd z) i + mTk μ r rd z i := rfl
      have zero : mTk μ r rd z i = 0 → s = nI ((mO r o z m).1 + nS (mTk μ r rd z) (i + 1)) := fun h => by rw [hs, hS, h, Nat.add_zero]
      by_cases hB : bBs z rd i
      case neg =>
        have h0 := zero (if_neg hB)
        refine zs k_Mo_priceOf rfl ?_; conv => whnf
        repeat' (first
          | refine br_f hle ?_
          | refine c_Mo_behind hz (i := i) (by omega) rfl rfl ?_
          | refine c_Mo_areBeside ht hz (i := i) (by omega) rfl rfl h94 h93 (fun q => absurd q hB) (fun _ => ?_)
          | refine ih (i + 1) _ _ _ _ (by omega) (by exact nI_1 i) h0
          | (refine zs k_Mo_priceOf rfl ?_; conv => whnf)
          | refine ⟨Nat.zero_lt_one, rfl, ?_⟩
          | refine ⟨rfl, ?_⟩
          | refine ⟨⟨Nat.zero_lt_one, rfl⟩, Nat.le_of_ble_eq_true rfl, ?_⟩
          | refine ⟨Nat.le_of_ble_eq_true rfl, Nat.le_of_ble_eq_true rfl, ?_⟩
          | refine ⟨(by first | exact Nat.zero_lt_one | assumption | omega), (by first | assumption | exact vp_in_nI (by omega) (by omega) | (unfold vp_in; decide)), ?_⟩
          | refine ⟨(by first | exact Nat.zero_lt_one | assumption | omega), rfl, ?_⟩
          | refine ⟨⟨(by first | exact Nat.zero_lt_one | assumption | omega), rfl⟩, Nat.le_of_ble_eq_true rfl, ?_⟩
          | refine ⟨(by first | exact Nat.zero_lt_one | assumption | omega), ?_⟩
          | refine ⟨Or.inl rfl, ?_⟩
          | refine ⟨Or.inr (Or.inl rfl), ?_⟩
          | refine ⟨Or.inr (Or.inr rfl), ?_⟩
          | refine ⟨Or.inr ⟨rfl, (by first | exact Or.inl rfl | exact Or.inr rfl | assumption)⟩, ?_⟩
          | refine ⟨fun h => absurd h (by decide), fun _ => ?_⟩
          | refine ⟨fun _ => ?_, fun h => absurd h (by decide)⟩
          | refine ⟨fun h => ?_, fun h => ?_⟩
          | fail)
      have hM : mTk μ r rd z i = tN μ (r i) (r (bh z i)) := if_pos hB
      rcases hr i (by omega) with q1 | ⟨p, hp, q1⟩
      · have h0 := zero (by rw [hM, q1]; exact tN_m.1)
        have q1' := ei.trans q1
        refine zs k_Mo_priceOf rfl ?_; conv => whnf
        repeat' (first
          | refine br_f hle ?_
          | refine c_Mo_behind hz (i := i) (by omega) rfl rfl ?_
          | refine c_Mo_areBeside ht hz (i := i) (by omega) rfl rfl h94 h93 (fun _ => ?_) (fun q => absurd hB q)
          | refine br_t q1' ?_
          | refine ih (i + 1) _ _ _ _ (by omega) (by exact nI_1 i) h0
          | (refine zs k_Mo_priceOf rfl ?_; conv => whnf)
          | refine ⟨Nat.zero_lt_one, rfl, ?_⟩
          | refine ⟨rfl, ?_⟩
          | refine ⟨⟨Nat.zero_lt_one, rfl⟩, Nat.le_of_ble_eq_true rfl, ?_⟩
          | refine ⟨Nat.le_of_ble_eq_true rfl, Nat.le_of_ble_eq_true rfl, ?_⟩
          | refine ⟨(by first | exact Nat.zero_lt_one | assumption | omega), (by first | assumption | exact vp_in_nI (by omega) (by omega) | (unfold vp_in; decide)), ?_⟩
          | refine ⟨(by first | exact Nat.zero_lt_one | assumption | omega), rfl, ?_⟩
          | refine ⟨⟨(by first | exact Nat.zero_lt_one | assumption | omega), rfl⟩, Nat.le_of_ble_eq_true rfl, ?_⟩
          | refine ⟨(by first | exact Nat.zero_lt_one | assumption | omega), ?_⟩
          | refine ⟨Or.inl rfl, ?_⟩
          | refine ⟨Or.inr (Or.inl rfl), ?_⟩
          | refine ⟨Or.inr (Or.inr rfl), ?_⟩
          | refine ⟨Or.inr ⟨rfl, (by first | exact Or.inl rfl | exact Or.inr rfl | assumption)⟩, ?_⟩
          | refine ⟨fun h => absurd h (by decide), fun _ => ?_⟩
          | refine ⟨fun _ => ?_, fun h => absurd h (by decide)⟩
          | refine ⟨fun h => ?_, fun h => ?_⟩
          | fail)
      have n1 : ¬ μ 96 0 (nI i).toNatClampNeg = -1 := by rw [ei, q1]; exact nI_nem1 (by omega)
      rcases hr (bh z i) (by omega) with q2 | ⟨p', hp', q2⟩
      · have h0 := zero (by rw [hM, q2]; exact tN_m.2)
        have q2' := eb.trans q2
        refine zs k_Mo_priceOf rfl ?_; conv => whnf
        repeat' (first
          | refine br_f hle ?_
          | refine c_Mo_behind hz (i := i) (by omega) rfl rfl ?_
          | refine c_Mo_areBeside ht hz (i := i) (by omega) rfl rfl h94 h93 (fun _ => ?_) (fun q => absurd hB q)
          | refine br_f n1 ?_
          | refine br_t q2' ?_
          | refine ih (i + 1) _ _ _ _ (by omega) (by exact nI_1 i) h0
          | (refine zs k_Mo_priceOf rfl ?_; conv => whnf)
          | refine ⟨Nat.zero_lt_one, rfl, ?_⟩
          | refine ⟨rfl, ?_⟩
          | refine ⟨⟨Nat.zero_lt_one, rfl⟩, Nat.le_of_ble_eq_true rfl, ?_⟩
          | refine ⟨Nat.le_of_ble_eq_true rfl, Nat.le_of_ble_eq_true rfl, ?_⟩
          | refine ⟨(by first | exact Nat.zero_lt_one | assumption | omega), (by first | assumption | exact vp_in_nI (by omega) (by omega) | (unfold vp_in; decide)), ?_⟩
          | refine ⟨(by first | exact Nat.zero_lt_one | assumption | omega), rfl, ?_⟩
          | refine ⟨⟨(by first | exact Nat.zero_lt_one | assumption | omega), rfl⟩, Nat.le_of_ble_eq_true rfl, ?_⟩
          | refine ⟨(by first | exact Nat.zero_lt_one | assumption | omega), ?_⟩
          | refine ⟨Or.inl rfl, ?_⟩
          | refine ⟨Or.inr (Or.inl rfl), ?_⟩
          | refine ⟨Or.inr (Or.inr rfl), ?_⟩
          | refine ⟨Or.inr ⟨rfl, (by first | exact Or.inl rfl | exact Or.inr rfl | assumption)⟩, ?_⟩
          | refine ⟨fun h => absurd h (by decide), fun _ => ?_⟩
          | refine ⟨fun _ => ?_, fun h => absurd h (by decide)⟩
          | refine ⟨fun h => ?_, fun h => ?_⟩
          | fail)
      have n2 : ¬ μ 96 0 (nI (bh z i)).toNatClampNeg = -1 := by rw [eb, q2]; exact nI_nem1 (by omega)
      obtain ⟨-, -, -, -, -, -, -, -, -, ⟨sp, hsp, -, -, b3⟩, -⟩ := g2.2.2.2 p hp
      obtain ⟨-, -, -, -, -, -, -, -, -, ⟨sq, hsq, -, -, b3'⟩, -⟩ := g2.2.2.2 p' hp'
      obtain ⟨u, hu, eu⟩ := vp_in_of (g1.2.2.2 sp hsp).2.2 (by omega)
      obtain ⟨u', hu', eu'⟩ := vp_in_of (g1.2.2.2 sq hsq).2.2 (by omega)
      have f1 : μ 17 p 6 = nI u := b3.trans eu
      have f2 : μ 17 p' 6 = nI u' := b3'.trans eu'
      have m1 : (8 : Int32) * μ 17 p 6 + μ 17 p' 6 = nI (8 * u + u') := by rw [f1, f2, show (8 : Int32) * nI u = nI (8 * u) from pk_mul 8 u, nI_add]
      have v1 : vp_in ((8 : Int32) * μ 17 p 6 + μ 17 p' 6) 64 := by rw [m1]; exact vp_in_nI (by omega) (by omega)
      have e54 : μ 54 0 ((8 : Int32) * μ 17 p 6 + μ 17 p' 6).toNatClampNeg = nI (tN μ (r i) (r (bh z i))) := by
        rw [m1, nI_clamp (by omega), (g8 u u' hu hu').2.1, ← (tN_eq g1 g2 g8 (hr i (by omega)) (hr (bh z i) (by omega))).1, q1, q2]
        unfold hTk
        rw [if_neg (fun w => w.elim (nI_nem1 (by omega)) (nI_nem1 (by omega))), nI_clamp (show p < 2 ^ 31 by omega), nI_clamp (show p' < 2 ^ 31 by omega), f1, f2, nI_clamp (show u < 2 ^ 31 by omega), nI_clamp (show u' < 2 ^ 31 by omega)]
      have h1 : s + μ 54 0 ((8 : Int32) * μ 17 p 6 + μ 17 p' 6).toNatClampNeg = nI ((mO r o z m).1 + nS (mTk μ r rd z) (i + 1)) := by
        rw [e54, hs, nI_add, hS, hM, Nat.add_assoc]
      have q1' := ei.trans q1
      have q2' := eb.trans q2
      refine zs k_Mo_priceOf rfl ?_; conv => whnf
      repeat' (first
        | refine br_f hle ?_
        | refine c_Mo_behind hz (i := i) (by omega) rfl rfl ?_
        | refine c_Mo_areBeside ht hz (i := i) (by omega) rfl rfl h94 h93 (fun _ => ?_) (fun q => absurd hB q)
        | refine br_f n1 ?_
        | refine br_f n2 ?_
        | refine c_Mo_field (p := p) (f := 6) g1 g2 hp (by omega) q1' rfl ?_
        | refine c_Mo_field (p := p') (f := 6) g1 g2 hp' (by omega) q2' rfl ?_
        | refine ih (i + 1) _ _ _ _ (by omega) (by exact nI_1 i) h1
        | (refine zs k_Mo_priceOf rfl ?_; conv => whnf)
        | refine ⟨Nat.zero_lt_one, rfl, ?_⟩
        | refine ⟨rfl, ?_⟩
        | refine ⟨⟨Nat.zero_lt_one, rfl⟩, Nat.le_of_ble_eq_true rfl, ?_⟩
        | refine ⟨Nat.le_of_ble_eq_true rfl, Nat.le_of_ble_eq_true rfl, ?_⟩
        | refine ⟨(by first | exact Nat.zero_lt_one | assumption | omega), (by first | assumption | exact vp_in_nI (by omega) (by omega) | (unfold vp_in; decide)), ?_⟩
        | refine ⟨(by first | exact Nat.zero_lt_one | assumption | omega), rfl, ?_⟩
        | refine ⟨⟨(by first | exact Nat.zero_lt_one | assumption | omega), rfl⟩, Nat.le_of_ble_eq_true rfl, ?_⟩
        | refine ⟨(by first | exact Nat.zero_lt_one | assumption | omega), ?_⟩
        | refine ⟨Or.inl rfl, ?_⟩
        | refine ⟨Or.inr (Or.inl rfl), ?_⟩
        | refine ⟨Or.inr (Or.inr rfl), ?_⟩
        | refine ⟨Or.inr ⟨rfl, (by first | exact Or.inl rfl | exact Or.inr rfl | assumption)⟩, ?_⟩
        | refine ⟨fun h => absurd h (by decide), fun _ => ?_⟩
        | refine ⟨fun _ => ?_, fun h => absurd h (by decide)⟩
        | refine ⟨fun h => ?_, fun h => ?_⟩
        | fail)
  -- places
  have L1 : ∀ (k j : Nat) (s c v : Int32) (l6 : Option zV), j + k = m → v = nI j → s = nI (mO r o z j).1 → c = nI (mO r o z j).2 → zG S (d + 2) m_Mo_priceOf K 15 [some (zR 48 0), some (zI (nI t)), some (zI (nI z)), some (zI s), some (zI c), some (zI v), l6] [] μ := by
    intro k
    induction k with
    | zero =>
      intro j s c v l6 hj hv hs hc
      subst hv hs hc
      obtain rfl : j = m := by omega
      have hle : μ 48 0 37 ≤ nI j := by rw [hm]; exact nI_le (Nat.le_refl _) (by omega)
      refine zs k_Mo_priceOf rfl ?_; conv => whnf
      repeat' (first
        | refine br_t hle ?_
        | refine L2 z 0 _ _ _ _ (by omega) rfl (by rfl)
        | (refine zs k_Mo_priceOf rfl ?_; conv => whnf)
        | refine ⟨Nat.zero_lt_one, rfl, ?_⟩
        | refine ⟨rfl, ?_⟩
        | refine ⟨⟨Nat.zero_lt_one, rfl⟩, Nat.le_of_ble_eq_true rfl, ?_⟩
        | refine ⟨Nat.le_of_ble_eq_true rfl, Nat.le_of_ble_eq_true rfl, ?_⟩
        | refine ⟨(by first | exact Nat.zero_lt_one | assumption | omega), (by first | assumption | exact vp_in_nI (by omega) (by omega) | (unfold vp_in; decide)), ?_⟩
        | refine ⟨(by first | exact Nat.zero_lt_one | assumption | omega), rfl, ?_⟩
        | refine ⟨⟨(by first | exact Nat.zero_lt_one | assumption | omega), rfl⟩, Nat.le_of_ble_eq_true rfl, ?_⟩
        | refine ⟨(by first | exact Nat.zero_lt_one | assumption | omega), ?_⟩
        | refine ⟨Or.inl rfl, ?_⟩
        | refine ⟨Or.inr (Or.inl rfl), ?_⟩
        | refine ⟨Or.inr (Or.inr rfl), ?_⟩
        | refine ⟨Or.inr ⟨rfl, (by first | exact Or.inl rfl | exact Or.inr rfl | assumption)⟩, ?_⟩
        | refine ⟨fun h => absurd h (by decide), fun _ => ?_⟩
        | refine ⟨fun _ => ?_, fun h => absurd h (by decide)⟩
        | refine ⟨fun h => ?_, fun h => ?_⟩
        | fail)
    | succ k ih =>
      intro j s c v l6 hj hv hs hc
      subst hv
      have hle : ¬ μ 48 0 37 ≤ nI j := by rw [hm]; exact nI_ge (by omega) (by omega)
      have cj : (nI j).toNatClampNeg = j := nI_clamp (by omega)
      have ej : μ 86 0 (nI j).toNatClampNeg = nI (o j) := by rw [cj]; exact h86 j (by omega)
      have hmo : mO r o z (j + 1) = mP r (nI (o j)) (mO r o z j) z := rfl
      have hle2 := mO_le (r := r) (o := o) (z := z) j
      have hjz : j * z ≤ 20 * 12 := Nat.mul_le_mul (by omega) hz
      have L0 : ∀ (k2 i : Nat) (s c w : Int32), i + k2 = z → w = nI i → s = nI (mP r (nI (o j)) (mO r o z j) i).1 → c = nI (mP r (nI (o j)) (mO r o z j) i).2 → zG S (d + 2) m_Mo_priceOf K 27 [some (zR 48 0), some (zI (nI t)), some (zI (nI z)), some (zI s), some (zI c), some (zI (nI j)), some (zI w)] [] μ := by
        intro k2
        induction k2 with
        | zero =>
          intro i s c w hi hw hs hc
          subst hw
          obtain rfl : i = z := by omega
          have hle : nI i ≤ nI i := nI_le (Nat.le_refl _) (by omega)
          refine zs k_Mo_priceOf rfl ?_; conv => whnf
          repeat' (first
            | refine br_t hle ?_
            | refine ih (j + 1) _ _ _ _ (by omega) (by exact nI_1 j) (by rw [hmo]; exact hs) (by rw [hmo]; exact hc)
            | (refine zs k_Mo_priceOf rfl ?_; conv => whnf)
            | refine ⟨Nat.zero_lt_one, rfl, ?_⟩
            | refine ⟨rfl, ?_⟩
            | refine ⟨⟨Nat.zero_lt_one, rfl⟩, Nat.le_of_ble_eq_true rfl, ?_⟩
            | refine ⟨Nat.le_of_ble_eq_true rfl, Nat.le_of_ble_eq_true rfl, ?_⟩
            | refine ⟨(by first | exact Nat.zero_lt_one | assumption | omega), (by first | assumption | exact vp_in_nI (by omega) (by omega) | (unfold vp_in; decide)), ?_⟩
            | refine ⟨(by first | exact Nat.zero_lt_one | assumption | omega), rfl, ?_⟩
            | refine ⟨⟨(by first | exact Nat.zero_lt_one | assumption | omega), rfl⟩, Nat.le_of_ble_eq_true rfl, ?_⟩
            | refine ⟨(by first | exact Nat.zero_lt_one | assumption | omega), ?_⟩
            | refine ⟨Or.inl rfl, ?_⟩
            | refine ⟨Or.inr (Or.inl rfl), ?_⟩
            | refine ⟨Or.inr (Or.inr rfl), ?_⟩
            | refine ⟨Or.inr ⟨rfl, (by first | exact Or.inl rfl | exact Or.inr rfl | assumption)⟩, ?_⟩
            | refine ⟨fun h => absurd h (by decide), fun _ => ?_⟩
            | refine ⟨fun _ => ?_, fun h => absurd h (by decide)⟩
            | refine ⟨fun h => ?_, fun h => ?_⟩
            | fail)
        | succ k2 ih2 =>
          intro i s c w hi hw hs hc
          subst hw
          have hlz : ¬ nI z ≤ nI i := nI_ge (by omega) (by omega)
          have ci : (nI i).toNatClampNeg = i := nI_clamp (by omega)
          have vi : vp_in (nI i) 12 := vp_in_nI (by omega) (by omega)
          have vj : vp_in (nI j) 20 := vp_in_nI (by omega) (by omega)
          have ei : μ 96 0 (nI i).toNatClampNeg = r i := by rw [ci]; exact h96 i (by omega)
          have hp := mP_le (r := r) (v := nI (o j)) (q := mO r o z j) i
          by_cases e : r i = nI (o j)
          · have e' : μ 96 0 (nI i).toNatClampNeg = μ 86 0 (nI j).toNatClampNeg := by rw [ei, ej]; exact e
            have hst : mP r (nI (o j)) (mO r o z j) (i + 1) = ((mP r (nI (o j)) (mO r o z j) i).1 + nD (mP r (nI (o j)) (mO r o z j) i).2 i, (mP r (nI (o j)) (mO r o z j) i).2 + 1) := by rw [mP, if_pos e]
            by_cases q : c ≤ nI i
            · have q' := nD_ge (hc ▸ q) (by omega) (by omega)
              rw [← hc] at q'
              refine zs k_Mo_priceOf rfl ?_; conv => whnf
              repeat' (first
                | refine br_f hlz ?_
                | refine bn_f e' ?_
                | refine br_t q ?_
                | refine ih2 (i + 1) _ _ _ (by omega) (by exact nI_1 i) (by rw [hst, q', hs]; exact nI_add _ _) (by rw [hst, hc]; exact nI_1 _)
                | (refine zs k_Mo_priceOf rfl ?_; conv => whnf)
                | refine ⟨Nat.zero_lt_one, rfl, ?_⟩
                | refine ⟨rfl, ?_⟩
                | refine ⟨⟨Nat.zero_lt_one, rfl⟩, Nat.le_of_ble_eq_true rfl, ?_⟩
                | refine ⟨Nat.le_of_ble_eq_true rfl, Nat.le_of_ble_eq_true rfl, ?_⟩
                | refine ⟨(by first | exact Nat.zero_lt_one | assumption | omega), (by first | assumption | exact vp_in_nI (by omega) (by omega) | (unfold vp_in; decide)), ?_⟩
                | refine ⟨(by first | exact Nat.zero_lt_one | assumption | omega), rfl, ?_⟩
                | refine ⟨⟨(by first | exact Nat.zero_lt_one | assumption | omega), rfl⟩, Nat.le_of_ble_eq_true rfl, ?_⟩
                | refine ⟨(by first | exact Nat.zero_lt_one | assumption | omega), ?_⟩
                | refine ⟨Or.inl rfl, ?_⟩
                | refine ⟨Or.inr (Or.inl rfl), ?_⟩
                | refine ⟨Or.inr (Or.inr rfl), ?_⟩
                | refine ⟨Or.inr ⟨rfl, (by first | exact Or.inl rfl | exact Or.inr rfl | assumption)⟩, ?_⟩
                | refine ⟨fun h => absurd h (by decide), fun _ => ?_⟩
                | refine ⟨fun _ => ?_, fun h => absurd h (by decide)⟩
                | refine ⟨fun h => ?_, fun h => ?_⟩
                | fail)
            · have q' := nD_le (hc ▸ q) (by omega) (by omega)
              rw [← hc] at q'
              refine zs k_Mo_priceOf rfl ?_; conv => whnf
              repeat' (first
                | refine br_f hlz ?_
                | refine bn_f e' ?_
                | refine br_f q ?_
                | refine ih2 (i + 1) _ _ _ (by omega) (by exact nI_1 i) (by rw [hst, q', hs]; exact nI_add _ _) (by rw [hst, hc]; exact nI_1 _)
                | (refine zs k_Mo_priceOf rfl ?_; conv => whnf)
                | refine ⟨Nat.zero_lt_one, rfl, ?_⟩
                | refine ⟨rfl, ?_⟩
                | refine ⟨⟨Nat.zero_lt_one, rfl⟩, Nat.le_of_ble_eq_true rfl, ?_⟩
                | refine ⟨Nat.le_of_ble_eq_true rfl, Nat.le_of_ble_eq_true rfl, ?_⟩
                | refine ⟨(by first | exact Nat.zero_lt_one | assumption | omega), (by first | assumption | exact vp_in_nI (by omega) (by omega) | (unfold vp_in; decide)), ?_⟩
                | refine ⟨(by first | exact Nat.zero_lt_one | assumption | omega), rfl, ?_⟩
                | refine ⟨⟨(by first | exact Nat.zero_lt_one | assumption | omega), rfl⟩, Nat.le_of_ble_eq_true rfl, ?_⟩
                | refine ⟨(by first | exact Nat.zero_lt_one | assumption | omega), ?_⟩
                | refine ⟨Or.inl rfl, ?_⟩
                | refine ⟨Or.inr (Or.inl rfl), ?_⟩
                | refine ⟨Or.inr (Or.inr rfl), ?_⟩
                | refine ⟨Or.inr ⟨rfl, (by first | exact Or.inl rfl | exact Or.inr rfl | assumption)⟩, ?_⟩
                | refine ⟨fun h => absurd h (by decide), fun _ => ?_⟩
                | refine ⟨fun _ => ?_, fun h => absurd h (by decide)⟩
                | refine ⟨fun h => ?_, fun h => ?_⟩
                | fail)
          · have e' : ¬ μ 96 0 (nI i).toNatClampNeg = μ 86 0 (nI j).toNatClampNeg := by rw [ei, ej]; exact e
            have hst : mP r (nI (o j)) (mO r o z j) (i + 1) = mP r (nI (o j)) (mO r o z j) i := by rw [mP, if_neg e]
            refine zs k_Mo_priceOf rfl ?_; conv => whnf
            repeat' (first
              | refine br_f hlz ?_
              | refine bn_t e' ?_
              | refine ih2 (i + 1) _ _ _ (by omega) (by exact nI_1 i) (by rw [hst]; exact hs) (by rw [hst]; exact hc)
              | (refine zs k_Mo_priceOf rfl ?_; conv => whnf)
              | refine ⟨Nat.zero_lt_one, rfl, ?_⟩
              | refine ⟨rfl, ?_⟩
              | refine ⟨⟨Nat.zero_lt_one, rfl⟩, Nat.le_of_ble_eq_true rfl, ?_⟩
              | refine ⟨Nat.le_of_ble_eq_true rfl, Nat.le_of_ble_eq_true rfl, ?_⟩
              | refine ⟨(by first | exact Nat.zero_lt_one | assumption | omega), (by first | assumption | exact vp_in_nI (by omega) (by omega) | (unfold vp_in; decide)), ?_⟩
              | refine ⟨(by first | exact Nat.zero_lt_one | assumption | omega), rfl, ?_⟩
              | refine ⟨⟨(by first | exact Nat.zero_lt_one | assumption | omega), rfl⟩, Nat.le_of_ble_eq_true rfl, ?_⟩
              | refine ⟨(by first | exact Nat.zero_lt_one | assumption | omega), ?_⟩
              | refine ⟨Or.inl rfl, ?_⟩
              | refine ⟨Or.inr (Or.inl rfl), ?_⟩
              | refine ⟨Or.inr (Or.inr rfl), ?_⟩
              | refine ⟨Or.inr ⟨rfl, (by first | exact Or.inl rfl | exact Or.inr rfl | assumption)⟩, ?_⟩
              | refine ⟨fun h => absurd h (by decide), fun _ => ?_⟩
              | refine ⟨fun _ => ?_, fun h => absurd h (by decide)⟩
              | refine ⟨fun h => ?_, fun h => ?_⟩
              | fail)
      refine zs k_Mo_priceOf rfl ?_; conv => whnf
      repeat' (first
        | refine br_f hle ?_
        | refine L0 z 0 _ _ _ (by omega) rfl hs hc
        | (refine zs k_Mo_priceOf rfl ?_; conv => whnf)
        | refine ⟨Nat.zero_lt_one, rfl, ?_⟩
        | refine ⟨rfl, ?_⟩
        | refine ⟨⟨Nat.zero_lt_one, rfl⟩, Nat.le_of_ble_eq_true rfl, ?_⟩
        | refine ⟨Nat.le_of_ble_eq_true rfl, Nat.le_of_ble_eq_true rfl, ?_⟩
        | refine ⟨(by first | exact Nat.zero_lt_one | assumption | omega), (by first | assumption | exact vp_in_nI (by omega) (by omega) | (unfold vp_in; decide)), ?_⟩
        | refine ⟨(by first | exact Nat.zero_lt_one | assumption | omega), rfl, ?_⟩
        | refine ⟨⟨(by first | exact Nat.zero_lt_one | assumption | omega), rfl⟩, Nat.le_of_ble_eq_true rfl, ?_⟩
        | refine ⟨(by first | exact Nat.zero_lt_one | assumption | omega), ?_⟩
        | refine ⟨Or.inl rfl, ?_⟩
        | refine ⟨Or.inr (Or.inl rfl), ?_⟩
        | refine ⟨Or.inr (Or.inr rfl), ?_⟩
        | refine ⟨Or.inr ⟨rfl, (by first | exact Or.inl rfl | exact Or.inr rfl | assumption)⟩, ?_⟩
        | refine ⟨fun h => absurd h (by decide), fun _ => ?_⟩
        | refine ⟨fun _ => ?_, fun h => absurd h (by decide)⟩
        | refine ⟨fun h => ?_, fun h => ?_⟩
        | fail)
  have hst : zG S (d + 2) m_Mo_priceOf K 7 [some (zR 48 0), some (zI (nI t)), some (zI (nI z)), none, none, none, none] [] μ := by
    repeat' (first
      | refine L1 m 0 _ _ _ _ (by omega) rfl rfl rfl
      | (refine zs k_Mo_priceOf rfl ?_; conv => whnf)
      | refine ⟨Nat.zero_lt_one, rfl, ?_⟩
      | refine ⟨rfl, ?_⟩
      | refine ⟨⟨Nat.zero_lt_one, rfl⟩, Nat.le_of_ble_eq_true rfl, ?_⟩
      | refine ⟨Nat.le_of_ble_eq_true rfl, Nat.le_of_ble_eq_true rfl, ?_⟩
      | refine ⟨(by first | exact Nat.zero_lt_one | assumption | omega), (by first | assumption | exact vp_in_nI (by omega) (by omega) | (unfold vp_in; decide)), ?_⟩
      | refine ⟨(by first | exact Nat.zero_lt_one | assumption | omega), rfl, ?_⟩
      | refine ⟨⟨(by first | exact Nat.zero_lt_one | assumption | omega), rfl⟩, Nat.le_of_ble_eq_true rfl, ?_⟩
      | refine ⟨(by first | exact Nat.zero_lt_one | assumption | omega), ?_⟩
      | refine ⟨Or.inl rfl, ?_⟩
      | refine ⟨Or.inr (Or.inl rfl), ?_⟩
      | refine ⟨Or.inr (Or.inr rfl), ?_⟩
      | refine ⟨Or.inr ⟨rfl, (by first | exact Or.inl rfl | exact Or.inr rfl | assumption)⟩, ?_⟩
      | refine ⟨fun h => absurd h (by decide), fun _ => ?_⟩
      | refine ⟨fun _ => ?_, fun h => absurd h (by decide)⟩
      | refine ⟨fun h => ?_, fun h => ?_⟩
      | fail)
  have hst' : ∀ v : Int32, v = nI z → zG S (d + 2) m_Mo_priceOf K 7 [some (zR 48 0), some (zI (nI t)), some (zI v), none, none, none, none] [] μ := fun v hv => by rw [hv]; exact hst
  repeat' (first
    | exact hst' _ e94
    | (refine zs k_Mo_priceOf rfl ?_; conv => whnf)
    | refine ⟨Nat.zero_lt_one, rfl, ?_⟩
    | refine ⟨rfl, ?_⟩
    | refine ⟨⟨Nat.zero_lt_one, rfl⟩, Nat.le_of_ble_eq_true rfl, ?_⟩
    | refine ⟨Nat.le_of_ble_eq_true rfl, Nat.le_of_ble_eq_true rfl, ?_⟩
    | refine ⟨(by first | exact Nat.zero_lt_one | assumption | omega), (by first | assumption | exact vp_in_nI (by omega) (by omega) | (unfold vp_in; decide)), ?_⟩
    | refine ⟨(by first | exact Nat.zero_lt_one | assumption | omega), rfl, ?_⟩
    | refine ⟨⟨(by first | exact Nat.zero_lt_one | assumption | omega), rfl⟩, Nat.le_of_ble_eq_true rfl, ?_⟩
    | refine ⟨(by first | exact Nat.zero_lt_one | assumption | omega), ?_⟩
    | refine ⟨Or.inl rfl, ?_⟩
    | refine ⟨Or.inr (Or.inl rfl), ?_⟩
    | refine ⟨Or.inr (Or.inr rfl), ?_⟩
    | refine ⟨Or.inr ⟨rfl, (by first | exact Or.inl rfl | exact Or.inr rfl | assumption)⟩, ?_⟩
    | refine ⟨fun h => absurd h (by decide), fun _ => ?_⟩
    | refine ⟨fun _ => ?_, fun h => absurd h (by decide)⟩
    | refine ⟨fun h => ?_, fun h => ?_⟩
    | fail)
/-- the order's places are unlike, and all who are there are in it -/
theorem oLf_rm {A : Nat → Nat → Bool} {n : Nat} {lf0 : Nat → Bool} {i : Nat} : ∀ k, oLf A n lf0 (i + 1 + k) (oN A n lf0 i) = false
  | 0 => by
    show (oLf A n lf0 i (oN A n lf0 i) && decide (oN A n lf0 i ≠ oNx A n (oLf A n lf0 i))) = false
    rw [show oN A n lf0 i = oNx A n (oLf A n lf0 i) from rfl]
    simp
  | k + 1 => by
    show (oLf A n lf0 (i + 1 + k) (oN A n lf0 i) && decide (oN A n lf0 i ≠ oNx A n (oLf A n lf0 (i + 1 + k)))) = false
    rw [oLf_rm k]
    rfl
theorem oN_inj {A : Nat → Nat → Bool} {n : Nat} {lf0 : Nat → Bool} (h20 : n ≤ 20) : ∀ i j, i < j → j < pCt lf0 n → oN A n lf0 i ≠ oN A n lf0 j := fun i j hij hj e => by
  have h1 := oLf_rm (A := A) (n := n) (lf0 := lf0) (i := i) (j - (i + 1))
  rw [show i + 1 + (j - (i + 1)) = j by omega, e, (oN_df h20 j hj).2.2] at h1
  cases h1
theorem oN_all0 {A : Nat → Nat → Bool} {n : Nat} {lf0 : Nat → Bool} {p : Nat} (hp : lf0 p = true) : ∀ k, oLf A n lf0 k p = false → ∃ i, i < k ∧ p = oN A n lf0 i
  | 0, h => by
    rw [show oLf A n lf0 0 p = lf0 p from rfl, hp] at h
    cases h
  | k + 1, h => by
    have h' : (oLf A n lf0 k p && decide (p ≠ oNx A n (oLf A n lf0 k))) = false := h
    cases hl : oLf A n lf0 k p with
    | false =>
      obtain ⟨i, hi, e⟩ := oN_all0 hp k hl
      exact ⟨i, by omega, e⟩
    | true =>
      rw [hl] at h'
      have h2 : p = oNx A n (oLf A n lf0 k) := by simpa using h'
      exact ⟨k, by omega, h2⟩
theorem pCt_z {P : Nat → Bool} : ∀ {n : Nat}, pCt P n = 0 → ∀ p, p < n → P p = false
  | 0, _, p, hp => absurd hp (by omega)
  | n + 1, h, p, hp => by
    rw [pCt] at h
    rcases Nat.lt_or_ge p n with q | q
    · exact pCt_z (by omega) p q
    · obtain rfl : p = n := by omega
      cases e : P p with
      | false => rfl
      | true =>
        rw [e, if_pos rfl] at h
        omega
theorem oN_all {A : Nat → Nat → Bool} {n : Nat} {lf0 : Nat → Bool} (h20 : n ≤ 20) {p : Nat} (hp : p < n) (hl : lf0 p = true) : ∃ i, i < pCt lf0 n ∧ p = oN A n lf0 i := by
  have hct := oLf_ct (A := A) (lf0 := lf0) h20 (pCt lf0 n) (Nat.le_refl _)
  exact oN_all0 hl _ (pCt_z (by omega) p hp)
theorem c_De_price {d ns n nr nh nt : Nat} {μ : zMu} {x o day : Int32} {K : Option zV → zMu → Prop} (g : gQ μ ns n nr nh) (g6 : gTb μ nt n) (h0 : ¬ (okI nt x ∧ okO o day) → K (some (zI (-1))) μ)
    (h1 : okO o day → ∀ t z μ' (w : Int32), t < nt → x = nI t → μ 9 t 0 = nI z → z ≤ 12 → zScr μ μ' → (∀ p, p < 20 → (zbt w p = true ↔ ∃ k, k < z ∧ μ 40 t k = nI p)) → (∀ i, i < pCt (cLf0 μ n) n → zbt w (oN (cAd μ o day nr nh n) n (cLf0 μ n) i) = true → μ' 39 0 (oN (cAd μ o day nr nh n) n (cLf0 μ n) i) = nI (pCt (fun i => zbt w (oN (cAd μ o day nr nh n) n (cLf0 μ n) i)) i)) → K (some (zI (pSum (hPr μ' (μ 40 t) (μ 9 t 2) z) z))) μ') : Ct (d + 6) m_De_price [zR 0 0, zI x, zI o, zI day] μ K := by
  refine zmeet rfl (Nat.le_of_ble_eq_true rfl) (fun S => ?_)
  have gq := g
  obtain ⟨g1, g2, g4, g5⟩ := g
  have h20 := g2.2.2.1
  have h4 := g6.2.2.1
  have hm := pCt_le (cLf0 μ n) n
  by_cases hx : okI nt x
  case neg =>
    have hk := h0 (fun q => hx q.1)
    have hx' : ¬ (0 ≤ x ∧ x < μ 5 0 0) := by rw [g6.1]; exact hx
    repeat' (first
      | refine c_Ha_hasTable (fun h h' => absurd ⟨h, h'⟩ hx') (fun _ => ?_)
      | exact hk
      | (refine zs k_De_price rfl ?_; conv => whnf)
      | refine ⟨Nat.zero_lt_one, rfl, ?_⟩
      | refine ⟨rfl, ?_⟩
      | refine ⟨⟨Nat.zero_lt_one, rfl⟩, Nat.le_of_ble_eq_true rfl, ?_⟩
      | refine ⟨Nat.le_of_ble_eq_true rfl, Nat.le_of_ble_eq_true rfl, ?_⟩
      | refine ⟨(by first | exact Nat.zero_lt_one | assumption | omega), (by first | assumption | exact vp_in_nI (by omega) (by omega) | (unfold vp_in; decide)), ?_⟩
      | refine ⟨(by first | exact Nat.zero_lt_one | assumption | omega), rfl, ?_⟩
      | refine ⟨⟨(by first | exact Nat.zero_lt_one | assumption | omega), rfl⟩, Nat.le_of_ble_eq_true rfl, ?_⟩
      | refine ⟨(by first | exact Nat.zero_lt_one | assumption | omega), ?_⟩
      | refine ⟨Or.inl rfl, ?_⟩
      | refine ⟨Or.inr (Or.inl rfl), ?_⟩
      | refine ⟨Or.inr (Or.inr rfl), ?_⟩
      | refine ⟨Or.inr ⟨rfl, (by first | exact Or.inl rfl | exact Or.inr rfl | assumption)⟩, ?_⟩
      | refine ⟨fun h => absurd h (by decide), fun _ => ?_⟩
      | refine ⟨fun _ => ?_, fun h => absurd h (by decide)⟩
      | refine ⟨fun h => ?_, fun h => ?_⟩
      | fail)
  have hx' : 0 ≤ x ∧ x < μ 5 0 0 := by rw [g6.1]; exact hx
  by_cases ho : okO o day
  case neg =>
    have hk := h0 (fun q => ho q.2)
    repeat' (first
      | refine c_Ha_hasTable (fun _ _ => ?_) (fun h => absurd hx' h)
      | refine c_De_isOccasion (fun q => absurd q ho) (fun _ => ?_)
      | exact hk
      | (refine zs k_De_price rfl ?_; conv => whnf)
      | refine ⟨Nat.zero_lt_one, rfl, ?_⟩
      | refine ⟨rfl, ?_⟩
      | refine ⟨⟨Nat.zero_lt_one, rfl⟩, Nat.le_of_ble_eq_true rfl, ?_⟩
      | refine ⟨Nat.le_of_ble_eq_true rfl, Nat.le_of_ble_eq_true rfl, ?_⟩
      | refine ⟨(by first | exact Nat.zero_lt_one | assumption | omega), (by first | assumption | exact vp_in_nI (by omega) (by omega) | (unfold vp_in; decide)), ?_⟩
      | refine ⟨(by first | exact Nat.zero_lt_one | assumption | omega), rfl, ?_⟩
      | refine ⟨⟨(by first | exact Nat.zero_lt_one | assumption | omega), rfl⟩, Nat.le_of_ble_eq_true rfl, ?_⟩
      | refine ⟨(by first | exact Nat.zero_lt_one | assumption | omega), ?_⟩
      | refine ⟨Or.inl rfl, ?_⟩
      | refine ⟨Or.inr (Or.inl rfl), ?_⟩
      | refine ⟨Or.inr (Or.inr rfl), ?_⟩
      | refine ⟨Or.inr ⟨rfl, (by first | exact Or.inl rfl | exact Or.inr rfl | assumption)⟩, ?_⟩
      | refine ⟨fun h => absurd h (by decide), fun _ => ?_⟩
      | refine ⟨fun _ => ?_, fun h => absurd h (by decide)⟩
      | refine ⟨fun h => ?_, fun h => ?_⟩
      | fail)
  rcases zIx x (n := nt) (by omega) with ⟨t, ht, rfl⟩ | q
  case inr => exact absurd hx q
  obtain ⟨-, -, ⟨z, z1, z2, z3, z4, z5⟩, -⟩ := g6.2.2.2 t ht
  have ct : (nI t).toNatClampNeg = t := nI_clamp (by omega)
  have vt : vp_in (nI t) 4 := vp_in_nI (by omega) (by omega)
  have hlt : (nI t).toNatClampNeg < 4 := by omega
  have hrow := g6_row g6 ht
  have V : ∀ μ1 : zMu, zFr7 μ μ1 → cOrd μ μ1 (cAd μ o day nr nh n) n (cLf0 μ n) (pCt (cLf0 μ n) n) → zG S (d + 6) m_De_price K 30 [some (zR 0 0), some (zI (nI t)), some (zI o), some (zI day)] [] μ1 := fun μ1 f1 c1 => by
    have s1 := zFr7_scr f1
    obtain ⟨g1', g2', -, -⟩ := gQ_scr s1 gq
    have e9 : μ1 9 (nI t).toNatClampNeg 0 = nI z := by rw [ct, f1 9 (by decide)]; exact z3
    have e40 : μ1 40 = μ 40 := f1 40 (by decide)
    have e92 : μ1 9 = μ 9 := f1 9 (by decide)
    have hok : ∀ j, j < z → hOk μ1 (μ1 40 (nI t).toNatClampNeg j) := fun j hj => by
      rw [ct, e40]
      exact hOk_of g1' g2' (hrow j (by omega))
    repeat' (first
      | refine c_Ha_priceOf (o := oN (cAd μ o day nr nh n) n (cLf0 μ n)) hlt e9 z2 hok c1.1 (by omega) (fun i hi => ⟨Nat.lt_of_lt_of_le (oN_df h20 i hi).1 h20, c1.2.1 i hi⟩) (oN_inj h20) (fun μ2 w q1 q2 q3 => ?_)
      | refine zKe (h1 ho t z μ2 w ht rfl z3 z2 (zScr_tr s1 ⟨fun f hf => q2 f (fun e => hf (by rw [e]; decide)), by rw [q2 2 (by omega)], fun k _ => by rw [q2 48 (by omega)]⟩) (by rw [ct, e40] at q1; exact q1) q3) (by rw [ct, e40, e92]) rfl
      | (refine zs k_De_price rfl ?_; conv => whnf)
      | refine ⟨Nat.zero_lt_one, rfl, ?_⟩
      | refine ⟨rfl, ?_⟩
      | refine ⟨⟨Nat.zero_lt_one, rfl⟩, Nat.le_of_ble_eq_true rfl, ?_⟩
      | refine ⟨Nat.le_of_ble_eq_true rfl, Nat.le_of_ble_eq_true rfl, ?_⟩
      | refine ⟨(by first | exact Nat.zero_lt_one | assumption | omega), (by first | assumption | exact vp_in_nI (by omega) (by omega) | (unfold vp_in; decide)), ?_⟩
      | refine ⟨(by first | exact Nat.zero_lt_one | assumption | omega), rfl, ?_⟩
      | refine ⟨⟨(by first | exact Nat.zero_lt_one | assumption | omega), rfl⟩, Nat.le_of_ble_eq_true rfl, ?_⟩
      | refine ⟨(by first | exact Nat.zero_lt_one | assumption | omega), ?_⟩
      | refine ⟨Or.inl rfl, ?_⟩
      | refine ⟨Or.inr (Or.inl rfl), ?_⟩
      | refine ⟨Or.inr (Or.inr rfl), ?_⟩
      | refine ⟨Or.inr ⟨rfl, (by first | exact Or.inl rfl | exact Or.inr rfl | assumption)⟩, ?_⟩
      | refine ⟨fun h => absurd h (by decide), fun _ => ?_⟩
      | refine ⟨fun _ => ?_, fun h => absurd h (by decide)⟩
      | refine ⟨fun h => ?_, fun h => ?_⟩
      | fail)
  repeat' (first
    | refine c_Ha_hasTable (fun _ _ => ?_) (fun h => absurd hx' h)
    | refine c_De_isOccasion (fun _ => ?_) (fun q => absurd ho q)
    | refine c_Pr_form g2.1 h20 g4.1 g4.2.2.1 g5.1 g5.2.2.1 (gRu_ok g4) (fun p hp => (g2.2.2.2 p hp).2.1) (fun μ' hf hc => ?_)
    | exact V _ hf hc
    | (refine zs k_De_price rfl ?_; conv => whnf)
    | refine ⟨Nat.zero_lt_one, rfl, ?_⟩
    | refine ⟨rfl, ?_⟩
    | refine ⟨⟨Nat.zero_lt_one, rfl⟩, Nat.le_of_ble_eq_true rfl, ?_⟩
    | refine ⟨Nat.le_of_ble_eq_true rfl, Nat.le_of_ble_eq_true rfl, ?_⟩
    | refine ⟨(by first | exact Nat.zero_lt_one | assumption | omega), (by first | assumption | exact vp_in_nI (by omega) (by omega) | (unfold vp_in; decide)), ?_⟩
    | refine ⟨(by first | exact Nat.zero_lt_one | assumption | omega), rfl, ?_⟩
    | refine ⟨⟨(by first | exact Nat.zero_lt_one | assumption | omega), rfl⟩, Nat.le_of_ble_eq_true rfl, ?_⟩
    | refine ⟨(by first | exact Nat.zero_lt_one | assumption | omega), ?_⟩
    | refine ⟨Or.inl rfl, ?_⟩
    | refine ⟨Or.inr (Or.inl rfl), ?_⟩
    | refine ⟨Or.inr (Or.inr rfl), ?_⟩
    | refine ⟨Or.inr ⟨rfl, (by first | exact Or.inl rfl | exact Or.inr rfl | assumption)⟩, ?_⟩
    | refine ⟨fun h => absurd h (by decide), fun _ => ?_⟩
    | refine ⟨fun _ => ?_, fun h => absurd h (by decide)⟩
    | refine ⟨fun h => ?_, fun h => ?_⟩
    | fail)
theorem c_Mo_price {d ns n nr nh nt : Nat} {μ : zMu} {x o day : Int32} {K : Option zV → zMu → Prop} (g : gQ μ ns n nr nh) (g6 : gTb μ nt n) (g7 : gFe μ) (g8 : gCo μ) (h0 : ¬ (okI nt x ∧ okO o day) → K (some (zI (-1))) μ)
    (h1 : okO o day → ∀ t z μ', t < nt → x = nI t → μ 9 t 0 = nI z → z ≤ 12 → zScr μ μ' → K (some (zI (nI ((mO (μ 40 t) (oN (cAd μ o day nr nh n) n (cLf0 μ n)) z (pCt (cLf0 μ n) n)).1 + nS (mTk μ (μ 40 t) (μ 9 t 2) z) z)))) μ') : Ct (d + 10) m_Mo_price [zR 48 0, zI x, zI o, zI day] μ K := by
  refine zmeet rfl (Nat.le_of_ble_eq_true rfl) (fun S => ?_)
  have h20 := g.2.1.2.2.1
  have h4 := g6.2.2.1
  have hm := pCt_le (cLf0 μ n) n
  by_cases hx : okI nt x
  case neg =>
    have hk := h0 (fun q => hx q.1)
    have hx' : ¬ (0 ≤ x ∧ x < μ 48 0 42) := by rw [g6.2.1]; exact hx
    repeat' (first
      | refine c_Mo_isTable (fun h => absurd h hx') (fun _ => ?_)
      | exact hk
      | (refine zs k_Mo_price rfl ?_; conv => whnf)
      | refine ⟨Nat.zero_lt_one, rfl, ?_⟩
      | refine ⟨rfl, ?_⟩
      | refine ⟨⟨Nat.zero_lt_one, rfl⟩, Nat.le_of_ble_eq_true rfl, ?_⟩
      | refine ⟨Nat.le_of_ble_eq_true rfl, Nat.le_of_ble_eq_true rfl, ?_⟩
      | refine ⟨(by first | exact Nat.zero_lt_one | assumption | omega), (by first | assumption | exact vp_in_nI (by omega) (by omega) | (unfold vp_in; decide)), ?_⟩
      | refine ⟨(by first | exact Nat.zero_lt_one | assumption | omega), rfl, ?_⟩
      | refine ⟨⟨(by first | exact Nat.zero_lt_one | assumption | omega), rfl⟩, Nat.le_of_ble_eq_true rfl, ?_⟩
      | refine ⟨(by first | exact Nat.zero_lt_one | assumption | omega), ?_⟩
      | refine ⟨Or.inl rfl, ?_⟩
      | refine ⟨Or.inr (Or.inl rfl), ?_⟩
      | refine ⟨Or.inr (Or.inr rfl), ?_⟩
      | refine ⟨Or.inr ⟨rfl, (by first | exact Or.inl rfl | exact Or.inr rfl | assumption)⟩, ?_⟩
      | refine ⟨fun h => absurd h (by decide), fun _ => ?_⟩
      | refine ⟨fun _ => ?_, fun h => absurd h (by decide)⟩
      | refine ⟨fun h => ?_, fun h => ?_⟩
      | fail)
  have hx' : 0 ≤ x ∧ x < μ 48 0 42 := by rw [g6.2.1]; exact hx
  by_cases ho : okO o day
  case neg =>
    have hk := h0 (fun q => ho q.2)
    repeat' (first
      | refine c_Mo_isTable (fun _ => ?_) (fun h => absurd hx' h)
      | refine c_Mo_isOccasion (fun q => absurd q ho) (fun _ => ?_)
      | exact hk
      | (refine zs k_Mo_price rfl ?_; conv => whnf)
      | refine ⟨Nat.zero_lt_one, rfl, ?_⟩
      | refine ⟨rfl, ?_⟩
      | refine ⟨⟨Nat.zero_lt_one, rfl⟩, Nat.le_of_ble_eq_true rfl, ?_⟩
      | refine ⟨Nat.le_of_ble_eq_true rfl, Nat.le_of_ble_eq_true rfl, ?_⟩
      | refine ⟨(by first | exact Nat.zero_lt_one | assumption | omega), (by first | assumption | exact vp_in_nI (by omega) (by omega) | (unfold vp_in; decide)), ?_⟩
      | refine ⟨(by first | exact Nat.zero_lt_one | assumption | omega), rfl, ?_⟩
      | refine ⟨⟨(by first | exact Nat.zero_lt_one | assumption | omega), rfl⟩, Nat.le_of_ble_eq_true rfl, ?_⟩
      | refine ⟨(by first | exact Nat.zero_lt_one | assumption | omega), ?_⟩
      | refine ⟨Or.inl rfl, ?_⟩
      | refine ⟨Or.inr (Or.inl rfl), ?_⟩
      | refine ⟨Or.inr (Or.inr rfl), ?_⟩
      | refine ⟨Or.inr ⟨rfl, (by first | exact Or.inl rfl | exact Or.inr rfl | assumption)⟩, ?_⟩
      | refine ⟨fun h => absurd h (by decide), fun _ => ?_⟩
      | refine ⟨fun _ => ?_, fun h => absurd h (by decide)⟩
      | refine ⟨fun h => ?_, fun h => ?_⟩
      | fail)
  rcases zIx x (n := nt) (by omega) with ⟨t, ht, rfl⟩ | q
  case inr => exact absurd hx q
  obtain ⟨a1, a2, ⟨z, z1, z2, z3, z4, z5⟩, a4, -⟩ := g6.2.2.2 t ht
  have hrow := g6_row g6 ht
  have V2 : ∀ μ2 : zMu, zScr μ μ2 → mOrd μ2 (cAd μ o day nr nh n) n (cLf0 μ n) (pCt (cLf0 μ n) n) → (∀ k, k < 12 → μ2 96 0 k = μ 95 0 (12 * t + k)) → zG S (d + 10) m_Mo_price K 29 [some (zR 48 0), some (zI (nI t)), some (zI o), some (zI day)] [] μ2 := fun μ2 s2 c2 e2 => by
    obtain ⟨g1', g2', -, -⟩ := gQ_scr s2 g
    have hT : mT μ2 ns n t z (μ 9 t 2) (μ 40 t) := ⟨g1', g2', gFe_fr (zScr_in s2 rfl) g7, gCo_fr (zScr_in s2 rfl) g8, by omega, by rw [zScr_in s2 (l := [94]) rfl 94 (by simp)]; exact z4, z1, z2, by rw [zScr_in s2 (l := [93]) rfl 93 (by simp)]; exact a2, a1, fun k hk => by rw [e2 k hk]; exact a4 k hk, hrow⟩
    have eT : mTk μ2 (μ 40 t) (μ 9 t 2) z = mTk μ (μ 40 t) (μ 9 t 2) z := by
      funext i
      unfold mTk tN hTk
      rw [zScr_in s2 (l := [38]) rfl 38 (by simp), zScr_in s2 (l := [17]) rfl 17 (by simp)]
    have hk := h1 ho t z μ2 ht rfl z3 z2 s2
    rw [← eT] at hk
    repeat' (first
      | refine c_Mo_priceOf hT rfl c2.1 (by omega) c2.2.1 ?_
      | exact hk
      | (refine zs k_Mo_price rfl ?_; conv => whnf)
      | refine ⟨Nat.zero_lt_one, rfl, ?_⟩
      | refine ⟨rfl, ?_⟩
      | refine ⟨⟨Nat.zero_lt_one, rfl⟩, Nat.le_of_ble_eq_true rfl, ?_⟩
      | refine ⟨Nat.le_of_ble_eq_true rfl, Nat.le_of_ble_eq_true rfl, ?_⟩
      | refine ⟨(by first | exact Nat.zero_lt_one | assumption | omega), (by first | assumption | exact vp_in_nI (by omega) (by omega) | (unfold vp_in; decide)), ?_⟩
      | refine ⟨(by first | exact Nat.zero_lt_one | assumption | omega), rfl, ?_⟩
      | refine ⟨⟨(by first | exact Nat.zero_lt_one | assumption | omega), rfl⟩, Nat.le_of_ble_eq_true rfl, ?_⟩
      | refine ⟨(by first | exact Nat.zero_lt_one | assumption | omega), ?_⟩
      | refine ⟨Or.inl rfl, ?_⟩
      | refine ⟨Or.inr (Or.inl rfl), ?_⟩
      | refine ⟨Or.inr (Or.inr rfl), ?_⟩
      | refine ⟨Or.inr ⟨rfl, (by first | exact Or.inl rfl | exact Or.inr rfl | assumption)⟩, ?_⟩
      | refine ⟨fun h => absurd h (by decide), fun _ => ?_⟩
      | refine ⟨fun _ => ?_, fun h => absurd h (by decide)⟩
      | refine ⟨fun h => ?_, fun h => ?_⟩
      | fail)
  have V : ∀ μ1 : zMu, zScr μ μ1 → mOrd μ1 (cAd μ o day nr nh n) n (cLf0 μ n) (pCt (cLf0 μ n) n) → zG S (d + 10) m_Mo_price K 24 [some (zR 48 0), some (zI (nI t)), some (zI o), some (zI day)] [] μ1 := fun μ1 s1 c1 => by
    have e95 : μ1 95 = μ 95 := zScr_in s1 (l := [95]) rfl 95 (by simp)
    repeat' (first
      | refine c_Mo_take (t := t) (by omega) rfl (fun μ2 e1 e2 => ?_)
      | refine V2 μ2 (zScr_tr s1 (zScr_96 e1)) ⟨by rw [e1 48 (by omega)]; exact c1.1, fun k hk => by rw [e1 86 (by omega)]; exact c1.2.1 k hk, by rw [e1 48 (by omega), e1 89 (by omega)]; exact c1.2.2⟩ (by rw [e95] at e2; exact e2)
      | (refine zs k_Mo_price rfl ?_; conv => whnf)
      | refine ⟨Nat.zero_lt_one, rfl, ?_⟩
      | refine ⟨rfl, ?_⟩
      | refine ⟨⟨Nat.zero_lt_one, rfl⟩, Nat.le_of_ble_eq_true rfl, ?_⟩
      | refine ⟨Nat.le_of_ble_eq_true rfl, Nat.le_of_ble_eq_true rfl, ?_⟩
      | refine ⟨(by first | exact Nat.zero_lt_one | assumption | omega), (by first | assumption | exact vp_in_nI (by omega) (by omega) | (unfold vp_in; decide)), ?_⟩
      | refine ⟨(by first | exact Nat.zero_lt_one | assumption | omega), rfl, ?_⟩
      | refine ⟨⟨(by first | exact Nat.zero_lt_one | assumption | omega), rfl⟩, Nat.le_of_ble_eq_true rfl, ?_⟩
      | refine ⟨(by first | exact Nat.zero_lt_one | assumption | omega), ?_⟩
      | refine ⟨Or.inl rfl, ?_⟩
      | refine ⟨Or.inr (Or.inl rfl), ?_⟩
      | refine ⟨Or.inr (Or.inr rfl), ?_⟩
      | refine ⟨Or.inr ⟨rfl, (by first | exact Or.inl rfl | exact Or.inr rfl | assumption)⟩, ?_⟩
      | refine ⟨fun h => absurd h (by decide), fun _ => ?_⟩
      | refine ⟨fun _ => ?_, fun h => absurd h (by decide)⟩
      | refine ⟨fun h => ?_, fun h => ?_⟩
      | fail)
  repeat' (first
    | refine c_Mo_isTable (fun _ => ?_) (fun h => absurd hx' h)
    | refine c_Mo_isOccasion (fun _ => ?_) (fun q => absurd ho q)
    | refine c_Mo_findOrder g (fun μ' hf hc => ?_)
    | exact V _ hf hc
    | (refine zs k_Mo_price rfl ?_; conv => whnf)
    | refine ⟨Nat.zero_lt_one, rfl, ?_⟩
    | refine ⟨rfl, ?_⟩
    | refine ⟨⟨Nat.zero_lt_one, rfl⟩, Nat.le_of_ble_eq_true rfl, ?_⟩
    | refine ⟨Nat.le_of_ble_eq_true rfl, Nat.le_of_ble_eq_true rfl, ?_⟩
    | refine ⟨(by first | exact Nat.zero_lt_one | assumption | omega), (by first | assumption | exact vp_in_nI (by omega) (by omega) | (unfold vp_in; decide)), ?_⟩
    | refine ⟨(by first | exact Nat.zero_lt_one | assumption | omega), rfl, ?_⟩
    | refine ⟨⟨(by first | exact Nat.zero_lt_one | assumption | omega), rfl⟩, Nat.le_of_ble_eq_true rfl, ?_⟩
    | refine ⟨(by first | exact Nat.zero_lt_one | assumption | omega), ?_⟩
    | refine ⟨Or.inl rfl, ?_⟩
    | refine ⟨Or.inr (Or.inl rfl), ?_⟩
    | refine ⟨Or.inr (Or.inr rfl), ?_⟩
    | refine ⟨Or.inr ⟨rfl, (by first | exact Or.inl rfl | exact Or.inr rfl | assumption)⟩, ?_⟩
    | refine ⟨fun h => absurd h (by decide), fun _ => ?_⟩
    | refine ⟨fun _ => ?_, fun h => absurd h (by decide)⟩
    | refine ⟨fun h => ?_, fun h => ?_⟩
    | fail)
theorem gTb_scr {μ μ' : zMu} {nt n : Nat} (h : zScr μ μ') (g : gTb μ nt n) : gTb μ' nt n := gTb_fr (zScr_in h rfl) (h.2.2 42 (by decide)) g
theorem hPr_fr {μ μ' : zMu} {r : Nat → Int32} {rd : Int32} {z : Nat} (h38 : μ' 38 = μ 38) (h17 : μ' 17 = μ 17) : mTk μ' r rd z = mTk μ r rd z := by
  funext i
  unfold mTk tN hTk
  rw [h38, h17]
theorem b_price {μ : zMu} {x o day : Int32} (h : Rel μ) : Both m_De_price m_Mo_price [zI x, zI o, zI day] μ := by
  intro d K hK
  obtain ⟨ns, n, nr, nh, nt, nb, L, g1, g2, g3, g4, g5, g6, g7, g8, g9, g10, g11⟩ := id h
  have h20 := g2.2.2.1
  have h4 := g6.2.2.1
  have g : gQ μ ns n nr nh := ⟨g1, g2, g4, g5⟩
  have hm := pCt_le (cLf0 μ n) n
  refine c_De_price g g6 (fun a => hK _ _ (fun d K2 hK2 => ?_)) (fun a t z μ1 w ht ex e9 hz s1 q1 q3 => hK _ _ (fun d K2 hK2 => ?_))
  · exact c_Mo_price g g6 g7 g8 (fun _ => hK2 _ h) (fun b t z μ' ht ex => absurd ⟨by rw [ex]; exact okI_i ht (by omega), b⟩ a)
  · subst ex
    obtain ⟨e1, e2⟩ := zScr_ad s1 o day nr nh n
    have f40 : μ1 40 = μ 40 := zScr_in s1 (l := [40]) rfl 40 (by simp)
    have f9 : μ1 9 = μ 9 := zScr_in s1 (l := [9]) rfl 9 (by simp)
    have g1' := gQ_scr s1 g
    have g8' := gCo_fr (zScr_in s1 rfl) g8
    refine c_Mo_price g1' (gTb_scr s1 g6) (gFe_fr (zScr_in s1 rfl) g7) g8' (fun b => absurd ⟨okI_i ht (by omega), a⟩ b) (fun _ t' z' μ2 ht' ex e9' hz' s2 => ?_)
    obtain rfl := (nI_eq (by omega) (by omega)).mp ex
    rw [f9] at e9'
    obtain rfl := (nI_eq (by omega) (by omega)).mp (e9.symm.trans e9')
    obtain ⟨b1, b2, ⟨y, y1, y2, y3, y4, y5⟩, b4, b5, b6⟩ := g6.2.2.2 t ht
    obtain rfl := (nI_eq (by omega) (by omega)).mp (e9.symm.trans y3)
    refine zKe (hK2 _ (Rel_scr (zScr_tr s1 s2) h)) ?_ rfl
    rw [e1, e2, f40, f9]
    refine (price_all (μ := μ1) (ns := ns) (n := n) (sits := zbt w) g1'.1 g1'.2.1 g8' y1 hz (g6_row g6 ht) b6 q1 (fun i hi => Nat.lt_of_lt_of_le (oN_df h20 i hi).1 h20) (by omega) (oN_inj h20) (fun k hk hne => ?_) q3).symm
    rcases b5 k (by omega) with q | ⟨p, hp, q, q10⟩
    · exact absurd q hne
    · obtain ⟨i, hi, e⟩ := oN_all (A := cAd μ o day nr nh n) (lf0 := cLf0 μ n) h20 hp (by unfold cLf0; simp [hp, q10])
      exact ⟨i, hi, by rw [q, e]⟩
/-! MODEL: the next way, the bits, the begin -/
theorem nxR_perm {u v : List Nat} (h : nxR u v) : v.Perm u := by
  obtain ⟨p, x, a, y, b, rfl, rfl, -⟩ := h
  refine List.Perm.append_left p ?_
  have h1 : (b.reverse ++ x :: a.reverse).Perm (x :: (a ++ b)) := by
    refine List.perm_middle.trans (List.Perm.cons x ?_)
    exact ((List.reverse_perm b).append (List.reverse_perm a)).trans List.perm_append_comm
  refine (List.Perm.cons y h1).trans ?_
  refine (List.Perm.swap x y (a ++ b)).trans (List.Perm.cons x ?_)
  exact List.perm_middle.symm
def rvR (r : Nat → Int32) (A B s : Nat) : Nat → Int32 := fun k => if (A ≤ k ∧ k < A + s) ∨ (B < k + s ∧ k ≤ B) then r (A + B - k) else r k
theorem lw_lt {v : List Nat} {i j p q : Nat} (hv : ∀ x ∈ v, x < 20) (hi : v[i]? = some p) (hj : v[j]? = some q) : (lw v i ≤ lw v j ↔ p ≤ q) := by
  rw [lw_at hi, lw_at hj]
  have h1 := hv p (List.mem_of_getElem? hi)
  have h2 := hv q (List.mem_of_getElem? hj)
  exact nI_leI (by omega) (by omega)
theorem c_Mo_isNext_n {d m : Nat} {μ : zMu} {v : List Nat} {x : Int32} {K : Option zV → zMu → Prop} (hm : v.length = m) (h1 : 1 ≤ m) (h12 : m ≤ 12) (hx : x = nI m) (hv : ∀ x ∈ v, x < 20) (hd : v.Pairwise (· > ·)) (hrow : ∀ k, k < 12 → μ 96 0 k = lw v k) (hK : K (some (zI 0)) μ) : Ct d m_Mo_isNext [zR 48 0, zI x] μ K := by
  subst hx
  refine zmeet rfl (Nat.le_of_ble_eq_true rfl) (fun S => ?_)
  have L : ∀ (i : Nat) (w : Int32), i ≤ m - 1 → w = nI i - 1 → zG S d m_Mo_isNext K 4 [some (zR 48 0), some (zI (nI m)), some (zI w), none, none, none, none] [] μ := by
    intro i
    induction i with
    | zero =>
      intro w hi hw
      subst hw
      refine zs k_Mo_isNext rfl ?_; conv => whnf
      repeat' (first
        | refine br_t (show (nI 0 - 1 : Int32) < 0 by decide) ?_
        | refine br_f (show ¬ (0 : Int32) ≤ nI 0 - 1 by decide) ?_
        | exact hK
        | (refine zs k_Mo_isNext rfl ?_; conv => whnf)
        | refine ⟨Nat.zero_lt_one, rfl, ?_⟩
        | refine ⟨rfl, ?_⟩
        | refine ⟨⟨Nat.zero_lt_one, rfl⟩, Nat.le_of_ble_eq_true rfl, ?_⟩
        | refine ⟨Nat.le_of_ble_eq_true rfl, Nat.le_of_ble_eq_true rfl, ?_⟩
        | refine ⟨(by first | exact Nat.zero_lt_one | assumption | omega), (by first | assumption | exact vp_in_nI (by omega) (by omega) | (unfold vp_in; decide)), ?_⟩
        | refine ⟨(by first | exact Nat.zero_lt_one | assumption | omega), rfl, ?_⟩
        | refine ⟨⟨(by first | exact Nat.zero_lt_one | assumption | omega), rfl⟩, Nat.le_of_ble_eq_true rfl, ?_⟩
        | refine ⟨(by first | exact Nat.zero_lt_one | assumption | omega), ?_⟩
        | refine ⟨Or.inl rfl, ?_⟩
        | refine ⟨Or.inr (Or.inl rfl), ?_⟩
        | refine ⟨Or.inr (Or.inr rfl), ?_⟩
        | refine ⟨Or.inr ⟨rfl, (by first | exact Or.inl rfl | exact Or.inr rfl | assumption)⟩, ?_⟩
        | refine ⟨fun h => absurd h (by decide), fun _ => ?_⟩
        | refine ⟨fun _ => ?_, fun h => absurd h (by decide)⟩
        | refine ⟨fun h => ?_, fun h => ?_⟩
        | fail)
    | succ i ih =>
      intro w hi hw
      subst hw
      rw [nI_pred]
      have ci : (nI i).toNatClampNeg = i := nI_clamp (by omega)
      have c1 : (nI i + 1).toNatClampNeg = i + 1 := by rw [nI_1]; exact nI_clamp (by omega)
      have v0 : vp_in (nI i) 12 := vp_in_nI (by omega) (by omega)
      have v1 : vp_in (nI i + 1) 12 := by rw [nI_1]; exact vp_in_nI (by omega) (by omega)
      have g0 : v[i]? = some v[i] := List.getElem?_eq_getElem (by omega)
      have g1 : v[i + 1]? = some v[i + 1] := List.getElem?_eq_getElem (by omega)
      have hgt := List.pairwise_iff_getElem.mp hd i (i + 1) (by omega) (by omega) (by omega)
      have hle : ¬ μ 96 0 (nI i).toNatClampNeg ≤ μ 96 0 (nI i + 1).toNatClampNeg := by
        rw [ci, c1, hrow i (by omega), hrow (i + 1) (by omega), lw_lt hv g0 g1]
        omega
      refine zs k_Mo_isNext rfl ?_; conv => whnf
      repeat' (first
        | refine br_f (nI_pos (by omega)) ?_
        | refine br_f hle ?_
        | refine ih _ (by omega) (by exact i32_m1 _)
        | (refine zs k_Mo_isNext rfl ?_; conv => whnf)
        | refine ⟨Nat.zero_lt_one, rfl, ?_⟩
        | refine ⟨rfl, ?_⟩
        | refine ⟨⟨Nat.zero_lt_one, rfl⟩, Nat.le_of_ble_eq_true rfl, ?_⟩
        | refine ⟨Nat.le_of_ble_eq_true rfl, Nat.le_of_ble_eq_true rfl, ?_⟩
        | refine ⟨(by first | exact Nat.zero_lt_one | assumption | omega), (by first | assumption | exact vp_in_nI (by omega) (by omega) | (unfold vp_in; decide)), ?_⟩
        | refine ⟨(by first | exact Nat.zero_lt_one | assumption | omega), rfl, ?_⟩
        | refine ⟨⟨(by first | exact Nat.zero_lt_one | assumption | omega), rfl⟩, Nat.le_of_ble_eq_true rfl, ?_⟩
        | refine ⟨(by first | exact Nat.zero_lt_one | assumption | omega), ?_⟩
        | refine ⟨Or.inl rfl, ?_⟩
        | refine ⟨Or.inr (Or.inl rfl), ?_⟩
        | refine ⟨Or.inr (Or.inr rfl), ?_⟩
        | refine ⟨Or.inr ⟨rfl, (by first | exact Or.inl rfl | exact Or.inr rfl | assumption)⟩, ?_⟩
        | refine ⟨fun h => absurd h (by decide), fun _ => ?_⟩
        | refine ⟨fun _ => ?_, fun h => absurd h (by decide)⟩
        | refine ⟨fun h => ?_, fun h => ?_⟩
        | fail)
  have h0 : nI m - 2 = nI (m - 1) - 1 := by
    obtain ⟨y, rfl⟩ : ∃ y, m = y + 1 := ⟨m - 1, by omega⟩
    rw [Nat.add_sub_cancel, ← nI_1]
    grind
  repeat' (first
    | exact L (m - 1) _ (Nat.le_refl _) h0
    | (refine zs k_Mo_isNext rfl ?_; conv => whnf)
    | refine ⟨Nat.zero_lt_one, rfl, ?_⟩
    | refine ⟨rfl, ?_⟩
    | refine ⟨⟨Nat.zero_lt_one, rfl⟩, Nat.le_of_ble_eq_true rfl, ?_⟩
    | refine ⟨Nat.le_of_ble_eq_true rfl, Nat.le_of_ble_eq_true rfl, ?_⟩
    | refine ⟨(by first | exact Nat.zero_lt_one | assumption | omega), (by first | assumption | exact vp_in_nI (by omega) (by omega) | (unfold vp_in; decide)), ?_⟩
    | refine ⟨(by first | exact Nat.zero_lt_one | assumption | omega), rfl, ?_⟩
    | refine ⟨⟨(by first | exact Nat.zero_lt_one | assumption | omega), rfl⟩, Nat.le_of_ble_eq_true rfl, ?_⟩
    | refine ⟨(by first | exact Nat.zero_lt_one | assumption | omega), ?_⟩
    | refine ⟨Or.inl rfl, ?_⟩
    | refine ⟨Or.inr (Or.inl rfl), ?_⟩
    | refine ⟨Or.inr (Or.inr rfl), ?_⟩
    | refine ⟨Or.inr ⟨rfl, (by first | exact Or.inl rfl | exact Or.inr rfl | assumption)⟩, ?_⟩
    | refine ⟨fun h => absurd h (by decide), fun _ => ?_⟩
    | refine ⟨fun _ => ?_, fun h => absurd h (by decide)⟩
    | refine ⟨fun h => ?_, fun h => ?_⟩
    | fail)
set_option maxHeartbeats 2000000 in
theorem c_Mo_isNext_y {d m : Nat} {μ : zMu} {u v : List Nat} {x : Int32} {K : Option zV → zMu → Prop} (hn : nxR u v) (hm : u.length = m) (h12 : m ≤ 12) (hx : x = nI m) (hv : ∀ x ∈ u, x < 20) (hrow : ∀ k, k < 12 → μ 96 0 k = lw u k) (hK : ∀ μ', (∀ f, f ≠ 96 → μ' f = μ f) → (∀ k, k < 12 → μ' 96 0 k = lw v k) → K (some (zI 1)) μ') : Ct d m_Mo_isNext [zR 48 0, zI x] μ K := by
  subst hx
  refine zmeet rfl (Nat.le_of_ble_eq_true rfl) (fun S => ?_)
  obtain ⟨p, e, a, y, b, hu, hv2, hdes, hey, hb⟩ := hn
  generalize hT : a ++ y :: b = T at hu hdes
  have hTl : T.length = a.length + 1 + b.length := by rw [← hT]; simp; omega
  have hml : m = p.length + 1 + T.length := by rw [← hm, hu]; simp; omega
  have uP : u[p.length]? = some e := by rw [hu, List.getElem?_append_right (Nat.le_refl _), Nat.sub_self]; rfl
  have uT : ∀ q, u[p.length + 1 + q]? = T[q]? := fun q => by
    rw [hu, List.getElem?_append_right (by omega), show p.length + 1 + q - p.length = q + 1 by omega]
    rfl
  have uP2 : ∀ k, k < p.length → u[k]? = p[k]? := fun k hk => by rw [hu, List.getElem?_append_left hk]
  have Ty : T[a.length]? = some y := by rw [← hT, List.getElem?_append_right (Nat.le_refl _), Nat.sub_self]; rfl
  have Tb : ∀ q z, a.length < q → T[q]? = some z → z < e := fun q z hq hz => by
    rw [← hT, List.getElem?_append_right (by omega), show q - a.length = (q - a.length - 1) + 1 by omega] at hz
    exact hb z (List.mem_of_getElem? (show b[q - a.length - 1]? = some z from hz))
  have Tpos : 0 < T.length := by omega
  have T0 : T[0]? = some T[0] := List.getElem?_eq_getElem Tpos
  have Th : e < T[0] := by
    rcases Nat.eq_zero_or_pos a.length with q | q
    · have := Ty
      rw [q, T0] at this
      have e2 : T[0] = y := Option.some.inj this
      omega
    · have hl : a.length < T.length := by omega
      have := List.pairwise_iff_getElem.mp hdes 0 a.length Tpos hl q
      have e2 : T[a.length] = y := Option.some.inj ((List.getElem?_eq_getElem hl).symm.trans Ty)
      omega
  -- the row behind the exchange, and turned
  generalize hr1 : (fun k => if k = p.length then nI y else if k = p.length + 1 + a.length then nI e else lw u k) = r1
  have fin : ∀ k, k < 12 → lw v k = (if p.length + 1 ≤ k ∧ k ≤ m - 1 then r1 (p.length + 1 + (m - 1) - k) else r1 k) := fun k hk => by
    rw [hv2]
    rcases Nat.lt_or_ge k p.length with q | q
    · rw [if_neg (by omega), ← hr1]
      show _ = (if k = p.length then nI y else if k = p.length + 1 + a.length then nI e else lw u k)
      rw [if_neg (by omega), if_neg (by omega)]
      unfold lw
      rw [List.getElem?_append_left q, uP2 k q]
    · rcases Nat.eq_or_lt_of_le q with q | q
      · subst q
        rw [if_neg (by omega), ← hr1]
        show _ = (if p.length = p.length then nI y else if p.length = p.length + 1 + a.length then nI e else lw u p.length)
        rw [if_pos rfl]
        refine lw_at ?_
        rw [List.getElem?_append_right (Nat.le_refl _), Nat.sub_self]
        rfl
      · have hr : b.reverse ++ e :: a.reverse = (a ++ e :: b).reverse := by simp
        rcases Nat.lt_or_ge k m with q2 | q2
        · rw [if_pos (by omega)]
          have hlen : (a ++ e :: b).length = T.length := by rw [hTl]; simp; omega
          have e1 : (p ++ y :: (b.reverse ++ e :: a.reverse))[k]? = (a ++ e :: b)[m - 1 - k]? := by
            rw [List.getElem?_append_right (by omega), show k - p.length = (k - p.length - 1) + 1 by omega]
            show (b.reverse ++ e :: a.reverse)[k - p.length - 1]? = _
            rw [hr, List.getElem?_reverse (by omega)]
            congr 1
            omega
          unfold lw
          rw [e1, show p.length + 1 + (m - 1) - k = p.length + 1 + (m - 1 - k) by omega, ← hr1]
          show _ = (if p.length + 1 + (m - 1 - k) = p.length then nI y else if p.length + 1 + (m - 1 - k) = p.length + 1 + a.length then nI e else lw u (p.length + 1 + (m - 1 - k)))
          rw [if_neg (by omega)]
          by_cases w : m - 1 - k = a.length
          · rw [if_pos (by omega), w, List.getElem?_append_right (Nat.le_refl _), Nat.sub_self]
            rfl
          · rw [if_neg (by omega)]
            unfold lw
            rw [uT, ← hT]
            rcases Nat.lt_or_ge (m - 1 - k) a.length with w2 | w2
            · rw [List.getElem?_append_left w2, List.getElem?_append_left w2]
            · rw [List.getElem?_append_right w2, List.getElem?_append_right w2, show m - 1 - k - a.length = (m - 1 - k - a.length - 1) + 1 by omega]
              rfl
        · rw [if_neg (by omega), ← hr1]
          show _ = (if k = p.length then nI y else if k = p.length + 1 + a.length then nI e else lw u k)
          rw [if_neg (by omega), if_neg (by omega), lw_out (by rw [List.length_append, List.length_cons, hr, List.length_reverse, List.length_append, List.length_cons]; omega), lw_out (by omega)]
  -- turning
  have L3 : ∀ (k s : Nat) (i j : Int32) (l4 : Option zV) (μ1 : zMu), s + k = m → p.length + 1 + s ≤ m → s ≤ m - 1 → i = nI (p.length + 1 + s) → j = nI (m - 1 - s) → (∀ f, f ≠ 96 → μ1 f = μ f) → (∀ k, k < 12 → μ1 96 0 k = rvR r1 (p.length + 1) (m - 1) s k) → zG S d m_Mo_isNext K 100 [some (zR 48 0), some (zI (nI m)), some (zI (nI p.length)), some (zI (nI (p.length + 1 + a.length))), l4, some (zI i), some (zI j)] [] μ1 := by
    intro k
    induction k with
    | zero =>
      intro s i j l4 μ1 hs h1 h2
      omega
    | succ k ih =>
      intro s i j l4 μ1 hs h1 h2 hi hj e1 e2
      subst hi hj
      rcases Nat.lt_or_ge (p.length + 1 + s) (m - 1 - s) with q | q
      case inr =>
        have hle : nI (m - 1 - s) ≤ nI (p.length + 1 + s) := nI_le q (by omega)
        have hk := hK μ1 e1 (fun k hk => by
          rw [e2 k hk, fin k hk]
          unfold rvR
          by_cases w : p.length + 1 ≤ k ∧ k ≤ m - 1
          · rw [if_pos w]
            by_cases w2 : (p.length + 1 ≤ k ∧ k < p.length + 1 + s) ∨ (m - 1 < k + s ∧ k ≤ m - 1)
            · rw [if_pos w2]
            · rw [if_neg w2, show p.length + 1 + (m - 1) - k = k by omega]
          · rw [if_neg w, if_neg (by omega)])
        refine zs k_Mo_isNext rfl ?_; conv => whnf
        repeat' (first
          | refine br_t hle ?_
          | exact hk
          | (refine zs k_Mo_isNext rfl ?_; conv => whnf)
          | refine ⟨Nat.zero_lt_one, rfl, ?_⟩
          | refine ⟨rfl, ?_⟩
          | refine ⟨⟨Nat.zero_lt_one, rfl⟩, Nat.le_of_ble_eq_true rfl, ?_⟩
          | refine ⟨Nat.le_of_ble_eq_true rfl, Nat.le_of_ble_eq_true rfl, ?_⟩
          | refine ⟨(by first | exact Nat.zero_lt_one | assumption | omega), (by first | assumption | exact vp_in_nI (by omega) (by omega) | (unfold vp_in; decide)), ?_⟩
          | refine ⟨(by first | exact Nat.zero_lt_one | assumption | omega), rfl, ?_⟩
          | refine ⟨⟨(by first | exact Nat.zero_lt_one | assumption | omega), rfl⟩, Nat.le_of_ble_eq_true rfl, ?_⟩
          | refine ⟨(by first | exact Nat.zero_lt_one | assumption | omega), ?_⟩
          | refine ⟨Or.inl rfl, ?_⟩
          | refine ⟨Or.inr (Or.inl rfl), ?_⟩
          | refine ⟨Or.inr (Or.inr rfl), ?_⟩
          | refine ⟨Or.inr ⟨rfl, (by first | exact Or.inl rfl | exact Or.inr rfl | assumption)⟩, ?_⟩
          | refine ⟨fun h => absurd h (by decide), fun _ => ?_⟩
          | refine ⟨fun _ => ?_, fun h => absurd h (by decide)⟩
          | refine ⟨fun h => ?_, fun h => ?_⟩
          | fail)
      have hle : ¬ nI (m - 1 - s) ≤ nI (p.length + 1 + s) := nI_ge q (by omega)
      have ci : (nI (p.length + 1 + s)).toNatClampNeg = p.length + 1 + s := nI_clamp (by omega)
      have cj : (nI (m - 1 - s)).toNatClampNeg = m - 1 - s := nI_clamp (by omega)
      have vi : vp_in (nI (p.length + 1 + s)) 12 := vp_in_nI (by omega) (by omega)
      have vj : vp_in (nI (m - 1 - s)) 12 := vp_in_nI (by omega) (by omega)
      have w1 : μ1 96 0 (p.length + 1 + s) = r1 (p.length + 1 + s) := by
        rw [e2 _ (by omega)]
        unfold rvR
        rw [if_neg (by omega)]
      have w2 : μ1 96 0 (m - 1 - s) = r1 (m - 1 - s) := by
        rw [e2 _ (by omega)]
        unfold rvR
        rw [if_neg (by omega)]
      refine zs k_Mo_isNext rfl ?_; conv => whnf
      repeat' (first
        | refine br_f hle ?_
        | refine ih (s + 1) _ _ _ _ (by omega) (by omega) (by omega) (by exact nI_1 _) ?_ (fun f hf => ?_) (fun k hk => ?_)
        | (refine zs k_Mo_isNext rfl ?_; conv => whnf)
        | refine ⟨Nat.zero_lt_one, rfl, ?_⟩
        | refine ⟨rfl, ?_⟩
        | refine ⟨⟨Nat.zero_lt_one, rfl⟩, Nat.le_of_ble_eq_true rfl, ?_⟩
        | refine ⟨Nat.le_of_ble_eq_true rfl, Nat.le_of_ble_eq_true rfl, ?_⟩
        | refine ⟨(by first | exact Nat.zero_lt_one | assumption | omega), (by first | assumption | exact vp_in_nI (by omega) (by omega) | (unfold vp_in; decide)), ?_⟩
        | refine ⟨(by first | exact Nat.zero_lt_one | assumption | omega), rfl, ?_⟩
        | refine ⟨⟨(by first | exact Nat.zero_lt_one | assumption | omega), rfl⟩, Nat.le_of_ble_eq_true rfl, ?_⟩
        | refine ⟨(by first | exact Nat.zero_lt_one | assumption | omega), ?_⟩
        | refine ⟨Or.inl rfl, ?_⟩
        | refine ⟨Or.inr (Or.inl rfl), ?_⟩
        | refine ⟨Or.inr (Or.inr rfl), ?_⟩
        | refine ⟨Or.inr ⟨rfl, (by first | exact Or.inl rfl | exact Or.inr rfl | assumption)⟩, ?_⟩
        | refine ⟨fun h => absurd h (by decide), fun _ => ?_⟩
        | refine ⟨fun _ => ?_, fun h => absurd h (by decide)⟩
        | refine ⟨fun h => ?_, fun h => ?_⟩
        | fail)
      · rw [i32_m1, show m - 1 - s = (m - 1 - (s + 1)) + 1 by omega, nI_pred]
      · funext c1 c2
        rw [zu_ne (fun z => hf z.1), zu_ne (fun z => hf z.1), e1 f hf]
      · rw [ci, cj]
        by_cases k1 : k = m - 1 - s
        · rw [k1, zu_eq, w1]
          unfold rvR
          rw [if_pos (by omega)]
          congr 1
          omega
        · rw [zu_ne (by omega)]
          by_cases k2 : k = p.length + 1 + s
          · rw [k2, zu_eq, w2]
            unfold rvR
            rw [if_pos (by omega)]
            congr 1
            omega
          · rw [zu_ne (by omega), e2 k hk]
            unfold rvR
            by_cases w : (p.length + 1 ≤ k ∧ k < p.length + 1 + s) ∨ (m - 1 < k + s ∧ k ≤ m - 1)
            · rw [if_pos w, if_pos (by omega)]
            · rw [if_neg w, if_neg (by omega)]
  have cP : (nI p.length).toNatClampNeg = p.length := nI_clamp (by omega)
  have vP : vp_in (nI p.length) 12 := vp_in_nI (by omega) (by omega)
  have rP : μ 96 0 (nI p.length).toNatClampNeg = nI e := by rw [cP, hrow _ (by omega)]; exact lw_at uP
  have cJ : (nI (p.length + 1 + a.length)).toNatClampNeg = p.length + 1 + a.length := nI_clamp (by omega)
  have vJ : vp_in (nI (p.length + 1 + a.length)) 12 := vp_in_nI (by omega) (by omega)
  have uJ : u[p.length + 1 + a.length]? = some y := (uT _).trans Ty
  have rJ : μ 96 0 (nI (p.length + 1 + a.length)).toNatClampNeg = nI y := by rw [cJ, hrow _ (by omega)]; exact lw_at uJ
  have he20 := hv e (List.mem_of_getElem? uP)
  have hy20 := hv y (List.mem_of_getElem? uJ)
  -- the one to exchange with
  have L2 : ∀ (k j : Nat) (w : Int32), j = p.length + 1 + a.length + k → j < m → w = nI j → zG S d m_Mo_isNext K 41 [some (zR 48 0), some (zI (nI m)), some (zI (nI p.length)), some (zI w), none, none, none] [] μ := by
    intro k
    induction k with
    | zero =>
      intro j w hj hjm hw
      subst hw
      obtain rfl : j = p.length + 1 + a.length := hj
      have hle : μ 96 0 (nI p.length).toNatClampNeg ≤ μ 96 0 (nI (p.length + 1 + a.length)).toNatClampNeg := by rw [rP, rJ]; exact nI_le (by omega) (by omega)
      refine zs k_Mo_isNext rfl ?_; conv => whnf
      repeat' (first
        | refine br_t hle ?_
        | refine L3 m 0 _ _ _ _ (by omega) (by omega) (by omega) (by exact nI_1 _) ?_ (fun f hf => ?_) (fun k hk => ?_)
        | (refine zs k_Mo_isNext rfl ?_; conv => whnf)
        | refine ⟨Nat.zero_lt_one, rfl, ?_⟩
        | refine ⟨rfl, ?_⟩
        | refine ⟨⟨Nat.zero_lt_one, rfl⟩, Nat.le_of_ble_eq_true rfl, ?_⟩
        | refine ⟨Nat.le_of_ble_eq_true rfl, Nat.le_of_ble_eq_true rfl, ?_⟩
        | refine ⟨(by first | exact Nat.zero_lt_one | assumption | omega), (by first | assumption | exact vp_in_nI (by omega) (by omega) | (unfold vp_in; decide)), ?_⟩
        | refine ⟨(by first | exact Nat.zero_lt_one | assumption | omega), rfl, ?_⟩
        | refine ⟨⟨(by first | exact Nat.zero_lt_one | assumption | omega), rfl⟩, Nat.le_of_ble_eq_true rfl, ?_⟩
        | refine ⟨(by first | exact Nat.zero_lt_one | assumption | omega), ?_⟩
        | refine ⟨Or.inl rfl, ?_⟩
        | refine ⟨Or.inr (Or.inl rfl), ?_⟩
        | refine ⟨Or.inr (Or.inr rfl), ?_⟩
        | refine ⟨Or.inr ⟨rfl, (by first | exact Or.inl rfl | exact Or.inr rfl | assumption)⟩, ?_⟩
        | refine ⟨fun h => absurd h (by decide), fun _ => ?_⟩
        | refine ⟨fun _ => ?_, fun h => absurd h (by decide)⟩
        | refine ⟨fun h => ?_, fun h => ?_⟩
        | fail)
      · obtain ⟨y', hy'⟩ : ∃ y', m = y' + 1 := ⟨m - 1, by omega⟩
        rw [hy', nI_pred]
        rfl
      · funext c1 c2
        rw [zu_ne (fun z => hf z.1), zu_ne (fun z => hf z.1)]
      · rw [rP, rJ, cP, cJ]
        unfold rvR
        rw [if_neg (by omega), ← hr1]
        show _ = (if k = p.length then nI y else if k = p.length + 1 + a.length then nI e else lw u k)
        by_cases k1 : k = p.length + 1 + a.length
        · rw [k1, zu_eq, if_neg (by omega), if_pos rfl]
        · rw [zu_ne (by omega)]
          by_cases k2 : k = p.length
          · rw [k2, zu_eq, if_pos rfl]
          · rw [zu_ne (by omega), if_neg k2, if_neg k1]
            exact hrow k hk
    | succ k ih =>
      intro j w hj hjm hw
      subst hw
      have cj : (nI j).toNatClampNeg = j := nI_clamp (by omega)
      have vj : vp_in (nI j) 12 := vp_in_nI (by omega) (by omega)
      have hq : a.length + (k + 1) < T.length := by omega
      have g0 : T[a.length + (k + 1)]? = some T[a.length + (k + 1)] := List.getElem?_eq_getElem hq
      have g1 : u[j]? = some T[a.length + (k + 1)] := by
        rw [show j = p.length + 1 + (a.length + (k + 1)) by omega, uT]
        exact g0
      have hlt := Tb _ _ (by omega) g0
      have hle : ¬ μ 96 0 (nI p.length).toNatClampNeg ≤ μ 96 0 (nI j).toNatClampNeg := by
        rw [rP, cj, hrow j (by omega), lw_at g1]
        exact nI_ge hlt (by omega)
      refine zs k_Mo_isNext rfl ?_; conv => whnf
      repeat' (first
        | refine br_f hle ?_
        | refine ih (j - 1) _ (by omega) (by omega) ?_
        | (refine zs k_Mo_isNext rfl ?_; conv => whnf)
        | refine ⟨Nat.zero_lt_one, rfl, ?_⟩
        | refine ⟨rfl, ?_⟩
        | refine ⟨⟨Nat.zero_lt_one, rfl⟩, Nat.le_of_ble_eq_true rfl, ?_⟩
        | refine ⟨Nat.le_of_ble_eq_true rfl, Nat.le_of_ble_eq_true rfl, ?_⟩
        | refine ⟨(by first | exact Nat.zero_lt_one | assumption | omega), (by first | assumption | exact vp_in_nI (by omega) (by omega) | (unfold vp_in; decide)), ?_⟩
        | refine ⟨(by first | exact Nat.zero_lt_one | assumption | omega), rfl, ?_⟩
        | refine ⟨⟨(by first | exact Nat.zero_lt_one | assumption | omega), rfl⟩, Nat.le_of_ble_eq_true rfl, ?_⟩
        | refine ⟨(by first | exact Nat.zero_lt_one | assumption | omega), ?_⟩
        | refine ⟨Or.inl rfl, ?_⟩
        | refine ⟨Or.inr (Or.inl rfl), ?_⟩
        | refine ⟨Or.inr (Or.inr rfl), ?_⟩
        | refine ⟨Or.inr ⟨rfl, (by first | exact Or.inl rfl | exact Or.inr rfl | assumption)⟩, ?_⟩
        | refine ⟨fun h => absurd h (by decide), fun _ => ?_⟩
        | refine ⟨fun _ => ?_, fun h => absurd h (by decide)⟩
        | refine ⟨fun h => ?_, fun h => ?_⟩
        | fail)
      rw [i32_m1]
      obtain ⟨j', rfl⟩ : ∃ j', j = j' + 1 := ⟨j - 1, by omega⟩
      rw [nI_pred, Nat.add_sub_cancel]
  -- where it rises
  have L1 : ∀ (k i : Nat) (w : Int32), i = p.length + k → i + 2 ≤ m → w = nI i → zG S d m_Mo_isNext K 4 [some (zR 48 0), some (zI (nI m)), some (zI w), none, none, none, none] [] μ := by
    intro k
    induction k with
    | zero =>
      intro i w hi him hw
      subst hw
      obtain rfl : i = p.length := hi
      have c1 : (nI p.length + 1).toNatClampNeg = p.length + 1 := by rw [nI_1]; exact nI_clamp (by omega)
      have v1 : vp_in (nI p.length + 1) 12 := by rw [nI_1]; exact vp_in_nI (by omega) (by omega)
      have g1 : u[p.length + 1]? = some T[0] := (uT 0).trans T0
      have h20 := hv _ (List.mem_of_getElem? g1)
      have hle : μ 96 0 (nI p.length).toNatClampNeg ≤ μ 96 0 (nI p.length + 1).toNatClampNeg := by
        rw [rP, c1, hrow _ (by omega), lw_at g1]
        exact nI_le (by omega) (by omega)
      refine zs k_Mo_isNext rfl ?_; conv => whnf
      repeat' (first
        | refine br_f (nI_pos (by omega)) ?_
        | refine br_t hle ?_
        | refine br_t (nI_pos' (by omega)) ?_
        | refine L2 (m - 1 - (p.length + 1 + a.length)) (m - 1) _ (by omega) (by omega) ?_
        | (refine zs k_Mo_isNext rfl ?_; conv => whnf)
        | refine ⟨Nat.zero_lt_one, rfl, ?_⟩
        | refine ⟨rfl, ?_⟩
        | refine ⟨⟨Nat.zero_lt_one, rfl⟩, Nat.le_of_ble_eq_true rfl, ?_⟩
        | refine ⟨Nat.le_of_ble_eq_true rfl, Nat.le_of_ble_eq_true rfl, ?_⟩
        | refine ⟨(by first | exact Nat.zero_lt_one | assumption | omega), (by first | assumption | exact vp_in_nI (by omega) (by omega) | (unfold vp_in; decide)), ?_⟩
        | refine ⟨(by first | exact Nat.zero_lt_one | assumption | omega), rfl, ?_⟩
        | refine ⟨⟨(by first | exact Nat.zero_lt_one | assumption | omega), rfl⟩, Nat.le_of_ble_eq_true rfl, ?_⟩
        | refine ⟨(by first | exact Nat.zero_lt_one | assumption | omega), ?_⟩
        | refine ⟨Or.inl rfl, ?_⟩
        | refine ⟨Or.inr (Or.inl rfl), ?_⟩
        | refine ⟨Or.inr (Or.inr rfl), ?_⟩
        | refine ⟨Or.inr ⟨rfl, (by first | exact Or.inl rfl | exact Or.inr rfl | assumption)⟩, ?_⟩
        | refine ⟨fun h => absurd h (by decide), fun _ => ?_⟩
        | refine ⟨fun _ => ?_, fun h => absurd h (by decide)⟩
        | refine ⟨fun h => ?_, fun h => ?_⟩
        | fail)
      obtain ⟨y', hy'⟩ : ∃ y', m = y' + 1 := ⟨m - 1, by omega⟩
      rw [hy', nI_pred]
      rfl
    | succ k ih =>
      intro i w hi him hw
      subst hw
      have ci : (nI i).toNatClampNeg = i := nI_clamp (by omega)
      have c1 : (nI i + 1).toNatClampNeg = i + 1 := by rw [nI_1]; exact nI_clamp (by omega)
      have v0 : vp_in (nI i) 12 := vp_in_nI (by omega) (by omega)
      have v1 : vp_in (nI i + 1) 12 := by rw [nI_1]; exact vp_in_nI (by omega) (by omega)
      have hk1 : k < T.length := by omega
      have hk2 : k + 1 < T.length := by omega
      have g0 : u[i]? = some T[k] := by
        rw [show i = p.length + 1 + k by omega, uT]
        exact List.getElem?_eq_getElem hk1
      have g1 : u[i + 1]? = some T[k + 1] := by
        rw [show i + 1 = p.length + 1 + (k + 1) by omega, uT]
        exact List.getElem?_eq_getElem hk2
      have hgt := List.pairwise_iff_getElem.mp hdes k (k + 1) hk1 hk2 (by omega)
      have hle : ¬ μ 96 0 (nI i).toNatClampNeg ≤ μ 96 0 (nI i + 1).toNatClampNeg := by
        rw [ci, c1, hrow i (by omega), hrow (i + 1) (by omega), lw_lt hv g0 g1]
        omega
      refine zs k_Mo_isNext rfl ?_; conv => whnf
      repeat' (first
        | refine br_f (nI_pos (by omega)) ?_
        | refine br_f hle ?_
        | refine ih (i - 1) _ (by omega) (by omega) ?_
        | (refine zs k_Mo_isNext rfl ?_; conv => whnf)
        | refine ⟨Nat.zero_lt_one, rfl, ?_⟩
        | refine ⟨rfl, ?_⟩
        | refine ⟨⟨Nat.zero_lt_one, rfl⟩, Nat.le_of_ble_eq_true rfl, ?_⟩
        | refine ⟨Nat.le_of_ble_eq_true rfl, Nat.le_of_ble_eq_true rfl, ?_⟩
        | refine ⟨(by first | exact Nat.zero_lt_one | assumption | omega), (by first | assumption | exact vp_in_nI (by omega) (by omega) | (unfold vp_in; decide)), ?_⟩
        | refine ⟨(by first | exact Nat.zero_lt_one | assumption | omega), rfl, ?_⟩
        | refine ⟨⟨(by first | exact Nat.zero_lt_one | assumption | omega), rfl⟩, Nat.le_of_ble_eq_true rfl, ?_⟩
        | refine ⟨(by first | exact Nat.zero_lt_one | assumption | omega), ?_⟩
        | refine ⟨Or.inl rfl, ?_⟩
        | refine ⟨Or.inr (Or.inl rfl), ?_⟩
        | refine ⟨Or.inr (Or.inr rfl), ?_⟩
        | refine ⟨Or.inr ⟨rfl, (by first | exact Or.inl rfl | exact Or.inr rfl | assumption)⟩, ?_⟩
        | refine ⟨fun h => absurd h (by decide), fun _ => ?_⟩
        | refine ⟨fun _ => ?_, fun h => absurd h (by decide)⟩
        | refine ⟨fun h => ?_, fun h => ?_⟩
        | fail)
      rw [i32_m1]
      obtain ⟨j', rfl⟩ : ∃ j', i = j' + 1 := ⟨i - 1, by omega⟩
      rw [nI_pred, Nat.add_sub_cancel]
  have h0 : nI m - 2 = nI (m - 2) := pk_sub (a := m) (b := 2) (by omega)
  repeat' (first
    | exact L1 (m - 2 - p.length) (m - 2) _ (by omega) (by omega) h0
    | (refine zs k_Mo_isNext rfl ?_; conv => whnf)
    | refine ⟨Nat.zero_lt_one, rfl, ?_⟩
    | refine ⟨rfl, ?_⟩
    | refine ⟨⟨Nat.zero_lt_one, rfl⟩, Nat.le_of_ble_eq_true rfl, ?_⟩
    | refine ⟨Nat.le_of_ble_eq_true rfl, Nat.le_of_ble_eq_true rfl, ?_⟩
    | refine ⟨(by first | exact Nat.zero_lt_one | assumption | omega), (by first | assumption | exact vp_in_nI (by omega) (by omega) | (unfold vp_in; decide)), ?_⟩
    | refine ⟨(by first | exact Nat.zero_lt_one | assumption | omega), rfl, ?_⟩
    | refine ⟨⟨(by first | exact Nat.zero_lt_one | assumption | omega), rfl⟩, Nat.le_of_ble_eq_true rfl, ?_⟩
    | refine ⟨(by first | exact Nat.zero_lt_one | assumption | omega), ?_⟩
    | refine ⟨Or.inl rfl, ?_⟩
    | refine ⟨Or.inr (Or.inl rfl), ?_⟩
    | refine ⟨Or.inr (Or.inr rfl), ?_⟩
    | refine ⟨Or.inr ⟨rfl, (by first | exact Or.inl rfl | exact Or.inr rfl | assumption)⟩, ?_⟩
    | refine ⟨fun h => absurd h (by decide), fun _ => ?_⟩
    | refine ⟨fun _ => ?_, fun h => absurd h (by decide)⟩
    | refine ⟨fun h => ?_, fun h => ?_⟩
    | fail)
-- ---- bits
theorem bit_v {x : Int32} {p : Nat} (hx : bN x < 2 ^ 20) (hp : p < 32) : (x >>> (nI p &&& 31)) &&& 1 = nI (if zbt x p then 1 else 0) := by
  have e : x = nI (bN x) := bN_inj (by rw [bN_nI (bN_lt x)])
  have h1 : (x >>> (nI p &&& 31)) &&& 1 = nI (bN x / 2 ^ p % 2) := by
    conv => lhs; rw [e]
    rw [pk_shrN (by omega) (nI p &&& 31) p (bt_s p hp), bt_1, bN_nI (show bN x / 2 ^ p < 2 ^ 32 from Nat.lt_of_le_of_lt (Nat.div_le_self _ _) (by omega))]
  rw [h1]
  congr 1
  unfold zbt
  rw [Nat.testBit_eq_decide_div_mod_eq]
  have : bN x / 2 ^ p % 2 < 2 := Nat.mod_lt _ (by omega)
  by_cases q : bN x / 2 ^ p % 2 = 1
  · rw [q]
    rfl
  · rw [decide_eq_false q]
    show bN x / 2 ^ p % 2 = 0
    omega
theorem zbt_hi {x : Int32} {n p : Nat} (hx : bN x < 2 ^ n) (hp : n ≤ p) : zbt x p = false := Nat.testBit_lt_two_pow (Nat.lt_of_lt_of_le hx (Nat.pow_le_pow_right (by omega) hp))
theorem pCt_hi {x : Int32} {n : Nat} (hx : bN x < 2 ^ n) : ∀ k, pCt (zbt x) (n + k) = pCt (zbt x) n
  | 0 => rfl
  | k + 1 => by
    show pCt (zbt x) (n + k) + (if zbt x (n + k) then 1 else 0) = _
    rw [zbt_hi hx (by omega), pCt_hi hx k]
    rfl
theorem gsT_hi {x : Int32} {n : Nat} (hx : bN x < 2 ^ n) : ∀ k, gsT x (n + k) = gsT x n
  | 0 => rfl
  | k + 1 => by
    rw [← Nat.add_assoc, gsT_s, zbt_hi hx (by omega), gsT_hi hx k]
    simp
theorem c_Mo_countBits {d : Nat} {μ : zMu} {x : Int32} {K : Option zV → zMu → Prop} (hx : bN x < 2 ^ 20) (hK : K (some (zI (nI (gsT x 20).length))) μ) : Ct d m_Mo_countBits [zI x] μ K := by
  refine zmeet rfl (Nat.le_of_ble_eq_true rfl) (fun S => ?_)
  have L : ∀ (k i : Nat) (c v : Int32), i + k = 31 → v = nI i → c = nI (pCt (zbt x) i) → zG S d m_Mo_countBits K 4 [some (zI x), some (zI c), some (zI v)] [] μ := by
    intro k
    induction k with
    | zero =>
      intro i c v hi hv hc
      obtain rfl : i = 31 := by omega
      subst hv hc
      have e : pCt (zbt x) 31 = (gsT x 20).length := by rw [gsT_len]; exact pCt_hi hx 11
      rw [e]
      refine zs k_Mo_countBits rfl ?_; conv => whnf
      repeat' (first
        | refine br_t (by decide) ?_
        | exact hK
        | (refine zs k_Mo_countBits rfl ?_; conv => whnf)
        | refine ⟨Nat.zero_lt_one, rfl, ?_⟩
        | refine ⟨rfl, ?_⟩
        | refine ⟨⟨Nat.zero_lt_one, rfl⟩, Nat.le_of_ble_eq_true rfl, ?_⟩
        | refine ⟨Nat.le_of_ble_eq_true rfl, Nat.le_of_ble_eq_true rfl, ?_⟩
        | refine ⟨(by first | exact Nat.zero_lt_one | assumption | omega), (by first | assumption | exact vp_in_nI (by omega) (by omega) | (unfold vp_in; decide)), ?_⟩
        | refine ⟨(by first | exact Nat.zero_lt_one | assumption | omega), rfl, ?_⟩
        | refine ⟨⟨(by first | exact Nat.zero_lt_one | assumption | omega), rfl⟩, Nat.le_of_ble_eq_true rfl, ?_⟩
        | refine ⟨(by first | exact Nat.zero_lt_one | assumption | omega), ?_⟩
        | refine ⟨Or.inl rfl, ?_⟩
        | refine ⟨Or.inr (Or.inl rfl), ?_⟩
        | refine ⟨Or.inr (Or.inr rfl), ?_⟩
        | refine ⟨Or.inr ⟨rfl, (by first | exact Or.inl rfl | exact Or.inr rfl | assumption)⟩, ?_⟩
        | refine ⟨fun h => absurd h (by decide), fun _ => ?_⟩
        | refine ⟨fun _ => ?_, fun h => absurd h (by decide)⟩
        | refine ⟨fun h => ?_, fun h => ?_⟩
        | fail)
    | succ k ih =>
      intro i c v hi hv hc
      subst hv
      have hb := bit_v (x := x) (p := i) hx (by omega)
      refine zs k_Mo_countBits rfl ?_; conv => whnf
      repeat' (first
        | refine br_f (nI_ge (b := 31) (by omega) (by omega)) ?_
        | refine ih (i + 1) _ _ (by omega) (by exact nI_1 i) ?_
        | (refine zs k_Mo_countBits rfl ?_; conv => whnf)
        | refine ⟨Nat.zero_lt_one, rfl, ?_⟩
        | refine ⟨rfl, ?_⟩
        | refine ⟨⟨Nat.zero_lt_one, rfl⟩, Nat.le_of_ble_eq_true rfl, ?_⟩
        | refine ⟨Nat.le_of_ble_eq_true rfl, Nat.le_of_ble_eq_true rfl, ?_⟩
        | refine ⟨(by first | exact Nat.zero_lt_one | assumption | omega), (by first | assumption | exact vp_in_nI (by omega) (by omega) | (unfold vp_in; decide)), ?_⟩
        | refine ⟨(by first | exact Nat.zero_lt_one | assumption | omega), rfl, ?_⟩
        | refine ⟨⟨(by first | exact Nat.zero_lt_one | assumption | omega), rfl⟩, Nat.le_of_ble_eq_true rfl, ?_⟩
        | refine ⟨(by first | exact Nat.zero_lt_one | assumption | omega), ?_⟩
        | refine ⟨Or.inl rfl, ?_⟩
        | refine ⟨Or.inr (Or.inl rfl), ?_⟩
        | refine ⟨Or.inr (Or.inr rfl), ?_⟩
        | refine ⟨Or.inr ⟨rfl, (by first | exact Or.inl rfl | exact Or.inr rfl | assumption)⟩, ?_⟩
        | refine ⟨fun h => absurd h (by decide), fun _ => ?_⟩
        | refine ⟨fun _ => ?_, fun h => absurd h (by decide)⟩
        | refine ⟨fun h => ?_, fun h => ?_⟩
        | fail)
      rw [hb, hc, nI_add]
      rfl
  repeat' (first
    | exact L 31 0 _ _ (by omega) rfl rfl
    | (refine zs k_Mo_countBits rfl ?_; conv => whnf)
    | refine ⟨Nat.zero_lt_one, rfl, ?_⟩
    | refine ⟨rfl, ?_⟩
    | refine ⟨⟨Nat.zero_lt_one, rfl⟩, Nat.le_of_ble_eq_true rfl, ?_⟩
    | refine ⟨Nat.le_of_ble_eq_true rfl, Nat.le_of_ble_eq_true rfl, ?_⟩
    | refine ⟨(by first | exact Nat.zero_lt_one | assumption | omega), (by first | assumption | exact vp_in_nI (by omega) (by omega) | (unfold vp_in; decide)), ?_⟩
    | refine ⟨(by first | exact Nat.zero_lt_one | assumption | omega), rfl, ?_⟩
    | refine ⟨⟨(by first | exact Nat.zero_lt_one | assumption | omega), rfl⟩, Nat.le_of_ble_eq_true rfl, ?_⟩
    | refine ⟨(by first | exact Nat.zero_lt_one | assumption | omega), ?_⟩
    | refine ⟨Or.inl rfl, ?_⟩
    | refine ⟨Or.inr (Or.inl rfl), ?_⟩
    | refine ⟨Or.inr (Or.inr rfl), ?_⟩
    | refine ⟨Or.inr ⟨rfl, (by first | exact Or.inl rfl | exact Or.inr rfl | assumption)⟩, ?_⟩
    | refine ⟨fun h => absurd h (by decide), fun _ => ?_⟩
    | refine ⟨fun _ => ?_, fun h => absurd h (by decide)⟩
    | refine ⟨fun h => ?_, fun h => ?_⟩
    | fail)
theorem c_Mo_begin {d n : Nat} {μ : zMu} {x : Int32} {K : Option zV → zMu → Prop} (hn : μ 48 0 5 = nI n) (h20 : n ≤ 20) (hx : bN x < 2 ^ n) (h7 : (gsT x 20).length ≤ 7) (hK : ∀ μ', (∀ f, f ≠ 96 → μ' f = μ f) → (∀ k, k < 12 → μ' 96 0 k = lw (gsT x 20) k) → K (some (zI (nI (gsT x 20).length))) μ') : Ct d m_Mo_begin [zR 48 0, zI x] μ K := by
  refine zmeet rfl (Nat.le_of_ble_eq_true rfl) (fun S => ?_)
  have hp : 2 ^ n ≤ 2 ^ 20 := Nat.pow_le_pow_right (by omega) h20
  have hgs : gsT x 20 = gsT x n := by
    have := gsT_hi hx (20 - n)
    rw [show n + (20 - n) = 20 by omega] at this
    exact this
  have L2 : ∀ (k i : Nat) (c v : Int32) (μ1 : zMu), i + k = n → v = nI i → c = nI (gsT x i).length → (∀ f, f ≠ 96 → μ1 f = μ f) → (∀ k, k < 12 → μ1 96 0 k = lw (gsT x i) k) → zG S d m_Mo_begin K 25 [some (zR 48 0), some (zI x), some (zI c), some (zI v)] [] μ1 := by
    intro k
    induction k with
    | zero =>
      intro i c v μ1 hi hv hc e1 e2
      obtain rfl : i = n := by omega
      subst hv hc
      have hk := hK μ1 e1 (fun k hk => by rw [hgs]; exact e2 k hk)
      rw [hgs] at hk
      have hle : μ1 48 0 5 ≤ nI i := by rw [e1 48 (by omega), hn]; exact nI_le (Nat.le_refl _) (by omega)
      refine zs k_Mo_begin rfl ?_; conv => whnf
      repeat' (first
        | refine br_t hle ?_
        | exact hk
        | (refine zs k_Mo_begin rfl ?_; conv => whnf)
        | refine ⟨Nat.zero_lt_one, rfl, ?_⟩
        | refine ⟨rfl, ?_⟩
        | refine ⟨⟨Nat.zero_lt_one, rfl⟩, Nat.le_of_ble_eq_true rfl, ?_⟩
        | refine ⟨Nat.le_of_ble_eq_true rfl, Nat.le_of_ble_eq_true rfl, ?_⟩
        | refine ⟨(by first | exact Nat.zero_lt_one | assumption | omega), (by first | assumption | exact vp_in_nI (by omega) (by omega) | (unfold vp_in; decide)), ?_⟩
        | refine ⟨(by first | exact Nat.zero_lt_one | assumption | omega), rfl, ?_⟩
        | refine ⟨⟨(by first | exact Nat.zero_lt_one | assumption | omega), rfl⟩, Nat.le_of_ble_eq_true rfl, ?_⟩
        | refine ⟨(by first | exact Nat.zero_lt_one | assumption | omega), ?_⟩
        | refine ⟨Or.inl rfl, ?_⟩
        | refine ⟨Or.inr (Or.inl rfl), ?_⟩
        | refine ⟨Or.inr (Or.inr rfl), ?_⟩
        | refine ⟨Or.inr ⟨rfl, (by first | exact Or.inl rfl | exact Or.inr rfl | assumption)⟩, ?_⟩
        | refine ⟨fun h => absurd h (by decide), fun _ => ?_⟩
        | refine ⟨fun _ => ?_, fun h => absurd h (by decide)⟩
        | refine ⟨fun h => ?_, fun h => ?_⟩
        | fail)
    | succ k ih =>
      intro i c v μ1 hi hv hc e1 e2
      subst hv
      have hle : ¬ μ1 48 0 5 ≤ nI i := by rw [e1 48 (by omega), hn]; exact nI_ge (by omega) (by omega)
      have hb := bit_v (x := x) (p := i) (by omega) (by omega)
      have hs := gsT_s x i
      obtain ⟨u, hu⟩ := gsT_pre (x := x) (p := i + 1) (n - (i + 1))
      rw [show i + 1 + (n - (i + 1)) = n by omega, ← hgs] at hu
      have hlen : (gsT x (i + 1)).length ≤ 7 := by
        have := congrArg List.length hu
        rw [List.length_append] at this
        omega
      cases hz : zbt x i with
      | true =>
        rw [hz] at hb hs
        have hb' : (x >>> (nI i &&& 31)) &&& 1 = 1 := hb
        rw [if_pos rfl] at hs
        rw [hs, List.length_append, List.length_singleton] at hlen
        have cc : c.toNatClampNeg = (gsT x i).length := by rw [hc]; exact nI_clamp (by omega)
        have vc : vp_in c 12 := by rw [hc]; exact vp_in_nI (by omega) (by omega)
        refine zs k_Mo_begin rfl ?_; conv => whnf
        repeat' (first
          | refine br_f hle ?_
          | refine bn_f hb' ?_
          | refine ih (i + 1) _ _ _ (by omega) (by exact nI_1 i) ?_ (fun f hf => ?_) (fun k hk => ?_)
          | (refine zs k_Mo_begin rfl ?_; conv => whnf)
          | refine ⟨Nat.zero_lt_one, rfl, ?_⟩
          | refine ⟨rfl, ?_⟩
          | refine ⟨⟨Nat.zero_lt_one, rfl⟩, Nat.le_of_ble_eq_true rfl, ?_⟩
          | refine ⟨Nat.le_of_ble_eq_true rfl, Nat.le_of_ble_eq_true rfl, ?_⟩
          | refine ⟨(by first | exact Nat.zero_lt_one | assumption | omega), (by first | assumption | exact vp_in_nI (by omega) (by omega) | (unfold vp_in; decide)), ?_⟩
          | refine ⟨(by first | exact Nat.zero_lt_one | assumption | omega), rfl, ?_⟩
          | refine ⟨⟨(by first | exact Nat.zero_lt_one | assumption | omega), rfl⟩, Nat.le_of_ble_eq_true rfl, ?_⟩
          | refine ⟨(by first | exact Nat.zero_lt_one | assumption | omega), ?_⟩
          | refine ⟨Or.inl rfl, ?_⟩
          | refine ⟨Or.inr (Or.inl rfl), ?_⟩
          | refine ⟨Or.inr (Or.inr rfl), ?_⟩
          | refine ⟨Or.inr ⟨rfl, (by first | exact Or.inl rfl | exact Or.inr rfl | assumption)⟩, ?_⟩
          | refine ⟨fun h => absurd h (by decide), fun _ => ?_⟩
          | refine ⟨fun _ => ?_, fun h => absurd h (by decide)⟩
          | refine ⟨fun h => ?_, fun h => ?_⟩
          | fail)
        · rw [hs, List.length_append, List.length_singleton, hc, nI_1]
        · funext a b
          rw [zu_ne (fun z => hf z.1), e1 f hf]
        · rw [cc, hs]
          by_cases q : k = (gsT x i).length
          · rw [q, zu_eq]
            exact lw_new.symm
          · rw [zu_ne (by omega), e2 k hk]
            rcases Nat.lt_or_ge k (gsT x i).length with w | w
            · exact (lw_app w).symm
            · rw [lw_out w, lw_out (by rw [List.length_append, List.length_singleton]; omega)]
      | false =>
        rw [hz] at hb hs
        have hb' : ¬ (x >>> (nI i &&& 31)) &&& 1 = 1 := by rw [hb]; decide
        have hs' : gsT x (i + 1) = gsT x i := by rw [hs]; simp
        refine zs k_Mo_begin rfl ?_; conv => whnf
        repeat' (first
          | refine br_f hle ?_
          | refine bn_t hb' ?_
          | refine ih (i + 1) _ _ _ (by omega) (by exact nI_1 i) (by rw [hs']; exact hc) e1 (by rw [hs']; exact e2)
          | (refine zs k_Mo_begin rfl ?_; conv => whnf)
          | refine ⟨Nat.zero_lt_one, rfl, ?_⟩
          | refine ⟨rfl, ?_⟩
          | refine ⟨⟨Nat.zero_lt_one, rfl⟩, Nat.le_of_ble_eq_true rfl, ?_⟩
          | refine ⟨Nat.le_of_ble_eq_true rfl, Nat.le_of_ble_eq_true rfl, ?_⟩
          | refine ⟨(by first | exact Nat.zero_lt_one | assumption | omega), (by first | assumption | exact vp_in_nI (by omega) (by omega) | (unfold vp_in; decide)), ?_⟩
          | refine ⟨(by first | exact Nat.zero_lt_one | assumption | omega), rfl, ?_⟩
          | refine ⟨⟨(by first | exact Nat.zero_lt_one | assumption | omega), rfl⟩, Nat.le_of_ble_eq_true rfl, ?_⟩
          | refine ⟨(by first | exact Nat.zero_lt_one | assumption | omega), ?_⟩
          | refine ⟨Or.inl rfl, ?_⟩
          | refine ⟨Or.inr (Or.inl rfl), ?_⟩
          | refine ⟨Or.inr (Or.inr rfl), ?_⟩
          | refine ⟨Or.inr ⟨rfl, (by first | exact Or.inl rfl | exact Or.inr rfl | assumption)⟩, ?_⟩
          | refine ⟨fun h => absurd h (by decide), fun _ => ?_⟩
          | refine ⟨fun _ => ?_, fun h => absurd h (by decide)⟩
          | refine ⟨fun h => ?_, fun h => ?_⟩
          | fail)
  have L1 : ∀ (k i : Nat) (v : Int32) (μ1 : zMu), i + k = 12 → v = nI i → (∀ f, f ≠ 96 → μ1 f = μ f) → (∀ k, k < i → μ1 96 0 k = -1) → zG S d m_Mo_begin K 4 [some (zR 48 0), some (zI x), some (zI 0), some (zI v)] [] μ1 := by
    intro k
    induction k with
    | zero =>
      intro i v μ1 hi hv e1 e2
      obtain rfl : i = 12 := by omega
      subst hv
      refine zs k_Mo_begin rfl ?_; conv => whnf
      repeat' (first
        | refine br_t (by decide) ?_
        | refine L2 n 0 _ _ _ (by omega) rfl rfl e1 (fun k hk => (e2 k hk).trans (lw_out (Nat.zero_le _)).symm)
        | (refine zs k_Mo_begin rfl ?_; conv => whnf)
        | refine ⟨Nat.zero_lt_one, rfl, ?_⟩
        | refine ⟨rfl, ?_⟩
        | refine ⟨⟨Nat.zero_lt_one, rfl⟩, Nat.le_of_ble_eq_true rfl, ?_⟩
        | refine ⟨Nat.le_of_ble_eq_true rfl, Nat.le_of_ble_eq_true rfl, ?_⟩
        | refine ⟨(by first | exact Nat.zero_lt_one | assumption | omega), (by first | assumption | exact vp_in_nI (by omega) (by omega) | (unfold vp_in; decide)), ?_⟩
        | refine ⟨(by first | exact Nat.zero_lt_one | assumption | omega), rfl, ?_⟩
        | refine ⟨⟨(by first | exact Nat.zero_lt_one | assumption | omega), rfl⟩, Nat.le_of_ble_eq_true rfl, ?_⟩
        | refine ⟨(by first | exact Nat.zero_lt_one | assumption | omega), ?_⟩
        | refine ⟨Or.inl rfl, ?_⟩
        | refine ⟨Or.inr (Or.inl rfl), ?_⟩
        | refine ⟨Or.inr (Or.inr rfl), ?_⟩
        | refine ⟨Or.inr ⟨rfl, (by first | exact Or.inl rfl | exact Or.inr rfl | assumption)⟩, ?_⟩
        | refine ⟨fun h => absurd h (by decide), fun _ => ?_⟩
        | refine ⟨fun _ => ?_, fun h => absurd h (by decide)⟩
        | refine ⟨fun h => ?_, fun h => ?_⟩
        | fail)
    | succ k ih =>
      intro i v μ1 hi hv e1 e2
      subst hv
      have ci : (nI i).toNatClampNeg = i := nI_clamp (by omega)
      refine zs k_Mo_begin rfl ?_; conv => whnf
      repeat' (first
        | refine br_f (nI_ge (b := 12) (by omega) (by omega)) ?_
        | refine ih (i + 1) _ _ (by omega) (by exact nI_1 i) (fun f hf => ?_) (fun k hk => ?_)
        | (refine zs k_Mo_begin rfl ?_; conv => whnf)
        | refine ⟨Nat.zero_lt_one, rfl, ?_⟩
        | refine ⟨rfl, ?_⟩
        | refine ⟨⟨Nat.zero_lt_one, rfl⟩, Nat.le_of_ble_eq_true rfl, ?_⟩
        | refine ⟨Nat.le_of_ble_eq_true rfl, Nat.le_of_ble_eq_true rfl, ?_⟩
        | refine ⟨(by first | exact Nat.zero_lt_one | assumption | omega), (by first | assumption | exact vp_in_nI (by omega) (by omega) | (unfold vp_in; decide)), ?_⟩
        | refine ⟨(by first | exact Nat.zero_lt_one | assumption | omega), rfl, ?_⟩
        | refine ⟨⟨(by first | exact Nat.zero_lt_one | assumption | omega), rfl⟩, Nat.le_of_ble_eq_true rfl, ?_⟩
        | refine ⟨(by first | exact Nat.zero_lt_one | assumption | omega), ?_⟩
        | refine ⟨Or.inl rfl, ?_⟩
        | refine ⟨Or.inr (Or.inl rfl), ?_⟩
        | refine ⟨Or.inr (Or.inr rfl), ?_⟩
        | refine ⟨Or.inr ⟨rfl, (by first | exact Or.inl rfl | exact Or.inr rfl | assumption)⟩, ?_⟩
        | refine ⟨fun h => absurd h (by decide), fun _ => ?_⟩
        | refine ⟨fun _ => ?_, fun h => absurd h (by decide)⟩
        | refine ⟨fun h => ?_, fun h => ?_⟩
        | fail)
      · funext a b
        rw [zu_ne (fun z => hf z.1), e1 f hf]
      · rw [ci]
        by_cases q : k = i
        · rw [q, zu_eq]
        · rw [zu_ne (by omega)]
          exact e2 k (by omega)
  repeat' (first
    | refine L1 12 0 _ _ (by omega) rfl (fun _ _ => rfl) (fun k hk => absurd hk (by omega))
    | (refine zs k_Mo_begin rfl ?_; conv => whnf)
    | refine ⟨Nat.zero_lt_one, rfl, ?_⟩
    | refine ⟨rfl, ?_⟩
    | refine ⟨⟨Nat.zero_lt_one, rfl⟩, Nat.le_of_ble_eq_true rfl, ?_⟩
    | refine ⟨Nat.le_of_ble_eq_true rfl, Nat.le_of_ble_eq_true rfl, ?_⟩
    | refine ⟨(by first | exact Nat.zero_lt_one | assumption | omega), (by first | assumption | exact vp_in_nI (by omega) (by omega) | (unfold vp_in; decide)), ?_⟩
    | refine ⟨(by first | exact Nat.zero_lt_one | assumption | omega), rfl, ?_⟩
    | refine ⟨⟨(by first | exact Nat.zero_lt_one | assumption | omega), rfl⟩, Nat.le_of_ble_eq_true rfl, ?_⟩
    | refine ⟨(by first | exact Nat.zero_lt_one | assumption | omega), ?_⟩
    | refine ⟨Or.inl rfl, ?_⟩
    | refine ⟨Or.inr (Or.inl rfl), ?_⟩
    | refine ⟨Or.inr (Or.inr rfl), ?_⟩
    | refine ⟨Or.inr ⟨rfl, (by first | exact Or.inl rfl | exact Or.inr rfl | assumption)⟩, ?_⟩
    | refine ⟨fun h => absurd h (by decide), fun _ => ?_⟩
    | refine ⟨fun _ => ?_, fun h => absurd h (by decide)⟩
    | refine ⟨fun h => ?_, fun h => ?_⟩
    | fail)
/-! DESK: lay -/
def okLy (x : Int32) (n z : Nat) : Prop := bN x < 2 ^ n ∧ 1 ≤ (gsT x 20).length ∧ (gsT x 20).length ≤ 7 ∧ (gsT x 20).length ≤ z
theorem ln0 {x : Int32} (hx : bN x < 2 ^ 20) : (gsT x 20).length = 0 ↔ x = 0 := by
  constructor
  · intro h
    have h0 : ∀ p, p < 20 → zbt x p = false := fun p hp => by
      cases e : zbt x p with
      | false => rfl
      | true =>
        have hm : p ∈ gsT x 20 := gsT_mem.mpr ⟨hp, e⟩
        rw [List.eq_nil_of_length_eq_zero h] at hm
        cases hm
    have hb : bN x = 0 := by
      refine Nat.eq_of_testBit_eq (fun i => ?_)
      rw [Nat.zero_testBit]
      rcases Nat.lt_or_ge i 20 with q | q
      · exact h0 i q
      · exact zbt_hi hx q
    exact bN_inj (by rw [hb]; rfl)
  · intro h
    rw [h]
    decide
def fd (kp : List Nat → Bool) (pr : List Nat → Nat) (l : List (List Nat)) : Nat × List Nat := ((l.filter kp).map (fun v => (pr v, v))).foldl bst (1000000, [])
theorem fd_snoc {kp : List Nat → Bool} {pr : List Nat → Nat} {l : List (List Nat)} {v : List Nat} : fd kp pr (l ++ [v]) = if kp v = true then bst (fd kp pr l) (pr v, v) else fd kp pr l := by
  unfold fd
  rw [List.filter_append, List.map_append, List.foldl_append]
  by_cases h : kp v = true
  · rw [if_pos h, List.filter_cons_of_pos h]
    rfl
  · rw [if_neg h, List.filter_cons_of_neg h]
    rfl
theorem fd_le {kp : List Nat → Bool} {pr : List Nat → Nat} {l : List (List Nat)} : (fd kp pr l).1 ≤ 1000000 := bst_le
def lsB (b : Nat) : Int32 := if b = 1000000 then -6 else nI b
theorem lw_ok {v gs : List Nat} {n : Nat} (hp : v.Perm gs) (hg : ∀ g ∈ gs, g < n) : ∀ k, pOk n (lw v k) := fun k => by
  unfold lw
  cases h : v[k]? with
  | none => exact Or.inl rfl
  | some p => exact Or.inr ⟨p, hg p (hp.mem_iff.mp (List.mem_of_getElem? h)), rfl⟩
theorem lw_inj {v : List Nat} (hn : v.Nodup) (h20 : ∀ g ∈ v, g < 20) {j k : Nat} (hjk : j < k) (e : lw v j = lw v k) : lw v j = -1 := by
  unfold lw at *
  cases h : v[j]? with
  | none => rfl
  | some p =>
    rw [h] at e
    cases h' : v[k]? with
    | none =>
      rw [h'] at e
      have := h20 p (List.mem_of_getElem? h)
      exact absurd e (nI_nem1 (by omega))
    | some q =>
      rw [h'] at e
      have hp := h20 p (List.mem_of_getElem? h)
      have hq := h20 q (List.mem_of_getElem? h')
      obtain rfl : p = q := (nI_eq (by omega) (by omega)).mp e
      exact absurd (gs_ix hn h h') (by omega)
theorem lw_mem {v : List Nat} {z p : Nat} (hp : p < 20) (h20 : ∀ g ∈ v, g < 20) (hz : v.length ≤ z) : (∃ k, k < z ∧ lw v k = nI p) ↔ p ∈ v := by
  constructor
  · rintro ⟨k, hk, e⟩
    unfold lw at e
    cases h : v[k]? with
    | none =>
      rw [h] at e
      exact absurd e.symm (nI_nem1 (by omega))
    | some q =>
      rw [h] at e
      have hq := h20 q (List.mem_of_getElem? h)
      obtain rfl : q = p := (nI_eq (by omega) (by omega)).mp e
      exact List.mem_of_getElem? h
  · intro h
    obtain ⟨k, hk, e⟩ := List.getElem_of_mem h
    exact ⟨k, by omega, lw_at (by rw [List.getElem?_eq_getElem hk, e])⟩
def gTw (μ : zMu) (nt : Nat) : Prop := μ 48 0 42 = nI nt ∧ nt ≤ 4 ∧ ∀ t, t < nt → (μ 9 t 2 = 0 ∨ μ 9 t 2 = 1) ∧ μ 93 0 t = μ 9 t 2 ∧ ∃ z, 2 ≤ z ∧ z ≤ 12 ∧ μ 9 t 0 = nI z ∧ μ 94 0 t = nI z
set_option maxHeartbeats 4000000 in
theorem c_Mo_lay {d ns n nr nh nt : Nat} {μ : zMu} {x o day w : Int32} {K : Option zV → zMu → Prop} (g : gQ μ ns n nr nh) (g6 : gTw μ nt) (g7 : gFe μ) (g8 : gCo μ) (h0 : ¬ (okI nt x ∧ okO o day) → K (some (zI (-1))) μ)
    (h1 : ∀ t z, okO o day → t < nt → x = nI t → μ 9 t 0 = nI z → z ≤ 12 → ¬ okLy w n z → K (some (zI (-2))) μ)
    (h2 : ∀ t z, okO o day → t < nt → x = nI t → μ 9 t 0 = nI z → z ≤ 12 → okLy w n z → ¬ cAll μ w n → K (some (zI (-3))) μ)
    (h3 : ∀ t z, okO o day → t < nt → x = nI t → μ 9 t 0 = nI z → z ≤ 12 → okLy w n z → cAll μ w n → ∃ kp pr, (∀ v : List Nat, v.Perm (gsT w 20) → (mKp μ (lw v) (μ 9 t 2) z ↔ kp v = true)) ∧ (∀ v : List Nat, v.Perm (gsT w 20) → nI ((mO (lw v) (oN (cAd μ o day nr nh n) n (cLf0 μ n)) z (pCt (cLf0 μ n) n)).1 + nS (mTk μ (lw v) (μ 9 t 2) z) z) = nI (pr v) ∧ pr v < 1000000) ∧ ((fd kp pr (pm (gsT w 20).length [] (gsT w 20))).1 = 1000000 → ∀ μ', zScr μ μ' → K (some (zI (-6))) μ') ∧ ((fd kp pr (pm (gsT w 20).length [] (gsT w 20))).1 < 1000000 → ∀ μ' μ2, zScr μ μ2 → (∀ f, f ≠ 95 → μ' f = μ2 f) → (∀ k, ¬ (12 * t ≤ k ∧ k < 12 * t + 12) → μ' 95 0 k = μ 95 0 k) → (∀ k, k < 12 → μ' 95 0 (12 * t + k) = lw (fd kp pr (pm (gsT w 20).length [] (gsT w 20))).2 k) → K (some (zI (nI (fd kp pr (pm (gsT w 20).length [] (gsT w 20))).1))) μ')) : Ct (d + 10) m_Mo_lay [zR 48 0, zI x, zI o, zI day, zI w] μ K := by
  refine zmeet rfl (Nat.le_of_ble_eq_true rfl) (fun S => ?_)
  have h20 := g.2.1.2.2.1
  have hn := g.2.1.2.1
  have h4 := g6.2.1
  have hm := pCt_le (cLf0 μ n) n
  have hpn : 2 ^ n ≤ 2 ^ 20 := Nat.pow_le_pow_right (by omega) h20
  by_cases hx : okI nt x
  case neg =>
    have hk := h0 (fun q => hx q.1)
    have hx' : ¬ (0 ≤ x ∧ x < μ 48 0 42) := by rw [g6.1]; exact hx
    repeat' (first
      | refine c_Mo_isTable (fun h => absurd h hx') (fun _ => ?_)
      | exact hk
      | (refine zs k_Mo_lay rfl ?_; conv => whnf)
      | refine ⟨Nat.zero_lt_one, rfl, ?_⟩
      | refine ⟨rfl, ?_⟩
      | refine ⟨⟨Nat.zero_lt_one, rfl⟩, Nat.le_of_ble_eq_true rfl, ?_⟩
      | refine ⟨Nat.le_of_ble_eq_true rfl, Nat.le_of_ble_eq_true rfl, ?_⟩
      | refine ⟨(by first | exact Nat.zero_lt_one | assumption | omega), (by first | assumption | exact vp_in_nI (by omega) (by omega) | (unfold vp_in; decide)), ?_⟩
      | refine ⟨(by first | exact Nat.zero_lt_one | assumption | omega), rfl, ?_⟩
      | refine ⟨⟨(by first | exact Nat.zero_lt_one | assumption | omega), rfl⟩, Nat.le_of_ble_eq_true rfl, ?_⟩
      | refine ⟨(by first | exact Nat.zero_lt_one | assumption | omega), ?_⟩
      | refine ⟨Or.inl rfl, ?_⟩
      | refine ⟨Or.inr (Or.inl rfl), ?_⟩
      | refine ⟨Or.inr (Or.inr rfl), ?_⟩
      | refine ⟨Or.inr ⟨rfl, (by first | exact Or.inl rfl | exact Or.inr rfl | assumption)⟩, ?_⟩
      | refine ⟨fun h => absurd h (by decide), fun _ => ?_⟩
      | refine ⟨fun _ => ?_, fun h => absurd h (by decide)⟩
      | refine ⟨fun h => ?_, fun h => ?_⟩
      | fail)
  have hx' : 0 ≤ x ∧ x < μ 48 0 42 := by rw [g6.1]; exact hx
  by_cases ho : okO o day
  case neg =>
    have hk := h0 (fun q => ho q.2)
    repeat' (first
      | refine c_Mo_isTable (fun _ => ?_) (fun h => absurd hx' h)
      | refine c_Mo_isOccasion (fun q => absurd q ho) (fun _ => ?_)
      | exact hk
      | (refine zs k_Mo_lay rfl ?_; conv => whnf)
      | refine ⟨Nat.zero_lt_one, rfl, ?_⟩
      | refine ⟨rfl, ?_⟩
      | refine ⟨⟨Nat.zero_lt_one, rfl⟩, Nat.le_of_ble_eq_true rfl, ?_⟩
      | refine ⟨Nat.le_of_ble_eq_true rfl, Nat.le_of_ble_eq_true rfl, ?_⟩
      | refine ⟨(by first | exact Nat.zero_lt_one | assumption | omega), (by first | assumption | exact vp_in_nI (by omega) (by omega) | (unfold vp_in; decide)), ?_⟩
      | refine ⟨(by first | exact Nat.zero_lt_one | assumption | omega), rfl, ?_⟩
      | refine ⟨⟨(by first | exact Nat.zero_lt_one | assumption | omega), rfl⟩, Nat.le_of_ble_eq_true rfl, ?_⟩
      | refine ⟨(by first | exact Nat.zero_lt_one | assumption | omega), ?_⟩
      | refine ⟨Or.inl rfl, ?_⟩
      | refine ⟨Or.inr (Or.inl rfl), ?_⟩
      | refine ⟨Or.inr (Or.inr rfl), ?_⟩
      | refine ⟨Or.inr ⟨rfl, (by first | exact Or.inl rfl | exact Or.inr rfl | assumption)⟩, ?_⟩
      | refine ⟨fun h => absurd h (by decide), fun _ => ?_⟩
      | refine ⟨fun _ => ?_, fun h => absurd h (by decide)⟩
      | refine ⟨fun h => ?_, fun h => ?_⟩
      | fail)
  rcases zIx x (n := nt) (by omega) with ⟨t, ht, rfl⟩ | q
  case inr => exact absurd hx q
  obtain ⟨a1, a2, z, z1, z2, z3, z4⟩ := g6.2.2 t ht
  have ct : (nI t).toNatClampNeg = t := nI_clamp (by omega)
  have vt : vp_in (nI t) 4 := vp_in_nI (by omega) (by omega)
  have e94 : μ 94 0 (nI t).toNatClampNeg = nI z := by rw [ct]; exact z4
  have hset : (¬ w < 0 ∧ w < 1 <<< (μ 48 0 5 &&& 31)) ↔ bN w < 2 ^ n := by rw [hn]; exact set_lt h20
  by_cases hb : bN w < 2 ^ n
  case neg =>
    have hk := h1 t z ho ht rfl z3 z2 (fun q => hb q.1)
    by_cases w0 : w ≤ 0
    · skip
      repeat' (first
        | refine c_Mo_isTable (fun _ => ?_) (fun h => absurd hx' h)
        | refine c_Mo_isOccasion (fun _ => ?_) (fun q => absurd ho q)
        | refine br_t w0 ?_
        | exact hk
        | (refine zs k_Mo_lay rfl ?_; conv => whnf)
        | refine ⟨Nat.zero_lt_one, rfl, ?_⟩
        | refine ⟨rfl, ?_⟩
        | refine ⟨⟨Nat.zero_lt_one, rfl⟩, Nat.le_of_ble_eq_true rfl, ?_⟩
        | refine ⟨Nat.le_of_ble_eq_true rfl, Nat.le_of_ble_eq_true rfl, ?_⟩
        | refine ⟨(by first | exact Nat.zero_lt_one | assumption | omega), (by first | assumption | exact vp_in_nI (by omega) (by omega) | (unfold vp_in; decide)), ?_⟩
        | refine ⟨(by first | exact Nat.zero_lt_one | assumption | omega), rfl, ?_⟩
        | refine ⟨⟨(by first | exact Nat.zero_lt_one | assumption | omega), rfl⟩, Nat.le_of_ble_eq_true rfl, ?_⟩
        | refine ⟨(by first | exact Nat.zero_lt_one | assumption | omega), ?_⟩
        | refine ⟨Or.inl rfl, ?_⟩
        | refine ⟨Or.inr (Or.inl rfl), ?_⟩
        | refine ⟨Or.inr (Or.inr rfl), ?_⟩
        | refine ⟨Or.inr ⟨rfl, (by first | exact Or.inl rfl | exact Or.inr rfl | assumption)⟩, ?_⟩
        | refine ⟨fun h => absurd h (by decide), fun _ => ?_⟩
        | refine ⟨fun _ => ?_, fun h => absurd h (by decide)⟩
        | refine ⟨fun h => ?_, fun h => ?_⟩
        | fail)
    · have w1 : 1 <<< (μ 48 0 5 &&& 31) ≤ w := by
        have w2 : ¬ w < 0 := by grind
        have w3 : ¬ w < 1 <<< (μ 48 0 5 &&& 31) := fun q => hb (hset.mp ⟨w2, q⟩)
        grind
      repeat' (first
        | refine c_Mo_isTable (fun _ => ?_) (fun h => absurd hx' h)
        | refine c_Mo_isOccasion (fun _ => ?_) (fun q => absurd ho q)
        | refine br_f w0 ?_
        | refine br_t w1 ?_
        | exact hk
        | (refine zs k_Mo_lay rfl ?_; conv => whnf)
        | refine ⟨Nat.zero_lt_one, rfl, ?_⟩
        | refine ⟨rfl, ?_⟩
        | refine ⟨⟨Nat.zero_lt_one, rfl⟩, Nat.le_of_ble_eq_true rfl, ?_⟩
        | refine ⟨Nat.le_of_ble_eq_true rfl, Nat.le_of_ble_eq_true rfl, ?_⟩
        | refine ⟨(by first | exact Nat.zero_lt_one | assumption | omega), (by first | assumption | exact vp_in_nI (by omega) (by omega) | (unfold vp_in; decide)), ?_⟩
        | refine ⟨(by first | exact Nat.zero_lt_one | assumption | omega), rfl, ?_⟩
        | refine ⟨⟨(by first | exact Nat.zero_lt_one | assumption | omega), rfl⟩, Nat.le_of_ble_eq_true rfl, ?_⟩
        | refine ⟨(by first | exact Nat.zero_lt_one | assumption | omega), ?_⟩
        | refine ⟨Or.inl rfl, ?_⟩
        | refine ⟨Or.inr (Or.inl rfl), ?_⟩
        | refine ⟨Or.inr (Or.inr rfl), ?_⟩
        | refine ⟨Or.inr ⟨rfl, (by first | exact Or.inl rfl | exact Or.inr rfl | assumption)⟩, ?_⟩
        | refine ⟨fun h => absurd h (by decide), fun _ => ?_⟩
        | refine ⟨fun _ => ?_, fun h => absurd h (by decide)⟩
        | refine ⟨fun h => ?_, fun h => ?_⟩
        | fail)
  have hb20 : bN w < 2 ^ 20 := by omega
  have hw := hset.mpr hb
  by_cases wz : w = 0
  · have hk := h1 t z ho ht rfl z3 z2 (fun q => absurd ((ln0 hb20).mpr wz) (by have := q.2.1; omega))
    have w0 : w ≤ 0 := by rw [wz]; decide
    repeat' (first
      | refine c_Mo_isTable (fun _ => ?_) (fun h => absurd hx' h)
      | refine c_Mo_isOccasion (fun _ => ?_) (fun q => absurd ho q)
      | refine br_t w0 ?_
      | exact hk
      | (refine zs k_Mo_lay rfl ?_; conv => whnf)
      | refine ⟨Nat.zero_lt_one, rfl, ?_⟩
      | refine ⟨rfl, ?_⟩
      | refine ⟨⟨Nat.zero_lt_one, rfl⟩, Nat.le_of_ble_eq_true rfl, ?_⟩
      | refine ⟨Nat.le_of_ble_eq_true rfl, Nat.le_of_ble_eq_true rfl, ?_⟩
      | refine ⟨(by first | exact Nat.zero_lt_one | assumption | omega), (by first | assumption | exact vp_in_nI (by omega) (by omega) | (unfold vp_in; decide)), ?_⟩
      | refine ⟨(by first | exact Nat.zero_lt_one | assumption | omega), rfl, ?_⟩
      | refine ⟨⟨(by first | exact Nat.zero_lt_one | assumption | omega), rfl⟩, Nat.le_of_ble_eq_true rfl, ?_⟩
      | refine ⟨(by first | exact Nat.zero_lt_one | assumption | omega), ?_⟩
      | refine ⟨Or.inl rfl, ?_⟩
      | refine ⟨Or.inr (Or.inl rfl), ?_⟩
      | refine ⟨Or.inr (Or.inr rfl), ?_⟩
      | refine ⟨Or.inr ⟨rfl, (by first | exact Or.inl rfl | exact Or.inr rfl | assumption)⟩, ?_⟩
      | refine ⟨fun h => absurd h (by decide), fun _ => ?_⟩
      | refine ⟨fun _ => ?_, fun h => absurd h (by decide)⟩
      | refine ⟨fun h => ?_, fun h => ?_⟩
      | fail)
  have w0 : ¬ w ≤ 0 := by have := hw.1; grind
  have w1 : ¬ 1 <<< (μ 48 0 5 &&& 31) ≤ w := by have := hw.2; grind
  have hl1 : 1 ≤ (gsT w 20).length := by
    rcases Nat.eq_zero_or_pos (gsT w 20).length with q | q
    · exact absurd ((ln0 hb20).mp q) wz
    · exact q
  have hl20 : (gsT w 20).length ≤ 20 := by rw [gsT_len]; exact pCt_le _ _
  by_cases h7 : (gsT w 20).length ≤ 7
  case neg =>
    have hk := h1 t z ho ht rfl z3 z2 (fun q => h7 q.2.2.1)
    have w2 : 7 < nI (gsT w 20).length := nI_lt (a := 7) (by omega) (by omega)
    repeat' (first
      | refine c_Mo_isTable (fun _ => ?_) (fun h => absurd hx' h)
      | refine c_Mo_isOccasion (fun _ => ?_) (fun q => absurd ho q)
      | refine br_f w0 ?_
      | refine br_f w1 ?_
      | refine c_Mo_countBits hb20 ?_
      | refine br_t w2 ?_
      | exact hk
      | (refine zs k_Mo_lay rfl ?_; conv => whnf)
      | refine ⟨Nat.zero_lt_one, rfl, ?_⟩
      | refine ⟨rfl, ?_⟩
      | refine ⟨⟨Nat.zero_lt_one, rfl⟩, Nat.le_of_ble_eq_true rfl, ?_⟩
      | refine ⟨Nat.le_of_ble_eq_true rfl, Nat.le_of_ble_eq_true rfl, ?_⟩
      | refine ⟨(by first | exact Nat.zero_lt_one | assumption | omega), (by first | assumption | exact vp_in_nI (by omega) (by omega) | (unfold vp_in; decide)), ?_⟩
      | refine ⟨(by first | exact Nat.zero_lt_one | assumption | omega), rfl, ?_⟩
      | refine ⟨⟨(by first | exact Nat.zero_lt_one | assumption | omega), rfl⟩, Nat.le_of_ble_eq_true rfl, ?_⟩
      | refine ⟨(by first | exact Nat.zero_lt_one | assumption | omega), ?_⟩
      | refine ⟨Or.inl rfl, ?_⟩
      | refine ⟨Or.inr (Or.inl rfl), ?_⟩
      | refine ⟨Or.inr (Or.inr rfl), ?_⟩
      | refine ⟨Or.inr ⟨rfl, (by first | exact Or.inl rfl | exact Or.inr rfl | assumption)⟩, ?_⟩
      | refine ⟨fun h => absurd h (by decide), fun _ => ?_⟩
      | refine ⟨fun _ => ?_, fun h => absurd h (by decide)⟩
      | refine ⟨fun h => ?_, fun h => ?_⟩
      | fail)
  have w2 : ¬ 7 < nI (gsT w 20).length := nI_nlt (b := (gsT w 20).length) (a := 7) h7 (by omega)
  by_cases hz : (gsT w 20).length ≤ z
  case neg =>
    have hk := h1 t z ho ht rfl z3 z2 (fun q => hz q.2.2.2)
    have w3 : ¬ nI (gsT w 20).length ≤ μ 94 0 (nI t).toNatClampNeg := by rw [e94]; exact nI_ge (by omega) (by omega)
    repeat' (first
      | refine c_Mo_isTable (fun _ => ?_) (fun h => absurd hx' h)
      | refine c_Mo_isOccasion (fun _ => ?_) (fun q => absurd ho q)
      | refine br_f w0 ?_
      | refine br_f w1 ?_
      | refine c_Mo_countBits hb20 ?_
      | refine br_f w2 ?_
      | refine br_f w3 ?_
      | exact hk
      | (refine zs k_Mo_lay rfl ?_; conv => whnf)
      | refine ⟨Nat.zero_lt_one, rfl, ?_⟩
      | refine ⟨rfl, ?_⟩
      | refine ⟨⟨Nat.zero_lt_one, rfl⟩, Nat.le_of_ble_eq_true rfl, ?_⟩
      | refine ⟨Nat.le_of_ble_eq_true rfl, Nat.le_of_ble_eq_true rfl, ?_⟩
      | refine ⟨(by first | exact Nat.zero_lt_one | assumption | omega), (by first | assumption | exact vp_in_nI (by omega) (by omega) | (unfold vp_in; decide)), ?_⟩
      | refine ⟨(by first | exact Nat.zero_lt_one | assumption | omega), rfl, ?_⟩
      | refine ⟨⟨(by first | exact Nat.zero_lt_one | assumption | omega), rfl⟩, Nat.le_of_ble_eq_true rfl, ?_⟩
      | refine ⟨(by first | exact Nat.zero_lt_one | assumption | omega), ?_⟩
      | refine ⟨Or.inl rfl, ?_⟩
      | refine ⟨Or.inr (Or.inl rfl), ?_⟩
      | refine ⟨Or.inr (Or.inr rfl), ?_⟩
      | refine ⟨Or.inr ⟨rfl, (by first | exact Or.inl rfl | exact Or.inr rfl | assumption)⟩, ?_⟩
      | refine ⟨fun h => absurd h (by decide), fun _ => ?_⟩
      | refine ⟨fun _ => ?_, fun h => absurd h (by decide)⟩
      | refine ⟨fun h => ?_, fun h => ?_⟩
      | fail)
  have w3 : nI (gsT w 20).length ≤ μ 94 0 (nI t).toNatClampNeg := by rw [e94]; exact nI_le hz (by omega)
  have hok : okLy w n z := ⟨hb, hl1, h7, hz⟩
  have bit : ∀ i, i < n → ((w >>> (nI i &&& 31)) &&& 1 = 1 ↔ zbit w (nI i)) := fun i hi => bit_s h20 hb (by omega)
  -- all present: then on
  have main : cAll μ w n → ∀ (l5 : Option zV), zG S (d + 10) m_Mo_lay K 103 [some (zR 48 0), some (zI (nI t)), some (zI o), some (zI day), some (zI w), l5, none, none, none, none] [] μ := fun hall l5 => by
    obtain ⟨kp, pr, k1, k2, k3, k4⟩ := h3 t z ho ht rfl z3 z2 hok hall
    have gsn : ∀ q ∈ gsT w 20, q < n := fun q hq => by
      have hq2 := (gsT_mem.mp hq).2
      rcases Nat.lt_or_ge q n with w | w
      · exact w
      · rw [zbt_hi hb w] at hq2
        cases hq2
    have gs20 : ∀ q ∈ gsT w 20, q < 20 := fun q hq => (gsT_mem.mp hq).1
    have gsd : (gsT w 20).Nodup := (gsT_sorted w 20).imp (fun h => by omega)
    obtain ⟨l, pm1, pm2⟩ := pm_chn (m := (gsT w 20).length) (w := []) (A := gsT w 20) rfl (gsT_sorted w 20)
    rw [List.nil_append, List.nil_append] at pm2
    rw [List.nil_append] at pm1
    generalize hM : pm (gsT w 20).length [] (gsT w 20) = M at k3 k4 pm1
    generalize hG : gsT w 20 = gs at *
    generalize hO : oN (cAd μ o day nr nh n) n (cLf0 μ n) = og at k2
    generalize hmm : pCt (cLf0 μ n) n = m at k2 hm
    -- the end
    have E : ∀ (l8 l9 : Option zV) (μ1 : zMu), zScr μ μ1 → ((fd kp pr M).1 < 1000000 → ∀ k, k < 12 → μ1 97 0 k = lw (fd kp pr M).2 k) → zG S (d + 10) m_Mo_lay K 201 [some (zR 48 0), some (zI (nI t)), some (zI o), some (zI day), some (zI w), some (zI (nI gs.length)), some (zI (lsB (fd kp pr M).1)), some (zI 0), l8, l9] [] μ1 := fun l8 l9 μ1 s1 hbst => by
      by_cases hf : (fd kp pr M).1 = 1000000
      · have hk := k3 hf μ1 s1
        have hls : lsB (fd kp pr M).1 = -6 := if_pos hf
        rw [hls]
        repeat' (first
          | exact hk
          | (refine zs k_Mo_lay rfl ?_; conv => whnf)
          | refine ⟨Nat.zero_lt_one, rfl, ?_⟩
          | refine ⟨rfl, ?_⟩
          | refine ⟨⟨Nat.zero_lt_one, rfl⟩, Nat.le_of_ble_eq_true rfl, ?_⟩
          | refine ⟨Nat.le_of_ble_eq_true rfl, Nat.le_of_ble_eq_true rfl, ?_⟩
          | refine ⟨(by first | exact Nat.zero_lt_one | assumption | omega), (by first | assumption | exact vp_in_nI (by omega) (by omega) | (unfold vp_in; decide)), ?_⟩
          | refine ⟨(by first | exact Nat.zero_lt_one | assumption | omega), rfl, ?_⟩
          | refine ⟨⟨(by first | exact Nat.zero_lt_one | assumption | omega), rfl⟩, Nat.le_of_ble_eq_true rfl, ?_⟩
          | refine ⟨(by first | exact Nat.zero_lt_one | assumption | omega), ?_⟩
          | refine ⟨Or.inl rfl, ?_⟩
          | refine ⟨Or.inr (Or.inl rfl), ?_⟩
          | refine ⟨Or.inr (Or.inr rfl), ?_⟩
          | refine ⟨Or.inr ⟨rfl, (by first | exact Or.inl rfl | exact Or.inr rfl | assumption)⟩, ?_⟩
          | refine ⟨fun h => absurd h (by decide), fun _ => ?_⟩
          | refine ⟨fun _ => ?_, fun h => absurd h (by decide)⟩
          | refine ⟨fun h => ?_, fun h => ?_⟩
          | fail)
      · have hflt : (fd kp pr M).1 < 1000000 := by have := fd_le (kp := kp) (pr := pr) (l := M); omega
        have hls : lsB (fd kp pr M).1 = nI (fd kp pr M).1 := if_neg hf
        have hb2 := hbst hflt
        have hk := k4 hflt
        rw [hls]
        have e95 : μ1 95 = μ 95 := zScr_in s1 (l := [95]) rfl 95 (by simp)
        generalize fd kp pr M = F at *
        have hpos : ¬ nI F.1 < 0 := nI_pos (by omega)
        have L4 : ∀ (k i : Nat) (v : Int32) (μ2 : zMu), i + k = 12 → v = nI i → (∀ f, f ≠ 95 → μ2 f = μ1 f) → (∀ k, ¬ (12 * t ≤ k ∧ k < 12 * t + 12) → μ2 95 0 k = μ 95 0 k) → (∀ k, k < i → μ2 95 0 (12 * t + k) = lw F.2 k) → zG S (d + 10) m_Mo_lay K 204 [some (zR 48 0), some (zI (nI t)), some (zI o), some (zI day), some (zI w), some (zI (nI gs.length)), some (zI (nI F.1)), some (zI 0), some (zI v), l9] [] μ2 := by
          intro k
          induction k with
          | zero =>
            intro i v μ2 hi hv e1 e2 e3
            obtain rfl : i = 12 := by omega
            subst hv
            have hk2 := hk μ2 μ1 s1 e1 e2 e3
            refine zs k_Mo_lay rfl ?_; conv => whnf
            repeat' (first
              | refine br_t (show (12 : Int32) ≤ nI 12 by decide) ?_
              | exact hk2
              | (refine zs k_Mo_lay rfl ?_; conv => whnf)
              | refine ⟨Nat.zero_lt_one, rfl, ?_⟩
              | refine ⟨rfl, ?_⟩
              | refine ⟨⟨Nat.zero_lt_one, rfl⟩, Nat.le_of_ble_eq_true rfl, ?_⟩
              | refine ⟨Nat.le_of_ble_eq_true rfl, Nat.le_of_ble_eq_true rfl, ?_⟩
              | refine ⟨(by first | exact Nat.zero_lt_one | assumption | omega), (by first | assumption | exact vp_in_nI (by omega) (by omega) | (unfold vp_in; decide)), ?_⟩
              | refine ⟨(by first | exact Nat.zero_lt_one | assumption | omega), rfl, ?_⟩
              | refine ⟨⟨(by first | exact Nat.zero_lt_one | assumption | omega), rfl⟩, Nat.le_of_ble_eq_true rfl, ?_⟩
              | refine ⟨(by first | exact Nat.zero_lt_one | assumption | omega), ?_⟩
              | refine ⟨Or.inl rfl, ?_⟩
              | refine ⟨Or.inr (Or.inl rfl), ?_⟩
              | refine ⟨Or.inr (Or.inr rfl), ?_⟩
              | refine ⟨Or.inr ⟨rfl, (by first | exact Or.inl rfl | exact Or.inr rfl | assumption)⟩, ?_⟩
              | refine ⟨fun h => absurd h (by decide), fun _ => ?_⟩
              | refine ⟨fun _ => ?_, fun h => absurd h (by decide)⟩
              | refine ⟨fun h => ?_, fun h => ?_⟩
              | fail)
          | succ k ih =>
            intro i v μ2 hi hv e1 e2 e3
            subst hv
            have ci : (nI i).toNatClampNeg = i := nI_clamp (by omega)
            have m1 : (12 : Int32) * nI t + nI i = nI (12 * t + i) := by rw [show (12 : Int32) * nI t = nI (12 * t) from pk_mul 12 t, nI_add]
            have v1 : vp_in ((12 : Int32) * nI t + nI i) 48 := by rw [m1]; exact vp_in_nI (by omega) (by omega)
            have c1 : ((12 : Int32) * nI t + nI i).toNatClampNeg = 12 * t + i := by rw [m1]; exact nI_clamp (by omega)
            have hle : ¬ (12 : Int32) ≤ nI i := nI_ge (b := 12) (by omega) (by omega)
            refine zs k_Mo_lay rfl ?_; conv => whnf
            repeat' (first
              | refine br_f hle ?_
              | refine br_f hpos ?_
              | refine ih (i + 1) _ _ (by omega) (by exact nI_1 i) (fun f hf => ?_) (fun k hk => ?_) (fun k hk => ?_)
              | (refine zs k_Mo_lay rfl ?_; conv => whnf)
              | refine ⟨Nat.zero_lt_one, rfl, ?_⟩
              | refine ⟨rfl, ?_⟩
              | refine ⟨⟨Nat.zero_lt_one, rfl⟩, Nat.le_of_ble_eq_true rfl, ?_⟩
              | refine ⟨Nat.le_of_ble_eq_true rfl, Nat.le_of_ble_eq_true rfl, ?_⟩
              | refine ⟨(by first | exact Nat.zero_lt_one | assumption | omega), (by first | assumption | exact vp_in_nI (by omega) (by omega) | (unfold vp_in; decide)), ?_⟩
              | refine ⟨(by first | exact Nat.zero_lt_one | assumption | omega), rfl, ?_⟩
              | refine ⟨⟨(by first | exact Nat.zero_lt_one | assumption | omega), rfl⟩, Nat.le_of_ble_eq_true rfl, ?_⟩
              | refine ⟨(by first | exact Nat.zero_lt_one | assumption | omega), ?_⟩
              | refine ⟨Or.inl rfl, ?_⟩
              | refine ⟨Or.inr (Or.inl rfl), ?_⟩
              | refine ⟨Or.inr (Or.inr rfl), ?_⟩
              | refine ⟨Or.inr ⟨rfl, (by first | exact Or.inl rfl | exact Or.inr rfl | assumption)⟩, ?_⟩
              | refine ⟨fun h => absurd h (by decide), fun _ => ?_⟩
              | refine ⟨fun _ => ?_, fun h => absurd h (by decide)⟩
              | refine ⟨fun h => ?_, fun h => ?_⟩
              | fail)
            · funext a b
              rw [zu_ne (fun q => hf q.1), e1 f hf]
            · rw [c1, zu_ne (by omega)]
              exact e2 k hk
            · rw [c1, ci, e1 97 (by omega)]
              by_cases q : k = i
              · rw [q, zu_eq]
                exact hb2 i (by omega)
              · rw [zu_ne (by omega)]
                exact e3 k (by omega)
        repeat' (first
          | refine L4 12 0 _ _ (by omega) rfl (fun _ _ => rfl) (fun k _ => by rw [e95]) (fun k hk => absurd hk (by omega))
          | (refine zs k_Mo_lay rfl ?_; conv => whnf)
          | refine ⟨Nat.zero_lt_one, rfl, ?_⟩
          | refine ⟨rfl, ?_⟩
          | refine ⟨⟨Nat.zero_lt_one, rfl⟩, Nat.le_of_ble_eq_true rfl, ?_⟩
          | refine ⟨Nat.le_of_ble_eq_true rfl, Nat.le_of_ble_eq_true rfl, ?_⟩
          | refine ⟨(by first | exact Nat.zero_lt_one | assumption | omega), (by first | assumption | exact vp_in_nI (by omega) (by omega) | (unfold vp_in; decide)), ?_⟩
          | refine ⟨(by first | exact Nat.zero_lt_one | assumption | omega), rfl, ?_⟩
          | refine ⟨⟨(by first | exact Nat.zero_lt_one | assumption | omega), rfl⟩, Nat.le_of_ble_eq_true rfl, ?_⟩
          | refine ⟨(by first | exact Nat.zero_lt_one | assumption | omega), ?_⟩
          | refine ⟨Or.inl rfl, ?_⟩
          | refine ⟨Or.inr (Or.inl rfl), ?_⟩
          | refine ⟨Or.inr (Or.inr rfl), ?_⟩
          | refine ⟨Or.inr ⟨rfl, (by first | exact Or.inl rfl | exact Or.inr rfl | assumption)⟩, ?_⟩
          | refine ⟨fun h => absurd h (by decide), fun _ => ?_⟩
          | refine ⟨fun _ => ?_, fun h => absurd h (by decide)⟩
          | refine ⟨fun h => ?_, fun h => ?_⟩
          | fail)
    -- what holds at the head
    have inv0 : ∀ (μ1 : zMu) (v : List Nat), zScr μ μ1 → v.Perm gs → (∀ k, k < 12 → μ1 96 0 k = lw v k) → mT μ1 ns n t z (μ 9 t 2) (lw v) ∧ (mKp μ1 (lw v) (μ 9 t 2) z ↔ kp v = true) ∧ mTk μ1 (lw v) (μ 9 t 2) z = mTk μ (lw v) (μ 9 t 2) z := fun μ1 v s1 hp e1 => by
      obtain ⟨g1', g2', -, -⟩ := gQ_scr s1 g
      refine ⟨⟨g1', g2', gFe_fr (zScr_in s1 rfl) g7, gCo_fr (zScr_in s1 rfl) g8, by omega, by rw [zScr_in s1 (l := [94]) rfl 94 (by simp)]; exact z4, z1, z2, by rw [zScr_in s1 (l := [93]) rfl 93 (by simp)]; exact a2, a1, e1, fun k _ => lw_ok hp gsn k⟩, ?_, hPr_fr (zScr_in s1 (l := [38]) rfl 38 (by simp)) (zScr_in s1 (l := [17]) rfl 17 (by simp))⟩
      rw [← k1 v hp]
      unfold mKp kC hFd
      rw [zScr_in s1 (l := [36]) rfl 36 (by simp), zScr_in s1 (l := [17]) rfl 17 (by simp)]
    have stp : ∀ (v : List Nat) (done : List (List Nat)) (ls : Int32) (l8 l9 : Option zV) (μ1 : zMu), v.Perm gs → zScr μ μ1 → μ1 48 0 37 = nI m → (∀ k, k < m → μ1 86 0 k = nI (og k)) → (∀ k, k < 12 → μ1 96 0 k = lw v k) → ls = lsB (fd kp pr done).1 → ((fd kp pr done).1 < 1000000 → ∀ k, k < 12 → μ1 97 0 k = lw (fd kp pr done).2 k) → (∀ (ls' : Int32) (l8' l9' : Option zV) (μ2 : zMu), zScr μ μ2 → μ2 48 0 37 = nI m → (∀ k, k < m → μ2 86 0 k = nI (og k)) → (∀ k, k < 12 → μ2 96 0 k = lw v k) → ls' = lsB (fd kp pr (done ++ [v])).1 → ((fd kp pr (done ++ [v])).1 < 1000000 → ∀ k, k < 12 → μ2 97 0 k = lw (fd kp pr (done ++ [v])).2 k) → zG S (d + 10) m_Mo_lay K 190 [some (zR 48 0), some (zI (nI t)), some (zI o), some (zI day), some (zI w), some (zI (nI gs.length)), some (zI ls'), some (zI 1), l8', l9'] [] μ2) → zG S (d + 10) m_Mo_lay K 124 [some (zR 48 0), some (zI (nI t)), some (zI o), some (zI day), some (zI w), some (zI (nI gs.length)), some (zI ls), some (zI 1), l8, l9] [] μ1 := by
      intro v done ls l8 l9 μ1 hp s1 o1 o2 e96 hls h97 nxt
      obtain ⟨T1, T2, T3⟩ := inv0 μ1 v s1 hp e96
      obtain ⟨q1, q2⟩ := k2 v hp
      have hfl := fd_le (kp := kp) (pr := pr) (l := done)
      have hsn := fd_snoc (kp := kp) (pr := pr) (l := done) (v := v)
      by_cases hkp : kp v = true
      case neg =>
        rw [if_neg hkp] at hsn
        rw [hsn] at nxt
        refine zs k_Mo_lay rfl ?_; conv => whnf
        repeat' (first
          | refine c_Mo_isKept T1 rfl (fun q => absurd (T2.mp q) hkp) (fun _ => ?_)
          | exact nxt _ _ _ _ s1 o1 o2 e96 hls h97
          | (refine zs k_Mo_lay rfl ?_; conv => whnf)
          | refine ⟨Nat.zero_lt_one, rfl, ?_⟩
          | refine ⟨rfl, ?_⟩
          | refine ⟨⟨Nat.zero_lt_one, rfl⟩, Nat.le_of_ble_eq_true rfl, ?_⟩
          | refine ⟨Nat.le_of_ble_eq_true rfl, Nat.le_of_ble_eq_true rfl, ?_⟩
          | refine ⟨(by first | exact Nat.zero_lt_one | assumption | omega), (by first | assumption | exact vp_in_nI (by omega) (by omega) | (unfold vp_in; decide)), ?_⟩
          | refine ⟨(by first | exact Nat.zero_lt_one | assumption | omega), rfl, ?_⟩
          | refine ⟨⟨(by first | exact Nat.zero_lt_one | assumption | omega), rfl⟩, Nat.le_of_ble_eq_true rfl, ?_⟩
          | refine ⟨(by first | exact Nat.zero_lt_one | assumption | omega), ?_⟩
          | refine ⟨Or.inl rfl, ?_⟩
          | refine ⟨Or.inr (Or.inl rfl), ?_⟩
          | refine ⟨Or.inr (Or.inr rfl), ?_⟩
          | refine ⟨Or.inr ⟨rfl, (by first | exact Or.inl rfl | exact Or.inr rfl | assumption)⟩, ?_⟩
          | refine ⟨fun h => absurd h (by decide), fun _ => ?_⟩
          | refine ⟨fun _ => ?_, fun h => absurd h (by decide)⟩
          | refine ⟨fun h => ?_, fun h => ?_⟩
          | fail)
      rw [if_pos hkp] at hsn
      have keep := T2.mpr hkp
      have hpri : nI ((mO (lw v) og z m).1 + nS (mTk μ1 (lw v) (μ 9 t 2) z) z) = nI (pr v) := by rw [T3]; exact q1
      have take : pr v < (fd kp pr done).1 → ∀ (l9 : Option zV) (y : Int32), y = nI (pr v) → zG S (d + 10) m_Mo_lay K 156 [some (zR 48 0), some (zI (nI t)), some (zI o), some (zI day), some (zI w), some (zI (nI gs.length)), some (zI ls), some (zI 1), some (zI y), l9] [] μ1 := fun hlt l9 y hy => by
        have hbs : bst (fd kp pr done) (pr v, v) = (pr v, v) := if_pos hlt
        rw [hbs] at hsn
        rw [hsn] at nxt
        have L5 : ∀ (k i : Nat) (c : Int32) (μ2 : zMu), i + k = 12 → c = nI i → (∀ f, f ≠ 97 → μ2 f = μ1 f) → (∀ k, k < i → μ2 97 0 k = lw v k) → zG S (d + 10) m_Mo_lay K 163 [some (zR 48 0), some (zI (nI t)), some (zI o), some (zI day), some (zI w), some (zI (nI gs.length)), some (zI y), some (zI 1), some (zI y), some (zI c)] [] μ2 := by
          intro k
          induction k with
          | zero =>
            intro i c μ2 hi hc e1 e2
            obtain rfl : i = 12 := by omega
            subst hc
            have s2 : zScr μ μ2 := zScr_tr s1 ⟨fun f hf => e1 f (fun q => hf (by rw [q]; decide)), by rw [e1 2 (by omega)], fun k _ => by rw [e1 48 (by omega)]⟩
            have hk2 := nxt y (some (zI y)) (some (zI (nI 12))) μ2 s2 (by rw [e1 48 (by omega)]; exact o1) (fun k hk => by rw [e1 86 (by omega)]; exact o2 k hk) (fun k hk => by rw [e1 96 (by omega)]; exact e96 k hk) (by rw [hy]; exact (if_neg (show ¬ pr v = 1000000 by omega)).symm) (fun _ => e2)
            refine zs k_Mo_lay rfl ?_; conv => whnf
            repeat' (first
              | exact hk2
              | refine br_t (show (12 : Int32) ≤ nI 12 by decide) ?_
              | (refine zs k_Mo_lay rfl ?_; conv => whnf)
              | refine ⟨Nat.zero_lt_one, rfl, ?_⟩
              | refine ⟨rfl, ?_⟩
              | refine ⟨⟨Nat.zero_lt_one, rfl⟩, Nat.le_of_ble_eq_true rfl, ?_⟩
              | refine ⟨Nat.le_of_ble_eq_true rfl, Nat.le_of_ble_eq_true rfl, ?_⟩
              | refine ⟨(by first | exact Nat.zero_lt_one | assumption | omega), (by first | assumption | exact vp_in_nI (by omega) (by omega) | (unfold vp_in; decide)), ?_⟩
              | refine ⟨(by first | exact Nat.zero_lt_one | assumption | omega), rfl, ?_⟩
              | refine ⟨⟨(by first | exact Nat.zero_lt_one | assumption | omega), rfl⟩, Nat.le_of_ble_eq_true rfl, ?_⟩
              | refine ⟨(by first | exact Nat.zero_lt_one | assumption | omega), ?_⟩
              | refine ⟨Or.inl rfl, ?_⟩
              | refine ⟨Or.inr (Or.inl rfl), ?_⟩
              | refine ⟨Or.inr (Or.inr rfl), ?_⟩
              | refine ⟨Or.inr ⟨rfl, (by first | exact Or.inl rfl | exact Or.inr rfl | assumption)⟩, ?_⟩
              | refine ⟨fun h => absurd h (by decide), fun _ => ?_⟩
              | refine ⟨fun _ => ?_, fun h => absurd h (by decide)⟩
              | refine ⟨fun h => ?_, fun h => ?_⟩
              | fail)
          | succ k ih =>
            intro i c μ2 hi hc e1 e2
            subst hc
            have ci : (nI i).toNatClampNeg = i := nI_clamp (by omega)
            have hle : ¬ (12 : Int32) ≤ nI i := nI_ge (b := 12) (by omega) (by omega)
            refine zs k_Mo_lay rfl ?_; conv => whnf
            repeat' (first
              | refine br_f hle ?_
              | refine ih (i + 1) _ _ (by omega) (by exact nI_1 i) (fun f hf => ?_) (fun k hk => ?_)
              | (refine zs k_Mo_lay rfl ?_; conv => whnf)
              | refine ⟨Nat.zero_lt_one, rfl, ?_⟩
              | refine ⟨rfl, ?_⟩
              | refine ⟨⟨Nat.zero_lt_one, rfl⟩, Nat.le_of_ble_eq_true rfl, ?_⟩
              | refine ⟨Nat.le_of_ble_eq_true rfl, Nat.le_of_ble_eq_true rfl, ?_⟩
              | refine ⟨(by first | exact Nat.zero_lt_one | assumption | omega), (by first | assumption | exact vp_in_nI (by omega) (by omega) | (unfold vp_in; decide)), ?_⟩
              | refine ⟨(by first | exact Nat.zero_lt_one | assumption | omega), rfl, ?_⟩
              | refine ⟨⟨(by first | exact Nat.zero_lt_one | assumption | omega), rfl⟩, Nat.le_of_ble_eq_true rfl, ?_⟩
              | refine ⟨(by first | exact Nat.zero_lt_one | assumption | omega), ?_⟩
              | refine ⟨Or.inl rfl, ?_⟩
              | refine ⟨Or.inr (Or.inl rfl), ?_⟩
              | refine ⟨Or.inr (Or.inr rfl), ?_⟩
              | refine ⟨Or.inr ⟨rfl, (by first | exact Or.inl rfl | exact Or.inr rfl | assumption)⟩, ?_⟩
              | refine ⟨fun h => absurd h (by decide), fun _ => ?_⟩
              | refine ⟨fun _ => ?_, fun h => absurd h (by decide)⟩
              | refine ⟨fun h => ?_, fun h => ?_⟩
              | fail)
            · funext a b
              rw [zu_ne (fun q => hf q.1), e1 f hf]
            · rw [ci, e1 96 (by omega)]
              by_cases q : k = i
              · rw [q, zu_eq]
                exact e96 i (by omega)
              · rw [zu_ne (by omega)]
                exact e2 k (by omega)
        repeat' (first
          | refine L5 12 0 _ _ (by omega) rfl (fun _ _ => rfl) (fun k hk => absurd hk (by omega))
          | (refine zs k_Mo_lay rfl ?_; conv => whnf)
          | refine ⟨Nat.zero_lt_one, rfl, ?_⟩
          | refine ⟨rfl, ?_⟩
          | refine ⟨⟨Nat.zero_lt_one, rfl⟩, Nat.le_of_ble_eq_true rfl, ?_⟩
          | refine ⟨Nat.le_of_ble_eq_true rfl, Nat.le_of_ble_eq_true rfl, ?_⟩
          | refine ⟨(by first | exact Nat.zero_lt_one | assumption | omega), (by first | assumption | exact vp_in_nI (by omega) (by omega) | (unfold vp_in; decide)), ?_⟩
          | refine ⟨(by first | exact Nat.zero_lt_one | assumption | omega), rfl, ?_⟩
          | refine ⟨⟨(by first | exact Nat.zero_lt_one | assumption | omega), rfl⟩, Nat.le_of_ble_eq_true rfl, ?_⟩
          | refine ⟨(by first | exact Nat.zero_lt_one | assumption | omega), ?_⟩
          | refine ⟨Or.inl rfl, ?_⟩
          | refine ⟨Or.inr (Or.inl rfl), ?_⟩
          | refine ⟨Or.inr (Or.inr rfl), ?_⟩
          | refine ⟨Or.inr ⟨rfl, (by first | exact Or.inl rfl | exact Or.inr rfl | assumption)⟩, ?_⟩
          | refine ⟨fun h => absurd h (by decide), fun _ => ?_⟩
          | refine ⟨fun _ => ?_, fun h => absurd h (by decide)⟩
          | refine ⟨fun h => ?_, fun h => ?_⟩
          | fail)
      by_cases hf : (fd kp pr done).1 = 1000000
      · have hls6 : ls < 0 := by rw [hls, show lsB (fd kp pr done).1 = -6 from if_pos hf]; decide
        have tk := take (by omega)
        refine zs k_Mo_lay rfl ?_; conv => whnf
        repeat' (first
          | refine c_Mo_isKept T1 rfl (fun _ => ?_) (fun q => absurd keep q)
          | refine c_Mo_priceOf T1 rfl o1 (by omega) o2 ?_
          | refine br_t hls6 ?_
          | exact tk _ _ hpri
          | (refine zs k_Mo_lay rfl ?_; conv => whnf)
          | refine ⟨Nat.zero_lt_one, rfl, ?_⟩
          | refine ⟨rfl, ?_⟩
          | refine ⟨⟨Nat.zero_lt_one, rfl⟩, Nat.le_of_ble_eq_true rfl, ?_⟩
          | refine ⟨Nat.le_of_ble_eq_true rfl, Nat.le_of_ble_eq_true rfl, ?_⟩
          | refine ⟨(by first | exact Nat.zero_lt_one | assumption | omega), (by first | assumption | exact vp_in_nI (by omega) (by omega) | (unfold vp_in; decide)), ?_⟩
          | refine ⟨(by first | exact Nat.zero_lt_one | assumption | omega), rfl, ?_⟩
          | refine ⟨⟨(by first | exact Nat.zero_lt_one | assumption | omega), rfl⟩, Nat.le_of_ble_eq_true rfl, ?_⟩
          | refine ⟨(by first | exact Nat.zero_lt_one | assumption | omega), ?_⟩
          | refine ⟨Or.inl rfl, ?_⟩
          | refine ⟨Or.inr (Or.inl rfl), ?_⟩
          | refine ⟨Or.inr (Or.inr rfl), ?_⟩
          | refine ⟨Or.inr ⟨rfl, (by first | exact Or.inl rfl | exact Or.inr rfl | assumption)⟩, ?_⟩
          | refine ⟨fun h => absurd h (by decide), fun _ => ?_⟩
          | refine ⟨fun _ => ?_, fun h => absurd h (by decide)⟩
          | refine ⟨fun h => ?_, fun h => ?_⟩
          | fail)
      · have hls2 : ls = nI (fd kp pr done).1 := hls.trans (if_neg hf)
        have hnn : ¬ ls < 0 := by rw [hls2]; exact nI_pos (by omega)
        rcases Nat.lt_or_ge (pr v) (fd kp pr done).1 with q | q
        · have tk := take q
          have hle : ¬ ls ≤ nI ((mO (lw v) og z m).1 + nS (mTk μ1 (lw v) (μ 9 t 2) z) z) := by rw [hpri, hls2]; exact nI_ge q (by omega)
          refine zs k_Mo_lay rfl ?_; conv => whnf
          repeat' (first
            | refine c_Mo_isKept T1 rfl (fun _ => ?_) (fun q => absurd keep q)
            | refine c_Mo_priceOf T1 rfl o1 (by omega) o2 ?_
            | refine br_f hnn ?_
            | refine br_f hle ?_
            | exact tk _ _ hpri
            | (refine zs k_Mo_lay rfl ?_; conv => whnf)
            | refine ⟨Nat.zero_lt_one, rfl, ?_⟩
            | refine ⟨rfl, ?_⟩
            | refine ⟨⟨Nat.zero_lt_one, rfl⟩, Nat.le_of_ble_eq_true rfl, ?_⟩
            | refine ⟨Nat.le_of_ble_eq_true rfl, Nat.le_of_ble_eq_true rfl, ?_⟩
            | refine ⟨(by first | exact Nat.zero_lt_one | assumption | omega), (by first | assumption | exact vp_in_nI (by omega) (by omega) | (unfold vp_in; decide)), ?_⟩
            | refine ⟨(by first | exact Nat.zero_lt_one | assumption | omega), rfl, ?_⟩
            | refine ⟨⟨(by first | exact Nat.zero_lt_one | assumption | omega), rfl⟩, Nat.le_of_ble_eq_true rfl, ?_⟩
            | refine ⟨(by first | exact Nat.zero_lt_one | assumption | omega), ?_⟩
            | refine ⟨Or.inl rfl, ?_⟩
            | refine ⟨Or.inr (Or.inl rfl), ?_⟩
            | refine ⟨Or.inr (Or.inr rfl), ?_⟩
            | refine ⟨Or.inr ⟨rfl, (by first | exact Or.inl rfl | exact Or.inr rfl | assumption)⟩, ?_⟩
            | refine ⟨fun h => absurd h (by decide), fun _ => ?_⟩
            | refine ⟨fun _ => ?_, fun h => absurd h (by decide)⟩
            | refine ⟨fun h => ?_, fun h => ?_⟩
            | fail)
        · have hle : ls ≤ nI ((mO (lw v) og z m).1 + nS (mTk μ1 (lw v) (μ 9 t 2) z) z) := by rw [hpri, hls2]; exact nI_le q (by omega)
          have hbs : bst (fd kp pr done) (pr v, v) = fd kp pr done := if_neg (by omega)
          rw [hbs] at hsn
          rw [hsn] at nxt
          refine zs k_Mo_lay rfl ?_; conv => whnf
          repeat' (first
            | refine c_Mo_isKept T1 rfl (fun _ => ?_) (fun q => absurd keep q)
            | refine c_Mo_priceOf T1 rfl o1 (by omega) o2 ?_
            | refine br_f hnn ?_
            | refine br_t hle ?_
            | exact nxt _ _ _ _ s1 o1 o2 e96 hls h97
            | (refine zs k_Mo_lay rfl ?_; conv => whnf)
            | refine ⟨Nat.zero_lt_one, rfl, ?_⟩
            | refine ⟨rfl, ?_⟩
            | refine ⟨⟨Nat.zero_lt_one, rfl⟩, Nat.le_of_ble_eq_true rfl, ?_⟩
            | refine ⟨Nat.le_of_ble_eq_true rfl, Nat.le_of_ble_eq_true rfl, ?_⟩
            | refine ⟨(by first | exact Nat.zero_lt_one | assumption | omega), (by first | assumption | exact vp_in_nI (by omega) (by omega) | (unfold vp_in; decide)), ?_⟩
            | refine ⟨(by first | exact Nat.zero_lt_one | assumption | omega), rfl, ?_⟩
            | refine ⟨⟨(by first | exact Nat.zero_lt_one | assumption | omega), rfl⟩, Nat.le_of_ble_eq_true rfl, ?_⟩
            | refine ⟨(by first | exact Nat.zero_lt_one | assumption | omega), ?_⟩
            | refine ⟨Or.inl rfl, ?_⟩
            | refine ⟨Or.inr (Or.inl rfl), ?_⟩
            | refine ⟨Or.inr (Or.inr rfl), ?_⟩
            | refine ⟨Or.inr ⟨rfl, (by first | exact Or.inl rfl | exact Or.inr rfl | assumption)⟩, ?_⟩
            | refine ⟨fun h => absurd h (by decide), fun _ => ?_⟩
            | refine ⟨fun _ => ?_, fun h => absurd h (by decide)⟩
            | refine ⟨fun h => ?_, fun h => ?_⟩
            | fail)
    have L : ∀ (rest : List (List Nat)) (v : List Nat) (done : List (List Nat)) (ls : Int32) (l8 l9 : Option zV) (μ1 : zMu), done ++ v :: rest = M → chn v rest gs.reverse → v.Perm gs → zScr μ μ1 → μ1 48 0 37 = nI m → (∀ k, k < m → μ1 86 0 k = nI (og k)) → (∀ k, k < 12 → μ1 96 0 k = lw v k) → ls = lsB (fd kp pr done).1 → ((fd kp pr done).1 < 1000000 → ∀ k, k < 12 → μ1 97 0 k = lw (fd kp pr done).2 k) → zG S (d + 10) m_Mo_lay K 124 [some (zR 48 0), some (zI (nI t)), some (zI o), some (zI day), some (zI w), some (zI (nI gs.length)), some (zI ls), some (zI 1), l8, l9] [] μ1 := by
      intro rest
      induction rest with
      | nil =>
        intro v done ls l8 l9 μ1 hMd hc hp s1 o1 o2 e96 hls h97
        have hv : v = gs.reverse := hc
        refine stp v done ls l8 l9 μ1 hp s1 o1 o2 e96 hls h97 (fun ls' l8' l9' μ2 s2 p1 p2 f96 hls' f97 => ?_)
        rw [hMd] at hls' f97
        have hdes : v.Pairwise (· > ·) := by
          rw [hv, List.pairwise_reverse, ← hG]
          exact gsT_sorted w 20
        have hlv : v.length = gs.length := hp.length_eq
        subst hls'
        repeat' (first
          | refine c_Mo_isNext_n (v := v) hlv hl1 (by omega) rfl (fun q hq => gs20 q (hp.mem_iff.mp hq)) hdes f96 ?_
          | exact E _ _ _ s2 f97
          | (refine zs k_Mo_lay rfl ?_; conv => whnf)
          | refine ⟨Nat.zero_lt_one, rfl, ?_⟩
          | refine ⟨rfl, ?_⟩
          | refine ⟨⟨Nat.zero_lt_one, rfl⟩, Nat.le_of_ble_eq_true rfl, ?_⟩
          | refine ⟨Nat.le_of_ble_eq_true rfl, Nat.le_of_ble_eq_true rfl, ?_⟩
          | refine ⟨(by first | exact Nat.zero_lt_one | assumption | omega), (by first | assumption | exact vp_in_nI (by omega) (by omega) | (unfold vp_in; decide)), ?_⟩
          | refine ⟨(by first | exact Nat.zero_lt_one | assumption | omega), rfl, ?_⟩
          | refine ⟨⟨(by first | exact Nat.zero_lt_one | assumption | omega), rfl⟩, Nat.le_of_ble_eq_true rfl, ?_⟩
          | refine ⟨(by first | exact Nat.zero_lt_one | assumption | omega), ?_⟩
          | refine ⟨Or.inl rfl, ?_⟩
          | refine ⟨Or.inr (Or.inl rfl), ?_⟩
          | refine ⟨Or.inr (Or.inr rfl), ?_⟩
          | refine ⟨Or.inr ⟨rfl, (by first | exact Or.inl rfl | exact Or.inr rfl | assumption)⟩, ?_⟩
          | refine ⟨fun h => absurd h (by decide), fun _ => ?_⟩
          | refine ⟨fun _ => ?_, fun h => absurd h (by decide)⟩
          | refine ⟨fun h => ?_, fun h => ?_⟩
          | fail)
      | cons v' rest ih =>
        intro v done ls l8 l9 μ1 hMd hc hp s1 o1 o2 e96 hls h97
        have hp' : v'.Perm gs := (nxR_perm hc.1).trans hp
        have hlv : v.length = gs.length := hp.length_eq
        refine stp v done ls l8 l9 μ1 hp s1 o1 o2 e96 hls h97 (fun ls' l8' l9' μ2 s2 p1 p2 f96 hls' f97 => ?_)
        repeat' (first
          | refine c_Mo_isNext_y (u := v) (v := v') hc.1 hlv (by omega) rfl (fun q hq => gs20 q (hp.mem_iff.mp hq)) f96 (fun μ3 c1 c2 => ?_)
          | refine ih v' (done ++ [v]) _ _ _ _ ?_ hc.2 hp' (zScr_tr s2 (zScr_96 c1)) (by rw [c1 48 (by omega)]; exact p1) (fun k hk => by rw [c1 86 (by omega)]; exact p2 k hk) c2 hls' (fun q k hk => by rw [c1 97 (by omega)]; exact f97 q k hk)
          | (refine zs k_Mo_lay rfl ?_; conv => whnf)
          | refine ⟨Nat.zero_lt_one, rfl, ?_⟩
          | refine ⟨rfl, ?_⟩
          | refine ⟨⟨Nat.zero_lt_one, rfl⟩, Nat.le_of_ble_eq_true rfl, ?_⟩
          | refine ⟨Nat.le_of_ble_eq_true rfl, Nat.le_of_ble_eq_true rfl, ?_⟩
          | refine ⟨(by first | exact Nat.zero_lt_one | assumption | omega), (by first | assumption | exact vp_in_nI (by omega) (by omega) | (unfold vp_in; decide)), ?_⟩
          | refine ⟨(by first | exact Nat.zero_lt_one | assumption | omega), rfl, ?_⟩
          | refine ⟨⟨(by first | exact Nat.zero_lt_one | assumption | omega), rfl⟩, Nat.le_of_ble_eq_true rfl, ?_⟩
          | refine ⟨(by first | exact Nat.zero_lt_one | assumption | omega), ?_⟩
          | refine ⟨Or.inl rfl, ?_⟩
          | refine ⟨Or.inr (Or.inl rfl), ?_⟩
          | refine ⟨Or.inr (Or.inr rfl), ?_⟩
          | refine ⟨Or.inr ⟨rfl, (by first | exact Or.inl rfl | exact Or.inr rfl | assumption)⟩, ?_⟩
          | refine ⟨fun h => absurd h (by decide), fun _ => ?_⟩
          | refine ⟨fun _ => ?_, fun h => absurd h (by decide)⟩
          | refine ⟨fun h => ?_, fun h => ?_⟩
          | fail)
        rw [List.append_assoc]
        exact hMd
    have fd0 : (fd kp pr []).1 = 1000000 := rfl
    have B : ∀ μ1 : zMu, zScr μ μ1 → μ1 48 0 37 = nI m → (∀ k, k < m → μ1 86 0 k = nI (og k)) → (∀ k, k < 12 → μ1 96 0 k = lw gs k) → zG S (d + 10) m_Mo_lay K 115 [some (zR 48 0), some (zI (nI t)), some (zI o), some (zI day), some (zI w), l5, none, none, none, none] [zI (nI gs.length)] μ1 := fun μ1 s1 o1 o2 e96 => by
      repeat' (first
        | refine L l gs [] _ _ _ _ pm1.symm pm2 (List.Perm.refl _) s1 o1 o2 e96 rfl (fun q => absurd q (by rw [fd0]; omega))
        | (refine zs k_Mo_lay rfl ?_; conv => whnf)
        | refine ⟨Nat.zero_lt_one, rfl, ?_⟩
        | refine ⟨rfl, ?_⟩
        | refine ⟨⟨Nat.zero_lt_one, rfl⟩, Nat.le_of_ble_eq_true rfl, ?_⟩
        | refine ⟨Nat.le_of_ble_eq_true rfl, Nat.le_of_ble_eq_true rfl, ?_⟩
        | refine ⟨(by first | exact Nat.zero_lt_one | assumption | omega), (by first | assumption | exact vp_in_nI (by omega) (by omega) | (unfold vp_in; decide)), ?_⟩
        | refine ⟨(by first | exact Nat.zero_lt_one | assumption | omega), rfl, ?_⟩
        | refine ⟨⟨(by first | exact Nat.zero_lt_one | assumption | omega), rfl⟩, Nat.le_of_ble_eq_true rfl, ?_⟩
        | refine ⟨(by first | exact Nat.zero_lt_one | assumption | omega), ?_⟩
        | refine ⟨Or.inl rfl, ?_⟩
        | refine ⟨Or.inr (Or.inl rfl), ?_⟩
        | refine ⟨Or.inr (Or.inr rfl), ?_⟩
        | refine ⟨Or.inr ⟨rfl, (by first | exact Or.inl rfl | exact Or.inr rfl | assumption)⟩, ?_⟩
        | refine ⟨fun h => absurd h (by decide), fun _ => ?_⟩
        | refine ⟨fun _ => ?_, fun h => absurd h (by decide)⟩
        | refine ⟨fun h => ?_, fun h => ?_⟩
        | fail)
    have A : ∀ μ1 : zMu, zScr μ μ1 → μ1 48 0 37 = nI m → (∀ k, k < m → μ1 86 0 k = nI (og k)) → zG S (d + 10) m_Mo_lay K 109 [some (zR 48 0), some (zI (nI t)), some (zI o), some (zI day), some (zI w), l5, none, none, none, none] [] μ1 := fun μ1 s1 o1 o2 => by
      have hn1 : μ1 48 0 5 = nI n := (gQ_scr s1 g).2.1.2.1
      have h7' : (gsT w 20).length ≤ 7 := by rw [hG]; exact h7
      repeat' (first
        | refine c_Mo_begin hn1 h20 hb h7' (fun μ2 c1 c2 => ?_)
        | (rw [hG] at c2 ⊢; refine B μ2 (zScr_tr s1 (zScr_96 c1)) (by rw [c1 48 (by omega)]; exact o1) (fun k hk => by rw [c1 86 (by omega)]; exact o2 k hk) c2)
        | (refine zs k_Mo_lay rfl ?_; conv => whnf)
        | refine ⟨Nat.zero_lt_one, rfl, ?_⟩
        | refine ⟨rfl, ?_⟩
        | refine ⟨⟨Nat.zero_lt_one, rfl⟩, Nat.le_of_ble_eq_true rfl, ?_⟩
        | refine ⟨Nat.le_of_ble_eq_true rfl, Nat.le_of_ble_eq_true rfl, ?_⟩
        | refine ⟨(by first | exact Nat.zero_lt_one | assumption | omega), (by first | assumption | exact vp_in_nI (by omega) (by omega) | (unfold vp_in; decide)), ?_⟩
        | refine ⟨(by first | exact Nat.zero_lt_one | assumption | omega), rfl, ?_⟩
        | refine ⟨⟨(by first | exact Nat.zero_lt_one | assumption | omega), rfl⟩, Nat.le_of_ble_eq_true rfl, ?_⟩
        | refine ⟨(by first | exact Nat.zero_lt_one | assumption | omega), ?_⟩
        | refine ⟨Or.inl rfl, ?_⟩
        | refine ⟨Or.inr (Or.inl rfl), ?_⟩
        | refine ⟨Or.inr (Or.inr rfl), ?_⟩
        | refine ⟨Or.inr ⟨rfl, (by first | exact Or.inl rfl | exact Or.inr rfl | assumption)⟩, ?_⟩
        | refine ⟨fun h => absurd h (by decide), fun _ => ?_⟩
        | refine ⟨fun _ => ?_, fun h => absurd h (by decide)⟩
        | refine ⟨fun h => ?_, fun h => ?_⟩
        | fail)
    repeat' (first
      | refine c_Mo_findOrder g (fun μ1 s1 c1 => ?_)
      | exact A μ1 s1 (by rw [← hmm]; exact c1.1) (by rw [← hmm, ← hO]; exact c1.2.1)
      | (refine zs k_Mo_lay rfl ?_; conv => whnf)
      | refine ⟨Nat.zero_lt_one, rfl, ?_⟩
      | refine ⟨rfl, ?_⟩
      | refine ⟨⟨Nat.zero_lt_one, rfl⟩, Nat.le_of_ble_eq_true rfl, ?_⟩
      | refine ⟨Nat.le_of_ble_eq_true rfl, Nat.le_of_ble_eq_true rfl, ?_⟩
      | refine ⟨(by first | exact Nat.zero_lt_one | assumption | omega), (by first | assumption | exact vp_in_nI (by omega) (by omega) | (unfold vp_in; decide)), ?_⟩
      | refine ⟨(by first | exact Nat.zero_lt_one | assumption | omega), rfl, ?_⟩
      | refine ⟨⟨(by first | exact Nat.zero_lt_one | assumption | omega), rfl⟩, Nat.le_of_ble_eq_true rfl, ?_⟩
      | refine ⟨(by first | exact Nat.zero_lt_one | assumption | omega), ?_⟩
      | refine ⟨Or.inl rfl, ?_⟩
      | refine ⟨Or.inr (Or.inl rfl), ?_⟩
      | refine ⟨Or.inr (Or.inr rfl), ?_⟩
      | refine ⟨Or.inr ⟨rfl, (by first | exact Or.inl rfl | exact Or.inr rfl | assumption)⟩, ?_⟩
      | refine ⟨fun h => absurd h (by decide), fun _ => ?_⟩
      | refine ⟨fun _ => ?_, fun h => absurd h (by decide)⟩
      | refine ⟨fun h => ?_, fun h => ?_⟩
      | fail)
  -- is one absent
  have L0 : ∀ (k i : Nat) (v : Int32), i + k = n → v = nI i → (∀ j, j < i → zbit w (nI j) → ¬ μ 10 0 j = 0) → zG S (d + 10) m_Mo_lay K 64 [some (zR 48 0), some (zI (nI t)), some (zI o), some (zI day), some (zI w), some (zI v), none, none, none, none] [] μ := by
    intro k
    induction k with
    | zero =>
      intro i v hi hv hj
      subst hv
      obtain rfl : i = n := by omega
      have hle : μ 48 0 5 ≤ nI i := by rw [hn]; exact nI_le (Nat.le_refl _) (by omega)
      refine zs k_Mo_lay rfl ?_; conv => whnf
      repeat' (first
        | refine br_t hle ?_
        | exact main hj _
        | (refine zs k_Mo_lay rfl ?_; conv => whnf)
        | refine ⟨Nat.zero_lt_one, rfl, ?_⟩
        | refine ⟨rfl, ?_⟩
        | refine ⟨⟨Nat.zero_lt_one, rfl⟩, Nat.le_of_ble_eq_true rfl, ?_⟩
        | refine ⟨Nat.le_of_ble_eq_true rfl, Nat.le_of_ble_eq_true rfl, ?_⟩
        | refine ⟨(by first | exact Nat.zero_lt_one | assumption | omega), (by first | assumption | exact vp_in_nI (by omega) (by omega) | (unfold vp_in; decide)), ?_⟩
        | refine ⟨(by first | exact Nat.zero_lt_one | assumption | omega), rfl, ?_⟩
        | refine ⟨⟨(by first | exact Nat.zero_lt_one | assumption | omega), rfl⟩, Nat.le_of_ble_eq_true rfl, ?_⟩
        | refine ⟨(by first | exact Nat.zero_lt_one | assumption | omega), ?_⟩
        | refine ⟨Or.inl rfl, ?_⟩
        | refine ⟨Or.inr (Or.inl rfl), ?_⟩
        | refine ⟨Or.inr (Or.inr rfl), ?_⟩
        | refine ⟨Or.inr ⟨rfl, (by first | exact Or.inl rfl | exact Or.inr rfl | assumption)⟩, ?_⟩
        | refine ⟨fun h => absurd h (by decide), fun _ => ?_⟩
        | refine ⟨fun _ => ?_, fun h => absurd h (by decide)⟩
        | refine ⟨fun h => ?_, fun h => ?_⟩
        | fail)
    | succ k ih =>
      intro i v hi hv hj
      subst hv
      have hle : ¬ μ 48 0 5 ≤ nI i := by rw [hn]; exact nI_ge (by omega) (by omega)
      have ci : (nI i).toNatClampNeg = i := nI_clamp (by omega)
      have vi : vp_in (nI i) 20 := vp_in_nI (by omega) (by omega)
      have e62 : μ 62 0 (nI i).toNatClampNeg = μ 10 0 i := by rw [ci]; exact (g.2.1.2.2.2 i (by omega)).1
      by_cases hz : zbit w (nI i)
      · have hz' := (bit i (by omega)).mpr hz
        by_cases h10 : μ 10 0 i = 0
        · have hk := h2 t z ho ht rfl z3 z2 hok (fun q => q i (by omega) hz h10)
          refine zs k_Mo_lay rfl ?_; conv => whnf
          repeat' (first
            | refine br_f hle ?_
            | refine bn_f hz' ?_
            | refine bn_f (e62.trans h10) ?_
            | exact hk
            | (refine zs k_Mo_lay rfl ?_; conv => whnf)
            | refine ⟨Nat.zero_lt_one, rfl, ?_⟩
            | refine ⟨rfl, ?_⟩
            | refine ⟨⟨Nat.zero_lt_one, rfl⟩, Nat.le_of_ble_eq_true rfl, ?_⟩
            | refine ⟨Nat.le_of_ble_eq_true rfl, Nat.le_of_ble_eq_true rfl, ?_⟩
            | refine ⟨(by first | exact Nat.zero_lt_one | assumption | omega), (by first | assumption | exact vp_in_nI (by omega) (by omega) | (unfold vp_in; decide)), ?_⟩
            | refine ⟨(by first | exact Nat.zero_lt_one | assumption | omega), rfl, ?_⟩
            | refine ⟨⟨(by first | exact Nat.zero_lt_one | assumption | omega), rfl⟩, Nat.le_of_ble_eq_true rfl, ?_⟩
            | refine ⟨(by first | exact Nat.zero_lt_one | assumption | omega), ?_⟩
            | refine ⟨Or.inl rfl, ?_⟩
            | refine ⟨Or.inr (Or.inl rfl), ?_⟩
            | refine ⟨Or.inr (Or.inr rfl), ?_⟩
            | refine ⟨Or.inr ⟨rfl, (by first | exact Or.inl rfl | exact Or.inr rfl | assumption)⟩, ?_⟩
            | refine ⟨fun h => absurd h (by decide), fun _ => ?_⟩
            | refine ⟨fun _ => ?_, fun h => absurd h (by decide)⟩
            | refine ⟨fun h => ?_, fun h => ?_⟩
            | fail)
        · have h10' : ¬ μ 62 0 (nI i).toNatClampNeg = 0 := by rw [e62]; exact h10
          refine zs k_Mo_lay rfl ?_; conv => whnf
          repeat' (first
            | refine br_f hle ?_
            | refine bn_f hz' ?_
            | refine bn_t h10' ?_
            | refine ih (i + 1) _ (by omega) (by exact nI_1 i) (lt_s hj (fun _ => h10))
            | (refine zs k_Mo_lay rfl ?_; conv => whnf)
            | refine ⟨Nat.zero_lt_one, rfl, ?_⟩
            | refine ⟨rfl, ?_⟩
            | refine ⟨⟨Nat.zero_lt_one, rfl⟩, Nat.le_of_ble_eq_true rfl, ?_⟩
            | refine ⟨Nat.le_of_ble_eq_true rfl, Nat.le_of_ble_eq_true rfl, ?_⟩
            | refine ⟨(by first | exact Nat.zero_lt_one | assumption | omega), (by first | assumption | exact vp_in_nI (by omega) (by omega) | (unfold vp_in; decide)), ?_⟩
            | refine ⟨(by first | exact Nat.zero_lt_one | assumption | omega), rfl, ?_⟩
            | refine ⟨⟨(by first | exact Nat.zero_lt_one | assumption | omega), rfl⟩, Nat.le_of_ble_eq_true rfl, ?_⟩
            | refine ⟨(by first | exact Nat.zero_lt_one | assumption | omega), ?_⟩
            | refine ⟨Or.inl rfl, ?_⟩
            | refine ⟨Or.inr (Or.inl rfl), ?_⟩
            | refine ⟨Or.inr (Or.inr rfl), ?_⟩
            | refine ⟨Or.inr ⟨rfl, (by first | exact Or.inl rfl | exact Or.inr rfl | assumption)⟩, ?_⟩
            | refine ⟨fun h => absurd h (by decide), fun _ => ?_⟩
            | refine ⟨fun _ => ?_, fun h => absurd h (by decide)⟩
            | refine ⟨fun h => ?_, fun h => ?_⟩
            | fail)
      · have hz' : ¬ (w >>> (nI i &&& 31)) &&& 1 = 1 := fun q => hz ((bit i (by omega)).mp q)
        refine zs k_Mo_lay rfl ?_; conv => whnf
        repeat' (first
          | refine br_f hle ?_
          | refine bn_t hz' ?_
          | refine ih (i + 1) _ (by omega) (by exact nI_1 i) (lt_s hj (fun q => absurd q hz))
          | (refine zs k_Mo_lay rfl ?_; conv => whnf)
          | refine ⟨Nat.zero_lt_one, rfl, ?_⟩
          | refine ⟨rfl, ?_⟩
          | refine ⟨⟨Nat.zero_lt_one, rfl⟩, Nat.le_of_ble_eq_true rfl, ?_⟩
          | refine ⟨Nat.le_of_ble_eq_true rfl, Nat.le_of_ble_eq_true rfl, ?_⟩
          | refine ⟨(by first | exact Nat.zero_lt_one | assumption | omega), (by first | assumption | exact vp_in_nI (by omega) (by omega) | (unfold vp_in; decide)), ?_⟩
          | refine ⟨(by first | exact Nat.zero_lt_one | assumption | omega), rfl, ?_⟩
          | refine ⟨⟨(by first | exact Nat.zero_lt_one | assumption | omega), rfl⟩, Nat.le_of_ble_eq_true rfl, ?_⟩
          | refine ⟨(by first | exact Nat.zero_lt_one | assumption | omega), ?_⟩
          | refine ⟨Or.inl rfl, ?_⟩
          | refine ⟨Or.inr (Or.inl rfl), ?_⟩
          | refine ⟨Or.inr (Or.inr rfl), ?_⟩
          | refine ⟨Or.inr ⟨rfl, (by first | exact Or.inl rfl | exact Or.inr rfl | assumption)⟩, ?_⟩
          | refine ⟨fun h => absurd h (by decide), fun _ => ?_⟩
          | refine ⟨fun _ => ?_, fun h => absurd h (by decide)⟩
          | refine ⟨fun h => ?_, fun h => ?_⟩
          | fail)
  repeat' (first
    | refine c_Mo_isTable (fun _ => ?_) (fun h => absurd hx' h)
    | refine c_Mo_isOccasion (fun _ => ?_) (fun q => absurd ho q)
    | refine br_f w0 ?_
    | refine br_f w1 ?_
    | refine c_Mo_countBits hb20 ?_
    | refine br_f w2 ?_
    | refine br_t w3 ?_
    | refine L0 n 0 _ (by omega) rfl (fun j hj => absurd hj (by omega))
    | (refine zs k_Mo_lay rfl ?_; conv => whnf)
    | refine ⟨Nat.zero_lt_one, rfl, ?_⟩
    | refine ⟨rfl, ?_⟩
    | refine ⟨⟨Nat.zero_lt_one, rfl⟩, Nat.le_of_ble_eq_true rfl, ?_⟩
    | refine ⟨Nat.le_of_ble_eq_true rfl, Nat.le_of_ble_eq_true rfl, ?_⟩
    | refine ⟨(by first | exact Nat.zero_lt_one | assumption | omega), (by first | assumption | exact vp_in_nI (by omega) (by omega) | (unfold vp_in; decide)), ?_⟩
    | refine ⟨(by first | exact Nat.zero_lt_one | assumption | omega), rfl, ?_⟩
    | refine ⟨⟨(by first | exact Nat.zero_lt_one | assumption | omega), rfl⟩, Nat.le_of_ble_eq_true rfl, ?_⟩
    | refine ⟨(by first | exact Nat.zero_lt_one | assumption | omega), ?_⟩
    | refine ⟨Or.inl rfl, ?_⟩
    | refine ⟨Or.inr (Or.inl rfl), ?_⟩
    | refine ⟨Or.inr (Or.inr rfl), ?_⟩
    | refine ⟨Or.inr ⟨rfl, (by first | exact Or.inl rfl | exact Or.inr rfl | assumption)⟩, ?_⟩
    | refine ⟨fun h => absurd h (by decide), fun _ => ?_⟩
    | refine ⟨fun _ => ?_, fun h => absurd h (by decide)⟩
    | refine ⟨fun h => ?_, fun h => ?_⟩
    | fail)
/-! DESK: lay, both sides -/
theorem n_bit {d : Nat} {μ : zMu} {x : Int32} {K : Option zV → zMu → Prop} (hx : bN x < 2 ^ 20) (hK : K (some (zI (nI (gsT x 20).length))) μ) : Ct d m_Jint_bitCount [zI x] μ K := c_Jint_bitCount (zKe hK (bc_ct hx) rfl)
theorem sBeg_scr {μ μ1 μ0 : zMu} {m : Nat} {o : Nat → Nat} {w : Int32} (f1 : zFr7 μ μ1) (sb : sBeg μ1 μ0 m o w) : zScr μ μ0 := by
  refine ⟨fun f hf => ?_, ?_, fun k _ => ?_⟩
  · rw [sb.1 f (fun q => hf ?_), f1 f (fun q => hf ?_)]
    · simp only [List.mem_cons, List.not_mem_nil, or_false] at q ⊢
      omega
    · simp only [List.mem_cons, List.not_mem_nil, or_false] at q ⊢
      omega
  · rw [sb.1 2 (by decide), f1 2 (by decide)]
  · rw [sb.1 48 (by decide), f1 48 (by decide)]
theorem lay_39 {μ μ1 μ0 : zMu} {ns n nr nh : Nat} {o day w : Int32} (g : gQ μ ns n nr nh) (sb : sBeg μ1 μ0 (pCt (cLf0 μ n) n) (oN (cAd μ o day nr nh n) n (cLf0 μ n)) w) (hb : bN w < 2 ^ n) (hall : cAll μ w n) {p : Nat} (hp : p ∈ gsT w 20) : ∃ i, i < pCt (cLf0 μ n) n ∧ p = oN (cAd μ o day nr nh n) n (cLf0 μ n) i ∧ ∃ c, c ≤ 20 ∧ μ0 39 0 p = nI c := by
  have h20 := g.2.1.2.2.1
  obtain ⟨p20, pb⟩ := gsT_mem.mp hp
  have hpn : p < n := by
    rcases Nat.lt_or_ge p n with q | q
    · exact q
    · rw [zbt_hi hb q] at pb
      cases pb
  have h10 : μ 10 0 p = 1 := by
    rcases (g.2.1.2.2.2 p hpn).2.1 with q | q
    · exact absurd q (hall p hpn ((zbit_iff (by omega)).mpr pb))
    · exact q
  obtain ⟨i, hi, e⟩ := oN_all (A := cAd μ o day nr nh n) (lf0 := cLf0 μ n) h20 hpn (by unfold cLf0; simp [hpn, h10])
  have hm := pCt_le (cLf0 μ n) n
  refine ⟨i, hi, e, _, Nat.le_trans (pCt_le (fun i => zbt w (oN (cAd μ o day nr nh n) n (cLf0 μ n) i)) i) (by omega), ?_⟩
  rw [e]
  exact sb.2.1 i hi (by rw [← e]; exact pb)
theorem gs_lt {w : Int32} {n : Nat} (hb : bN w < 2 ^ n) : ∀ q ∈ gsT w 20, q < n := fun q hq => by
  have hq2 := (gsT_mem.mp hq).2
  rcases Nat.lt_or_ge q n with v | v
  · exact v
  · rw [zbt_hi hb v] at hq2
    cases hq2
theorem lw_in {v gs : List Nat} {n : Nat} (hv : ∀ x ∈ v, x ∈ gs) (hg : ∀ g ∈ gs, g < n) : ∀ k, pOk n (lw v k) := fun k => by
  unfold lw
  cases h : v[k]? with
  | none => exact Or.inl rfl
  | some p => exact Or.inr ⟨p, hg p (hv p (List.mem_of_getElem? h)), rfl⟩
theorem lay_hPr {μ μ1 μ0 : zMu} {ns n nr nh z : Nat} {o day w rd : Int32} (g : gQ μ ns n nr nh) (g8 : gCo μ) (f1 : zFr7 μ μ1) (sb : sBeg μ1 μ0 (pCt (cLf0 μ n) n) (oN (cAd μ o day nr nh n) n (cLf0 μ n)) w) (hok : okLy w n z) (hz : z ≤ 12) (hall : cAll μ w n) {v : List Nat} (hv : ∀ x ∈ v, x ∈ gsT w 20) {k : Nat} (hk : k < z) : ∃ N, N ≤ 100 ∧ hPr μ0 (lw v) rd z k = nI N := by
  have s0 := sBeg_scr f1 sb
  obtain ⟨g1', g2', -, -⟩ := gQ_scr s0 g
  have g8' := gCo_fr (zScr_in s0 rfl) g8
  have h := hPr_eq (μ := μ0) (r := lw v) (rd := rd) g1' g2' g8' hz hk (fun k _ => lw_in hv (gs_lt hok.1) k) (fun hne => by
    unfold lw at hne ⊢
    cases h : v[k]? with
    | none =>
      rw [h] at hne
      exact absurd rfl hne
    | some p =>
      obtain ⟨i, hi, e, c, hc, ec⟩ := lay_39 g sb hok.1 hall (hv p (List.mem_of_getElem? h))
      have := gs_lt hok.1 p (hv p (List.mem_of_getElem? h))
      have h20 := g.2.1.2.2.1
      exact ⟨c, hc, by show μ0 39 0 (nI p).toNatClampNeg = nI c; rw [nI_clamp (by omega)]; exact ec⟩)
  exact ⟨_, h.2, h.1⟩
theorem lay_env {μ μ1 μ0 : zMu} {ns n nr nh t z : Nat} {o day w : Int32} (g : gQ μ ns n nr nh) (g8 : gCo μ) (f1 : zFr7 μ μ1) (sb : sBeg μ1 μ0 (pCt (cLf0 μ n) n) (oN (cAd μ o day nr nh n) n (cLf0 μ n)) w) (ht : t < 4) (h9 : μ 9 t 0 = nI z) (hok : okLy w n z) (hz : z ≤ 12) (hall : cAll μ w n) : sEnv μ0 t z (gsT w 20) := by
  have s0 := sBeg_scr f1 sb
  obtain ⟨g1', g2', -, -⟩ := gQ_scr s0 g
  have h20 := g.2.1.2.2.1
  refine ⟨ht, by rw [zScr_in s0 (l := [9]) rfl 9 (by simp)]; exact h9, hz, hok.2.2.1, hok.2.2.2, (gsT_sorted w 20).imp (fun h => by omega), fun q hq => ⟨(gsT_mem.mp hq).1, hOk_of g1' g2' (Or.inr ⟨q, gs_lt hok.1 q hq, rfl⟩)⟩, sb.2.2, fun v hv hl hm => ?_⟩
  have : 0 < v.length := List.length_pos_iff.mpr hv
  have := hok.2.2.2
  exact lay_hPr g g8 f1 sb hok hz hall hm (by omega)
theorem kpW_iff {pe : List Nat → Bool} {v : List Nat} : ∀ {n : Nat}, kpW pe v n = true ↔ ∀ k, k < n → pe (v.take (k + 1)) = true
  | 0 => ⟨fun _ k hk => absurd hk (by omega), fun _ => rfl⟩
  | n + 1 => by
    rw [kpW, Bool.and_eq_true, kpW_iff]
    constructor
    · rintro ⟨h1, h2⟩ k hk
      rcases Nat.lt_or_ge k n with q | q
      · exact h1 k q
      · obtain rfl : k = n := by omega
        exact h2
    · intro h
      exact ⟨fun k hk => h k (by omega), h n (by omega)⟩
theorem csW_nS {pc : List Nat → Nat} {v : List Nat} : ∀ {n : Nat}, csW pc v n = nS (fun k => pc (v.take (k + 1))) n
  | 0 => rfl
  | n + 1 => by
    rw [csW, nS, csW_nS]
theorem nS_le {f : Nat → Nat} {c : Nat} : ∀ {n : Nat}, (∀ k, k < n → f k ≤ c) → nS f n ≤ n * c
  | 0, _ => Nat.zero_le _
  | n + 1, h => by
    have h1 := nS_le (f := f) (c := c) (n := n) (fun k hk => h k (by omega))
    have h2 := h n (by omega)
    rw [nS, Nat.succ_mul]
    omega
theorem nS_ext {f : Nat → Nat} {m : Nat} : ∀ {k : Nat}, (∀ j, m ≤ j → j < m + k → f j = 0) → nS f (m + k) = nS f m
  | 0, _ => rfl
  | k + 1, h => by
    show nS f (m + k) + f (m + k) = _
    rw [nS_ext (fun j h1 h2 => h j h1 (by omega)), h (m + k) (by omega) (by omega), Nat.add_zero]
theorem lw_take {v : List Nat} {k j : Nat} (hj : j ≤ k) : lw (v.take (k + 1)) j = lw v j := by
  unfold lw
  rw [List.getElem?_take_of_lt (by omega)]
theorem kp_cls {μ0 : zMu} {rd : Int32} {z : Nat} {v : List Nat} (hz : z ≤ 12) (hl : v.length ≤ z) : kpW (sPe μ0 rd z) v v.length = true ↔ ∀ k, k < z → hPe μ0 (lw v) rd z k := by
  rw [kpW_iff]
  have e : ∀ k, k < v.length → (sPe μ0 rd z (v.take (k + 1)) = true ↔ hPe μ0 (lw v) rd z k) := fun k hk => by
    unfold sPe
    have hlk : (v.take (k + 1)).length - 1 = k := by
      rw [List.length_take]
      omega
    rw [hlk, ← hPe_iff]
    exact hPe_loc (by omega) (fun j hj => lw_take hj) rfl rfl
  constructor
  · intro h k hk
    rcases Nat.lt_or_ge k v.length with q | q
    · exact (e k q).mp (h k q)
    · have hm : lw v k = -1 := lw_out q
      refine ⟨fun w => w.1 hm, fun w => w.1 hm, fun w => w.1 hm⟩
  · intro h k hk
    exact (e k hk).mpr (h k (by omega))
theorem pr_cls {μ0 : zMu} {rd : Int32} {z : Nat} {v : List Nat} (hz : z ≤ 12) (hl : v.length ≤ z) (hN : ∀ k, k < z → ∃ N, N ≤ 100 ∧ hPr μ0 (lw v) rd z k = nI N) : pSum (hPr μ0 (lw v) rd z) z = nI (csW (sPc μ0 rd z) v v.length) ∧ csW (sPc μ0 rd z) v v.length < 1000000 := by
  have e : ∀ k, k < v.length → sPc μ0 rd z (v.take (k + 1)) = (hPr μ0 (lw v) rd z k).toNatClampNeg := fun k hk => by
    unfold sPc
    have hlk : (v.take (k + 1)).length - 1 = k := by
      rw [List.length_take]
      omega
    rw [hlk, hPr_loc (μ := μ0) (r := lw v) (by omega) (fun j hj => lw_take hj) rfl rfl rfl]
  have hf : ∀ k, k < z → hPr μ0 (lw v) rd z k = nI (hPr μ0 (lw v) rd z k).toNatClampNeg ∧ (hPr μ0 (lw v) rd z k).toNatClampNeg ≤ 100 := fun k hk => by
    obtain ⟨N, h1, h2⟩ := hN k hk
    rw [h2, nI_clamp (by omega)]
    exact ⟨rfl, h1⟩
  have h0 : ∀ k, v.length ≤ k → (hPr μ0 (lw v) rd z k).toNatClampNeg = 0 := fun k hk => by
    unfold hPr
    rw [if_pos (lw_out hk)]
    rfl
  have hs : csW (sPc μ0 rd z) v v.length = nS (fun k => (hPr μ0 (lw v) rd z k).toNatClampNeg) z := by
    rw [csW_nS, nS_cg (fun k hk => e k hk)]
    have := nS_ext (f := fun k => (hPr μ0 (lw v) rd z k).toNatClampNeg) (m := v.length) (k := z - v.length) (fun j h1 _ => h0 j h1)
    rw [show v.length + (z - v.length) = z by omega] at this
    exact this.symm
  rw [hs]
  refine ⟨pSum_nI (fun k hk => (hf k hk).1), ?_⟩
  have := nS_le (f := fun k => (hPr μ0 (lw v) rd z k).toNatClampNeg) (c := 100) (n := z) (fun k hk => (hf k hk).2)
  omega
theorem sRes_fd {μ0 : zMu} {t z : Nat} {gs : List Nat} : sRes μ0 t z gs = fd (fun v => kpW (sPe μ0 (μ0 9 t 2) z) v gs.length) (fun v => csW (sPc μ0 (μ0 9 t 2) z) v gs.length) (pm gs.length [] gs) := by
  unfold sRes fd
  have h := en_pm (pe := sPe μ0 (μ0 9 t 2) z) (pc := sPc μ0 (μ0 9 t 2) z) (m := gs.length) (w := []) (A := gs) rfl
  rw [List.length_nil, Nat.zero_add] at h
  rw [show (0 : Nat) = csW (sPc μ0 (μ0 9 t 2) z) [] 0 from rfl, h]
theorem c_De_lay {d ns n nr nh nt : Nat} {μ : zMu} {x o day w : Int32} {K : Option zV → zMu → Prop} (g : gQ μ ns n nr nh) (g6 : gTb μ nt n) (g8 : gCo μ) (h0 : ¬ (okI nt x ∧ okO o day) → K (some (zI (-1))) μ)
    (h1 : ∀ t z, okO o day → t < nt → x = nI t → μ 9 t 0 = nI z → z ≤ 12 → ¬ okLy w n z → K (some (zI (-2))) μ)
    (h2 : ∀ t z, okO o day → t < nt → x = nI t → μ 9 t 0 = nI z → z ≤ 12 → okLy w n z → ¬ cAll μ w n → K (some (zI (-3))) μ)
    (h3 : ∀ t z μ1 μ0 μ', okO o day → t < nt → x = nI t → μ 9 t 0 = nI z → z ≤ 12 → okLy w n z → cAll μ w n → zFr7 μ μ1 → sBeg μ1 μ0 (pCt (cLf0 μ n) n) (oN (cAd μ o day nr nh n) n (cLf0 μ n)) w → (sRes μ0 t z (gsT w 20)).1 = 1000000 → (∀ f, f ∉ [6, 39, 41, 42, 43, 44] → μ' f = μ1 f) → K (some (zI (-6))) μ')
    (h4 : ∀ t z μ1 μ0 μ', okO o day → t < nt → x = nI t → μ 9 t 0 = nI z → z ≤ 12 → okLy w n z → cAll μ w n → zFr7 μ μ1 → sBeg μ1 μ0 (pCt (cLf0 μ n) n) (oN (cAd μ o day nr nh n) n (cLf0 μ n)) w → (sRes μ0 t z (gsT w 20)).1 < 1000000 → (∀ f, f ∉ [6, 39, 40, 41, 42, 43, 44] → μ' f = μ1 f) → (∀ i k, μ' 40 i k = if i = t ∧ k < 12 then lw (sRes μ0 t z (gsT w 20)).2 k else μ1 40 i k) → K (some (zI (nI (sRes μ0 t z (gsT w 20)).1))) μ') : Ct (d + 14) m_De_lay [zR 0 0, zI x, zI o, zI day, zI w] μ K := by
  refine zmeet rfl (Nat.le_of_ble_eq_true rfl) (fun S => ?_)
  obtain ⟨g1, g2, g4, g5⟩ := id g
  have h20 := g2.2.2.1
  have hn := g2.1
  have ht4 := g6.2.2.1
  have hm := pCt_le (cLf0 μ n) n
  have hpn : 2 ^ n ≤ 2 ^ 20 := Nat.pow_le_pow_right (by omega) h20
  by_cases hx : okI nt x
  case neg =>
    have hk := h0 (fun q => hx q.1)
    have hx' : ¬ (0 ≤ x ∧ x < μ 5 0 0) := by rw [g6.1]; exact hx
    repeat' (first
      | refine c_Ha_hasTable (fun h h' => absurd ⟨h, h'⟩ hx') (fun _ => ?_)
      | exact hk
      | (refine zs k_De_lay rfl ?_; conv => whnf)
      | refine ⟨Nat.zero_lt_one, rfl, ?_⟩
      | refine ⟨rfl, ?_⟩
      | refine ⟨⟨Nat.zero_lt_one, rfl⟩, Nat.le_of_ble_eq_true rfl, ?_⟩
      | refine ⟨Nat.le_of_ble_eq_true rfl, Nat.le_of_ble_eq_true rfl, ?_⟩
      | refine ⟨(by first | exact Nat.zero_lt_one | assumption | omega), (by first | assumption | exact vp_in_nI (by omega) (by omega) | (unfold vp_in; decide)), ?_⟩
      | refine ⟨(by first | exact Nat.zero_lt_one | assumption | omega), rfl, ?_⟩
      | refine ⟨⟨(by first | exact Nat.zero_lt_one | assumption | omega), rfl⟩, Nat.le_of_ble_eq_true rfl, ?_⟩
      | refine ⟨(by first | exact Nat.zero_lt_one | assumption | omega), ?_⟩
      | refine ⟨Or.inl rfl, ?_⟩
      | refine ⟨Or.inr (Or.inl rfl), ?_⟩
      | refine ⟨Or.inr (Or.inr rfl), ?_⟩
      | refine ⟨Or.inr ⟨rfl, (by first | exact Or.inl rfl | exact Or.inr rfl | assumption)⟩, ?_⟩
      | refine ⟨fun h => absurd h (by decide), fun _ => ?_⟩
      | refine ⟨fun _ => ?_, fun h => absurd h (by decide)⟩
      | refine ⟨fun h => ?_, fun h => ?_⟩
      | fail)
  have hx' : 0 ≤ x ∧ x < μ 5 0 0 := by rw [g6.1]; exact hx
  by_cases ho : okO o day
  case neg =>
    have hk := h0 (fun q => ho q.2)
    repeat' (first
      | refine c_Ha_hasTable (fun _ _ => ?_) (fun h => absurd hx' h)
      | refine c_De_isOccasion (fun q => absurd q ho) (fun _ => ?_)
      | exact hk
      | (refine zs k_De_lay rfl ?_; conv => whnf)
      | refine ⟨Nat.zero_lt_one, rfl, ?_⟩
      | refine ⟨rfl, ?_⟩
      | refine ⟨⟨Nat.zero_lt_one, rfl⟩, Nat.le_of_ble_eq_true rfl, ?_⟩
      | refine ⟨Nat.le_of_ble_eq_true rfl, Nat.le_of_ble_eq_true rfl, ?_⟩
      | refine ⟨(by first | exact Nat.zero_lt_one | assumption | omega), (by first | assumption | exact vp_in_nI (by omega) (by omega) | (unfold vp_in; decide)), ?_⟩
      | refine ⟨(by first | exact Nat.zero_lt_one | assumption | omega), rfl, ?_⟩
      | refine ⟨⟨(by first | exact Nat.zero_lt_one | assumption | omega), rfl⟩, Nat.le_of_ble_eq_true rfl, ?_⟩
      | refine ⟨(by first | exact Nat.zero_lt_one | assumption | omega), ?_⟩
      | refine ⟨Or.inl rfl, ?_⟩
      | refine ⟨Or.inr (Or.inl rfl), ?_⟩
      | refine ⟨Or.inr (Or.inr rfl), ?_⟩
      | refine ⟨Or.inr ⟨rfl, (by first | exact Or.inl rfl | exact Or.inr rfl | assumption)⟩, ?_⟩
      | refine ⟨fun h => absurd h (by decide), fun _ => ?_⟩
      | refine ⟨fun _ => ?_, fun h => absurd h (by decide)⟩
      | refine ⟨fun h => ?_, fun h => ?_⟩
      | fail)
  rcases zIx x (n := nt) (by omega) with ⟨t, ht, rfl⟩ | q
  case inr => exact absurd hx q
  obtain ⟨-, -, ⟨z, z1, z2, z3, z4, z5⟩, -⟩ := g6.2.2.2 t ht
  have ct : (nI t).toNatClampNeg = t := nI_clamp (by omega)
  have vt : vp_in (nI t) 4 := vp_in_nI (by omega) (by omega)
  have hlt : (nI t).toNatClampNeg < 4 := by omega
  have e9 : μ 9 (nI t).toNatClampNeg 0 = nI z := by rw [ct]; exact z3
  have hset : (w.toUInt32 >>> ((μ 1 0 1).toUInt32 &&& Int32.toUInt32 31)).toInt32 = 0 ↔ bN w < 2 ^ n := by rw [hn]; exact set_ok (by omega)
  by_cases hb : bN w < 2 ^ n
  case neg =>
    have hk := h1 t z ho ht rfl z3 z2 (fun q => hb q.1)
    repeat' (first
      | refine c_Ha_hasTable (fun _ _ => ?_) (fun h => absurd hx' h)
      | refine c_De_isOccasion (fun _ => ?_) (fun q => absurd ho q)
      | refine c_Jint_bitCount ?_
      | refine c_Ro_isSetOfPersons (fun q => absurd (hset.mp q) hb) (fun _ => ?_)
      | exact hk
      | (refine zs k_De_lay rfl ?_; conv => whnf)
      | refine ⟨Nat.zero_lt_one, rfl, ?_⟩
      | refine ⟨rfl, ?_⟩
      | refine ⟨⟨Nat.zero_lt_one, rfl⟩, Nat.le_of_ble_eq_true rfl, ?_⟩
      | refine ⟨Nat.le_of_ble_eq_true rfl, Nat.le_of_ble_eq_true rfl, ?_⟩
      | refine ⟨(by first | exact Nat.zero_lt_one | assumption | omega), (by first | assumption | exact vp_in_nI (by omega) (by omega) | (unfold vp_in; decide)), ?_⟩
      | refine ⟨(by first | exact Nat.zero_lt_one | assumption | omega), rfl, ?_⟩
      | refine ⟨⟨(by first | exact Nat.zero_lt_one | assumption | omega), rfl⟩, Nat.le_of_ble_eq_true rfl, ?_⟩
      | refine ⟨(by first | exact Nat.zero_lt_one | assumption | omega), ?_⟩
      | refine ⟨Or.inl rfl, ?_⟩
      | refine ⟨Or.inr (Or.inl rfl), ?_⟩
      | refine ⟨Or.inr (Or.inr rfl), ?_⟩
      | refine ⟨Or.inr ⟨rfl, (by first | exact Or.inl rfl | exact Or.inr rfl | assumption)⟩, ?_⟩
      | refine ⟨fun h => absurd h (by decide), fun _ => ?_⟩
      | refine ⟨fun _ => ?_, fun h => absurd h (by decide)⟩
      | refine ⟨fun h => ?_, fun h => ?_⟩
      | fail)
  have hb20 : bN w < 2 ^ 20 := by omega
  have hl20 : (gsT w 20).length ≤ 20 := by rw [gsT_len]; exact pCt_le _ _
  by_cases hok : okLy w n z
  case neg =>
    have hk := h1 t z ho ht rfl z3 z2 hok
    by_cases q1 : 1 ≤ (gsT w 20).length
    case neg =>
      have q1' : nI (gsT w 20).length < 1 := nI_lt (b := 1) (by omega) (by omega)
      repeat' (first
        | refine c_Ha_hasTable (fun _ _ => ?_) (fun h => absurd hx' h)
        | refine c_De_isOccasion (fun _ => ?_) (fun q => absurd ho q)
        | refine n_bit hb20 ?_
        | refine br_t q1' ?_
        | exact hk
        | (refine zs k_De_lay rfl ?_; conv => whnf)
        | refine ⟨Nat.zero_lt_one, rfl, ?_⟩
        | refine ⟨rfl, ?_⟩
        | refine ⟨⟨Nat.zero_lt_one, rfl⟩, Nat.le_of_ble_eq_true rfl, ?_⟩
        | refine ⟨Nat.le_of_ble_eq_true rfl, Nat.le_of_ble_eq_true rfl, ?_⟩
        | refine ⟨(by first | exact Nat.zero_lt_one | assumption | omega), (by first | assumption | exact vp_in_nI (by omega) (by omega) | (unfold vp_in; decide)), ?_⟩
        | refine ⟨(by first | exact Nat.zero_lt_one | assumption | omega), rfl, ?_⟩
        | refine ⟨⟨(by first | exact Nat.zero_lt_one | assumption | omega), rfl⟩, Nat.le_of_ble_eq_true rfl, ?_⟩
        | refine ⟨(by first | exact Nat.zero_lt_one | assumption | omega), ?_⟩
        | refine ⟨Or.inl rfl, ?_⟩
        | refine ⟨Or.inr (Or.inl rfl), ?_⟩
        | refine ⟨Or.inr (Or.inr rfl), ?_⟩
        | refine ⟨Or.inr ⟨rfl, (by first | exact Or.inl rfl | exact Or.inr rfl | assumption)⟩, ?_⟩
        | refine ⟨fun h => absurd h (by decide), fun _ => ?_⟩
        | refine ⟨fun _ => ?_, fun h => absurd h (by decide)⟩
        | refine ⟨fun h => ?_, fun h => ?_⟩
        | fail)
    have q1' : ¬ nI (gsT w 20).length < 1 := nI_nlt (b := 1) q1 (by omega)
    by_cases q2 : (gsT w 20).length ≤ 7
    case neg =>
      have q2' : 7 < nI (gsT w 20).length := nI_lt (a := 7) (by omega) (by omega)
      repeat' (first
        | refine c_Ha_hasTable (fun _ _ => ?_) (fun h => absurd hx' h)
        | refine c_De_isOccasion (fun _ => ?_) (fun q => absurd ho q)
        | refine n_bit hb20 ?_
        | refine br_f q1' ?_
        | refine br_t q2' ?_
        | exact hk
        | (refine zs k_De_lay rfl ?_; conv => whnf)
        | refine ⟨Nat.zero_lt_one, rfl, ?_⟩
        | refine ⟨rfl, ?_⟩
        | refine ⟨⟨Nat.zero_lt_one, rfl⟩, Nat.le_of_ble_eq_true rfl, ?_⟩
        | refine ⟨Nat.le_of_ble_eq_true rfl, Nat.le_of_ble_eq_true rfl, ?_⟩
        | refine ⟨(by first | exact Nat.zero_lt_one | assumption | omega), (by first | assumption | exact vp_in_nI (by omega) (by omega) | (unfold vp_in; decide)), ?_⟩
        | refine ⟨(by first | exact Nat.zero_lt_one | assumption | omega), rfl, ?_⟩
        | refine ⟨⟨(by first | exact Nat.zero_lt_one | assumption | omega), rfl⟩, Nat.le_of_ble_eq_true rfl, ?_⟩
        | refine ⟨(by first | exact Nat.zero_lt_one | assumption | omega), ?_⟩
        | refine ⟨Or.inl rfl, ?_⟩
        | refine ⟨Or.inr (Or.inl rfl), ?_⟩
        | refine ⟨Or.inr (Or.inr rfl), ?_⟩
        | refine ⟨Or.inr ⟨rfl, (by first | exact Or.inl rfl | exact Or.inr rfl | assumption)⟩, ?_⟩
        | refine ⟨fun h => absurd h (by decide), fun _ => ?_⟩
        | refine ⟨fun _ => ?_, fun h => absurd h (by decide)⟩
        | refine ⟨fun h => ?_, fun h => ?_⟩
        | fail)
    have q2' : ¬ 7 < nI (gsT w 20).length := nI_nlt (b := (gsT w 20).length) (a := 7) q2 (by omega)
    have q3' : μ 9 (nI t).toNatClampNeg 0 < nI (gsT w 20).length := by
      rw [e9]
      refine nI_lt ?_ (by omega)
      rcases Nat.lt_or_ge z (gsT w 20).length with q | q
      · exact q
      · exact absurd ⟨hb, q1, q2, q⟩ hok
    repeat' (first
      | refine c_Ha_hasTable (fun _ _ => ?_) (fun h => absurd hx' h)
      | refine c_De_isOccasion (fun _ => ?_) (fun q => absurd ho q)
      | refine n_bit hb20 ?_
      | refine br_f q1' ?_
      | refine br_f q2' ?_
      | refine br_t q3' ?_
      | exact hk
      | (refine zs k_De_lay rfl ?_; conv => whnf)
      | refine ⟨Nat.zero_lt_one, rfl, ?_⟩
      | refine ⟨rfl, ?_⟩
      | refine ⟨⟨Nat.zero_lt_one, rfl⟩, Nat.le_of_ble_eq_true rfl, ?_⟩
      | refine ⟨Nat.le_of_ble_eq_true rfl, Nat.le_of_ble_eq_true rfl, ?_⟩
      | refine ⟨(by first | exact Nat.zero_lt_one | assumption | omega), (by first | assumption | exact vp_in_nI (by omega) (by omega) | (unfold vp_in; decide)), ?_⟩
      | refine ⟨(by first | exact Nat.zero_lt_one | assumption | omega), rfl, ?_⟩
      | refine ⟨⟨(by first | exact Nat.zero_lt_one | assumption | omega), rfl⟩, Nat.le_of_ble_eq_true rfl, ?_⟩
      | refine ⟨(by first | exact Nat.zero_lt_one | assumption | omega), ?_⟩
      | refine ⟨Or.inl rfl, ?_⟩
      | refine ⟨Or.inr (Or.inl rfl), ?_⟩
      | refine ⟨Or.inr (Or.inr rfl), ?_⟩
      | refine ⟨Or.inr ⟨rfl, (by first | exact Or.inl rfl | exact Or.inr rfl | assumption)⟩, ?_⟩
      | refine ⟨fun h => absurd h (by decide), fun _ => ?_⟩
      | refine ⟨fun _ => ?_, fun h => absurd h (by decide)⟩
      | refine ⟨fun h => ?_, fun h => ?_⟩
      | fail)
  have q1' : ¬ nI (gsT w 20).length < 1 := nI_nlt (b := 1) hok.2.1 (by omega)
  have q2' : ¬ 7 < nI (gsT w 20).length := nI_nlt (b := (gsT w 20).length) (a := 7) hok.2.2.1 (by omega)
  have q3' : ¬ μ 9 (nI t).toNatClampNeg 0 < nI (gsT w 20).length := by rw [e9]; exact nI_nlt hok.2.2.2 (by omega)
  by_cases hall : cAll μ w n
  case neg =>
    have hk := h2 t z ho ht rfl z3 z2 hok hall
    repeat' (first
      | refine c_Ha_hasTable (fun _ _ => ?_) (fun h => absurd hx' h)
      | refine c_De_isOccasion (fun _ => ?_) (fun q => absurd ho q)
      | refine n_bit hb20 ?_
      | refine br_f q1' ?_
      | refine br_f q2' ?_
      | refine br_f q3' ?_
      | refine c_Ro_isSetOfPersons (fun _ => ?_) (fun q => absurd (hset.mpr hb) q)
      | refine c_Ro_areAllPresent hn h20 (fun q => absurd q hall) (fun _ => ?_)
      | exact hk
      | (refine zs k_De_lay rfl ?_; conv => whnf)
      | refine ⟨Nat.zero_lt_one, rfl, ?_⟩
      | refine ⟨rfl, ?_⟩
      | refine ⟨⟨Nat.zero_lt_one, rfl⟩, Nat.le_of_ble_eq_true rfl, ?_⟩
      | refine ⟨Nat.le_of_ble_eq_true rfl, Nat.le_of_ble_eq_true rfl, ?_⟩
      | refine ⟨(by first | exact Nat.zero_lt_one | assumption | omega), (by first | assumption | exact vp_in_nI (by omega) (by omega) | (unfold vp_in; decide)), ?_⟩
      | refine ⟨(by first | exact Nat.zero_lt_one | assumption | omega), rfl, ?_⟩
      | refine ⟨⟨(by first | exact Nat.zero_lt_one | assumption | omega), rfl⟩, Nat.le_of_ble_eq_true rfl, ?_⟩
      | refine ⟨(by first | exact Nat.zero_lt_one | assumption | omega), ?_⟩
      | refine ⟨Or.inl rfl, ?_⟩
      | refine ⟨Or.inr (Or.inl rfl), ?_⟩
      | refine ⟨Or.inr (Or.inr rfl), ?_⟩
      | refine ⟨Or.inr ⟨rfl, (by first | exact Or.inl rfl | exact Or.inr rfl | assumption)⟩, ?_⟩
      | refine ⟨fun h => absurd h (by decide), fun _ => ?_⟩
      | refine ⟨fun _ => ?_, fun h => absurd h (by decide)⟩
      | refine ⟨fun h => ?_, fun h => ?_⟩
      | fail)
  have V : ∀ μ1 : zMu, zFr7 μ μ1 → cOrd μ μ1 (cAd μ o day nr nh n) n (cLf0 μ n) (pCt (cLf0 μ n) n) → zG S (d + 14) m_De_lay K 113 [some (zR 0 0), some (zI (nI t)), some (zI o), some (zI day), some (zI w), some (zR 9 (nI t).toNatClampNeg), some (zI (nI (gsT w 20).length)), some (zI 1), none] [] μ1 := fun μ1 f1 c1 => by
    rw [ct]
    repeat' (first
      | refine c_Se_arrange (n := z) (m := pCt (cLf0 μ n) n) (o := oN (cAd μ o day nr nh n) n (cLf0 μ n)) (by omega) hok.2.2.1 c1.1 (by omega) (fun i hi => ⟨Nat.lt_of_lt_of_le (oN_df h20 i hi).1 h20, c1.2.1 i hi⟩) (oN_inj h20) (fun μ0 sb => lay_env g g8 f1 sb (by omega) z3 hok z2 hall) (fun μ0 μ' sb hr hf => ?_) (fun μ0 μ' sb hr hf h40 => ?_)
      | exact h3 t z μ1 μ0 μ' ho ht rfl z3 z2 hok hall f1 sb hr hf
      | exact h4 t z μ1 μ0 μ' ho ht rfl z3 z2 hok hall f1 sb hr hf h40
      | refine br_f (nI_nem1 (by omega)) ?_
      | (refine zs k_De_lay rfl ?_; conv => whnf)
      | refine ⟨Nat.zero_lt_one, rfl, ?_⟩
      | refine ⟨rfl, ?_⟩
      | refine ⟨⟨Nat.zero_lt_one, rfl⟩, Nat.le_of_ble_eq_true rfl, ?_⟩
      | refine ⟨Nat.le_of_ble_eq_true rfl, Nat.le_of_ble_eq_true rfl, ?_⟩
      | refine ⟨(by first | exact Nat.zero_lt_one | assumption | omega), (by first | assumption | exact vp_in_nI (by omega) (by omega) | (unfold vp_in; decide)), ?_⟩
      | refine ⟨(by first | exact Nat.zero_lt_one | assumption | omega), rfl, ?_⟩
      | refine ⟨⟨(by first | exact Nat.zero_lt_one | assumption | omega), rfl⟩, Nat.le_of_ble_eq_true rfl, ?_⟩
      | refine ⟨(by first | exact Nat.zero_lt_one | assumption | omega), ?_⟩
      | refine ⟨Or.inl rfl, ?_⟩
      | refine ⟨Or.inr (Or.inl rfl), ?_⟩
      | refine ⟨Or.inr (Or.inr rfl), ?_⟩
      | refine ⟨Or.inr ⟨rfl, (by first | exact Or.inl rfl | exact Or.inr rfl | assumption)⟩, ?_⟩
      | refine ⟨fun h => absurd h (by decide), fun _ => ?_⟩
      | refine ⟨fun _ => ?_, fun h => absurd h (by decide)⟩
      | refine ⟨fun h => ?_, fun h => ?_⟩
      | fail)
  repeat' (first
    | refine c_Ha_hasTable (fun _ _ => ?_) (fun h => absurd hx' h)
    | refine c_De_isOccasion (fun _ => ?_) (fun q => absurd ho q)
    | refine n_bit hb20 ?_
    | refine br_f q1' ?_
    | refine br_f q2' ?_
    | refine br_f q3' ?_
    | refine c_Ro_isSetOfPersons (fun _ => ?_) (fun q => absurd (hset.mpr hb) q)
    | refine c_Ro_areAllPresent hn h20 (fun _ => ?_) (fun q => absurd hall q)
    | refine c_Pr_form g2.1 h20 g4.1 g4.2.2.1 g5.1 g5.2.2.1 (gRu_ok g4) (fun p hp => (g2.2.2.2 p hp).2.1) (fun μ' hf hc => ?_)
    | exact V _ hf hc
    | (refine zs k_De_lay rfl ?_; conv => whnf)
    | refine ⟨Nat.zero_lt_one, rfl, ?_⟩
    | refine ⟨rfl, ?_⟩
    | refine ⟨⟨Nat.zero_lt_one, rfl⟩, Nat.le_of_ble_eq_true rfl, ?_⟩
    | refine ⟨Nat.le_of_ble_eq_true rfl, Nat.le_of_ble_eq_true rfl, ?_⟩
    | refine ⟨(by first | exact Nat.zero_lt_one | assumption | omega), (by first | assumption | exact vp_in_nI (by omega) (by omega) | (unfold vp_in; decide)), ?_⟩
    | refine ⟨(by first | exact Nat.zero_lt_one | assumption | omega), rfl, ?_⟩
    | refine ⟨⟨(by first | exact Nat.zero_lt_one | assumption | omega), rfl⟩, Nat.le_of_ble_eq_true rfl, ?_⟩
    | refine ⟨(by first | exact Nat.zero_lt_one | assumption | omega), ?_⟩
    | refine ⟨Or.inl rfl, ?_⟩
    | refine ⟨Or.inr (Or.inl rfl), ?_⟩
    | refine ⟨Or.inr (Or.inr rfl), ?_⟩
    | refine ⟨Or.inr ⟨rfl, (by first | exact Or.inl rfl | exact Or.inr rfl | assumption)⟩, ?_⟩
    | refine ⟨fun h => absurd h (by decide), fun _ => ?_⟩
    | refine ⟨fun _ => ?_, fun h => absurd h (by decide)⟩
    | refine ⟨fun h => ?_, fun h => ?_⟩
    | fail)
-- ---- the scratch and one row have changed
def zSc4 (μ μ' : zMu) : Prop := (∀ f, f ∉ [2, 4, 6, 27, 28, 29, 30, 31, 33, 39, 40, 41, 42, 43, 44, 48, 86, 88, 89, 91, 96, 97] → μ' f = μ f) ∧ μ' 2 0 0 = μ 2 0 0 ∧ ∀ k, k ∉ [28, 29, 37, 40] → μ' 48 0 k = μ 48 0 k
theorem zSc4_of {μ μ' : zMu} (h : zScr μ μ') : zSc4 μ μ' := ⟨fun f hf => h.1 f (fun q => hf (by simp only [List.mem_cons, List.not_mem_nil, or_false] at q ⊢; omega)), h.2⟩
theorem zSc4_in {μ μ' : zMu} (h : zSc4 μ μ') {l : List Nat} (hl : l.all (fun f => !([2, 4, 6, 27, 28, 29, 30, 31, 33, 39, 40, 41, 42, 43, 44, 48, 86, 88, 89, 91, 96, 97] : List Nat).contains f) = true) : ∀ f, f ∈ l → μ' f = μ f := fun f hf => h.1 f (fun q => by
  have := List.all_eq_true.mp hl f hf
  simp only [Bool.not_eq_true', List.contains_eq_mem, decide_eq_false_iff_not] at this
  exact this q)
theorem gQ_sc4 {μ μ' : zMu} {ns n nr nh : Nat} (h : zSc4 μ μ') (g : gQ μ ns n nr nh) : gQ μ' ns n nr nh :=
  ⟨gSt_fr (zSc4_in h rfl) (h.2.2 0 (by decide)) g.1, gPe_fr (zSc4_in h rfl) (h.2.2 5 (by decide)) g.2.1, gRu_fr (zSc4_in h rfl) (h.2.2 15 (by decide)) g.2.2.1, gHd_fr (zSc4_in h rfl) (h.2.2 33 (by decide)) g.2.2.2⟩
theorem zSc4_ad {μ μ' : zMu} (h : zSc4 μ μ') (o day : Int32) (nr nh n : Nat) : cAd μ' o day nr nh n = cAd μ o day nr nh n ∧ cLf0 μ' n = cLf0 μ n := by
  have e : cLf0 μ' n = cLf0 μ n := by
    funext p
    unfold cLf0
    rw [zSc4_in h (l := [10]) rfl 10 (by simp)]
  refine ⟨?_, e⟩
  have hlk : zLk μ μ' := fun f hf => zSc4_in h (l := [1, 3, 8, 10, 17, 20, 21, 22, 23, 24, 25, 26]) rfl f hf
  funext q p
  unfold cAd cLdm
  rw [e, zLk_ldr hlk]
theorem gTw_sc4 {μ μ' : zMu} {nt n : Nat} (h : zSc4 μ μ') (g : gTb μ nt n) : gTw μ' nt := by
  unfold gTw
  rw [h.2.2 42 (by decide), zSc4_in h (l := [9]) rfl 9 (by simp), zSc4_in h (l := [93]) rfl 93 (by simp), zSc4_in h (l := [94]) rfl 94 (by simp)]
  refine ⟨g.2.1, g.2.2.1, fun t ht => ?_⟩
  obtain ⟨a1, a2, ⟨z, z1, z2, z3, z4, -⟩, -⟩ := g.2.2.2 t ht
  exact ⟨a1, a2, z, z1, z2, z3, z4⟩
theorem chn_perm : ∀ {l : List (List Nat)} {u z : List Nat}, chn u l z → ∀ v ∈ u :: l, v.Perm u
  | [], u, z, _, v, hv => by
    rw [List.mem_singleton.mp hv]
  | w :: l, u, z, h, v, hv => by
    rcases List.mem_cons.mp hv with e | hv
    · rw [e]
    · exact (chn_perm h.2 v hv).trans (nxR_perm h.1)
theorem bst_mem : ∀ {l : List (Nat × List Nat)} {b : Nat × List Nat}, l.foldl bst b = b ∨ l.foldl bst b ∈ l
  | [], b => Or.inl rfl
  | e :: l, b => by
    rw [List.foldl_cons]
    rcases bst_mem (l := l) (b := bst b e) with h | h
    · rw [h]
      unfold bst
      split
      · exact Or.inr List.mem_cons_self
      · exact Or.inl rfl
    · exact Or.inr (List.mem_cons_of_mem _ h)
theorem fd_mem {kp : List Nat → Bool} {pr : List Nat → Nat} {l : List (List Nat)} (h : (fd kp pr l).1 < 1000000) : (fd kp pr l).2 ∈ l := by
  unfold fd at *
  rcases bst_mem (l := (l.filter kp).map (fun v => (pr v, v))) (b := (1000000, [])) with q | q
  · rw [q] at h
    exact absurd h (by decide)
  · obtain ⟨v, hv, e⟩ := List.mem_map.mp q
    rw [← e]
    exact (List.mem_filter.mp hv).1
set_option maxHeartbeats 1000000 in
theorem lay_bun {μ μ1 μ0 M : zMu} {ns n nr nh nt t z : Nat} {o day w : Int32} (g : gQ μ ns n nr nh) (g6 : gTb μ nt n) (g7 : gFe μ) (g8 : gCo μ) (ht : t < nt) (h9 : μ 9 t 0 = nI z) (hz : z ≤ 12) (hok : okLy w n z) (hall : cAll μ w n) (f1 : zFr7 μ μ1) (sb : sBeg μ1 μ0 (pCt (cLf0 μ n) n) (oN (cAd μ o day nr nh n) n (cLf0 μ n)) w) (s4 : zSc4 μ M) : (∀ v : List Nat, v.Perm (gsT w 20) → (mKp M (lw v) (M 9 t 2) z ↔ kpW (sPe μ0 (μ0 9 t 2) z) v (gsT w 20).length = true)) ∧ (∀ v : List Nat, v.Perm (gsT w 20) → nI ((mO (lw v) (oN (cAd M o day nr nh n) n (cLf0 M n)) z (pCt (cLf0 M n) n)).1 + nS (mTk M (lw v) (M 9 t 2) z) z) = nI (csW (sPc μ0 (μ0 9 t 2) z) v (gsT w 20).length) ∧ csW (sPc μ0 (μ0 9 t 2) z) v (gsT w 20).length < 1000000) := by
  have s0 := sBeg_scr f1 sb
  have h20 := g.2.1.2.2.1
  have hm := pCt_le (cLf0 μ n) n
  obtain ⟨g1', g2', -, -⟩ := gQ_sc4 s4 g
  have g7' := gFe_fr (zSc4_in s4 rfl) g7
  obtain ⟨k1', k2', -, -⟩ := gQ_scr s0 g
  have k8' := gCo_fr (zScr_in s0 rfl) g8
  obtain ⟨e1, e2⟩ := zSc4_ad s4 o day nr nh n
  have m9 : M 9 = μ 9 := zSc4_in s4 (l := [9]) rfl 9 (by simp)
  have n9 : μ0 9 = μ 9 := zScr_in s0 (l := [9]) rfl 9 (by simp)
  have m17 : M 17 = μ0 17 := (zSc4_in s4 (l := [17]) rfl 17 (by simp)).trans (zScr_in s0 (l := [17]) rfl 17 (by simp)).symm
  have m36 : M 36 = μ0 36 := (zSc4_in s4 (l := [36]) rfl 36 (by simp)).trans (zScr_in s0 (l := [36]) rfl 36 (by simp)).symm
  have m38 : M 38 = μ0 38 := (zSc4_in s4 (l := [38]) rfl 38 (by simp)).trans (zScr_in s0 (l := [38]) rfl 38 (by simp)).symm
  obtain ⟨-, -, ⟨y, y1, y2, y3, -, -⟩, -⟩ := g6.2.2.2 t ht
  obtain rfl := (nI_eq (by omega) (by omega)).mp (h9.symm.trans y3)
  rw [e1, e2, m9, n9]
  have gs20 : ∀ q ∈ gsT w 20, q < 20 := fun q hq => (gsT_mem.mp hq).1
  have gsd : (gsT w 20).Nodup := (gsT_sorted w 20).imp (fun h => by omega)
  constructor
  · intro v hv
    have hl : v.length = (gsT w 20).length := hv.length_eq
    have hrow := lw_ok hv (gs_lt hok.1)
    rw [kp_iff y1 hz (fun i j _ _ => hFd_sy g1' g2' g7' (hrow i) (hrow j)), ← hl, kp_cls hz (by rw [hl]; exact hok.2.2.2)]
    unfold hPe hFd
    rw [m17, m36]
  · intro v hv
    have hl : v.length = (gsT w 20).length := hv.length_eq
    have hrow := lw_ok hv (gs_lt hok.1)
    have hvm : ∀ x ∈ v, x ∈ gsT w 20 := fun x hx => hv.mem_iff.mp hx
    obtain ⟨p1, p2⟩ := pr_cls (μ0 := μ0) (rd := μ 9 t 2) (v := v) hz (by rw [hl]; exact hok.2.2.2) (fun k hk => lay_hPr g g8 f1 sb hok hz hall hvm hk)
    rw [← hl]
    refine ⟨?_, p2⟩
    rw [← p1, hPr_fr m38 m17]
    refine (price_all (μ := μ0) (ns := ns) (n := n) (sits := zbt w) k1' k2' k8' y1 hz (fun k _ => hrow k) (fun j k hjk _ e => lw_inj (hv.nodup_iff.mpr gsd) (fun q hq => gs20 q (hvm q hq)) hjk e) (fun p hp => ?_) (fun i hi => Nat.lt_of_lt_of_le (oN_df h20 i hi).1 h20) (by omega) (oN_inj h20) (fun k hk hne => ?_) sb.2.1).symm
    · rw [lw_mem hp (fun q hq => gs20 q (hvm q hq)) (by rw [hl]; exact hok.2.2.2), hv.mem_iff, gsT_mem]
      exact ⟨fun q => ⟨hp, q⟩, fun q => q.2⟩
    · unfold lw at hne ⊢
      cases h : v[k]? with
      | none =>
        rw [h] at hne
        exact absurd rfl hne
      | some p =>
        obtain ⟨i, hi, e, -⟩ := lay_39 g sb hok.1 hall (hvm p (List.mem_of_getElem? h))
        exact ⟨i, hi, by show nI p = _; rw [e]⟩
theorem b_lay {μ : zMu} {x o day w : Int32} (h : Rel μ) : Both m_De_lay m_Mo_lay [zI x, zI o, zI day, zI w] μ := by
  intro d K hK
  obtain ⟨ns, n, nr, nh, nt, nb, L, g1, g2, g3, g4, g5, g6, g7, g8, g9, g10, g11⟩ := id h
  have h20 := g2.2.2.1
  have h4 := g6.2.2.1
  have g : gQ μ ns n nr nh := ⟨g1, g2, g4, g5⟩
  have z9 : ∀ (t z z' : Nat), z ≤ 12 → z' ≤ 12 → μ 9 t 0 = nI z → μ 9 t 0 = nI z' → z = z' := fun t z z' h1 h2 e e' => (nI_eq (by omega) (by omega)).mp (e.symm.trans e')
  have gw : gTw μ nt := gTw_sc4 (zSc4_of zScr_rf) g6
  refine c_De_lay g g6 g8 (fun a => hK _ _ (fun d K2 hK2 => ?_)) (fun t z a ht ex e9 hz b => hK _ _ (fun d K2 hK2 => ?_)) (fun t z a ht ex e9 hz b c => hK _ _ (fun d K2 hK2 => ?_)) (fun t z μ1 μ0 M a ht ex e9 hz b c f1 sb hr hf => hK _ _ (fun d K2 hK2 => ?_)) (fun t z μ1 μ0 M a ht ex e9 hz b c f1 sb hr hf h40 => hK _ _ (fun d K2 hK2 => ?_))
  · exact c_Mo_lay g gw g7 g8 (fun _ => hK2 _ h) (fun t z b ht ex => absurd ⟨by rw [ex]; exact okI_i ht (by omega), b⟩ a) (fun t z b ht ex => absurd ⟨by rw [ex]; exact okI_i ht (by omega), b⟩ a) (fun t z b ht ex => absurd ⟨by rw [ex]; exact okI_i ht (by omega), b⟩ a)
  · subst ex
    refine c_Mo_lay g gw g7 g8 (fun q => absurd ⟨okI_i ht (by omega), a⟩ q) (fun t' z' _ ht' ex e9' hz' b' => hK2 _ h) (fun t' z' _ ht' ex e9' hz' b' => ?_) (fun t' z' _ ht' ex e9' hz' b' => ?_)
    · obtain rfl := (nI_eq (by omega) (by omega)).mp ex
      obtain rfl := z9 t _ _ hz hz' e9 e9'
      exact absurd b' b
    · obtain rfl := (nI_eq (by omega) (by omega)).mp ex
      obtain rfl := z9 t _ _ hz hz' e9 e9'
      exact absurd b' b
  · subst ex
    refine c_Mo_lay g gw g7 g8 (fun q => absurd ⟨okI_i ht (by omega), a⟩ q) (fun t' z' _ ht' ex e9' hz' b' => ?_) (fun t' z' _ ht' ex e9' hz' b' c' => hK2 _ h) (fun t' z' _ ht' ex e9' hz' b' c' => absurd c' c)
    obtain rfl := (nI_eq (by omega) (by omega)).mp ex
    obtain rfl := z9 t _ _ hz hz' e9 e9'
    exact absurd b b'
  · subst ex
    have s1 : zScr μ M := by
      refine zScr_tr (zFr7_scr f1) ⟨fun f hf' => hf f (fun q => hf' (by simp only [List.mem_cons, List.not_mem_nil, or_false] at q ⊢; omega)), by rw [hf 2 (by decide)], fun k _ => by rw [hf 48 (by decide)]⟩
    have s4 := zSc4_of s1
    have m9 : M 9 = μ 9 := zSc4_in s4 (l := [9]) rfl 9 (by simp)
    have m10 : M 10 = μ 10 := zSc4_in s4 (l := [10]) rfl 10 (by simp)
    have cM : cAll M w n := by unfold cAll; rw [m10]; exact c
    refine c_Mo_lay (gQ_sc4 s4 g) (gTw_sc4 s4 g6) (gFe_fr (zSc4_in s4 rfl) g7) (gCo_fr (zSc4_in s4 rfl) g8) (fun q => absurd ⟨okI_i ht (by omega), a⟩ q) (fun t' z' _ ht' ex e9' hz' b' => ?_) (fun t' z' _ ht' ex e9' hz' b' c' => absurd cM c') (fun t' z' _ ht' ex e9' hz' b' c' => ?_)
    · obtain rfl := (nI_eq (by omega) (by omega)).mp ex
      rw [m9] at e9'
      obtain rfl := z9 t _ _ hz hz' e9 e9'
      exact absurd b b'
    · obtain rfl := (nI_eq (by omega) (by omega)).mp ex
      rw [m9] at e9'
      obtain rfl := z9 t _ _ hz hz' e9 e9'
      obtain ⟨u1, u2⟩ := lay_bun (M := M) g g6 g7 g8 ht e9 hz b c f1 sb s4
      refine ⟨_, _, u1, u2, fun q μ' s' => hK2 _ (Rel_scr (zScr_tr s1 s') h), fun q => ?_⟩
      rw [← sRes_fd] at q
      exact absurd q (by omega)
  · subst ex
    have s4 : zSc4 μ M := by
      refine ⟨fun f hf' => ?_, ?_, fun k _ => ?_⟩
      · rw [hf f (fun q => hf' (by simp only [List.mem_cons, List.not_mem_nil, or_false] at q ⊢; omega)), f1 f (fun q => hf' (by simp only [List.mem_cons, List.not_mem_nil, or_false] at q ⊢; omega))]
      · rw [hf 2 (by decide), f1 2 (by decide)]
      · rw [hf 48 (by decide), f1 48 (by decide)]
    have m9 : M 9 = μ 9 := zSc4_in s4 (l := [9]) rfl 9 (by simp)
    have m10 : M 10 = μ 10 := zSc4_in s4 (l := [10]) rfl 10 (by simp)
    have m95 : M 95 = μ 95 := zSc4_in s4 (l := [95]) rfl 95 (by simp)
    have cM : cAll M w n := by unfold cAll; rw [m10]; exact c
    refine c_Mo_lay (gQ_sc4 s4 g) (gTw_sc4 s4 g6) (gFe_fr (zSc4_in s4 rfl) g7) (gCo_fr (zSc4_in s4 rfl) g8) (fun q => absurd ⟨okI_i ht (by omega), a⟩ q) (fun t' z' _ ht' ex e9' hz' b' => ?_) (fun t' z' _ ht' ex e9' hz' b' c' => absurd cM c') (fun t' z' _ ht' ex e9' hz' b' c' => ?_)
    · obtain rfl := (nI_eq (by omega) (by omega)).mp ex
      rw [m9] at e9'
      obtain rfl := z9 t _ _ hz hz' e9 e9'
      exact absurd b b'
    · obtain rfl := (nI_eq (by omega) (by omega)).mp ex
      rw [m9] at e9'
      obtain rfl := z9 t _ _ hz hz' e9 e9'
      obtain ⟨u1, u2⟩ := lay_bun (M := M) g g6 g7 g8 ht e9 hz b c f1 sb s4
      refine ⟨_, _, u1, u2, fun q => ?_, fun q μ' μ2 s2 c1 c2 c3 => ?_⟩
      · rw [← sRes_fd] at q
        exact absurd hr (by omega)
      · have hvm := fd_mem q
        rw [← sRes_fd] at c3 hvm ⊢
        refine hK2 _ ?_
        obtain ⟨l, pm1, pm2⟩ := pm_chn (m := (gsT w 20).length) (w := []) (A := gsT w 20) rfl (gsT_sorted w 20)
        rw [List.nil_append] at pm1
        rw [List.nil_append, List.nil_append] at pm2
        rw [pm1] at hvm
        have hp := chn_perm pm2 _ hvm
        generalize sRes μ0 t z (gsT w 20) = R at *
        have gs20 : ∀ p ∈ gsT w 20, p < 20 := fun p hp => (gsT_mem.mp hp).1
        have gsd : (gsT w 20).Nodup := (gsT_sorted w 20).imp (fun h => by omega)
        have sν : zScr μ (fun f => if f = 40 then μ 40 else if f = 95 then μ 95 else μ' f) := by
          refine ⟨fun f hf' => ?_, ?_, fun k hk => ?_⟩
          · show (if f = 40 then μ 40 else if f = 95 then μ 95 else μ' f) = μ f
            by_cases q1 : f = 40
            · rw [if_pos q1, q1]
            · rw [if_neg q1]
              by_cases q2 : f = 95
              · rw [if_pos q2, q2]
              · rw [if_neg q2, c1 f q2, s2.1 f hf', s4.1 f (fun q => hf' (by simp only [List.mem_cons, List.not_mem_nil, or_false] at q ⊢; omega))]
          · show μ' 2 0 0 = μ 2 0 0
            rw [c1 2 (by omega), s2.2.1, s4.2.1]
          · show μ' 48 0 k = μ 48 0 k
            rw [c1 48 (by omega), s2.2.2 k hk, s4.2.2 k hk]
        have e40 : μ' 40 = M 40 := by rw [c1 40 (by omega)]; exact zScr_in s2 (l := [40]) rfl 40 (by simp)
        generalize hν : (fun f => if f = 40 then μ 40 else if f = 95 then μ 95 else μ' f) = ν at sν
        have n40 : ν 40 = μ 40 := by rw [← hν]; rfl
        have n95 : ν 95 = μ 95 := by rw [← hν]; rfl
        have nf : ∀ f, f ≠ 40 → f ≠ 95 → μ' f = ν f := fun f q1 q2 => by
          rw [← hν]
          show μ' f = (if f = 40 then μ 40 else if f = 95 then μ 95 else μ' f)
          rw [if_neg q1, if_neg q2]
        refine Rel_row (μ := ν) (t := t) (z := z) (a := lw R.2) (gSt_fr (zScr_in sν rfl) (sν.2.2 0 (by decide)) g1) (gPe_fr (zScr_in sν rfl) (sν.2.2 5 (by decide)) g2) (gTp_fr (zScr_in sν rfl) sν.2.1 (sν.2.2 14 (by decide)) g3) (gRu_fr (zScr_in sν rfl) (sν.2.2 15 (by decide)) g4) (gHd_fr (zScr_in sν rfl) (sν.2.2 33 (by decide)) g5) (gTb_scr sν g6) (gFe_fr (zScr_in sν rfl) g7) (gCo_fr (zScr_in sν rfl) g8) (gVs_fr (zScr_in sν rfl) (sν.2.2 48 (by decide)) g9) (gWi_fr (sν.1 7 (by decide)) (sν.2.2 52 (by decide)) g10) (gCs_fr (zScr_in sν rfl) g11) ht nf (fun u k => ?_) (fun k hk => ?_) c3 (by rw [zScr_in sν (l := [9]) rfl 9 (by simp)]; exact e9) hz (fun k h1 h2 => ?_) (fun k hk => ?_) (fun j k hjk hk e => ?_)
        · rw [e40, h40, n40, f1 40 (by decide)]
        · rw [c2 k hk, n95, m95]
        · exact lw_out (by rw [hp.length_eq]; exact Nat.le_trans b.2.2.2 h1)
        · unfold lw
          cases h' : R.2[k]? with
          | none => exact Or.inl rfl
          | some p =>
            have hpm := hp.mem_iff.mp (List.mem_of_getElem? h')
            have hpn := gs_lt b.1 p hpm
            refine Or.inr ⟨p, hpn, rfl, ?_⟩
            rw [zScr_in sν (l := [10]) rfl 10 (by simp)]
            rcases (g2.2.2.2 p hpn).2.1 with q1 | q1
            · exact absurd q1 (c p hpn ((zbit_iff (by omega)).mpr (gsT_mem.mp hpm).2))
            · exact q1
        · exact lw_inj (hp.nodup_iff.mpr gsd) (fun p hpp => gs20 p (hp.mem_iff.mp hpp)) hjk e
/-! WORDS: what both sides read -/
def pfx (b : Nat → Int32) : List Int32 → Nat → Nat
  | [], _ => 0
  | c :: r, i => if b i = c then pfx b r (i + 1) + 1 else 0
theorem pfx_le {b : Nat → Int32} : ∀ {w : List Int32} {i : Nat}, pfx b w i ≤ w.length
  | [], _ => Nat.le_refl _
  | c :: r, i => by
    rw [pfx]
    split
    · have := pfx_le (b := b) (w := r) (i := i + 1)
      rw [List.length_cons]
      omega
    · exact Nat.zero_le _
theorem pfx_ch {b : Nat → Int32} : ∀ {w : List Int32} {i j : Nat}, j < pfx b w i → w[j]? = some (b (i + j))
  | [], _, j, h => absurd h (by rw [pfx]; omega)
  | c :: r, i, j, h => by
    rw [pfx] at h
    split at h
    · rename_i e
      cases j with
      | zero => rw [List.getElem?_cons_zero, Nat.add_zero, e]
      | succ j =>
        rw [List.getElem?_cons_succ, pfx_ch (w := r) (i := i + 1) (j := j) (by omega), show i + 1 + j = i + (j + 1) by omega]
    · omega
def jn : List (List Int32) → List Int32
  | [] => []
  | [w] => w
  | w :: v :: ws => w ++ 32 :: jn (v :: ws)
def wL (b : Nat → Int32) : List (List Int32) → Nat → Nat → (Nat × Nat) ⊕ Nat
  | [], _, lg => .inr lg
  | w :: ws, ix, lg => if pfx b w 0 = w.length then .inl (ix, w.length) else wL b ws (ix + 1) (if lg < pfx b w 0 then pfx b w 0 else lg)
theorem pW_f {b : Nat → Int32} {rest : List Int32} {ix mt lg : Nat} : ∀ {w : List Int32}, (∀ c ∈ w, ¬ c = 32) → pWord b (w ++ 32 :: rest) ix mt lg false = pWord b rest (ix + 1) 0 lg true
  | [], _ => by
    rw [List.nil_append, pWord, if_pos rfl]
    rfl
  | c :: w, h => by
    rw [List.cons_append, pWord, if_neg (h c List.mem_cons_self), if_neg (fun q => by cases q.1)]
    exact pW_f (fun c' hc => h c' (List.mem_cons_of_mem _ hc))
theorem pW_f0 {b : Nat → Int32} {ix mt lg : Nat} : ∀ {w : List Int32}, (∀ c ∈ w, ¬ c = 32) → pWord b w ix mt lg false = .inr lg
  | [], _ => by
    rw [pWord]
    rfl
  | c :: w, h => by
    rw [pWord, if_neg (h c List.mem_cons_self), if_neg (fun q => by cases q.1)]
    exact pW_f0 (fun c' hc => h c' (List.mem_cons_of_mem _ hc))
theorem pW_t {b : Nat → Int32} {rest : List Int32} {ix : Nat} : ∀ {w : List Int32} {mt lg : Nat}, (∀ c ∈ w, ¬ c = 32) → mt ≤ lg → pWord b (w ++ 32 :: rest) ix mt lg true = if pfx b w mt = w.length then .inl (ix, mt + w.length) else pWord b rest (ix + 1) 0 (if lg < mt + pfx b w mt then mt + pfx b w mt else lg) true
  | [], mt, lg, _, _ => by
    rw [List.nil_append, pWord, if_pos rfl, if_pos rfl, if_pos rfl]
    rfl
  | c :: w, mt, lg, h, hm => by
    rw [List.cons_append, pWord, if_neg (h c List.mem_cons_self), pfx]
    by_cases e : b mt = c
    · rw [if_pos ⟨rfl, e⟩, if_pos e, pW_t (fun c' hc => h c' (List.mem_cons_of_mem _ hc)) (by split <;> omega), List.length_cons]
      by_cases q : pfx b w (mt + 1) = w.length
      · rw [if_pos q, if_pos (by omega), show mt + 1 + w.length = mt + (w.length + 1) by omega]
      · rw [if_neg q, if_neg (by omega)]
        congr 1
        split <;> split <;> split <;> omega
    · rw [if_neg (fun q => e q.2), if_neg e, pW_f (fun c' hc => h c' (List.mem_cons_of_mem _ hc)), List.length_cons, if_neg (by omega), if_neg (by omega)]
theorem pW_t0 {b : Nat → Int32} {ix : Nat} : ∀ {w : List Int32} {mt lg : Nat}, (∀ c ∈ w, ¬ c = 32) → mt ≤ lg → pWord b w ix mt lg true = if pfx b w mt = w.length then .inl (ix, mt + w.length) else .inr (if lg < mt + pfx b w mt then mt + pfx b w mt else lg)
  | [], mt, lg, _, _ => by
    rw [pWord, if_pos rfl, if_pos rfl]
    rfl
  | c :: w, mt, lg, h, hm => by
    rw [pWord, if_neg (h c List.mem_cons_self), pfx]
    by_cases e : b mt = c
    · rw [if_pos ⟨rfl, e⟩, if_pos e, pW_t0 (fun c' hc => h c' (List.mem_cons_of_mem _ hc)) (by split <;> omega), List.length_cons]
      by_cases q : pfx b w (mt + 1) = w.length
      · rw [if_pos q, if_pos (by omega), show mt + 1 + w.length = mt + (w.length + 1) by omega]
      · rw [if_neg q, if_neg (by omega)]
        congr 1
        split <;> split <;> split <;> omega
    · rw [if_neg (fun q => e q.2), if_neg e, pW_f0 (fun c' hc => h c' (List.mem_cons_of_mem _ hc)), List.length_cons, if_neg (by omega), if_neg (by omega)]
theorem jn_wL {b : Nat → Int32} : ∀ {ws : List (List Int32)} {ix lg : Nat}, (∀ w ∈ ws, ∀ c ∈ w, ¬ c = 32) → ws ≠ [] → pWord b (jn ws) ix 0 lg true = wL b ws ix lg
  | [], ix, lg, _, h => absurd rfl h
  | [w], ix, lg, h, _ => by
    rw [jn, pW_t0 (h w List.mem_cons_self) (Nat.zero_le _), wL, Nat.zero_add, Nat.zero_add]
    rfl
  | w :: v :: ws, ix, lg, h, _ => by
    rw [jn, pW_t (h w List.mem_cons_self) (Nat.zero_le _), wL, Nat.zero_add, Nat.zero_add]
    by_cases q : pfx b w 0 = w.length
    · rw [if_pos q, if_pos q]
    · rw [if_neg q, if_neg q]
      exact jn_wL (fun w' hw => h w' (List.mem_cons_of_mem _ hw)) (by simp)
def zWf : List (List Int32) := [[114, 97, 110, 107], [112, 97, 112, 101, 114], [110, 97, 109, 101], [115, 105, 110, 99, 101], [107, 105, 110, 100], [115, 116, 97, 116, 101], [116, 111, 110, 103, 117, 101]]
def zWd : List (List (List Int32)) := [[[111, 110]], [[42], [48], [49], [50], [51], [52], [53], [54], [55], [56], [57]], zWf.take 5, [[117, 112], [100, 111, 119, 110]], [[105, 102]], [[97], [98], [110, 111, 116]], [[97], [98]], [[46]], zWf, [[61], [60], [62]], [[97, 110, 100], [111, 114]], [[111, 114]], [[97, 110, 100]]]
theorem zWd_ok : ∀ k, k < 13 → jn (zWd.getD k []) = zByt.getD k [] ∧ zWd.getD k [] ≠ [] ∧ ∀ w ∈ zWd.getD k [], ∀ c ∈ w, ¬ c = 32 := by decide +kernel
theorem qW_eq {a : Nat → Int32} {n at_ k : Nat} (hk : k < 13) : qW a n (at_, -1) k = match wL (fun j => pB a n (at_ + j)) (zWd.getD k []) 0 0 with
    | .inl q => (nI q.1, at_ + q.2, -1)
    | .inr lg => (-1, at_, nI (at_ + lg)) := by
  obtain ⟨h1, h2, h3⟩ := zWd_ok k hk
  unfold qW pRdW
  rw [if_pos rfl, ← h1, jn_wL h3 h2]
theorem qW_ft {a : Nat → Int32} {n k : Nat} {q : zQ} (h : ¬ q.2 = -1) : qW a n q k = (-1, q) := by
  unfold qW pRdW
  rw [if_neg h]
theorem qB_ft {a : Nat → Int32} {n : Nat} {q : zQ} (h : ¬ q.2 = -1) : qB a n q = q := by
  unfold qB pBlank
  rw [if_neg h]
theorem qN_ft {a : Nat → Int32} {n : Nat} {q : zQ} (h : ¬ q.2 = -1) : qN a n q = (0, q) := by
  unfold qN pRdN
  rw [if_neg h]
-- ---- the model: one byte behind the other
def mX (a : Nat → Int32) (n : Nat) : List Int32 → zQ → zQ
  | [], q => q
  | c :: cs, q => if q.2 = -1 then (if pB a n q.1 = c then mX a n cs (q.1 + 1, -1) else (q.1, nI q.1)) else q
theorem mX_ft {a : Nat → Int32} {n : Nat} : ∀ {cs : List Int32} {q : zQ}, ¬ q.2 = -1 → mX a n cs q = q
  | [], _, _ => rfl
  | c :: cs, q, h => by rw [mX, if_neg h]
theorem mX_app {a : Nat → Int32} {n : Nat} {c2 : List Int32} : ∀ {c1 : List Int32} {q : zQ}, q.1 + c1.length < 2 ^ 31 → mX a n (c1 ++ c2) q = mX a n c2 (mX a n c1 q)
  | [], _, _ => rfl
  | c :: cs, q, hq => by
    rw [List.length_cons] at hq
    rw [List.cons_append, mX, mX]
    by_cases h : q.2 = -1
    · rw [if_pos h, if_pos h]
      by_cases e : pB a n q.1 = c
      · rw [if_pos e, if_pos e]
        exact mX_app (q := (q.1 + 1, -1)) (by show q.1 + 1 + cs.length < 2 ^ 31; omega)
      · rw [if_neg e, if_neg e, mX_ft (nI_nem1 (show q.1 < 2 ^ 31 by omega))]
    · rw [if_neg h, if_neg h, mX_ft h]
theorem mX_pfx {a : Nat → Int32} {n at_ : Nat} : ∀ {cs : List Int32} {i : Nat}, mX a n cs (at_ + i, -1) = if pfx (fun j => pB a n (at_ + j)) cs i = cs.length then (at_ + i + cs.length, -1) else (at_ + i + pfx (fun j => pB a n (at_ + j)) cs i, nI (at_ + i + pfx (fun j => pB a n (at_ + j)) cs i))
  | [], i => by
    rw [mX, pfx, if_pos rfl]
    rfl
  | c :: cs, i => by
    rw [mX, if_pos rfl, pfx, List.length_cons]
    by_cases e : pB a n (at_ + i) = c
    · rw [if_pos e, if_pos e]
      have ih := mX_pfx (a := a) (n := n) (at_ := at_) (cs := cs) (i := i + 1)
      rw [show (at_ + i, (-1 : Int32)).1 + 1 = at_ + (i + 1) from Nat.add_assoc _ _ _, ih]
      by_cases q : pfx (fun j => pB a n (at_ + j)) cs (i + 1) = cs.length
      · rw [if_pos q, if_pos (by omega), show at_ + (i + 1) + cs.length = at_ + i + (cs.length + 1) by omega]
      · rw [if_neg q, if_neg (by omega), show at_ + (i + 1) + pfx (fun j => pB a n (at_ + j)) cs (i + 1) = at_ + i + (pfx (fun j => pB a n (at_ + j)) cs (i + 1) + 1) by omega]
    · rw [if_neg e, if_neg e, if_neg (by omega)]
      rfl
theorem mX_b {a : Nat → Int32} {n : Nat} {q : zQ} : mX a n [32] q = qB a n q := by
  unfold qB pBlank
  rw [mX]
  by_cases h : q.2 = -1
  · rw [if_pos h, if_pos h]
    rfl
  · rw [if_neg h, if_neg h]
/-- the class's place and fault, and the model's: behind a fault the place is free -/
def eqQ (q q' : zQ) : Prop := q'.2 = q.2 ∧ (q.2 = -1 → q'.1 = q.1)
theorem eqQ_rf {q : zQ} : eqQ q q := ⟨rfl, fun _ => rfl⟩
theorem eqQ_1 {q q' : zQ} (h : eqQ q q') (h1 : q.2 = -1) : q' = q := Prod.ext (h.2 h1) h.1
theorem eqQ_X {a : Nat → Int32} {n : Nat} {cs : List Int32} {q q' : zQ} (h : eqQ q q') : eqQ (mX a n cs q) (mX a n cs q') := by
  by_cases h1 : q.2 = -1
  · rw [eqQ_1 h h1]
    exact eqQ_rf
  · have h2 : ¬ q'.2 = -1 := by rw [h.1]; exact h1
    rw [mX_ft h1, mX_ft h2]
    exact h
theorem eqQ_B {a : Nat → Int32} {n : Nat} {q q' : zQ} (h : eqQ q q') : eqQ (qB a n q) (mX a n [32] q') := by
  rw [← mX_b]
  exact eqQ_X h
/-- one word alone -/
theorem qW_1 {a : Nat → Int32} {n k : Nat} {cs : List Int32} {q q' qm : zQ} {v : Int32} (hk : k < 13) (hw : zWd.getD k [] = [cs]) (hq : q.1 + cs.length < 2 ^ 31) (h : qW a n q k = (v, q')) (he : eqQ q qm) : eqQ q' (mX a n cs qm) := by
  by_cases h1 : q.2 = -1
  · obtain ⟨at_, fl⟩ := q
    have h1 : fl = -1 := h1
    subst h1
    rw [eqQ_1 he rfl]
    rw [qW_eq hk, hw] at h
    have hX := mX_pfx (a := a) (n := n) (at_ := at_) (cs := cs) (i := 0)
    rw [Nat.add_zero] at hX
    rw [hX]
    unfold wL at h
    have hle := pfx_le (b := fun j => pB a n (at_ + j)) (w := cs) (i := 0)
    by_cases e : pfx (fun j => pB a n (at_ + j)) cs 0 = cs.length
    · rw [if_pos e] at h ⊢
      have h' := congrArg Prod.snd h
      rw [← h']
      exact eqQ_rf
    · rw [if_neg e] at h ⊢
      have h' := congrArg Prod.snd h
      rw [← h']
      have e2 : (if 0 < pfx (fun j => pB a n (at_ + j)) cs 0 then pfx (fun j => pB a n (at_ + j)) cs 0 else 0) = pfx (fun j => pB a n (at_ + j)) cs 0 := by
        split <;> omega
      refine ⟨?_, fun z => ?_⟩
      · show nI (at_ + pfx (fun j => pB a n (at_ + j)) cs 0) = nI (at_ + (if 0 < pfx (fun j => pB a n (at_ + j)) cs 0 then pfx (fun j => pB a n (at_ + j)) cs 0 else 0))
        rw [e2]
      · have z' : nI (at_ + (if 0 < pfx (fun j => pB a n (at_ + j)) cs 0 then pfx (fun j => pB a n (at_ + j)) cs 0 else 0)) = -1 := z
        have hq' : at_ + cs.length < 2 ^ 31 := hq
        exact absurd z' (nI_nem1 (by rw [e2]; omega))
  · rw [qW_ft h1] at h
    have h' := congrArg Prod.snd h
    have h2 : ¬ qm.2 = -1 := by rw [he.1]; exact h1
    rw [mX_ft h2, ← h']
    exact he
-- ---- the longest
def mbl (pf : Nat → Nat) : Nat → Int32 × Nat
  | 0 => (-1, 0)
  | j + 1 => if (mbl pf j).1 < nI (pf j) then (nI (pf j), j) else mbl pf j
theorem mbl_in {pf : Nat → Nat} (hp : ∀ i, pf i ≤ 10) : ∀ j, ∃ t, t < j + 1 ∧ mbl pf (j + 1) = (nI (pf t), t) ∧ ∀ i, i < j + 1 → pf i ≤ pf t
  | 0 => by
    refine ⟨0, by omega, ?_, fun i hi => by rw [show i = 0 by omega]; exact Nat.le_refl _⟩
    rw [mbl, if_pos]
    show (-1 : Int32) < nI (pf 0)
    have := nI_pos' (n := pf 0) (by have := hp 0; omega)
    grind
  | j + 1 => by
    obtain ⟨t, ht, e, h⟩ := mbl_in hp j
    rw [mbl, e]
    have h1 := hp t
    have h2 := hp (j + 1)
    by_cases q : pf t < pf (j + 1)
    · rw [if_pos (nI_lt q (by omega))]
      refine ⟨j + 1, by omega, rfl, fun i hi => ?_⟩
      rcases Nat.lt_or_ge i (j + 1) with w | w
      · have := h i w
        omega
      · rw [show i = j + 1 by omega]
        exact Nat.le_refl _
    · rw [if_neg (nI_nlt (by omega) (by omega))]
      refine ⟨t, by omega, rfl, fun i hi => ?_⟩
      rcases Nat.lt_or_ge i (j + 1) with w | w
      · exact h i w
      · rw [show i = j + 1 by omega]
        omega
theorem wL_hit {b : Nat → Int32} : ∀ {ws : List (List Int32)} {ix lg : Nat} {r : Nat × Nat}, wL b ws ix lg = .inl r → ∃ i w, ws[i]? = some w ∧ r = (ix + i, w.length) ∧ pfx b w 0 = w.length
  | [], _, _, _, h => by cases h
  | w :: ws, ix, lg, r, h => by
    rw [wL] at h
    by_cases e : pfx b w 0 = w.length
    · rw [if_pos e] at h
      cases h
      exact ⟨0, w, rfl, rfl, e⟩
    · rw [if_neg e] at h
      obtain ⟨i, v, h1, h2, h3⟩ := wL_hit h
      exact ⟨i + 1, v, h1, by rw [h2, show ix + 1 + i = ix + (i + 1) by omega], h3⟩
theorem wL_no {b : Nat → Int32} : ∀ {ws : List (List Int32)} {ix lg L : Nat}, wL b ws ix lg = .inr L → lg ≤ L ∧ (∀ i w, ws[i]? = some w → pfx b w 0 ≤ L ∧ pfx b w 0 < w.length) ∧ (L = lg ∨ ∃ i w, ws[i]? = some w ∧ pfx b w 0 = L)
  | [], _, lg, L, h => by
    cases h
    exact ⟨Nat.le_refl _, fun i w hw => by simp at hw, Or.inl rfl⟩
  | w :: ws, ix, lg, L, h => by
    rw [wL] at h
    by_cases e : pfx b w 0 = w.length
    · rw [if_pos e] at h
      cases h
    · rw [if_neg e] at h
      obtain ⟨h1, h2, h3⟩ := wL_no h
      have hle := pfx_le (b := b) (w := w) (i := 0)
      have hmx : lg ≤ L ∧ pfx b w 0 ≤ L := by
        split at h1 <;> omega
      refine ⟨hmx.1, fun i v hv => ?_, ?_⟩
      · cases i with
        | zero =>
          cases hv
          exact ⟨hmx.2, by omega⟩
        | succ i => exact h2 i v hv
      · rcases h3 with h3 | ⟨i, v, hv, e2⟩
        · by_cases q : lg < pfx b w 0
          · rw [if_pos q] at h3
            exact Or.inr ⟨0, w, rfl, h3.symm⟩
          · rw [if_neg q] at h3
            exact Or.inl h3
        · exact Or.inr ⟨i + 1, v, hv, e2⟩
theorem zWf_free : ∀ i, i < 7 → ∀ j, j < 7 → i ≠ j → (zWf.getD i []).take (zWf.getD j []).length ≠ zWf.getD j [] := by decide +kernel
theorem zWf_len : ∀ i, i < 7 → 0 < (zWf.getD i []).length ∧ (zWf.getD i []).length ≤ 6 := by decide +kernel
/-- a word that fits whole is the longest -/
theorem mbl_hit {b : Nat → Int32} {m i0 : Nat} (hm : m ≤ 7) (h1 : i0 < m) (h2 : pfx b (zWf.getD i0 []) 0 = (zWf.getD i0 []).length) : mbl (fun j => pfx b (zWf.getD j []) 0) m = (nI (zWf.getD i0 []).length, i0) := by
  have hpf : ∀ i, pfx b (zWf.getD i []) 0 ≤ 10 := fun i => by
    have := pfx_le (b := b) (w := zWf.getD i []) (i := 0)
    rcases Nat.lt_or_ge i 7 with q | q
    · have := (zWf_len i q).2
      omega
    · rw [List.getD_eq_default _ _ (by exact q)] at this ⊢
      exact Nat.le_trans this (by decide)
  obtain ⟨j, rfl⟩ : ∃ j, m = j + 1 := ⟨m - 1, by omega⟩
  obtain ⟨t, ht, e, h⟩ := mbl_in hpf j
  rw [e]
  have hle := h i0 h1
  have hle2 : (zWf.getD i0 []).length ≤ pfx b (zWf.getD t []) 0 := by rw [← h2]; exact hle
  by_cases q : t = i0
  · subst q
    rw [h2]
  · exfalso
    refine zWf_free t (by omega) i0 (by omega) q ?_
    refine List.ext_getElem? (fun k => ?_)
    rcases Nat.lt_or_ge k (zWf.getD i0 []).length with w | w
    · rw [List.getElem?_take_of_lt w, pfx_ch (b := b) (w := zWf.getD t []) (i := 0) (by omega), pfx_ch (b := b) (w := zWf.getD i0 []) (i := 0) (by omega)]
    · rw [List.getElem?_eq_none (by rw [List.length_take]; omega), List.getElem?_eq_none w]
theorem mbl_no {b : Nat → Int32} {m L : Nat} (h0 : 0 < m) (hm : m ≤ 7) (h : wL b (zWf.take m) 0 0 = .inr L) : ∃ t, t < m ∧ mbl (fun j => pfx b (zWf.getD j []) 0) m = (nI L, t) ∧ L < (zWf.getD t []).length ∧ L ≤ 10 := by
  have hg : ∀ i, i < m → (zWf.take m)[i]? = some (zWf.getD i []) := fun i hi => by
    rw [List.getElem?_take_of_lt hi, List.getD_eq_getElem?_getD, List.getElem?_eq_getElem (show i < zWf.length from Nat.lt_of_lt_of_le hi hm)]
    rfl
  obtain ⟨-, h2, h3⟩ := wL_no h
  have hpf : ∀ i, pfx b (zWf.getD i []) 0 ≤ 10 := fun i => by
    have := pfx_le (b := b) (w := zWf.getD i []) (i := 0)
    rcases Nat.lt_or_ge i 7 with q | q
    · have := (zWf_len i q).2
      omega
    · rw [List.getD_eq_default _ _ (by exact q)] at this ⊢
      exact Nat.le_trans this (by decide)
  obtain ⟨j, rfl⟩ : ∃ j, m = j + 1 := ⟨m - 1, by omega⟩
  obtain ⟨t, ht, e, hmax⟩ := mbl_in hpf j
  have ht2 := h2 t _ (hg t ht)
  have hL : pfx b (zWf.getD t []) 0 = L := by
    rcases h3 with h3 | ⟨i, w, hw, e2⟩
    · omega
    · have hi : i < j + 1 := by
        have := (List.getElem?_eq_some_iff.mp hw).1
        rw [List.length_take] at this
        omega
      rw [hg i hi] at hw
      cases hw
      have := hmax i hi
      omega
  refine ⟨t, ht, by rw [e, hL], by omega, by rw [← hL]; exact hpf t⟩
/-! MODEL: reading -/
def mE (μ : zMu) (a : Nat → Int32) (n : Nat) : Prop := μ 48 0 14 = nI n ∧ n ≤ 200 ∧ (∀ j, j < n → μ 63 0 j &&& 255 = a j) ∧ gCs μ
def qOk (q : zQ) : Prop := q.1 ≤ 1000 ∧ (q.2 = -1 ∨ ∃ p, p ≤ 2000 ∧ q.2 = nI p)
def cM (μ : zMu) (q : zQ) : zMu := zu (zu μ 48 0 28 (nI q.1)) 48 0 29 q.2
theorem cM_E {μ : zMu} {a : Nat → Int32} {n : Nat} {q : zQ} (h : mE μ a n) : mE (cM μ q) a n := h
theorem cM_28 {μ : zMu} {q : zQ} : cM μ q 48 0 28 = nI q.1 := by
  unfold cM
  rw [zu_ne (by omega), zu_eq]
theorem cM_29 {μ : zMu} {q : zQ} : cM μ q 48 0 29 = q.2 := zu_eq
theorem cM_o {μ : zMu} {q : zQ} {f i k : Nat} (h : ¬ (f = 48 ∧ i = 0 ∧ (k = 28 ∨ k = 29))) : cM μ q f i k = μ f i k := by
  unfold cM
  rw [zu_ne (by omega), zu_ne (by omega)]
theorem cM_id {μ : zMu} {q : zQ} (h1 : μ 48 0 28 = nI q.1) (h2 : μ 48 0 29 = q.2) : μ = cM μ q := by
  funext f i k
  by_cases h : f = 48 ∧ i = 0 ∧ (k = 28 ∨ k = 29)
  · obtain ⟨rfl, rfl, rfl | rfl⟩ := h
    · rw [cM_28, h1]
    · rw [cM_29, h2]
  · rw [cM_o h]
theorem cM_cM {μ : zMu} {q q' : zQ} : cM (cM μ q) q' = cM μ q' := by
  funext f i k
  by_cases h : f = 48 ∧ i = 0 ∧ (k = 28 ∨ k = 29)
  · obtain ⟨rfl, rfl, rfl | rfl⟩ := h
    · rw [cM_28, cM_28]
    · rw [cM_29, cM_29]
  · rw [cM_o h, cM_o h, cM_o h]
theorem cM_at {μ : zMu} {q : zQ} {x : Int32} {p : Nat} (hx : x = nI p) : zu (cM μ q) 48 0 28 x = cM μ (p, q.2) := by
  subst hx
  funext f i k
  by_cases h : f = 48 ∧ i = 0 ∧ (k = 28 ∨ k = 29)
  · obtain ⟨rfl, rfl, rfl | rfl⟩ := h
    · rw [zu_eq, cM_28]
    · rw [zu_ne (by omega), cM_29, cM_29]
  · rw [zu_ne (by omega), cM_o h, cM_o h]
theorem cM_fl {μ : zMu} {q : zQ} {x : Int32} : zu (cM μ q) 48 0 29 x = cM μ (q.1, x) := by
  funext f i k
  by_cases h : f = 48 ∧ i = 0 ∧ (k = 28 ∨ k = 29)
  · obtain ⟨rfl, rfl, rfl | rfl⟩ := h
    · rw [zu_ne (by omega), cM_28, cM_28]
    · rw [zu_eq, cM_29]
  · rw [zu_ne (by omega), cM_o h, cM_o h]
theorem c_Mo_letter {d n at_ : Nat} {μ : zMu} {a : Nat → Int32} {K : Option zV → zMu → Prop} (E : mE μ a n) (h28 : μ 48 0 28 = nI at_) (hat : at_ ≤ 1000) (hK : K (some (zI (pB a n at_))) μ) : Ct d m_Mo_letter [zR 48 0] μ K := by
  refine zmeet rfl (Nat.le_of_ble_eq_true rfl) (fun S => ?_)
  obtain ⟨h14, h200, h63, -⟩ := E
  unfold pB at hK
  rcases Nat.lt_or_ge at_ n with q | q
  · rw [if_pos q] at hK
    have hle : ¬ μ 48 0 14 ≤ μ 48 0 28 := by rw [h14, h28]; exact nI_ge q (by omega)
    have hv : vp_in (μ 48 0 28) 200 := by rw [h28]; exact vp_in_nI (by omega) (by omega)
    have hc : (μ 48 0 28).toNatClampNeg = at_ := by rw [h28]; exact nI_clamp (by omega)
    repeat' (first
      | refine br_f hle ?_
      | exact zKe hK (by rw [hc]; exact h63 at_ q) rfl
      | (refine zs k_Mo_letter rfl ?_; conv => whnf)
      | refine ⟨Nat.zero_lt_one, rfl, ?_⟩
      | refine ⟨rfl, ?_⟩
      | refine ⟨⟨Nat.zero_lt_one, rfl⟩, Nat.le_of_ble_eq_true rfl, ?_⟩
      | refine ⟨Nat.le_of_ble_eq_true rfl, Nat.le_of_ble_eq_true rfl, ?_⟩
      | refine ⟨(by first | exact Nat.zero_lt_one | assumption | omega), (by first | assumption | exact vp_in_nI (by omega) (by omega) | (unfold vp_in; decide)), ?_⟩
      | refine ⟨(by first | exact Nat.zero_lt_one | assumption | omega), rfl, ?_⟩
      | refine ⟨⟨(by first | exact Nat.zero_lt_one | assumption | omega), rfl⟩, Nat.le_of_ble_eq_true rfl, ?_⟩
      | refine ⟨(by first | exact Nat.zero_lt_one | assumption | omega), ?_⟩
      | refine ⟨Or.inl rfl, ?_⟩
      | refine ⟨Or.inr (Or.inl rfl), ?_⟩
      | refine ⟨Or.inr (Or.inr rfl), ?_⟩
      | refine ⟨Or.inr ⟨rfl, (by first | exact Or.inl rfl | exact Or.inr rfl | assumption)⟩, ?_⟩
      | refine ⟨fun h => absurd h (by decide), fun _ => ?_⟩
      | refine ⟨fun _ => ?_, fun h => absurd h (by decide)⟩
      | refine ⟨fun h => ?_, fun h => ?_⟩
      | fail)
  · rw [if_neg (by omega)] at hK
    have hle : μ 48 0 14 ≤ μ 48 0 28 := by rw [h14, h28]; exact nI_le q (by omega)
    repeat' (first
      | refine br_t hle ?_
      | exact hK
      | (refine zs k_Mo_letter rfl ?_; conv => whnf)
      | refine ⟨Nat.zero_lt_one, rfl, ?_⟩
      | refine ⟨rfl, ?_⟩
      | refine ⟨⟨Nat.zero_lt_one, rfl⟩, Nat.le_of_ble_eq_true rfl, ?_⟩
      | refine ⟨Nat.le_of_ble_eq_true rfl, Nat.le_of_ble_eq_true rfl, ?_⟩
      | refine ⟨(by first | exact Nat.zero_lt_one | assumption | omega), (by first | assumption | exact vp_in_nI (by omega) (by omega) | (unfold vp_in; decide)), ?_⟩
      | refine ⟨(by first | exact Nat.zero_lt_one | assumption | omega), rfl, ?_⟩
      | refine ⟨⟨(by first | exact Nat.zero_lt_one | assumption | omega), rfl⟩, Nat.le_of_ble_eq_true rfl, ?_⟩
      | refine ⟨(by first | exact Nat.zero_lt_one | assumption | omega), ?_⟩
      | refine ⟨Or.inl rfl, ?_⟩
      | refine ⟨Or.inr (Or.inl rfl), ?_⟩
      | refine ⟨Or.inr (Or.inr rfl), ?_⟩
      | refine ⟨Or.inr ⟨rfl, (by first | exact Or.inl rfl | exact Or.inr rfl | assumption)⟩, ?_⟩
      | refine ⟨fun h => absurd h (by decide), fun _ => ?_⟩
      | refine ⟨fun _ => ?_, fun h => absurd h (by decide)⟩
      | refine ⟨fun h => ?_, fun h => ?_⟩
      | fail)
theorem c_Mo_isDigit {d : Nat} {μ : zMu} {x : Int32} {K : Option zV → zMu → Prop} (h1 : 48 ≤ x ∧ x ≤ 57 → K (some (zI 1)) μ) (h0 : ¬ (48 ≤ x ∧ x ≤ 57) → K (some (zI 0)) μ) : Ct d m_Mo_isDigit [zI x] μ K := by
  refine zmeet rfl (Nat.le_of_ble_eq_true rfl) (fun S => ?_)
  repeat' (first
    | exact h0 (by grind)
    | exact h1 (by grind)
    | (refine zs k_Mo_isDigit rfl ?_; conv => whnf)
    | refine ⟨Nat.zero_lt_one, rfl, ?_⟩
    | refine ⟨rfl, ?_⟩
    | refine ⟨⟨Nat.zero_lt_one, rfl⟩, Nat.le_of_ble_eq_true rfl, ?_⟩
    | refine ⟨Nat.le_of_ble_eq_true rfl, Nat.le_of_ble_eq_true rfl, ?_⟩
    | refine ⟨(by first | exact Nat.zero_lt_one | assumption | omega), (by first | assumption | exact vp_in_nI (by omega) (by omega) | (unfold vp_in; decide)), ?_⟩
    | refine ⟨(by first | exact Nat.zero_lt_one | assumption | omega), rfl, ?_⟩
    | refine ⟨⟨(by first | exact Nat.zero_lt_one | assumption | omega), rfl⟩, Nat.le_of_ble_eq_true rfl, ?_⟩
    | refine ⟨(by first | exact Nat.zero_lt_one | assumption | omega), ?_⟩
    | refine ⟨Or.inl rfl, ?_⟩
    | refine ⟨Or.inr (Or.inl rfl), ?_⟩
    | refine ⟨Or.inr (Or.inr rfl), ?_⟩
    | refine ⟨Or.inr ⟨rfl, (by first | exact Or.inl rfl | exact Or.inr rfl | assumption)⟩, ?_⟩
    | refine ⟨fun h => absurd h (by decide), fun _ => ?_⟩
    | refine ⟨fun _ => ?_, fun h => absurd h (by decide)⟩
    | refine ⟨fun h => ?_, fun h => ?_⟩
    | fail)
theorem qOk_neg {q : zQ} (h : qOk q) : (q.2 = -1 ∧ ¬ 0 ≤ q.2) ∨ (¬ q.2 = -1 ∧ 0 ≤ q.2) := by
  rcases h.2 with e | ⟨p, hp, e⟩
  · exact Or.inl ⟨e, by rw [e]; decide⟩
  · exact Or.inr ⟨by rw [e]; exact nI_nem1 (by omega), by rw [e]; exact nI_pos' (by omega)⟩
theorem mX_ok {a : Nat → Int32} {n : Nat} (h200 : n ≤ 200) : ∀ {cs : List Int32} {q : zQ}, (∀ c ∈ cs, ¬ c = -1) → qOk q → qOk (mX a n cs q)
  | [], _, _, h => h
  | c :: cs, q, hc, h => by
    rw [mX]
    by_cases h1 : q.2 = -1
    · rw [if_pos h1]
      by_cases e : pB a n q.1 = c
      · rw [if_pos e]
        have := pB_lt (a := a) (n := n) (j := q.1) (by rw [e]; exact hc c List.mem_cons_self)
        exact mX_ok h200 (fun c' hc' => hc c' (List.mem_cons_of_mem _ hc')) ⟨by show q.1 + 1 ≤ 1000; omega, Or.inl rfl⟩
      · rw [if_neg e]
        exact ⟨h.1, Or.inr ⟨q.1, by have := h.1; omega, rfl⟩⟩
    · rw [if_neg h1]
      exact h
set_option maxHeartbeats 1000000 in
theorem c_Mo_expect {d n : Nat} {μ : zMu} {a : Nat → Int32} {cs : List Int32} {q : zQ} {x y : Int32} {K : Option zV → zMu → Prop} (E : mE μ a n) (h28 : μ 48 0 28 = nI q.1) (h29 : μ 48 0 29 = q.2) (hq : qOk q) (hx : x = nI cs.length) (h4 : cs.length ≤ 4) (hcm : ∀ c ∈ cs, ¬ c = -1) (hc : ∀ k, k < cs.length → (y >>> (8 * nI k &&& 31)) &&& 255 = cs.getD (cs.length - 1 - k) 0) (hK : K none (cM μ (mX a n cs q))) : Ct (d + 1) m_Mo_expect [zR 48 0, zI x, zI y] μ K := by
  subst hx
  refine zmeet rfl (Nat.le_of_ble_eq_true rfl) (fun S => ?_)
  have h200 := E.2.1
  generalize hQ : mX a n cs q = Q at hK
  have L : ∀ (i : Nat) (w : Int32) (q1 : zQ) (μ1 : zMu), i ≤ cs.length → w = nI i - 1 → μ1 = cM μ q1 → qOk q1 → mX a n (cs.drop (cs.length - i)) q1 = Q → zG S (d + 1) m_Mo_expect K 4 [some (zR 48 0), some (zI (nI cs.length)), some (zI y), some (zI w)] [] μ1 := by
    intro i
    induction i with
    | zero =>
      intro w q1 μ1 hi hw h1 ho hfin
      subst hw h1
      rw [Nat.sub_zero, List.drop_length] at hfin
      have hfin : q1 = Q := hfin
      refine zs k_Mo_expect rfl ?_; conv => whnf
      repeat' (first
        | refine br_t (show (nI 0 - 1 : Int32) < 0 by decide) ?_
        | exact zKn hK (by rw [hfin])
        | (refine zs k_Mo_expect rfl ?_; conv => whnf)
        | refine ⟨Nat.zero_lt_one, rfl, ?_⟩
        | refine ⟨rfl, ?_⟩
        | refine ⟨⟨Nat.zero_lt_one, rfl⟩, Nat.le_of_ble_eq_true rfl, ?_⟩
        | refine ⟨Nat.le_of_ble_eq_true rfl, Nat.le_of_ble_eq_true rfl, ?_⟩
        | refine ⟨(by first | exact Nat.zero_lt_one | assumption | omega), (by first | assumption | exact vp_in_nI (by omega) (by omega) | (unfold vp_in; decide)), ?_⟩
        | refine ⟨(by first | exact Nat.zero_lt_one | assumption | omega), rfl, ?_⟩
        | refine ⟨⟨(by first | exact Nat.zero_lt_one | assumption | omega), rfl⟩, Nat.le_of_ble_eq_true rfl, ?_⟩
        | refine ⟨(by first | exact Nat.zero_lt_one | assumption | omega), ?_⟩
        | refine ⟨Or.inl rfl, ?_⟩
        | refine ⟨Or.inr (Or.inl rfl), ?_⟩
        | refine ⟨Or.inr (Or.inr rfl), ?_⟩
        | refine ⟨Or.inr ⟨rfl, (by first | exact Or.inl rfl | exact Or.inr rfl | assumption)⟩, ?_⟩
        | refine ⟨fun h => absurd h (by decide), fun _ => ?_⟩
        | refine ⟨fun _ => ?_, fun h => absurd h (by decide)⟩
        | refine ⟨fun h => ?_, fun h => ?_⟩
        | fail)
    | succ i ih =>
      intro w q1 μ1 hi hw h1 ho hfin
      subst hw
      rw [nI_pred]
      have a28 : μ1 48 0 28 = nI q1.1 := by rw [h1]; exact cM_28
      have a29 : μ1 48 0 29 = q1.2 := by rw [h1]; exact cM_29
      have E1 : mE μ1 a n := by rw [h1]; exact cM_E E
      rcases qOk_neg ho with ⟨o1, o2⟩ | ⟨o1, o2⟩
      case inr =>
        rw [mX_ft o1] at hfin
        have o2' : 0 ≤ μ1 48 0 29 := by rw [a29]; exact o2
        refine zs k_Mo_expect rfl ?_; conv => whnf
        repeat' (first
          | refine br_f (nI_pos (by omega)) ?_
          | refine br_t o2' ?_
          | exact zKn hK (by rw [h1, hfin])
          | (refine zs k_Mo_expect rfl ?_; conv => whnf)
          | refine ⟨Nat.zero_lt_one, rfl, ?_⟩
          | refine ⟨rfl, ?_⟩
          | refine ⟨⟨Nat.zero_lt_one, rfl⟩, Nat.le_of_ble_eq_true rfl, ?_⟩
          | refine ⟨Nat.le_of_ble_eq_true rfl, Nat.le_of_ble_eq_true rfl, ?_⟩
          | refine ⟨(by first | exact Nat.zero_lt_one | assumption | omega), (by first | assumption | exact vp_in_nI (by omega) (by omega) | (unfold vp_in; decide)), ?_⟩
          | refine ⟨(by first | exact Nat.zero_lt_one | assumption | omega), rfl, ?_⟩
          | refine ⟨⟨(by first | exact Nat.zero_lt_one | assumption | omega), rfl⟩, Nat.le_of_ble_eq_true rfl, ?_⟩
          | refine ⟨(by first | exact Nat.zero_lt_one | assumption | omega), ?_⟩
          | refine ⟨Or.inl rfl, ?_⟩
          | refine ⟨Or.inr (Or.inl rfl), ?_⟩
          | refine ⟨Or.inr (Or.inr rfl), ?_⟩
          | refine ⟨Or.inr ⟨rfl, (by first | exact Or.inl rfl | exact Or.inr rfl | assumption)⟩, ?_⟩
          | refine ⟨fun h => absurd h (by decide), fun _ => ?_⟩
          | refine ⟨fun _ => ?_, fun h => absurd h (by decide)⟩
          | refine ⟨fun h => ?_, fun h => ?_⟩
          | fail)
      have o2' : ¬ 0 ≤ μ1 48 0 29 := by rw [a29]; exact o2
      have hd : cs.drop (cs.length - (i + 1)) = cs.getD (cs.length - 1 - i) 0 :: cs.drop (cs.length - i) := by
        rw [List.drop_eq_getElem_cons (show cs.length - (i + 1) < cs.length by omega), show cs.length - (i + 1) + 1 = cs.length - i by omega]
        congr 1
        rw [List.getD_eq_getElem?_getD, show cs.length - 1 - i = cs.length - (i + 1) by omega, List.getElem?_eq_getElem (show cs.length - (i + 1) < cs.length by omega)]
        rfl
      rw [hd, mX, if_pos o1] at hfin
      have hch := hc i (by omega)
      by_cases e : pB a n q1.1 = cs.getD (cs.length - 1 - i) 0
      · rw [if_pos e] at hfin
        have e' : pB a n q1.1 = (y >>> (8 * nI i &&& 31)) &&& 255 := e.trans hch.symm
        have hlt := pB_lt (a := a) (n := n) (j := q1.1) (by
          rw [e]
          refine hcm _ ?_
          rw [List.getD_eq_getElem?_getD, List.getElem?_eq_getElem (show cs.length - 1 - i < cs.length by omega)]
          exact List.getElem_mem _)
        refine zs k_Mo_expect rfl ?_; conv => whnf
        repeat' (first
          | refine br_f (nI_pos (by omega)) ?_
          | refine br_f o2' ?_
          | refine c_Mo_letter E1 a28 ho.1 ?_
          | refine br_t e' ?_
          | refine ih _ (q1.1 + 1, -1) _ (by omega) (by exact i32_m1 _) ?_ ⟨by show q1.1 + 1 ≤ 1000; omega, Or.inl rfl⟩ hfin
          | (refine zs k_Mo_expect rfl ?_; conv => whnf)
          | refine ⟨Nat.zero_lt_one, rfl, ?_⟩
          | refine ⟨rfl, ?_⟩
          | refine ⟨⟨Nat.zero_lt_one, rfl⟩, Nat.le_of_ble_eq_true rfl, ?_⟩
          | refine ⟨Nat.le_of_ble_eq_true rfl, Nat.le_of_ble_eq_true rfl, ?_⟩
          | refine ⟨(by first | exact Nat.zero_lt_one | assumption | omega), (by first | assumption | exact vp_in_nI (by omega) (by omega) | (unfold vp_in; decide)), ?_⟩
          | refine ⟨(by first | exact Nat.zero_lt_one | assumption | omega), rfl, ?_⟩
          | refine ⟨⟨(by first | exact Nat.zero_lt_one | assumption | omega), rfl⟩, Nat.le_of_ble_eq_true rfl, ?_⟩
          | refine ⟨(by first | exact Nat.zero_lt_one | assumption | omega), ?_⟩
          | refine ⟨Or.inl rfl, ?_⟩
          | refine ⟨Or.inr (Or.inl rfl), ?_⟩
          | refine ⟨Or.inr (Or.inr rfl), ?_⟩
          | refine ⟨Or.inr ⟨rfl, (by first | exact Or.inl rfl | exact Or.inr rfl | assumption)⟩, ?_⟩
          | refine ⟨fun h => absurd h (by decide), fun _ => ?_⟩
          | refine ⟨fun _ => ?_, fun h => absurd h (by decide)⟩
          | refine ⟨fun h => ?_, fun h => ?_⟩
          | fail)
        rw [h1, cM_at (p := q1.1 + 1) (by rw [cM_28, nI_1]), o1]
      · rw [if_neg e] at hfin
        have e' : ¬ pB a n q1.1 = (y >>> (8 * nI i &&& 31)) &&& 255 := by rw [hch]; exact e
        refine zs k_Mo_expect rfl ?_; conv => whnf
        repeat' (first
          | refine br_f (nI_pos (by omega)) ?_
          | refine br_f o2' ?_
          | refine c_Mo_letter E1 a28 ho.1 ?_
          | refine br_f e' ?_
          | refine ih _ (q1.1, nI q1.1) _ (by omega) (by exact i32_m1 _) ?_ ⟨ho.1, Or.inr ⟨q1.1, by have := ho.1; omega, rfl⟩⟩ (by rw [mX_ft (nI_nem1 (show q1.1 < 2 ^ 31 by have := ho.1; omega))]; exact hfin)
          | (refine zs k_Mo_expect rfl ?_; conv => whnf)
          | refine ⟨Nat.zero_lt_one, rfl, ?_⟩
          | refine ⟨rfl, ?_⟩
          | refine ⟨⟨Nat.zero_lt_one, rfl⟩, Nat.le_of_ble_eq_true rfl, ?_⟩
          | refine ⟨Nat.le_of_ble_eq_true rfl, Nat.le_of_ble_eq_true rfl, ?_⟩
          | refine ⟨(by first | exact Nat.zero_lt_one | assumption | omega), (by first | assumption | exact vp_in_nI (by omega) (by omega) | (unfold vp_in; decide)), ?_⟩
          | refine ⟨(by first | exact Nat.zero_lt_one | assumption | omega), rfl, ?_⟩
          | refine ⟨⟨(by first | exact Nat.zero_lt_one | assumption | omega), rfl⟩, Nat.le_of_ble_eq_true rfl, ?_⟩
          | refine ⟨(by first | exact Nat.zero_lt_one | assumption | omega), ?_⟩
          | refine ⟨Or.inl rfl, ?_⟩
          | refine ⟨Or.inr (Or.inl rfl), ?_⟩
          | refine ⟨Or.inr (Or.inr rfl), ?_⟩
          | refine ⟨Or.inr ⟨rfl, (by first | exact Or.inl rfl | exact Or.inr rfl | assumption)⟩, ?_⟩
          | refine ⟨fun h => absurd h (by decide), fun _ => ?_⟩
          | refine ⟨fun _ => ?_, fun h => absurd h (by decide)⟩
          | refine ⟨fun h => ?_, fun h => ?_⟩
          | fail)
        rw [h1, cM_fl, cM_28]
  repeat' (first
    | refine L cs.length _ q _ (Nat.le_refl _) rfl (cM_id h28 h29) hq (by rw [Nat.sub_self]; exact hQ)
    | (refine zs k_Mo_expect rfl ?_; conv => whnf)
    | refine ⟨Nat.zero_lt_one, rfl, ?_⟩
    | refine ⟨rfl, ?_⟩
    | refine ⟨⟨Nat.zero_lt_one, rfl⟩, Nat.le_of_ble_eq_true rfl, ?_⟩
    | refine ⟨Nat.le_of_ble_eq_true rfl, Nat.le_of_ble_eq_true rfl, ?_⟩
    | refine ⟨(by first | exact Nat.zero_lt_one | assumption | omega), (by first | assumption | exact vp_in_nI (by omega) (by omega) | (unfold vp_in; decide)), ?_⟩
    | refine ⟨(by first | exact Nat.zero_lt_one | assumption | omega), rfl, ?_⟩
    | refine ⟨⟨(by first | exact Nat.zero_lt_one | assumption | omega), rfl⟩, Nat.le_of_ble_eq_true rfl, ?_⟩
    | refine ⟨(by first | exact Nat.zero_lt_one | assumption | omega), ?_⟩
    | refine ⟨Or.inl rfl, ?_⟩
    | refine ⟨Or.inr (Or.inl rfl), ?_⟩
    | refine ⟨Or.inr (Or.inr rfl), ?_⟩
    | refine ⟨Or.inr ⟨rfl, (by first | exact Or.inl rfl | exact Or.inr rfl | assumption)⟩, ?_⟩
    | refine ⟨fun h => absurd h (by decide), fun _ => ?_⟩
    | refine ⟨fun _ => ?_, fun h => absurd h (by decide)⟩
    | refine ⟨fun h => ?_, fun h => ?_⟩
    | fail)
/-- of two, of three bytes one -/
def mOne (a : Nat → Int32) (n : Nat) (cs : List Int32) (at_ : Nat) : Nat × zQ := if pB a n at_ = cs.getD 0 0 then (0, at_ + 1, -1) else if pB a n at_ = cs.getD 1 0 then (1, at_ + 1, -1) else if 2 < cs.length ∧ pB a n at_ = cs.getD 2 0 then (2, at_ + 1, -1) else (0, at_, nI at_)
set_option maxHeartbeats 1000000 in
theorem c_Mo_one2 {d n at_ : Nat} {μ : zMu} {a : Nat → Int32} {K : Option zV → zMu → Prop} (E : mE μ a n) (h28 : μ 48 0 28 = nI at_) (h29 : μ 48 0 29 = -1) (hat : at_ ≤ 1000) (hK : K (some (zI (nI (mOne a n [97, 98] at_).1))) (cM μ (mOne a n [97, 98] at_).2)) : Ct (d + 1) m_Mo_oneOf [zR 48 0, zI 2, zI 24930] μ K := by
  refine zmeet rfl (Nat.le_of_ble_eq_true rfl) (fun S => ?_)
  have e0 : ((24930 : Int32) >>> (8 * (2 - 1 - 0) &&& 31)) &&& 255 = 97 := by decide
  have e1 : ((24930 : Int32) >>> (8 * (2 - 1 - (0 + 1)) &&& 31)) &&& 255 = 98 := by decide
  have hid := cM_id (q := (at_, -1)) h28 h29
  unfold mOne at hK
  by_cases l0 : pB a n at_ = 97
  · rw [if_pos l0] at hK
    have f0 : pB a n at_ = ((24930 : Int32) >>> (8 * (2 - 1 - 0) &&& 31)) &&& 255 := l0.trans e0.symm
    have f1 : ¬ pB a n at_ = ((24930 : Int32) >>> (8 * (2 - 1 - (0 + 1)) &&& 31)) &&& 255 := by rw [e1, l0]; decide
    repeat' (first
      | refine c_Mo_letter E h28 hat ?_
      | refine bn_f f0 ?_
      | refine bn_t f1 ?_
      | refine br_f (show ¬ (2 : Int32) ≤ 0 by decide) ?_
      | refine br_f (show ¬ (2 : Int32) ≤ 0 + 1 by decide) ?_
      | refine br_t (show (2 : Int32) ≤ 0 + 1 + 1 by decide) ?_
      | exact zKe hK rfl (by rw [h28, nI_1]; conv => lhs; rw [hid, cM_at rfl])
      | (refine zs k_Mo_oneOf rfl ?_; conv => whnf)
      | refine ⟨Nat.zero_lt_one, rfl, ?_⟩
      | refine ⟨rfl, ?_⟩
      | refine ⟨⟨Nat.zero_lt_one, rfl⟩, Nat.le_of_ble_eq_true rfl, ?_⟩
      | refine ⟨Nat.le_of_ble_eq_true rfl, Nat.le_of_ble_eq_true rfl, ?_⟩
      | refine ⟨(by first | exact Nat.zero_lt_one | assumption | omega), (by first | assumption | exact vp_in_nI (by omega) (by omega) | (unfold vp_in; decide)), ?_⟩
      | refine ⟨(by first | exact Nat.zero_lt_one | assumption | omega), rfl, ?_⟩
      | refine ⟨⟨(by first | exact Nat.zero_lt_one | assumption | omega), rfl⟩, Nat.le_of_ble_eq_true rfl, ?_⟩
      | refine ⟨(by first | exact Nat.zero_lt_one | assumption | omega), ?_⟩
      | refine ⟨Or.inl rfl, ?_⟩
      | refine ⟨Or.inr (Or.inl rfl), ?_⟩
      | refine ⟨Or.inr (Or.inr rfl), ?_⟩
      | refine ⟨Or.inr ⟨rfl, (by first | exact Or.inl rfl | exact Or.inr rfl | assumption)⟩, ?_⟩
      | refine ⟨fun h => absurd h (by decide), fun _ => ?_⟩
      | refine ⟨fun _ => ?_, fun h => absurd h (by decide)⟩
      | refine ⟨fun h => ?_, fun h => ?_⟩
      | fail)
  · rw [if_neg l0] at hK
    have f0 : ¬ pB a n at_ = ((24930 : Int32) >>> (8 * (2 - 1 - 0) &&& 31)) &&& 255 := by rw [e0]; exact l0
    by_cases l1 : pB a n at_ = 98
    · rw [if_pos l1] at hK
      have f1 : pB a n at_ = ((24930 : Int32) >>> (8 * (2 - 1 - (0 + 1)) &&& 31)) &&& 255 := l1.trans e1.symm
      repeat' (first
        | refine c_Mo_letter E h28 hat ?_
        | refine bn_t f0 ?_
        | refine bn_f f1 ?_
        | refine br_f (show ¬ (2 : Int32) ≤ 0 by decide) ?_
        | refine br_f (show ¬ (2 : Int32) ≤ 0 + 1 by decide) ?_
        | refine br_t (show (2 : Int32) ≤ 0 + 1 + 1 by decide) ?_
        | exact zKe hK rfl (by rw [h28, nI_1]; conv => lhs; rw [hid, cM_at rfl])
        | (refine zs k_Mo_oneOf rfl ?_; conv => whnf)
        | refine ⟨Nat.zero_lt_one, rfl, ?_⟩
        | refine ⟨rfl, ?_⟩
        | refine ⟨⟨Nat.zero_lt_one, rfl⟩, Nat.le_of_ble_eq_true rfl, ?_⟩
        | refine ⟨Nat.le_of_ble_eq_true rfl, Nat.le_of_ble_eq_true rfl, ?_⟩
        | refine ⟨(by first | exact Nat.zero_lt_one | assumption | omega), (by first | assumption | exact vp_in_nI (by omega) (by omega) | (unfold vp_in; decide)), ?_⟩
        | refine ⟨(by first | exact Nat.zero_lt_one | assumption | omega), rfl, ?_⟩
        | refine ⟨⟨(by first | exact Nat.zero_lt_one | assumption | omega), rfl⟩, Nat.le_of_ble_eq_true rfl, ?_⟩
        | refine ⟨(by first | exact Nat.zero_lt_one | assumption | omega), ?_⟩
        | refine ⟨Or.inl rfl, ?_⟩
        | refine ⟨Or.inr (Or.inl rfl), ?_⟩
        | refine ⟨Or.inr (Or.inr rfl), ?_⟩
        | refine ⟨Or.inr ⟨rfl, (by first | exact Or.inl rfl | exact Or.inr rfl | assumption)⟩, ?_⟩
        | refine ⟨fun h => absurd h (by decide), fun _ => ?_⟩
        | refine ⟨fun _ => ?_, fun h => absurd h (by decide)⟩
        | refine ⟨fun h => ?_, fun h => ?_⟩
        | fail)
    · rw [if_neg l1, if_neg (fun q => absurd q.1 (by decide))] at hK
      have f1 : ¬ pB a n at_ = ((24930 : Int32) >>> (8 * (2 - 1 - (0 + 1)) &&& 31)) &&& 255 := by rw [e1]; exact l1
      repeat' (first
        | refine c_Mo_letter E h28 hat ?_
        | refine bn_t f0 ?_
        | refine bn_t f1 ?_
        | refine br_f (show ¬ (2 : Int32) ≤ 0 by decide) ?_
        | refine br_f (show ¬ (2 : Int32) ≤ 0 + 1 by decide) ?_
        | refine br_t (show (2 : Int32) ≤ 0 + 1 + 1 by decide) ?_
        | exact zKe hK rfl (by rw [h28]; conv => lhs; rw [hid, cM_fl])
        | (refine zs k_Mo_oneOf rfl ?_; conv => whnf)
        | refine ⟨Nat.zero_lt_one, rfl, ?_⟩
        | refine ⟨rfl, ?_⟩
        | refine ⟨⟨Nat.zero_lt_one, rfl⟩, Nat.le_of_ble_eq_true rfl, ?_⟩
        | refine ⟨Nat.le_of_ble_eq_true rfl, Nat.le_of_ble_eq_true rfl, ?_⟩
        | refine ⟨(by first | exact Nat.zero_lt_one | assumption | omega), (by first | assumption | exact vp_in_nI (by omega) (by omega) | (unfold vp_in; decide)), ?_⟩
        | refine ⟨(by first | exact Nat.zero_lt_one | assumption | omega), rfl, ?_⟩
        | refine ⟨⟨(by first | exact Nat.zero_lt_one | assumption | omega), rfl⟩, Nat.le_of_ble_eq_true rfl, ?_⟩
        | refine ⟨(by first | exact Nat.zero_lt_one | assumption | omega), ?_⟩
        | refine ⟨Or.inl rfl, ?_⟩
        | refine ⟨Or.inr (Or.inl rfl), ?_⟩
        | refine ⟨Or.inr (Or.inr rfl), ?_⟩
        | refine ⟨Or.inr ⟨rfl, (by first | exact Or.inl rfl | exact Or.inr rfl | assumption)⟩, ?_⟩
        | refine ⟨fun h => absurd h (by decide), fun _ => ?_⟩
        | refine ⟨fun _ => ?_, fun h => absurd h (by decide)⟩
        | refine ⟨fun h => ?_, fun h => ?_⟩
        | fail)
set_option maxHeartbeats 1000000 in
theorem c_Mo_one3 {d n at_ : Nat} {μ : zMu} {a : Nat → Int32} {K : Option zV → zMu → Prop} (E : mE μ a n) (h28 : μ 48 0 28 = nI at_) (h29 : μ 48 0 29 = -1) (hat : at_ ≤ 1000) (hK : K (some (zI (nI (mOne a n [61, 60, 62] at_).1))) (cM μ (mOne a n [61, 60, 62] at_).2)) : Ct (d + 1) m_Mo_oneOf [zR 48 0, zI 3, zI 4013118] μ K := by
  refine zmeet rfl (Nat.le_of_ble_eq_true rfl) (fun S => ?_)
  have e0 : ((4013118 : Int32) >>> (8 * (3 - 1 - 0) &&& 31)) &&& 255 = 61 := by decide
  have e1 : ((4013118 : Int32) >>> (8 * (3 - 1 - (0 + 1)) &&& 31)) &&& 255 = 60 := by decide
  have e2 : ((4013118 : Int32) >>> (8 * (3 - 1 - (0 + 1 + 1)) &&& 31)) &&& 255 = 62 := by decide
  have hid := cM_id (q := (at_, -1)) h28 h29
  unfold mOne at hK
  generalize hl : pB a n at_ = l at hK
  have n0 : ∀ c : Int32, (l = ((4013118 : Int32) >>> (8 * (3 - 1 - 0) &&& 31)) &&& 255 ↔ l = 61) := fun _ => by rw [e0]
  have n1 : ∀ c : Int32, (l = ((4013118 : Int32) >>> (8 * (3 - 1 - (0 + 1)) &&& 31)) &&& 255 ↔ l = 60) := fun _ => by rw [e1]
  have n2 : ∀ c : Int32, (l = ((4013118 : Int32) >>> (8 * (3 - 1 - (0 + 1 + 1)) &&& 31)) &&& 255 ↔ l = 62) := fun _ => by rw [e2]
  have k0 : ¬ (3 : Int32) ≤ 0 := by decide
  have k1 : ¬ (3 : Int32) ≤ 0 + 1 := by decide
  have k2 : ¬ (3 : Int32) ≤ 0 + 1 + 1 := by decide
  have k3 : (3 : Int32) ≤ 0 + 1 + 1 + 1 := by decide
  by_cases l0 : l = 61
  · rw [if_pos l0] at hK
    have f0 := (n0 0).mpr l0
    have f1 : ¬ l = ((4013118 : Int32) >>> (8 * (3 - 1 - (0 + 1)) &&& 31)) &&& 255 := by rw [e1, l0]; decide
    have f2 : ¬ l = ((4013118 : Int32) >>> (8 * (3 - 1 - (0 + 1 + 1)) &&& 31)) &&& 255 := by rw [e2, l0]; decide
    rw [← hl] at f0 f1 f2
    repeat' (first
      | refine c_Mo_letter E h28 hat ?_
      | refine bn_f f0 ?_
      | refine bn_t f1 ?_
      | refine bn_t f2 ?_
      | refine br_f k0 ?_
      | refine br_f k1 ?_
      | refine br_f k2 ?_
      | refine br_t k3 ?_
      | exact zKe hK rfl (by rw [h28, nI_1]; conv => lhs; rw [hid, cM_at rfl])
      | (refine zs k_Mo_oneOf rfl ?_; conv => whnf)
      | refine ⟨Nat.zero_lt_one, rfl, ?_⟩
      | refine ⟨rfl, ?_⟩
      | refine ⟨⟨Nat.zero_lt_one, rfl⟩, Nat.le_of_ble_eq_true rfl, ?_⟩
      | refine ⟨Nat.le_of_ble_eq_true rfl, Nat.le_of_ble_eq_true rfl, ?_⟩
      | refine ⟨(by first | exact Nat.zero_lt_one | assumption | omega), (by first | assumption | exact vp_in_nI (by omega) (by omega) | (unfold vp_in; decide)), ?_⟩
      | refine ⟨(by first | exact Nat.zero_lt_one | assumption | omega), rfl, ?_⟩
      | refine ⟨⟨(by first | exact Nat.zero_lt_one | assumption | omega), rfl⟩, Nat.le_of_ble_eq_true rfl, ?_⟩
      | refine ⟨(by first | exact Nat.zero_lt_one | assumption | omega), ?_⟩
      | refine ⟨Or.inl rfl, ?_⟩
      | refine ⟨Or.inr (Or.inl rfl), ?_⟩
      | refine ⟨Or.inr (Or.inr rfl), ?_⟩
      | refine ⟨Or.inr ⟨rfl, (by first | exact Or.inl rfl | exact Or.inr rfl | assumption)⟩, ?_⟩
      | refine ⟨fun h => absurd h (by decide), fun _ => ?_⟩
      | refine ⟨fun _ => ?_, fun h => absurd h (by decide)⟩
      | refine ⟨fun h => ?_, fun h => ?_⟩
      | fail)
  · rw [if_neg l0] at hK
    have f0 : ¬ l = ((4013118 : Int32) >>> (8 * (3 - 1 - 0) &&& 31)) &&& 255 := by rw [e0]; exact l0
    by_cases l1 : l = 60
    · rw [if_pos l1] at hK
      have f1 := (n1 0).mpr l1
      have f2 : ¬ l = ((4013118 : Int32) >>> (8 * (3 - 1 - (0 + 1 + 1)) &&& 31)) &&& 255 := by rw [e2, l1]; decide
      rw [← hl] at f0 f1 f2
      repeat' (first
        | refine c_Mo_letter E h28 hat ?_
        | refine bn_t f0 ?_
        | refine bn_f f1 ?_
        | refine bn_t f2 ?_
        | refine br_f k0 ?_
        | refine br_f k1 ?_
        | refine br_f k2 ?_
        | refine br_t k3 ?_
        | exact zKe hK rfl (by rw [h28, nI_1]; conv => lhs; rw [hid, cM_at rfl])
        | (refine zs k_Mo_oneOf rfl ?_; conv => whnf)
        | refine ⟨Nat.zero_lt_one, rfl, ?_⟩
        | refine ⟨rfl, ?_⟩
        | refine ⟨⟨Nat.zero_lt_one, rfl⟩, Nat.le_of_ble_eq_true rfl, ?_⟩
        | refine ⟨Nat.le_of_ble_eq_true rfl, Nat.le_of_ble_eq_true rfl, ?_⟩
        | refine ⟨(by first | exact Nat.zero_lt_one | assumption | omega), (by first | assumption | exact vp_in_nI (by omega) (by omega) | (unfold vp_in; decide)), ?_⟩
        | refine ⟨(by first | exact Nat.zero_lt_one | assumption | omega), rfl, ?_⟩
        | refine ⟨⟨(by first | exact Nat.zero_lt_one | assumption | omega), rfl⟩, Nat.le_of_ble_eq_true rfl, ?_⟩
        | refine ⟨(by first | exact Nat.zero_lt_one | assumption | omega), ?_⟩
        | refine ⟨Or.inl rfl, ?_⟩
        | refine ⟨Or.inr (Or.inl rfl), ?_⟩
        | refine ⟨Or.inr (Or.inr rfl), ?_⟩
        | refine ⟨Or.inr ⟨rfl, (by first | exact Or.inl rfl | exact Or.inr rfl | assumption)⟩, ?_⟩
        | refine ⟨fun h => absurd h (by decide), fun _ => ?_⟩
        | refine ⟨fun _ => ?_, fun h => absurd h (by decide)⟩
        | refine ⟨fun h => ?_, fun h => ?_⟩
        | fail)
    · rw [if_neg l1] at hK
      have f1 : ¬ l = ((4013118 : Int32) >>> (8 * (3 - 1 - (0 + 1)) &&& 31)) &&& 255 := by rw [e1]; exact l1
      by_cases l2 : l = 62
      · rw [if_pos ⟨by decide, l2⟩] at hK
        have f2 := (n2 0).mpr l2
        rw [← hl] at f0 f1 f2
        repeat' (first
          | refine c_Mo_letter E h28 hat ?_
          | refine bn_t f0 ?_
          | refine bn_t f1 ?_
          | refine bn_f f2 ?_
          | refine br_f k0 ?_
          | refine br_f k1 ?_
          | refine br_f k2 ?_
          | refine br_t k3 ?_
          | exact zKe hK rfl (by rw [h28, nI_1]; conv => lhs; rw [hid, cM_at rfl])
          | (refine zs k_Mo_oneOf rfl ?_; conv => whnf)
          | refine ⟨Nat.zero_lt_one, rfl, ?_⟩
          | refine ⟨rfl, ?_⟩
          | refine ⟨⟨Nat.zero_lt_one, rfl⟩, Nat.le_of_ble_eq_true rfl, ?_⟩
          | refine ⟨Nat.le_of_ble_eq_true rfl, Nat.le_of_ble_eq_true rfl, ?_⟩
          | refine ⟨(by first | exact Nat.zero_lt_one | assumption | omega), (by first | assumption | exact vp_in_nI (by omega) (by omega) | (unfold vp_in; decide)), ?_⟩
          | refine ⟨(by first | exact Nat.zero_lt_one | assumption | omega), rfl, ?_⟩
          | refine ⟨⟨(by first | exact Nat.zero_lt_one | assumption | omega), rfl⟩, Nat.le_of_ble_eq_true rfl, ?_⟩
          | refine ⟨(by first | exact Nat.zero_lt_one | assumption | omega), ?_⟩
          | refine ⟨Or.inl rfl, ?_⟩
          | refine ⟨Or.inr (Or.inl rfl), ?_⟩
          | refine ⟨Or.inr (Or.inr rfl), ?_⟩
          | refine ⟨Or.inr ⟨rfl, (by first | exact Or.inl rfl | exact Or.inr rfl | assumption)⟩, ?_⟩
          | refine ⟨fun h => absurd h (by decide), fun _ => ?_⟩
          | refine ⟨fun _ => ?_, fun h => absurd h (by decide)⟩
          | refine ⟨fun h => ?_, fun h => ?_⟩
          | fail)
      · rw [if_neg (fun q => l2 q.2)] at hK
        have f2 : ¬ l = ((4013118 : Int32) >>> (8 * (3 - 1 - (0 + 1 + 1)) &&& 31)) &&& 255 := by rw [e2]; exact l2
        rw [← hl] at f0 f1 f2
        repeat' (first
          | refine c_Mo_letter E h28 hat ?_
          | refine bn_t f0 ?_
          | refine bn_t f1 ?_
          | refine bn_t f2 ?_
          | refine br_f k0 ?_
          | refine br_f k1 ?_
          | refine br_f k2 ?_
          | refine br_t k3 ?_
          | exact zKe hK rfl (by rw [h28]; conv => lhs; rw [hid, cM_fl])
          | (refine zs k_Mo_oneOf rfl ?_; conv => whnf)
          | refine ⟨Nat.zero_lt_one, rfl, ?_⟩
          | refine ⟨rfl, ?_⟩
          | refine ⟨⟨Nat.zero_lt_one, rfl⟩, Nat.le_of_ble_eq_true rfl, ?_⟩
          | refine ⟨Nat.le_of_ble_eq_true rfl, Nat.le_of_ble_eq_true rfl, ?_⟩
          | refine ⟨(by first | exact Nat.zero_lt_one | assumption | omega), (by first | assumption | exact vp_in_nI (by omega) (by omega) | (unfold vp_in; decide)), ?_⟩
          | refine ⟨(by first | exact Nat.zero_lt_one | assumption | omega), rfl, ?_⟩
          | refine ⟨⟨(by first | exact Nat.zero_lt_one | assumption | omega), rfl⟩, Nat.le_of_ble_eq_true rfl, ?_⟩
          | refine ⟨(by first | exact Nat.zero_lt_one | assumption | omega), ?_⟩
          | refine ⟨Or.inl rfl, ?_⟩
          | refine ⟨Or.inr (Or.inl rfl), ?_⟩
          | refine ⟨Or.inr (Or.inr rfl), ?_⟩
          | refine ⟨Or.inr ⟨rfl, (by first | exact Or.inl rfl | exact Or.inr rfl | assumption)⟩, ?_⟩
          | refine ⟨fun h => absurd h (by decide), fun _ => ?_⟩
          | refine ⟨fun _ => ?_, fun h => absurd h (by decide)⟩
          | refine ⟨fun h => ?_, fun h => ?_⟩
          | fail)
theorem zWf_tab : ∀ w, w < 7 → gBeg.getD w 0 = nI (gBeg.getD w 0).toNatClampNeg ∧ gLon.getD w 0 = nI (zWf.getD w []).length ∧ (gBeg.getD w 0).toNatClampNeg + (zWf.getD w []).length ≤ 33 ∧ ∀ j, j < 6 → j < (zWf.getD w []).length → (zWf.getD w [])[j]? = some (gLet.getD ((gBeg.getD w 0).toNatClampNeg + j) 0) := by decide +kernel
set_option maxHeartbeats 2000000 in
theorem c_Mo_word {d n at_ m : Nat} {μ : zMu} {a : Nat → Int32} {x : Int32} {K : Option zV → zMu → Prop} (E : mE μ a n) (h28 : μ 48 0 28 = nI at_) (h29 : μ 48 0 29 = -1) (hat : at_ ≤ n) (hm0 : 0 < m) (hm7 : m ≤ 7) (hx : x = nI m) (h1 : ∀ i L, wL (fun j => pB a n (at_ + j)) (zWf.take m) 0 0 = .inl (i, L) → K (some (zI (nI i))) (cM μ (at_ + L, -1))) (h0 : ∀ i L, wL (fun j => pB a n (at_ + j)) (zWf.take m) 0 0 = .inr L → K (some (zI (nI i))) (cM μ (at_ + L, nI (at_ + L)))) : Ct d m_Mo_word [zR 48 0, zI x] μ K := by
  subst hx
  refine zmeet rfl (Nat.le_of_ble_eq_true rfl) (fun S => ?_)
  obtain ⟨h14, h200, h63, c80, c81, c82⟩ := id E
  have hid := cM_id (q := (at_, -1)) h28 h29
  generalize hb : (fun j => pB a n (at_ + j)) = b at h1 h0
  have hpf : ∀ i, i < 7 → pfx b (zWf.getD i []) 0 ≤ 6 := fun i hi => Nat.le_trans pfx_le (zWf_len i hi).2
  -- the end
  have E1 : ∀ (l6 : Option zV) (bs lg : Int32), (lg, bs) = ((mbl (fun j => pfx b (zWf.getD j []) 0) m).1, nI (mbl (fun j => pfx b (zWf.getD j []) 0) m).2) → zG S d m_Mo_word K 102 [some (zR 48 0), some (zI (nI m)), some (zI (nI at_)), some (zI bs), some (zI lg), some (zI (nI m)), l6] [] μ := by
    intro l6 bs lg he
    have he1 := congrArg Prod.fst he
    have he2 := congrArg Prod.snd he
    dsimp only at he1 he2
    cases hw : wL b (zWf.take m) 0 0 with
    | inl r =>
      obtain ⟨i, L⟩ := r
      obtain ⟨i0, w, w1, w2, w3⟩ := wL_hit hw
      have hi0 : i0 < m := by
        have := (List.getElem?_eq_some_iff.mp w1).1
        rw [List.length_take] at this
        omega
      have hwd : w = zWf.getD i0 [] := by
        rw [List.getElem?_take_of_lt hi0] at w1
        rw [List.getD_eq_getElem?_getD, w1]
        rfl
      subst hwd
      have hmb := mbl_hit (b := b) hm7 hi0 w3
      rw [hmb] at he1 he2
      dsimp only at he1 he2
      have hi : i = i0 := by have := congrArg Prod.fst w2; dsimp only at this; omega
      have hL : L = (zWf.getD i0 []).length := congrArg Prod.snd w2
      subst he1 he2
      have hk := h1 i L hw
      have t2 := (zWf_tab i0 (by omega)).2.1
      have ci : (nI i0).toNatClampNeg = i0 := nI_clamp (by omega)
      have e82 : μ 82 0 (nI i0).toNatClampNeg = nI (zWf.getD i0 []).length := by rw [ci, c82 i0 (by omega)]; exact t2
      have hl6 := (zWf_len i0 (by omega)).2
      have hge : μ 82 0 (nI i0).toNatClampNeg ≤ nI (zWf.getD i0 []).length := by rw [e82]; exact nI_le (Nat.le_refl _) (by omega)
      have vi : vp_in (nI i0) 7 := vp_in_nI (by omega) (by omega)
      refine zs k_Mo_word rfl ?_; conv => whnf
      repeat' (first
        | refine br_t hge ?_
        | exact zKe hk (by rw [hi]) (by rw [hL, nI_add]; conv => lhs; rw [hid, cM_at rfl])
        | (refine zs k_Mo_word rfl ?_; conv => whnf)
        | refine ⟨Nat.zero_lt_one, rfl, ?_⟩
        | refine ⟨rfl, ?_⟩
        | refine ⟨⟨Nat.zero_lt_one, rfl⟩, Nat.le_of_ble_eq_true rfl, ?_⟩
        | refine ⟨Nat.le_of_ble_eq_true rfl, Nat.le_of_ble_eq_true rfl, ?_⟩
        | refine ⟨(by first | exact Nat.zero_lt_one | assumption | omega), (by first | assumption | exact vp_in_nI (by omega) (by omega) | (unfold vp_in; decide)), ?_⟩
        | refine ⟨(by first | exact Nat.zero_lt_one | assumption | omega), rfl, ?_⟩
        | refine ⟨⟨(by first | exact Nat.zero_lt_one | assumption | omega), rfl⟩, Nat.le_of_ble_eq_true rfl, ?_⟩
        | refine ⟨(by first | exact Nat.zero_lt_one | assumption | omega), ?_⟩
        | refine ⟨Or.inl rfl, ?_⟩
        | refine ⟨Or.inr (Or.inl rfl), ?_⟩
        | refine ⟨Or.inr (Or.inr rfl), ?_⟩
        | refine ⟨Or.inr ⟨rfl, (by first | exact Or.inl rfl | exact Or.inr rfl | assumption)⟩, ?_⟩
        | refine ⟨fun h => absurd h (by decide), fun _ => ?_⟩
        | refine ⟨fun _ => ?_, fun h => absurd h (by decide)⟩
        | refine ⟨fun h => ?_, fun h => ?_⟩
        | fail)
    | inr L =>
      obtain ⟨t, ht, hmb, hlt, hL10⟩ := mbl_no (b := b) hm0 hm7 hw
      rw [hmb] at he1 he2
      dsimp only at he1 he2
      subst he1 he2
      have hk := h0 t L hw
      have t2 := (zWf_tab t (by omega)).2.1
      have ci : (nI t).toNatClampNeg = t := nI_clamp (by omega)
      have e82 : μ 82 0 (nI t).toNatClampNeg = nI (zWf.getD t []).length := by rw [ci, c82 t (by omega)]; exact t2
      have hl6 := (zWf_len t (by omega)).2
      have hge : ¬ μ 82 0 (nI t).toNatClampNeg ≤ nI L := by rw [e82]; exact nI_ge hlt (by omega)
      have vi : vp_in (nI t) 7 := vp_in_nI (by omega) (by omega)
      refine zs k_Mo_word rfl ?_; conv => whnf
      repeat' (first
        | refine br_f hge ?_
        | refine zKe hk rfl ?_
        | (refine zs k_Mo_word rfl ?_; conv => whnf)
        | refine ⟨Nat.zero_lt_one, rfl, ?_⟩
        | refine ⟨rfl, ?_⟩
        | refine ⟨⟨Nat.zero_lt_one, rfl⟩, Nat.le_of_ble_eq_true rfl, ?_⟩
        | refine ⟨Nat.le_of_ble_eq_true rfl, Nat.le_of_ble_eq_true rfl, ?_⟩
        | refine ⟨(by first | exact Nat.zero_lt_one | assumption | omega), (by first | assumption | exact vp_in_nI (by omega) (by omega) | (unfold vp_in; decide)), ?_⟩
        | refine ⟨(by first | exact Nat.zero_lt_one | assumption | omega), rfl, ?_⟩
        | refine ⟨⟨(by first | exact Nat.zero_lt_one | assumption | omega), rfl⟩, Nat.le_of_ble_eq_true rfl, ?_⟩
        | refine ⟨(by first | exact Nat.zero_lt_one | assumption | omega), ?_⟩
        | refine ⟨Or.inl rfl, ?_⟩
        | refine ⟨Or.inr (Or.inl rfl), ?_⟩
        | refine ⟨Or.inr (Or.inr rfl), ?_⟩
        | refine ⟨Or.inr ⟨rfl, (by first | exact Or.inl rfl | exact Or.inr rfl | assumption)⟩, ?_⟩
        | refine ⟨fun h => absurd h (by decide), fun _ => ?_⟩
        | refine ⟨fun _ => ?_, fun h => absurd h (by decide)⟩
        | refine ⟨fun h => ?_, fun h => ?_⟩
        | fail)
      show zu (zu μ 48 0 28 (nI at_ + nI L)) 48 0 29 (zu μ 48 0 28 (nI at_ + nI L) 48 0 28) = _
      rw [zu_eq, nI_add]
      rfl
  have L2 : ∀ (k w : Nat) (bs lg v : Int32) (l6 : Option zV), w + k = m → v = nI w → (lg, bs) = ((mbl (fun j => pfx b (zWf.getD j []) 0) w).1, nI (mbl (fun j => pfx b (zWf.getD j []) 0) w).2) → zG S d m_Mo_word K 13 [some (zR 48 0), some (zI (nI m)), some (zI (nI at_)), some (zI bs), some (zI lg), some (zI v), l6] [] μ := by
    intro k
    induction k with
    | zero =>
      intro w bs lg v l6 hw hv he
      subst hv
      obtain rfl : w = m := by omega
      have hle : nI w ≤ nI w := nI_le (Nat.le_refl _) (by omega)
      refine zs k_Mo_word rfl ?_; conv => whnf
      repeat' (first
        | refine br_t hle ?_
        | exact E1 _ _ _ he
        | (refine zs k_Mo_word rfl ?_; conv => whnf)
        | refine ⟨Nat.zero_lt_one, rfl, ?_⟩
        | refine ⟨rfl, ?_⟩
        | refine ⟨⟨Nat.zero_lt_one, rfl⟩, Nat.le_of_ble_eq_true rfl, ?_⟩
        | refine ⟨Nat.le_of_ble_eq_true rfl, Nat.le_of_ble_eq_true rfl, ?_⟩
        | refine ⟨(by first | exact Nat.zero_lt_one | assumption | omega), (by first | assumption | exact vp_in_nI (by omega) (by omega) | (unfold vp_in; decide)), ?_⟩
        | refine ⟨(by first | exact Nat.zero_lt_one | assumption | omega), rfl, ?_⟩
        | refine ⟨⟨(by first | exact Nat.zero_lt_one | assumption | omega), rfl⟩, Nat.le_of_ble_eq_true rfl, ?_⟩
        | refine ⟨(by first | exact Nat.zero_lt_one | assumption | omega), ?_⟩
        | refine ⟨Or.inl rfl, ?_⟩
        | refine ⟨Or.inr (Or.inl rfl), ?_⟩
        | refine ⟨Or.inr (Or.inr rfl), ?_⟩
        | refine ⟨Or.inr ⟨rfl, (by first | exact Or.inl rfl | exact Or.inr rfl | assumption)⟩, ?_⟩
        | refine ⟨fun h => absurd h (by decide), fun _ => ?_⟩
        | refine ⟨fun _ => ?_, fun h => absurd h (by decide)⟩
        | refine ⟨fun h => ?_, fun h => ?_⟩
        | fail)
    | succ k ih =>
      intro w bs lg v l6 hw hv he
      subst hv
      have hle : ¬ nI m ≤ nI w := nI_ge (by omega) (by omega)
      have cw : (nI w).toNatClampNeg = w := nI_clamp (by omega)
      have vw : vp_in (nI w) 7 := vp_in_nI (by omega) (by omega)
      obtain ⟨t1, t2, t3, t4⟩ := zWf_tab w (by omega)
      have hl6 := (zWf_len w (by omega)).2
      have e82 : μ 82 0 (nI w).toNatClampNeg = nI (zWf.getD w []).length := by rw [cw, c82 w (by omega)]; exact t2
      have e81 : μ 81 0 (nI w).toNatClampNeg = nI (gBeg.getD w 0).toNatClampNeg := by rw [cw, c81 w (by omega)]; exact t1
      have hs : mbl (fun j => pfx b (zWf.getD j []) 0) (w + 1) = if (mbl (fun j => pfx b (zWf.getD j []) 0) w).1 < nI (pfx b (zWf.getD w []) 0) then (nI (pfx b (zWf.getD w []) 0), w) else mbl (fun j => pfx b (zWf.getD j []) 0) w := rfl
      have he1 := congrArg Prod.fst he
      have he2 := congrArg Prod.snd he
      dsimp only at he1 he2
      have out : ∀ u : Int32, u = nI (pfx b (zWf.getD w []) 0) → zG S d m_Mo_word K 82 [some (zR 48 0), some (zI (nI m)), some (zI (nI at_)), some (zI bs), some (zI lg), some (zI (nI w)), some (zI u)] [] μ := fun u hu => by
        subst hu
        by_cases q : nI (pfx b (zWf.getD w []) 0) ≤ lg
        · have q' : ¬ (mbl (fun j => pfx b (zWf.getD j []) 0) w).1 < nI (pfx b (zWf.getD w []) 0) := by rw [← he1]; grind
          rw [if_neg q'] at hs
          repeat' (first
            | refine br_t q ?_
            | refine ih (w + 1) _ _ _ _ (by omega) (by exact nI_1 w) (by rw [hs]; exact he)
            | (refine zs k_Mo_word rfl ?_; conv => whnf)
            | refine ⟨Nat.zero_lt_one, rfl, ?_⟩
            | refine ⟨rfl, ?_⟩
            | refine ⟨⟨Nat.zero_lt_one, rfl⟩, Nat.le_of_ble_eq_true rfl, ?_⟩
            | refine ⟨Nat.le_of_ble_eq_true rfl, Nat.le_of_ble_eq_true rfl, ?_⟩
            | refine ⟨(by first | exact Nat.zero_lt_one | assumption | omega), (by first | assumption | exact vp_in_nI (by omega) (by omega) | (unfold vp_in; decide)), ?_⟩
            | refine ⟨(by first | exact Nat.zero_lt_one | assumption | omega), rfl, ?_⟩
            | refine ⟨⟨(by first | exact Nat.zero_lt_one | assumption | omega), rfl⟩, Nat.le_of_ble_eq_true rfl, ?_⟩
            | refine ⟨(by first | exact Nat.zero_lt_one | assumption | omega), ?_⟩
            | refine ⟨Or.inl rfl, ?_⟩
            | refine ⟨Or.inr (Or.inl rfl), ?_⟩
            | refine ⟨Or.inr (Or.inr rfl), ?_⟩
            | refine ⟨Or.inr ⟨rfl, (by first | exact Or.inl rfl | exact Or.inr rfl | assumption)⟩, ?_⟩
            | refine ⟨fun h => absurd h (by decide), fun _ => ?_⟩
            | refine ⟨fun _ => ?_, fun h => absurd h (by decide)⟩
            | refine ⟨fun h => ?_, fun h => ?_⟩
            | fail)
        · have q' : (mbl (fun j => pfx b (zWf.getD j []) 0) w).1 < nI (pfx b (zWf.getD w []) 0) := by rw [← he1]; grind
          rw [if_pos q'] at hs
          repeat' (first
            | refine br_f q ?_
            | refine ih (w + 1) _ _ _ _ (by omega) (by exact nI_1 w) (by rw [hs])
            | (refine zs k_Mo_word rfl ?_; conv => whnf)
            | refine ⟨Nat.zero_lt_one, rfl, ?_⟩
            | refine ⟨rfl, ?_⟩
            | refine ⟨⟨Nat.zero_lt_one, rfl⟩, Nat.le_of_ble_eq_true rfl, ?_⟩
            | refine ⟨Nat.le_of_ble_eq_true rfl, Nat.le_of_ble_eq_true rfl, ?_⟩
            | refine ⟨(by first | exact Nat.zero_lt_one | assumption | omega), (by first | assumption | exact vp_in_nI (by omega) (by omega) | (unfold vp_in; decide)), ?_⟩
            | refine ⟨(by first | exact Nat.zero_lt_one | assumption | omega), rfl, ?_⟩
            | refine ⟨⟨(by first | exact Nat.zero_lt_one | assumption | omega), rfl⟩, Nat.le_of_ble_eq_true rfl, ?_⟩
            | refine ⟨(by first | exact Nat.zero_lt_one | assumption | omega), ?_⟩
            | refine ⟨Or.inl rfl, ?_⟩
            | refine ⟨Or.inr (Or.inl rfl), ?_⟩
            | refine ⟨Or.inr (Or.inr rfl), ?_⟩
            | refine ⟨Or.inr ⟨rfl, (by first | exact Or.inl rfl | exact Or.inr rfl | assumption)⟩, ?_⟩
            | refine ⟨fun h => absurd h (by decide), fun _ => ?_⟩
            | refine ⟨fun _ => ?_, fun h => absurd h (by decide)⟩
            | refine ⟨fun h => ?_, fun h => ?_⟩
            | fail)
      have L1 : ∀ (k2 j : Nat) (u : Int32), j + k2 = (zWf.getD w []).length → u = nI j → pfx b (zWf.getD w []) 0 = j + pfx b ((zWf.getD w []).drop j) j → zG S d m_Mo_word K 22 [some (zR 48 0), some (zI (nI m)), some (zI (nI at_)), some (zI bs), some (zI lg), some (zI (nI w)), some (zI u)] [] μ := by
        intro k2
        induction k2 with
        | zero =>
          intro j u hj hu hp
          subst hu
          have hjl : j = (zWf.getD w []).length := by omega
          have hge : μ 82 0 (nI w).toNatClampNeg ≤ nI j := by rw [e82, ← hjl]; exact nI_le (Nat.le_refl _) (by omega)
          rw [hjl, List.drop_length] at hp
          refine zs k_Mo_word rfl ?_; conv => whnf
          repeat' (first
            | refine br_t hge ?_
            | refine out _ (by rw [hp, ← hjl]; rfl)
            | (refine zs k_Mo_word rfl ?_; conv => whnf)
            | refine ⟨Nat.zero_lt_one, rfl, ?_⟩
            | refine ⟨rfl, ?_⟩
            | refine ⟨⟨Nat.zero_lt_one, rfl⟩, Nat.le_of_ble_eq_true rfl, ?_⟩
            | refine ⟨Nat.le_of_ble_eq_true rfl, Nat.le_of_ble_eq_true rfl, ?_⟩
            | refine ⟨(by first | exact Nat.zero_lt_one | assumption | omega), (by first | assumption | exact vp_in_nI (by omega) (by omega) | (unfold vp_in; decide)), ?_⟩
            | refine ⟨(by first | exact Nat.zero_lt_one | assumption | omega), rfl, ?_⟩
            | refine ⟨⟨(by first | exact Nat.zero_lt_one | assumption | omega), rfl⟩, Nat.le_of_ble_eq_true rfl, ?_⟩
            | refine ⟨(by first | exact Nat.zero_lt_one | assumption | omega), ?_⟩
            | refine ⟨Or.inl rfl, ?_⟩
            | refine ⟨Or.inr (Or.inl rfl), ?_⟩
            | refine ⟨Or.inr (Or.inr rfl), ?_⟩
            | refine ⟨Or.inr ⟨rfl, (by first | exact Or.inl rfl | exact Or.inr rfl | assumption)⟩, ?_⟩
            | refine ⟨fun h => absurd h (by decide), fun _ => ?_⟩
            | refine ⟨fun _ => ?_, fun h => absurd h (by decide)⟩
            | refine ⟨fun h => ?_, fun h => ?_⟩
            | fail)
        | succ k2 ih2 =>
          intro j u hj hu hp
          subst hu
          have hge : ¬ μ 82 0 (nI w).toNatClampNeg ≤ nI j := by rw [e82]; exact nI_ge (by omega) (by omega)
          have hjl : j < (zWf.getD w []).length := by omega
          have hc := t4 j (by omega) hjl
          have hdr : (zWf.getD w []).drop j = gLet.getD ((gBeg.getD w 0).toNatClampNeg + j) 0 :: (zWf.getD w []).drop (j + 1) := by
            rw [List.drop_eq_getElem_cons hjl]
            congr 1
            exact Option.some.inj ((List.getElem?_eq_getElem hjl).symm.trans hc)
          rw [hdr, pfx] at hp
          have hbj : b j = pB a n (at_ + j) := by rw [← hb]
          have ma : nI at_ + nI j = nI (at_ + j) := nI_add _ _
          rcases Nat.lt_or_ge (at_ + j) n with q | q
          case inr =>
            have q' : μ 48 0 14 ≤ nI at_ + nI j := by rw [h14, ma]; exact nI_le q (by omega)
            have hne : ¬ b j = gLet.getD ((gBeg.getD w 0).toNatClampNeg + j) 0 := by
              rw [hbj]
              unfold pB
              rw [if_neg (by omega)]
              exact fun z => (by decide +kernel : ∀ k, k < 40 → ¬ (-1 : Int32) = gLet.getD k 0) _ (by omega) z
            rw [if_neg hne] at hp
            refine zs k_Mo_word rfl ?_; conv => whnf
            repeat' (first
              | refine br_f hge ?_
              | refine br_t q' ?_
              | refine out _ (by rw [hp]; rfl)
              | (refine zs k_Mo_word rfl ?_; conv => whnf)
              | refine ⟨Nat.zero_lt_one, rfl, ?_⟩
              | refine ⟨rfl, ?_⟩
              | refine ⟨⟨Nat.zero_lt_one, rfl⟩, Nat.le_of_ble_eq_true rfl, ?_⟩
              | refine ⟨Nat.le_of_ble_eq_true rfl, Nat.le_of_ble_eq_true rfl, ?_⟩
              | refine ⟨(by first | exact Nat.zero_lt_one | assumption | omega), (by first | assumption | exact vp_in_nI (by omega) (by omega) | (unfold vp_in; decide)), ?_⟩
              | refine ⟨(by first | exact Nat.zero_lt_one | assumption | omega), rfl, ?_⟩
              | refine ⟨⟨(by first | exact Nat.zero_lt_one | assumption | omega), rfl⟩, Nat.le_of_ble_eq_true rfl, ?_⟩
              | refine ⟨(by first | exact Nat.zero_lt_one | assumption | omega), ?_⟩
              | refine ⟨Or.inl rfl, ?_⟩
              | refine ⟨Or.inr (Or.inl rfl), ?_⟩
              | refine ⟨Or.inr (Or.inr rfl), ?_⟩
              | refine ⟨Or.inr ⟨rfl, (by first | exact Or.inl rfl | exact Or.inr rfl | assumption)⟩, ?_⟩
              | refine ⟨fun h => absurd h (by decide), fun _ => ?_⟩
              | refine ⟨fun _ => ?_, fun h => absurd h (by decide)⟩
              | refine ⟨fun h => ?_, fun h => ?_⟩
              | fail)
          have q' : ¬ μ 48 0 14 ≤ nI at_ + nI j := by rw [h14, ma]; exact nI_ge q (by omega)
          have vt : vp_in (nI at_ + nI j) 200 := by rw [ma]; exact vp_in_nI (by omega) (by omega)
          have ctj : (nI at_ + nI j).toNatClampNeg = at_ + j := by rw [ma]; exact nI_clamp (by omega)
          have hbe : b j = a (at_ + j) := by rw [hbj]; unfold pB; rw [if_pos q]
          have e63 : μ 63 0 (nI at_ + nI j).toNatClampNeg &&& 255 = b j := by rw [ctj, h63 _ q, hbe]
          have m81 : μ 81 0 (nI w).toNatClampNeg + nI j = nI ((gBeg.getD w 0).toNatClampNeg + j) := by rw [e81, nI_add]
          have v80 : vp_in (μ 81 0 (nI w).toNatClampNeg + nI j) 33 := by rw [m81]; exact vp_in_nI (by omega) (by omega)
          have e80 : μ 80 0 (μ 81 0 (nI w).toNatClampNeg + nI j).toNatClampNeg = gLet.getD ((gBeg.getD w 0).toNatClampNeg + j) 0 := by rw [m81, nI_clamp (by omega)]; exact c80 _ (by omega)
          by_cases e : b j = gLet.getD ((gBeg.getD w 0).toNatClampNeg + j) 0
          · rw [if_pos e] at hp
            have e' : μ 63 0 (nI at_ + nI j).toNatClampNeg &&& 255 = μ 80 0 (μ 81 0 (nI w).toNatClampNeg + nI j).toNatClampNeg := by rw [e63, e80]; exact e
            refine zs k_Mo_word rfl ?_; conv => whnf
            repeat' (first
              | refine br_f hge ?_
              | refine br_f q' ?_
              | refine bn_f e' ?_
              | refine ih2 (j + 1) _ (by omega) (by exact nI_1 j) (by rw [hp]; omega)
              | (refine zs k_Mo_word rfl ?_; conv => whnf)
              | refine ⟨Nat.zero_lt_one, rfl, ?_⟩
              | refine ⟨rfl, ?_⟩
              | refine ⟨⟨Nat.zero_lt_one, rfl⟩, Nat.le_of_ble_eq_true rfl, ?_⟩
              | refine ⟨Nat.le_of_ble_eq_true rfl, Nat.le_of_ble_eq_true rfl, ?_⟩
              | refine ⟨(by first | exact Nat.zero_lt_one | assumption | omega), (by first | assumption | exact vp_in_nI (by omega) (by omega) | (unfold vp_in; decide)), ?_⟩
              | refine ⟨(by first | exact Nat.zero_lt_one | assumption | omega), rfl, ?_⟩
              | refine ⟨⟨(by first | exact Nat.zero_lt_one | assumption | omega), rfl⟩, Nat.le_of_ble_eq_true rfl, ?_⟩
              | refine ⟨(by first | exact Nat.zero_lt_one | assumption | omega), ?_⟩
              | refine ⟨Or.inl rfl, ?_⟩
              | refine ⟨Or.inr (Or.inl rfl), ?_⟩
              | refine ⟨Or.inr (Or.inr rfl), ?_⟩
              | refine ⟨Or.inr ⟨rfl, (by first | exact Or.inl rfl | exact Or.inr rfl | assumption)⟩, ?_⟩
              | refine ⟨fun h => absurd h (by decide), fun _ => ?_⟩
              | refine ⟨fun _ => ?_, fun h => absurd h (by decide)⟩
              | refine ⟨fun h => ?_, fun h => ?_⟩
              | fail)
          · rw [if_neg e] at hp
            have e' : ¬ μ 63 0 (nI at_ + nI j).toNatClampNeg &&& 255 = μ 80 0 (μ 81 0 (nI w).toNatClampNeg + nI j).toNatClampNeg := by rw [e63, e80]; exact e
            refine zs k_Mo_word rfl ?_; conv => whnf
            repeat' (first
              | refine br_f hge ?_
              | refine br_f q' ?_
              | refine bn_t e' ?_
              | refine out _ (by rw [hp]; rfl)
              | (refine zs k_Mo_word rfl ?_; conv => whnf)
              | refine ⟨Nat.zero_lt_one, rfl, ?_⟩
              | refine ⟨rfl, ?_⟩
              | refine ⟨⟨Nat.zero_lt_one, rfl⟩, Nat.le_of_ble_eq_true rfl, ?_⟩
              | refine ⟨Nat.le_of_ble_eq_true rfl, Nat.le_of_ble_eq_true rfl, ?_⟩
              | refine ⟨(by first | exact Nat.zero_lt_one | assumption | omega), (by first | assumption | exact vp_in_nI (by omega) (by omega) | (unfold vp_in; decide)), ?_⟩
              | refine ⟨(by first | exact Nat.zero_lt_one | assumption | omega), rfl, ?_⟩
              | refine ⟨⟨(by first | exact Nat.zero_lt_one | assumption | omega), rfl⟩, Nat.le_of_ble_eq_true rfl, ?_⟩
              | refine ⟨(by first | exact Nat.zero_lt_one | assumption | omega), ?_⟩
              | refine ⟨Or.inl rfl, ?_⟩
              | refine ⟨Or.inr (Or.inl rfl), ?_⟩
              | refine ⟨Or.inr (Or.inr rfl), ?_⟩
              | refine ⟨Or.inr ⟨rfl, (by first | exact Or.inl rfl | exact Or.inr rfl | assumption)⟩, ?_⟩
              | refine ⟨fun h => absurd h (by decide), fun _ => ?_⟩
              | refine ⟨fun _ => ?_, fun h => absurd h (by decide)⟩
              | refine ⟨fun h => ?_, fun h => ?_⟩
              | fail)
      refine zs k_Mo_word rfl ?_; conv => whnf
      repeat' (first
        | refine br_f hle ?_
        | refine L1 (zWf.getD w []).length 0 _ (by omega) rfl (by rw [Nat.zero_add]; rfl)
        | (refine zs k_Mo_word rfl ?_; conv => whnf)
        | refine ⟨Nat.zero_lt_one, rfl, ?_⟩
        | refine ⟨rfl, ?_⟩
        | refine ⟨⟨Nat.zero_lt_one, rfl⟩, Nat.le_of_ble_eq_true rfl, ?_⟩
        | refine ⟨Nat.le_of_ble_eq_true rfl, Nat.le_of_ble_eq_true rfl, ?_⟩
        | refine ⟨(by first | exact Nat.zero_lt_one | assumption | omega), (by first | assumption | exact vp_in_nI (by omega) (by omega) | (unfold vp_in; decide)), ?_⟩
        | refine ⟨(by first | exact Nat.zero_lt_one | assumption | omega), rfl, ?_⟩
        | refine ⟨⟨(by first | exact Nat.zero_lt_one | assumption | omega), rfl⟩, Nat.le_of_ble_eq_true rfl, ?_⟩
        | refine ⟨(by first | exact Nat.zero_lt_one | assumption | omega), ?_⟩
        | refine ⟨Or.inl rfl, ?_⟩
        | refine ⟨Or.inr (Or.inl rfl), ?_⟩
        | refine ⟨Or.inr (Or.inr rfl), ?_⟩
        | refine ⟨Or.inr ⟨rfl, (by first | exact Or.inl rfl | exact Or.inr rfl | assumption)⟩, ?_⟩
        | refine ⟨fun h => absurd h (by decide), fun _ => ?_⟩
        | refine ⟨fun _ => ?_, fun h => absurd h (by decide)⟩
        | refine ⟨fun h => ?_, fun h => ?_⟩
        | fail)
  have S1 : ∀ v : Int32, v = nI at_ → zG S d m_Mo_word K 4 [some (zR 48 0), some (zI (nI m)), none, none, none, none, none] [zI v] μ := fun v hv => by
    subst hv
    repeat' (first
      | refine L2 m 0 _ _ _ _ (by omega) rfl rfl
      | (refine zs k_Mo_word rfl ?_; conv => whnf)
      | refine ⟨Nat.zero_lt_one, rfl, ?_⟩
      | refine ⟨rfl, ?_⟩
      | refine ⟨⟨Nat.zero_lt_one, rfl⟩, Nat.le_of_ble_eq_true rfl, ?_⟩
      | refine ⟨Nat.le_of_ble_eq_true rfl, Nat.le_of_ble_eq_true rfl, ?_⟩
      | refine ⟨(by first | exact Nat.zero_lt_one | assumption | omega), (by first | assumption | exact vp_in_nI (by omega) (by omega) | (unfold vp_in; decide)), ?_⟩
      | refine ⟨(by first | exact Nat.zero_lt_one | assumption | omega), rfl, ?_⟩
      | refine ⟨⟨(by first | exact Nat.zero_lt_one | assumption | omega), rfl⟩, Nat.le_of_ble_eq_true rfl, ?_⟩
      | refine ⟨(by first | exact Nat.zero_lt_one | assumption | omega), ?_⟩
      | refine ⟨Or.inl rfl, ?_⟩
      | refine ⟨Or.inr (Or.inl rfl), ?_⟩
      | refine ⟨Or.inr (Or.inr rfl), ?_⟩
      | refine ⟨Or.inr ⟨rfl, (by first | exact Or.inl rfl | exact Or.inr rfl | assumption)⟩, ?_⟩
      | refine ⟨fun h => absurd h (by decide), fun _ => ?_⟩
      | refine ⟨fun _ => ?_, fun h => absurd h (by decide)⟩
      | refine ⟨fun h => ?_, fun h => ?_⟩
      | fail)
  repeat' (first
    | exact S1 _ h28
    | (refine zs k_Mo_word rfl ?_; conv => whnf)
    | refine ⟨Nat.zero_lt_one, rfl, ?_⟩
    | refine ⟨rfl, ?_⟩
    | refine ⟨⟨Nat.zero_lt_one, rfl⟩, Nat.le_of_ble_eq_true rfl, ?_⟩
    | refine ⟨Nat.le_of_ble_eq_true rfl, Nat.le_of_ble_eq_true rfl, ?_⟩
    | refine ⟨(by first | exact Nat.zero_lt_one | assumption | omega), (by first | assumption | exact vp_in_nI (by omega) (by omega) | (unfold vp_in; decide)), ?_⟩
    | refine ⟨(by first | exact Nat.zero_lt_one | assumption | omega), rfl, ?_⟩
    | refine ⟨⟨(by first | exact Nat.zero_lt_one | assumption | omega), rfl⟩, Nat.le_of_ble_eq_true rfl, ?_⟩
    | refine ⟨(by first | exact Nat.zero_lt_one | assumption | omega), ?_⟩
    | refine ⟨Or.inl rfl, ?_⟩
    | refine ⟨Or.inr (Or.inl rfl), ?_⟩
    | refine ⟨Or.inr (Or.inr rfl), ?_⟩
    | refine ⟨Or.inr ⟨rfl, (by first | exact Or.inl rfl | exact Or.inr rfl | assumption)⟩, ?_⟩
    | refine ⟨fun h => absurd h (by decide), fun _ => ?_⟩
    | refine ⟨fun _ => ?_, fun h => absurd h (by decide)⟩
    | refine ⟨fun h => ?_, fun h => ?_⟩
    | fail)
/-! MODEL: a test is read -/
theorem wL_s {b : Nat → Int32} {c : Int32} : pfx b [c] 0 = if b 0 = c then 1 else 0 := rfl
theorem w6_one {a : Nat → Int32} {n at_ : Nat} {v : Int32} {q' : zQ} (hat : at_ ≤ 1000) (h : qW a n (at_, -1) 6 = (v, q')) : eqQ q' (mOne a n [97, 98] at_).2 ∧ (q'.2 = -1 → v = nI (mOne a n [97, 98] at_).1) := by
  rw [qW_eq (by omega)] at h
  have hw : zWd.getD 6 [] = [[97], [98]] := rfl
  rw [hw] at h
  unfold mOne
  simp only [wL, wL_s, Nat.add_zero, List.length_singleton] at h
  by_cases l0 : pB a n at_ = 97
  · simp only [l0, if_true] at h
    rw [if_pos (show pB a n at_ = ([97, 98] : List Int32).getD 0 0 from l0)]
    obtain ⟨rfl, rfl⟩ := Prod.mk.inj h
    exact ⟨eqQ_rf, fun _ => rfl⟩
  · rw [if_neg (show ¬ pB a n at_ = ([97, 98] : List Int32).getD 0 0 from l0)]
    by_cases l1 : pB a n at_ = 98
    · simp [l1] at h
      rw [if_pos (show pB a n at_ = ([97, 98] : List Int32).getD 1 0 from l1)]
      obtain ⟨rfl, rfl⟩ := h
      exact ⟨eqQ_rf, fun _ => rfl⟩
    · simp [l0, l1] at h
      rw [if_neg (show ¬ pB a n at_ = ([97, 98] : List Int32).getD 1 0 from l1), if_neg (fun q => absurd q.1 (by decide))]
      obtain ⟨rfl, rfl⟩ := h
      exact ⟨eqQ_rf, fun e => absurd e (nI_nem1 (by omega))⟩
theorem w9_one {a : Nat → Int32} {n at_ : Nat} {v : Int32} {q' : zQ} (hat : at_ ≤ 1000) (h : qW a n (at_, -1) 9 = (v, q')) : eqQ q' (mOne a n [61, 60, 62] at_).2 ∧ (q'.2 = -1 → v = nI (mOne a n [61, 60, 62] at_).1) := by
  rw [qW_eq (by omega)] at h
  have hw : zWd.getD 9 [] = [[61], [60], [62]] := rfl
  rw [hw] at h
  unfold mOne
  simp only [wL, wL_s, Nat.add_zero, List.length_singleton] at h
  by_cases l0 : pB a n at_ = 61
  · simp only [l0, if_true] at h
    rw [if_pos (show pB a n at_ = ([61, 60, 62] : List Int32).getD 0 0 from l0)]
    obtain ⟨rfl, rfl⟩ := Prod.mk.inj h
    exact ⟨eqQ_rf, fun _ => rfl⟩
  · rw [if_neg (show ¬ pB a n at_ = ([61, 60, 62] : List Int32).getD 0 0 from l0)]
    by_cases l1 : pB a n at_ = 60
    · simp [l1] at h
      rw [if_pos (show pB a n at_ = ([61, 60, 62] : List Int32).getD 1 0 from l1)]
      obtain ⟨rfl, rfl⟩ := h
      exact ⟨eqQ_rf, fun _ => rfl⟩
    · rw [if_neg (show ¬ pB a n at_ = ([61, 60, 62] : List Int32).getD 1 0 from l1)]
      by_cases l2 : pB a n at_ = 62
      · simp [l2] at h
        rw [if_pos ⟨by decide, l2⟩]
        obtain ⟨rfl, rfl⟩ := h
        exact ⟨eqQ_rf, fun _ => rfl⟩
      · simp [l0, l1, l2] at h
        rw [if_neg (fun q => l2 q.2)]
        obtain ⟨rfl, rfl⟩ := h
        exact ⟨eqQ_rf, fun e => absurd e (nI_nem1 (by omega))⟩
theorem w5_eq {a : Nat → Int32} {n at_ : Nat} : qW a n (at_, -1) 5 = if pB a n at_ = 97 then (0, at_ + 1, -1) else if pB a n at_ = 98 then (1, at_ + 1, -1) else if pfx (fun j => pB a n (at_ + j)) [110, 111, 116] 0 = 3 then (2, at_ + 3, -1) else (-1, at_, nI (at_ + pfx (fun j => pB a n (at_ + j)) [110, 111, 116] 0)) := by
  rw [qW_eq (by omega)]
  have hw : zWd.getD 5 [] = [[97], [98], [110, 111, 116]] := rfl
  rw [hw, wL, wL_s, wL, wL_s, wL, wL]
  show (match (if (if pB a n at_ = 97 then 1 else 0) = 1 then Sum.inl (0, 1) else if (if pB a n at_ = 98 then 1 else 0) = 1 then Sum.inl (0 + 1, 1) else if pfx (fun j => pB a n (at_ + j)) [110, 111, 116] 0 = 3 then Sum.inl (0 + 1 + 1, 3) else _ : (Nat × Nat) ⊕ Nat) with
    | .inl q => (nI q.1, at_ + q.2, (-1 : Int32))
    | .inr lg => (-1, at_, nI (at_ + lg))) = _
  by_cases l0 : pB a n at_ = 97
  · rw [if_pos l0, if_pos rfl, if_pos l0]
    rfl
  · rw [if_neg l0, if_neg (by decide), if_neg l0]
    by_cases l1 : pB a n at_ = 98
    · rw [if_pos l1, if_pos rfl, if_pos l1]
      rfl
    · rw [if_neg l1, if_neg (by decide), if_neg l1]
      by_cases l2 : pfx (fun j => pB a n (at_ + j)) [110, 111, 116] 0 = 3
      · rw [if_pos l2, if_pos l2]
        rfl
      · rw [if_neg l2, if_neg l2]
        dsimp only
        congr 3
        simp
        omega
/-- one test's cells alone have changed -/
def mF (J : Nat) (μ μ' : zMu) : Prop := (∀ f, f ∉ [48, 73, 74, 75, 76, 77] → μ' f = μ f) ∧ (∀ k, k ∉ [28, 29] → μ' 48 0 k = μ 48 0 k) ∧ ∀ f, f ∈ [73, 74, 75, 76, 77] → ∀ k, k ≠ J → μ' f 0 k = μ f 0 k
theorem mF_rf {J : Nat} {μ : zMu} : mF J μ μ := ⟨fun _ _ => rfl, fun _ _ => rfl, fun _ _ _ _ => rfl⟩
theorem mF_zu {J f : Nat} {μ μ' : zMu} {x : Int32} (h : mF J μ μ') (hf : f ∈ [73, 74, 75, 76, 77]) : mF J μ (zu μ' f 0 J x) := by
  simp only [List.mem_cons, List.not_mem_nil, or_false] at hf
  refine ⟨fun g hg => ?_, fun k hk => ?_, fun g hg k hk => ?_⟩
  · rw [← h.1 g hg]
    simp only [List.mem_cons, List.not_mem_nil, or_false, not_or] at hg
    funext i k
    exact zu_ne (by omega)
  · rw [zu_ne (by omega)]
    exact h.2.1 k hk
  · rw [zu_ne (by omega)]
    exact h.2.2 g hg k hk
theorem mF_cM {J : Nat} {μ μ' : zMu} {q : zQ} (h : mF J μ μ') : mF J μ (cM μ' q) := by
  refine ⟨fun g hg => ?_, fun k hk => ?_, fun g hg k hk => ?_⟩
  · rw [← h.1 g hg]
    simp only [List.mem_cons, List.not_mem_nil, or_false, not_or] at hg
    funext i k
    exact cM_o (by omega)
  · simp only [List.mem_cons, List.not_mem_nil, or_false, not_or] at hk
    rw [cM_o (by omega)]
    exact h.2.1 k (by simp only [List.mem_cons, List.not_mem_nil, or_false, not_or]; exact hk)
  · rw [← h.2.2 g hg k hk]
    simp only [List.mem_cons, List.not_mem_nil, or_false] at hg
    exact cM_o (by omega)
theorem mF_E {J n : Nat} {μ μ' : zMu} {a : Nat → Int32} (h : mF J μ μ') (E : mE μ a n) : mE μ' a n := by
  unfold mE gCs at *
  rw [h.2.1 14 (by decide), h.1 63 (by decide), h.1 80 (by decide), h.1 81 (by decide), h.1 82 (by decide)]
  exact E
set_option maxHeartbeats 4000000 in
theorem c_Mo_readTest {d n J : Nat} {μ : zMu} {a : Nat → Int32} {q q' : zQ} {t : rT} {x : Int32} {K : Option zV → zMu → Prop} (E : mE μ a n) (h28 : μ 48 0 28 = nI q.1) (h29 : μ 48 0 29 = -1) (hq2 : q.2 = -1) (hqn : q.1 ≤ n) (hx : x = nI J) (hJ : J < 64) (hT : qTR a n q t q')
    (hK : ∀ μ', mF J μ μ' → μ' 48 0 29 = q'.2 → (q'.2 = -1 → μ' 48 0 28 = nI q'.1 ∧ μ' 73 0 J = t.1 ∧ μ' 74 0 J = t.2.1 ∧ μ' 75 0 J = t.2.2.1 ∧ μ' 76 0 J = t.2.2.2.1 ∧ μ' 77 0 J = t.2.2.2.2) → (¬ q'.2 = -1 → 0 ≤ q'.2) → K none μ') : Ct (d + 2) m_Mo_readTest [zR 48 0, zI x] μ K := by
  subst hx
  refine zmeet rfl (Nat.le_of_ble_eq_true rfl) (fun S => ?_)
  obtain ⟨w, q3, v4, q4, q5, q6, T0, tb, e4, e5, e6, e7⟩ := hT
  have h200 := E.2.1
  have cJ : (nI J).toNatClampNeg = J := nI_clamp (by omega)
  have vJ : vp_in (nI J) 64 := vp_in_nI (by omega) (by omega)
  have i32 : ∀ z : Int32, z = -1 → ¬ 0 ≤ z := fun z h => by rw [h]; decide
  -- the number
  have SE : ∀ (μ1 : zMu) (qm : zQ), mF J μ μ1 → μ1 48 0 28 = nI qm.1 → μ1 48 0 29 = qm.2 → qOk qm → q6.1 ≤ n → eqQ q6 qm → (q6.2 = -1 → μ1 73 0 J = t.1 ∧ μ1 74 0 J = t.2.1 ∧ μ1 75 0 J = t.2.2.1 ∧ μ1 76 0 J = t.2.2.2.1) → zG S (d + 2) m_Mo_readTest K 112 [some (zR 48 0), some (zI (nI J)), none, none] [] μ1 := by
    intro μ1 qm F s28 s29 ho h6n he vals
    have fin : ∀ (v : Int32) (l3 : Option zV) (μ2 : zMu), mF J μ μ2 → μ2 48 0 29 = q'.2 → (q'.2 = -1 → μ2 48 0 28 = nI q'.1 ∧ μ2 73 0 J = t.1 ∧ μ2 74 0 J = t.2.1 ∧ μ2 75 0 J = t.2.2.1 ∧ μ2 76 0 J = t.2.2.2.1 ∧ v = t.2.2.2.2) → (¬ q'.2 = -1 → 0 ≤ q'.2) → zG S (d + 2) m_Mo_readTest K 193 [some (zR 48 0), some (zI (nI J)), some (zI v), l3] [] μ2 := fun v l3 μ2 F2 f29 fv fp => by
      have hk := hK (zu μ2 77 0 J v) (mF_zu F2 (by decide)) f29 (fun z => by
        obtain ⟨b1, b2, b3, b4, b5, b6⟩ := fv z
        exact ⟨b1, b2, b3, b4, b5, by rw [zu_eq]; exact b6⟩) fp
      rw [← cJ] at hk
      generalize hJ' : (nI J).toNatClampNeg = J' at hk
      repeat' (first
        | exact zKn hk (by rw [hJ'])
        | (refine zs k_Mo_readTest rfl ?_; conv => whnf)
        | refine ⟨Nat.zero_lt_one, rfl, ?_⟩
        | refine ⟨rfl, ?_⟩
        | refine ⟨⟨Nat.zero_lt_one, rfl⟩, Nat.le_of_ble_eq_true rfl, ?_⟩
        | refine ⟨Nat.le_of_ble_eq_true rfl, Nat.le_of_ble_eq_true rfl, ?_⟩
        | refine ⟨(by first | exact Nat.zero_lt_one | assumption | omega), (by first | assumption | exact vp_in_nI (by omega) (by omega) | (unfold vp_in; decide)), ?_⟩
        | refine ⟨(by first | exact Nat.zero_lt_one | assumption | omega), rfl, ?_⟩
        | refine ⟨⟨(by first | exact Nat.zero_lt_one | assumption | omega), rfl⟩, Nat.le_of_ble_eq_true rfl, ?_⟩
        | refine ⟨(by first | exact Nat.zero_lt_one | assumption | omega), ?_⟩
        | refine ⟨Or.inl rfl, ?_⟩
        | refine ⟨Or.inr (Or.inl rfl), ?_⟩
        | refine ⟨Or.inr (Or.inr rfl), ?_⟩
        | refine ⟨Or.inr ⟨rfl, (by first | exact Or.inl rfl | exact Or.inr rfl | assumption)⟩, ?_⟩
        | refine ⟨fun h => absurd h (by decide), fun _ => ?_⟩
        | refine ⟨fun _ => ?_, fun h => absurd h (by decide)⟩
        | refine ⟨fun h => ?_, fun h => ?_⟩
        | fail)
    by_cases o1 : q6.2 = -1
    case neg =>
      rw [qN_ft o1] at e7
      obtain ⟨e71, e72⟩ := Prod.mk.inj e7
      have o2 : 0 ≤ μ1 48 0 29 := by
        rw [s29]
        rcases qOk_neg ho with ⟨z, -⟩ | ⟨-, z⟩
        · exact absurd (he.1.symm.trans z) o1
        · exact z
      have hf := fin 0 (some (zI 0)) μ1 F (by rw [s29, he.1, e72]) (fun z => absurd (by rw [e72]; exact z) o1) (fun _ => by rw [← e72, ← he.1, ← s29]; exact o2)
      refine zs k_Mo_readTest rfl ?_; conv => whnf
      repeat' (first
        | exact hf
        | refine br_t o2 ?_
        | refine br_f (show ¬ (8 : Int32) ≤ 0 by decide) ?_
        | (refine zs k_Mo_readTest rfl ?_; conv => whnf)
        | refine ⟨Nat.zero_lt_one, rfl, ?_⟩
        | refine ⟨rfl, ?_⟩
        | refine ⟨⟨Nat.zero_lt_one, rfl⟩, Nat.le_of_ble_eq_true rfl, ?_⟩
        | refine ⟨Nat.le_of_ble_eq_true rfl, Nat.le_of_ble_eq_true rfl, ?_⟩
        | refine ⟨(by first | exact Nat.zero_lt_one | assumption | omega), (by first | assumption | exact vp_in_nI (by omega) (by omega) | (unfold vp_in; decide)), ?_⟩
        | refine ⟨(by first | exact Nat.zero_lt_one | assumption | omega), rfl, ?_⟩
        | refine ⟨⟨(by first | exact Nat.zero_lt_one | assumption | omega), rfl⟩, Nat.le_of_ble_eq_true rfl, ?_⟩
        | refine ⟨(by first | exact Nat.zero_lt_one | assumption | omega), ?_⟩
        | refine ⟨Or.inl rfl, ?_⟩
        | refine ⟨Or.inr (Or.inl rfl), ?_⟩
        | refine ⟨Or.inr (Or.inr rfl), ?_⟩
        | refine ⟨Or.inr ⟨rfl, (by first | exact Or.inl rfl | exact Or.inr rfl | assumption)⟩, ?_⟩
        | refine ⟨fun h => absurd h (by decide), fun _ => ?_⟩
        | refine ⟨fun _ => ?_, fun h => absurd h (by decide)⟩
        | refine ⟨fun h => ?_, fun h => ?_⟩
        | fail)
    obtain rfl := (eqQ_1 he o1).symm
    have E1 := mF_E F E
    have n29 : ¬ 0 ≤ μ1 48 0 29 := i32 _ (s29.trans o1)
    unfold qN pRdN at e7
    rw [if_pos o1] at e7
    have Bd : ∀ j, (48 ≤ pB a n j ∧ pB a n j ≤ 57) → j < n := fun j h => pB_lt (fun e => by rw [e] at h; exact absurd h.1 (by decide))
    by_cases dg : 48 ≤ pB a n q6.1 ∧ pB a n q6.1 ≤ 57
    case neg =>
      have e0 : pNumF (pB a n) 8 q6.1 0 = (q6.1, 0) := by rw [pNumF, if_neg dg]
      rw [e0, if_pos rfl] at e7
      obtain ⟨e71, e72⟩ := Prod.mk.inj e7
      have hf := fin 0 (some (zI 0)) (zu μ1 48 0 29 (μ1 48 0 28)) ⟨fun f hf => by
          rw [← F.1 f hf]
          simp only [List.mem_cons, List.not_mem_nil, or_false, not_or] at hf
          funext i k
          exact zu_ne (by omega), fun k hk => by
          simp only [List.mem_cons, List.not_mem_nil, or_false, not_or] at hk
          rw [zu_ne (by omega)]
          exact F.2.1 k (by simp only [List.mem_cons, List.not_mem_nil, or_false, not_or]; exact hk), fun f hf k hk => by
          rw [← F.2.2 f hf k hk]
          simp only [List.mem_cons, List.not_mem_nil, or_false] at hf
          exact zu_ne (by omega)⟩ (by rw [zu_eq, s28, ← e72]) (fun z => by rw [← e72] at z; exact absurd z (nI_nem1 (by have := ho.1; omega))) (fun _ => by rw [← e72]; exact nI_pos' (by have := ho.1; omega))
      have o3 : 0 ≤ zu μ1 48 0 29 (μ1 48 0 28) 48 0 29 := by rw [zu_eq, s28]; exact nI_pos' (by have := ho.1; omega)
      refine zs k_Mo_readTest rfl ?_; conv => whnf
      repeat' (first
        | exact hf
        | refine br_f n29 ?_
        | refine c_Mo_letter E1 s28 ho.1 ?_
        | refine c_Mo_isDigit (fun q => absurd q dg) (fun _ => ?_)
        | refine br_f (show ¬ (8 : Int32) ≤ 0 by decide) ?_
        | refine br_t o3 ?_
        | (refine zs k_Mo_readTest rfl ?_; conv => whnf)
        | refine ⟨Nat.zero_lt_one, rfl, ?_⟩
        | refine ⟨rfl, ?_⟩
        | refine ⟨⟨Nat.zero_lt_one, rfl⟩, Nat.le_of_ble_eq_true rfl, ?_⟩
        | refine ⟨Nat.le_of_ble_eq_true rfl, Nat.le_of_ble_eq_true rfl, ?_⟩
        | refine ⟨(by first | exact Nat.zero_lt_one | assumption | omega), (by first | assumption | exact vp_in_nI (by omega) (by omega) | (unfold vp_in; decide)), ?_⟩
        | refine ⟨(by first | exact Nat.zero_lt_one | assumption | omega), rfl, ?_⟩
        | refine ⟨⟨(by first | exact Nat.zero_lt_one | assumption | omega), rfl⟩, Nat.le_of_ble_eq_true rfl, ?_⟩
        | refine ⟨(by first | exact Nat.zero_lt_one | assumption | omega), ?_⟩
        | refine ⟨Or.inl rfl, ?_⟩
        | refine ⟨Or.inr (Or.inl rfl), ?_⟩
        | refine ⟨Or.inr (Or.inr rfl), ?_⟩
        | refine ⟨Or.inr ⟨rfl, (by first | exact Or.inl rfl | exact Or.inr rfl | assumption)⟩, ?_⟩
        | refine ⟨fun h => absurd h (by decide), fun _ => ?_⟩
        | refine ⟨fun _ => ?_, fun h => absurd h (by decide)⟩
        | refine ⟨fun h => ?_, fun h => ?_⟩
        | fail)
    have hgt : ¬ (pNumF (pB a n) 8 q6.1 0).1 = q6.1 := by
      rw [pNumF, if_pos dg]
      have := (pNumF_ge (pB a n) 7 (q6.1 + 1) (10 * 0 + pB a n q6.1 - 48)).1
      omega
    rw [if_neg hgt] at e7
    obtain ⟨e71, e72⟩ := Prod.mk.inj e7
    generalize hR : pNumF (pB a n) 8 q6.1 0 = R at e71 e72
    have L : ∀ (f i at_ : Nat) (v c : Int32) (μ2 : zMu), i + f = 8 → c = nI i → mF J μ μ2 → μ2 48 0 28 = nI at_ → μ2 48 0 29 = -1 → at_ ≤ n → (μ2 73 0 J = t.1 ∧ μ2 74 0 J = t.2.1 ∧ μ2 75 0 J = t.2.2.1 ∧ μ2 76 0 J = t.2.2.2.1) → pNumF (pB a n) f at_ v = R → zG S (d + 2) m_Mo_readTest K 141 [some (zR 48 0), some (zI (nI J)), some (zI v), some (zI c)] [] μ2 := by
      intro f
      induction f with
      | zero =>
        intro i at_ v c μ2 hi hc F2 t28 t29 htn tv hr
        obtain rfl : i = 8 := by omega
        subst hc
        have hr : (at_, v) = R := hr
        have hf := fin v (some (zI (nI 8))) μ2 F2 (by rw [t29, ← e72]) (fun _ => ⟨by rw [t28, ← e72, ← hr], tv.1, tv.2.1, tv.2.2.1, tv.2.2.2, by rw [← e71, ← hr]⟩) (fun z => absurd (by rw [← e72]) z)
        refine zs k_Mo_readTest rfl ?_; conv => whnf
        repeat' (first
          | exact hf
          | refine br_t (show (8 : Int32) ≤ nI 8 by decide) ?_
          | (refine zs k_Mo_readTest rfl ?_; conv => whnf)
          | refine ⟨Nat.zero_lt_one, rfl, ?_⟩
          | refine ⟨rfl, ?_⟩
          | refine ⟨⟨Nat.zero_lt_one, rfl⟩, Nat.le_of_ble_eq_true rfl, ?_⟩
          | refine ⟨Nat.le_of_ble_eq_true rfl, Nat.le_of_ble_eq_true rfl, ?_⟩
          | refine ⟨(by first | exact Nat.zero_lt_one | assumption | omega), (by first | assumption | exact vp_in_nI (by omega) (by omega) | (unfold vp_in; decide)), ?_⟩
          | refine ⟨(by first | exact Nat.zero_lt_one | assumption | omega), rfl, ?_⟩
          | refine ⟨⟨(by first | exact Nat.zero_lt_one | assumption | omega), rfl⟩, Nat.le_of_ble_eq_true rfl, ?_⟩
          | refine ⟨(by first | exact Nat.zero_lt_one | assumption | omega), ?_⟩
          | refine ⟨Or.inl rfl, ?_⟩
          | refine ⟨Or.inr (Or.inl rfl), ?_⟩
          | refine ⟨Or.inr (Or.inr rfl), ?_⟩
          | refine ⟨Or.inr ⟨rfl, (by first | exact Or.inl rfl | exact Or.inr rfl | assumption)⟩, ?_⟩
          | refine ⟨fun h => absurd h (by decide), fun _ => ?_⟩
          | refine ⟨fun _ => ?_, fun h => absurd h (by decide)⟩
          | refine ⟨fun h => ?_, fun h => ?_⟩
          | fail)
      | succ f ih =>
        intro i at_ v c μ2 hi hc F2 t28 t29 htn tv hr
        subst hc
        have E2 := mF_E F2 E
        have k8 : ¬ (8 : Int32) ≤ nI i := nI_ge (b := 8) (by omega) (by omega)
        have m29 : ¬ 0 ≤ μ2 48 0 29 := i32 _ t29
        rw [pNumF] at hr
        by_cases dg2 : 48 ≤ pB a n at_ ∧ pB a n at_ ≤ 57
        · rw [if_pos dg2] at hr
          have hlt := Bd at_ dg2
          refine zs k_Mo_readTest rfl ?_; conv => whnf
          repeat' (first
            | refine br_f k8 ?_
            | refine br_f m29 ?_
            | refine c_Mo_letter E2 t28 (by omega) ?_
            | refine c_Mo_isDigit (fun _ => ?_) (fun q => absurd dg2 q)
            | refine ih (i + 1) (at_ + 1) _ _ _ (by omega) (by exact nI_1 i) ?_ ?_ (by exact t29) (by omega) (by exact tv) hr
            | (refine zs k_Mo_readTest rfl ?_; conv => whnf)
            | refine ⟨Nat.zero_lt_one, rfl, ?_⟩
            | refine ⟨rfl, ?_⟩
            | refine ⟨⟨Nat.zero_lt_one, rfl⟩, Nat.le_of_ble_eq_true rfl, ?_⟩
            | refine ⟨Nat.le_of_ble_eq_true rfl, Nat.le_of_ble_eq_true rfl, ?_⟩
            | refine ⟨(by first | exact Nat.zero_lt_one | assumption | omega), (by first | assumption | exact vp_in_nI (by omega) (by omega) | (unfold vp_in; decide)), ?_⟩
            | refine ⟨(by first | exact Nat.zero_lt_one | assumption | omega), rfl, ?_⟩
            | refine ⟨⟨(by first | exact Nat.zero_lt_one | assumption | omega), rfl⟩, Nat.le_of_ble_eq_true rfl, ?_⟩
            | refine ⟨(by first | exact Nat.zero_lt_one | assumption | omega), ?_⟩
            | refine ⟨Or.inl rfl, ?_⟩
            | refine ⟨Or.inr (Or.inl rfl), ?_⟩
            | refine ⟨Or.inr (Or.inr rfl), ?_⟩
            | refine ⟨Or.inr ⟨rfl, (by first | exact Or.inl rfl | exact Or.inr rfl | assumption)⟩, ?_⟩
            | refine ⟨fun h => absurd h (by decide), fun _ => ?_⟩
            | refine ⟨fun _ => ?_, fun h => absurd h (by decide)⟩
            | refine ⟨fun h => ?_, fun h => ?_⟩
            | fail)
          · refine ⟨fun g hg => ?_, fun k hk => ?_, fun g hg k hk => ?_⟩
            · rw [← F2.1 g hg]
              simp only [List.mem_cons, List.not_mem_nil, or_false, not_or] at hg
              funext i k
              exact zu_ne (by omega)
            · simp only [List.mem_cons, List.not_mem_nil, or_false, not_or] at hk
              rw [zu_ne (by omega)]
              exact F2.2.1 k (by simp only [List.mem_cons, List.not_mem_nil, or_false, not_or]; exact hk)
            · rw [← F2.2.2 g hg k hk]
              simp only [List.mem_cons, List.not_mem_nil, or_false] at hg
              exact zu_ne (by omega)
          · rw [zu_eq, t28, nI_1]
        · rw [if_neg dg2] at hr
          have hr : (at_, v) = R := hr
          have hf := fin v (some (zI (nI i))) μ2 F2 (by rw [t29, ← e72]) (fun _ => ⟨by rw [t28, ← e72, ← hr], tv.1, tv.2.1, tv.2.2.1, tv.2.2.2, by rw [← e71, ← hr]⟩) (fun z => absurd (by rw [← e72]) z)
          refine zs k_Mo_readTest rfl ?_; conv => whnf
          repeat' (first
            | exact hf
            | refine br_f k8 ?_
            | refine br_f m29 ?_
            | refine c_Mo_letter E2 t28 (by omega) ?_
            | refine c_Mo_isDigit (fun q => absurd q dg2) (fun _ => ?_)
            | (refine zs k_Mo_readTest rfl ?_; conv => whnf)
            | refine ⟨Nat.zero_lt_one, rfl, ?_⟩
            | refine ⟨rfl, ?_⟩
            | refine ⟨⟨Nat.zero_lt_one, rfl⟩, Nat.le_of_ble_eq_true rfl, ?_⟩
            | refine ⟨Nat.le_of_ble_eq_true rfl, Nat.le_of_ble_eq_true rfl, ?_⟩
            | refine ⟨(by first | exact Nat.zero_lt_one | assumption | omega), (by first | assumption | exact vp_in_nI (by omega) (by omega) | (unfold vp_in; decide)), ?_⟩
            | refine ⟨(by first | exact Nat.zero_lt_one | assumption | omega), rfl, ?_⟩
            | refine ⟨⟨(by first | exact Nat.zero_lt_one | assumption | omega), rfl⟩, Nat.le_of_ble_eq_true rfl, ?_⟩
            | refine ⟨(by first | exact Nat.zero_lt_one | assumption | omega), ?_⟩
            | refine ⟨Or.inl rfl, ?_⟩
            | refine ⟨Or.inr (Or.inl rfl), ?_⟩
            | refine ⟨Or.inr (Or.inr rfl), ?_⟩
            | refine ⟨Or.inr ⟨rfl, (by first | exact Or.inl rfl | exact Or.inr rfl | assumption)⟩, ?_⟩
            | refine ⟨fun h => absurd h (by decide), fun _ => ?_⟩
            | refine ⟨fun _ => ?_, fun h => absurd h (by decide)⟩
            | refine ⟨fun h => ?_, fun h => ?_⟩
            | fail)
    refine zs k_Mo_readTest rfl ?_; conv => whnf
    repeat' (first
      | refine L 8 0 q6.1 _ _ _ (by omega) rfl F s28 (s29.trans o1) h6n (vals o1) hR
      | refine br_f n29 ?_
      | refine c_Mo_letter E1 s28 ho.1 ?_
      | refine c_Mo_isDigit (fun _ => ?_) (fun q => absurd dg q)
      | (refine zs k_Mo_readTest rfl ?_; conv => whnf)
      | refine ⟨Nat.zero_lt_one, rfl, ?_⟩
      | refine ⟨rfl, ?_⟩
      | refine ⟨⟨Nat.zero_lt_one, rfl⟩, Nat.le_of_ble_eq_true rfl, ?_⟩
      | refine ⟨Nat.le_of_ble_eq_true rfl, Nat.le_of_ble_eq_true rfl, ?_⟩
      | refine ⟨(by first | exact Nat.zero_lt_one | assumption | omega), (by first | assumption | exact vp_in_nI (by omega) (by omega) | (unfold vp_in; decide)), ?_⟩
      | refine ⟨(by first | exact Nat.zero_lt_one | assumption | omega), rfl, ?_⟩
      | refine ⟨⟨(by first | exact Nat.zero_lt_one | assumption | omega), rfl⟩, Nat.le_of_ble_eq_true rfl, ?_⟩
      | refine ⟨(by first | exact Nat.zero_lt_one | assumption | omega), ?_⟩
      | refine ⟨Or.inl rfl, ?_⟩
      | refine ⟨Or.inr (Or.inl rfl), ?_⟩
      | refine ⟨Or.inr (Or.inr rfl), ?_⟩
      | refine ⟨Or.inr ⟨rfl, (by first | exact Or.inl rfl | exact Or.inr rfl | assumption)⟩, ?_⟩
      | refine ⟨fun h => absurd h (by decide), fun _ => ?_⟩
      | refine ⟨fun _ => ?_, fun h => absurd h (by decide)⟩
      | refine ⟨fun h => ?_, fun h => ?_⟩
      | fail)
  -- the sign
  have SD : ∀ (μ1 : zMu) (qm : zQ), mF J μ μ1 → μ1 48 0 28 = nI qm.1 → μ1 48 0 29 = qm.2 → qOk qm → q5.1 ≤ n → eqQ q5 qm → (q5.2 = -1 → μ1 73 0 J = t.1 ∧ μ1 74 0 J = t.2.1 ∧ μ1 75 0 J = t.2.2.1) → zG S (d + 2) m_Mo_readTest K 92 [some (zR 48 0), some (zI (nI J)), none, none] [] μ1 := by
    intro μ1 qm F s28 s29 ho h5n he vals
    have h6n : q6.1 ≤ n := by have := qW_le (a := a) (n := n) (k := 9) (q := q5) (by omega) h5n; rw [e6] at this; exact this
    by_cases o1 : q5.2 = -1
    case neg =>
      rw [qW_ft o1] at e6
      obtain ⟨-, e62⟩ := Prod.mk.inj e6
      have o2 : 0 ≤ μ1 48 0 29 := by
        rw [s29]
        rcases qOk_neg ho with ⟨z, -⟩ | ⟨-, z⟩
        · exact absurd (he.1.symm.trans z) o1
        · exact z
      have hS := SE μ1 qm F s28 s29 ho h6n (by rw [← e62]; exact he) (fun z => absurd (by rw [e62]; exact z) o1)
      refine zs k_Mo_readTest rfl ?_; conv => whnf
      repeat' (first
        | exact hS
        | refine br_t o2 ?_
        | (refine zs k_Mo_readTest rfl ?_; conv => whnf)
        | refine ⟨Nat.zero_lt_one, rfl, ?_⟩
        | refine ⟨rfl, ?_⟩
        | refine ⟨⟨Nat.zero_lt_one, rfl⟩, Nat.le_of_ble_eq_true rfl, ?_⟩
        | refine ⟨Nat.le_of_ble_eq_true rfl, Nat.le_of_ble_eq_true rfl, ?_⟩
        | refine ⟨(by first | exact Nat.zero_lt_one | assumption | omega), (by first | assumption | exact vp_in_nI (by omega) (by omega) | (unfold vp_in; decide)), ?_⟩
        | refine ⟨(by first | exact Nat.zero_lt_one | assumption | omega), rfl, ?_⟩
        | refine ⟨⟨(by first | exact Nat.zero_lt_one | assumption | omega), rfl⟩, Nat.le_of_ble_eq_true rfl, ?_⟩
        | refine ⟨(by first | exact Nat.zero_lt_one | assumption | omega), ?_⟩
        | refine ⟨Or.inl rfl, ?_⟩
        | refine ⟨Or.inr (Or.inl rfl), ?_⟩
        | refine ⟨Or.inr (Or.inr rfl), ?_⟩
        | refine ⟨Or.inr ⟨rfl, (by first | exact Or.inl rfl | exact Or.inr rfl | assumption)⟩, ?_⟩
        | refine ⟨fun h => absurd h (by decide), fun _ => ?_⟩
        | refine ⟨fun _ => ?_, fun h => absurd h (by decide)⟩
        | refine ⟨fun h => ?_, fun h => ?_⟩
        | fail)
    obtain rfl := (eqQ_1 he o1).symm
    have E1 := mF_E F E
    have n29 : ¬ 0 ≤ μ1 48 0 29 := i32 _ (s29.trans o1)
    have e6' : qW a n (q5.1, -1) 9 = (t.2.2.2.1, q6) := by rw [← o1]; exact e6
    obtain ⟨u1, u2⟩ := w9_one ho.1 e6'
    obtain ⟨v1, v2, v3⟩ := vals o1
    generalize hm : mOne a n [61, 60, 62] q5.1 = M at u1 u2
    have hok : qOk M.2 := by
      rw [← hm]
      unfold mOne
      have := ho.1
      split
      · rename_i hl
        have := pB_lt (a := a) (n := n) (j := q5.1) (by rw [hl]; decide)
        exact ⟨by show q5.1 + 1 ≤ 1000; omega, Or.inl rfl⟩
      · split
        · rename_i hl
          have := pB_lt (a := a) (n := n) (j := q5.1) (by rw [hl]; decide)
          exact ⟨by show q5.1 + 1 ≤ 1000; omega, Or.inl rfl⟩
        · split
          · rename_i hl
            have := pB_lt (a := a) (n := n) (j := q5.1) (by rw [hl.2]; decide)
            exact ⟨by show q5.1 + 1 ≤ 1000; omega, Or.inl rfl⟩
          · exact ⟨ho.1, Or.inr ⟨q5.1, by omega, rfl⟩⟩
    have hS := SE (zu (cM μ1 M.2) 76 0 J (nI M.1)) M.2 (mF_zu (mF_cM F) (by decide)) cM_28 cM_29 hok h6n u1 (fun z => ⟨v1, v2, v3, by rw [zu_eq]; exact (u2 z).symm⟩)
    have hS' : ∀ J', J' = J → zG S (d + 2) m_Mo_readTest K 112 [some (zR 48 0), some (zI (nI J)), none, none] [] (zu (cM μ1 M.2) 76 0 J' (nI M.1)) := fun J' hJ' => by rw [hJ']; exact hS
    refine zs k_Mo_readTest rfl ?_; conv => whnf
    repeat' (first
      | refine br_f n29 ?_
      | (refine c_Mo_one3 E1 s28 (s29.trans o1) ho.1 ?_; rw [hm])
      | exact hS' _ cJ
      | (refine zs k_Mo_readTest rfl ?_; conv => whnf)
      | refine ⟨Nat.zero_lt_one, rfl, ?_⟩
      | refine ⟨rfl, ?_⟩
      | refine ⟨⟨Nat.zero_lt_one, rfl⟩, Nat.le_of_ble_eq_true rfl, ?_⟩
      | refine ⟨Nat.le_of_ble_eq_true rfl, Nat.le_of_ble_eq_true rfl, ?_⟩
      | refine ⟨(by first | exact Nat.zero_lt_one | assumption | omega), (by first | assumption | exact vp_in_nI (by omega) (by omega) | (unfold vp_in; decide)), ?_⟩
      | refine ⟨(by first | exact Nat.zero_lt_one | assumption | omega), rfl, ?_⟩
      | refine ⟨⟨(by first | exact Nat.zero_lt_one | assumption | omega), rfl⟩, Nat.le_of_ble_eq_true rfl, ?_⟩
      | refine ⟨(by first | exact Nat.zero_lt_one | assumption | omega), ?_⟩
      | refine ⟨Or.inl rfl, ?_⟩
      | refine ⟨Or.inr (Or.inl rfl), ?_⟩
      | refine ⟨Or.inr (Or.inr rfl), ?_⟩
      | refine ⟨Or.inr ⟨rfl, (by first | exact Or.inl rfl | exact Or.inr rfl | assumption)⟩, ?_⟩
      | refine ⟨fun h => absurd h (by decide), fun _ => ?_⟩
      | refine ⟨fun _ => ?_, fun h => absurd h (by decide)⟩
      | refine ⟨fun h => ?_, fun h => ?_⟩
      | fail)
  -- the field
  have SC : ∀ (μ1 : zMu) (qm : zQ), mF J μ μ1 → μ1 48 0 28 = nI qm.1 → μ1 48 0 29 = qm.2 → qOk qm → q4.1 ≤ n → eqQ q4 qm → (q4.2 = -1 → μ1 73 0 J = t.1 ∧ μ1 74 0 J = t.2.1) → zG S (d + 2) m_Mo_readTest K 73 [some (zR 48 0), some (zI (nI J)), none, none] [] μ1 := by
    intro μ1 qm F s28 s29 ho h4n he vals
    have h5n : q5.1 ≤ n := by have := qW_le (a := a) (n := n) (k := 8) (q := q4) (by omega) h4n; rw [e5] at this; exact this
    by_cases o1 : q4.2 = -1
    case neg =>
      rw [qW_ft o1] at e5
      obtain ⟨-, e52⟩ := Prod.mk.inj e5
      have o2 : 0 ≤ μ1 48 0 29 := by
        rw [s29]
        rcases qOk_neg ho with ⟨z, -⟩ | ⟨-, z⟩
        · exact absurd (he.1.symm.trans z) o1
        · exact z
      have hS := SD μ1 qm F s28 s29 ho h5n (by rw [← e52]; exact he) (fun z => absurd (by rw [e52]; exact z) o1)
      refine zs k_Mo_readTest rfl ?_; conv => whnf
      repeat' (first
        | exact hS
        | refine br_t o2 ?_
        | (refine zs k_Mo_readTest rfl ?_; conv => whnf)
        | refine ⟨Nat.zero_lt_one, rfl, ?_⟩
        | refine ⟨rfl, ?_⟩
        | refine ⟨⟨Nat.zero_lt_one, rfl⟩, Nat.le_of_ble_eq_true rfl, ?_⟩
        | refine ⟨Nat.le_of_ble_eq_true rfl, Nat.le_of_ble_eq_true rfl, ?_⟩
        | refine ⟨(by first | exact Nat.zero_lt_one | assumption | omega), (by first | assumption | exact vp_in_nI (by omega) (by omega) | (unfold vp_in; decide)), ?_⟩
        | refine ⟨(by first | exact Nat.zero_lt_one | assumption | omega), rfl, ?_⟩
        | refine ⟨⟨(by first | exact Nat.zero_lt_one | assumption | omega), rfl⟩, Nat.le_of_ble_eq_true rfl, ?_⟩
        | refine ⟨(by first | exact Nat.zero_lt_one | assumption | omega), ?_⟩
        | refine ⟨Or.inl rfl, ?_⟩
        | refine ⟨Or.inr (Or.inl rfl), ?_⟩
        | refine ⟨Or.inr (Or.inr rfl), ?_⟩
        | refine ⟨Or.inr ⟨rfl, (by first | exact Or.inl rfl | exact Or.inr rfl | assumption)⟩, ?_⟩
        | refine ⟨fun h => absurd h (by decide), fun _ => ?_⟩
        | refine ⟨fun _ => ?_, fun h => absurd h (by decide)⟩
        | refine ⟨fun h => ?_, fun h => ?_⟩
        | fail)
    obtain rfl := (eqQ_1 he o1).symm
    have E1 := mF_E F E
    have n29 : ¬ 0 ≤ μ1 48 0 29 := i32 _ (s29.trans o1)
    have e5' : qW a n (q4.1, -1) 8 = (t.2.2.1, q5) := by rw [← o1]; exact e5
    rw [qW_eq (by omega), show zWd.getD 8 [] = zWf.take 7 from rfl] at e5'
    obtain ⟨v1, v2⟩ := vals o1
    have go : ∀ (i : Nat) (Q : zQ), qOk Q → eqQ q5 Q → (q5.2 = -1 → nI i = t.2.2.1) → ∀ J', J' = J → zG S (d + 2) m_Mo_readTest K 92 [some (zR 48 0), some (zI (nI J)), none, none] [] (zu (cM μ1 Q) 75 0 J' (nI i)) := fun i Q hQ heQ hv J' hJ' => by
      rw [hJ']
      exact SD _ Q (mF_zu (mF_cM F) (by decide)) cM_28 cM_29 hQ h5n heQ (fun z => ⟨v1, v2, by rw [zu_eq]; exact hv z⟩)
    refine zs k_Mo_readTest rfl ?_; conv => whnf
    repeat' (first
      | refine br_f n29 ?_
      | refine c_Mo_word (m := 7) E1 s28 (s29.trans o1) h4n (by omega) (by omega) rfl (fun i L hw => ?_) (fun i L hw => ?_)
      | refine go i (q4.1 + L, -1) ?_ ?_ ?_ _ cJ
      | refine go i (q4.1 + L, nI (q4.1 + L)) ?_ ?_ ?_ _ cJ
      | (refine zs k_Mo_readTest rfl ?_; conv => whnf)
      | refine ⟨Nat.zero_lt_one, rfl, ?_⟩
      | refine ⟨rfl, ?_⟩
      | refine ⟨⟨Nat.zero_lt_one, rfl⟩, Nat.le_of_ble_eq_true rfl, ?_⟩
      | refine ⟨Nat.le_of_ble_eq_true rfl, Nat.le_of_ble_eq_true rfl, ?_⟩
      | refine ⟨(by first | exact Nat.zero_lt_one | assumption | omega), (by first | assumption | exact vp_in_nI (by omega) (by omega) | (unfold vp_in; decide)), ?_⟩
      | refine ⟨(by first | exact Nat.zero_lt_one | assumption | omega), rfl, ?_⟩
      | refine ⟨⟨(by first | exact Nat.zero_lt_one | assumption | omega), rfl⟩, Nat.le_of_ble_eq_true rfl, ?_⟩
      | refine ⟨(by first | exact Nat.zero_lt_one | assumption | omega), ?_⟩
      | refine ⟨Or.inl rfl, ?_⟩
      | refine ⟨Or.inr (Or.inl rfl), ?_⟩
      | refine ⟨Or.inr (Or.inr rfl), ?_⟩
      | refine ⟨Or.inr ⟨rfl, (by first | exact Or.inl rfl | exact Or.inr rfl | assumption)⟩, ?_⟩
      | refine ⟨fun h => absurd h (by decide), fun _ => ?_⟩
      | refine ⟨fun _ => ?_, fun h => absurd h (by decide)⟩
      | refine ⟨fun h => ?_, fun h => ?_⟩
      | fail)
    · rw [hw] at e5'
      obtain ⟨-, e52⟩ := Prod.mk.inj e5'
      rw [← e52] at h5n
      exact ⟨by have : q4.1 + L ≤ n := h5n; show q4.1 + L ≤ 1000; omega, Or.inl rfl⟩
    · rw [hw] at e5'
      obtain ⟨-, e52⟩ := Prod.mk.inj e5'
      rw [← e52]
      exact eqQ_rf
    · rw [hw] at e5'
      obtain ⟨e51, -⟩ := Prod.mk.inj e5'
      exact fun _ => e51
    · obtain ⟨-, -, -, -, hL⟩ := mbl_no (b := fun j => pB a n (q4.1 + j)) (by omega) (by omega) hw
      exact ⟨by show q4.1 + L ≤ 1000; omega, Or.inr ⟨q4.1 + L, by omega, rfl⟩⟩
    · rw [hw] at e5'
      obtain ⟨-, e52⟩ := Prod.mk.inj e5'
      obtain ⟨-, -, -, -, hL⟩ := mbl_no (b := fun j => pB a n (q4.1 + j)) (by omega) (by omega) hw
      rw [← e52]
      exact ⟨rfl, fun z => absurd z (nI_nem1 (by omega))⟩
    · rw [hw] at e5'
      obtain ⟨-, e52⟩ := Prod.mk.inj e5'
      obtain ⟨-, -, -, -, hL⟩ := mbl_no (b := fun j => pB a n (q4.1 + j)) (by omega) (by omega) hw
      rw [← e52]
      exact fun z => absurd z (nI_nem1 (by omega))
  -- the point
  have SB : ∀ (μ1 : zMu) (qm : zQ), mF J μ μ1 → μ1 48 0 28 = nI qm.1 → μ1 48 0 29 = qm.2 → qOk qm → q3.1 ≤ n → eqQ q3 qm → (q3.2 = -1 → μ1 73 0 J = t.1 ∧ μ1 74 0 J = t.2.1) → zG S (d + 2) m_Mo_readTest K 66 [some (zR 48 0), some (zI (nI J)), none, none] [] μ1 := by
    intro μ1 qm F s28 s29 ho h3n he vals
    have h4n : q4.1 ≤ n := by have := qW_le (a := a) (n := n) (k := 7) (q := q3) (by omega) h3n; rw [e4] at this; exact this
    have hX := qW_1 (cs := [46]) (by omega) rfl (by show q3.1 + 1 < 2 ^ 31; omega) e4 he
    have hS := SC (cM μ1 (mX a n [46] qm)) (mX a n [46] qm) (mF_cM F) cM_28 cM_29 (mX_ok h200 (by decide) ho) h4n hX (fun z => by
      by_cases o1 : q3.2 = -1
      · exact vals o1
      · rw [qW_ft o1] at e4
        obtain ⟨-, e42⟩ := Prod.mk.inj e4
        exact absurd (by rw [e42]; exact z) o1)
    refine zs k_Mo_readTest rfl ?_; conv => whnf
    repeat' (first
      | refine c_Mo_expect (cs := [46]) (mF_E F E) s28 s29 ho rfl (by decide) (by decide) (by decide) ?_
      | exact hS
      | (refine zs k_Mo_readTest rfl ?_; conv => whnf)
      | refine ⟨Nat.zero_lt_one, rfl, ?_⟩
      | refine ⟨rfl, ?_⟩
      | refine ⟨⟨Nat.zero_lt_one, rfl⟩, Nat.le_of_ble_eq_true rfl, ?_⟩
      | refine ⟨Nat.le_of_ble_eq_true rfl, Nat.le_of_ble_eq_true rfl, ?_⟩
      | refine ⟨(by first | exact Nat.zero_lt_one | assumption | omega), (by first | assumption | exact vp_in_nI (by omega) (by omega) | (unfold vp_in; decide)), ?_⟩
      | refine ⟨(by first | exact Nat.zero_lt_one | assumption | omega), rfl, ?_⟩
      | refine ⟨⟨(by first | exact Nat.zero_lt_one | assumption | omega), rfl⟩, Nat.le_of_ble_eq_true rfl, ?_⟩
      | refine ⟨(by first | exact Nat.zero_lt_one | assumption | omega), ?_⟩
      | refine ⟨Or.inl rfl, ?_⟩
      | refine ⟨Or.inr (Or.inl rfl), ?_⟩
      | refine ⟨Or.inr (Or.inr rfl), ?_⟩
      | refine ⟨Or.inr ⟨rfl, (by first | exact Or.inl rfl | exact Or.inr rfl | assumption)⟩, ?_⟩
      | refine ⟨fun h => absurd h (by decide), fun _ => ?_⟩
      | refine ⟨fun _ => ?_, fun h => absurd h (by decide)⟩
      | refine ⟨fun h => ?_, fun h => ?_⟩
      | fail)
  -- whose
  have E0 : pB a n q.1 = pB a n q.1 := rfl
  have hq0 : qOk (q.1, -1) := ⟨by show q.1 ≤ 1000; omega, Or.inl rfl⟩
  obtain ⟨v1, q1, T1, T2⟩ := T0
  have T1' : qW a n (q.1, -1) 5 = (v1, q1) := by rw [← hq2]; exact T1
  have hq1n : q1.1 ≤ n := by have := qW_le (a := a) (n := n) (k := 5) (q := q) (by omega) hqn; rw [T1] at this; exact this
  rw [w5_eq] at T1'
  have SA2 : ∀ (μ1 : zMu) (at_ : Nat) (v : Int32) (q3' : zQ), mF J μ μ1 → μ1 48 0 28 = nI at_ → μ1 48 0 29 = -1 → at_ ≤ n → qW a n (at_, -1) 6 = (v, q3') → q3.1 ≤ n → eqQ q3' q3 → (q3.2 = -1 → v = w) → (q3.2 = -1 → μ1 73 0 J = t.1) → zG S (d + 2) m_Mo_readTest K 36 [some (zR 48 0), some (zI (nI J)), none, none] [] μ1 := by
    intro μ1 at_ v q3' F s28 s29 hatn e3 h3n he hvw v1
    have E1 := mF_E F E
    have n29 : ¬ 0 ≤ μ1 48 0 29 := i32 _ s29
    obtain ⟨u1, u2⟩ := w6_one (by omega) e3
    generalize hm : mOne a n [97, 98] at_ = M at u1 u2
    have hM1 : M.1 = 0 ∨ M.1 = 1 := by
      rw [← hm]
      unfold mOne
      split
      · exact Or.inl rfl
      · split
        · exact Or.inr rfl
        · split
          · rename_i hl
            exact absurd hl.1 (by decide)
          · exact Or.inl rfl
    have hok : qOk M.2 := by
      rw [← hm]
      unfold mOne
      split
      · rename_i hl
        have := pB_lt (a := a) (n := n) (j := at_) (by rw [hl]; decide)
        exact ⟨by show at_ + 1 ≤ 1000; omega, Or.inl rfl⟩
      · split
        · rename_i hl
          have := pB_lt (a := a) (n := n) (j := at_) (by rw [hl]; decide)
          exact ⟨by show at_ + 1 ≤ 1000; omega, Or.inl rfl⟩
        · split
          · rename_i hl
            exact absurd hl.1 (by decide)
          · exact ⟨by show at_ ≤ 1000; omega, Or.inr ⟨at_, by omega, rfl⟩⟩
    have e32 : q3'.2 = q3.2 := he.1.symm
    have heq : eqQ q3 M.2 := ⟨by rw [u1.1, e32], fun z => by rw [u1.2 (e32.trans z), he.2 (e32.trans z)]⟩
    have go : ∀ (y : Int32), (y = if w = 1 then 1 else 0) ∨ ¬ q3.2 = -1 → ∀ J', J' = J → zG S (d + 2) m_Mo_readTest K 66 [some (zR 48 0), some (zI (nI J)), none, none] [] (zu (cM μ1 M.2) 74 0 J' y) := fun y hy J' hJ' => by
      rw [hJ']
      refine SB _ M.2 (mF_zu (mF_cM F) (by decide)) cM_28 cM_29 hok h3n heq (fun z => ⟨v1 z, ?_⟩)
      rw [zu_eq, tb]
      rcases hy with hy | hy
      · exact hy
      · exact absurd z hy
    rcases hM1 with m0 | m1
    · have hw0 : q3.2 = -1 → (0 : Int32) = if w = 1 then 1 else 0 := fun z => by
        rw [← hvw z, u2 (e32.trans z), m0]
        rfl
      have hy : ((0 : Int32) = if w = 1 then 1 else 0) ∨ ¬ q3.2 = -1 := (Classical.em (q3.2 = -1)).elim (fun z => Or.inl (hw0 z)) Or.inr
      have g0 := go 0 hy
      have mm : ¬ nI M.1 = 1 := by rw [m0]; decide
      refine zs k_Mo_readTest rfl ?_; conv => whnf
      repeat' (first
        | refine br_f n29 ?_
        | (refine c_Mo_one2 E1 s28 s29 (by omega) ?_; rw [hm])
        | refine bn_t mm ?_
        | exact g0 _ cJ
        | (refine zs k_Mo_readTest rfl ?_; conv => whnf)
        | refine ⟨Nat.zero_lt_one, rfl, ?_⟩
        | refine ⟨rfl, ?_⟩
        | refine ⟨⟨Nat.zero_lt_one, rfl⟩, Nat.le_of_ble_eq_true rfl, ?_⟩
        | refine ⟨Nat.le_of_ble_eq_true rfl, Nat.le_of_ble_eq_true rfl, ?_⟩
        | refine ⟨(by first | exact Nat.zero_lt_one | assumption | omega), (by first | assumption | exact vp_in_nI (by omega) (by omega) | (unfold vp_in; decide)), ?_⟩
        | refine ⟨(by first | exact Nat.zero_lt_one | assumption | omega), rfl, ?_⟩
        | refine ⟨⟨(by first | exact Nat.zero_lt_one | assumption | omega), rfl⟩, Nat.le_of_ble_eq_true rfl, ?_⟩
        | refine ⟨(by first | exact Nat.zero_lt_one | assumption | omega), ?_⟩
        | refine ⟨Or.inl rfl, ?_⟩
        | refine ⟨Or.inr (Or.inl rfl), ?_⟩
        | refine ⟨Or.inr (Or.inr rfl), ?_⟩
        | refine ⟨Or.inr ⟨rfl, (by first | exact Or.inl rfl | exact Or.inr rfl | assumption)⟩, ?_⟩
        | refine ⟨fun h => absurd h (by decide), fun _ => ?_⟩
        | refine ⟨fun _ => ?_, fun h => absurd h (by decide)⟩
        | refine ⟨fun h => ?_, fun h => ?_⟩
        | fail)
    · have hw0 : q3.2 = -1 → (1 : Int32) = if w = 1 then 1 else 0 := fun z => by
        rw [← hvw z, u2 (e32.trans z), m1]
        rfl
      have hy : ((1 : Int32) = if w = 1 then 1 else 0) ∨ ¬ q3.2 = -1 := (Classical.em (q3.2 = -1)).elim (fun z => Or.inl (hw0 z)) Or.inr
      have g0 := go 1 hy
      have mm : nI M.1 = 1 := by rw [m1]; rfl
      refine zs k_Mo_readTest rfl ?_; conv => whnf
      repeat' (first
        | refine br_f n29 ?_
        | (refine c_Mo_one2 E1 s28 s29 (by omega) ?_; rw [hm])
        | refine bn_f mm ?_
        | exact g0 _ cJ
        | (refine zs k_Mo_readTest rfl ?_; conv => whnf)
        | refine ⟨Nat.zero_lt_one, rfl, ?_⟩
        | refine ⟨rfl, ?_⟩
        | refine ⟨⟨Nat.zero_lt_one, rfl⟩, Nat.le_of_ble_eq_true rfl, ?_⟩
        | refine ⟨Nat.le_of_ble_eq_true rfl, Nat.le_of_ble_eq_true rfl, ?_⟩
        | refine ⟨(by first | exact Nat.zero_lt_one | assumption | omega), (by first | assumption | exact vp_in_nI (by omega) (by omega) | (unfold vp_in; decide)), ?_⟩
        | refine ⟨(by first | exact Nat.zero_lt_one | assumption | omega), rfl, ?_⟩
        | refine ⟨⟨(by first | exact Nat.zero_lt_one | assumption | omega), rfl⟩, Nat.le_of_ble_eq_true rfl, ?_⟩
        | refine ⟨(by first | exact Nat.zero_lt_one | assumption | omega), ?_⟩
        | refine ⟨Or.inl rfl, ?_⟩
        | refine ⟨Or.inr (Or.inl rfl), ?_⟩
        | refine ⟨Or.inr (Or.inr rfl), ?_⟩
        | refine ⟨Or.inr ⟨rfl, (by first | exact Or.inl rfl | exact Or.inr rfl | assumption)⟩, ?_⟩
        | refine ⟨fun h => absurd h (by decide), fun _ => ?_⟩
        | refine ⟨fun _ => ?_, fun h => absurd h (by decide)⟩
        | refine ⟨fun h => ?_, fun h => ?_⟩
        | fail)
  by_cases l110 : pB a n q.1 = 110
  case neg =>
    have Fn : mF J μ (zu μ 73 0 J 0) := mF_zu mF_rf (by decide)
    -- a, b, or neither
    have key : ∃ v q3', qW a n (q.1, -1) 6 = (v, q3') ∧ q3.1 ≤ n ∧ eqQ q3' q3 ∧ (q3.2 = -1 → v = w) ∧ (q3.2 = -1 → (0 : Int32) = t.1) := by
      refine ⟨_, _, rfl, ?_⟩
      have p0 : pfx (fun j => pB a n (q.1 + j)) [110, 111, 116] 0 = 0 := by
        rw [pfx, if_neg (show ¬ pB a n (q.1 + 0) = 110 from l110)]
      rw [p0] at T1'
      have w6 : qW a n (q.1, -1) 6 = if pB a n q.1 = 97 then (0, q.1 + 1, -1) else if pB a n q.1 = 98 then (1, q.1 + 1, -1) else (-1, q.1, nI q.1) := by
        rw [qW_eq (by omega)]
        have hw : zWd.getD 6 [] = [[97], [98]] := rfl
        rw [hw]
        simp only [wL, wL_s, Nat.add_zero, List.length_singleton]
        by_cases l0 : pB a n q.1 = 97
        · simp [l0]
          rfl
        · by_cases l1 : pB a n q.1 = 98
          · simp [l1]
            rfl
          · simp [l0, l1]
      rw [w6]
      by_cases l0 : pB a n q.1 = 97
      · rw [if_pos l0] at T1' ⊢
        obtain ⟨rfl, rfl⟩ := Prod.mk.inj T1'
        rcases T2 with ⟨c1, -⟩ | ⟨-, c2, c3, c4⟩
        · exact absurd c1 (by decide)
        · rw [c4]
          exact ⟨hq1n, eqQ_rf, fun _ => c3.symm, fun _ => c2.symm⟩
      · rw [if_neg l0] at T1' ⊢
        by_cases l1 : pB a n q.1 = 98
        · rw [if_pos l1] at T1' ⊢
          obtain ⟨rfl, rfl⟩ := Prod.mk.inj T1'
          rcases T2 with ⟨c1, -⟩ | ⟨-, c2, c3, c4⟩
          · exact absurd c1 (by decide)
          · rw [c4]
            exact ⟨hq1n, eqQ_rf, fun _ => c3.symm, fun _ => c2.symm⟩
        · rw [if_neg l1] at T1' ⊢
          rw [if_neg (by decide)] at T1'
          obtain ⟨rfl, rfl⟩ := Prod.mk.inj T1'
          rcases T2 with ⟨c1, -⟩ | ⟨-, c2, c3, c4⟩
          · exact absurd c1 (by decide)
          · rw [c4]
            exact ⟨hq1n, eqQ_rf, fun _ => c3.symm, fun _ => c2.symm⟩
    obtain ⟨v, q3', k1, k2, k3, k4, k5⟩ := key
    have hS := SA2 (zu μ 73 0 J 0) q.1 v q3' Fn h28 h29 hqn k1 k2 k3 k4 (fun z => by rw [zu_eq]; exact k5 z)
    have hS' : ∀ J', J' = J → zG S (d + 2) m_Mo_readTest K 36 [some (zR 48 0), some (zI (nI J)), none, none] [] (zu μ 73 0 J' (vp_nar .boolean 0)) := fun J' hJ' => by rw [hJ']; exact hS
    have z73 : zu μ 73 0 (nI J).toNatClampNeg (vp_nar .boolean 0) 73 0 (nI J).toNatClampNeg = 0 := by rw [zu_eq]; rfl
    repeat' (first
      | exact hS' _ cJ
      | refine c_Mo_letter E h28 (by omega) ?_
      | refine bn_t l110 ?_
      | refine br_t z73 ?_
      | (refine zs k_Mo_readTest rfl ?_; conv => whnf)
      | refine ⟨Nat.zero_lt_one, rfl, ?_⟩
      | refine ⟨rfl, ?_⟩
      | refine ⟨⟨Nat.zero_lt_one, rfl⟩, Nat.le_of_ble_eq_true rfl, ?_⟩
      | refine ⟨Nat.le_of_ble_eq_true rfl, Nat.le_of_ble_eq_true rfl, ?_⟩
      | refine ⟨(by first | exact Nat.zero_lt_one | assumption | omega), (by first | assumption | exact vp_in_nI (by omega) (by omega) | (unfold vp_in; decide)), ?_⟩
      | refine ⟨(by first | exact Nat.zero_lt_one | assumption | omega), rfl, ?_⟩
      | refine ⟨⟨(by first | exact Nat.zero_lt_one | assumption | omega), rfl⟩, Nat.le_of_ble_eq_true rfl, ?_⟩
      | refine ⟨(by first | exact Nat.zero_lt_one | assumption | omega), ?_⟩
      | refine ⟨Or.inl rfl, ?_⟩
      | refine ⟨Or.inr (Or.inl rfl), ?_⟩
      | refine ⟨Or.inr (Or.inr rfl), ?_⟩
      | refine ⟨Or.inr ⟨rfl, (by first | exact Or.inl rfl | exact Or.inr rfl | assumption)⟩, ?_⟩
      | refine ⟨fun h => absurd h (by decide), fun _ => ?_⟩
      | refine ⟨fun _ => ?_, fun h => absurd h (by decide)⟩
      | refine ⟨fun h => ?_, fun h => ?_⟩
      | fail)
  case pos =>
    have Fn : mF J μ (zu μ 73 0 J 1) := mF_zu mF_rf (by decide)
    have l0 : ¬ pB a n q.1 = 97 := by rw [l110]; decide
    have l1 : ¬ pB a n q.1 = 98 := by rw [l110]; decide
    rw [if_neg l0, if_neg l1] at T1'
    have hX := mX_pfx (a := a) (n := n) (at_ := q.1) (cs := [110, 111, 116]) (i := 0)
    rw [Nat.add_zero] at hX
    have hXX : mX a n [110, 111, 116, 32] (q.1, -1) = mX a n [32] (mX a n [110, 111, 116] (q.1, -1)) := mX_app (c1 := [110, 111, 116]) (c2 := [32]) (by show q.1 + 3 < 2 ^ 31; omega)
    have hpl := pfx_le (b := fun j => pB a n (q.1 + j)) (w := [110, 111, 116]) (i := 0)
    have z73 : ¬ zu μ 73 0 (nI J).toNatClampNeg (vp_nar .boolean 1) 73 0 (nI J).toNatClampNeg = 0 := by
      rw [zu_eq]
      decide
    have hid : mE (zu μ 73 0 J 1) a n := mF_E Fn E
    have hokX : qOk (mX a n [110, 111, 116, 32] (q.1, -1)) := mX_ok h200 (by decide) hq0
    have go : zG S (d + 2) m_Mo_readTest K 36 [some (zR 48 0), some (zI (nI J)), none, none] [] (cM (zu μ 73 0 J 1) (mX a n [110, 111, 116, 32] (q.1, -1))) := by
      by_cases p3 : pfx (fun j => pB a n (q.1 + j)) [110, 111, 116] 0 = 3
      · rw [if_pos p3] at T1'
        obtain ⟨rfl, rfl⟩ := Prod.mk.inj T1'
        rcases T2 with ⟨-, c2, c3⟩ | ⟨c1, -⟩
        case inr => exact absurd rfl c1
        rw [if_pos (show pfx (fun j => pB a n (q.1 + j)) [110, 111, 116] 0 = ([110, 111, 116] : List Int32).length from p3)] at hX
        have hX2 : mX a n [110, 111, 116, 32] (q.1, -1) = qB a n (q.1 + 3, -1) := by rw [hXX, hX]; exact mX_b
        rw [hX2] at hokX ⊢
        have hbn := qB_le (a := a) (n := n) (q := (q.1 + 3, -1)) hq1n
        have h3n : q3.1 ≤ n := by have := qW_le (a := a) (n := n) (k := 6) (q := qB a n (q.1 + 3, -1)) (by omega) hbn; rw [c3] at this; exact this
        generalize hB : qB a n (q.1 + 3, -1) = B at *
        by_cases o1 : B.2 = -1
        · obtain ⟨at_, fl⟩ := B
          have o1 : fl = -1 := o1
          subst o1
          exact SA2 _ at_ w q3 (mF_cM Fn) cM_28 cM_29 hbn c3 h3n eqQ_rf (fun _ => rfl) (fun _ => by rw [cM_o (by omega), zu_eq, c2])
        · rw [qW_ft o1] at c3
          obtain ⟨-, c32⟩ := Prod.mk.inj c3
          have o2 : 0 ≤ cM (zu μ 73 0 J 1) B 48 0 29 := by
            rw [cM_29]
            rcases qOk_neg hokX with ⟨z, -⟩ | ⟨-, z⟩
            · exact absurd z o1
            · exact z
          have hS := SB _ B (mF_cM Fn) cM_28 cM_29 hokX h3n (by rw [← c32]; exact eqQ_rf) (fun z => absurd (by rw [c32]; exact z) o1)
          refine zs k_Mo_readTest rfl ?_; conv => whnf
          repeat' (first
            | exact hS
            | refine br_t o2 ?_
            | (refine zs k_Mo_readTest rfl ?_; conv => whnf)
            | refine ⟨Nat.zero_lt_one, rfl, ?_⟩
            | refine ⟨rfl, ?_⟩
            | refine ⟨⟨Nat.zero_lt_one, rfl⟩, Nat.le_of_ble_eq_true rfl, ?_⟩
            | refine ⟨Nat.le_of_ble_eq_true rfl, Nat.le_of_ble_eq_true rfl, ?_⟩
            | refine ⟨(by first | exact Nat.zero_lt_one | assumption | omega), (by first | assumption | exact vp_in_nI (by omega) (by omega) | (unfold vp_in; decide)), ?_⟩
            | refine ⟨(by first | exact Nat.zero_lt_one | assumption | omega), rfl, ?_⟩
            | refine ⟨⟨(by first | exact Nat.zero_lt_one | assumption | omega), rfl⟩, Nat.le_of_ble_eq_true rfl, ?_⟩
            | refine ⟨(by first | exact Nat.zero_lt_one | assumption | omega), ?_⟩
            | refine ⟨Or.inl rfl, ?_⟩
            | refine ⟨Or.inr (Or.inl rfl), ?_⟩
            | refine ⟨Or.inr (Or.inr rfl), ?_⟩
            | refine ⟨Or.inr ⟨rfl, (by first | exact Or.inl rfl | exact Or.inr rfl | assumption)⟩, ?_⟩
            | refine ⟨fun h => absurd h (by decide), fun _ => ?_⟩
            | refine ⟨fun _ => ?_, fun h => absurd h (by decide)⟩
            | refine ⟨fun h => ?_, fun h => ?_⟩
            | fail)
      · rw [if_neg p3] at T1'
        obtain ⟨rfl, rfl⟩ := Prod.mk.inj T1'
        rcases T2 with ⟨c1, -⟩ | ⟨-, c2, c3, c4⟩
        · exact absurd c1 (by decide)
        rw [if_neg (show ¬ pfx (fun j => pB a n (q.1 + j)) [110, 111, 116] 0 = ([110, 111, 116] : List Int32).length from p3)] at hX
        have hpl' : pfx (fun j => pB a n (q.1 + j)) [110, 111, 116] 0 ≤ 3 := hpl
        have hnm : ¬ nI (q.1 + pfx (fun j => pB a n (q.1 + j)) [110, 111, 116] 0) = -1 := nI_nem1 (by omega)
        rw [hXX, hX, mX_ft hnm] at hokX ⊢
        have o2 : 0 ≤ cM (zu μ 73 0 J 1) (q.1 + pfx (fun j => pB a n (q.1 + j)) [110, 111, 116] 0, nI (q.1 + pfx (fun j => pB a n (q.1 + j)) [110, 111, 116] 0)) 48 0 29 := by
          rw [cM_29]
          exact nI_pos' (by omega)
        have hS := SB _ (q.1 + pfx (fun j => pB a n (q.1 + j)) [110, 111, 116] 0, nI (q.1 + pfx (fun j => pB a n (q.1 + j)) [110, 111, 116] 0)) (mF_cM Fn) cM_28 cM_29 hokX (by rw [c4]; exact hqn) (by rw [c4]; exact ⟨rfl, fun z => absurd z hnm⟩) (fun z => by rw [c4] at z; exact absurd z hnm)
        refine zs k_Mo_readTest rfl ?_; conv => whnf
        repeat' (first
          | exact hS
          | refine br_t o2 ?_
          | (refine zs k_Mo_readTest rfl ?_; conv => whnf)
          | refine ⟨Nat.zero_lt_one, rfl, ?_⟩
          | refine ⟨rfl, ?_⟩
          | refine ⟨⟨Nat.zero_lt_one, rfl⟩, Nat.le_of_ble_eq_true rfl, ?_⟩
          | refine ⟨Nat.le_of_ble_eq_true rfl, Nat.le_of_ble_eq_true rfl, ?_⟩
          | refine ⟨(by first | exact Nat.zero_lt_one | assumption | omega), (by first | assumption | exact vp_in_nI (by omega) (by omega) | (unfold vp_in; decide)), ?_⟩
          | refine ⟨(by first | exact Nat.zero_lt_one | assumption | omega), rfl, ?_⟩
          | refine ⟨⟨(by first | exact Nat.zero_lt_one | assumption | omega), rfl⟩, Nat.le_of_ble_eq_true rfl, ?_⟩
          | refine ⟨(by first | exact Nat.zero_lt_one | assumption | omega), ?_⟩
          | refine ⟨Or.inl rfl, ?_⟩
          | refine ⟨Or.inr (Or.inl rfl), ?_⟩
          | refine ⟨Or.inr (Or.inr rfl), ?_⟩
          | refine ⟨Or.inr ⟨rfl, (by first | exact Or.inl rfl | exact Or.inr rfl | assumption)⟩, ?_⟩
          | refine ⟨fun h => absurd h (by decide), fun _ => ?_⟩
          | refine ⟨fun _ => ?_, fun h => absurd h (by decide)⟩
          | refine ⟨fun h => ?_, fun h => ?_⟩
          | fail)
    have go' : ∀ J', J' = J → zG S (d + 2) m_Mo_readTest K 36 [some (zR 48 0), some (zI (nI J)), none, none] [] (cM (zu μ 73 0 J' (vp_nar .boolean 1)) (mX a n [110, 111, 116, 32] (q.1, -1))) := fun J' hJ' => by rw [hJ']; exact go
    have E73 : mE (zu μ 73 0 (nI J).toNatClampNeg (vp_nar .boolean 1)) a n := by rw [cJ]; exact hid
    repeat' (first
      | exact go' _ cJ
      | refine c_Mo_letter E h28 (by omega) ?_
      | refine bn_f l110 ?_
      | refine br_f z73 ?_
      | refine c_Mo_expect (cs := [110, 111, 116, 32]) (q := (q.1, -1)) E73 h28 h29 hq0 rfl (by decide) (by decide) (by decide) ?_
      | (refine zs k_Mo_readTest rfl ?_; conv => whnf)
      | refine ⟨Nat.zero_lt_one, rfl, ?_⟩
      | refine ⟨rfl, ?_⟩
      | refine ⟨⟨Nat.zero_lt_one, rfl⟩, Nat.le_of_ble_eq_true rfl, ?_⟩
      | refine ⟨Nat.le_of_ble_eq_true rfl, Nat.le_of_ble_eq_true rfl, ?_⟩
      | refine ⟨(by first | exact Nat.zero_lt_one | assumption | omega), (by first | assumption | exact vp_in_nI (by omega) (by omega) | (unfold vp_in; decide)), ?_⟩
      | refine ⟨(by first | exact Nat.zero_lt_one | assumption | omega), rfl, ?_⟩
      | refine ⟨⟨(by first | exact Nat.zero_lt_one | assumption | omega), rfl⟩, Nat.le_of_ble_eq_true rfl, ?_⟩
      | refine ⟨(by first | exact Nat.zero_lt_one | assumption | omega), ?_⟩
      | refine ⟨Or.inl rfl, ?_⟩
      | refine ⟨Or.inr (Or.inl rfl), ?_⟩
      | refine ⟨Or.inr (Or.inr rfl), ?_⟩
      | refine ⟨Or.inr ⟨rfl, (by first | exact Or.inl rfl | exact Or.inr rfl | assumption)⟩, ?_⟩
      | refine ⟨fun h => absurd h (by decide), fun _ => ?_⟩
      | refine ⟨fun _ => ?_, fun h => absurd h (by decide)⟩
      | refine ⟨fun h => ?_, fun h => ?_⟩
      | fail)
/-! MODEL: the tests, the rule -/
theorem qTR_ft {a : Nat → Int32} {n : Nat} {q q' : zQ} {t : rT} (h : ¬ q.2 = -1) (hT : qTR a n q t q') : q' = q := by
  obtain ⟨w, q3, v4, q4, q5, q6, T0, tb, e4, e5, e6, e7⟩ := hT
  obtain ⟨v1, q1, T1, T2⟩ := T0
  rw [qW_ft h] at T1
  obtain ⟨rfl, rfl⟩ := Prod.mk.inj T1
  rcases T2 with ⟨c1, -⟩ | ⟨-, -, -, c4⟩
  · exact absurd c1 (by decide)
  subst c4
  rw [qW_ft h] at e4
  obtain ⟨-, rfl⟩ := Prod.mk.inj e4
  rw [qW_ft h] at e5
  obtain ⟨-, rfl⟩ := Prod.mk.inj e5
  rw [qW_ft h] at e6
  obtain ⟨-, rfl⟩ := Prod.mk.inj e6
  rw [qN_ft h] at e7
  obtain ⟨-, rfl⟩ := Prod.mk.inj e7
  rfl
theorem qTR_n {a : Nat → Int32} {n : Nat} {q q' : zQ} {t : rT} (h : q.1 ≤ n) (hT : qTR a n q t q') : q'.1 ≤ n := by
  obtain ⟨w, q3, v4, q4, q5, q6, T0, tb, e4, e5, e6, e7⟩ := hT
  obtain ⟨v1, q1, T1, T2⟩ := T0
  have h1 : q1.1 ≤ n := by have := qW_le (a := a) (n := n) (k := 5) (q := q) (by omega) h; rw [T1] at this; exact this
  have h3 : q3.1 ≤ n := by
    rcases T2 with ⟨-, -, c3⟩ | ⟨-, -, -, c4⟩
    · have := qW_le (a := a) (n := n) (k := 6) (q := qB a n q1) (by omega) (qB_le h1)
      rw [c3] at this
      exact this
    · rw [c4]
      exact h1
  have h4 : q4.1 ≤ n := by have := qW_le (a := a) (n := n) (k := 7) (q := q3) (by omega) h3; rw [e4] at this; exact this
  have h5 : q5.1 ≤ n := by have := qW_le (a := a) (n := n) (k := 8) (q := q4) (by omega) h4; rw [e5] at this; exact this
  have h6 : q6.1 ≤ n := by have := qW_le (a := a) (n := n) (k := 9) (q := q5) (by omega) h5; rw [e6] at this; exact this
  have := qN_le (a := a) (n := n) (q := q6) h6
  rw [e7] at this
  exact this
theorem qLR_no {a : Nat → Int32} {n k : Nat} {any any' : Int32} {q q' : zQ} {ts : List rT} (h : ¬ qMore n q) (hL : qLR a n k any q ts any' q') : ts = [] ∧ any' = any ∧ q' = q := by
  cases k with
  | zero => exact hL
  | succ k =>
    rcases hL with hL | hL
    · exact hL.2
    · exact absurd hL.1 h
def gF (r : Nat) (μ μ' : zMu) : Prop := (∀ f, f ∉ [48, 69, 72, 73, 74, 75, 76, 77] → μ' f = μ f) ∧ (∀ k, k ∉ [28, 29] → μ' 48 0 k = μ 48 0 k) ∧ (∀ f, f ∈ [69, 72] → ∀ k, k ≠ r → μ' f 0 k = μ f 0 k) ∧ ∀ f, f ∈ [73, 74, 75, 76, 77] → ∀ k, ¬ (4 * r ≤ k ∧ k < 4 * r + 4) → μ' f 0 k = μ f 0 k
theorem gF_rf {r : Nat} {μ : zMu} : gF r μ μ := ⟨fun _ _ => rfl, fun _ _ => rfl, fun _ _ _ _ => rfl, fun _ _ _ _ => rfl⟩
theorem gF_mF {r j : Nat} {μ μ1 μ2 : zMu} (h : gF r μ μ1) (hj : j < 4) (h2 : mF (4 * r + j) μ1 μ2) : gF r μ μ2 := by
  refine ⟨fun f hf => ?_, fun k hk => (h2.2.1 k hk).trans (h.2.1 k hk), fun f hf k hk => ?_, fun f hf k hk => ?_⟩
  · rw [h2.1 f (fun q => hf (by simp only [List.mem_cons, List.not_mem_nil, or_false] at q ⊢; omega))]
    exact h.1 f hf
  · rw [h2.1 f (fun q => by simp only [List.mem_cons, List.not_mem_nil, or_false] at q hf; omega)]
    exact h.2.2.1 f hf k hk
  · rw [h2.2.2 f hf k (by omega)]
    exact h.2.2.2 f hf k hk
theorem gF_cM {r : Nat} {μ μ1 : zMu} {q : zQ} (h : gF r μ μ1) : gF r μ (cM μ1 q) := by
  refine ⟨fun f hf => ?_, fun k hk => ?_, fun f hf k hk => ?_, fun f hf k hk => ?_⟩
  · rw [← h.1 f hf]
    simp only [List.mem_cons, List.not_mem_nil, or_false, not_or] at hf
    funext i k
    exact cM_o (by omega)
  · rw [← h.2.1 k hk]
    simp only [List.mem_cons, List.not_mem_nil, or_false, not_or] at hk
    exact cM_o (by omega)
  · rw [← h.2.2.1 f hf k hk]
    simp only [List.mem_cons, List.not_mem_nil, or_false] at hf
    exact cM_o (by omega)
  · rw [← h.2.2.2 f hf k hk]
    simp only [List.mem_cons, List.not_mem_nil, or_false] at hf
    exact cM_o (by omega)
theorem gF_fl {r : Nat} {μ μ1 : zMu} {x : Int32} (h : gF r μ μ1) : gF r μ (zu μ1 48 0 29 x) := by
  refine ⟨fun f hf => ?_, fun k hk => ?_, fun f hf k hk => ?_, fun f hf k hk => ?_⟩
  · rw [← h.1 f hf]
    simp only [List.mem_cons, List.not_mem_nil, or_false, not_or] at hf
    funext i k
    exact zu_ne (by omega)
  · rw [← h.2.1 k hk]
    simp only [List.mem_cons, List.not_mem_nil, or_false, not_or] at hk
    exact zu_ne (by omega)
  · rw [← h.2.2.1 f hf k hk]
    simp only [List.mem_cons, List.not_mem_nil, or_false] at hf
    exact zu_ne (by omega)
  · rw [← h.2.2.2 f hf k hk]
    simp only [List.mem_cons, List.not_mem_nil, or_false] at hf
    exact zu_ne (by omega)
theorem gF_r {r f : Nat} {μ μ1 : zMu} {x : Int32} (h : gF r μ μ1) (hf : f ∈ [69, 72]) : gF r μ (zu μ1 f 0 r x) := by
  simp only [List.mem_cons, List.not_mem_nil, or_false] at hf
  refine ⟨fun g hg => ?_, fun k hk => ?_, fun g hg k hk => ?_, fun g hg k hk => ?_⟩
  · rw [← h.1 g hg]
    simp only [List.mem_cons, List.not_mem_nil, or_false, not_or] at hg
    funext i k
    exact zu_ne (by omega)
  · rw [← h.2.1 k hk]
    exact zu_ne (by omega)
  · rw [← h.2.2.1 g hg k hk]
    exact zu_ne (by omega)
  · rw [← h.2.2.2 g hg k hk]
    simp only [List.mem_cons, List.not_mem_nil, or_false] at hg
    exact zu_ne (by omega)
theorem gF_E {r n : Nat} {μ μ' : zMu} {a : Nat → Int32} (h : gF r μ μ') (E : mE μ a n) : mE μ' a n := by
  unfold mE gCs at *
  rw [h.2.1 14 (by decide), h.1 63 (by decide), h.1 80 (by decide), h.1 81 (by decide), h.1 82 (by decide)]
  exact E
def tE (μ : zMu) (i : Nat) (e : rT) : Prop := μ 73 0 i = e.1 ∧ μ 74 0 i = e.2.1 ∧ μ 75 0 i = e.2.2.1 ∧ μ 76 0 i = e.2.2.2.1 ∧ μ 77 0 i = e.2.2.2.2
theorem w10_eq {a : Nat → Int32} {n : Nat} {q1 q2 : zQ} {v2 : Int32} (hq : q1.1 ≤ 1000) (o1 : q1.2 = -1) (h : qW a n q1 10 = (v2, q2)) : (pB a n q1.1 = 111 → eqQ q2 (mX a n [111, 114] q1) ∧ (q2.2 = -1 → v2 = 1)) ∧ (¬ pB a n q1.1 = 111 → eqQ q2 (mX a n [97, 110, 100] q1) ∧ (q2.2 = -1 → v2 = 0)) := by
  obtain ⟨at_, fl⟩ := q1
  have o1 : fl = -1 := o1
  subst o1
  have hq : at_ ≤ 1000 := hq
  rw [qW_eq (by omega)] at h
  have hw : zWd.getD 10 [] = [[97, 110, 100], [111, 114]] := rfl
  rw [hw, wL, wL, wL] at h
  have X1 := mX_pfx (a := a) (n := n) (at_ := at_) (cs := [97, 110, 100]) (i := 0)
  have X2 := mX_pfx (a := a) (n := n) (at_ := at_) (cs := [111, 114]) (i := 0)
  rw [Nat.add_zero] at X1 X2
  have l1 := pfx_le (b := fun j => pB a n (at_ + j)) (w := [97, 110, 100]) (i := 0)
  have l2 := pfx_le (b := fun j => pB a n (at_ + j)) (w := [111, 114]) (i := 0)
  have l1' : pfx (fun j => pB a n (at_ + j)) [97, 110, 100] 0 ≤ 3 := l1
  have l2' : pfx (fun j => pB a n (at_ + j)) [111, 114] 0 ≤ 2 := l2
  constructor
  · intro l
    have l : pB a n (at_ + 0) = 111 := l
    have p1 : pfx (fun j => pB a n (at_ + j)) [97, 110, 100] 0 = 0 := by rw [pfx, if_neg (by rw [l]; decide)]
    rw [p1, if_neg (show ¬ 0 = ([97, 110, 100] : List Int32).length by decide)] at h
    rw [X2]
    by_cases e : pfx (fun j => pB a n (at_ + j)) [111, 114] 0 = ([111, 114] : List Int32).length
    · rw [if_pos e] at h ⊢
      obtain ⟨rfl, rfl⟩ := Prod.mk.inj h
      exact ⟨eqQ_rf, fun _ => rfl⟩
    · rw [if_neg e] at h ⊢
      obtain ⟨rfl, rfl⟩ := Prod.mk.inj h
      have e2 : (if (if 0 < 0 then 0 else 0) < pfx (fun j => pB a n (at_ + j)) [111, 114] 0 then pfx (fun j => pB a n (at_ + j)) [111, 114] 0 else (if 0 < 0 then 0 else 0)) = pfx (fun j => pB a n (at_ + j)) [111, 114] 0 := by
        rw [if_neg (by omega)]
        split <;> omega
      rw [e2]
      exact ⟨⟨rfl, fun z => absurd z (nI_nem1 (by omega))⟩, fun z => absurd z (nI_nem1 (by omega))⟩
  · intro l
    have l : ¬ pB a n (at_ + 0) = 111 := l
    have p2 : pfx (fun j => pB a n (at_ + j)) [111, 114] 0 = 0 := by rw [pfx, if_neg l]
    rw [p2] at h
    rw [X1]
    by_cases e : pfx (fun j => pB a n (at_ + j)) [97, 110, 100] 0 = ([97, 110, 100] : List Int32).length
    · rw [if_pos e] at h ⊢
      obtain ⟨rfl, rfl⟩ := Prod.mk.inj h
      exact ⟨eqQ_rf, fun _ => rfl⟩
    · rw [if_neg e] at h ⊢
      rw [if_neg (show ¬ 0 = ([111, 114] : List Int32).length by decide)] at h
      obtain ⟨rfl, rfl⟩ := Prod.mk.inj h
      have e2 : (if (if 0 < pfx (fun j => pB a n (at_ + j)) [97, 110, 100] 0 then pfx (fun j => pB a n (at_ + j)) [97, 110, 100] 0 else 0) < 0 then 0 else (if 0 < pfx (fun j => pB a n (at_ + j)) [97, 110, 100] 0 then pfx (fun j => pB a n (at_ + j)) [97, 110, 100] 0 else 0)) = pfx (fun j => pB a n (at_ + j)) [97, 110, 100] 0 := by
        rw [if_neg (by omega)]
        split <;> omega
      rw [e2]
      exact ⟨⟨rfl, fun z => absurd z (nI_nem1 (by omega))⟩, fun z => absurd z (nI_nem1 (by omega))⟩
set_option maxHeartbeats 4000000 in
theorem c_Mo_readTests {d n r : Nat} {μ : zMu} {a : Nat → Int32} {q q1 q2 q3 q4 q' : zQ} {v2 any' : Int32} {t : rT} {ts : List rT} {x : Int32} {K : Option zV → zMu → Prop} (E : mE μ a n) (h28 : μ 48 0 28 = nI q.1) (h29 : μ 48 0 29 = -1) (hq2 : q.2 = -1) (hqn : q.1 ≤ n) (hx : x = nI r) (hr : r < 16) (h72 : μ 72 0 r = 0) (h69 : μ 69 0 r = 0)
    (e1 : qB a n q = q1) (e2 : qW a n q1 4 = (v2, q2)) (e3 : qB a n q2 = q3) (eT : qTR a n q3 t q4) (eL : qLR a n 3 0 q4 ts any' q')
    (hK : ∀ μ' fl, gF r μ μ' → ((qMore n q' ∧ fl = nI q'.1) ∨ (¬ qMore n q' ∧ fl = q'.2)) → μ' 48 0 29 = fl → (¬ fl = -1 → 0 ≤ fl) → (fl = -1 → μ' 72 0 r = nI (t :: ts).length ∧ (t :: ts).length ≤ 4 ∧ μ' 69 0 r = any' ∧ (any' = 0 ∨ any' = 1) ∧ ∀ i e, (t :: ts)[i]? = some e → tE μ' (4 * r + i) e) → K none μ') : Ct (d + 3) m_Mo_readTests [zR 48 0, zI x] μ K := by
  subst hx
  refine zmeet rfl (Nat.le_of_ble_eq_true rfl) (fun S => ?_)
  have h200 := E.2.1
  have cr : (nI r).toNatClampNeg = r := nI_clamp (by omega)
  have vr : vp_in (nI r) 16 := vp_in_nI hr (by omega)
  have m4 : (4 : Int32) * nI r = nI (4 * r) := pk_mul 4 r
  have i32 : ∀ z : Int32, z = -1 → ¬ 0 ≤ z := fun z h => by rw [h]; decide
  have end0 : ∀ μ1 : zMu, K none μ1 → zG S (d + 3) m_Mo_readTests K 20 [some (zR 48 0), some (zI (nI r)), some (zI 0)] [] μ1 := fun μ1 hk => by
    repeat' (first
      | exact hk
      | (refine zs k_Mo_readTests rfl ?_; conv => whnf)
      | refine ⟨Nat.zero_lt_one, rfl, ?_⟩
      | refine ⟨rfl, ?_⟩
      | refine ⟨⟨Nat.zero_lt_one, rfl⟩, Nat.le_of_ble_eq_true rfl, ?_⟩
      | refine ⟨Nat.le_of_ble_eq_true rfl, Nat.le_of_ble_eq_true rfl, ?_⟩
      | refine ⟨(by first | exact Nat.zero_lt_one | assumption | omega), (by first | assumption | exact vp_in_nI (by omega) (by omega) | (unfold vp_in; decide)), ?_⟩
      | refine ⟨(by first | exact Nat.zero_lt_one | assumption | omega), rfl, ?_⟩
      | refine ⟨⟨(by first | exact Nat.zero_lt_one | assumption | omega), rfl⟩, Nat.le_of_ble_eq_true rfl, ?_⟩
      | refine ⟨(by first | exact Nat.zero_lt_one | assumption | omega), ?_⟩
      | refine ⟨Or.inl rfl, ?_⟩
      | refine ⟨Or.inr (Or.inl rfl), ?_⟩
      | refine ⟨Or.inr (Or.inr rfl), ?_⟩
      | refine ⟨Or.inr ⟨rfl, (by first | exact Or.inl rfl | exact Or.inr rfl | assumption)⟩, ?_⟩
      | refine ⟨fun h => absurd h (by decide), fun _ => ?_⟩
      | refine ⟨fun _ => ?_, fun h => absurd h (by decide)⟩
      | refine ⟨fun h => ?_, fun h => ?_⟩
      | fail)
  -- more is 0 at 72
  have end1 : ∀ μ1 : zMu, K none μ1 → zG S (d + 3) m_Mo_readTests K 72 [some (zR 48 0), some (zI (nI r)), some (zI 0)] [] μ1 := fun μ1 hk => by
    repeat' (first
      | exact end0 _ hk
      | (refine zs k_Mo_readTests rfl ?_; conv => whnf)
      | refine ⟨Nat.zero_lt_one, rfl, ?_⟩
      | refine ⟨rfl, ?_⟩
      | refine ⟨⟨Nat.zero_lt_one, rfl⟩, Nat.le_of_ble_eq_true rfl, ?_⟩
      | refine ⟨Nat.le_of_ble_eq_true rfl, Nat.le_of_ble_eq_true rfl, ?_⟩
      | refine ⟨(by first | exact Nat.zero_lt_one | assumption | omega), (by first | assumption | exact vp_in_nI (by omega) (by omega) | (unfold vp_in; decide)), ?_⟩
      | refine ⟨(by first | exact Nat.zero_lt_one | assumption | omega), rfl, ?_⟩
      | refine ⟨⟨(by first | exact Nat.zero_lt_one | assumption | omega), rfl⟩, Nat.le_of_ble_eq_true rfl, ?_⟩
      | refine ⟨(by first | exact Nat.zero_lt_one | assumption | omega), ?_⟩
      | refine ⟨Or.inl rfl, ?_⟩
      | refine ⟨Or.inr (Or.inl rfl), ?_⟩
      | refine ⟨Or.inr (Or.inr rfl), ?_⟩
      | refine ⟨Or.inr ⟨rfl, (by first | exact Or.inl rfl | exact Or.inr rfl | assumption)⟩, ?_⟩
      | refine ⟨fun h => absurd h (by decide), fun _ => ?_⟩
      | refine ⟨fun _ => ?_, fun h => absurd h (by decide)⟩
      | refine ⟨fun h => ?_, fun h => ?_⟩
      | fail)
  -- a fault at 94, 112, 190
  have end2 : ∀ μ1 : zMu, 0 ≤ μ1 48 0 29 → K none μ1 → zG S (d + 3) m_Mo_readTests K 190 [some (zR 48 0), some (zI (nI r)), some (zI 1)] [] μ1 := fun μ1 hf hk => by
    repeat' (first
      | refine br_t hf ?_
      | exact end0 _ hk
      | (refine zs k_Mo_readTests rfl ?_; conv => whnf)
      | refine ⟨Nat.zero_lt_one, rfl, ?_⟩
      | refine ⟨rfl, ?_⟩
      | refine ⟨⟨Nat.zero_lt_one, rfl⟩, Nat.le_of_ble_eq_true rfl, ?_⟩
      | refine ⟨Nat.le_of_ble_eq_true rfl, Nat.le_of_ble_eq_true rfl, ?_⟩
      | refine ⟨(by first | exact Nat.zero_lt_one | assumption | omega), (by first | assumption | exact vp_in_nI (by omega) (by omega) | (unfold vp_in; decide)), ?_⟩
      | refine ⟨(by first | exact Nat.zero_lt_one | assumption | omega), rfl, ?_⟩
      | refine ⟨⟨(by first | exact Nat.zero_lt_one | assumption | omega), rfl⟩, Nat.le_of_ble_eq_true rfl, ?_⟩
      | refine ⟨(by first | exact Nat.zero_lt_one | assumption | omega), ?_⟩
      | refine ⟨Or.inl rfl, ?_⟩
      | refine ⟨Or.inr (Or.inl rfl), ?_⟩
      | refine ⟨Or.inr (Or.inr rfl), ?_⟩
      | refine ⟨Or.inr ⟨rfl, (by first | exact Or.inl rfl | exact Or.inr rfl | assumption)⟩, ?_⟩
      | refine ⟨fun h => absurd h (by decide), fun _ => ?_⟩
      | refine ⟨fun _ => ?_, fun h => absurd h (by decide)⟩
      | refine ⟨fun h => ?_, fun h => ?_⟩
      | fail)
  have end3 : ∀ μ1 : zMu, 0 ≤ μ1 48 0 29 → K none μ1 → zG S (d + 3) m_Mo_readTests K 112 [some (zR 48 0), some (zI (nI r)), some (zI 1)] [] μ1 := fun μ1 hf hk => by
    repeat' (first
      | exact end2 _ hf hk
      | refine br_t hf ?_
      | (refine zs k_Mo_readTests rfl ?_; conv => whnf)
      | refine ⟨Nat.zero_lt_one, rfl, ?_⟩
      | refine ⟨rfl, ?_⟩
      | refine ⟨⟨Nat.zero_lt_one, rfl⟩, Nat.le_of_ble_eq_true rfl, ?_⟩
      | refine ⟨Nat.le_of_ble_eq_true rfl, Nat.le_of_ble_eq_true rfl, ?_⟩
      | refine ⟨(by first | exact Nat.zero_lt_one | assumption | omega), (by first | assumption | exact vp_in_nI (by omega) (by omega) | (unfold vp_in; decide)), ?_⟩
      | refine ⟨(by first | exact Nat.zero_lt_one | assumption | omega), rfl, ?_⟩
      | refine ⟨⟨(by first | exact Nat.zero_lt_one | assumption | omega), rfl⟩, Nat.le_of_ble_eq_true rfl, ?_⟩
      | refine ⟨(by first | exact Nat.zero_lt_one | assumption | omega), ?_⟩
      | refine ⟨Or.inl rfl, ?_⟩
      | refine ⟨Or.inr (Or.inl rfl), ?_⟩
      | refine ⟨Or.inr (Or.inr rfl), ?_⟩
      | refine ⟨Or.inr ⟨rfl, (by first | exact Or.inl rfl | exact Or.inr rfl | assumption)⟩, ?_⟩
      | refine ⟨fun h => absurd h (by decide), fun _ => ?_⟩
      | refine ⟨fun _ => ?_, fun h => absurd h (by decide)⟩
      | refine ⟨fun h => ?_, fun h => ?_⟩
      | fail)
  have core : ∀ (j : Nat) (any any' : Int32) (q q4 q' : zQ) (t : rT) (ts pre : List rT) (μ1 : zMu), j ≤ 3 → q.2 = -1 → q.1 ≤ n → qTR a n q t q4 → (¬ qMore n q4 → ts = [] ∧ any' = any ∧ q' = q4) → gF r μ μ1 → μ1 48 0 28 = nI q.1 → μ1 48 0 29 = -1 → μ1 72 0 r = nI j → μ1 69 0 r = any → (any = 0 ∨ any = 1) → pre.length = j → (∀ i e, pre[i]? = some e → tE μ1 (4 * r + i) e) →
      (∀ μ' fl, gF r μ μ' → ((qMore n q' ∧ fl = nI q'.1) ∨ (¬ qMore n q' ∧ fl = q'.2)) → μ' 48 0 29 = fl → (¬ fl = -1 → 0 ≤ fl) → (fl = -1 → μ' 72 0 r = nI (pre ++ t :: ts).length ∧ (pre ++ t :: ts).length ≤ 4 ∧ μ' 69 0 r = any' ∧ (any' = 0 ∨ any' = 1) ∧ ∀ i e, (pre ++ t :: ts)[i]? = some e → tE μ' (4 * r + i) e) → K none μ') →
      (qMore n q4 → ∀ μ2, gF r μ μ2 → μ2 48 0 28 = nI q4.1 → μ2 48 0 29 = -1 → μ2 72 0 r = nI (j + 1) → μ2 69 0 r = any → (∀ i e, (pre ++ [t])[i]? = some e → tE μ2 (4 * r + i) e) → zG S (d + 3) m_Mo_readTests K 72 [some (zR 48 0), some (zI (nI r)), some (zI 1)] [] μ2) → zG S (d + 3) m_Mo_readTests K 20 [some (zR 48 0), some (zI (nI r)), some (zI 1)] [] μ1 := by
    intro j any any' q q4 q' t ts pre μ1 hj3 o2 hqn eT hno F s28 s29 s72 s69 hany hpl hpre hK hmore
    have h4n := qTR_n hqn eT
    have v72 : μ1 72 0 (nI r).toNatClampNeg = nI j := by rw [cr]; exact s72
    have mi : (4 : Int32) * nI r + μ1 72 0 (nI r).toNatClampNeg = nI (4 * r + j) := by rw [m4, v72, nI_add]
    have fin : ∀ μ2 : zMu, mF (4 * r + j) μ1 μ2 → μ2 48 0 29 = q4.2 → (q4.2 = -1 → μ2 48 0 28 = nI q4.1 ∧ tE μ2 (4 * r + j) t) → (¬ q4.2 = -1 → 0 ≤ q4.2) → zG S (d + 3) m_Mo_readTests K 38 [some (zR 48 0), some (zI (nI r)), some (zI 1)] [] μ2 := fun μ2 F2 f29 fv fp => by
      have G2 := gF_mF F (by omega) F2
      have w72 : μ2 72 0 r = nI j := by rw [F2.1 72 (by decide)]; exact s72
      have G3 : gF r μ (zu μ2 72 0 r (nI (j + 1))) := gF_r G2 (by decide)
      have hst : ∀ r', r' = r → zu μ2 72 0 r' (μ2 72 0 r' + 1) = zu μ2 72 0 r (nI (j + 1)) := fun r' h => by
        rw [h, w72, nI_1]
      have ent : q4.2 = -1 → ∀ i e, (pre ++ [t])[i]? = some e → tE (zu μ2 72 0 r (nI (j + 1))) (4 * r + i) e := fun z i e he => by
        show tE μ2 (4 * r + i) e
        rcases Nat.lt_or_ge i j with w | w
        · rw [List.getElem?_append_left (by omega)] at he
          have := hpre i e he
          unfold tE at *
          rw [F2.2.2 73 (by decide) _ (by omega), F2.2.2 74 (by decide) _ (by omega), F2.2.2 75 (by decide) _ (by omega), F2.2.2 76 (by decide) _ (by omega), F2.2.2 77 (by decide) _ (by omega)]
          exact this
        · rw [List.getElem?_append_right (by omega)] at he
          have hi : i = j := by
            have := (List.getElem?_eq_some_iff.mp he).1
            simp at this
            omega
          subst hi
          rw [hpl, Nat.sub_self] at he
          cases he
          exact (fv z).2
      have e69 : zu μ2 72 0 r (nI (j + 1)) 69 0 r = any := by
        show μ2 69 0 r = any
        rw [F2.1 69 (by decide)]
        exact s69
      by_cases o4 : q4.2 = -1
      case neg =>
        have hnm : ¬ qMore n q4 := fun z => o4 z.1
        obtain ⟨rfl, rfl, rfl⟩ := hno hnm
        have hk := hK (zu μ2 72 0 r (nI (j + 1))) q'.2 G3 (Or.inr ⟨hnm, rfl⟩) f29 fp (fun z => absurd z o4)
        have hf : 0 ≤ μ2 48 0 29 := by rw [f29]; exact fp o4
        have e1 : zG S (d + 3) m_Mo_readTests K 48 [some (zR 48 0), some (zI (nI r)), some (zI 1)] [] (zu μ2 72 0 r (nI (j + 1))) := by
          repeat' (first
            | exact end1 _ hk
            | refine br_t hf ?_
            | (refine zs k_Mo_readTests rfl ?_; conv => whnf)
            | refine ⟨Nat.zero_lt_one, rfl, ?_⟩
            | refine ⟨rfl, ?_⟩
            | refine ⟨⟨Nat.zero_lt_one, rfl⟩, Nat.le_of_ble_eq_true rfl, ?_⟩
            | refine ⟨Nat.le_of_ble_eq_true rfl, Nat.le_of_ble_eq_true rfl, ?_⟩
            | refine ⟨(by first | exact Nat.zero_lt_one | assumption | omega), (by first | assumption | exact vp_in_nI (by omega) (by omega) | (unfold vp_in; decide)), ?_⟩
            | refine ⟨(by first | exact Nat.zero_lt_one | assumption | omega), rfl, ?_⟩
            | refine ⟨⟨(by first | exact Nat.zero_lt_one | assumption | omega), rfl⟩, Nat.le_of_ble_eq_true rfl, ?_⟩
            | refine ⟨(by first | exact Nat.zero_lt_one | assumption | omega), ?_⟩
            | refine ⟨Or.inl rfl, ?_⟩
            | refine ⟨Or.inr (Or.inl rfl), ?_⟩
            | refine ⟨Or.inr (Or.inr rfl), ?_⟩
            | refine ⟨Or.inr ⟨rfl, (by first | exact Or.inl rfl | exact Or.inr rfl | assumption)⟩, ?_⟩
            | refine ⟨fun h => absurd h (by decide), fun _ => ?_⟩
            | refine ⟨fun _ => ?_, fun h => absurd h (by decide)⟩
            | refine ⟨fun h => ?_, fun h => ?_⟩
            | fail)
        repeat' (first
          | (rw [hst _ cr]; exact e1)
          | (refine zs k_Mo_readTests rfl ?_; conv => whnf)
          | refine ⟨Nat.zero_lt_one, rfl, ?_⟩
          | refine ⟨rfl, ?_⟩
          | refine ⟨⟨Nat.zero_lt_one, rfl⟩, Nat.le_of_ble_eq_true rfl, ?_⟩
          | refine ⟨Nat.le_of_ble_eq_true rfl, Nat.le_of_ble_eq_true rfl, ?_⟩
          | refine ⟨(by first | exact Nat.zero_lt_one | assumption | omega), (by first | assumption | exact vp_in_nI (by omega) (by omega) | (unfold vp_in; decide)), ?_⟩
          | refine ⟨(by first | exact Nat.zero_lt_one | assumption | omega), rfl, ?_⟩
          | refine ⟨⟨(by first | exact Nat.zero_lt_one | assumption | omega), rfl⟩, Nat.le_of_ble_eq_true rfl, ?_⟩
          | refine ⟨(by first | exact Nat.zero_lt_one | assumption | omega), ?_⟩
          | refine ⟨Or.inl rfl, ?_⟩
          | refine ⟨Or.inr (Or.inl rfl), ?_⟩
          | refine ⟨Or.inr (Or.inr rfl), ?_⟩
          | refine ⟨Or.inr ⟨rfl, (by first | exact Or.inl rfl | exact Or.inr rfl | assumption)⟩, ?_⟩
          | refine ⟨fun h => absurd h (by decide), fun _ => ?_⟩
          | refine ⟨fun _ => ?_, fun h => absurd h (by decide)⟩
          | refine ⟨fun h => ?_, fun h => ?_⟩
          | fail)
      have hf : ¬ 0 ≤ μ2 48 0 29 := i32 _ (f29.trans o4)
      have f28 := (fv o4).1
      have b14 : μ2 48 0 14 = nI n := (gF_E G2 E).1
      by_cases hm : qMore n q4
      · have hlt : ¬ μ2 48 0 14 ≤ μ2 48 0 28 := by rw [b14, f28]; exact nI_ge hm.2 (by omega)
        have hk := hmore hm (zu μ2 72 0 r (nI (j + 1))) G3 f28 (f29.trans o4) zu_eq e69 (ent o4)
        have e1 : zG S (d + 3) m_Mo_readTests K 48 [some (zR 48 0), some (zI (nI r)), some (zI 1)] [] (zu μ2 72 0 r (nI (j + 1))) := by
          repeat' (first
            | exact hk
            | refine br_f hf ?_
            | refine br_f hlt ?_
            | (refine zs k_Mo_readTests rfl ?_; conv => whnf)
            | refine ⟨Nat.zero_lt_one, rfl, ?_⟩
            | refine ⟨rfl, ?_⟩
            | refine ⟨⟨Nat.zero_lt_one, rfl⟩, Nat.le_of_ble_eq_true rfl, ?_⟩
            | refine ⟨Nat.le_of_ble_eq_true rfl, Nat.le_of_ble_eq_true rfl, ?_⟩
            | refine ⟨(by first | exact Nat.zero_lt_one | assumption | omega), (by first | assumption | exact vp_in_nI (by omega) (by omega) | (unfold vp_in; decide)), ?_⟩
            | refine ⟨(by first | exact Nat.zero_lt_one | assumption | omega), rfl, ?_⟩
            | refine ⟨⟨(by first | exact Nat.zero_lt_one | assumption | omega), rfl⟩, Nat.le_of_ble_eq_true rfl, ?_⟩
            | refine ⟨(by first | exact Nat.zero_lt_one | assumption | omega), ?_⟩
            | refine ⟨Or.inl rfl, ?_⟩
            | refine ⟨Or.inr (Or.inl rfl), ?_⟩
            | refine ⟨Or.inr (Or.inr rfl), ?_⟩
            | refine ⟨Or.inr ⟨rfl, (by first | exact Or.inl rfl | exact Or.inr rfl | assumption)⟩, ?_⟩
            | refine ⟨fun h => absurd h (by decide), fun _ => ?_⟩
            | refine ⟨fun _ => ?_, fun h => absurd h (by decide)⟩
            | refine ⟨fun h => ?_, fun h => ?_⟩
            | fail)
        repeat' (first
          | (rw [hst _ cr]; exact e1)
          | (refine zs k_Mo_readTests rfl ?_; conv => whnf)
          | refine ⟨Nat.zero_lt_one, rfl, ?_⟩
          | refine ⟨rfl, ?_⟩
          | refine ⟨⟨Nat.zero_lt_one, rfl⟩, Nat.le_of_ble_eq_true rfl, ?_⟩
          | refine ⟨Nat.le_of_ble_eq_true rfl, Nat.le_of_ble_eq_true rfl, ?_⟩
          | refine ⟨(by first | exact Nat.zero_lt_one | assumption | omega), (by first | assumption | exact vp_in_nI (by omega) (by omega) | (unfold vp_in; decide)), ?_⟩
          | refine ⟨(by first | exact Nat.zero_lt_one | assumption | omega), rfl, ?_⟩
          | refine ⟨⟨(by first | exact Nat.zero_lt_one | assumption | omega), rfl⟩, Nat.le_of_ble_eq_true rfl, ?_⟩
          | refine ⟨(by first | exact Nat.zero_lt_one | assumption | omega), ?_⟩
          | refine ⟨Or.inl rfl, ?_⟩
          | refine ⟨Or.inr (Or.inl rfl), ?_⟩
          | refine ⟨Or.inr (Or.inr rfl), ?_⟩
          | refine ⟨Or.inr ⟨rfl, (by first | exact Or.inl rfl | exact Or.inr rfl | assumption)⟩, ?_⟩
          | refine ⟨fun h => absurd h (by decide), fun _ => ?_⟩
          | refine ⟨fun _ => ?_, fun h => absurd h (by decide)⟩
          | refine ⟨fun h => ?_, fun h => ?_⟩
          | fail)
      · have hge : μ2 48 0 14 ≤ μ2 48 0 28 := by
          rw [b14, f28]
          refine nI_le ?_ (by omega)
          rcases Nat.lt_or_ge q4.1 n with z | z
          · exact absurd ⟨o4, z⟩ hm
          · exact z
        obtain ⟨rfl, rfl, rfl⟩ := hno hm
        have hk := hK (zu μ2 72 0 r (nI (j + 1))) q'.2 G3 (Or.inr ⟨hm, rfl⟩) f29 fp (fun _ => ⟨by rw [zu_eq, List.length_append, hpl]; rfl, by rw [List.length_append, hpl]; simp; omega, e69, hany, ent o4⟩)
        have e1 : zG S (d + 3) m_Mo_readTests K 48 [some (zR 48 0), some (zI (nI r)), some (zI 1)] [] (zu μ2 72 0 r (nI (j + 1))) := by
          repeat' (first
            | exact end1 _ hk
            | refine br_f hf ?_
            | refine br_t hge ?_
            | (refine zs k_Mo_readTests rfl ?_; conv => whnf)
            | refine ⟨Nat.zero_lt_one, rfl, ?_⟩
            | refine ⟨rfl, ?_⟩
            | refine ⟨⟨Nat.zero_lt_one, rfl⟩, Nat.le_of_ble_eq_true rfl, ?_⟩
            | refine ⟨Nat.le_of_ble_eq_true rfl, Nat.le_of_ble_eq_true rfl, ?_⟩
            | refine ⟨(by first | exact Nat.zero_lt_one | assumption | omega), (by first | assumption | exact vp_in_nI (by omega) (by omega) | (unfold vp_in; decide)), ?_⟩
            | refine ⟨(by first | exact Nat.zero_lt_one | assumption | omega), rfl, ?_⟩
            | refine ⟨⟨(by first | exact Nat.zero_lt_one | assumption | omega), rfl⟩, Nat.le_of_ble_eq_true rfl, ?_⟩
            | refine ⟨(by first | exact Nat.zero_lt_one | assumption | omega), ?_⟩
            | refine ⟨Or.inl rfl, ?_⟩
            | refine ⟨Or.inr (Or.inl rfl), ?_⟩
            | refine ⟨Or.inr (Or.inr rfl), ?_⟩
            | refine ⟨Or.inr ⟨rfl, (by first | exact Or.inl rfl | exact Or.inr rfl | assumption)⟩, ?_⟩
            | refine ⟨fun h => absurd h (by decide), fun _ => ?_⟩
            | refine ⟨fun _ => ?_, fun h => absurd h (by decide)⟩
            | refine ⟨fun h => ?_, fun h => ?_⟩
            | fail)
        repeat' (first
          | (rw [hst _ cr]; exact e1)
          | (refine zs k_Mo_readTests rfl ?_; conv => whnf)
          | refine ⟨Nat.zero_lt_one, rfl, ?_⟩
          | refine ⟨rfl, ?_⟩
          | refine ⟨⟨Nat.zero_lt_one, rfl⟩, Nat.le_of_ble_eq_true rfl, ?_⟩
          | refine ⟨Nat.le_of_ble_eq_true rfl, Nat.le_of_ble_eq_true rfl, ?_⟩
          | refine ⟨(by first | exact Nat.zero_lt_one | assumption | omega), (by first | assumption | exact vp_in_nI (by omega) (by omega) | (unfold vp_in; decide)), ?_⟩
          | refine ⟨(by first | exact Nat.zero_lt_one | assumption | omega), rfl, ?_⟩
          | refine ⟨⟨(by first | exact Nat.zero_lt_one | assumption | omega), rfl⟩, Nat.le_of_ble_eq_true rfl, ?_⟩
          | refine ⟨(by first | exact Nat.zero_lt_one | assumption | omega), ?_⟩
          | refine ⟨Or.inl rfl, ?_⟩
          | refine ⟨Or.inr (Or.inl rfl), ?_⟩
          | refine ⟨Or.inr (Or.inr rfl), ?_⟩
          | refine ⟨Or.inr ⟨rfl, (by first | exact Or.inl rfl | exact Or.inr rfl | assumption)⟩, ?_⟩
          | refine ⟨fun h => absurd h (by decide), fun _ => ?_⟩
          | refine ⟨fun _ => ?_, fun h => absurd h (by decide)⟩
          | refine ⟨fun h => ?_, fun h => ?_⟩
          | fail)
    refine zs k_Mo_readTests rfl ?_; conv => whnf
    repeat' (first
      | refine c_Mo_readTest (q := q) (q' := q4) (t := t) (gF_E F E) s28 s29 o2 hqn mi (by omega) eT (fun μ2 F2 f29 fv fp => ?_)
      | exact fin μ2 F2 f29 (fun z => ⟨(fv z).1, (fv z).2⟩) fp
      | (refine zs k_Mo_readTests rfl ?_; conv => whnf)
      | refine ⟨Nat.zero_lt_one, rfl, ?_⟩
      | refine ⟨rfl, ?_⟩
      | refine ⟨⟨Nat.zero_lt_one, rfl⟩, Nat.le_of_ble_eq_true rfl, ?_⟩
      | refine ⟨Nat.le_of_ble_eq_true rfl, Nat.le_of_ble_eq_true rfl, ?_⟩
      | refine ⟨(by first | exact Nat.zero_lt_one | assumption | omega), (by first | assumption | exact vp_in_nI (by omega) (by omega) | (unfold vp_in; decide)), ?_⟩
      | refine ⟨(by first | exact Nat.zero_lt_one | assumption | omega), rfl, ?_⟩
      | refine ⟨⟨(by first | exact Nat.zero_lt_one | assumption | omega), rfl⟩, Nat.le_of_ble_eq_true rfl, ?_⟩
      | refine ⟨(by first | exact Nat.zero_lt_one | assumption | omega), ?_⟩
      | refine ⟨Or.inl rfl, ?_⟩
      | refine ⟨Or.inr (Or.inl rfl), ?_⟩
      | refine ⟨Or.inr (Or.inr rfl), ?_⟩
      | refine ⟨Or.inr ⟨rfl, (by first | exact Or.inl rfl | exact Or.inr rfl | assumption)⟩, ?_⟩
      | refine ⟨fun h => absurd h (by decide), fun _ => ?_⟩
      | refine ⟨fun _ => ?_, fun h => absurd h (by decide)⟩
      | refine ⟨fun h => ?_, fun h => ?_⟩
      | fail)
  have L : ∀ (k j : Nat) (any any' : Int32) (q q4 q' : zQ) (t : rT) (ts pre : List rT) (μ1 : zMu), j + k = 3 → q.2 = -1 → q.1 ≤ n → qTR a n q t q4 → qLR a n k any q4 ts any' q' → gF r μ μ1 → μ1 48 0 28 = nI q.1 → μ1 48 0 29 = -1 → μ1 72 0 r = nI j → μ1 69 0 r = any → (any = 0 ∨ any = 1) → pre.length = j → (∀ i e, pre[i]? = some e → tE μ1 (4 * r + i) e) →
      (∀ μ' fl, gF r μ μ' → ((qMore n q' ∧ fl = nI q'.1) ∨ (¬ qMore n q' ∧ fl = q'.2)) → μ' 48 0 29 = fl → (¬ fl = -1 → 0 ≤ fl) → (fl = -1 → μ' 72 0 r = nI (pre ++ t :: ts).length ∧ (pre ++ t :: ts).length ≤ 4 ∧ μ' 69 0 r = any' ∧ (any' = 0 ∨ any' = 1) ∧ ∀ i e, (pre ++ t :: ts)[i]? = some e → tE μ' (4 * r + i) e) → K none μ') → zG S (d + 3) m_Mo_readTests K 20 [some (zR 48 0), some (zI (nI r)), some (zI 1)] [] μ1 := by
    intro k
    induction k with
    | zero =>
      intro j any any' q q4 q' t ts pre μ1 hjk o2 hqn eT eL F s28 s29 s72 s69 hany hpl hpre hK
      obtain rfl : j = 3 := by omega
      have h4n := qTR_n hqn eT
      refine core 3 any any' q q4 q' t ts pre μ1 (by omega) o2 hqn eT (fun _ => eL) F s28 s29 s72 s69 hany hpl hpre hK (fun hm μ2 G2 t28 t29 t72 t69 ent => ?_)
      obtain ⟨rfl, rfl, rfl⟩ : ts = [] ∧ any' = any ∧ q' = q4 := eL
      have hnn : ¬ nI q'.1 = -1 := nI_nem1 (by omega)
      have hk := hK (zu μ2 48 0 29 (nI q'.1)) (nI q'.1) (gF_fl G2) (Or.inl ⟨hm, rfl⟩) zu_eq (fun _ => nI_pos' (by omega)) (fun z => absurd z hnn)
      have c72 : μ2 72 0 (nI r).toNatClampNeg = 4 := by rw [cr, t72]; rfl
      have hst : zu μ2 48 0 29 (μ2 48 0 28) = zu μ2 48 0 29 (nI q'.1) := by rw [t28]
      have hf : 0 ≤ zu μ2 48 0 29 (nI q'.1) 48 0 29 := by rw [zu_eq]; exact nI_pos' (by omega)
      have e1 : zG S (d + 3) m_Mo_readTests K 94 [some (zR 48 0), some (zI (nI r)), some (zI 1)] [] (zu μ2 48 0 29 (nI q'.1)) := by
        repeat' (first
          | exact end3 _ hf hk
          | refine br_t hf ?_
          | (refine zs k_Mo_readTests rfl ?_; conv => whnf)
          | refine ⟨Nat.zero_lt_one, rfl, ?_⟩
          | refine ⟨rfl, ?_⟩
          | refine ⟨⟨Nat.zero_lt_one, rfl⟩, Nat.le_of_ble_eq_true rfl, ?_⟩
          | refine ⟨Nat.le_of_ble_eq_true rfl, Nat.le_of_ble_eq_true rfl, ?_⟩
          | refine ⟨(by first | exact Nat.zero_lt_one | assumption | omega), (by first | assumption | exact vp_in_nI (by omega) (by omega) | (unfold vp_in; decide)), ?_⟩
          | refine ⟨(by first | exact Nat.zero_lt_one | assumption | omega), rfl, ?_⟩
          | refine ⟨⟨(by first | exact Nat.zero_lt_one | assumption | omega), rfl⟩, Nat.le_of_ble_eq_true rfl, ?_⟩
          | refine ⟨(by first | exact Nat.zero_lt_one | assumption | omega), ?_⟩
          | refine ⟨Or.inl rfl, ?_⟩
          | refine ⟨Or.inr (Or.inl rfl), ?_⟩
          | refine ⟨Or.inr (Or.inr rfl), ?_⟩
          | refine ⟨Or.inr ⟨rfl, (by first | exact Or.inl rfl | exact Or.inr rfl | assumption)⟩, ?_⟩
          | refine ⟨fun h => absurd h (by decide), fun _ => ?_⟩
          | refine ⟨fun _ => ?_, fun h => absurd h (by decide)⟩
          | refine ⟨fun h => ?_, fun h => ?_⟩
          | fail)
      repeat' (first
        | (rw [hst]; exact e1)
        | refine bn_f c72 ?_
        | (refine zs k_Mo_readTests rfl ?_; conv => whnf)
        | refine ⟨Nat.zero_lt_one, rfl, ?_⟩
        | refine ⟨rfl, ?_⟩
        | refine ⟨⟨Nat.zero_lt_one, rfl⟩, Nat.le_of_ble_eq_true rfl, ?_⟩
        | refine ⟨Nat.le_of_ble_eq_true rfl, Nat.le_of_ble_eq_true rfl, ?_⟩
        | refine ⟨(by first | exact Nat.zero_lt_one | assumption | omega), (by first | assumption | exact vp_in_nI (by omega) (by omega) | (unfold vp_in; decide)), ?_⟩
        | refine ⟨(by first | exact Nat.zero_lt_one | assumption | omega), rfl, ?_⟩
        | refine ⟨⟨(by first | exact Nat.zero_lt_one | assumption | omega), rfl⟩, Nat.le_of_ble_eq_true rfl, ?_⟩
        | refine ⟨(by first | exact Nat.zero_lt_one | assumption | omega), ?_⟩
        | refine ⟨Or.inl rfl, ?_⟩
        | refine ⟨Or.inr (Or.inl rfl), ?_⟩
        | refine ⟨Or.inr (Or.inr rfl), ?_⟩
        | refine ⟨Or.inr ⟨rfl, (by first | exact Or.inl rfl | exact Or.inr rfl | assumption)⟩, ?_⟩
        | refine ⟨fun h => absurd h (by decide), fun _ => ?_⟩
        | refine ⟨fun _ => ?_, fun h => absurd h (by decide)⟩
        | refine ⟨fun h => ?_, fun h => ?_⟩
        | fail)
    | succ k ih =>
      intro j any any' q q4 q' t ts pre μ1 hjk o2 hqn eT eL F s28 s29 s72 s69 hany hpl hpre hK
      have h4n := qTR_n hqn eT
      refine core j any any' q q4 q' t ts pre μ1 (by omega) o2 hqn eT (fun z => qLR_no z eL) F s28 s29 s72 s69 hany hpl hpre hK (fun hm μ2 G2 t28 t29 t72 t69 ent => ?_)
      rcases eL with eL | ⟨-, p1, any1, w2, p2, p3, t', p4, ts', f1, f2, f3, fT, rfl, fL⟩
      · exact absurd hm eL.1
      have hp1n : p1.1 ≤ n := by rw [← f1]; exact qB_le h4n
      have E2 := gF_E G2 E
      have o4 := hm.1
      have ok4 : qOk q4 := ⟨by omega, Or.inl o4⟩
      have hX1 : mX a n [32] q4 = p1 := by rw [mX_b]; exact f1
      have ok1 : qOk p1 := by rw [← hX1]; exact mX_ok h200 (by decide) ok4
      have c72 : ¬ μ2 72 0 (nI r).toNatClampNeg = 4 := by
        rw [cr, t72]
        exact fun z => absurd ((nI_eq (b := 4) (by omega) (by omega)).mp z) (by omega)
      have hf2 : ¬ 0 ≤ μ2 48 0 29 := i32 _ t29
      have t29' : μ2 48 0 29 = q4.2 := by rw [t29, o4]
      have hp2n : p2.1 ≤ n := by
        by_cases hk2 : k = 2
        · rw [if_pos hk2] at f2
          have := qW_le (a := a) (n := n) (k := 10) (q := p1) (by omega) hp1n
          rw [f2.1] at this
          exact this
        · rw [if_neg hk2] at f2
          have := qW_le (a := a) (n := n) (k := if any = 0 then 12 else 11) (q := p1) (by split <;> omega) hp1n
          rw [f2.1] at this
          exact this
      have hp3n : p3.1 ≤ n := by rw [← f3]; exact qB_le hp2n
      -- behind a fault nothing more is read
      have stop : ¬ p3.2 = -1 → q' = p3 ∧ ¬ qMore n q' := fun z => by
        have h4 := qTR_ft z fT
        subst h4
        obtain ⟨-, -, h5⟩ := qLR_no (fun w => z w.1) fL
        exact ⟨h5, fun w => z (by rw [← h5]; exact w.1)⟩
      have stop1 : ¬ p1.2 = -1 → p3 = p1 := fun z => by
        have h2 : p2 = p1 := by
          by_cases hk2 : k = 2
          · rw [if_pos hk2, qW_ft z] at f2
            exact (Prod.mk.inj f2.1).2.symm
          · rw [if_neg hk2, qW_ft z] at f2
            exact (Prod.mk.inj f2.1).2.symm
        rw [← f3, h2, qB_ft z]
      -- at 190
      have S190 : ∀ (μ3 : zMu) (Q : zQ), gF r μ μ3 → μ3 48 0 28 = nI Q.1 → μ3 48 0 29 = Q.2 → qOk Q → eqQ p3 Q → μ3 72 0 r = nI (j + 1) → (p3.2 = -1 → μ3 69 0 r = any1 ∧ (any1 = 0 ∨ any1 = 1)) → (∀ i e, (pre ++ [t])[i]? = some e → tE μ3 (4 * r + i) e) → zG S (d + 3) m_Mo_readTests K 190 [some (zR 48 0), some (zI (nI r)), some (zI 1)] [] μ3 := fun μ3 Q G3 u28 u29 okQ heQ u72 u69 ent3 => by
        by_cases o3 : p3.2 = -1
        · obtain rfl := (eqQ_1 heQ o3).symm
          have hf3 : ¬ 0 ≤ μ3 48 0 29 := i32 _ (u29.trans o3)
          obtain ⟨u691, u692⟩ := u69 o3
          have hgo := ih (j + 1) any1 any' p3 p4 q' t' ts' (pre ++ [t]) μ3 (by omega) o3 hp3n fT fL G3 u28 (u29.trans o3) u72 u691 u692 (by rw [List.length_append, hpl]; rfl) ent3 (fun μ' fl g1 g2 g3 g3b g4 => hK μ' fl g1 g2 g3 g3b (fun z => by
            have := g4 z
            rw [List.append_assoc] at this
            exact this))
          repeat' (first
            | exact hgo
            | refine br_f hf3 ?_
            | (refine zs k_Mo_readTests rfl ?_; conv => whnf)
            | refine ⟨Nat.zero_lt_one, rfl, ?_⟩
            | refine ⟨rfl, ?_⟩
            | refine ⟨⟨Nat.zero_lt_one, rfl⟩, Nat.le_of_ble_eq_true rfl, ?_⟩
            | refine ⟨Nat.le_of_ble_eq_true rfl, Nat.le_of_ble_eq_true rfl, ?_⟩
            | refine ⟨(by first | exact Nat.zero_lt_one | assumption | omega), (by first | assumption | exact vp_in_nI (by omega) (by omega) | (unfold vp_in; decide)), ?_⟩
            | refine ⟨(by first | exact Nat.zero_lt_one | assumption | omega), rfl, ?_⟩
            | refine ⟨⟨(by first | exact Nat.zero_lt_one | assumption | omega), rfl⟩, Nat.le_of_ble_eq_true rfl, ?_⟩
            | refine ⟨(by first | exact Nat.zero_lt_one | assumption | omega), ?_⟩
            | refine ⟨Or.inl rfl, ?_⟩
            | refine ⟨Or.inr (Or.inl rfl), ?_⟩
            | refine ⟨Or.inr (Or.inr rfl), ?_⟩
            | refine ⟨Or.inr ⟨rfl, (by first | exact Or.inl rfl | exact Or.inr rfl | assumption)⟩, ?_⟩
            | refine ⟨fun h => absurd h (by decide), fun _ => ?_⟩
            | refine ⟨fun _ => ?_, fun h => absurd h (by decide)⟩
            | refine ⟨fun h => ?_, fun h => ?_⟩
            | fail)
        · obtain ⟨h5, h6⟩ := stop o3
          have hf3 : 0 ≤ μ3 48 0 29 := by
            rw [u29]
            rcases qOk_neg okQ with ⟨z, -⟩ | ⟨-, z⟩
            · exact absurd (heQ.1.symm.trans z) o3
            · exact z
          have hk := hK μ3 q'.2 G3 (Or.inr ⟨h6, rfl⟩) (by rw [u29, heQ.1, h5]) (fun _ => by rw [h5, ← heQ.1, ← u29]; exact hf3) (fun z => absurd (by rw [← h5]; exact z) o3)
          exact end2 μ3 hf3 hk
      -- at 112
      have G4 : gF r μ (cM μ2 p1) := gF_cM G2
      have S112 : zG S (d + 3) m_Mo_readTests K 112 [some (zR 48 0), some (zI (nI r)), some (zI 1)] [] (cM μ2 p1) := by
        have u28 : cM μ2 p1 48 0 28 = nI p1.1 := cM_28
        have u29 : cM μ2 p1 48 0 29 = p1.2 := cM_29
        have u72 : cM μ2 p1 72 0 r = nI (j + 1) := t72
        have u69 : cM μ2 p1 69 0 r = any := t69
        have ent4 : ∀ i e, (pre ++ [t])[i]? = some e → tE (cM μ2 p1) (4 * r + i) e := ent
        have E4 := gF_E G4 E
        generalize cM μ2 p1 = ν at *
        by_cases o1 : p1.2 = -1
        case neg =>
          have hf4 : 0 ≤ ν 48 0 29 := by
            rw [u29]
            rcases qOk_neg ok1 with ⟨z, -⟩ | ⟨-, z⟩
            · exact absurd z o1
            · exact z
          have h3 := stop1 o1
          obtain ⟨h5, h6⟩ := stop (by rw [h3]; exact o1)
          have hk := hK ν q'.2 G4 (Or.inr ⟨h6, rfl⟩) (by rw [u29, h5, h3]) (fun _ => by rw [h5, h3, ← u29]; exact hf4) (fun z => absurd (by rw [← h3, ← h5]; exact z) o1)
          exact end3 ν hf4 hk
        have hf4 : ¬ 0 ≤ ν 48 0 29 := i32 _ (u29.trans o1)
        have exC : ∀ (cs : List Int32), cs.length ≤ 3 → eqQ p2 (mX a n cs p1) → eqQ p3 (mX a n (cs ++ [32]) p1) := fun cs hl he => by
          rw [mX_app (by omega), ← f3]
          exact eqQ_B he
        by_cases hj0 : j = 0
        · have hk2 : k = 2 := by omega
          rw [if_pos hk2] at f2
          obtain ⟨y1, y2⟩ := w10_eq (by omega) o1 f2.1
          have c1 : ν 72 0 (nI r).toNatClampNeg = 1 := by rw [cr, u72, hj0]; rfl
          by_cases l : pB a n p1.1 = 111
          · obtain ⟨z1, z2⟩ := y1 l
            have G5 : gF r μ (zu ν 69 0 r 1) := gF_r G4 (by decide)
            have hst : ∀ r', r' = r → zu ν 69 0 r' (vp_nar .boolean 1) = zu ν 69 0 r 1 := fun r' h => by rw [h]; rfl
            have hgo := S190 (cM (zu ν 69 0 r 1) (mX a n [111, 114, 32] p1)) (mX a n [111, 114, 32] p1) (gF_cM G5) cM_28 cM_29 (mX_ok h200 (by decide) ok1) (exC [111, 114] (by decide) z1) (by rw [cM_o (by omega), zu_ne (by omega)]; exact u72) (fun z => ⟨by
              rw [cM_o (by omega), zu_eq, f2.2]
              have : p2.2 = -1 := by
                by_cases w : p2.2 = -1
                · exact w
                · rw [← f3, qB_ft w] at z
                  exact absurd z w
              rw [z2 this]
              rfl, by rw [f2.2]; split <;> simp⟩) (fun i e he => by
              have := ent4 i e he
              unfold tE at *
              rw [cM_o (by omega), cM_o (by omega), cM_o (by omega), cM_o (by omega), cM_o (by omega), zu_ne (by omega), zu_ne (by omega), zu_ne (by omega), zu_ne (by omega), zu_ne (by omega)]
              exact this)
            have ne0 : ¬ zu ν 69 0 r 1 69 0 (nI r).toNatClampNeg = 0 := by rw [cr, zu_eq]; decide
            have e1 : zG S (d + 3) m_Mo_readTests K 153 [some (zR 48 0), some (zI (nI r)), some (zI 1)] [] (zu ν 69 0 r 1) := by
              repeat' (first
                | exact hgo
                | refine br_f hf4 ?_
                | refine br_f ne0 ?_
                | refine c_Mo_expect (cs := [111, 114, 32]) (q := p1) (gF_E G5 E) u28 u29 ok1 rfl (by decide) (by decide) (by decide) ?_
                | (refine zs k_Mo_readTests rfl ?_; conv => whnf)
                | refine ⟨Nat.zero_lt_one, rfl, ?_⟩
                | refine ⟨rfl, ?_⟩
                | refine ⟨⟨Nat.zero_lt_one, rfl⟩, Nat.le_of_ble_eq_true rfl, ?_⟩
                | refine ⟨Nat.le_of_ble_eq_true rfl, Nat.le_of_ble_eq_true rfl, ?_⟩
                | refine ⟨(by first | exact Nat.zero_lt_one | assumption | omega), (by first | assumption | exact vp_in_nI (by omega) (by omega) | (unfold vp_in; decide)), ?_⟩
                | refine ⟨(by first | exact Nat.zero_lt_one | assumption | omega), rfl, ?_⟩
                | refine ⟨⟨(by first | exact Nat.zero_lt_one | assumption | omega), rfl⟩, Nat.le_of_ble_eq_true rfl, ?_⟩
                | refine ⟨(by first | exact Nat.zero_lt_one | assumption | omega), ?_⟩
                | refine ⟨Or.inl rfl, ?_⟩
                | refine ⟨Or.inr (Or.inl rfl), ?_⟩
                | refine ⟨Or.inr (Or.inr rfl), ?_⟩
                | refine ⟨Or.inr ⟨rfl, (by first | exact Or.inl rfl | exact Or.inr rfl | assumption)⟩, ?_⟩
                | refine ⟨fun h => absurd h (by decide), fun _ => ?_⟩
                | refine ⟨fun _ => ?_, fun h => absurd h (by decide)⟩
                | refine ⟨fun h => ?_, fun h => ?_⟩
                | fail)
            repeat' (first
              | (rw [hst _ cr]; exact e1)
              | refine br_f hf4 ?_
              | refine bn_f c1 ?_
              | refine c_Mo_letter E4 u28 (by omega) ?_
              | refine bn_f l ?_
              | (refine zs k_Mo_readTests rfl ?_; conv => whnf)
              | refine ⟨Nat.zero_lt_one, rfl, ?_⟩
              | refine ⟨rfl, ?_⟩
              | refine ⟨⟨Nat.zero_lt_one, rfl⟩, Nat.le_of_ble_eq_true rfl, ?_⟩
              | refine ⟨Nat.le_of_ble_eq_true rfl, Nat.le_of_ble_eq_true rfl, ?_⟩
              | refine ⟨(by first | exact Nat.zero_lt_one | assumption | omega), (by first | assumption | exact vp_in_nI (by omega) (by omega) | (unfold vp_in; decide)), ?_⟩
              | refine ⟨(by first | exact Nat.zero_lt_one | assumption | omega), rfl, ?_⟩
              | refine ⟨⟨(by first | exact Nat.zero_lt_one | assumption | omega), rfl⟩, Nat.le_of_ble_eq_true rfl, ?_⟩
              | refine ⟨(by first | exact Nat.zero_lt_one | assumption | omega), ?_⟩
              | refine ⟨Or.inl rfl, ?_⟩
              | refine ⟨Or.inr (Or.inl rfl), ?_⟩
              | refine ⟨Or.inr (Or.inr rfl), ?_⟩
              | refine ⟨Or.inr ⟨rfl, (by first | exact Or.inl rfl | exact Or.inr rfl | assumption)⟩, ?_⟩
              | refine ⟨fun h => absurd h (by decide), fun _ => ?_⟩
              | refine ⟨fun _ => ?_, fun h => absurd h (by decide)⟩
              | refine ⟨fun h => ?_, fun h => ?_⟩
              | fail)
          · obtain ⟨z1, z2⟩ := y2 l
            have G5 : gF r μ (zu ν 69 0 r 0) := gF_r G4 (by decide)
            have hst : ∀ r', r' = r → zu ν 69 0 r' (vp_nar .boolean 0) = zu ν 69 0 r 0 := fun r' h => by rw [h]; rfl
            have hgo := S190 (cM (zu ν 69 0 r 0) (mX a n [97, 110, 100, 32] p1)) (mX a n [97, 110, 100, 32] p1) (gF_cM G5) cM_28 cM_29 (mX_ok h200 (by decide) ok1) (exC [97, 110, 100] (by decide) z1) (by rw [cM_o (by omega), zu_ne (by omega)]; exact u72) (fun z => ⟨by
              rw [cM_o (by omega), zu_eq, f2.2]
              have : p2.2 = -1 := by
                by_cases w : p2.2 = -1
                · exact w
                · rw [← f3, qB_ft w] at z
                  exact absurd z w
              rw [z2 this]
              rfl, by rw [f2.2]; split <;> simp⟩) (fun i e he => by
              have := ent4 i e he
              unfold tE at *
              rw [cM_o (by omega), cM_o (by omega), cM_o (by omega), cM_o (by omega), cM_o (by omega), zu_ne (by omega), zu_ne (by omega), zu_ne (by omega), zu_ne (by omega), zu_ne (by omega)]
              exact this)
            have ne0 : zu ν 69 0 r 0 69 0 (nI r).toNatClampNeg = 0 := by rw [cr, zu_eq]
            have e1 : zG S (d + 3) m_Mo_readTests K 153 [some (zR 48 0), some (zI (nI r)), some (zI 1)] [] (zu ν 69 0 r 0) := by
              repeat' (first
                | exact hgo
                | refine br_f hf4 ?_
                | refine br_t ne0 ?_
                | refine c_Mo_expect (cs := [97, 110, 100, 32]) (q := p1) (gF_E G5 E) u28 u29 ok1 rfl (by decide) (by decide) (by decide) ?_
                | (refine zs k_Mo_readTests rfl ?_; conv => whnf)
                | refine ⟨Nat.zero_lt_one, rfl, ?_⟩
                | refine ⟨rfl, ?_⟩
                | refine ⟨⟨Nat.zero_lt_one, rfl⟩, Nat.le_of_ble_eq_true rfl, ?_⟩
                | refine ⟨Nat.le_of_ble_eq_true rfl, Nat.le_of_ble_eq_true rfl, ?_⟩
                | refine ⟨(by first | exact Nat.zero_lt_one | assumption | omega), (by first | assumption | exact vp_in_nI (by omega) (by omega) | (unfold vp_in; decide)), ?_⟩
                | refine ⟨(by first | exact Nat.zero_lt_one | assumption | omega), rfl, ?_⟩
                | refine ⟨⟨(by first | exact Nat.zero_lt_one | assumption | omega), rfl⟩, Nat.le_of_ble_eq_true rfl, ?_⟩
                | refine ⟨(by first | exact Nat.zero_lt_one | assumption | omega), ?_⟩
                | refine ⟨Or.inl rfl, ?_⟩
                | refine ⟨Or.inr (Or.inl rfl), ?_⟩
                | refine ⟨Or.inr (Or.inr rfl), ?_⟩
                | refine ⟨Or.inr ⟨rfl, (by first | exact Or.inl rfl | exact Or.inr rfl | assumption)⟩, ?_⟩
                | refine ⟨fun h => absurd h (by decide), fun _ => ?_⟩
                | refine ⟨fun _ => ?_, fun h => absurd h (by decide)⟩
                | refine ⟨fun h => ?_, fun h => ?_⟩
                | fail)
            repeat' (first
              | (rw [hst _ cr]; exact e1)
              | refine br_f hf4 ?_
              | refine bn_f c1 ?_
              | refine c_Mo_letter E4 u28 (by omega) ?_
              | refine bn_t l ?_
              | (refine zs k_Mo_readTests rfl ?_; conv => whnf)
              | refine ⟨Nat.zero_lt_one, rfl, ?_⟩
              | refine ⟨rfl, ?_⟩
              | refine ⟨⟨Nat.zero_lt_one, rfl⟩, Nat.le_of_ble_eq_true rfl, ?_⟩
              | refine ⟨Nat.le_of_ble_eq_true rfl, Nat.le_of_ble_eq_true rfl, ?_⟩
              | refine ⟨(by first | exact Nat.zero_lt_one | assumption | omega), (by first | assumption | exact vp_in_nI (by omega) (by omega) | (unfold vp_in; decide)), ?_⟩
              | refine ⟨(by first | exact Nat.zero_lt_one | assumption | omega), rfl, ?_⟩
              | refine ⟨⟨(by first | exact Nat.zero_lt_one | assumption | omega), rfl⟩, Nat.le_of_ble_eq_true rfl, ?_⟩
              | refine ⟨(by first | exact Nat.zero_lt_one | assumption | omega), ?_⟩
              | refine ⟨Or.inl rfl, ?_⟩
              | refine ⟨Or.inr (Or.inl rfl), ?_⟩
              | refine ⟨Or.inr (Or.inr rfl), ?_⟩
              | refine ⟨Or.inr ⟨rfl, (by first | exact Or.inl rfl | exact Or.inr rfl | assumption)⟩, ?_⟩
              | refine ⟨fun h => absurd h (by decide), fun _ => ?_⟩
              | refine ⟨fun _ => ?_, fun h => absurd h (by decide)⟩
              | refine ⟨fun h => ?_, fun h => ?_⟩
              | fail)
        · have hk2 : ¬ k = 2 := by omega
          rw [if_neg hk2] at f2
          obtain ⟨f21, f22⟩ := f2
          have c1 : ¬ ν 72 0 (nI r).toNatClampNeg = 1 := by
            rw [cr, u72]
            exact fun z => absurd ((nI_eq (b := 1) (by omega) (by omega)).mp z) (by omega)
          rcases hany with h0 | h0
          · rw [if_pos h0] at f21
            have z1 := qW_1 (cs := [97, 110, 100]) (by omega) rfl (by show p1.1 + 3 < 2 ^ 31; omega) f21 eqQ_rf
            have hgo := S190 (cM ν (mX a n [97, 110, 100, 32] p1)) (mX a n [97, 110, 100, 32] p1) (gF_cM G4) cM_28 cM_29 (mX_ok h200 (by decide) ok1) (exC [97, 110, 100] (by decide) z1) (by rw [cM_o (by omega)]; exact u72) (fun _ => ⟨by rw [cM_o (by omega), f22]; exact u69, by rw [f22]; exact Or.inl h0⟩) ent4
            have ne0 : ν 69 0 (nI r).toNatClampNeg = 0 := by rw [cr, u69]; exact h0
            repeat' (first
              | exact hgo
              | refine br_f hf4 ?_
              | refine bn_t c1 ?_
              | refine br_t ne0 ?_
              | refine c_Mo_expect (cs := [97, 110, 100, 32]) (q := p1) E4 u28 u29 ok1 rfl (by decide) (by decide) (by decide) ?_
              | (refine zs k_Mo_readTests rfl ?_; conv => whnf)
              | refine ⟨Nat.zero_lt_one, rfl, ?_⟩
              | refine ⟨rfl, ?_⟩
              | refine ⟨⟨Nat.zero_lt_one, rfl⟩, Nat.le_of_ble_eq_true rfl, ?_⟩
              | refine ⟨Nat.le_of_ble_eq_true rfl, Nat.le_of_ble_eq_true rfl, ?_⟩
              | refine ⟨(by first | exact Nat.zero_lt_one | assumption | omega), (by first | assumption | exact vp_in_nI (by omega) (by omega) | (unfold vp_in; decide)), ?_⟩
              | refine ⟨(by first | exact Nat.zero_lt_one | assumption | omega), rfl, ?_⟩
              | refine ⟨⟨(by first | exact Nat.zero_lt_one | assumption | omega), rfl⟩, Nat.le_of_ble_eq_true rfl, ?_⟩
              | refine ⟨(by first | exact Nat.zero_lt_one | assumption | omega), ?_⟩
              | refine ⟨Or.inl rfl, ?_⟩
              | refine ⟨Or.inr (Or.inl rfl), ?_⟩
              | refine ⟨Or.inr (Or.inr rfl), ?_⟩
              | refine ⟨Or.inr ⟨rfl, (by first | exact Or.inl rfl | exact Or.inr rfl | assumption)⟩, ?_⟩
              | refine ⟨fun h => absurd h (by decide), fun _ => ?_⟩
              | refine ⟨fun _ => ?_, fun h => absurd h (by decide)⟩
              | refine ⟨fun h => ?_, fun h => ?_⟩
              | fail)
          · rw [if_neg (by rw [h0]; decide)] at f21
            have z1 := qW_1 (cs := [111, 114]) (by omega) rfl (by show p1.1 + 2 < 2 ^ 31; omega) f21 eqQ_rf
            have hgo := S190 (cM ν (mX a n [111, 114, 32] p1)) (mX a n [111, 114, 32] p1) (gF_cM G4) cM_28 cM_29 (mX_ok h200 (by decide) ok1) (exC [111, 114] (by decide) z1) (by rw [cM_o (by omega)]; exact u72) (fun _ => ⟨by rw [cM_o (by omega), f22]; exact u69, by rw [f22]; exact Or.inr h0⟩) ent4
            have ne0 : ¬ ν 69 0 (nI r).toNatClampNeg = 0 := by rw [cr, u69, h0]; decide
            repeat' (first
              | exact hgo
              | refine br_f hf4 ?_
              | refine bn_t c1 ?_
              | refine br_f ne0 ?_
              | refine c_Mo_expect (cs := [111, 114, 32]) (q := p1) E4 u28 u29 ok1 rfl (by decide) (by decide) (by decide) ?_
              | (refine zs k_Mo_readTests rfl ?_; conv => whnf)
              | refine ⟨Nat.zero_lt_one, rfl, ?_⟩
              | refine ⟨rfl, ?_⟩
              | refine ⟨⟨Nat.zero_lt_one, rfl⟩, Nat.le_of_ble_eq_true rfl, ?_⟩
              | refine ⟨Nat.le_of_ble_eq_true rfl, Nat.le_of_ble_eq_true rfl, ?_⟩
              | refine ⟨(by first | exact Nat.zero_lt_one | assumption | omega), (by first | assumption | exact vp_in_nI (by omega) (by omega) | (unfold vp_in; decide)), ?_⟩
              | refine ⟨(by first | exact Nat.zero_lt_one | assumption | omega), rfl, ?_⟩
              | refine ⟨⟨(by first | exact Nat.zero_lt_one | assumption | omega), rfl⟩, Nat.le_of_ble_eq_true rfl, ?_⟩
              | refine ⟨(by first | exact Nat.zero_lt_one | assumption | omega), ?_⟩
              | refine ⟨Or.inl rfl, ?_⟩
              | refine ⟨Or.inr (Or.inl rfl), ?_⟩
              | refine ⟨Or.inr (Or.inr rfl), ?_⟩
              | refine ⟨Or.inr ⟨rfl, (by first | exact Or.inl rfl | exact Or.inr rfl | assumption)⟩, ?_⟩
              | refine ⟨fun h => absurd h (by decide), fun _ => ?_⟩
              | refine ⟨fun _ => ?_, fun h => absurd h (by decide)⟩
              | refine ⟨fun h => ?_, fun h => ?_⟩
              | fail)
      repeat' (first
        | exact S112
        | refine bn_t c72 ?_
        | refine br_f hf2 ?_
        | (refine c_Mo_expect (cs := [32]) (q := q4) E2 t28 t29' ok4 rfl (by decide) (by decide) (by decide) ?_; rw [hX1])
        | (refine zs k_Mo_readTests rfl ?_; conv => whnf)
        | refine ⟨Nat.zero_lt_one, rfl, ?_⟩
        | refine ⟨rfl, ?_⟩
        | refine ⟨⟨Nat.zero_lt_one, rfl⟩, Nat.le_of_ble_eq_true rfl, ?_⟩
        | refine ⟨Nat.le_of_ble_eq_true rfl, Nat.le_of_ble_eq_true rfl, ?_⟩
        | refine ⟨(by first | exact Nat.zero_lt_one | assumption | omega), (by first | assumption | exact vp_in_nI (by omega) (by omega) | (unfold vp_in; decide)), ?_⟩
        | refine ⟨(by first | exact Nat.zero_lt_one | assumption | omega), rfl, ?_⟩
        | refine ⟨⟨(by first | exact Nat.zero_lt_one | assumption | omega), rfl⟩, Nat.le_of_ble_eq_true rfl, ?_⟩
        | refine ⟨(by first | exact Nat.zero_lt_one | assumption | omega), ?_⟩
        | refine ⟨Or.inl rfl, ?_⟩
        | refine ⟨Or.inr (Or.inl rfl), ?_⟩
        | refine ⟨Or.inr (Or.inr rfl), ?_⟩
        | refine ⟨Or.inr ⟨rfl, (by first | exact Or.inl rfl | exact Or.inr rfl | assumption)⟩, ?_⟩
        | refine ⟨fun h => absurd h (by decide), fun _ => ?_⟩
        | refine ⟨fun _ => ?_, fun h => absurd h (by decide)⟩
        | refine ⟨fun h => ?_, fun h => ?_⟩
        | fail)
  have okq : qOk q := ⟨by omega, Or.inl hq2⟩
  have hq1n : q1.1 ≤ n := by rw [← e1]; exact qB_le hqn
  have hq2n : q2.1 ≤ n := by have := qW_le (a := a) (n := n) (k := 4) (q := q1) (by omega) hq1n; rw [e2] at this; exact this
  have hq3n : q3.1 ≤ n := by rw [← e3]; exact qB_le hq2n
  have hX : eqQ q3 (mX a n [32, 105, 102, 32] q) := by
    have s1 : mX a n [32, 105, 102, 32] q = mX a n [32] (mX a n [105, 102] (mX a n [32] q)) := by
      rw [show ([32, 105, 102, 32] : List Int32) = ([32] ++ [105, 102]) ++ [32] from rfl, mX_app (by show q.1 + 3 < 2 ^ 31; omega), mX_app (by show q.1 + 1 < 2 ^ 31; omega)]
    rw [s1, ← e3]
    refine eqQ_B (qW_1 (by omega) rfl (by show q1.1 + 2 < 2 ^ 31; omega) e2 ?_)
    rw [← e1]
    exact eqQ_B eqQ_rf
  have okX : qOk (mX a n [32, 105, 102, 32] q) := mX_ok h200 (by decide) okq
  have GX : gF r μ (cM μ (mX a n [32, 105, 102, 32] q)) := gF_cM gF_rf
  have hend : zG S (d + 3) m_Mo_readTests K 7 [some (zR 48 0), some (zI (nI r)), none] [] (cM μ (mX a n [32, 105, 102, 32] q)) := by
    by_cases o3 : q3.2 = -1
    · have hXe := eqQ_1 hX o3
      rw [hXe] at GX ⊢
      have hf3 : ¬ 0 ≤ cM μ q3 48 0 29 := i32 _ (cM_29.trans o3)
      have hgo := L 3 0 0 any' q3 q4 q' t ts [] (cM μ q3) (by omega) o3 hq3n eT eL GX cM_28 (cM_29.trans o3) h72 h69 (Or.inl rfl) rfl (fun i e he => by simp at he) hK
      repeat' (first
        | exact hgo
        | refine br_f hf3 ?_
        | (refine zs k_Mo_readTests rfl ?_; conv => whnf)
        | refine ⟨Nat.zero_lt_one, rfl, ?_⟩
        | refine ⟨rfl, ?_⟩
        | refine ⟨⟨Nat.zero_lt_one, rfl⟩, Nat.le_of_ble_eq_true rfl, ?_⟩
        | refine ⟨Nat.le_of_ble_eq_true rfl, Nat.le_of_ble_eq_true rfl, ?_⟩
        | refine ⟨(by first | exact Nat.zero_lt_one | assumption | omega), (by first | assumption | exact vp_in_nI (by omega) (by omega) | (unfold vp_in; decide)), ?_⟩
        | refine ⟨(by first | exact Nat.zero_lt_one | assumption | omega), rfl, ?_⟩
        | refine ⟨⟨(by first | exact Nat.zero_lt_one | assumption | omega), rfl⟩, Nat.le_of_ble_eq_true rfl, ?_⟩
        | refine ⟨(by first | exact Nat.zero_lt_one | assumption | omega), ?_⟩
        | refine ⟨Or.inl rfl, ?_⟩
        | refine ⟨Or.inr (Or.inl rfl), ?_⟩
        | refine ⟨Or.inr (Or.inr rfl), ?_⟩
        | refine ⟨Or.inr ⟨rfl, (by first | exact Or.inl rfl | exact Or.inr rfl | assumption)⟩, ?_⟩
        | refine ⟨fun h => absurd h (by decide), fun _ => ?_⟩
        | refine ⟨fun _ => ?_, fun h => absurd h (by decide)⟩
        | refine ⟨fun h => ?_, fun h => ?_⟩
        | fail)
    · have h4 := qTR_ft o3 eT
      subst h4
      obtain ⟨h6, h7, h5⟩ := qLR_no (fun w => o3 w.1) eL
      have hnm : ¬ qMore n q' := fun w => o3 (by rw [← h5]; exact w.1)
      have hf3 : 0 ≤ cM μ (mX a n [32, 105, 102, 32] q) 48 0 29 := by
        rw [cM_29]
        rcases qOk_neg okX with ⟨z, -⟩ | ⟨-, z⟩
        · exact absurd (hX.1.symm.trans z) o3
        · exact z
      have hf3' := hf3
      rw [cM_29, hX.1] at hf3'
      have hk := hK _ q'.2 GX (Or.inr ⟨hnm, rfl⟩) (by rw [cM_29, hX.1, h5]) (fun _ => by rw [h5]; exact hf3') (fun z => absurd (by rw [← h5]; exact z) o3)
      repeat' (first
        | exact end0 _ hk
        | refine br_t hf3 ?_
        | (refine zs k_Mo_readTests rfl ?_; conv => whnf)
        | refine ⟨Nat.zero_lt_one, rfl, ?_⟩
        | refine ⟨rfl, ?_⟩
        | refine ⟨⟨Nat.zero_lt_one, rfl⟩, Nat.le_of_ble_eq_true rfl, ?_⟩
        | refine ⟨Nat.le_of_ble_eq_true rfl, Nat.le_of_ble_eq_true rfl, ?_⟩
        | refine ⟨(by first | exact Nat.zero_lt_one | assumption | omega), (by first | assumption | exact vp_in_nI (by omega) (by omega) | (unfold vp_in; decide)), ?_⟩
        | refine ⟨(by first | exact Nat.zero_lt_one | assumption | omega), rfl, ?_⟩
        | refine ⟨⟨(by first | exact Nat.zero_lt_one | assumption | omega), rfl⟩, Nat.le_of_ble_eq_true rfl, ?_⟩
        | refine ⟨(by first | exact Nat.zero_lt_one | assumption | omega), ?_⟩
        | refine ⟨Or.inl rfl, ?_⟩
        | refine ⟨Or.inr (Or.inl rfl), ?_⟩
        | refine ⟨Or.inr (Or.inr rfl), ?_⟩
        | refine ⟨Or.inr ⟨rfl, (by first | exact Or.inl rfl | exact Or.inr rfl | assumption)⟩, ?_⟩
        | refine ⟨fun h => absurd h (by decide), fun _ => ?_⟩
        | refine ⟨fun _ => ?_, fun h => absurd h (by decide)⟩
        | refine ⟨fun h => ?_, fun h => ?_⟩
        | fail)
  repeat' (first
    | exact hend
    | refine c_Mo_expect (cs := [32, 105, 102, 32]) (q := q) E h28 (h29.trans hq2.symm) okq rfl (by decide) (by decide) (by decide) ?_
    | (refine zs k_Mo_readTests rfl ?_; conv => whnf)
    | refine ⟨Nat.zero_lt_one, rfl, ?_⟩
    | refine ⟨rfl, ?_⟩
    | refine ⟨⟨Nat.zero_lt_one, rfl⟩, Nat.le_of_ble_eq_true rfl, ?_⟩
    | refine ⟨Nat.le_of_ble_eq_true rfl, Nat.le_of_ble_eq_true rfl, ?_⟩
    | refine ⟨(by first | exact Nat.zero_lt_one | assumption | omega), (by first | assumption | exact vp_in_nI (by omega) (by omega) | (unfold vp_in; decide)), ?_⟩
    | refine ⟨(by first | exact Nat.zero_lt_one | assumption | omega), rfl, ?_⟩
    | refine ⟨⟨(by first | exact Nat.zero_lt_one | assumption | omega), rfl⟩, Nat.le_of_ble_eq_true rfl, ?_⟩
    | refine ⟨(by first | exact Nat.zero_lt_one | assumption | omega), ?_⟩
    | refine ⟨Or.inl rfl, ?_⟩
    | refine ⟨Or.inr (Or.inl rfl), ?_⟩
    | refine ⟨Or.inr (Or.inr rfl), ?_⟩
    | refine ⟨Or.inr ⟨rfl, (by first | exact Or.inl rfl | exact Or.inr rfl | assumption)⟩, ?_⟩
    | refine ⟨fun h => absurd h (by decide), fun _ => ?_⟩
    | refine ⟨fun _ => ?_, fun h => absurd h (by decide)⟩
    | refine ⟨fun h => ?_, fun h => ?_⟩
    | fail)
/-! MODEL: the whole rule -/
theorem qW_st {a : Nat → Int32} {n k : Nat} {q q' : zQ} {v : Int32} (h : qW a n q k = (v, q')) (h1 : q'.2 = -1) : q.2 = -1 := by
  by_cases z : q.2 = -1
  · exact z
  · rw [qW_ft z] at h
    rw [← (Prod.mk.inj h).2] at h1
    exact h1
theorem qB_st {a : Nat → Int32} {n : Nat} {q q' : zQ} (h : qB a n q = q') (h1 : q'.2 = -1) : q.2 = -1 := by
  by_cases z : q.2 = -1
  · exact z
  · rw [qB_ft z] at h
    rw [← h] at h1
    exact h1
theorem qN_st {a : Nat → Int32} {n : Nat} {q q' : zQ} {v : Int32} (h : qN a n q = (v, q')) (h1 : q'.2 = -1) : q.2 = -1 := by
  by_cases z : q.2 = -1
  · exact z
  · rw [qN_ft z] at h
    rw [← (Prod.mk.inj h).2] at h1
    exact h1
/-- which word it was -/
theorem qW_ix {a : Nat → Int32} {n k : Nat} {q q' : zQ} {v : Int32} (hk : k < 13) (h : qW a n q k = (v, q')) (h1 : q'.2 = -1) (hq : q.1 ≤ 1000) (hs : ∀ w ∈ zWd.getD k [], w.length ≤ 10) : ∃ i, i < (zWd.getD k []).length ∧ v = nI i := by
  have h0 := qW_st h h1
  obtain ⟨at_, fl⟩ := q
  have h0 : fl = -1 := h0
  subst h0
  rw [qW_eq hk] at h
  cases hw : wL (fun j => pB a n (at_ + j)) (zWd.getD k []) 0 0 with
  | inl r =>
    rw [hw] at h
    obtain ⟨i, w, e1, e2, -⟩ := wL_hit hw
    refine ⟨i, (List.getElem?_eq_some_iff.mp e1).1, ?_⟩
    rw [← (Prod.mk.inj h).1, e2, Nat.zero_add]
  | inr L =>
    rw [hw] at h
    have h2 := (Prod.mk.inj h).2
    rw [← h2] at h1
    obtain ⟨-, b2, b3⟩ := wL_no hw
    have hL : L ≤ 10 := by
      rcases b3 with b3 | ⟨i, w, e1, e2⟩
      · omega
      · have := hs w (List.mem_of_getElem? e1)
        have := pfx_le (b := fun j => pB a n (at_ + j)) (w := w) (i := 0)
        omega
    have hq : at_ ≤ 1000 := hq
    exact absurd h1 (nI_nem1 (by omega))
def tOk (t : rT) : Prop := (t.1 = 0 ∨ t.1 = 1) ∧ (t.2.1 = 0 ∨ t.2.1 = 1) ∧ vp_in t.2.2.1 7
theorem zWd_s : ∀ k, k < 13 → ∀ w ∈ zWd.getD k [], w.length ≤ 10 := by decide +kernel
theorem qTR_ok {a : Nat → Int32} {n : Nat} {q q' : zQ} {t : rT} (hn : n ≤ 200) (hq : q.1 ≤ n) (hT : qTR a n q t q') (h1 : q'.2 = -1) : tOk t := by
  obtain ⟨w, q3, v4, q4, q5, q6, T0, tb, e4, e5, e6, e7⟩ := hT
  obtain ⟨v1, q1, T1, T2⟩ := T0
  have a1 : q1.1 ≤ n := by have := qW_le (a := a) (n := n) (k := 5) (q := q) (by omega) hq; rw [T1] at this; exact this
  have a3 : q3.1 ≤ n := by
    rcases T2 with ⟨-, -, c3⟩ | ⟨-, -, -, c4⟩
    · have := qW_le (a := a) (n := n) (k := 6) (q := qB a n q1) (by omega) (qB_le a1)
      rw [c3] at this
      exact this
    · rw [c4]
      exact a1
  have a4 : q4.1 ≤ n := by have := qW_le (a := a) (n := n) (k := 7) (q := q3) (by omega) a3; rw [e4] at this; exact this
  have h6 := qN_st e7 h1
  have h5 := qW_st e6 h6
  refine ⟨?_, ?_, ?_⟩
  · rcases T2 with ⟨-, c2, -⟩ | ⟨-, c2, -⟩
    · exact Or.inr c2
    · exact Or.inl c2
  · rw [tb]
    split
    · exact Or.inr rfl
    · exact Or.inl rfl
  · obtain ⟨i, hi, e⟩ := qW_ix (by omega) e5 h5 (by omega) (zWd_s 8 (by omega))
    rw [e]
    exact vp_in_nI hi (by omega)
theorem qLR_ok {a : Nat → Int32} {n : Nat} (hn : n ≤ 200) : ∀ {k : Nat} {any any' : Int32} {q q' : zQ} {ts : List rT}, q.1 ≤ n → qLR a n k any q ts any' q' → q'.2 = -1 → ∀ e ∈ ts, tOk e
  | 0, any, any', q, q', ts, hq, h, h1, e, he => by
    rw [h.1] at he
    cases he
  | k + 1, any, any', q, q', ts, hq, h, h1, e, he => by
    rcases h with h | ⟨-, p1, any1, w2, p2, p3, t', p4, ts', f1, f2, f3, fT, rfl, fL⟩
    · rw [h.2.1] at he
      cases he
    have b1 : p1.1 ≤ n := by rw [← f1]; exact qB_le hq
    have b2 : p2.1 ≤ n := by
      by_cases hk2 : k = 2
      · rw [if_pos hk2] at f2
        have := qW_le (a := a) (n := n) (k := 10) (q := p1) (by omega) b1
        rw [f2.1] at this
        exact this
      · rw [if_neg hk2] at f2
        have := qW_le (a := a) (n := n) (k := if any = 0 then 12 else 11) (q := p1) (by split <;> omega) b1
        rw [f2.1] at this
        exact this
    have b3 : p3.1 ≤ n := by rw [← f3]; exact qB_le b2
    have b4 := qTR_n b3 fT
    have o4 : p4.2 = -1 := by
      by_cases z : p4.2 = -1
      · exact z
      · obtain ⟨-, -, h5⟩ := qLR_no (fun w => z w.1) fL
        rw [h5] at h1
        exact h1
    rcases List.mem_cons.mp he with rfl | he
    · exact qTR_ok hn b3 fT o4
    · exact qLR_ok hn b4 fL h1 e he
theorem qLR_len {a : Nat → Int32} {n : Nat} : ∀ {k : Nat} {any any' : Int32} {q q' : zQ} {ts : List rT}, qLR a n k any q ts any' q' → ts.length ≤ k
  | 0, any, any', q, q', ts, h => by
    rw [h.1]
    exact Nat.le_refl _
  | k + 1, any, any', q, q', ts, h => by
    rcases h with h | ⟨-, p1, any1, w2, p2, p3, t', p4, ts', f1, f2, f3, fT, rfl, fL⟩
    · rw [h.2.1]
      exact Nat.zero_le _
    · have := qLR_len fL
      rw [List.length_cons]
      omega
/-- the rule's cells alone have changed -/
def hF (r : Nat) (μ μ' : zMu) : Prop := (∀ f, f ∉ [48, 66, 67, 68, 69, 72, 73, 74, 75, 76, 77] → μ' f = μ f) ∧ (∀ k, k ∉ [28, 29] → μ' 48 0 k = μ 48 0 k) ∧ (∀ f, f ∈ [66, 67, 68, 69, 72] → ∀ k, k ≠ r → μ' f 0 k = μ f 0 k) ∧ ∀ f, f ∈ [73, 74, 75, 76, 77] → ∀ k, ¬ (4 * r ≤ k ∧ k < 4 * r + 4) → μ' f 0 k = μ f 0 k
theorem hF_gF {r : Nat} {μ μ1 μ2 : zMu} (h : hF r μ μ1) (h2 : gF r μ1 μ2) : hF r μ μ2 := by
  refine ⟨fun f hf => ?_, fun k hk => (h2.2.1 k hk).trans (h.2.1 k hk), fun f hf k hk => ?_, fun f hf k hk => (h2.2.2.2 f hf k hk).trans (h.2.2.2 f hf k hk)⟩
  · rw [h2.1 f (fun q => hf (by simp only [List.mem_cons, List.not_mem_nil, or_false] at q ⊢; omega))]
    exact h.1 f hf
  · rw [← h.2.2.1 f hf k hk]
    by_cases e : f = 69 ∨ f = 72
    · exact h2.2.2.1 f (by simp only [List.mem_cons, List.not_mem_nil, or_false]; omega) k hk
    · rw [h2.1 f (fun q => by simp only [List.mem_cons, List.not_mem_nil, or_false] at q hf; omega)]
theorem hF_cM {r : Nat} {μ μ1 : zMu} {q : zQ} (h : hF r μ μ1) : hF r μ (cM μ1 q) := hF_gF h (gF_cM gF_rf)
theorem hF_r {r f : Nat} {μ μ1 : zMu} {x : Int32} (h : hF r μ μ1) (hf : f ∈ [66, 67, 68, 69, 72]) : hF r μ (zu μ1 f 0 r x) := by
  simp only [List.mem_cons, List.not_mem_nil, or_false] at hf
  refine ⟨fun g hg => ?_, fun k hk => ?_, fun g hg k hk => ?_, fun g hg k hk => ?_⟩
  · rw [← h.1 g hg]
    simp only [List.mem_cons, List.not_mem_nil, or_false, not_or] at hg
    funext i k
    exact zu_ne (by omega)
  · rw [← h.2.1 k hk]
    exact zu_ne (by omega)
  · rw [← h.2.2.1 g hg k hk]
    exact zu_ne (by omega)
  · rw [← h.2.2.2 g hg k hk]
    simp only [List.mem_cons, List.not_mem_nil, or_false] at hg
    exact zu_ne (by omega)
theorem hF_E {r n : Nat} {μ μ' : zMu} {a : Nat → Int32} (h : hF r μ μ') (E : mE μ a n) : mE μ' a n := by
  unfold mE gCs at *
  rw [h.2.1 14 (by decide), h.1 63 (by decide), h.1 80 (by decide), h.1 81 (by decide), h.1 82 (by decide)]
  exact E
theorem hF_rf {r : Nat} {μ : zMu} : hF r μ μ := ⟨fun _ _ => rfl, fun _ _ => rfl, fun _ _ _ _ => rfl, fun _ _ _ _ => rfl⟩
def ocR (oc m : Int32) : Prop := (oc = -1 ∧ m = 10) ∨ (0 ≤ oc ∧ oc ≤ 9 ∧ m = oc)
def upR (dn m : Int32) : Prop := (dn = 0 ∧ m = 1) ∨ (dn = 1 ∧ m = 0)
/-- the occasion -/
theorem w1_eq {a : Nat → Int32} {n : Nat} {q q' : zQ} {v : Int32} (hq : q.1 ≤ 1000) (o1 : q.2 = -1) (h : qW a n q 1 = (v, q')) : (pB a n q.1 = 42 → q' = (q.1 + 1, -1) ∧ v = 0) ∧ ((48 ≤ pB a n q.1 ∧ pB a n q.1 ≤ 57) → q' = (q.1 + 1, -1) ∧ v = pB a n q.1 - 47) ∧ (¬ pB a n q.1 = 42 → ¬ (48 ≤ pB a n q.1 ∧ pB a n q.1 ≤ 57) → q'.2 = nI q.1) := by
  obtain ⟨at_, fl⟩ := q
  have o1 : fl = -1 := o1
  subst o1
  rw [qW_eq (by omega)] at h
  have hw : zWd.getD 1 [] = [[42], [48], [49], [50], [51], [52], [53], [54], [55], [56], [57]] := rfl
  rw [hw] at h
  simp only [wL, wL_s, Nat.add_zero, List.length_singleton] at h
  show (pB a n at_ = 42 → q' = (at_ + 1, -1) ∧ v = 0) ∧ ((48 ≤ pB a n at_ ∧ pB a n at_ ≤ 57) → q' = (at_ + 1, -1) ∧ v = pB a n at_ - 47) ∧ (¬ pB a n at_ = 42 → ¬ (48 ≤ pB a n at_ ∧ pB a n at_ ≤ 57) → q'.2 = nI at_)
  generalize pB a n at_ = l at h
  refine ⟨fun e => ?_, fun e => ?_, fun e e2 => ?_⟩
  · subst e
    simp at h
    obtain ⟨rfl, rfl⟩ := h
    exact ⟨rfl, rfl⟩
  · obtain ⟨c, hc, rfl⟩ := nI_of2 (x := l) (M := 57) (n := 57) rfl (by grind) e.2
    have h48 : 48 ≤ c := (nI_leI (a := 48) (by omega) (by omega)).mp e.1
    have : c = 48 ∨ c = 49 ∨ c = 50 ∨ c = 51 ∨ c = 52 ∨ c = 53 ∨ c = 54 ∨ c = 55 ∨ c = 56 ∨ c = 57 := by omega
    rcases this with rfl | rfl | rfl | rfl | rfl | rfl | rfl | rfl | rfl | rfl <;>
    · simp [nI] at h
      obtain ⟨rfl, rfl⟩ := h
      exact ⟨rfl, by decide⟩
  · have ne : ∀ c : Int32, 48 ≤ c → c ≤ 57 → ¬ l = c := fun c h1 h2 h3 => e2 (by rw [h3]; exact ⟨h1, h2⟩)
    simp only [e, ne 48 (by decide) (by decide), ne 49 (by decide) (by decide), ne 50 (by decide) (by decide), ne 51 (by decide) (by decide), ne 52 (by decide) (by decide), ne 53 (by decide) (by decide), ne 54 (by decide) (by decide), ne 55 (by decide) (by decide), ne 56 (by decide) (by decide), ne 57 (by decide) (by decide)] at h
    simp at h
    rw [← h.2]
theorem w3_eq {a : Nat → Int32} {n : Nat} {q1 q2 : zQ} {v2 : Int32} (hq : q1.1 ≤ 1000) (o1 : q1.2 = -1) (h : qW a n q1 3 = (v2, q2)) : (pB a n q1.1 = 117 → eqQ q2 (mX a n [117, 112] q1) ∧ (q2.2 = -1 → v2 = 0)) ∧ (¬ pB a n q1.1 = 117 → eqQ q2 (mX a n [100, 111, 119, 110] q1) ∧ (q2.2 = -1 → v2 = 1)) := by
  obtain ⟨at_, fl⟩ := q1
  have o1 : fl = -1 := o1
  subst o1
  have hq : at_ ≤ 1000 := hq
  rw [qW_eq (by omega)] at h
  have hw : zWd.getD 3 [] = [[117, 112], [100, 111, 119, 110]] := rfl
  rw [hw, wL, wL, wL] at h
  have X1 := mX_pfx (a := a) (n := n) (at_ := at_) (cs := [117, 112]) (i := 0)
  have X2 := mX_pfx (a := a) (n := n) (at_ := at_) (cs := [100, 111, 119, 110]) (i := 0)
  rw [Nat.add_zero] at X1 X2
  have l1' : pfx (fun j => pB a n (at_ + j)) [117, 112] 0 ≤ 2 := pfx_le
  have l2' : pfx (fun j => pB a n (at_ + j)) [100, 111, 119, 110] 0 ≤ 4 := pfx_le
  constructor
  · intro l
    have l : pB a n (at_ + 0) = 117 := l
    have p2 : pfx (fun j => pB a n (at_ + j)) [100, 111, 119, 110] 0 = 0 := by rw [pfx, if_neg (by rw [l]; decide)]
    rw [p2] at h
    rw [X1]
    by_cases e : pfx (fun j => pB a n (at_ + j)) [117, 112] 0 = ([117, 112] : List Int32).length
    · rw [if_pos e] at h ⊢
      obtain ⟨rfl, rfl⟩ := Prod.mk.inj h
      exact ⟨eqQ_rf, fun _ => rfl⟩
    · rw [if_neg e] at h ⊢
      rw [if_neg (show ¬ 0 = ([100, 111, 119, 110] : List Int32).length by decide)] at h
      obtain ⟨rfl, rfl⟩ := Prod.mk.inj h
      have e2 : (if (if 0 < pfx (fun j => pB a n (at_ + j)) [117, 112] 0 then pfx (fun j => pB a n (at_ + j)) [117, 112] 0 else 0) < 0 then 0 else (if 0 < pfx (fun j => pB a n (at_ + j)) [117, 112] 0 then pfx (fun j => pB a n (at_ + j)) [117, 112] 0 else 0)) = pfx (fun j => pB a n (at_ + j)) [117, 112] 0 := by
        rw [if_neg (by omega)]
        split <;> omega
      rw [e2]
      exact ⟨⟨rfl, fun z => absurd z (nI_nem1 (by omega))⟩, fun z => absurd z (nI_nem1 (by omega))⟩
  · intro l
    have l : ¬ pB a n (at_ + 0) = 117 := l
    have p1 : pfx (fun j => pB a n (at_ + j)) [117, 112] 0 = 0 := by rw [pfx, if_neg l]
    rw [p1, if_neg (show ¬ 0 = ([117, 112] : List Int32).length by decide)] at h
    rw [X2]
    by_cases e : pfx (fun j => pB a n (at_ + j)) [100, 111, 119, 110] 0 = ([100, 111, 119, 110] : List Int32).length
    · rw [if_pos e] at h ⊢
      obtain ⟨rfl, rfl⟩ := Prod.mk.inj h
      exact ⟨eqQ_rf, fun _ => rfl⟩
    · rw [if_neg e] at h ⊢
      obtain ⟨rfl, rfl⟩ := Prod.mk.inj h
      have e2 : (if (if 0 < 0 then 0 else 0) < pfx (fun j => pB a n (at_ + j)) [100, 111, 119, 110] 0 then pfx (fun j => pB a n (at_ + j)) [100, 111, 119, 110] 0 else (if 0 < 0 then 0 else 0)) = pfx (fun j => pB a n (at_ + j)) [100, 111, 119, 110] 0 := by
        rw [if_neg (by omega)]
        split <;> omega
      rw [e2]
      exact ⟨⟨rfl, fun z => absurd z (nI_nem1 (by omega))⟩, fun z => absurd z (nI_nem1 (by omega))⟩
def rdR (μ : zMu) (r : Nat) (oc ky dn : Int32) (ts : List rT) (any : Int32) : Prop := ocR oc (μ 66 0 r) ∧ μ 67 0 r = ky ∧ vp_in ky 7 ∧ upR dn (μ 68 0 r) ∧ μ 72 0 r = nI ts.length ∧ ts.length ≤ 4 ∧ μ 69 0 r = any ∧ (any = 0 ∨ any = 1) ∧ (ts = [] → any = 0) ∧ (∀ i e, ts[i]? = some e → tE μ (4 * r + i) e) ∧ ∀ e ∈ ts, tOk e
set_option maxHeartbeats 4000000 in
theorem c_Mo_read {d n r at_ : Nat} {μ : zMu} {a : Nat → Int32} {oc ky dn any fl x : Int32} {ts : List rT} {K : Option zV → zMu → Prop} (E : mE μ a n) (hr : r < 16) (hx : x = nI r) (hR : qRR a n oc ky dn ts any at_ fl)
    (hK : ∀ μ', hF r μ μ' → μ' 48 0 29 = fl → (¬ fl = -1 → 0 ≤ fl) → (fl = -1 → rdR μ' r oc ky dn ts any) → K none μ') : Ct (d + 4) m_Mo_read [zR 48 0, zI x] μ K := by
  subst hx
  refine zmeet rfl (Nat.le_of_ble_eq_true rfl) (fun S => ?_)
  have h200 := E.2.1
  have cr : (nI r).toNatClampNeg = r := nI_clamp (by omega)
  have vr : vp_in (nI r) 16 := vp_in_nI hr (by omega)
  have i32 : ∀ z : Int32, z = -1 → ¬ 0 ≤ z := fun z h => by rw [h]; decide
  obtain ⟨qh, qe, ⟨v1, q1, q2, v3, q3, q4, q5, q6, v7, e1, e2, e3, eoc, e4, e5, e6, e7, edn⟩, hTs, -, hfl⟩ := hR
  have n1 : q1.1 ≤ n := by have := qW_le (a := a) (n := n) (k := 0) (q := (0, -1)) (by omega) (Nat.zero_le n); rw [e1] at this; exact this
  have n2 : q2.1 ≤ n := by rw [← e2]; exact qB_le n1
  have n3 : q3.1 ≤ n := by have := qW_le (a := a) (n := n) (k := 1) (q := q2) (by omega) n2; rw [e3] at this; exact this
  have n4 : q4.1 ≤ n := by rw [← e4]; exact qB_le n3
  have n5 : q5.1 ≤ n := by have := qW_le (a := a) (n := n) (k := 2) (q := q4) (by omega) n4; rw [e5] at this; exact this
  have n6 : q6.1 ≤ n := by rw [← e6]; exact qB_le n5
  have n7 : qh.1 ≤ n := by have := qW_le (a := a) (n := n) (k := 3) (q := q6) (by omega) n6; rw [e7] at this; exact this
  have fge : ∀ {q qm : zQ} {μ1 : zMu}, qOk qm → eqQ q qm → μ1 48 0 29 = qm.2 → ¬ q.2 = -1 → 0 ≤ μ1 48 0 29 := fun {q qm μ1} ho he s29 o => by
    rw [s29]
    rcases qOk_neg ho with ⟨z, -⟩ | ⟨-, z⟩
    · exact absurd (he.1.symm.trans z) o
    · exact z
  -- the tests
  have S7 : ∀ (μ1 : zMu) (qm : zQ), hF r μ μ1 → μ1 48 0 28 = nI qm.1 → μ1 48 0 29 = qm.2 → qOk qm → eqQ qh qm → μ1 72 0 r = 0 → μ1 69 0 r = 0 → (qh.2 = -1 → ocR oc (μ1 66 0 r) ∧ μ1 67 0 r = ky ∧ vp_in ky 7 ∧ upR dn (μ1 68 0 r)) → zG S (d + 4) m_Mo_read K 197 [some (zR 48 0), some (zI (nI r))] [] μ1 := by
    intro μ1 qm F s28 s29 ho he s72 s69 vals
    by_cases o1 : qh.2 = -1
    case neg =>
      have hf := fge ho he s29 o1
      have hnm : ¬ qMore n qh := fun z => o1 z.1
      rcases hTs with ⟨-, h2, h3, h4⟩ | ⟨hm, -⟩
      case inr => exact absurd hm hnm
      subst h4
      have hfl' : fl = qe.2 := by
        rcases hfl with ⟨hm, -⟩ | ⟨-, e⟩
        · exact absurd hm hnm
        · exact e
      have hk := hK μ1 F (by rw [s29, he.1, hfl']) (fun _ => by rw [hfl', ← he.1, ← s29]; exact hf) (fun z => absurd (by rw [← hfl']; exact z) o1)
      repeat' (first
        | exact hk
        | refine br_t hf ?_
        | (refine zs k_Mo_read rfl ?_; conv => whnf)
        | refine ⟨Nat.zero_lt_one, rfl, ?_⟩
        | refine ⟨rfl, ?_⟩
        | refine ⟨⟨Nat.zero_lt_one, rfl⟩, Nat.le_of_ble_eq_true rfl, ?_⟩
        | refine ⟨Nat.le_of_ble_eq_true rfl, Nat.le_of_ble_eq_true rfl, ?_⟩
        | refine ⟨(by first | exact Nat.zero_lt_one | assumption | omega), (by first | assumption | exact vp_in_nI (by omega) (by omega) | (unfold vp_in; decide)), ?_⟩
        | refine ⟨(by first | exact Nat.zero_lt_one | assumption | omega), rfl, ?_⟩
        | refine ⟨⟨(by first | exact Nat.zero_lt_one | assumption | omega), rfl⟩, Nat.le_of_ble_eq_true rfl, ?_⟩
        | refine ⟨(by first | exact Nat.zero_lt_one | assumption | omega), ?_⟩
        | refine ⟨Or.inl rfl, ?_⟩
        | refine ⟨Or.inr (Or.inl rfl), ?_⟩
        | refine ⟨Or.inr (Or.inr rfl), ?_⟩
        | refine ⟨Or.inr ⟨rfl, (by first | exact Or.inl rfl | exact Or.inr rfl | assumption)⟩, ?_⟩
        | refine ⟨fun h => absurd h (by decide), fun _ => ?_⟩
        | refine ⟨fun _ => ?_, fun h => absurd h (by decide)⟩
        | refine ⟨fun h => ?_, fun h => ?_⟩
        | fail)
    obtain rfl := (eqQ_1 he o1).symm
    obtain ⟨w1, w2, w3, w4⟩ := vals o1
    have hf : ¬ 0 ≤ μ1 48 0 29 := i32 _ (s29.trans o1)
    have E1 := hF_E F E
    by_cases hm : qMore n qh
    case neg =>
      rcases hTs with ⟨-, h2, h3, h4⟩ | ⟨hm', -⟩
      case inr => exact absurd hm' hm
      subst h4
      have hfl' : fl = -1 := by
        rcases hfl with ⟨hm', -⟩ | ⟨-, e⟩
        · exact absurd hm' hm
        · exact e.trans o1
      have hge : μ1 48 0 14 ≤ μ1 48 0 28 := by
        rw [E1.1, s28]
        refine nI_le ?_ (by omega)
        rcases Nat.lt_or_ge qe.1 n with z | z
        · exact absurd ⟨o1, z⟩ hm
        · exact z
      have hk := hK μ1 F (by rw [s29, o1, hfl']) (fun z => absurd hfl' z) (fun _ => ⟨w1, w2, w3, w4, by rw [s72, h2]; rfl, by rw [h2]; decide, by rw [s69, h3], Or.inl h3, fun _ => h3, fun i e hi => by rw [h2] at hi; simp at hi, fun e hi => by rw [h2] at hi; cases hi⟩)
      repeat' (first
        | exact hk
        | refine br_f hf ?_
        | refine br_t hge ?_
        | (refine zs k_Mo_read rfl ?_; conv => whnf)
        | refine ⟨Nat.zero_lt_one, rfl, ?_⟩
        | refine ⟨rfl, ?_⟩
        | refine ⟨⟨Nat.zero_lt_one, rfl⟩, Nat.le_of_ble_eq_true rfl, ?_⟩
        | refine ⟨Nat.le_of_ble_eq_true rfl, Nat.le_of_ble_eq_true rfl, ?_⟩
        | refine ⟨(by first | exact Nat.zero_lt_one | assumption | omega), (by first | assumption | exact vp_in_nI (by omega) (by omega) | (unfold vp_in; decide)), ?_⟩
        | refine ⟨(by first | exact Nat.zero_lt_one | assumption | omega), rfl, ?_⟩
        | refine ⟨⟨(by first | exact Nat.zero_lt_one | assumption | omega), rfl⟩, Nat.le_of_ble_eq_true rfl, ?_⟩
        | refine ⟨(by first | exact Nat.zero_lt_one | assumption | omega), ?_⟩
        | refine ⟨Or.inl rfl, ?_⟩
        | refine ⟨Or.inr (Or.inl rfl), ?_⟩
        | refine ⟨Or.inr (Or.inr rfl), ?_⟩
        | refine ⟨Or.inr ⟨rfl, (by first | exact Or.inl rfl | exact Or.inr rfl | assumption)⟩, ?_⟩
        | refine ⟨fun h => absurd h (by decide), fun _ => ?_⟩
        | refine ⟨fun _ => ?_, fun h => absurd h (by decide)⟩
        | refine ⟨fun h => ?_, fun h => ?_⟩
        | fail)
    rcases hTs with ⟨hm', -⟩ | ⟨-, u2, p1, p2, p3, p4, t, ts', f1, f2, f3, fT, fL, hts⟩
    · exact absurd hm hm'
    have hlt : ¬ μ1 48 0 14 ≤ μ1 48 0 28 := by rw [E1.1, s28]; exact nI_ge hm.2 (by omega)
    have m1 : p1.1 ≤ n := by rw [← f1]; exact qB_le n7
    have m2 : p2.1 ≤ n := by have := qW_le (a := a) (n := n) (k := 4) (q := p1) (by omega) m1; rw [f2] at this; exact this
    have m3 : p3.1 ≤ n := by rw [← f3]; exact qB_le m2
    have m4 := qTR_n m3 fT
    have hgo : ∀ (μ2 : zMu) (fl2 : Int32), gF r μ1 μ2 → ((qMore n qe ∧ fl2 = nI qe.1) ∨ (¬ qMore n qe ∧ fl2 = qe.2)) → μ2 48 0 29 = fl2 → (fl2 = -1 → μ2 72 0 r = nI (t :: ts').length ∧ (t :: ts').length ≤ 4 ∧ μ2 69 0 r = any ∧ (any = 0 ∨ any = 1) ∧ ∀ i e, (t :: ts')[i]? = some e → tE μ2 (4 * r + i) e) → (¬ fl2 = -1 → 0 ≤ fl2) → K none μ2 := fun μ2 fl2 G2 c1 c2 c3 c4 => by
      have hfe : fl = fl2 := by
        rcases hfl with ⟨x1, x2⟩ | ⟨x1, x2⟩
        · rcases c1 with ⟨y1, y2⟩ | ⟨y1, y2⟩
          · rw [x2, y2]
          · exact absurd x1 y1
        · rcases c1 with ⟨y1, y2⟩ | ⟨y1, y2⟩
          · exact absurd y1 x1
          · rw [x2, y2]
      subst hfe
      refine hK μ2 (hF_gF F G2) c2 c4 (fun z => ?_)
      obtain ⟨k1, k2, k3, k4, k5⟩ := c3 z
      have g66 : ∀ f, f ∉ [48, 69, 72, 73, 74, 75, 76, 77] → μ2 f = μ1 f := G2.1
      have oe : qe.2 = -1 := by
        rcases c1 with ⟨y1, y2⟩ | ⟨y1, y2⟩
        · exact y1.1
        · rw [← y2]
          exact z
      have o4 : p4.2 = -1 := by
        by_cases w : p4.2 = -1
        · exact w
        · obtain ⟨-, -, h5⟩ := qLR_no (fun v => w v.1) fL
          rw [h5] at oe
          exact oe
      unfold rdR
      rw [g66 66 (by decide), g66 67 (by decide), g66 68 (by decide), hts]
      exact ⟨w1, w2, w3, w4, k1, k2, k3, k4, fun h => by cases h, k5, fun e he => by
        rcases List.mem_cons.mp he with rfl | he
        · exact qTR_ok h200 m3 fT o4
        · exact qLR_ok h200 m4 fL oe e he⟩
    repeat' (first
      | refine br_f hf ?_
      | refine br_f hlt ?_
      | refine c_Mo_readTests (q := qh) (q1 := p1) (q2 := p2) (q3 := p3) (q4 := p4) (q' := qe) (t := t) (ts := ts') (any' := any) (v2 := u2) E1 s28 (s29.trans o1) o1 n7 rfl hr s72 s69 f1 f2 f3 fT fL (fun μ2 fl2 G2 c1 c2 c2b c3 => ?_)
      | exact hgo μ2 fl2 G2 c1 c2 c3 c2b
      | (refine zs k_Mo_read rfl ?_; conv => whnf)
      | refine ⟨Nat.zero_lt_one, rfl, ?_⟩
      | refine ⟨rfl, ?_⟩
      | refine ⟨⟨Nat.zero_lt_one, rfl⟩, Nat.le_of_ble_eq_true rfl, ?_⟩
      | refine ⟨Nat.le_of_ble_eq_true rfl, Nat.le_of_ble_eq_true rfl, ?_⟩
      | refine ⟨(by first | exact Nat.zero_lt_one | assumption | omega), (by first | assumption | exact vp_in_nI (by omega) (by omega) | (unfold vp_in; decide)), ?_⟩
      | refine ⟨(by first | exact Nat.zero_lt_one | assumption | omega), rfl, ?_⟩
      | refine ⟨⟨(by first | exact Nat.zero_lt_one | assumption | omega), rfl⟩, Nat.le_of_ble_eq_true rfl, ?_⟩
      | refine ⟨(by first | exact Nat.zero_lt_one | assumption | omega), ?_⟩
      | refine ⟨Or.inl rfl, ?_⟩
      | refine ⟨Or.inr (Or.inl rfl), ?_⟩
      | refine ⟨Or.inr (Or.inr rfl), ?_⟩
      | refine ⟨Or.inr ⟨rfl, (by first | exact Or.inl rfl | exact Or.inr rfl | assumption)⟩, ?_⟩
      | refine ⟨fun h => absurd h (by decide), fun _ => ?_⟩
      | refine ⟨fun _ => ?_, fun h => absurd h (by decide)⟩
      | refine ⟨fun h => ?_, fun h => ?_⟩
      | fail)
  -- up or down
  have S6 : ∀ (μ1 : zMu) (qm : zQ), hF r μ μ1 → μ1 48 0 28 = nI qm.1 → μ1 48 0 29 = qm.2 → qOk qm → eqQ q6 qm → μ1 72 0 r = 0 → μ1 69 0 r = 0 → (q6.2 = -1 → ocR oc (μ1 66 0 r) ∧ μ1 67 0 r = ky ∧ vp_in ky 7) → zG S (d + 4) m_Mo_read K 143 [some (zR 48 0), some (zI (nI r))] [] μ1 := by
    intro μ1 qm F s28 s29 ho he s72 s69 vals
    by_cases o1 : q6.2 = -1
    case neg =>
      have hf := fge ho he s29 o1
      rw [qW_ft o1] at e7
      have e72 := (Prod.mk.inj e7).2
      have hgo := S7 μ1 qm F s28 s29 ho (by rw [← e72]; exact he) s72 s69 (fun z => absurd (by rw [e72]; exact z) o1)
      repeat' (first
        | exact hgo
        | refine br_t hf ?_
        | (refine zs k_Mo_read rfl ?_; conv => whnf)
        | refine ⟨Nat.zero_lt_one, rfl, ?_⟩
        | refine ⟨rfl, ?_⟩
        | refine ⟨⟨Nat.zero_lt_one, rfl⟩, Nat.le_of_ble_eq_true rfl, ?_⟩
        | refine ⟨Nat.le_of_ble_eq_true rfl, Nat.le_of_ble_eq_true rfl, ?_⟩
        | refine ⟨(by first | exact Nat.zero_lt_one | assumption | omega), (by first | assumption | exact vp_in_nI (by omega) (by omega) | (unfold vp_in; decide)), ?_⟩
        | refine ⟨(by first | exact Nat.zero_lt_one | assumption | omega), rfl, ?_⟩
        | refine ⟨⟨(by first | exact Nat.zero_lt_one | assumption | omega), rfl⟩, Nat.le_of_ble_eq_true rfl, ?_⟩
        | refine ⟨(by first | exact Nat.zero_lt_one | assumption | omega), ?_⟩
        | refine ⟨Or.inl rfl, ?_⟩
        | refine ⟨Or.inr (Or.inl rfl), ?_⟩
        | refine ⟨Or.inr (Or.inr rfl), ?_⟩
        | refine ⟨Or.inr ⟨rfl, (by first | exact Or.inl rfl | exact Or.inr rfl | assumption)⟩, ?_⟩
        | refine ⟨fun h => absurd h (by decide), fun _ => ?_⟩
        | refine ⟨fun _ => ?_, fun h => absurd h (by decide)⟩
        | refine ⟨fun h => ?_, fun h => ?_⟩
        | fail)
    obtain rfl := (eqQ_1 he o1).symm
    obtain ⟨w1, w2, w3⟩ := vals o1
    have hf : ¬ 0 ≤ μ1 48 0 29 := i32 _ (s29.trans o1)
    have E1 := hF_E F E
    obtain ⟨y1, y2⟩ := w3_eq (by omega) o1 e7
    by_cases l : pB a n q6.1 = 117
    · obtain ⟨z1, z2⟩ := y1 l
      have F2 : hF r μ (zu μ1 68 0 r 1) := hF_r F (by decide)
      have hst : ∀ r', r' = r → zu μ1 68 0 r' (vp_nar .boolean 1) = zu μ1 68 0 r 1 := fun r' h => by rw [h]; rfl
      have hgo := S7 (cM (zu μ1 68 0 r 1) (mX a n [117, 112] q6)) (mX a n [117, 112] q6) (hF_cM F2) cM_28 cM_29 (mX_ok h200 (by decide) ho) z1 s72 s69 (fun z => ⟨w1, w2, w3, Or.inl ⟨by rw [edn, z2 z]; rfl, by rw [cM_o (by omega), zu_eq]⟩⟩)
      have ne0 : ¬ zu μ1 68 0 r 1 68 0 (nI r).toNatClampNeg = 0 := by rw [cr, zu_eq]; decide
      have e1' : zG S (d + 4) m_Mo_read K 170 [some (zR 48 0), some (zI (nI r))] [] (zu μ1 68 0 r 1) := by
        repeat' (first
          | exact hgo
          | refine br_f ne0 ?_
          | refine c_Mo_expect (cs := [117, 112]) (q := q6) (hF_E F2 E) s28 s29 ho rfl (by decide) (by decide) (by decide) ?_
          | (refine zs k_Mo_read rfl ?_; conv => whnf)
          | refine ⟨Nat.zero_lt_one, rfl, ?_⟩
          | refine ⟨rfl, ?_⟩
          | refine ⟨⟨Nat.zero_lt_one, rfl⟩, Nat.le_of_ble_eq_true rfl, ?_⟩
          | refine ⟨Nat.le_of_ble_eq_true rfl, Nat.le_of_ble_eq_true rfl, ?_⟩
          | refine ⟨(by first | exact Nat.zero_lt_one | assumption | omega), (by first | assumption | exact vp_in_nI (by omega) (by omega) | (unfold vp_in; decide)), ?_⟩
          | refine ⟨(by first | exact Nat.zero_lt_one | assumption | omega), rfl, ?_⟩
          | refine ⟨⟨(by first | exact Nat.zero_lt_one | assumption | omega), rfl⟩, Nat.le_of_ble_eq_true rfl, ?_⟩
          | refine ⟨(by first | exact Nat.zero_lt_one | assumption | omega), ?_⟩
          | refine ⟨Or.inl rfl, ?_⟩
          | refine ⟨Or.inr (Or.inl rfl), ?_⟩
          | refine ⟨Or.inr (Or.inr rfl), ?_⟩
          | refine ⟨Or.inr ⟨rfl, (by first | exact Or.inl rfl | exact Or.inr rfl | assumption)⟩, ?_⟩
          | refine ⟨fun h => absurd h (by decide), fun _ => ?_⟩
          | refine ⟨fun _ => ?_, fun h => absurd h (by decide)⟩
          | refine ⟨fun h => ?_, fun h => ?_⟩
          | fail)
      repeat' (first
        | (rw [hst _ cr]; exact e1')
        | refine br_f hf ?_
        | refine c_Mo_letter E1 s28 (by omega) ?_
        | refine bn_f l ?_
        | (refine zs k_Mo_read rfl ?_; conv => whnf)
        | refine ⟨Nat.zero_lt_one, rfl, ?_⟩
        | refine ⟨rfl, ?_⟩
        | refine ⟨⟨Nat.zero_lt_one, rfl⟩, Nat.le_of_ble_eq_true rfl, ?_⟩
        | refine ⟨Nat.le_of_ble_eq_true rfl, Nat.le_of_ble_eq_true rfl, ?_⟩
        | refine ⟨(by first | exact Nat.zero_lt_one | assumption | omega), (by first | assumption | exact vp_in_nI (by omega) (by omega) | (unfold vp_in; decide)), ?_⟩
        | refine ⟨(by first | exact Nat.zero_lt_one | assumption | omega), rfl, ?_⟩
        | refine ⟨⟨(by first | exact Nat.zero_lt_one | assumption | omega), rfl⟩, Nat.le_of_ble_eq_true rfl, ?_⟩
        | refine ⟨(by first | exact Nat.zero_lt_one | assumption | omega), ?_⟩
        | refine ⟨Or.inl rfl, ?_⟩
        | refine ⟨Or.inr (Or.inl rfl), ?_⟩
        | refine ⟨Or.inr (Or.inr rfl), ?_⟩
        | refine ⟨Or.inr ⟨rfl, (by first | exact Or.inl rfl | exact Or.inr rfl | assumption)⟩, ?_⟩
        | refine ⟨fun h => absurd h (by decide), fun _ => ?_⟩
        | refine ⟨fun _ => ?_, fun h => absurd h (by decide)⟩
        | refine ⟨fun h => ?_, fun h => ?_⟩
        | fail)
    · obtain ⟨z1, z2⟩ := y2 l
      have F2 : hF r μ (zu μ1 68 0 r 0) := hF_r F (by decide)
      have hst : ∀ r', r' = r → zu μ1 68 0 r' (vp_nar .boolean 0) = zu μ1 68 0 r 0 := fun r' h => by rw [h]; rfl
      have hgo := S7 (cM (zu μ1 68 0 r 0) (mX a n [100, 111, 119, 110] q6)) (mX a n [100, 111, 119, 110] q6) (hF_cM F2) cM_28 cM_29 (mX_ok h200 (by decide) ho) z1 s72 s69 (fun z => ⟨w1, w2, w3, Or.inr ⟨by rw [edn, z2 z]; rfl, by rw [cM_o (by omega), zu_eq]⟩⟩)
      have ne0 : zu μ1 68 0 r 0 68 0 (nI r).toNatClampNeg = 0 := by rw [cr, zu_eq]
      have e1' : zG S (d + 4) m_Mo_read K 170 [some (zR 48 0), some (zI (nI r))] [] (zu μ1 68 0 r 0) := by
        repeat' (first
          | exact hgo
          | refine br_t ne0 ?_
          | refine c_Mo_expect (cs := [100, 111, 119, 110]) (q := q6) (hF_E F2 E) s28 s29 ho rfl (by decide) (by decide) (by decide) ?_
          | (refine zs k_Mo_read rfl ?_; conv => whnf)
          | refine ⟨Nat.zero_lt_one, rfl, ?_⟩
          | refine ⟨rfl, ?_⟩
          | refine ⟨⟨Nat.zero_lt_one, rfl⟩, Nat.le_of_ble_eq_true rfl, ?_⟩
          | refine ⟨Nat.le_of_ble_eq_true rfl, Nat.le_of_ble_eq_true rfl, ?_⟩
          | refine ⟨(by first | exact Nat.zero_lt_one | assumption | omega), (by first | assumption | exact vp_in_nI (by omega) (by omega) | (unfold vp_in; decide)), ?_⟩
          | refine ⟨(by first | exact Nat.zero_lt_one | assumption | omega), rfl, ?_⟩
          | refine ⟨⟨(by first | exact Nat.zero_lt_one | assumption | omega), rfl⟩, Nat.le_of_ble_eq_true rfl, ?_⟩
          | refine ⟨(by first | exact Nat.zero_lt_one | assumption | omega), ?_⟩
          | refine ⟨Or.inl rfl, ?_⟩
          | refine ⟨Or.inr (Or.inl rfl), ?_⟩
          | refine ⟨Or.inr (Or.inr rfl), ?_⟩
          | refine ⟨Or.inr ⟨rfl, (by first | exact Or.inl rfl | exact Or.inr rfl | assumption)⟩, ?_⟩
          | refine ⟨fun h => absurd h (by decide), fun _ => ?_⟩
          | refine ⟨fun _ => ?_, fun h => absurd h (by decide)⟩
          | refine ⟨fun h => ?_, fun h => ?_⟩
          | fail)
      repeat' (first
        | (rw [hst _ cr]; exact e1')
        | refine br_f hf ?_
        | refine c_Mo_letter E1 s28 (by omega) ?_
        | refine bn_t l ?_
        | (refine zs k_Mo_read rfl ?_; conv => whnf)
        | refine ⟨Nat.zero_lt_one, rfl, ?_⟩
        | refine ⟨rfl, ?_⟩
        | refine ⟨⟨Nat.zero_lt_one, rfl⟩, Nat.le_of_ble_eq_true rfl, ?_⟩
        | refine ⟨Nat.le_of_ble_eq_true rfl, Nat.le_of_ble_eq_true rfl, ?_⟩
        | refine ⟨(by first | exact Nat.zero_lt_one | assumption | omega), (by first | assumption | exact vp_in_nI (by omega) (by omega) | (unfold vp_in; decide)), ?_⟩
        | refine ⟨(by first | exact Nat.zero_lt_one | assumption | omega), rfl, ?_⟩
        | refine ⟨⟨(by first | exact Nat.zero_lt_one | assumption | omega), rfl⟩, Nat.le_of_ble_eq_true rfl, ?_⟩
        | refine ⟨(by first | exact Nat.zero_lt_one | assumption | omega), ?_⟩
        | refine ⟨Or.inl rfl, ?_⟩
        | refine ⟨Or.inr (Or.inl rfl), ?_⟩
        | refine ⟨Or.inr (Or.inr rfl), ?_⟩
        | refine ⟨Or.inr ⟨rfl, (by first | exact Or.inl rfl | exact Or.inr rfl | assumption)⟩, ?_⟩
        | refine ⟨fun h => absurd h (by decide), fun _ => ?_⟩
        | refine ⟨fun _ => ?_, fun h => absurd h (by decide)⟩
        | refine ⟨fun h => ?_, fun h => ?_⟩
        | fail)
  have S5 : ∀ (μ1 : zMu) (qm : zQ), hF r μ μ1 → μ1 48 0 28 = nI qm.1 → μ1 48 0 29 = qm.2 → qOk qm → eqQ q5 qm → μ1 72 0 r = 0 → μ1 69 0 r = 0 → (q5.2 = -1 → ocR oc (μ1 66 0 r) ∧ μ1 67 0 r = ky ∧ vp_in ky 7) → zG S (d + 4) m_Mo_read K 136 [some (zR 48 0), some (zI (nI r))] [] μ1 := by
    intro μ1 qm F s28 s29 ho he s72 s69 vals
    have hgo := S6 (cM μ1 (mX a n [32] qm)) (mX a n [32] qm) (hF_cM F) cM_28 cM_29 (mX_ok h200 (by decide) ho) (by rw [← e6]; exact eqQ_B he) s72 s69 (fun z => vals (qB_st e6 z))
    repeat' (first
      | exact hgo
      | refine c_Mo_expect (cs := [32]) (q := qm) (hF_E F E) s28 s29 ho rfl (by decide) (by decide) (by decide) ?_
      | (refine zs k_Mo_read rfl ?_; conv => whnf)
      | refine ⟨Nat.zero_lt_one, rfl, ?_⟩
      | refine ⟨rfl, ?_⟩
      | refine ⟨⟨Nat.zero_lt_one, rfl⟩, Nat.le_of_ble_eq_true rfl, ?_⟩
      | refine ⟨Nat.le_of_ble_eq_true rfl, Nat.le_of_ble_eq_true rfl, ?_⟩
      | refine ⟨(by first | exact Nat.zero_lt_one | assumption | omega), (by first | assumption | exact vp_in_nI (by omega) (by omega) | (unfold vp_in; decide)), ?_⟩
      | refine ⟨(by first | exact Nat.zero_lt_one | assumption | omega), rfl, ?_⟩
      | refine ⟨⟨(by first | exact Nat.zero_lt_one | assumption | omega), rfl⟩, Nat.le_of_ble_eq_true rfl, ?_⟩
      | refine ⟨(by first | exact Nat.zero_lt_one | assumption | omega), ?_⟩
      | refine ⟨Or.inl rfl, ?_⟩
      | refine ⟨Or.inr (Or.inl rfl), ?_⟩
      | refine ⟨Or.inr (Or.inr rfl), ?_⟩
      | refine ⟨Or.inr ⟨rfl, (by first | exact Or.inl rfl | exact Or.inr rfl | assumption)⟩, ?_⟩
      | refine ⟨fun h => absurd h (by decide), fun _ => ?_⟩
      | refine ⟨fun _ => ?_, fun h => absurd h (by decide)⟩
      | refine ⟨fun h => ?_, fun h => ?_⟩
      | fail)
  -- the key
  have S4 : ∀ (μ1 : zMu) (qm : zQ), hF r μ μ1 → μ1 48 0 28 = nI qm.1 → μ1 48 0 29 = qm.2 → qOk qm → eqQ q4 qm → μ1 72 0 r = 0 → μ1 69 0 r = 0 → (q4.2 = -1 → ocR oc (μ1 66 0 r)) → zG S (d + 4) m_Mo_read K 118 [some (zR 48 0), some (zI (nI r))] [] μ1 := by
    intro μ1 qm F s28 s29 ho he s72 s69 vals
    by_cases o1 : q4.2 = -1
    case neg =>
      have hf := fge ho he s29 o1
      rw [qW_ft o1] at e5
      have e52 := (Prod.mk.inj e5).2
      have hgo := S5 μ1 qm F s28 s29 ho (by rw [← e52]; exact he) s72 s69 (fun z => absurd (by rw [e52]; exact z) o1)
      repeat' (first
        | exact hgo
        | refine br_t hf ?_
        | (refine zs k_Mo_read rfl ?_; conv => whnf)
        | refine ⟨Nat.zero_lt_one, rfl, ?_⟩
        | refine ⟨rfl, ?_⟩
        | refine ⟨⟨Nat.zero_lt_one, rfl⟩, Nat.le_of_ble_eq_true rfl, ?_⟩
        | refine ⟨Nat.le_of_ble_eq_true rfl, Nat.le_of_ble_eq_true rfl, ?_⟩
        | refine ⟨(by first | exact Nat.zero_lt_one | assumption | omega), (by first | assumption | exact vp_in_nI (by omega) (by omega) | (unfold vp_in; decide)), ?_⟩
        | refine ⟨(by first | exact Nat.zero_lt_one | assumption | omega), rfl, ?_⟩
        | refine ⟨⟨(by first | exact Nat.zero_lt_one | assumption | omega), rfl⟩, Nat.le_of_ble_eq_true rfl, ?_⟩
        | refine ⟨(by first | exact Nat.zero_lt_one | assumption | omega), ?_⟩
        | refine ⟨Or.inl rfl, ?_⟩
        | refine ⟨Or.inr (Or.inl rfl), ?_⟩
        | refine ⟨Or.inr (Or.inr rfl), ?_⟩
        | refine ⟨Or.inr ⟨rfl, (by first | exact Or.inl rfl | exact Or.inr rfl | assumption)⟩, ?_⟩
        | refine ⟨fun h => absurd h (by decide), fun _ => ?_⟩
        | refine ⟨fun _ => ?_, fun h => absurd h (by decide)⟩
        | refine ⟨fun h => ?_, fun h => ?_⟩
        | fail)
    obtain rfl := (eqQ_1 he o1).symm
    have w1 := vals o1
    have hf : ¬ 0 ≤ μ1 48 0 29 := i32 _ (s29.trans o1)
    have E1 := hF_E F E
    have e5' : qW a n (q4.1, -1) 2 = (ky, q5) := by rw [← o1]; exact e5
    have hky : q5.2 = -1 → vp_in ky 7 := fun z => by
      obtain ⟨i, hi, e⟩ := qW_ix (by omega) e5 z (by omega) (zWd_s 2 (by omega))
      have hi5 : i < 5 := hi
      rw [e]
      exact vp_in_nI (by omega) (by omega)
    rw [qW_eq (by omega), show zWd.getD 2 [] = zWf.take 5 from rfl] at e5'
    have go : ∀ (i : Nat) (Q : zQ), qOk Q → eqQ q5 Q → (q5.2 = -1 → nI i = ky) → ∀ r', r' = r → zG S (d + 4) m_Mo_read K 136 [some (zR 48 0), some (zI (nI r))] [] (zu (cM μ1 Q) 67 0 r' (nI i)) := fun i Q hQ heQ hv r' hr' => by
      rw [hr']
      exact S5 _ Q (hF_r (hF_cM F) (by decide)) cM_28 cM_29 hQ heQ s72 s69 (fun z => ⟨w1, by rw [zu_eq]; exact hv z, hky z⟩)
    repeat' (first
      | refine br_f hf ?_
      | refine c_Mo_word (m := 5) E1 s28 (s29.trans o1) n4 (by omega) (by omega) rfl (fun i L hw => ?_) (fun i L hw => ?_)
      | refine go i (q4.1 + L, -1) ?_ ?_ ?_ _ cr
      | refine go i (q4.1 + L, nI (q4.1 + L)) ?_ ?_ ?_ _ cr
      | (refine zs k_Mo_read rfl ?_; conv => whnf)
      | refine ⟨Nat.zero_lt_one, rfl, ?_⟩
      | refine ⟨rfl, ?_⟩
      | refine ⟨⟨Nat.zero_lt_one, rfl⟩, Nat.le_of_ble_eq_true rfl, ?_⟩
      | refine ⟨Nat.le_of_ble_eq_true rfl, Nat.le_of_ble_eq_true rfl, ?_⟩
      | refine ⟨(by first | exact Nat.zero_lt_one | assumption | omega), (by first | assumption | exact vp_in_nI (by omega) (by omega) | (unfold vp_in; decide)), ?_⟩
      | refine ⟨(by first | exact Nat.zero_lt_one | assumption | omega), rfl, ?_⟩
      | refine ⟨⟨(by first | exact Nat.zero_lt_one | assumption | omega), rfl⟩, Nat.le_of_ble_eq_true rfl, ?_⟩
      | refine ⟨(by first | exact Nat.zero_lt_one | assumption | omega), ?_⟩
      | refine ⟨Or.inl rfl, ?_⟩
      | refine ⟨Or.inr (Or.inl rfl), ?_⟩
      | refine ⟨Or.inr (Or.inr rfl), ?_⟩
      | refine ⟨Or.inr ⟨rfl, (by first | exact Or.inl rfl | exact Or.inr rfl | assumption)⟩, ?_⟩
      | refine ⟨fun h => absurd h (by decide), fun _ => ?_⟩
      | refine ⟨fun _ => ?_, fun h => absurd h (by decide)⟩
      | refine ⟨fun h => ?_, fun h => ?_⟩
      | fail)
    · rw [hw] at e5'
      obtain ⟨-, e52⟩ := Prod.mk.inj e5'
      have n5' := n5
      rw [← e52] at n5'
      exact ⟨by have : q4.1 + L ≤ n := n5'; show q4.1 + L ≤ 1000; omega, Or.inl rfl⟩
    · rw [hw] at e5'
      obtain ⟨-, e52⟩ := Prod.mk.inj e5'
      rw [← e52]
      exact eqQ_rf
    · rw [hw] at e5'
      obtain ⟨e51, -⟩ := Prod.mk.inj e5'
      exact fun _ => e51
    · obtain ⟨-, -, -, -, hL⟩ := mbl_no (b := fun j => pB a n (q4.1 + j)) (by omega) (by omega) hw
      exact ⟨by show q4.1 + L ≤ 1000; omega, Or.inr ⟨q4.1 + L, by omega, rfl⟩⟩
    · rw [hw] at e5'
      obtain ⟨-, e52⟩ := Prod.mk.inj e5'
      obtain ⟨-, -, -, -, hL⟩ := mbl_no (b := fun j => pB a n (q4.1 + j)) (by omega) (by omega) hw
      rw [← e52]
      exact ⟨rfl, fun z => absurd z (nI_nem1 (by omega))⟩
    · rw [hw] at e5'
      obtain ⟨-, e52⟩ := Prod.mk.inj e5'
      obtain ⟨-, -, -, -, hL⟩ := mbl_no (b := fun j => pB a n (q4.1 + j)) (by omega) (by omega) hw
      rw [← e52]
      exact fun z => absurd z (nI_nem1 (by omega))
  have S3 : ∀ (μ1 : zMu) (qm : zQ), hF r μ μ1 → μ1 48 0 28 = nI qm.1 → μ1 48 0 29 = qm.2 → qOk qm → eqQ q3 qm → μ1 72 0 r = 0 → μ1 69 0 r = 0 → (q3.2 = -1 → ocR oc (μ1 66 0 r)) → zG S (d + 4) m_Mo_read K 111 [some (zR 48 0), some (zI (nI r))] [] μ1 := by
    intro μ1 qm F s28 s29 ho he s72 s69 vals
    have hgo := S4 (cM μ1 (mX a n [32] qm)) (mX a n [32] qm) (hF_cM F) cM_28 cM_29 (mX_ok h200 (by decide) ho) (by rw [← e4]; exact eqQ_B he) s72 s69 (fun z => vals (qB_st e4 z))
    repeat' (first
      | exact hgo
      | refine c_Mo_expect (cs := [32]) (q := qm) (hF_E F E) s28 s29 ho rfl (by decide) (by decide) (by decide) ?_
      | (refine zs k_Mo_read rfl ?_; conv => whnf)
      | refine ⟨Nat.zero_lt_one, rfl, ?_⟩
      | refine ⟨rfl, ?_⟩
      | refine ⟨⟨Nat.zero_lt_one, rfl⟩, Nat.le_of_ble_eq_true rfl, ?_⟩
      | refine ⟨Nat.le_of_ble_eq_true rfl, Nat.le_of_ble_eq_true rfl, ?_⟩
      | refine ⟨(by first | exact Nat.zero_lt_one | assumption | omega), (by first | assumption | exact vp_in_nI (by omega) (by omega) | (unfold vp_in; decide)), ?_⟩
      | refine ⟨(by first | exact Nat.zero_lt_one | assumption | omega), rfl, ?_⟩
      | refine ⟨⟨(by first | exact Nat.zero_lt_one | assumption | omega), rfl⟩, Nat.le_of_ble_eq_true rfl, ?_⟩
      | refine ⟨(by first | exact Nat.zero_lt_one | assumption | omega), ?_⟩
      | refine ⟨Or.inl rfl, ?_⟩
      | refine ⟨Or.inr (Or.inl rfl), ?_⟩
      | refine ⟨Or.inr (Or.inr rfl), ?_⟩
      | refine ⟨Or.inr ⟨rfl, (by first | exact Or.inl rfl | exact Or.inr rfl | assumption)⟩, ?_⟩
      | refine ⟨fun h => absurd h (by decide), fun _ => ?_⟩
      | refine ⟨fun _ => ?_, fun h => absurd h (by decide)⟩
      | refine ⟨fun h => ?_, fun h => ?_⟩
      | fail)
  -- the occasion
  have S2 : ∀ (μ1 : zMu) (qm : zQ), hF r μ μ1 → μ1 48 0 28 = nI qm.1 → μ1 48 0 29 = qm.2 → qOk qm → eqQ q2 qm → μ1 72 0 r = 0 → μ1 69 0 r = 0 → zG S (d + 4) m_Mo_read K 31 [some (zR 48 0), some (zI (nI r))] [] μ1 := by
    intro μ1 qm F s28 s29 ho he s72 s69
    by_cases o1 : q2.2 = -1
    case neg =>
      have hf := fge ho he s29 o1
      rw [qW_ft o1] at e3
      have e32 := (Prod.mk.inj e3).2
      have hgo := S3 μ1 qm F s28 s29 ho (by rw [← e32]; exact he) s72 s69 (fun z => absurd (by rw [e32]; exact z) o1)
      repeat' (first
        | exact hgo
        | refine br_t hf ?_
        | (refine zs k_Mo_read rfl ?_; conv => whnf)
        | refine ⟨Nat.zero_lt_one, rfl, ?_⟩
        | refine ⟨rfl, ?_⟩
        | refine ⟨⟨Nat.zero_lt_one, rfl⟩, Nat.le_of_ble_eq_true rfl, ?_⟩
        | refine ⟨Nat.le_of_ble_eq_true rfl, Nat.le_of_ble_eq_true rfl, ?_⟩
        | refine ⟨(by first | exact Nat.zero_lt_one | assumption | omega), (by first | assumption | exact vp_in_nI (by omega) (by omega) | (unfold vp_in; decide)), ?_⟩
        | refine ⟨(by first | exact Nat.zero_lt_one | assumption | omega), rfl, ?_⟩
        | refine ⟨⟨(by first | exact Nat.zero_lt_one | assumption | omega), rfl⟩, Nat.le_of_ble_eq_true rfl, ?_⟩
        | refine ⟨(by first | exact Nat.zero_lt_one | assumption | omega), ?_⟩
        | refine ⟨Or.inl rfl, ?_⟩
        | refine ⟨Or.inr (Or.inl rfl), ?_⟩
        | refine ⟨Or.inr (Or.inr rfl), ?_⟩
        | refine ⟨Or.inr ⟨rfl, (by first | exact Or.inl rfl | exact Or.inr rfl | assumption)⟩, ?_⟩
        | refine ⟨fun h => absurd h (by decide), fun _ => ?_⟩
        | refine ⟨fun _ => ?_, fun h => absurd h (by decide)⟩
        | refine ⟨fun h => ?_, fun h => ?_⟩
        | fail)
    obtain rfl := (eqQ_1 he o1).symm
    have hf : ¬ 0 ≤ μ1 48 0 29 := i32 _ (s29.trans o1)
    have E1 := hF_E F E
    obtain ⟨y1, y2, y3⟩ := w1_eq (by omega) o1 e3
    have stA : ∀ (m : Int32) (Q : zQ), (Q = (q2.1 + 1, -1) ∨ Q = (q2.1 + 1, nI q2.1)) → eqQ q3 Q → (q3.2 = -1 → ocR oc m) → zG S (d + 4) m_Mo_read K 111 [some (zR 48 0), some (zI (nI r))] [] (cM (zu μ1 66 0 r m) Q) := fun m Q hQ heQ hv => by
      refine S3 _ Q (hF_cM (hF_r F (by decide))) cM_28 cM_29 ?_ heQ s72 s69 (fun z => by rw [cM_o (by omega), zu_eq]; exact hv z)
      rcases hQ with h | h
      · rw [h]
        exact ⟨by show q2.1 + 1 ≤ 1000; omega, Or.inl rfl⟩
      · rw [h]
        exact ⟨by show q2.1 + 1 ≤ 1000; omega, Or.inr ⟨q2.1, by omega, rfl⟩⟩
    -- the fault stays, or comes
    have st66 : ∀ (m : Int32), zu μ1 66 0 r m = cM (zu μ1 66 0 r m) (q2.1, -1) := fun m => cM_id s28 (s29.trans o1)
    have B1 : ∀ (m : Int32), eqQ q3 (q2.1 + 1, -1) → (q3.2 = -1 → ocR oc m) → zG S (d + 4) m_Mo_read K 87 [some (zR 48 0), some (zI (nI r))] [zR 48 0] (zu μ1 66 0 r m) := fun m heQ hv => by
      have hgo := stA m (q2.1 + 1, -1) (Or.inl rfl) heQ hv
      have hst : zu (zu (zu μ1 66 0 r m) 48 0 29 (zu μ1 66 0 r m 48 0 29)) 48 0 28 (zu (zu μ1 66 0 r m) 48 0 29 (zu μ1 66 0 r m 48 0 29) 48 0 28 + 1) = cM (zu μ1 66 0 r m) (q2.1 + 1, -1) := by
        have h1 : zu (zu μ1 66 0 r m) 48 0 29 (zu μ1 66 0 r m 48 0 29) = cM (zu μ1 66 0 r m) (q2.1, -1) := by
          conv => lhs; rw [st66 m]
          rw [cM_fl, cM_29]
        rw [h1, cM_28, nI_1, cM_at rfl]
      repeat' (first
        | (rw [hst]; exact hgo)
        | (refine zs k_Mo_read rfl ?_; conv => whnf)
        | refine ⟨Nat.zero_lt_one, rfl, ?_⟩
        | refine ⟨rfl, ?_⟩
        | refine ⟨⟨Nat.zero_lt_one, rfl⟩, Nat.le_of_ble_eq_true rfl, ?_⟩
        | refine ⟨Nat.le_of_ble_eq_true rfl, Nat.le_of_ble_eq_true rfl, ?_⟩
        | refine ⟨(by first | exact Nat.zero_lt_one | assumption | omega), (by first | assumption | exact vp_in_nI (by omega) (by omega) | (unfold vp_in; decide)), ?_⟩
        | refine ⟨(by first | exact Nat.zero_lt_one | assumption | omega), rfl, ?_⟩
        | refine ⟨⟨(by first | exact Nat.zero_lt_one | assumption | omega), rfl⟩, Nat.le_of_ble_eq_true rfl, ?_⟩
        | refine ⟨(by first | exact Nat.zero_lt_one | assumption | omega), ?_⟩
        | refine ⟨Or.inl rfl, ?_⟩
        | refine ⟨Or.inr (Or.inl rfl), ?_⟩
        | refine ⟨Or.inr (Or.inr rfl), ?_⟩
        | refine ⟨Or.inr ⟨rfl, (by first | exact Or.inl rfl | exact Or.inr rfl | assumption)⟩, ?_⟩
        | refine ⟨fun h => absurd h (by decide), fun _ => ?_⟩
        | refine ⟨fun _ => ?_, fun h => absurd h (by decide)⟩
        | refine ⟨fun h => ?_, fun h => ?_⟩
        | fail)
    have B2 : ∀ (m : Int32), eqQ q3 (q2.1 + 1, nI q2.1) → (q3.2 = -1 → ocR oc m) → zG S (d + 4) m_Mo_read K 94 [some (zR 48 0), some (zI (nI r))] [zR 48 0] (zu μ1 66 0 r m) := fun m heQ hv => by
      have hgo := stA m (q2.1 + 1, nI q2.1) (Or.inr rfl) heQ hv
      have hst : zu (zu (zu μ1 66 0 r m) 48 0 29 (zu μ1 66 0 r m 48 0 28)) 48 0 28 (zu (zu μ1 66 0 r m) 48 0 29 (zu μ1 66 0 r m 48 0 28) 48 0 28 + 1) = cM (zu μ1 66 0 r m) (q2.1 + 1, nI q2.1) := by
        have h1 : zu (zu μ1 66 0 r m) 48 0 29 (zu μ1 66 0 r m 48 0 28) = cM (zu μ1 66 0 r m) (q2.1, nI q2.1) := by
          conv => lhs; rw [st66 m]
          rw [cM_fl, cM_28]
        rw [h1, cM_28, nI_1, cM_at rfl]
      repeat' (first
        | (rw [hst]; exact hgo)
        | (refine zs k_Mo_read rfl ?_; conv => whnf)
        | refine ⟨Nat.zero_lt_one, rfl, ?_⟩
        | refine ⟨rfl, ?_⟩
        | refine ⟨⟨Nat.zero_lt_one, rfl⟩, Nat.le_of_ble_eq_true rfl, ?_⟩
        | refine ⟨Nat.le_of_ble_eq_true rfl, Nat.le_of_ble_eq_true rfl, ?_⟩
        | refine ⟨(by first | exact Nat.zero_lt_one | assumption | omega), (by first | assumption | exact vp_in_nI (by omega) (by omega) | (unfold vp_in; decide)), ?_⟩
        | refine ⟨(by first | exact Nat.zero_lt_one | assumption | omega), rfl, ?_⟩
        | refine ⟨⟨(by first | exact Nat.zero_lt_one | assumption | omega), rfl⟩, Nat.le_of_ble_eq_true rfl, ?_⟩
        | refine ⟨(by first | exact Nat.zero_lt_one | assumption | omega), ?_⟩
        | refine ⟨Or.inl rfl, ?_⟩
        | refine ⟨Or.inr (Or.inl rfl), ?_⟩
        | refine ⟨Or.inr (Or.inr rfl), ?_⟩
        | refine ⟨Or.inr ⟨rfl, (by first | exact Or.inl rfl | exact Or.inr rfl | assumption)⟩, ?_⟩
        | refine ⟨fun h => absurd h (by decide), fun _ => ?_⟩
        | refine ⟨fun _ => ?_, fun h => absurd h (by decide)⟩
        | refine ⟨fun h => ?_, fun h => ?_⟩
        | fail)
    have E66 : ∀ m : Int32, mE (zu μ1 66 0 r m) a n := fun m => hF_E (hF_r F (by decide)) E
    by_cases dg : 48 ≤ pB a n q2.1 ∧ pB a n q2.1 ≤ 57
    · obtain ⟨z1, z2⟩ := y2 dg
      have hoc : ocR oc (pB a n q2.1 - 48) := by
        have e : oc = pB a n q2.1 - 48 := by rw [eoc, z2]; grind
        obtain ⟨c, hc, ec⟩ := nI_of2 (x := pB a n q2.1) (M := 57) (n := 57) rfl (by have := dg.1; grind) dg.2
        have h48 : 48 ≤ c := (nI_leI (a := 48) (by omega) (by omega)).mp (by rw [← ec]; exact dg.1)
        have e2 : pB a n q2.1 - 48 = nI (c - 48) := by rw [ec]; exact pk_sub (b := 48) h48
        refine Or.inr ⟨?_, ?_, e.symm⟩
        · rw [e, e2]
          exact nI_pos' (by omega)
        · rw [e, e2]
          exact nI_le (b := 9) (by omega) (by omega)
      have hlt : pB a n q2.1 - 48 < 10 := by
        obtain ⟨c, hc, ec⟩ := nI_of2 (x := pB a n q2.1) (M := 57) (n := 57) rfl (by have := dg.1; grind) dg.2
        have h48 : 48 ≤ c := (nI_leI (a := 48) (by omega) (by omega)).mp (by rw [← ec]; exact dg.1)
        rw [ec, show nI c - 48 = nI (c - 48) from pk_sub (b := 48) h48]
        exact nI_lt (b := 10) (by omega) (by omega)
      have hgo := B1 (pB a n q2.1 - 48) (by rw [z1]; exact eqQ_rf) (fun _ => hoc)
      have c66 : zu μ1 66 0 r (pB a n q2.1 - 48) 66 0 (nI r).toNatClampNeg < 10 := by rw [cr, zu_eq]; exact hlt
      have hg2 : zG S (d + 4) m_Mo_read K 66 [some (zR 48 0), some (zI (nI r))] [] (zu μ1 66 0 r (pB a n q2.1 - 48)) := by
        repeat' (first
          | exact hgo
          | refine br_t c66 ?_
          | (refine zs k_Mo_read rfl ?_; conv => whnf)
          | refine ⟨Nat.zero_lt_one, rfl, ?_⟩
          | refine ⟨rfl, ?_⟩
          | refine ⟨⟨Nat.zero_lt_one, rfl⟩, Nat.le_of_ble_eq_true rfl, ?_⟩
          | refine ⟨Nat.le_of_ble_eq_true rfl, Nat.le_of_ble_eq_true rfl, ?_⟩
          | refine ⟨(by first | exact Nat.zero_lt_one | assumption | omega), (by first | assumption | exact vp_in_nI (by omega) (by omega) | (unfold vp_in; decide)), ?_⟩
          | refine ⟨(by first | exact Nat.zero_lt_one | assumption | omega), rfl, ?_⟩
          | refine ⟨⟨(by first | exact Nat.zero_lt_one | assumption | omega), rfl⟩, Nat.le_of_ble_eq_true rfl, ?_⟩
          | refine ⟨(by first | exact Nat.zero_lt_one | assumption | omega), ?_⟩
          | refine ⟨Or.inl rfl, ?_⟩
          | refine ⟨Or.inr (Or.inl rfl), ?_⟩
          | refine ⟨Or.inr (Or.inr rfl), ?_⟩
          | refine ⟨Or.inr ⟨rfl, (by first | exact Or.inl rfl | exact Or.inr rfl | assumption)⟩, ?_⟩
          | refine ⟨fun h => absurd h (by decide), fun _ => ?_⟩
          | refine ⟨fun _ => ?_, fun h => absurd h (by decide)⟩
          | refine ⟨fun h => ?_, fun h => ?_⟩
          | fail)
      repeat' (first
        | (rw [cr]; exact hg2)
        | refine br_f hf ?_
        | refine c_Mo_letter E1 s28 (by omega) ?_
        | refine c_Mo_isDigit (fun _ => ?_) (fun q => absurd dg q)
        | (refine zs k_Mo_read rfl ?_; conv => whnf)
        | refine ⟨Nat.zero_lt_one, rfl, ?_⟩
        | refine ⟨rfl, ?_⟩
        | refine ⟨⟨Nat.zero_lt_one, rfl⟩, Nat.le_of_ble_eq_true rfl, ?_⟩
        | refine ⟨Nat.le_of_ble_eq_true rfl, Nat.le_of_ble_eq_true rfl, ?_⟩
        | refine ⟨(by first | exact Nat.zero_lt_one | assumption | omega), (by first | assumption | exact vp_in_nI (by omega) (by omega) | (unfold vp_in; decide)), ?_⟩
        | refine ⟨(by first | exact Nat.zero_lt_one | assumption | omega), rfl, ?_⟩
        | refine ⟨⟨(by first | exact Nat.zero_lt_one | assumption | omega), rfl⟩, Nat.le_of_ble_eq_true rfl, ?_⟩
        | refine ⟨(by first | exact Nat.zero_lt_one | assumption | omega), ?_⟩
        | refine ⟨Or.inl rfl, ?_⟩
        | refine ⟨Or.inr (Or.inl rfl), ?_⟩
        | refine ⟨Or.inr (Or.inr rfl), ?_⟩
        | refine ⟨Or.inr ⟨rfl, (by first | exact Or.inl rfl | exact Or.inr rfl | assumption)⟩, ?_⟩
        | refine ⟨fun h => absurd h (by decide), fun _ => ?_⟩
        | refine ⟨fun _ => ?_, fun h => absurd h (by decide)⟩
        | refine ⟨fun h => ?_, fun h => ?_⟩
        | fail)
    · have n66 : ¬ zu μ1 66 0 r 10 66 0 (nI r).toNatClampNeg < 10 := by rw [cr, zu_eq]; decide
      by_cases l : pB a n q2.1 = 42
      · obtain ⟨z1, z2⟩ := y1 l
        have hoc : ocR oc 10 := Or.inl ⟨by rw [eoc, z2]; decide, rfl⟩
        have hgo := B1 10 (by rw [z1]; exact eqQ_rf) (fun _ => hoc)
        have hg2 : zG S (d + 4) m_Mo_read K 66 [some (zR 48 0), some (zI (nI r))] [] (zu μ1 66 0 r 10) := by
          repeat' (first
            | exact hgo
            | refine br_f n66 ?_
            | refine c_Mo_letter (E66 10) s28 (by omega) ?_
            | refine bn_f l ?_
            | (refine zs k_Mo_read rfl ?_; conv => whnf)
            | refine ⟨Nat.zero_lt_one, rfl, ?_⟩
            | refine ⟨rfl, ?_⟩
            | refine ⟨⟨Nat.zero_lt_one, rfl⟩, Nat.le_of_ble_eq_true rfl, ?_⟩
            | refine ⟨Nat.le_of_ble_eq_true rfl, Nat.le_of_ble_eq_true rfl, ?_⟩
            | refine ⟨(by first | exact Nat.zero_lt_one | assumption | omega), (by first | assumption | exact vp_in_nI (by omega) (by omega) | (unfold vp_in; decide)), ?_⟩
            | refine ⟨(by first | exact Nat.zero_lt_one | assumption | omega), rfl, ?_⟩
            | refine ⟨⟨(by first | exact Nat.zero_lt_one | assumption | omega), rfl⟩, Nat.le_of_ble_eq_true rfl, ?_⟩
            | refine ⟨(by first | exact Nat.zero_lt_one | assumption | omega), ?_⟩
            | refine ⟨Or.inl rfl, ?_⟩
            | refine ⟨Or.inr (Or.inl rfl), ?_⟩
            | refine ⟨Or.inr (Or.inr rfl), ?_⟩
            | refine ⟨Or.inr ⟨rfl, (by first | exact Or.inl rfl | exact Or.inr rfl | assumption)⟩, ?_⟩
            | refine ⟨fun h => absurd h (by decide), fun _ => ?_⟩
            | refine ⟨fun _ => ?_, fun h => absurd h (by decide)⟩
            | refine ⟨fun h => ?_, fun h => ?_⟩
            | fail)
        repeat' (first
          | (rw [cr]; exact hg2)
          | refine br_f hf ?_
          | refine c_Mo_letter E1 s28 (by omega) ?_
          | refine c_Mo_isDigit (fun q => absurd q dg) (fun _ => ?_)
          | (refine zs k_Mo_read rfl ?_; conv => whnf)
          | refine ⟨Nat.zero_lt_one, rfl, ?_⟩
          | refine ⟨rfl, ?_⟩
          | refine ⟨⟨Nat.zero_lt_one, rfl⟩, Nat.le_of_ble_eq_true rfl, ?_⟩
          | refine ⟨Nat.le_of_ble_eq_true rfl, Nat.le_of_ble_eq_true rfl, ?_⟩
          | refine ⟨(by first | exact Nat.zero_lt_one | assumption | omega), (by first | assumption | exact vp_in_nI (by omega) (by omega) | (unfold vp_in; decide)), ?_⟩
          | refine ⟨(by first | exact Nat.zero_lt_one | assumption | omega), rfl, ?_⟩
          | refine ⟨⟨(by first | exact Nat.zero_lt_one | assumption | omega), rfl⟩, Nat.le_of_ble_eq_true rfl, ?_⟩
          | refine ⟨(by first | exact Nat.zero_lt_one | assumption | omega), ?_⟩
          | refine ⟨Or.inl rfl, ?_⟩
          | refine ⟨Or.inr (Or.inl rfl), ?_⟩
          | refine ⟨Or.inr (Or.inr rfl), ?_⟩
          | refine ⟨Or.inr ⟨rfl, (by first | exact Or.inl rfl | exact Or.inr rfl | assumption)⟩, ?_⟩
          | refine ⟨fun h => absurd h (by decide), fun _ => ?_⟩
          | refine ⟨fun _ => ?_, fun h => absurd h (by decide)⟩
          | refine ⟨fun h => ?_, fun h => ?_⟩
          | fail)
      · have z1 := y3 l dg
        have hnm : ¬ q3.2 = -1 := by rw [z1]; exact nI_nem1 (by omega)
        have hgo := B2 10 ⟨z1.symm, fun z => absurd z hnm⟩ (fun z => absurd z hnm)
        have hg2 : zG S (d + 4) m_Mo_read K 66 [some (zR 48 0), some (zI (nI r))] [] (zu μ1 66 0 r 10) := by
          repeat' (first
            | exact hgo
            | refine br_f n66 ?_
            | refine c_Mo_letter (E66 10) s28 (by omega) ?_
            | refine bn_t l ?_
            | (refine zs k_Mo_read rfl ?_; conv => whnf)
            | refine ⟨Nat.zero_lt_one, rfl, ?_⟩
            | refine ⟨rfl, ?_⟩
            | refine ⟨⟨Nat.zero_lt_one, rfl⟩, Nat.le_of_ble_eq_true rfl, ?_⟩
            | refine ⟨Nat.le_of_ble_eq_true rfl, Nat.le_of_ble_eq_true rfl, ?_⟩
            | refine ⟨(by first | exact Nat.zero_lt_one | assumption | omega), (by first | assumption | exact vp_in_nI (by omega) (by omega) | (unfold vp_in; decide)), ?_⟩
            | refine ⟨(by first | exact Nat.zero_lt_one | assumption | omega), rfl, ?_⟩
            | refine ⟨⟨(by first | exact Nat.zero_lt_one | assumption | omega), rfl⟩, Nat.le_of_ble_eq_true rfl, ?_⟩
            | refine ⟨(by first | exact Nat.zero_lt_one | assumption | omega), ?_⟩
            | refine ⟨Or.inl rfl, ?_⟩
            | refine ⟨Or.inr (Or.inl rfl), ?_⟩
            | refine ⟨Or.inr (Or.inr rfl), ?_⟩
            | refine ⟨Or.inr ⟨rfl, (by first | exact Or.inl rfl | exact Or.inr rfl | assumption)⟩, ?_⟩
            | refine ⟨fun h => absurd h (by decide), fun _ => ?_⟩
            | refine ⟨fun _ => ?_, fun h => absurd h (by decide)⟩
            | refine ⟨fun h => ?_, fun h => ?_⟩
            | fail)
        repeat' (first
          | (rw [cr]; exact hg2)
          | refine br_f hf ?_
          | refine c_Mo_letter E1 s28 (by omega) ?_
          | refine c_Mo_isDigit (fun q => absurd q dg) (fun _ => ?_)
          | (refine zs k_Mo_read rfl ?_; conv => whnf)
          | refine ⟨Nat.zero_lt_one, rfl, ?_⟩
          | refine ⟨rfl, ?_⟩
          | refine ⟨⟨Nat.zero_lt_one, rfl⟩, Nat.le_of_ble_eq_true rfl, ?_⟩
          | refine ⟨Nat.le_of_ble_eq_true rfl, Nat.le_of_ble_eq_true rfl, ?_⟩
          | refine ⟨(by first | exact Nat.zero_lt_one | assumption | omega), (by first | assumption | exact vp_in_nI (by omega) (by omega) | (unfold vp_in; decide)), ?_⟩
          | refine ⟨(by first | exact Nat.zero_lt_one | assumption | omega), rfl, ?_⟩
          | refine ⟨⟨(by first | exact Nat.zero_lt_one | assumption | omega), rfl⟩, Nat.le_of_ble_eq_true rfl, ?_⟩
          | refine ⟨(by first | exact Nat.zero_lt_one | assumption | omega), ?_⟩
          | refine ⟨Or.inl rfl, ?_⟩
          | refine ⟨Or.inr (Or.inl rfl), ?_⟩
          | refine ⟨Or.inr (Or.inr rfl), ?_⟩
          | refine ⟨Or.inr ⟨rfl, (by first | exact Or.inl rfl | exact Or.inr rfl | assumption)⟩, ?_⟩
          | refine ⟨fun h => absurd h (by decide), fun _ => ?_⟩
          | refine ⟨fun _ => ?_, fun h => absurd h (by decide)⟩
          | refine ⟨fun h => ?_, fun h => ?_⟩
          | fail)
  -- the beginning
  have F0 : hF r μ (zu (zu (cM μ (0, -1)) 72 0 r 0) 69 0 r 0) := hF_r (hF_r (hF_cM hF_rf) (by decide)) (by decide)
  have ok0 : qOk (0, -1) := ⟨Nat.zero_le _, Or.inl rfl⟩
  have hX0 : eqQ q2 (mX a n [111, 110, 32] (0, -1)) := by
    have s1 : mX a n [111, 110, 32] (0, -1) = mX a n [32] (mX a n [111, 110] (0, -1)) := mX_app (c1 := [111, 110]) (c2 := [32]) (by decide)
    rw [s1, ← e2]
    exact eqQ_B (qW_1 (by omega) rfl (by decide) e1 eqQ_rf)
  have hgo := S2 (cM (zu (zu (cM μ (0, -1)) 72 0 r 0) 69 0 r 0) (mX a n [111, 110, 32] (0, -1))) (mX a n [111, 110, 32] (0, -1)) (hF_cM F0) cM_28 cM_29 (mX_ok h200 (by decide) ok0) hX0 (by rw [cM_o (by omega), zu_ne (by omega), zu_eq]) (by rw [cM_o (by omega), zu_eq])
  have hs0 : ∀ r', r' = r → zu (zu (zu (zu μ 48 0 28 0) 48 0 29 (-1)) 72 0 r' 0) 69 0 r' (vp_nar .boolean 0) = zu (zu (cM μ (0, -1)) 72 0 r 0) 69 0 r 0 := fun r' h => by rw [h]; rfl
  have S0 : zG S (d + 4) m_Mo_read K 24 [some (zR 48 0), some (zI (nI r))] [] (zu (zu (cM μ (0, -1)) 72 0 r 0) 69 0 r 0) := by
    repeat' (first
      | exact hgo
      | refine c_Mo_expect (cs := [111, 110, 32]) (q := (0, -1)) (hF_E F0 E) (by rw [zu_ne (by omega), zu_ne (by omega)]; exact cM_28) (by rw [zu_ne (by omega), zu_ne (by omega)]; exact cM_29) ok0 rfl (by decide) (by decide) (by decide) ?_
      | (refine zs k_Mo_read rfl ?_; conv => whnf)
      | refine ⟨Nat.zero_lt_one, rfl, ?_⟩
      | refine ⟨rfl, ?_⟩
      | refine ⟨⟨Nat.zero_lt_one, rfl⟩, Nat.le_of_ble_eq_true rfl, ?_⟩
      | refine ⟨Nat.le_of_ble_eq_true rfl, Nat.le_of_ble_eq_true rfl, ?_⟩
      | refine ⟨(by first | exact Nat.zero_lt_one | assumption | omega), (by first | assumption | exact vp_in_nI (by omega) (by omega) | (unfold vp_in; decide)), ?_⟩
      | refine ⟨(by first | exact Nat.zero_lt_one | assumption | omega), rfl, ?_⟩
      | refine ⟨⟨(by first | exact Nat.zero_lt_one | assumption | omega), rfl⟩, Nat.le_of_ble_eq_true rfl, ?_⟩
      | refine ⟨(by first | exact Nat.zero_lt_one | assumption | omega), ?_⟩
      | refine ⟨Or.inl rfl, ?_⟩
      | refine ⟨Or.inr (Or.inl rfl), ?_⟩
      | refine ⟨Or.inr (Or.inr rfl), ?_⟩
      | refine ⟨Or.inr ⟨rfl, (by first | exact Or.inl rfl | exact Or.inr rfl | assumption)⟩, ?_⟩
      | refine ⟨fun h => absurd h (by decide), fun _ => ?_⟩
      | refine ⟨fun _ => ?_, fun h => absurd h (by decide)⟩
      | refine ⟨fun h => ?_, fun h => ?_⟩
      | fail)
  repeat' (first
    | (rw [hs0 _ cr]; exact S0)
    | (refine zs k_Mo_read rfl ?_; conv => whnf)
    | refine ⟨Nat.zero_lt_one, rfl, ?_⟩
    | refine ⟨rfl, ?_⟩
    | refine ⟨⟨Nat.zero_lt_one, rfl⟩, Nat.le_of_ble_eq_true rfl, ?_⟩
    | refine ⟨Nat.le_of_ble_eq_true rfl, Nat.le_of_ble_eq_true rfl, ?_⟩
    | refine ⟨(by first | exact Nat.zero_lt_one | assumption | omega), (by first | assumption | exact vp_in_nI (by omega) (by omega) | (unfold vp_in; decide)), ?_⟩
    | refine ⟨(by first | exact Nat.zero_lt_one | assumption | omega), rfl, ?_⟩
    | refine ⟨⟨(by first | exact Nat.zero_lt_one | assumption | omega), rfl⟩, Nat.le_of_ble_eq_true rfl, ?_⟩
    | refine ⟨(by first | exact Nat.zero_lt_one | assumption | omega), ?_⟩
    | refine ⟨Or.inl rfl, ?_⟩
    | refine ⟨Or.inr (Or.inl rfl), ?_⟩
    | refine ⟨Or.inr (Or.inr rfl), ?_⟩
    | refine ⟨Or.inr ⟨rfl, (by first | exact Or.inl rfl | exact Or.inr rfl | assumption)⟩, ?_⟩
    | refine ⟨fun h => absurd h (by decide), fun _ => ?_⟩
    | refine ⟨fun _ => ?_, fun h => absurd h (by decide)⟩
    | refine ⟨fun h => ?_, fun h => ?_⟩
    | fail)
