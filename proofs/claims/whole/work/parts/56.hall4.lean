/-! HALL: sets, places, whole tables -/
theorem c_Ha_hasSeat {d nt : Nat} {μ : zMu} {x i : Int32} {K : Option zV → zMu → Prop} (hn : μ 5 0 0 = nI nt) (h4 : nt ≤ 4) (h1 : ∀ t, t < nt → x = nI t → 0 ≤ i → i < μ 9 t 0 → K (some (zI 1)) μ) (h0 : (¬ ∃ t, t < nt ∧ x = nI t ∧ 0 ≤ i ∧ i < μ 9 t 0) → K (some (zI 0)) μ) : Ct (d + 1) m_Ha_hasSeat [zR 5 0, zI x, zI i] μ K := by
  refine zmeet rfl (Nat.le_of_ble_eq_true rfl) (fun S => ?_)
  rcases zIx x (n := nt) (by omega) with ⟨t, ht, rfl⟩ | hx
  · have hy := zIx_y ht (by omega)
    have hc : (nI t).toNatClampNeg = t := nI_clamp (by omega)
    by_cases hi : 0 ≤ i ∧ i < μ 9 t 0
    · have hk := h1 t ht rfl hi.1 hi.2
      rw [← hc] at hi
      repeat' (first
        | refine c_Ha_hasTable (fun _ _ => ?_) (fun h => absurd (by rw [hn]; exact hy) h)
        | refine br_f (by grind) ?_
        | exact hk
        | refine zs k_Ha_hasSeat rfl ?_
        | refine ⟨Nat.zero_lt_one, rfl, ?_⟩
        | refine ⟨rfl, ?_⟩
        | refine ⟨⟨Nat.zero_lt_one, rfl⟩, Nat.le_of_ble_eq_true rfl, ?_⟩
        | refine ⟨Nat.le_of_ble_eq_true rfl, Nat.le_of_ble_eq_true rfl, ?_⟩
        | refine ⟨(by first | exact Nat.zero_lt_one | assumption | omega), (by first | assumption | exact vp_in_nI (by omega) (by omega) | (unfold vp_in; decide)), ?_⟩
        | refine ⟨(by first | exact Nat.zero_lt_one | assumption | omega), rfl, ?_⟩
        | refine ⟨⟨(by first | exact Nat.zero_lt_one | assumption | omega), rfl⟩, Nat.le_of_ble_eq_true rfl, ?_⟩
        | refine ⟨(by first | exact Nat.zero_lt_one | assumption | omega), ?_⟩
        | refine ⟨Or.inl rfl, ?_⟩
        | refine ⟨Or.inr (Or.inl rfl), ?_⟩
        | refine ⟨Or.inr (Or.inr rfl), ?_⟩
        | refine ⟨Or.inr ⟨rfl, (by first | exact Or.inl rfl | exact Or.inr rfl | assumption)⟩, ?_⟩
        | refine ⟨fun h => absurd h (by decide), fun _ => ?_⟩
        | refine ⟨fun _ => ?_, fun h => absurd h (by decide)⟩
        | refine ⟨fun h => ?_, fun h => ?_⟩
        | fail)
    · have hk := h0 (fun ⟨t', ht', e, h⟩ => by
        obtain rfl : t = t' := (nI_eq (by omega) (by omega)).mp e
        exact hi h)
      rw [← hc] at hi
      repeat' (first
        | refine c_Ha_hasTable (fun _ _ => ?_) (fun h => absurd (by rw [hn]; exact hy) h)
        | exact hk
        | exact absurd (by grind) hi
        | refine zs k_Ha_hasSeat rfl ?_
        | refine ⟨Nat.zero_lt_one, rfl, ?_⟩
        | refine ⟨rfl, ?_⟩
        | refine ⟨⟨Nat.zero_lt_one, rfl⟩, Nat.le_of_ble_eq_true rfl, ?_⟩
        | refine ⟨Nat.le_of_ble_eq_true rfl, Nat.le_of_ble_eq_true rfl, ?_⟩
        | refine ⟨(by first | exact Nat.zero_lt_one | assumption | omega), (by first | assumption | exact vp_in_nI (by omega) (by omega) | (unfold vp_in; decide)), ?_⟩
        | refine ⟨(by first | exact Nat.zero_lt_one | assumption | omega), rfl, ?_⟩
        | refine ⟨⟨(by first | exact Nat.zero_lt_one | assumption | omega), rfl⟩, Nat.le_of_ble_eq_true rfl, ?_⟩
        | refine ⟨(by first | exact Nat.zero_lt_one | assumption | omega), ?_⟩
        | refine ⟨Or.inl rfl, ?_⟩
        | refine ⟨Or.inr (Or.inl rfl), ?_⟩
        | refine ⟨Or.inr (Or.inr rfl), ?_⟩
        | refine ⟨Or.inr ⟨rfl, (by first | exact Or.inl rfl | exact Or.inr rfl | assumption)⟩, ?_⟩
        | refine ⟨fun h => absurd h (by decide), fun _ => ?_⟩
        | refine ⟨fun _ => ?_, fun h => absurd h (by decide)⟩
        | refine ⟨fun h => ?_, fun h => ?_⟩
        | fail)
  · have hk := h0 (fun ⟨t, ht, e, _⟩ => hx (by rw [e]; exact zIx_y ht (by omega)))
    repeat' (first
      | refine c_Ha_hasTable (fun h h' => absurd (by rw [← hn]; exact ⟨h, h'⟩) hx) (fun _ => ?_)
      | exact hk
      | refine zs k_Ha_hasSeat rfl ?_
      | refine ⟨Nat.zero_lt_one, rfl, ?_⟩
      | refine ⟨rfl, ?_⟩
      | refine ⟨⟨Nat.zero_lt_one, rfl⟩, Nat.le_of_ble_eq_true rfl, ?_⟩
      | refine ⟨Nat.le_of_ble_eq_true rfl, Nat.le_of_ble_eq_true rfl, ?_⟩
      | refine ⟨(by first | exact Nat.zero_lt_one | assumption | omega), (by first | assumption | exact vp_in_nI (by omega) (by omega) | (unfold vp_in; decide)), ?_⟩
      | refine ⟨(by first | exact Nat.zero_lt_one | assumption | omega), rfl, ?_⟩
      | refine ⟨⟨(by first | exact Nat.zero_lt_one | assumption | omega), rfl⟩, Nat.le_of_ble_eq_true rfl, ?_⟩
      | refine ⟨(by first | exact Nat.zero_lt_one | assumption | omega), ?_⟩
      | refine ⟨Or.inl rfl, ?_⟩
      | refine ⟨Or.inr (Or.inl rfl), ?_⟩
      | refine ⟨Or.inr (Or.inr rfl), ?_⟩
      | refine ⟨Or.inr ⟨rfl, (by first | exact Or.inl rfl | exact Or.inr rfl | assumption)⟩, ?_⟩
      | refine ⟨fun h => absurd h (by decide), fun _ => ?_⟩
      | refine ⟨fun _ => ?_, fun h => absurd h (by decide)⟩
      | refine ⟨fun h => ?_, fun h => ?_⟩
      | fail)
theorem c_Ha_addTable {d t : Nat} {μ : zMu} {r n : Int32} {K : Option zV → zMu → Prop} (ht : t < 4) (hn : μ 5 0 0 = nI t) (hr : r = 0 ∨ r = 1) (hK : K (some (zI (nI t))) (zu (fun f i k => if f = 40 ∧ i = t ∧ k < 12 then -1 else (zu (zu μ 9 t 2 r) 9 t 0 n) f i k) 5 0 0 (nI (t + 1)))) : Ct (d + 2) m_Ha_addTable [zR 5 0, zI r, zI n] μ K := by
  refine zmeet rfl (Nat.le_of_ble_eq_true rfl) (fun S => ?_)
  have hc : (nI t).toNatClampNeg = t := nI_clamp (by omega)
  have hv : vp_in (μ 5 0 0) 4 := by rw [hn]; exact vp_in_nI (by omega) (by omega)
  have hc2 : (μ 5 0 0).toNatClampNeg = t := by rw [hn, hc]
  repeat' (first
    | refine c_Tb_open (t := (μ 5 0 0).toNatClampNeg) (by omega) hr ?_
    | exact zKe hK (by show μ 5 0 0 + 1 - 1 = _; rw [hn, nI_1, nI_pred]) (by rw [hc2, show (fun f i k => if f = 40 ∧ i = t ∧ k < 12 then -1 else (zu (zu μ 9 t 2 r) 9 t 0 n) f i k) 5 0 0 + 1 = nI (t + 1) from by show μ 5 0 0 + 1 = _; rw [hn, nI_1]])
    | refine zs k_Ha_addTable rfl ?_
    | refine ⟨Nat.zero_lt_one, rfl, ?_⟩
    | refine ⟨rfl, ?_⟩
    | refine ⟨⟨Nat.zero_lt_one, rfl⟩, Nat.le_of_ble_eq_true rfl, ?_⟩
    | refine ⟨Nat.le_of_ble_eq_true rfl, Nat.le_of_ble_eq_true rfl, ?_⟩
    | refine ⟨(by first | exact Nat.zero_lt_one | assumption | omega), (by first | assumption | exact vp_in_nI (by omega) (by omega) | (unfold vp_in; decide)), ?_⟩
    | refine ⟨(by first | exact Nat.zero_lt_one | assumption | omega), rfl, ?_⟩
    | refine ⟨⟨(by first | exact Nat.zero_lt_one | assumption | omega), rfl⟩, Nat.le_of_ble_eq_true rfl, ?_⟩
    | refine ⟨(by first | exact Nat.zero_lt_one | assumption | omega), ?_⟩
    | refine ⟨Or.inl rfl, ?_⟩
    | refine ⟨Or.inr (Or.inl rfl), ?_⟩
    | refine ⟨Or.inr (Or.inr rfl), ?_⟩
    | refine ⟨Or.inr ⟨rfl, (by first | exact Or.inl rfl | exact Or.inr rfl | assumption)⟩, ?_⟩
    | refine ⟨fun h => absurd h (by decide), fun _ => ?_⟩
    | refine ⟨fun _ => ?_, fun h => absurd h (by decide)⟩
    | refine ⟨fun h => ?_, fun h => ?_⟩
    | fail)
/-- nobody p sits at the first i tables -/
def cOutA (μ : zMu) (p : Int32) (m : Nat) : zMu := fun f i k => if f = 40 ∧ i < m ∧ k < (μ 9 i 0).toNatClampNeg ∧ μ 40 i k = p then -1 else μ f i k
theorem c_Ha_emptySeatsOf {d nt : Nat} {μ : zMu} {p : Int32} {K : Option zV → zMu → Prop} (hn : μ 5 0 0 = nI nt) (h4 : nt ≤ 4) (hz : ∀ t, t < nt → ∃ n, n ≤ 12 ∧ μ 9 t 0 = nI n) (hK : K none (cOutA μ p nt)) : Ct (d + 1) m_Ha_emptySeatsOf [zR 5 0, zI p] μ K := by
  refine zmeet rfl (Nat.le_of_ble_eq_true rfl) (fun S => ?_)
  have L : ∀ (k i : Nat) (x : Int32) (μ1 : zMu), i + k = nt → x = nI i → μ1 = cOutA μ p i → zG S (d + 1) m_Ha_emptySeatsOf K 2 [some (zR 5 0), some (zI p), some (zI x)] [] μ1 := by
    intro k
    induction k with
    | zero =>
      intro i x μ1 hi hx hm
      subst hx
      obtain rfl : i = nt := by omega
      have h5 : μ1 5 0 0 = nI i := by rw [hm]; exact hn
      refine zs k_Ha_emptySeatsOf rfl ?_
      repeat' (first
        | exact zKn hK hm
        | refine zs k_Ha_emptySeatsOf rfl ?_
        | refine br_t (by simp (disch := omega) only [h5, nI_leI, nI_ltI, nI_eq]; omega) ?_
        | refine br_f (by simp (disch := omega) only [h5, nI_leI, nI_ltI, nI_eq]; omega) ?_
        | refine ⟨Nat.zero_lt_one, rfl, ?_⟩
        | refine ⟨rfl, ?_⟩
        | refine ⟨⟨Nat.zero_lt_one, rfl⟩, Nat.le_of_ble_eq_true rfl, ?_⟩
        | refine ⟨Nat.le_of_ble_eq_true rfl, Nat.le_of_ble_eq_true rfl, ?_⟩
        | refine ⟨(by first | exact Nat.zero_lt_one | assumption | omega), (by first | assumption | exact vp_in_nI (by omega) (by omega) | (unfold vp_in; decide)), ?_⟩
        | refine ⟨(by first | exact Nat.zero_lt_one | assumption | omega), rfl, ?_⟩
        | refine ⟨⟨(by first | exact Nat.zero_lt_one | assumption | omega), rfl⟩, Nat.le_of_ble_eq_true rfl, ?_⟩
        | refine ⟨(by first | exact Nat.zero_lt_one | assumption | omega), ?_⟩
        | refine ⟨Or.inl rfl, ?_⟩
        | refine ⟨Or.inr (Or.inl rfl), ?_⟩
        | refine ⟨Or.inr (Or.inr rfl), ?_⟩
        | refine ⟨Or.inr ⟨rfl, (by first | exact Or.inl rfl | exact Or.inr rfl | assumption)⟩, ?_⟩
        | refine ⟨fun h => absurd h (by decide), fun _ => ?_⟩
        | refine ⟨fun _ => ?_, fun h => absurd h (by decide)⟩
        | refine ⟨fun h => ?_, fun h => ?_⟩
        | fail)
    | succ k ih =>
      intro i x μ1 hi hx hm
      subst hx
      have hc : (nI i).toNatClampNeg = i := nI_clamp (by omega)
      have h5 : μ1 5 0 0 = nI nt := by rw [hm]; exact hn
      obtain ⟨n, hn12, hnz⟩ := hz i (by omega)
      have h9 : μ1 9 (nI i).toNatClampNeg 0 = nI n := by rw [hm, hc]; exact hnz
      have hcn : (nI n).toNatClampNeg = n := nI_clamp (by omega)
      refine zs k_Ha_emptySeatsOf rfl ?_
      repeat' (first
        | refine c_Tb_removePerson (t := (nI i).toNatClampNeg) (by omega) h9 hn12 ?_
        | refine ih (i + 1) _ _ (by omega) (by exact nI_1 i) ?_
        | refine zs k_Ha_emptySeatsOf rfl ?_
        | refine br_t (by simp (disch := omega) only [h5, nI_leI, nI_ltI, nI_eq]; omega) ?_
        | refine br_f (by simp (disch := omega) only [h5, nI_leI, nI_ltI, nI_eq]; omega) ?_
        | refine ⟨Nat.zero_lt_one, rfl, ?_⟩
        | refine ⟨rfl, ?_⟩
        | refine ⟨⟨Nat.zero_lt_one, rfl⟩, Nat.le_of_ble_eq_true rfl, ?_⟩
        | refine ⟨Nat.le_of_ble_eq_true rfl, Nat.le_of_ble_eq_true rfl, ?_⟩
        | refine ⟨(by first | exact Nat.zero_lt_one | assumption | omega), (by first | assumption | exact vp_in_nI (by omega) (by omega) | (unfold vp_in; decide)), ?_⟩
        | refine ⟨(by first | exact Nat.zero_lt_one | assumption | omega), rfl, ?_⟩
        | refine ⟨⟨(by first | exact Nat.zero_lt_one | assumption | omega), rfl⟩, Nat.le_of_ble_eq_true rfl, ?_⟩
        | refine ⟨(by first | exact Nat.zero_lt_one | assumption | omega), ?_⟩
        | refine ⟨Or.inl rfl, ?_⟩
        | refine ⟨Or.inr (Or.inl rfl), ?_⟩
        | refine ⟨Or.inr (Or.inr rfl), ?_⟩
        | refine ⟨Or.inr ⟨rfl, (by first | exact Or.inl rfl | exact Or.inr rfl | assumption)⟩, ?_⟩
        | refine ⟨fun h => absurd h (by decide), fun _ => ?_⟩
        | refine ⟨fun _ => ?_, fun h => absurd h (by decide)⟩
        | refine ⟨fun h => ?_, fun h => ?_⟩
        | fail)
      rw [hm, hc]
      funext f a b
      simp only [cOut, cOutA]
      by_cases ha : a = i
      · subst ha
        rw [hnz, hcn]
        grind
      · grind
  repeat' (first
    | refine L nt 0 _ _ (by omega) rfl ?_
    | refine zs k_Ha_emptySeatsOf rfl ?_
    | refine ⟨Nat.zero_lt_one, rfl, ?_⟩
    | refine ⟨rfl, ?_⟩
    | refine ⟨⟨Nat.zero_lt_one, rfl⟩, Nat.le_of_ble_eq_true rfl, ?_⟩
    | refine ⟨Nat.le_of_ble_eq_true rfl, Nat.le_of_ble_eq_true rfl, ?_⟩
    | refine ⟨(by first | exact Nat.zero_lt_one | assumption | omega), (by first | assumption | exact vp_in_nI (by omega) (by omega) | (unfold vp_in; decide)), ?_⟩
    | refine ⟨(by first | exact Nat.zero_lt_one | assumption | omega), rfl, ?_⟩
    | refine ⟨⟨(by first | exact Nat.zero_lt_one | assumption | omega), rfl⟩, Nat.le_of_ble_eq_true rfl, ?_⟩
    | refine ⟨(by first | exact Nat.zero_lt_one | assumption | omega), ?_⟩
    | refine ⟨Or.inl rfl, ?_⟩
    | refine ⟨Or.inr (Or.inl rfl), ?_⟩
    | refine ⟨Or.inr (Or.inr rfl), ?_⟩
    | refine ⟨Or.inr ⟨rfl, (by first | exact Or.inl rfl | exact Or.inr rfl | assumption)⟩, ?_⟩
    | refine ⟨fun h => absurd h (by decide), fun _ => ?_⟩
    | refine ⟨fun _ => ?_, fun h => absurd h (by decide)⟩
    | refine ⟨fun h => ?_, fun h => ?_⟩
    | fail)
  funext f a b
  simp only [cOutA]
  grind
theorem c_Tb_sittersAsSet {d t n : Nat} {μ : zMu} {K : Option zV → zMu → Prop} (ht : t < 4) (hn : μ 9 t 0 = nI n) (h12 : n ≤ 12) (hs : ∀ k, k < n → μ 40 t k = -1 ∨ ∃ p, p < 20 ∧ μ 40 t k = nI p) (hK : ∀ x : Int32, (∀ p, p < 20 → (zbt x p = true ↔ ∃ k, k < n ∧ μ 40 t k = nI p)) → K (some (zI x)) μ) : Ct d m_Tb_sittersAsSet [zR 9 t] μ K := by
  refine zmeet rfl (Nat.le_of_ble_eq_true rfl) (fun S => ?_)
  have L : ∀ (k i : Nat) (v x : Int32), i + k = n → x = nI i → (∀ p, p < 20 → (zbt v p = true ↔ ∃ j, j < i ∧ μ 40 t j = nI p)) → zG S d m_Tb_sittersAsSet K 4 [some (zR 9 t), some (zI v), some (zI x)] [] μ := by
    intro k
    induction k with
    | zero =>
      intro i v x hi hx hv
      subst hx
      obtain rfl : i = n := by omega
      have hk := hK v hv
      refine zs k_Tb_sittersAsSet rfl ?_
      repeat' (first
        | exact hk
        | refine zs k_Tb_sittersAsSet rfl ?_
        | refine br_t (by simp (disch := omega) only [hn, nI_leI, nI_ltI, nI_eq]; omega) ?_
        | refine br_f (by simp (disch := omega) only [hn, nI_leI, nI_ltI, nI_eq]; omega) ?_
        | refine ⟨Nat.zero_lt_one, rfl, ?_⟩
        | refine ⟨rfl, ?_⟩
        | refine ⟨⟨Nat.zero_lt_one, rfl⟩, Nat.le_of_ble_eq_true rfl, ?_⟩
        | refine ⟨Nat.le_of_ble_eq_true rfl, Nat.le_of_ble_eq_true rfl, ?_⟩
        | refine ⟨(by first | exact Nat.zero_lt_one | assumption | omega), (by first | assumption | exact vp_in_nI (by omega) (by omega) | (unfold vp_in; decide)), ?_⟩
        | refine ⟨(by first | exact Nat.zero_lt_one | assumption | omega), rfl, ?_⟩
        | refine ⟨⟨(by first | exact Nat.zero_lt_one | assumption | omega), rfl⟩, Nat.le_of_ble_eq_true rfl, ?_⟩
        | refine ⟨(by first | exact Nat.zero_lt_one | assumption | omega), ?_⟩
        | refine ⟨Or.inl rfl, ?_⟩
        | refine ⟨Or.inr (Or.inl rfl), ?_⟩
        | refine ⟨Or.inr (Or.inr rfl), ?_⟩
        | refine ⟨Or.inr ⟨rfl, (by first | exact Or.inl rfl | exact Or.inr rfl | assumption)⟩, ?_⟩
        | refine ⟨fun h => absurd h (by decide), fun _ => ?_⟩
        | refine ⟨fun _ => ?_, fun h => absurd h (by decide)⟩
        | refine ⟨fun h => ?_, fun h => ?_⟩
        | fail)
    | succ k ih =>
      intro i v x hi hx hv
      subst hx
      have hc : (nI i).toNatClampNeg = i := nI_clamp (by omega)
      have he : μ 40 t (nI i).toNatClampNeg = μ 40 t i := by rw [hc]
      rcases hs i (by omega) with h1 | ⟨q, hq, h1⟩
      · rw [← he] at h1
        refine zs k_Tb_sittersAsSet rfl ?_
        repeat' (first
          | refine br_t h1 ?_
          | refine ih (i + 1) _ _ (by omega) (by exact nI_1 i) ?_
          | refine zs k_Tb_sittersAsSet rfl ?_
          | refine br_t (by simp (disch := omega) only [hn, nI_leI, nI_ltI, nI_eq]; omega) ?_
          | refine br_f (by simp (disch := omega) only [hn, nI_leI, nI_ltI, nI_eq]; omega) ?_
          | refine ⟨Nat.zero_lt_one, rfl, ?_⟩
          | refine ⟨rfl, ?_⟩
          | refine ⟨⟨Nat.zero_lt_one, rfl⟩, Nat.le_of_ble_eq_true rfl, ?_⟩
          | refine ⟨Nat.le_of_ble_eq_true rfl, Nat.le_of_ble_eq_true rfl, ?_⟩
          | refine ⟨(by first | exact Nat.zero_lt_one | assumption | omega), (by first | assumption | exact vp_in_nI (by omega) (by omega) | (unfold vp_in; decide)), ?_⟩
          | refine ⟨(by first | exact Nat.zero_lt_one | assumption | omega), rfl, ?_⟩
          | refine ⟨⟨(by first | exact Nat.zero_lt_one | assumption | omega), rfl⟩, Nat.le_of_ble_eq_true rfl, ?_⟩
          | refine ⟨(by first | exact Nat.zero_lt_one | assumption | omega), ?_⟩
          | refine ⟨Or.inl rfl, ?_⟩
          | refine ⟨Or.inr (Or.inl rfl), ?_⟩
          | refine ⟨Or.inr (Or.inr rfl), ?_⟩
          | refine ⟨Or.inr ⟨rfl, (by first | exact Or.inl rfl | exact Or.inr rfl | assumption)⟩, ?_⟩
          | refine ⟨fun h => absurd h (by decide), fun _ => ?_⟩
          | refine ⟨fun _ => ?_, fun h => absurd h (by decide)⟩
          | refine ⟨fun h => ?_, fun h => ?_⟩
          | fail)
        intro p hp
        rw [hv p hp]
        constructor
        · rintro ⟨j, hj, hj2⟩
          exact ⟨j, by omega, hj2⟩
        · rintro ⟨j, hj, hj2⟩
          rcases Nat.lt_or_ge j i with g | g
          · exact ⟨j, g, hj2⟩
          · obtain rfl : j = i := by omega
            rw [he, hj2] at h1
            exact absurd h1 (nI_nem1 (by omega))
      · rw [← he] at h1
        have h2 : ¬ μ 40 t (nI i).toNatClampNeg = -1 := by rw [h1]; exact nI_nem1 (by omega)
        refine zs k_Tb_sittersAsSet rfl ?_
        repeat' (first
          | refine br_f h2 ?_
          | refine ih (i + 1) _ _ (by omega) (by exact nI_1 i) ?_
          | refine zs k_Tb_sittersAsSet rfl ?_
          | refine br_t (by simp (disch := omega) only [hn, nI_leI, nI_ltI, nI_eq]; omega) ?_
          | refine br_f (by simp (disch := omega) only [hn, nI_leI, nI_ltI, nI_eq]; omega) ?_
          | refine ⟨Nat.zero_lt_one, rfl, ?_⟩
          | refine ⟨rfl, ?_⟩
          | refine ⟨⟨Nat.zero_lt_one, rfl⟩, Nat.le_of_ble_eq_true rfl, ?_⟩
          | refine ⟨Nat.le_of_ble_eq_true rfl, Nat.le_of_ble_eq_true rfl, ?_⟩
          | refine ⟨(by first | exact Nat.zero_lt_one | assumption | omega), (by first | assumption | exact vp_in_nI (by omega) (by omega) | (unfold vp_in; decide)), ?_⟩
          | refine ⟨(by first | exact Nat.zero_lt_one | assumption | omega), rfl, ?_⟩
          | refine ⟨⟨(by first | exact Nat.zero_lt_one | assumption | omega), rfl⟩, Nat.le_of_ble_eq_true rfl, ?_⟩
          | refine ⟨(by first | exact Nat.zero_lt_one | assumption | omega), ?_⟩
          | refine ⟨Or.inl rfl, ?_⟩
          | refine ⟨Or.inr (Or.inl rfl), ?_⟩
          | refine ⟨Or.inr (Or.inr rfl), ?_⟩
          | refine ⟨Or.inr ⟨rfl, (by first | exact Or.inl rfl | exact Or.inr rfl | assumption)⟩, ?_⟩
          | refine ⟨fun h => absurd h (by decide), fun _ => ?_⟩
          | refine ⟨fun _ => ?_, fun h => absurd h (by decide)⟩
          | refine ⟨fun h => ?_, fun h => ?_⟩
          | fail)
        intro p hp
        rw [h1, zbt_or (by omega), Bool.or_eq_true, hv p hp, decide_eq_true_iff]
        constructor
        · rintro (⟨j, hj, hj2⟩ | rfl)
          · exact ⟨j, by omega, hj2⟩
          · exact ⟨i, by omega, by rw [← he]; exact h1⟩
        · rintro ⟨j, hj, hj2⟩
          rcases Nat.lt_or_ge j i with g | g
          · exact Or.inl ⟨j, g, hj2⟩
          · obtain rfl : j = i := by omega
            rw [he, hj2] at h1
            exact Or.inr ((nI_eq (by omega) (by omega)).mp h1).symm
  repeat' (first
    | exact L n 0 _ _ (by omega) rfl (fun p hp => ⟨fun h => absurd h (by rw [zbt_0]; decide), fun ⟨j, hj, _⟩ => absurd hj (by omega)⟩)
    | refine zs k_Tb_sittersAsSet rfl ?_
    | refine ⟨Nat.zero_lt_one, rfl, ?_⟩
    | refine ⟨rfl, ?_⟩
    | refine ⟨⟨Nat.zero_lt_one, rfl⟩, Nat.le_of_ble_eq_true rfl, ?_⟩
    | refine ⟨Nat.le_of_ble_eq_true rfl, Nat.le_of_ble_eq_true rfl, ?_⟩
    | refine ⟨(by first | exact Nat.zero_lt_one | assumption | omega), (by first | assumption | exact vp_in_nI (by omega) (by omega) | (unfold vp_in; decide)), ?_⟩
    | refine ⟨(by first | exact Nat.zero_lt_one | assumption | omega), rfl, ?_⟩
    | refine ⟨⟨(by first | exact Nat.zero_lt_one | assumption | omega), rfl⟩, Nat.le_of_ble_eq_true rfl, ?_⟩
    | refine ⟨(by first | exact Nat.zero_lt_one | assumption | omega), ?_⟩
    | refine ⟨Or.inl rfl, ?_⟩
    | refine ⟨Or.inr (Or.inl rfl), ?_⟩
    | refine ⟨Or.inr (Or.inr rfl), ?_⟩
    | refine ⟨Or.inr ⟨rfl, (by first | exact Or.inl rfl | exact Or.inr rfl | assumption)⟩, ?_⟩
    | refine ⟨fun h => absurd h (by decide), fun _ => ?_⟩
    | refine ⟨fun _ => ?_, fun h => absurd h (by decide)⟩
    | refine ⟨fun h => ?_, fun h => ?_⟩
    | fail)
theorem n_isIn {d p : Nat} {μ : zMu} {x : Int32} {K : Option zV → zMu → Prop} (hp : p < 32) (h1 : zbt x p = true → K (some (zI 1)) μ) (h0 : zbt x p = false → K (some (zI 0)) μ) : Ct d m_Ro_isIn [zI x, zI (nI p)] μ K :=
  c_Ro_isIn (fun h => h1 ((zbit_iff hp).mp h)) (fun h => h0 (by
    cases hz : zbt x p with
    | false => rfl
    | true => exact absurd ((zbit_iff hp).mpr hz) h))
theorem m_isIn {d p : Nat} {μ : zMu} {x y : Int32} {K : Option zV → zMu → Prop} (hy : y = nI p) (hp : p < 32) (h1 : zbt x p = true → K (some (zI 1)) μ) (h0 : zbt x p = false → K (some (zI 0)) μ) : Ct d m_Ro_isIn [zI x, zI y] μ K := by
  subst hy
  exact n_isIn hp h1 h0
theorem c_Ha_numberPlaces {d m : Nat} {μ : zMu} {x : Int32} {o : Nat → Nat} {K : Option zV → zMu → Prop} (hm : μ 4 0 0 = nI m) (h20 : m ≤ 20) (ho : ∀ i, i < m → o i < 20 ∧ μ 27 0 i = nI (o i)) (hd : ∀ i j, i < j → j < m → o i ≠ o j) (hK : ∀ μ', (∀ f, f ≠ 39 → μ' f = μ f) → (∀ i, i < m → zbt x (o i) = true → μ' 39 0 (o i) = nI (pCt (fun i => zbt x (o i)) i)) → K none μ') : Ct (d + 1) m_Ha_numberPlaces [zR 5 0, zR 4 0, zI x] μ K := by
  refine zmeet rfl (Nat.le_of_ble_eq_true rfl) (fun S => ?_)
  have L : ∀ (k i : Nat) (v y : Int32) (l5 : Option zV) (μ1 : zMu), i + k = m → y = nI i → v = nI (pCt (fun i => zbt x (o i)) i) → (∀ f, f ≠ 39 → μ1 f = μ f) → (∀ j, j < i → zbt x (o j) = true → μ1 39 0 (o j) = nI (pCt (fun i => zbt x (o i)) j)) → zG S (d + 1) m_Ha_numberPlaces K 5 [some (zR 5 0), some (zR 4 0), some (zI x), some (zI v), some (zI y), l5] [] μ1 := by
    intro k
    induction k with
    | zero =>
      intro i v y l5 μ1 hi hy hv hf hr
      subst hy
      obtain rfl : i = m := by omega
      have hk := hK μ1 hf hr
      have h4 : μ1 4 0 0 = nI i := by rw [hf 4 (by omega)]; exact hm
      refine zs k_Ha_numberPlaces rfl ?_
      repeat' (first
        | exact hk
        | refine zs k_Ha_numberPlaces rfl ?_
        | refine br_t (by simp (disch := omega) only [h4, nI_leI, nI_ltI, nI_eq]; omega) ?_
        | refine br_f (by simp (disch := omega) only [h4, nI_leI, nI_ltI, nI_eq]; omega) ?_
        | refine ⟨Nat.zero_lt_one, rfl, ?_⟩
        | refine ⟨rfl, ?_⟩
        | refine ⟨⟨Nat.zero_lt_one, rfl⟩, Nat.le_of_ble_eq_true rfl, ?_⟩
        | refine ⟨Nat.le_of_ble_eq_true rfl, Nat.le_of_ble_eq_true rfl, ?_⟩
        | refine ⟨(by first | exact Nat.zero_lt_one | assumption | omega), (by first | assumption | exact vp_in_nI (by omega) (by omega) | (unfold vp_in; decide)), ?_⟩
        | refine ⟨(by first | exact Nat.zero_lt_one | assumption | omega), rfl, ?_⟩
        | refine ⟨⟨(by first | exact Nat.zero_lt_one | assumption | omega), rfl⟩, Nat.le_of_ble_eq_true rfl, ?_⟩
        | refine ⟨(by first | exact Nat.zero_lt_one | assumption | omega), ?_⟩
        | refine ⟨Or.inl rfl, ?_⟩
        | refine ⟨Or.inr (Or.inl rfl), ?_⟩
        | refine ⟨Or.inr (Or.inr rfl), ?_⟩
        | refine ⟨Or.inr ⟨rfl, (by first | exact Or.inl rfl | exact Or.inr rfl | assumption)⟩, ?_⟩
        | refine ⟨fun h => absurd h (by decide), fun _ => ?_⟩
        | refine ⟨fun _ => ?_, fun h => absurd h (by decide)⟩
        | refine ⟨fun h => ?_, fun h => ?_⟩
        | fail)
    | succ k ih =>
      intro i v y l5 μ1 hi hy hv hf hr
      subst hy
      have hc : (nI i).toNatClampNeg = i := nI_clamp (by omega)
      have h4 : μ1 4 0 0 = nI m := by rw [hf 4 (by omega)]; exact hm
      obtain ⟨ho1, ho2⟩ := ho i (by omega)
      have h27 : μ1 27 0 (nI i).toNatClampNeg = nI (o i) := by rw [hf 27 (by omega), hc]; exact ho2
      have hv27 : vp_in (μ1 27 0 (nI i).toNatClampNeg) 20 := by rw [h27]; exact vp_in_nI ho1 (by omega)
      have hc27 : (μ1 27 0 (nI i).toNatClampNeg).toNatClampNeg = o i := by rw [h27]; exact nI_clamp (by omega)
      have hp : pCt (fun i => zbt x (o i)) (i + 1) = pCt (fun i => zbt x (o i)) i + (if zbt x (o i) then 1 else 0) := rfl
      refine zs k_Ha_numberPlaces rfl ?_
      repeat' (first
        | refine m_isIn h27 (by omega) (fun hb => ?_) (fun hb => ?_)
        | refine ih (i + 1) _ _ _ _ (by omega) (by exact nI_1 i) ?_ ?_ ?_
        | refine zs k_Ha_numberPlaces rfl ?_
        | refine br_t (by simp (disch := omega) only [h4, nI_leI, nI_ltI, nI_eq]; omega) ?_
        | refine br_f (by simp (disch := omega) only [h4, nI_leI, nI_ltI, nI_eq]; omega) ?_
        | refine ⟨Nat.zero_lt_one, rfl, ?_⟩
        | refine ⟨rfl, ?_⟩
        | refine ⟨⟨Nat.zero_lt_one, rfl⟩, Nat.le_of_ble_eq_true rfl, ?_⟩
        | refine ⟨Nat.le_of_ble_eq_true rfl, Nat.le_of_ble_eq_true rfl, ?_⟩
        | refine ⟨(by first | exact Nat.zero_lt_one | assumption | omega), (by first | assumption | exact vp_in_nI (by omega) (by omega) | (unfold vp_in; decide)), ?_⟩
        | refine ⟨(by first | exact Nat.zero_lt_one | assumption | omega), rfl, ?_⟩
        | refine ⟨⟨(by first | exact Nat.zero_lt_one | assumption | omega), rfl⟩, Nat.le_of_ble_eq_true rfl, ?_⟩
        | refine ⟨(by first | exact Nat.zero_lt_one | assumption | omega), ?_⟩
        | refine ⟨Or.inl rfl, ?_⟩
        | refine ⟨Or.inr (Or.inl rfl), ?_⟩
        | refine ⟨Or.inr (Or.inr rfl), ?_⟩
        | refine ⟨Or.inr ⟨rfl, (by first | exact Or.inl rfl | exact Or.inr rfl | assumption)⟩, ?_⟩
        | refine ⟨fun h => absurd h (by decide), fun _ => ?_⟩
        | refine ⟨fun _ => ?_, fun h => absurd h (by decide)⟩
        | refine ⟨fun h => ?_, fun h => ?_⟩
        | fail)
      · rw [hp, if_pos hb, hv]
        exact nI_1 _
      · intro f hf2
        rw [← hf f hf2]
        funext a b
        exact zu_ne (fun h => hf2 h.1)
      · intro j hj hb2
        rw [hc27]
        rcases Nat.lt_or_ge j i with g | g
        · rw [zu_ne (fun h => hd j i g (by omega) h.2.1)]
          exact hr j g hb2
        · obtain rfl : j = i := by omega
          rw [zu_eq, hv]
      · rw [hp, hb, hv]
        rfl
      · exact hf
      · intro j hj hb2
        rcases Nat.lt_or_ge j i with g | g
        · exact hr j g hb2
        · obtain rfl : j = i := by omega
          rw [hb] at hb2
          exact absurd hb2 (by decide)
  repeat' (first
    | exact L m 0 _ _ _ _ (by omega) rfl rfl (fun _ _ => rfl) (fun j hj => absurd hj (by omega))
    | refine zs k_Ha_numberPlaces rfl ?_
    | refine ⟨Nat.zero_lt_one, rfl, ?_⟩
    | refine ⟨rfl, ?_⟩
    | refine ⟨⟨Nat.zero_lt_one, rfl⟩, Nat.le_of_ble_eq_true rfl, ?_⟩
    | refine ⟨Nat.le_of_ble_eq_true rfl, Nat.le_of_ble_eq_true rfl, ?_⟩
    | refine ⟨(by first | exact Nat.zero_lt_one | assumption | omega), (by first | assumption | exact vp_in_nI (by omega) (by omega) | (unfold vp_in; decide)), ?_⟩
    | refine ⟨(by first | exact Nat.zero_lt_one | assumption | omega), rfl, ?_⟩
    | refine ⟨⟨(by first | exact Nat.zero_lt_one | assumption | omega), rfl⟩, Nat.le_of_ble_eq_true rfl, ?_⟩
    | refine ⟨(by first | exact Nat.zero_lt_one | assumption | omega), ?_⟩
    | refine ⟨Or.inl rfl, ?_⟩
    | refine ⟨Or.inr (Or.inl rfl), ?_⟩
    | refine ⟨Or.inr (Or.inr rfl), ?_⟩
    | refine ⟨Or.inr ⟨rfl, (by first | exact Or.inl rfl | exact Or.inr rfl | assumption)⟩, ?_⟩
    | refine ⟨fun h => absurd h (by decide), fun _ => ?_⟩
    | refine ⟨fun _ => ?_, fun h => absurd h (by decide)⟩
    | refine ⟨fun h => ?_, fun h => ?_⟩
    | fail)
/-- a sum -/
def pSum (f : Nat → Int32) : Nat → Int32
  | 0 => 0
  | n + 1 => pSum f n + f n
theorem c_Ha_isPeaceful {d t n : Nat} {μ : zMu} {K : Option zV → zMu → Prop} (ht : t < 4) (hn : μ 9 t 0 = nI n) (h12 : n ≤ 12) (hs : ∀ j, j < n → hOk μ (μ 40 t j)) (h1 : (∀ k, k < n → hPe μ (μ 40 t) (μ 9 t 2) n k) → K (some (zI 1)) μ) (h0 : (¬ ∀ k, k < n → hPe μ (μ 40 t) (μ 9 t 2) n k) → K (some (zI 0)) μ) : Ct (d + 3) m_Ha_isPeaceful [zR 5 0, zR 9 t] μ K := by
  refine zmeet rfl (Nat.le_of_ble_eq_true rfl) (fun S => ?_)
  have L : ∀ (k i : Nat) (x : Int32), i + k = n → x = nI i → (∀ k, k < i → hPe μ (μ 40 t) (μ 9 t 2) n k) → zG S (d + 3) m_Ha_isPeaceful K 2 [some (zR 5 0), some (zR 9 t), some (zI x)] [] μ := by
    intro k
    induction k with
    | zero =>
      intro i x hi hx hp
      subst hx
      obtain rfl : i = n := by omega
      have hk := h1 hp
      refine zs k_Ha_isPeaceful rfl ?_
      repeat' (first
        | exact hk
        | refine zs k_Ha_isPeaceful rfl ?_
        | refine br_t (by simp (disch := omega) only [hn, nI_leI, nI_ltI, nI_eq]; omega) ?_
        | refine br_f (by simp (disch := omega) only [hn, nI_leI, nI_ltI, nI_eq]; omega) ?_
        | refine ⟨Nat.zero_lt_one, rfl, ?_⟩
        | refine ⟨rfl, ?_⟩
        | refine ⟨⟨Nat.zero_lt_one, rfl⟩, Nat.le_of_ble_eq_true rfl, ?_⟩
        | refine ⟨Nat.le_of_ble_eq_true rfl, Nat.le_of_ble_eq_true rfl, ?_⟩
        | refine ⟨(by first | exact Nat.zero_lt_one | assumption | omega), (by first | assumption | exact vp_in_nI (by omega) (by omega) | (unfold vp_in; decide)), ?_⟩
        | refine ⟨(by first | exact Nat.zero_lt_one | assumption | omega), rfl, ?_⟩
        | refine ⟨⟨(by first | exact Nat.zero_lt_one | assumption | omega), rfl⟩, Nat.le_of_ble_eq_true rfl, ?_⟩
        | refine ⟨(by first | exact Nat.zero_lt_one | assumption | omega), ?_⟩
        | refine ⟨Or.inl rfl, ?_⟩
        | refine ⟨Or.inr (Or.inl rfl), ?_⟩
        | refine ⟨Or.inr (Or.inr rfl), ?_⟩
        | refine ⟨Or.inr ⟨rfl, (by first | exact Or.inl rfl | exact Or.inr rfl | assumption)⟩, ?_⟩
        | refine ⟨fun h => absurd h (by decide), fun _ => ?_⟩
        | refine ⟨fun _ => ?_, fun h => absurd h (by decide)⟩
        | refine ⟨fun h => ?_, fun h => ?_⟩
        | fail)
    | succ k ih =>
      intro i x hi hx hp
      subst hx
      refine zs k_Ha_isPeaceful rfl ?_
      repeat' (first
        | refine c_Ha_isPeacefulAt_40 ht hn h12 (by omega) (fun j hj => hs j (by omega)) (fun hb => ?_) (fun hb => ?_)
        | refine ih (i + 1) _ (by omega) (by exact nI_1 i) (lt_s hp hb)
        | exact h0 (fun h => hb (h i (by omega)))
        | refine zs k_Ha_isPeaceful rfl ?_
        | refine br_t (by simp (disch := omega) only [hn, nI_leI, nI_ltI, nI_eq]; omega) ?_
        | refine br_f (by simp (disch := omega) only [hn, nI_leI, nI_ltI, nI_eq]; omega) ?_
        | refine ⟨Nat.zero_lt_one, rfl, ?_⟩
        | refine ⟨rfl, ?_⟩
        | refine ⟨⟨Nat.zero_lt_one, rfl⟩, Nat.le_of_ble_eq_true rfl, ?_⟩
        | refine ⟨Nat.le_of_ble_eq_true rfl, Nat.le_of_ble_eq_true rfl, ?_⟩
        | refine ⟨(by first | exact Nat.zero_lt_one | assumption | omega), (by first | assumption | exact vp_in_nI (by omega) (by omega) | (unfold vp_in; decide)), ?_⟩
        | refine ⟨(by first | exact Nat.zero_lt_one | assumption | omega), rfl, ?_⟩
        | refine ⟨⟨(by first | exact Nat.zero_lt_one | assumption | omega), rfl⟩, Nat.le_of_ble_eq_true rfl, ?_⟩
        | refine ⟨(by first | exact Nat.zero_lt_one | assumption | omega), ?_⟩
        | refine ⟨Or.inl rfl, ?_⟩
        | refine ⟨Or.inr (Or.inl rfl), ?_⟩
        | refine ⟨Or.inr (Or.inr rfl), ?_⟩
        | refine ⟨Or.inr ⟨rfl, (by first | exact Or.inl rfl | exact Or.inr rfl | assumption)⟩, ?_⟩
        | refine ⟨fun h => absurd h (by decide), fun _ => ?_⟩
        | refine ⟨fun _ => ?_, fun h => absurd h (by decide)⟩
        | refine ⟨fun h => ?_, fun h => ?_⟩
        | fail)
  repeat' (first
    | exact L n 0 _ (by omega) rfl (fun j hj => absurd hj (by omega))
    | refine zs k_Ha_isPeaceful rfl ?_
    | refine ⟨Nat.zero_lt_one, rfl, ?_⟩
    | refine ⟨rfl, ?_⟩
    | refine ⟨⟨Nat.zero_lt_one, rfl⟩, Nat.le_of_ble_eq_true rfl, ?_⟩
    | refine ⟨Nat.le_of_ble_eq_true rfl, Nat.le_of_ble_eq_true rfl, ?_⟩
    | refine ⟨(by first | exact Nat.zero_lt_one | assumption | omega), (by first | assumption | exact vp_in_nI (by omega) (by omega) | (unfold vp_in; decide)), ?_⟩
    | refine ⟨(by first | exact Nat.zero_lt_one | assumption | omega), rfl, ?_⟩
    | refine ⟨⟨(by first | exact Nat.zero_lt_one | assumption | omega), rfl⟩, Nat.le_of_ble_eq_true rfl, ?_⟩
    | refine ⟨(by first | exact Nat.zero_lt_one | assumption | omega), ?_⟩
    | refine ⟨Or.inl rfl, ?_⟩
    | refine ⟨Or.inr (Or.inl rfl), ?_⟩
    | refine ⟨Or.inr (Or.inr rfl), ?_⟩
    | refine ⟨Or.inr ⟨rfl, (by first | exact Or.inl rfl | exact Or.inr rfl | assumption)⟩, ?_⟩
    | refine ⟨fun h => absurd h (by decide), fun _ => ?_⟩
    | refine ⟨fun _ => ?_, fun h => absurd h (by decide)⟩
    | refine ⟨fun h => ?_, fun h => ?_⟩
    | fail)
theorem hPr_cong {μ μ' : zMu} {r : Nat → Int32} {rd : Int32} {n k : Nat} (h : ∀ f, f ≠ 39 → μ' f = μ f) (h39 : ¬ r k = -1 → μ' 39 0 (r k).toNatClampNeg = μ 39 0 (r k).toNatClampNeg) : hPr μ' r rd n k = hPr μ r rd n k := by
  unfold hPr hTk
  rw [h 38 (by omega), h 17 (by omega)]
  by_cases hk : r k = -1
  · rw [if_pos hk, if_pos hk]
  · rw [if_neg hk, if_neg hk, h39 hk]
theorem c_Ha_priceOf {d t n m : Nat} {μ : zMu} {o : Nat → Nat} {K : Option zV → zMu → Prop} (ht : t < 4) (hn : μ 9 t 0 = nI n) (h12 : n ≤ 12) (hs : ∀ j, j < n → hOk μ (μ 40 t j)) (hm : μ 4 0 0 = nI m) (h20 : m ≤ 20) (ho : ∀ i, i < m → o i < 20 ∧ μ 27 0 i = nI (o i)) (hd : ∀ i j, i < j → j < m → o i ≠ o j)
    (hK : ∀ (μ' : zMu) (x : Int32), (∀ p, p < 20 → (zbt x p = true ↔ ∃ k, k < n ∧ μ 40 t k = nI p)) → (∀ f, f ≠ 39 → μ' f = μ f) → (∀ i, i < m → zbt x (o i) = true → μ' 39 0 (o i) = nI (pCt (fun i => zbt x (o i)) i)) → K (some (zI (pSum (hPr μ' (μ 40 t) (μ 9 t 2) n) n))) μ') : Ct (d + 3) m_Ha_priceOf [zR 5 0, zR 9 t, zR 4 0] μ K := by
  refine zmeet rfl (Nat.le_of_ble_eq_true rfl) (fun S => ?_)
  have L : ∀ (μ' : zMu) (x : Int32), (∀ p, p < 20 → (zbt x p = true ↔ ∃ k, k < n ∧ μ 40 t k = nI p)) → (∀ f, f ≠ 39 → μ' f = μ f) → (∀ i, i < m → zbt x (o i) = true → μ' 39 0 (o i) = nI (pCt (fun i => zbt x (o i)) i)) → ∀ (k i : Nat) (v y : Int32), i + k = n → y = nI i → v = pSum (hPr μ' (μ 40 t) (μ 9 t 2) n) i → zG S (d + 3) m_Ha_priceOf K 14 [some (zR 5 0), some (zR 9 t), some (zR 4 0), some (zI v), some (zI y)] [] μ' := by
    intro μ' x hx hf hr k
    have h9 : μ' 9 t 0 = nI n := by rw [hf 9 (by omega)]; exact hn
    have e40 : μ' 40 t = μ 40 t := by rw [hf 40 (by omega)]
    have e9 : μ' 9 t 2 = μ 9 t 2 := by rw [hf 9 (by omega)]
    have hs' : ∀ j, j < n → hOk μ' (μ' 40 t j) := fun j hj => by
      unfold hOk
      rw [e40, hf 17 (by omega)]
      exact hs j hj
    induction k with
    | zero =>
      intro i v y hi hy hv
      subst hy
      obtain rfl : i = n := by omega
      have hk := hK μ' x hx hf hr
      refine zs k_Ha_priceOf rfl ?_
      repeat' (first
        | exact zKe hk hv rfl
        | refine zs k_Ha_priceOf rfl ?_
        | refine br_t (by simp (disch := omega) only [h9, nI_leI, nI_ltI, nI_eq]; omega) ?_
        | refine br_f (by simp (disch := omega) only [h9, nI_leI, nI_ltI, nI_eq]; omega) ?_
        | refine ⟨Nat.zero_lt_one, rfl, ?_⟩
        | refine ⟨rfl, ?_⟩
        | refine ⟨⟨Nat.zero_lt_one, rfl⟩, Nat.le_of_ble_eq_true rfl, ?_⟩
        | refine ⟨Nat.le_of_ble_eq_true rfl, Nat.le_of_ble_eq_true rfl, ?_⟩
        | refine ⟨(by first | exact Nat.zero_lt_one | assumption | omega), (by first | assumption | exact vp_in_nI (by omega) (by omega) | (unfold vp_in; decide)), ?_⟩
        | refine ⟨(by first | exact Nat.zero_lt_one | assumption | omega), rfl, ?_⟩
        | refine ⟨⟨(by first | exact Nat.zero_lt_one | assumption | omega), rfl⟩, Nat.le_of_ble_eq_true rfl, ?_⟩
        | refine ⟨(by first | exact Nat.zero_lt_one | assumption | omega), ?_⟩
        | refine ⟨Or.inl rfl, ?_⟩
        | refine ⟨Or.inr (Or.inl rfl), ?_⟩
        | refine ⟨Or.inr (Or.inr rfl), ?_⟩
        | refine ⟨Or.inr ⟨rfl, (by first | exact Or.inl rfl | exact Or.inr rfl | assumption)⟩, ?_⟩
        | refine ⟨fun h => absurd h (by decide), fun _ => ?_⟩
        | refine ⟨fun _ => ?_, fun h => absurd h (by decide)⟩
        | refine ⟨fun h => ?_, fun h => ?_⟩
        | fail)
    | succ k ih =>
      intro i v y hi hy hv
      subst hy
      refine zs k_Ha_priceOf rfl ?_
      repeat' (first
        | refine c_Ha_priceAt_40 ht h9 h12 (by omega) (fun j hj => hs' j (by omega)) ?_
        | refine ih (i + 1) _ _ (by omega) (by exact nI_1 i) ?_
        | refine zs k_Ha_priceOf rfl ?_
        | refine br_t (by simp (disch := omega) only [h9, nI_leI, nI_ltI, nI_eq]; omega) ?_
        | refine br_f (by simp (disch := omega) only [h9, nI_leI, nI_ltI, nI_eq]; omega) ?_
        | refine ⟨Nat.zero_lt_one, rfl, ?_⟩
        | refine ⟨rfl, ?_⟩
        | refine ⟨⟨Nat.zero_lt_one, rfl⟩, Nat.le_of_ble_eq_true rfl, ?_⟩
        | refine ⟨Nat.le_of_ble_eq_true rfl, Nat.le_of_ble_eq_true rfl, ?_⟩
        | refine ⟨(by first | exact Nat.zero_lt_one | assumption | omega), (by first | assumption | exact vp_in_nI (by omega) (by omega) | (unfold vp_in; decide)), ?_⟩
        | refine ⟨(by first | exact Nat.zero_lt_one | assumption | omega), rfl, ?_⟩
        | refine ⟨⟨(by first | exact Nat.zero_lt_one | assumption | omega), rfl⟩, Nat.le_of_ble_eq_true rfl, ?_⟩
        | refine ⟨(by first | exact Nat.zero_lt_one | assumption | omega), ?_⟩
        | refine ⟨Or.inl rfl, ?_⟩
        | refine ⟨Or.inr (Or.inl rfl), ?_⟩
        | refine ⟨Or.inr (Or.inr rfl), ?_⟩
        | refine ⟨Or.inr ⟨rfl, (by first | exact Or.inl rfl | exact Or.inr rfl | assumption)⟩, ?_⟩
        | refine ⟨fun h => absurd h (by decide), fun _ => ?_⟩
        | refine ⟨fun _ => ?_, fun h => absurd h (by decide)⟩
        | refine ⟨fun h => ?_, fun h => ?_⟩
        | fail)
      rw [hv, e40, e9]
      rfl
  repeat' (first
    | refine c_Tb_sittersAsSet ht hn h12 (fun k hk => (hs k hk).elim Or.inl (fun h => Or.inr (vp_in_of h.1 (by omega)))) (fun x hx => ?_)
    | refine c_Ha_numberPlaces hm h20 ho hd (fun μ' hf hr => ?_)
    | exact L _ _ hx hf hr n 0 _ _ (by omega) rfl rfl
    | refine zs k_Ha_priceOf rfl ?_
    | refine ⟨Nat.zero_lt_one, rfl, ?_⟩
    | refine ⟨rfl, ?_⟩
    | refine ⟨⟨Nat.zero_lt_one, rfl⟩, Nat.le_of_ble_eq_true rfl, ?_⟩
    | refine ⟨Nat.le_of_ble_eq_true rfl, Nat.le_of_ble_eq_true rfl, ?_⟩
    | refine ⟨(by first | exact Nat.zero_lt_one | assumption | omega), (by first | assumption | exact vp_in_nI (by omega) (by omega) | (unfold vp_in; decide)), ?_⟩
    | refine ⟨(by first | exact Nat.zero_lt_one | assumption | omega), rfl, ?_⟩
    | refine ⟨⟨(by first | exact Nat.zero_lt_one | assumption | omega), rfl⟩, Nat.le_of_ble_eq_true rfl, ?_⟩
    | refine ⟨(by first | exact Nat.zero_lt_one | assumption | omega), ?_⟩
    | refine ⟨Or.inl rfl, ?_⟩
    | refine ⟨Or.inr (Or.inl rfl), ?_⟩
    | refine ⟨Or.inr (Or.inr rfl), ?_⟩
    | refine ⟨Or.inr ⟨rfl, (by first | exact Or.inl rfl | exact Or.inr rfl | assumption)⟩, ?_⟩
    | refine ⟨fun h => absurd h (by decide), fun _ => ?_⟩
    | refine ⟨fun _ => ?_, fun h => absurd h (by decide)⟩
    | refine ⟨fun h => ?_, fun h => ?_⟩
    | fail)
