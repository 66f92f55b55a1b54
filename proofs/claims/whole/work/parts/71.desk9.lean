/-! DESK: split, table, feud, talk -/
theorem set_lt {x : Int32} {n : Nat} (hn : n ≤ 20) : (¬ x < 0 ∧ x < 1 <<< (nI n &&& 31)) ↔ bN x < 2 ^ n := by
  have hp : 2 ^ n ≤ 2 ^ 20 := Nat.pow_le_pow_right (by omega) hn
  have e : (1 : Int32) <<< (nI n &&& 31) = nI (2 ^ n) := by
    have := pk_shlN (n := 1) (nI n &&& 31) n (bt_s n (by omega)) (by omega)
    rw [Nat.one_mul] at this
    exact this
  rw [e]
  constructor
  · rintro ⟨h1, h2⟩
    obtain ⟨j, hj, rfl⟩ := nI_of h1
    rw [bN_nI (by omega)]
    exact (nI_ltI hj (by omega)).mp h2
  · intro h
    have hx : x = nI (bN x) := bN_inj (by rw [bN_nI (bN_lt x)])
    rw [hx]
    exact ⟨nI_pos (by omega), nI_lt h (by omega)⟩
theorem bit_s {x : Int32} {n p : Nat} (hn : n ≤ 20) (hx : bN x < 2 ^ n) (hp : p < 32) : ((x >>> (nI p &&& 31)) &&& 1 = 1) ↔ zbit x (nI p) := by
  have hq : 2 ^ n ≤ 2 ^ 20 := Nat.pow_le_pow_right (by omega) hn
  have e : x = nI (bN x) := bN_inj (by rw [bN_nI (bN_lt x)])
  rw [zbit_iff hp, e, pk_shrN (by omega) (nI p &&& 31) p (bt_s p hp), bt_1, bt_is (Nat.mod_lt _ (by omega)), bN_nI (show bN x / 2 ^ p < 2 ^ 32 from Nat.lt_of_le_of_lt (Nat.div_le_self _ _) (by omega)), bN_nI (by omega), Nat.testBit_eq_decide_div_mod_eq, decide_eq_true_iff]
def okSp (x y w : Int32) (n : Nat) : Prop := okSt x y ∧ bN w < 2 ^ n
def cSp (μ : zMu) (ns n : Nat) (s x y w : Int32) : zMu := cMv (zu (zu (zu μ 13 0 ns x) 14 0 ns y) 1 0 0 (nI (ns + 1))) s (nI ns) w n
theorem c_De_split {d ns n : Nat} {μ : zMu} {s x y w : Int32} {K : Option zV → zMu → Prop} (hs : μ 1 0 0 = nI ns) (h10 : ns ≤ 10) (hn : μ 1 0 1 = nI n) (h20 : n ≤ 20) (h0 : ¬ (0 ≤ s ∧ s < nI ns) → K (some (zI (-1))) μ) (h1 : (0 ≤ s ∧ s < nI ns) → ¬ okSp x y w n → K (some (zI (-2))) μ) (h2 : (0 ≤ s ∧ s < nI ns) → okSp x y w n → ns = 10 → K (some (zI (-4))) μ) (h3 : (0 ≤ s ∧ s < nI ns) → okSp x y w n → ns < 10 → K (some (zI (nI ns))) (cSp μ ns n s x y w)) : Ct (d + 3) m_De_split [zR 0 0, zI s, zI x, zI y, zI w] μ K := by
  refine zmeet rfl (Nat.le_of_ble_eq_true rfl) (fun S => ?_)
  have hcl : (μ 1 0 0).toNatClampNeg = ns := by rw [hs]; exact nI_clamp (by omega)
  have hset : (w.toUInt32 >>> ((μ 1 0 1).toUInt32 &&& Int32.toUInt32 31)).toInt32 = 0 ↔ bN w < 2 ^ n := by rw [hn]; exact set_ok (by omega)
  by_cases hsx : 0 ≤ s ∧ s < nI ns
  case neg =>
    have hk := h0 hsx
    repeat' (first
      | refine c_Ro_hasState (fun h h' => absurd (by rw [← hs]; exact ⟨h, h'⟩) hsx) (fun _ => ?_)
      | exact hk
      | (refine zs k_De_split rfl ?_; conv => whnf)
      | refine ⟨Nat.zero_lt_one, rfl, ?_⟩
      | refine ⟨rfl, ?_⟩
      | refine ⟨⟨Nat.zero_lt_one, rfl⟩, Nat.le_of_ble_eq_true rfl, ?_⟩
      | refine ⟨Nat.le_of_ble_eq_true rfl, Nat.le_of_ble_eq_true rfl, ?_⟩
      | refine ⟨(by first | exact Nat.zero_lt_one | assumption | omega), (by first | assumption | exact vp_in_nI (by omega) (by omega) | (unfold vp_in; decide)), ?_⟩
      | refine ⟨(by first | exact Nat.zero_lt_one | assumption | omega), rfl, ?_⟩
      | refine ⟨⟨(by first | exact Nat.zero_lt_one | assumption | omega), rfl⟩, Nat.le_of_ble_eq_true rfl, ?_⟩
      | refine ⟨(by first | exact Nat.zero_lt_one | assumption | omega), ?_⟩
      | refine ⟨Or.inl rfl, ?_⟩
      | refine ⟨Or.inr (Or.inl rfl), ?_⟩
      | refine ⟨Or.inr (Or.inr rfl), ?_⟩
      | refine ⟨Or.inr ⟨rfl, (by first | exact Or.inl rfl | exact Or.inr rfl | assumption)⟩, ?_⟩
      | refine ⟨fun h => absurd h (by decide), fun _ => ?_⟩
      | refine ⟨fun _ => ?_, fun h => absurd h (by decide)⟩
      | refine ⟨fun h => ?_, fun h => ?_⟩
      | fail)
  have hsx' : 0 ≤ s ∧ s < μ 1 0 0 := by rw [hs]; exact hsx
  by_cases ho : okSp x y w n
  case neg =>
    have hk := h1 hsx ho
    repeat' (first
      | refine c_Ro_hasState (fun _ _ => ?_) (fun h => absurd hsx' h)
      | refine c_Ro_isStateAsTold (fun hb => ?_) (fun hb => ?_)
      | refine c_Ro_isSetOfPersons (fun hc => absurd ⟨hb, hset.mp hc⟩ ho) (fun hc => ?_)
      | exact hk
      | (refine zs k_De_split rfl ?_; conv => whnf)
      | refine ⟨Nat.zero_lt_one, rfl, ?_⟩
      | refine ⟨rfl, ?_⟩
      | refine ⟨⟨Nat.zero_lt_one, rfl⟩, Nat.le_of_ble_eq_true rfl, ?_⟩
      | refine ⟨Nat.le_of_ble_eq_true rfl, Nat.le_of_ble_eq_true rfl, ?_⟩
      | refine ⟨(by first | exact Nat.zero_lt_one | assumption | omega), (by first | assumption | exact vp_in_nI (by omega) (by omega) | (unfold vp_in; decide)), ?_⟩
      | refine ⟨(by first | exact Nat.zero_lt_one | assumption | omega), rfl, ?_⟩
      | refine ⟨⟨(by first | exact Nat.zero_lt_one | assumption | omega), rfl⟩, Nat.le_of_ble_eq_true rfl, ?_⟩
      | refine ⟨(by first | exact Nat.zero_lt_one | assumption | omega), ?_⟩
      | refine ⟨Or.inl rfl, ?_⟩
      | refine ⟨Or.inr (Or.inl rfl), ?_⟩
      | refine ⟨Or.inr (Or.inr rfl), ?_⟩
      | refine ⟨Or.inr ⟨rfl, (by first | exact Or.inl rfl | exact Or.inr rfl | assumption)⟩, ?_⟩
      | refine ⟨fun h => absurd h (by decide), fun _ => ?_⟩
      | refine ⟨fun _ => ?_, fun h => absurd h (by decide)⟩
      | refine ⟨fun h => ?_, fun h => ?_⟩
      | fail)
  rcases Nat.lt_or_ge ns 10 with h | h
  · have hk := h3 hsx ho h
    have hlt : μ 1 0 0 < 10 := by rw [hs]; exact nI_lt (b := 10) h (by omega)
    have hv : vp_in (μ 1 0 0) 10 := by rw [hs]; exact vp_in_nI h (by omega)
    have ea : μ 1 0 0 + 1 - 1 = nI ns := by rw [hs, nI_1, nI_pred]
    have em : zu (zu (zu μ 13 0 (μ 1 0 0).toNatClampNeg x) 14 0 (μ 1 0 0).toNatClampNeg y) 1 0 0 (μ 1 0 0 + 1) = zu (zu (zu μ 13 0 ns x) 14 0 ns y) 1 0 0 (nI (ns + 1)) := by rw [hcl, hs, nI_1]
    have hv2 : vp_in (μ 1 0 0 + 1 - 1) 10 := by rw [ea]; exact vp_in_nI h (by omega)
    repeat' (first
      | refine c_Ro_hasState (fun _ _ => ?_) (fun h => absurd hsx' h)
      | refine c_Ro_isStateAsTold (fun hb => ?_) (fun hb => absurd ho.1 hb)
      | refine c_Ro_isSetOfPersons (fun hc => ?_) (fun hc => absurd (hset.mpr ho.2) hc)
      | refine br_t hlt ?_
      | refine c_Ro_addState hv ?_
      | refine c_Ro_moveHome (n := n) (by exact hn) h20 hv2 ?_
      | exact zKe hk ea (by rw [em, ea]; rfl)
      | (refine zs k_De_split rfl ?_; conv => whnf)
      | refine ⟨Nat.zero_lt_one, rfl, ?_⟩
      | refine ⟨rfl, ?_⟩
      | refine ⟨⟨Nat.zero_lt_one, rfl⟩, Nat.le_of_ble_eq_true rfl, ?_⟩
      | refine ⟨Nat.le_of_ble_eq_true rfl, Nat.le_of_ble_eq_true rfl, ?_⟩
      | refine ⟨(by first | exact Nat.zero_lt_one | assumption | omega), (by first | assumption | exact vp_in_nI (by omega) (by omega) | (unfold vp_in; decide)), ?_⟩
      | refine ⟨(by first | exact Nat.zero_lt_one | assumption | omega), rfl, ?_⟩
      | refine ⟨⟨(by first | exact Nat.zero_lt_one | assumption | omega), rfl⟩, Nat.le_of_ble_eq_true rfl, ?_⟩
      | refine ⟨(by first | exact Nat.zero_lt_one | assumption | omega), ?_⟩
      | refine ⟨Or.inl rfl, ?_⟩
      | refine ⟨Or.inr (Or.inl rfl), ?_⟩
      | refine ⟨Or.inr (Or.inr rfl), ?_⟩
      | refine ⟨Or.inr ⟨rfl, (by first | exact Or.inl rfl | exact Or.inr rfl | assumption)⟩, ?_⟩
      | refine ⟨fun h => absurd h (by decide), fun _ => ?_⟩
      | refine ⟨fun _ => ?_, fun h => absurd h (by decide)⟩
      | refine ⟨fun h => ?_, fun h => ?_⟩
      | fail)
  · have hk := h2 hsx ho (by omega)
    have hlt : ¬ μ 1 0 0 < 10 := by rw [hs]; exact nI_nlt (b := 10) h (by omega)
    repeat' (first
      | refine c_Ro_hasState (fun _ _ => ?_) (fun h => absurd hsx' h)
      | refine c_Ro_isStateAsTold (fun hb => ?_) (fun hb => absurd ho.1 hb)
      | refine c_Ro_isSetOfPersons (fun hc => ?_) (fun hc => absurd (hset.mpr ho.2) hc)
      | refine br_f hlt ?_
      | exact hk
      | (refine zs k_De_split rfl ?_; conv => whnf)
      | refine ⟨Nat.zero_lt_one, rfl, ?_⟩
      | refine ⟨rfl, ?_⟩
      | refine ⟨⟨Nat.zero_lt_one, rfl⟩, Nat.le_of_ble_eq_true rfl, ?_⟩
      | refine ⟨Nat.le_of_ble_eq_true rfl, Nat.le_of_ble_eq_true rfl, ?_⟩
      | refine ⟨(by first | exact Nat.zero_lt_one | assumption | omega), (by first | assumption | exact vp_in_nI (by omega) (by omega) | (unfold vp_in; decide)), ?_⟩
      | refine ⟨(by first | exact Nat.zero_lt_one | assumption | omega), rfl, ?_⟩
      | refine ⟨⟨(by first | exact Nat.zero_lt_one | assumption | omega), rfl⟩, Nat.le_of_ble_eq_true rfl, ?_⟩
      | refine ⟨(by first | exact Nat.zero_lt_one | assumption | omega), ?_⟩
      | refine ⟨Or.inl rfl, ?_⟩
      | refine ⟨Or.inr (Or.inl rfl), ?_⟩
      | refine ⟨Or.inr (Or.inr rfl), ?_⟩
      | refine ⟨Or.inr ⟨rfl, (by first | exact Or.inl rfl | exact Or.inr rfl | assumption)⟩, ?_⟩
      | refine ⟨fun h => absurd h (by decide), fun _ => ?_⟩
      | refine ⟨fun _ => ?_, fun h => absurd h (by decide)⟩
      | refine ⟨fun h => ?_, fun h => ?_⟩
      | fail)
abbrev zbe (x p : Int32) : Prop := (x.toUInt32 >>> (p.toUInt32 &&& Int32.toUInt32 31)).toInt32 &&& 1 = 1
def mMv (μ : zMu) (s to w : Int32) (i : Nat) : zMu := fun f a b => if f = 56 ∧ a = 0 ∧ b < i ∧ zbe w (nI b) ∧ μ 56 0 b = s then to else μ f a b
set_option maxHeartbeats 1000000 in
theorem c_Mo_split {d ns n : Nat} {μ : zMu} {s x y w : Int32} {K : Option zV → zMu → Prop} (hs : μ 48 0 0 = nI ns) (h10 : ns ≤ 10) (hn : μ 48 0 5 = nI n) (h20 : n ≤ 20) (h0 : ¬ (0 ≤ s ∧ s < nI ns) → K (some (zI (-1))) μ) (h1 : (0 ≤ s ∧ s < nI ns) → ¬ okSp x y w n → K (some (zI (-2))) μ) (h2 : (0 ≤ s ∧ s < nI ns) → okSp x y w n → ns = 10 → K (some (zI (-4))) μ) (h3 : (0 ≤ s ∧ s < nI ns) → okSp x y w n → ns < 10 → K (some (zI (nI ns))) (mMv (zu (zu (zu μ 51 0 ns x) 52 0 ns y) 48 0 0 (nI (ns + 1))) s (nI ns) w n)) : Ct (d + 2) m_Mo_split [zR 48 0, zI s, zI x, zI y, zI w] μ K := by
  refine zmeet rfl (Nat.le_of_ble_eq_true rfl) (fun S => ?_)
  have hset : (¬ w < 0 ∧ w < 1 <<< (μ 48 0 5 &&& 31)) ↔ bN w < 2 ^ n := by rw [hn]; exact set_lt h20
  by_cases hsx : 0 ≤ s ∧ s < nI ns
  case neg =>
    have hk := h0 hsx
    repeat' (first
      | refine c_Mo_isState (fun h => absurd (by rw [← hs]; exact h) hsx) (fun _ => ?_)
      | exact hk
      | (refine zs k_Mo_split rfl ?_; conv => whnf)
      | refine ⟨Nat.zero_lt_one, rfl, ?_⟩
      | refine ⟨rfl, ?_⟩
      | refine ⟨⟨Nat.zero_lt_one, rfl⟩, Nat.le_of_ble_eq_true rfl, ?_⟩
      | refine ⟨Nat.le_of_ble_eq_true rfl, Nat.le_of_ble_eq_true rfl, ?_⟩
      | refine ⟨(by first | exact Nat.zero_lt_one | assumption | omega), (by first | assumption | exact vp_in_nI (by omega) (by omega) | (unfold vp_in; decide)), ?_⟩
      | refine ⟨(by first | exact Nat.zero_lt_one | assumption | omega), rfl, ?_⟩
      | refine ⟨⟨(by first | exact Nat.zero_lt_one | assumption | omega), rfl⟩, Nat.le_of_ble_eq_true rfl, ?_⟩
      | refine ⟨(by first | exact Nat.zero_lt_one | assumption | omega), ?_⟩
      | refine ⟨Or.inl rfl, ?_⟩
      | refine ⟨Or.inr (Or.inl rfl), ?_⟩
      | refine ⟨Or.inr (Or.inr rfl), ?_⟩
      | refine ⟨Or.inr ⟨rfl, (by first | exact Or.inl rfl | exact Or.inr rfl | assumption)⟩, ?_⟩
      | refine ⟨fun h => absurd h (by decide), fun _ => ?_⟩
      | refine ⟨fun _ => ?_, fun h => absurd h (by decide)⟩
      | refine ⟨fun h => ?_, fun h => ?_⟩
      | fail)
  have hsx' : 0 ≤ s ∧ s < μ 48 0 0 := by rw [hs]; exact hsx
  by_cases ho : okSp x y w n
  case neg =>
    have hk := h1 hsx ho
    repeat' (first
      | refine c_Mo_isState (fun _ => ?_) (fun h => absurd hsx' h)
      | refine c_Mo_isIn (lo := 0) (hi := 99) rfl rfl (fun hb => ?_) (fun hb => ?_)
      | refine c_Mo_isIn (lo := 0) (hi := 7) rfl rfl (fun hc => ?_) (fun hc => ?_)
      | exact hk
      | (refine zs k_Mo_split rfl ?_; conv => whnf)
      | refine ⟨Nat.zero_lt_one, rfl, ?_⟩
      | refine ⟨rfl, ?_⟩
      | refine ⟨⟨Nat.zero_lt_one, rfl⟩, Nat.le_of_ble_eq_true rfl, ?_⟩
      | refine ⟨Nat.le_of_ble_eq_true rfl, Nat.le_of_ble_eq_true rfl, ?_⟩
      | refine ⟨(by first | exact Nat.zero_lt_one | assumption | omega), (by first | assumption | exact vp_in_nI (by omega) (by omega) | (unfold vp_in; decide)), ?_⟩
      | refine ⟨(by first | exact Nat.zero_lt_one | assumption | omega), rfl, ?_⟩
      | refine ⟨⟨(by first | exact Nat.zero_lt_one | assumption | omega), rfl⟩, Nat.le_of_ble_eq_true rfl, ?_⟩
      | refine ⟨(by first | exact Nat.zero_lt_one | assumption | omega), ?_⟩
      | refine ⟨Or.inl rfl, ?_⟩
      | refine ⟨Or.inr (Or.inl rfl), ?_⟩
      | refine ⟨Or.inr (Or.inr rfl), ?_⟩
      | refine ⟨Or.inr ⟨rfl, (by first | exact Or.inl rfl | exact Or.inr rfl | assumption)⟩, ?_⟩
      | refine ⟨fun h => absurd h (by decide), fun _ => ?_⟩
      | refine ⟨fun _ => ?_, fun h => absurd h (by decide)⟩
      | refine ⟨fun h => ?_, fun h => ?_⟩
      | exact absurd ⟨⟨hb.1, hb.2, hc.1, lt8.mpr hc.2⟩, hset.mp ⟨by assumption, by assumption⟩⟩ ho
      | fail)
  have w0 : ¬ w < 0 := (hset.mpr ho.2).1
  have w1 : w < 1 <<< (μ 48 0 5 &&& 31) := (hset.mpr ho.2).2
  have c1 : (0 : Int32) ≤ x ∧ x ≤ 99 := ⟨ho.1.1, ho.1.2.1⟩
  have c2 : (0 : Int32) ≤ y ∧ y ≤ 7 := ⟨ho.1.2.2.1, lt8.mp ho.1.2.2.2⟩
  rcases Nat.lt_or_ge ns 10 with h | h
  · have hk := h3 hsx ho h
    have hlt : ¬ μ 48 0 0 = 10 := by rw [hs]; exact fun e => absurd ((nI_eq (b := 10) (by omega) (by omega)).mp e) (by omega)
    have e5 : zu (zu (zu μ 51 0 ns x) 52 0 ns y) 48 0 0 (nI (ns + 1)) 48 0 5 = nI n := hn
    generalize hν : zu (zu (zu μ 51 0 ns x) 52 0 ns y) 48 0 0 (nI (ns + 1)) = ν at hk e5
    have L : ∀ (k i : Nat) (v : Int32) (μ1 : zMu), i + k = n → v = nI i → μ1 = mMv ν s (nI ns) w i → zG S (d + 2) m_Mo_split K 76 [some (zR 48 0), some (zI s), some (zI x), some (zI y), some (zI w), some (zI (nI ns)), some (zI v)] [] μ1 := by
      intro k
      induction k with
      | zero =>
        intro i v μ1 hi hv hμ1
        obtain rfl : i = n := by omega
        subst hv hμ1
        have hle : mMv ν s (nI ns) w i 48 0 5 ≤ nI i := by
          show ν 48 0 5 ≤ nI i
          rw [e5]
          exact nI_le (Nat.le_refl i) (by omega)
        refine zs k_Mo_split rfl ?_; conv => whnf
        repeat' (first
          | refine br_t hle ?_
          | exact hk
          | (refine zs k_Mo_split rfl ?_; conv => whnf)
          | refine ⟨Nat.zero_lt_one, rfl, ?_⟩
          | refine ⟨rfl, ?_⟩
          | refine ⟨⟨Nat.zero_lt_one, rfl⟩, Nat.le_of_ble_eq_true rfl, ?_⟩
          | refine ⟨Nat.le_of_ble_eq_true rfl, Nat.le_of_ble_eq_true rfl, ?_⟩
          | refine ⟨(by first | exact Nat.zero_lt_one | assumption | omega), (by first | assumption | exact vp_in_nI (by omega) (by omega) | (unfold vp_in; decide)), ?_⟩
          | refine ⟨(by first | exact Nat.zero_lt_one | assumption | omega), rfl, ?_⟩
          | refine ⟨⟨(by first | exact Nat.zero_lt_one | assumption | omega), rfl⟩, Nat.le_of_ble_eq_true rfl, ?_⟩
          | refine ⟨(by first | exact Nat.zero_lt_one | assumption | omega), ?_⟩
          | refine ⟨Or.inl rfl, ?_⟩
          | refine ⟨Or.inr (Or.inl rfl), ?_⟩
          | refine ⟨Or.inr (Or.inr rfl), ?_⟩
          | refine ⟨Or.inr ⟨rfl, (by first | exact Or.inl rfl | exact Or.inr rfl | assumption)⟩, ?_⟩
          | refine ⟨fun h => absurd h (by decide), fun _ => ?_⟩
          | refine ⟨fun _ => ?_, fun h => absurd h (by decide)⟩
          | refine ⟨fun h => ?_, fun h => ?_⟩
          | fail)
      | succ k ih =>
        intro i v μ1 hi hv h1
        subst hv
        have hci : (nI i).toNatClampNeg = i := nI_clamp (by omega)
        have hle : ¬ μ1 48 0 5 ≤ nI i := by
          rw [h1]
          show ¬ ν 48 0 5 ≤ nI i
          rw [e5]
          exact nI_ge (by omega) (by omega)
        have e1 : μ1 56 0 (nI i).toNatClampNeg = ν 56 0 i := by
          rw [h1, hci]
          unfold mMv
          rw [if_neg (by omega)]
        have hb := bit_s (x := w) h20 ho.2 (p := i) (by omega)
        by_cases hz : zbe w (nI i) ∧ ν 56 0 i = s
        · have z1 := hb.mpr hz.1
          have z2 : μ1 56 0 (nI i).toNatClampNeg = s := e1.trans hz.2
          refine zs k_Mo_split rfl ?_; conv => whnf
          repeat' (first
            | refine br_f hle ?_
            | refine bn_f z1 ?_
            | refine bn_f z2 ?_
            | refine ih (i + 1) _ _ (by omega) (by exact nI_1 i) ?_
            | (refine zs k_Mo_split rfl ?_; conv => whnf)
            | refine ⟨Nat.zero_lt_one, rfl, ?_⟩
            | refine ⟨rfl, ?_⟩
            | refine ⟨⟨Nat.zero_lt_one, rfl⟩, Nat.le_of_ble_eq_true rfl, ?_⟩
            | refine ⟨Nat.le_of_ble_eq_true rfl, Nat.le_of_ble_eq_true rfl, ?_⟩
            | refine ⟨(by first | exact Nat.zero_lt_one | assumption | omega), (by first | assumption | exact vp_in_nI (by omega) (by omega) | (unfold vp_in; decide)), ?_⟩
            | refine ⟨(by first | exact Nat.zero_lt_one | assumption | omega), rfl, ?_⟩
            | refine ⟨⟨(by first | exact Nat.zero_lt_one | assumption | omega), rfl⟩, Nat.le_of_ble_eq_true rfl, ?_⟩
            | refine ⟨(by first | exact Nat.zero_lt_one | assumption | omega), ?_⟩
            | refine ⟨Or.inl rfl, ?_⟩
            | refine ⟨Or.inr (Or.inl rfl), ?_⟩
            | refine ⟨Or.inr (Or.inr rfl), ?_⟩
            | refine ⟨Or.inr ⟨rfl, (by first | exact Or.inl rfl | exact Or.inr rfl | assumption)⟩, ?_⟩
            | refine ⟨fun h => absurd h (by decide), fun _ => ?_⟩
            | refine ⟨fun _ => ?_, fun h => absurd h (by decide)⟩
            | refine ⟨fun h => ?_, fun h => ?_⟩
            | fail)
          rw [hci, h1]
          funext f a b
          simp only [zu, mMv]
          by_cases e : f = 56 ∧ b = i ∧ a = 0
          · obtain ⟨rfl, rfl, rfl⟩ := e
            rw [if_pos ⟨rfl, rfl, rfl⟩, if_pos ⟨rfl, rfl, by omega, hz⟩]
          · rw [if_neg e]
            by_cases e2 : f = 56 ∧ a = 0 ∧ b < i ∧ zbe w (nI b) ∧ ν 56 0 b = s
            · rw [if_pos e2, if_pos ⟨e2.1, e2.2.1, by omega, e2.2.2.2⟩]
            · rw [if_neg e2, if_neg (fun z => e2 ⟨z.1, z.2.1, by omega, z.2.2.2⟩)]
        · have same : zu μ1 56 0 i (ν 56 0 i) = mMv ν s (nI ns) w (i + 1) := by
            rw [h1]
            funext f a b
            simp only [zu, mMv]
            by_cases e : f = 56 ∧ b = i ∧ a = 0
            · obtain ⟨rfl, rfl, rfl⟩ := e
              rw [if_pos ⟨rfl, rfl, rfl⟩, if_neg (fun z => hz z.2.2.2)]
            · rw [if_neg e]
              by_cases e2 : f = 56 ∧ a = 0 ∧ b < i ∧ zbe w (nI b) ∧ ν 56 0 b = s
              · rw [if_pos e2, if_pos ⟨e2.1, e2.2.1, by omega, e2.2.2.2⟩]
              · rw [if_neg e2, if_neg (fun z => e2 ⟨z.1, z.2.1, by omega, z.2.2.2⟩)]
          by_cases hz1 : zbe w (nI i)
          · have z1 := hb.mpr hz1
            have z2 : ¬ μ1 56 0 (nI i).toNatClampNeg = s := by rw [e1]; exact fun q => hz ⟨hz1, q⟩
            refine zs k_Mo_split rfl ?_; conv => whnf
            repeat' (first
              | refine br_f hle ?_
              | refine bn_f z1 ?_
              | refine bn_t z2 ?_
              | refine ih (i + 1) _ _ (by omega) (by exact nI_1 i) ?_
              | (refine zs k_Mo_split rfl ?_; conv => whnf)
              | refine ⟨Nat.zero_lt_one, rfl, ?_⟩
              | refine ⟨rfl, ?_⟩
              | refine ⟨⟨Nat.zero_lt_one, rfl⟩, Nat.le_of_ble_eq_true rfl, ?_⟩
              | refine ⟨Nat.le_of_ble_eq_true rfl, Nat.le_of_ble_eq_true rfl, ?_⟩
              | refine ⟨(by first | exact Nat.zero_lt_one | assumption | omega), (by first | assumption | exact vp_in_nI (by omega) (by omega) | (unfold vp_in; decide)), ?_⟩
              | refine ⟨(by first | exact Nat.zero_lt_one | assumption | omega), rfl, ?_⟩
              | refine ⟨⟨(by first | exact Nat.zero_lt_one | assumption | omega), rfl⟩, Nat.le_of_ble_eq_true rfl, ?_⟩
              | refine ⟨(by first | exact Nat.zero_lt_one | assumption | omega), ?_⟩
              | refine ⟨Or.inl rfl, ?_⟩
              | refine ⟨Or.inr (Or.inl rfl), ?_⟩
              | refine ⟨Or.inr (Or.inr rfl), ?_⟩
              | refine ⟨Or.inr ⟨rfl, (by first | exact Or.inl rfl | exact Or.inr rfl | assumption)⟩, ?_⟩
              | refine ⟨fun h => absurd h (by decide), fun _ => ?_⟩
              | refine ⟨fun _ => ?_, fun h => absurd h (by decide)⟩
              | refine ⟨fun h => ?_, fun h => ?_⟩
              | fail)
            rw [e1, hci]
            exact same
          · have z1 : ¬ (w >>> (nI i &&& 31)) &&& 1 = 1 := fun q => hz1 (hb.mp q)
            refine zs k_Mo_split rfl ?_; conv => whnf
            repeat' (first
              | refine br_f hle ?_
              | refine bn_t z1 ?_
              | refine ih (i + 1) _ _ (by omega) (by exact nI_1 i) ?_
              | (refine zs k_Mo_split rfl ?_; conv => whnf)
              | refine ⟨Nat.zero_lt_one, rfl, ?_⟩
              | refine ⟨rfl, ?_⟩
              | refine ⟨⟨Nat.zero_lt_one, rfl⟩, Nat.le_of_ble_eq_true rfl, ?_⟩
              | refine ⟨Nat.le_of_ble_eq_true rfl, Nat.le_of_ble_eq_true rfl, ?_⟩
              | refine ⟨(by first | exact Nat.zero_lt_one | assumption | omega), (by first | assumption | exact vp_in_nI (by omega) (by omega) | (unfold vp_in; decide)), ?_⟩
              | refine ⟨(by first | exact Nat.zero_lt_one | assumption | omega), rfl, ?_⟩
              | refine ⟨⟨(by first | exact Nat.zero_lt_one | assumption | omega), rfl⟩, Nat.le_of_ble_eq_true rfl, ?_⟩
              | refine ⟨(by first | exact Nat.zero_lt_one | assumption | omega), ?_⟩
              | refine ⟨Or.inl rfl, ?_⟩
              | refine ⟨Or.inr (Or.inl rfl), ?_⟩
              | refine ⟨Or.inr (Or.inr rfl), ?_⟩
              | refine ⟨Or.inr ⟨rfl, (by first | exact Or.inl rfl | exact Or.inr rfl | assumption)⟩, ?_⟩
              | refine ⟨fun h => absurd h (by decide), fun _ => ?_⟩
              | refine ⟨fun _ => ?_, fun h => absurd h (by decide)⟩
              | refine ⟨fun h => ?_, fun h => ?_⟩
              | fail)
            rw [e1, hci]
            exact same
    repeat' (first
      | refine c_Mo_isState (fun _ => ?_) (fun h => absurd hsx' h)
      | refine c_Mo_isIn (lo := 0) (hi := 99) rfl rfl (fun hb => ?_) (fun hb => absurd c1 hb)
      | refine c_Mo_isIn (lo := 0) (hi := 7) rfl rfl (fun hc => ?_) (fun hc => absurd c2 hc)
      | refine br_f w0 ?_
      | refine br_t w1 ?_
      | refine bn_t hlt ?_
      | refine c_Mo_state (ns := ns) hs h10 (fun q => absurd ho.1 q) (fun _ q => absurd q (by omega)) (fun _ _ => ?_)
      | refine L n 0 _ _ (by omega) rfl ?_
      | (refine zs k_Mo_split rfl ?_; conv => whnf)
      | refine ⟨Nat.zero_lt_one, rfl, ?_⟩
      | refine ⟨rfl, ?_⟩
      | refine ⟨⟨Nat.zero_lt_one, rfl⟩, Nat.le_of_ble_eq_true rfl, ?_⟩
      | refine ⟨Nat.le_of_ble_eq_true rfl, Nat.le_of_ble_eq_true rfl, ?_⟩
      | refine ⟨(by first | exact Nat.zero_lt_one | assumption | omega), (by first | assumption | exact vp_in_nI (by omega) (by omega) | (unfold vp_in; decide)), ?_⟩
      | refine ⟨(by first | exact Nat.zero_lt_one | assumption | omega), rfl, ?_⟩
      | refine ⟨⟨(by first | exact Nat.zero_lt_one | assumption | omega), rfl⟩, Nat.le_of_ble_eq_true rfl, ?_⟩
      | refine ⟨(by first | exact Nat.zero_lt_one | assumption | omega), ?_⟩
      | refine ⟨Or.inl rfl, ?_⟩
      | refine ⟨Or.inr (Or.inl rfl), ?_⟩
      | refine ⟨Or.inr (Or.inr rfl), ?_⟩
      | refine ⟨Or.inr ⟨rfl, (by first | exact Or.inl rfl | exact Or.inr rfl | assumption)⟩, ?_⟩
      | refine ⟨fun h => absurd h (by decide), fun _ => ?_⟩
      | refine ⟨fun _ => ?_, fun h => absurd h (by decide)⟩
      | refine ⟨fun h => ?_, fun h => ?_⟩
      | fail)
    rw [hν]
    funext f a b
    unfold mMv
    rw [if_neg (by omega)]
  · have hk := h2 hsx ho (by omega)
    have hlt : μ 48 0 0 = 10 := by rw [hs, show ns = 10 by omega]; rfl
    repeat' (first
      | refine c_Mo_isState (fun _ => ?_) (fun h => absurd hsx' h)
      | refine c_Mo_isIn (lo := 0) (hi := 99) rfl rfl (fun hb => ?_) (fun hb => absurd c1 hb)
      | refine c_Mo_isIn (lo := 0) (hi := 7) rfl rfl (fun hc => ?_) (fun hc => absurd c2 hc)
      | refine br_f w0 ?_
      | refine br_t w1 ?_
      | refine bn_f hlt ?_
      | exact hk
      | (refine zs k_Mo_split rfl ?_; conv => whnf)
      | refine ⟨Nat.zero_lt_one, rfl, ?_⟩
      | refine ⟨rfl, ?_⟩
      | refine ⟨⟨Nat.zero_lt_one, rfl⟩, Nat.le_of_ble_eq_true rfl, ?_⟩
      | refine ⟨Nat.le_of_ble_eq_true rfl, Nat.le_of_ble_eq_true rfl, ?_⟩
      | refine ⟨(by first | exact Nat.zero_lt_one | assumption | omega), (by first | assumption | exact vp_in_nI (by omega) (by omega) | (unfold vp_in; decide)), ?_⟩
      | refine ⟨(by first | exact Nat.zero_lt_one | assumption | omega), rfl, ?_⟩
      | refine ⟨⟨(by first | exact Nat.zero_lt_one | assumption | omega), rfl⟩, Nat.le_of_ble_eq_true rfl, ?_⟩
      | refine ⟨(by first | exact Nat.zero_lt_one | assumption | omega), ?_⟩
      | refine ⟨Or.inl rfl, ?_⟩
      | refine ⟨Or.inr (Or.inl rfl), ?_⟩
      | refine ⟨Or.inr (Or.inr rfl), ?_⟩
      | refine ⟨Or.inr ⟨rfl, (by first | exact Or.inl rfl | exact Or.inr rfl | assumption)⟩, ?_⟩
      | refine ⟨fun h => absurd h (by decide), fun _ => ?_⟩
      | refine ⟨fun _ => ?_, fun h => absurd h (by decide)⟩
      | refine ⟨fun h => ?_, fun h => ?_⟩
      | fail)
theorem b_split {μ : zMu} {s x y w : Int32} (h : Rel μ) : Both m_De_split m_Mo_split [zI s, zI x, zI y, zI w] μ := by
  intro d K hK
  obtain ⟨ns, n, nr, nh, nt, nb, L, g1, g2, g3, g4, g5, g6, g7, g8, g9, g10, g11⟩ := id h
  have h20 := g2.2.2.1
  have h10 := g1.2.2.1
  refine c_De_split g1.1 h10 g2.1 h20 (fun a => hK _ _ (fun d K2 hK2 => ?_)) (fun a b => hK _ _ (fun d K2 hK2 => ?_)) (fun a b c => hK _ _ (fun d K2 hK2 => ?_)) (fun a b c => hK _ _ (fun d K2 hK2 => ?_))
  · exact c_Mo_split g1.2.1 h10 g2.2.1 h20 (fun _ => hK2 _ h) (fun q => absurd q a) (fun q => absurd q a) (fun q => absurd q a)
  · exact c_Mo_split g1.2.1 h10 g2.2.1 h20 (fun q => absurd a q) (fun _ _ => hK2 _ h) (fun _ q => absurd q b) (fun _ q => absurd q b)
  · exact c_Mo_split g1.2.1 h10 g2.2.1 h20 (fun q => absurd a q) (fun _ q => absurd b q) (fun _ _ _ => hK2 _ h) (fun _ _ q => absurd q (by omega))
  · refine c_Mo_split (ns := ns) (n := n) g1.2.1 h10 g2.2.1 h20 (fun q => absurd a q) (fun _ q => absurd b q) (fun _ _ q => absurd q (by omega)) (fun _ _ _ => hK2 _ ?_)
    have hnc : (nI ns).toNatClampNeg = ns := nI_clamp (by omega)
    have e0 : ∀ f, f ≠ 1 → f ≠ 13 → f ≠ 14 → f ≠ 17 → f ≠ 48 → f ≠ 51 → f ≠ 52 → f ≠ 56 → mMv (zu (zu (zu (cSp μ ns n s x y w) 51 0 ns x) 52 0 ns y) 48 0 0 (nI (ns + 1))) s (nI ns) w n f = μ f := fun f q1 q2 q3 q4 q5 q6 q7 q8 => by
      funext a b
      unfold mMv cSp
      rw [if_neg (fun z => q8 z.1), zu_ne (fun z => q5 z.1), zu_ne (fun z => q7 z.1), zu_ne (fun z => q6 z.1), cMv_o q4, zu_ne (fun z => q1 z.1), zu_ne (fun z => q3 z.1), zu_ne (fun z => q2 z.1)]
    have e48 : ∀ k, k ≠ 0 → mMv (zu (zu (zu (cSp μ ns n s x y w) 51 0 ns x) 52 0 ns y) 48 0 0 (nI (ns + 1))) s (nI ns) w n 48 0 k = μ 48 0 k := fun k hk => by
      unfold mMv cSp
      rw [if_neg (by omega), zu_ne (by omega), zu_ne (by omega), zu_ne (by omega), cMv_o (by decide), zu_ne (by omega), zu_ne (by omega), zu_ne (by omega)]
    have e1 : mMv (zu (zu (zu (cSp μ ns n s x y w) 51 0 ns x) 52 0 ns y) 48 0 0 (nI (ns + 1))) s (nI ns) w n 1 0 1 = μ 1 0 1 := by
      unfold mMv cSp
      rw [if_neg (by omega), zu_ne (by omega), zu_ne (by omega), zu_ne (by omega), cMv_o (by decide), zu_ne (by omega), zu_ne (by omega), zu_ne (by omega)]
    have e10 : mMv (zu (zu (zu (cSp μ ns n s x y w) 51 0 ns x) 52 0 ns y) 48 0 0 (nI (ns + 1))) s (nI ns) w n 1 0 0 = nI (ns + 1) := by
      unfold mMv cSp
      rw [if_neg (by omega), zu_ne (by omega), zu_ne (by omega), zu_ne (by omega), cMv_o (show (1 : Nat) ≠ 17 by omega), zu_eq]
    have e480 : mMv (zu (zu (zu (cSp μ ns n s x y w) 51 0 ns x) 52 0 ns y) 48 0 0 (nI (ns + 1))) s (nI ns) w n 48 0 0 = nI (ns + 1) := by
      unfold mMv
      rw [if_neg (by omega), zu_eq]
    have e13 : ∀ k, mMv (zu (zu (zu (cSp μ ns n s x y w) 51 0 ns x) 52 0 ns y) 48 0 0 (nI (ns + 1))) s (nI ns) w n 13 0 k = if k = ns then x else μ 13 0 k := fun k => by
      unfold mMv cSp
      rw [if_neg (by omega), zu_ne (by omega), zu_ne (by omega), zu_ne (by omega), cMv_o (by decide), zu_ne (by omega), zu_ne (by omega)]
      by_cases e : k = ns
      · rw [if_pos e, e, zu_eq]
      · rw [if_neg e, zu_ne (fun z => e z.2.1)]
    have e14 : ∀ k, mMv (zu (zu (zu (cSp μ ns n s x y w) 51 0 ns x) 52 0 ns y) 48 0 0 (nI (ns + 1))) s (nI ns) w n 14 0 k = if k = ns then y else μ 14 0 k := fun k => by
      unfold mMv cSp
      rw [if_neg (by omega), zu_ne (by omega), zu_ne (by omega), zu_ne (by omega), cMv_o (by decide), zu_ne (by omega)]
      by_cases e : k = ns
      · rw [if_pos e, e, zu_eq]
      · rw [if_neg e, zu_ne (fun z => e z.2.1), zu_ne (by omega)]
    have e51 : ∀ k, mMv (zu (zu (zu (cSp μ ns n s x y w) 51 0 ns x) 52 0 ns y) 48 0 0 (nI (ns + 1))) s (nI ns) w n 51 0 k = if k = ns then x else μ 51 0 k := fun k => by
      unfold mMv cSp
      rw [if_neg (by omega), zu_ne (by omega), zu_ne (by omega)]
      by_cases e : k = ns
      · rw [if_pos e, e, zu_eq]
      · rw [if_neg e, zu_ne (fun z => e z.2.1), cMv_o (by decide), zu_ne (by omega), zu_ne (by omega), zu_ne (by omega)]
    have e52 : ∀ k, mMv (zu (zu (zu (cSp μ ns n s x y w) 51 0 ns x) 52 0 ns y) 48 0 0 (nI (ns + 1))) s (nI ns) w n 52 0 k = if k = ns then y else μ 52 0 k := fun k => by
      unfold mMv cSp
      rw [if_neg (by omega), zu_ne (by omega)]
      by_cases e : k = ns
      · rw [if_pos e, e, zu_eq]
      · rw [if_neg e, zu_ne (fun z => e z.2.1), zu_ne (by omega), cMv_o (by decide), zu_ne (by omega), zu_ne (by omega), zu_ne (by omega)]
    have e56 : ∀ p, p < n → mMv (zu (zu (zu (cSp μ ns n s x y w) 51 0 ns x) 52 0 ns y) 48 0 0 (nI (ns + 1))) s (nI ns) w n 56 0 p = if zbe w (nI p) ∧ μ 56 0 p = s then nI ns else μ 56 0 p := fun p hp => by
      have e : zu (zu (zu (cSp μ ns n s x y w) 51 0 ns x) 52 0 ns y) 48 0 0 (nI (ns + 1)) 56 0 p = μ 56 0 p := by
        unfold cSp
        rw [zu_ne (by omega), zu_ne (by omega), zu_ne (by omega), cMv_o (by decide), zu_ne (by omega), zu_ne (by omega), zu_ne (by omega)]
      unfold mMv
      rw [e]
      by_cases q : zbe w (nI p) ∧ μ 56 0 p = s
      · rw [if_pos ⟨rfl, rfl, hp, q⟩, if_pos q]
      · rw [if_neg (fun z => q z.2.2.2), if_neg q]
    have e17 : ∀ p k, p < n → mMv (zu (zu (zu (cSp μ ns n s x y w) 51 0 ns x) 52 0 ns y) 48 0 0 (nI (ns + 1))) s (nI ns) w n 17 p k = if (zbe w (nI p) ∧ μ 17 p 5 = s) ∧ (k = 5 ∨ k = 2 ∨ k = 6) then (if k = 5 then nI ns else if k = 2 then x else y) else μ 17 p k := fun p k hp => by
      have f13 : zu (zu (zu μ 13 0 ns x) 14 0 ns y) 1 0 0 (nI (ns + 1)) 13 0 ns = x := by
        rw [zu_ne (by omega), zu_ne (by omega), zu_eq]
      have f14 : zu (zu (zu μ 13 0 ns x) 14 0 ns y) 1 0 0 (nI (ns + 1)) 14 0 ns = y := by
        rw [zu_ne (by omega), zu_eq]
      have f17 : ∀ a b, zu (zu (zu μ 13 0 ns x) 14 0 ns y) 1 0 0 (nI (ns + 1)) 17 a b = μ 17 a b := fun a b => rfl
      unfold mMv cSp
      rw [if_neg (by omega), zu_ne (by omega), zu_ne (by omega), zu_ne (by omega)]
      unfold cMv
      rw [hnc, f13, f14, f17, f17]
      by_cases q : (zbe w (nI p) ∧ μ 17 p 5 = s) ∧ (k = 5 ∨ k = 2 ∨ k = 6)
      · rw [if_pos ⟨rfl, hp, q.1.1, q.1.2, q.2⟩, if_pos q]
      · rw [if_neg (fun z => q ⟨⟨z.2.2.1, z.2.2.2.1⟩, z.2.2.2.2⟩), if_neg q]
    generalize mMv (zu (zu (zu (cSp μ ns n s x y w) 51 0 ns x) 52 0 ns y) 48 0 0 (nI (ns + 1))) s (nI ns) w n = M at *
    have ef : ∀ l : List Nat, l.all (fun f => !([1, 13, 14, 17, 48, 51, 52, 56] : List Nat).contains f) = true → ∀ f, f ∈ l → M f = μ f := fun l hl f hf => by
      have := List.all_eq_true.mp hl f hf
      simp at this
      exact e0 f this.1 this.2.1 this.2.2.1 this.2.2.2.1 this.2.2.2.2.1 this.2.2.2.2.2.1 this.2.2.2.2.2.2.1 this.2.2.2.2.2.2.2
    refine ⟨ns + 1, n, nr, nh, nt, nb, L, ⟨e10, e480, by omega, fun k hk => ?_⟩, ⟨e1.trans g2.1, (e48 5 (by omega)).trans g2.2.1, h20, fun p hp => ?_⟩, gTp_fr (ef _ rfl) (by rw [ef [2] rfl 2 (by simp)]) (e48 14 (by omega)) g3, gRu_fr (ef _ rfl) (e48 15 (by omega)) g4, gHd_fr (ef _ rfl) (e48 33 (by omega)) g5, gTb_fr (ef _ rfl) (e48 42 (by omega)) g6, gFe_fr (ef _ rfl) g7, gCo_fr (ef _ rfl) g8, gVs_fr (ef _ rfl) (e48 48 (by omega)) g9, gWi_fr (ef [7] rfl 7 (by simp)) (e48 52 (by omega)) g10, gCs_fr (ef _ rfl) g11⟩
    · rw [e51, e13, e52, e14]
      by_cases e : k = ns
      · rw [if_pos e, if_pos e, if_pos e, if_pos e]
        exact ⟨rfl, rfl, vp_8 b.1.2.2⟩
      · rw [if_neg e, if_neg e, if_neg e, if_neg e]
        exact g1.2.2.2 k (by omega)
    · obtain ⟨a1, a2, a3, a4, a5, a6, a7, a8, a9, ⟨s0, hs0, b1, b2, b3⟩, a11, a12, a13⟩ := g2.2.2.2 p hp
      have k0 : ∀ q k, q < n → k ≠ 5 → k ≠ 2 → k ≠ 6 → M 17 q k = μ 17 q k := fun q k hq h1 h2 h3 => by
        rw [e17 q k hq, if_neg (by omega)]
      have hqn : (μ 17 p 4 = 3 ∨ μ 17 p 4 = 4) → (μ 11 0 p).toNatClampNeg < n := fun hk => by
        obtain ⟨q, hq, hq2⟩ := a13 hk
        rw [hq2, nI_clamp (by omega)]
        omega
      have eo : ∀ q, q < n → cOwn M q = cOwn μ q := fun q hq => cOwn_cg (k0 q 4 hq (by omega) (by omega) (by omega)) (by rw [ef [15] rfl 15 (by simp)]) (by rw [ef [16] rfl 16 (by simp)])
      have er : cRank M p = cRank μ p := cRank_cg (k0 p 4 hp (by omega) (by omega) (by omega)) (by rw [ef [11] rfl 11 (by simp)]) (eo p hp) (fun hk => eo _ (hqn hk))
      have ep : cPap M p = cPap μ p := cPap_cg (k0 p 4 hp (by omega) (by omega) (by omega)) (by rw [ef [11] rfl 11 (by simp)]) (by rw [ef [16] rfl 16 (by simp)]) (fun hk => by rw [ef [16] rfl 16 (by simp)])
      unfold gP1
      rw [er, ep, ef [62] rfl 62 (by simp), ef [10] rfl 10 (by simp), ef [61] rfl 61 (by simp), ef [11] rfl 11 (by simp), ef [58] rfl 58 (by simp), ef [15] rfl 15 (by simp), ef [60] rfl 60 (by simp), ef [16] rfl 16 (by simp), ef [59] rfl 59 (by simp), ef [57] rfl 57 (by simp), k0 p 3 hp (by omega) (by omega) (by omega), k0 p 4 hp (by omega) (by omega) (by omega), k0 p 0 hp (by omega) (by omega) (by omega), k0 p 1 hp (by omega) (by omega) (by omega), e56 p hp, e17 p 5 hp, e17 p 2 hp, e17 p 6 hp, a9]
      by_cases q : zbe w (nI p) ∧ μ 17 p 5 = s
      · refine ⟨a1, a2, a3, a4, a5, a6, a7, a8, ?_, ⟨ns, by omega, ?_, ?_, ?_⟩, a11, a12, a13⟩
        · rw [if_pos q, if_pos ⟨q, by omega⟩, if_pos rfl]
        · rw [if_pos ⟨q, by omega⟩, if_pos rfl]
        · rw [if_pos ⟨q, by omega⟩, if_neg (by omega), if_pos rfl, e13, if_pos rfl]
        · rw [if_pos ⟨q, by omega⟩, if_neg (by omega), if_neg (by omega), e14, if_pos rfl]
      · refine ⟨a1, a2, a3, a4, a5, a6, a7, a8, ?_, ⟨s0, by omega, ?_, ?_, ?_⟩, a11, a12, a13⟩
        · rw [if_neg q, if_neg (fun z => q z.1)]
        · rw [if_neg (fun z => q z.1)]
          exact b1
        · rw [if_neg (fun z => q z.1), e13, if_neg (by omega)]
          exact b2
        · rw [if_neg (fun z => q z.1), e14, if_neg (by omega)]
          exact b3
