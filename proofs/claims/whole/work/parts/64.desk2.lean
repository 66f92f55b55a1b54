/-! DESK: feed -/
def mByte (w : Int64) (k : Nat) : Int32 := vp_nar .byte (w >>> ((8 * nI k).toInt64 &&& 63)).toInt32.toInt8.toInt32
theorem fd_s : ∀ k, k < 8 → ((8 * nI k).toInt64 &&& 63).toBitVec.smod 64 = BitVec.ofNat 64 (8 * k) ∧ ((8 * nI k).toInt64.toUInt64 &&& Int64.toUInt64 63).toBitVec % 64 = BitVec.ofNat 64 (8 * k) := by decide +kernel
theorem and255 (x : BitVec 32) (i : Nat) : (x &&& 255#32).getLsbD i = (x.getLsbD i && decide (i < 8)) := by
  rw [BitVec.getLsbD_and]
  congr 1
  by_cases h : i < 32
  · exact (by decide +kernel : ∀ i, i < 32 → (255#32).getLsbD i = decide (i < 8)) i h
  · rw [BitVec.getLsbD_of_ge _ _ (by omega)]
    simp
    omega
theorem fd_eq (w : Int64) {k : Nat} (hk : k < 8) : pFeed w k = mByte w k &&& 255 := by
  unfold pFeed mByte
  rw [pk_vb]
  refine Int32.toBitVec_inj.mp (BitVec.eq_of_getLsbD_eq (fun i hi => ?_))
  rw [Int32.toBitVec_and, Int32.toBitVec_and, show (255 : Int32).toBitVec = 255#32 from rfl, and255, and255]
  by_cases h8 : i < 8
  · simp only [h8, decide_true, Bool.and_true]
    obtain ⟨s1, s2⟩ := fd_s k hk
    have e1 : (w >>> ((8 * nI k).toInt64 &&& 63)).toBitVec = w.toBitVec.sshiftRight (8 * k) := by
      rw [Int64.toBitVec_shiftRight, s1]
      show w.toBitVec.sshiftRight (BitVec.ofNat 64 (8 * k)).toNat = _
      rw [BitVec.toNat_ofNat, Nat.mod_eq_of_lt (by omega)]
    have e2 : (w.toUInt64 >>> ((8 * nI k).toInt64.toUInt64 &&& Int64.toUInt64 63)).toBitVec = w.toBitVec >>> (8 * k) := by
      rw [UInt64.toBitVec_shiftRight, s2]
      show w.toBitVec >>> (BitVec.ofNat 64 (8 * k)).toNat = _
      rw [BitVec.toNat_ofNat, Nat.mod_eq_of_lt (by omega)]
    have l1 : (w.toUInt64 >>> ((8 * nI k).toInt64.toUInt64 &&& Int64.toUInt64 63)).toInt64.toInt32.toBitVec = ((w.toUInt64 >>> ((8 * nI k).toInt64.toUInt64 &&& Int64.toUInt64 63)).toBitVec).signExtend 32 := rfl
    have l2 : (w >>> ((8 * nI k).toInt64 &&& 63)).toInt32.toInt8.toInt32.toBitVec = ((((w >>> ((8 * nI k).toInt64 &&& 63)).toBitVec).signExtend 32).signExtend 8).signExtend 32 := rfl
    rw [l1, l2, e1, e2]
    simp [BitVec.getLsbD_signExtend, BitVec.getLsbD_sshiftRight]
    grind
  · simp [h8]
def mFed (μ : zMu) (n0 m : Nat) (w : Int64) (i : Nat) : zMu := fun f a b => if f = 63 ∧ a = 0 ∧ n0 ≤ b ∧ b < n0 + (m - i) then mByte w (m - 1 - (b - n0)) else if f = 48 ∧ a = 0 ∧ b = 14 then nI (n0 + (m - i)) else μ f a b
def okFd (x : Int32) : Prop := 1 ≤ x ∧ x ≤ 8
theorem okFd_of {x : Int32} (h : okFd x) : ∃ m, 1 ≤ m ∧ m ≤ 8 ∧ x = nI m := by
  obtain ⟨j, hj, rfl⟩ := nI_of2 (x := x) (M := 8) (n := 8) rfl (by unfold okFd at h; grind) h.2
  refine ⟨j, ?_, hj, rfl⟩
  rcases Nat.eq_zero_or_pos j with e | e
  · subst e
    exact absurd h.1 (by decide)
  · exact e
theorem c_Mo_feed {d n0 : Nat} {μ : zMu} {w : Int64} {x : Int32} {K : Option zV → zMu → Prop} (hn : μ 48 0 14 = nI n0) (h200 : n0 ≤ 200) (h0 : ¬ okFd x → K (some (zI (-2))) μ) (h1 : ∀ m, 1 ≤ m → m ≤ 8 → x = nI m → 200 < n0 + m → K (some (zI (-4))) μ) (h2 : ∀ m, 1 ≤ m → m ≤ 8 → x = nI m → n0 + m ≤ 200 → K (some (zI (nI (n0 + m)))) (mFed μ n0 m w 0)) : Ct (d + 1) m_Mo_feed [zR 48 0, zL w, zI x] μ K := by
  refine zmeet rfl (Nat.le_of_ble_eq_true rfl) (fun S => ?_)
  by_cases hx : okFd x
  case neg =>
    have hk := h0 hx
    repeat' (first
      | refine c_Mo_isIn (lo := 1) (hi := 8) rfl rfl (fun hb => absurd hb hx) (fun hb => ?_)
      | exact hk
      | refine zs k_Mo_feed rfl ?_
      | refine ⟨Nat.zero_lt_one, rfl, ?_⟩
      | refine ⟨rfl, ?_⟩
      | refine ⟨⟨Nat.zero_lt_one, rfl⟩, Nat.le_of_ble_eq_true rfl, ?_⟩
      | refine ⟨Nat.le_of_ble_eq_true rfl, Nat.le_of_ble_eq_true rfl, ?_⟩
      | refine ⟨(by first | exact Nat.zero_lt_one | assumption | omega), (by first | assumption | exact vp_in_nI (by omega) (by omega) | (unfold vp_in; decide)), ?_⟩
      | refine ⟨(by first | exact Nat.zero_lt_one | assumption | omega), rfl, ?_⟩
      | refine ⟨⟨(by first | exact Nat.zero_lt_one | assumption | omega), rfl⟩, Nat.le_of_ble_eq_true rfl, ?_⟩
      | refine ⟨(by first | exact Nat.zero_lt_one | assumption | omega), ?_⟩
      | refine ⟨Or.inl rfl, ?_⟩
      | refine ⟨Or.inr (Or.inl rfl), ?_⟩
      | refine ⟨Or.inr (Or.inr rfl), ?_⟩
      | refine ⟨Or.inr ⟨rfl, (by first | exact Or.inl rfl | exact Or.inr rfl | assumption)⟩, ?_⟩
      | refine ⟨fun h => absurd h (by decide), fun _ => ?_⟩
      | refine ⟨fun _ => ?_, fun h => absurd h (by decide)⟩
      | refine ⟨fun h => ?_, fun h => ?_⟩
      | fail)
  case pos =>
    obtain ⟨m, hm1, hm8, rfl⟩ := okFd_of hx
    by_cases hf : n0 + m ≤ 200
    case neg =>
      have hk := h1 m hm1 hm8 rfl (by omega)
      have hle : ¬ μ 48 0 14 + nI m ≤ 200 := by rw [hn, nI_add]; exact nI_ge (a := 200) (by omega) (by omega)
      repeat' (first
        | refine c_Mo_isIn (lo := 1) (hi := 8) rfl rfl (fun hb => ?_) (fun hb => absurd hx hb)
        | refine br_f hle ?_
        | exact hk
        | refine zs k_Mo_feed rfl ?_
        | refine ⟨Nat.zero_lt_one, rfl, ?_⟩
        | refine ⟨rfl, ?_⟩
        | refine ⟨⟨Nat.zero_lt_one, rfl⟩, Nat.le_of_ble_eq_true rfl, ?_⟩
        | refine ⟨Nat.le_of_ble_eq_true rfl, Nat.le_of_ble_eq_true rfl, ?_⟩
        | refine ⟨(by first | exact Nat.zero_lt_one | assumption | omega), (by first | assumption | exact vp_in_nI (by omega) (by omega) | (unfold vp_in; decide)), ?_⟩
        | refine ⟨(by first | exact Nat.zero_lt_one | assumption | omega), rfl, ?_⟩
        | refine ⟨⟨(by first | exact Nat.zero_lt_one | assumption | omega), rfl⟩, Nat.le_of_ble_eq_true rfl, ?_⟩
        | refine ⟨(by first | exact Nat.zero_lt_one | assumption | omega), ?_⟩
        | refine ⟨Or.inl rfl, ?_⟩
        | refine ⟨Or.inr (Or.inl rfl), ?_⟩
        | refine ⟨Or.inr (Or.inr rfl), ?_⟩
        | refine ⟨Or.inr ⟨rfl, (by first | exact Or.inl rfl | exact Or.inr rfl | assumption)⟩, ?_⟩
        | refine ⟨fun h => absurd h (by decide), fun _ => ?_⟩
        | refine ⟨fun _ => ?_, fun h => absurd h (by decide)⟩
        | refine ⟨fun h => ?_, fun h => ?_⟩
        | fail)
    case pos =>
      have hk := h2 m hm1 hm8 rfl hf
      have hle : μ 48 0 14 + nI m ≤ 200 := by rw [hn, nI_add]; exact nI_le (b := 200) hf (by omega)
      have L : ∀ (i : Nat) (v : Int32) (μ1 : zMu), i ≤ m → v = nI i - 1 → μ1 = mFed μ n0 m w i → zG S (d + 1) m_Mo_feed K 35 [some (zR 48 0), some (zL w), none, some (zI (nI m)), some (zI v)] [] μ1 := by
        intro i
        induction i with
        | zero =>
          intro v μ1 hi hv h1
          subst hv h1
          refine zs k_Mo_feed rfl ?_
          repeat' (first
            | refine br_t (by decide) ?_
            | refine zKe hk ?_ rfl
            | refine zs k_Mo_feed rfl ?_
            | refine ⟨Nat.zero_lt_one, rfl, ?_⟩
            | refine ⟨rfl, ?_⟩
            | refine ⟨⟨Nat.zero_lt_one, rfl⟩, Nat.le_of_ble_eq_true rfl, ?_⟩
            | refine ⟨Nat.le_of_ble_eq_true rfl, Nat.le_of_ble_eq_true rfl, ?_⟩
            | refine ⟨(by first | exact Nat.zero_lt_one | assumption | omega), (by first | assumption | exact vp_in_nI (by omega) (by omega) | (unfold vp_in; decide)), ?_⟩
            | refine ⟨(by first | exact Nat.zero_lt_one | assumption | omega), rfl, ?_⟩
            | refine ⟨⟨(by first | exact Nat.zero_lt_one | assumption | omega), rfl⟩, Nat.le_of_ble_eq_true rfl, ?_⟩
            | refine ⟨(by first | exact Nat.zero_lt_one | assumption | omega), ?_⟩
            | refine ⟨Or.inl rfl, ?_⟩
            | refine ⟨Or.inr (Or.inl rfl), ?_⟩
            | refine ⟨Or.inr (Or.inr rfl), ?_⟩
            | refine ⟨Or.inr ⟨rfl, (by first | exact Or.inl rfl | exact Or.inr rfl | assumption)⟩, ?_⟩
            | refine ⟨fun h => absurd h (by decide), fun _ => ?_⟩
            | refine ⟨fun _ => ?_, fun h => absurd h (by decide)⟩
            | refine ⟨fun h => ?_, fun h => ?_⟩
            | fail)
          show (if (48 = 63 ∧ _) then _ else if (48 = 48 ∧ 0 = 0 ∧ 14 = 14) then nI (n0 + (m - 0)) else _) = _
          rw [if_neg (by omega), if_pos (by omega)]
          rfl
        | succ i ih =>
          intro v μ1 hi hv h1
          subst hv
          rw [nI_pred]
          have hl : μ1 48 0 14 = nI (n0 + (m - (i + 1))) := by
            rw [h1]
            show (if (48 = 63 ∧ _) then _ else if (48 = 48 ∧ 0 = 0 ∧ 14 = 14) then nI (n0 + (m - (i + 1))) else _) = _
            rw [if_neg (by omega), if_pos (by omega)]
          have hvp : vp_in (μ1 48 0 14) 200 := by rw [hl]; exact vp_in_nI (by omega) (by omega)
          have hcl : (μ1 48 0 14).toNatClampNeg = n0 + (m - (i + 1)) := by rw [hl]; exact nI_clamp (by omega)
          refine zs k_Mo_feed rfl ?_
          repeat' (first
            | refine br_f (nI_pos (by omega)) ?_
            | refine ih _ _ (by omega) (by exact i32_m1 _) ?_
            | refine zs k_Mo_feed rfl ?_
            | refine ⟨Nat.zero_lt_one, rfl, ?_⟩
            | refine ⟨rfl, ?_⟩
            | refine ⟨⟨Nat.zero_lt_one, rfl⟩, Nat.le_of_ble_eq_true rfl, ?_⟩
            | refine ⟨Nat.le_of_ble_eq_true rfl, Nat.le_of_ble_eq_true rfl, ?_⟩
            | refine ⟨(by first | exact Nat.zero_lt_one | assumption | omega), (by first | assumption | exact vp_in_nI (by omega) (by omega) | (unfold vp_in; decide)), ?_⟩
            | refine ⟨(by first | exact Nat.zero_lt_one | assumption | omega), rfl, ?_⟩
            | refine ⟨⟨(by first | exact Nat.zero_lt_one | assumption | omega), rfl⟩, Nat.le_of_ble_eq_true rfl, ?_⟩
            | refine ⟨(by first | exact Nat.zero_lt_one | assumption | omega), ?_⟩
            | refine ⟨Or.inl rfl, ?_⟩
            | refine ⟨Or.inr (Or.inl rfl), ?_⟩
            | refine ⟨Or.inr (Or.inr rfl), ?_⟩
            | refine ⟨Or.inr ⟨rfl, (by first | exact Or.inl rfl | exact Or.inr rfl | assumption)⟩, ?_⟩
            | refine ⟨fun h => absurd h (by decide), fun _ => ?_⟩
            | refine ⟨fun _ => ?_, fun h => absurd h (by decide)⟩
            | refine ⟨fun h => ?_, fun h => ?_⟩
            | fail)
          rw [hcl]
          have e1 : zu μ1 63 0 (n0 + (m - (i + 1))) (mByte w i) 48 0 14 = nI (n0 + (m - (i + 1))) := hl
          show zu (zu μ1 63 0 (n0 + (m - (i + 1))) (mByte w i)) 48 0 14 (zu μ1 63 0 (n0 + (m - (i + 1))) (mByte w i) 48 0 14 + 1) = _
          rw [e1, nI_1, h1]
          funext f a b
          simp only [mFed, zu]
          have e2 : n0 + (m - (i + 1)) + 1 = n0 + (m - i) := by omega
          rw [e2]
          by_cases hb : f = 63 ∧ b = n0 + (m - (i + 1)) ∧ a = 0
          · obtain ⟨rfl, rfl, rfl⟩ := hb
            rw [if_neg (by omega), if_pos (by omega), if_pos (by omega)]
            congr 1
            omega
          · by_cases hb2 : f = 48 ∧ b = 14 ∧ a = 0
            · obtain ⟨rfl, rfl, rfl⟩ := hb2
              rw [if_pos (by omega), if_neg (by omega), if_pos (by omega)]
            · rw [if_neg hb2, if_neg hb]
              by_cases h3 : f = 63 ∧ a = 0 ∧ n0 ≤ b ∧ b < n0 + (m - (i + 1))
              · rw [if_pos h3, if_pos (by omega)]
              · rw [if_neg h3, if_neg (by omega), if_neg (by omega), if_neg (by omega)]
      have h00 : μ = mFed μ n0 m w m := by
        funext f a b
        simp only [mFed]
        grind
      repeat' (first
        | refine c_Mo_isIn (lo := 1) (hi := 8) rfl rfl (fun hb => ?_) (fun hb => absurd hx hb)
        | refine br_t hle ?_
        | exact L m _ _ (Nat.le_refl m) rfl h00
        | refine zs k_Mo_feed rfl ?_
        | refine ⟨Nat.zero_lt_one, rfl, ?_⟩
        | refine ⟨rfl, ?_⟩
        | refine ⟨⟨Nat.zero_lt_one, rfl⟩, Nat.le_of_ble_eq_true rfl, ?_⟩
        | refine ⟨Nat.le_of_ble_eq_true rfl, Nat.le_of_ble_eq_true rfl, ?_⟩
        | refine ⟨(by first | exact Nat.zero_lt_one | assumption | omega), (by first | assumption | exact vp_in_nI (by omega) (by omega) | (unfold vp_in; decide)), ?_⟩
        | refine ⟨(by first | exact Nat.zero_lt_one | assumption | omega), rfl, ?_⟩
        | refine ⟨⟨(by first | exact Nat.zero_lt_one | assumption | omega), rfl⟩, Nat.le_of_ble_eq_true rfl, ?_⟩
        | refine ⟨(by first | exact Nat.zero_lt_one | assumption | omega), ?_⟩
        | refine ⟨Or.inl rfl, ?_⟩
        | refine ⟨Or.inr (Or.inl rfl), ?_⟩
        | refine ⟨Or.inr (Or.inr rfl), ?_⟩
        | refine ⟨Or.inr ⟨rfl, (by first | exact Or.inl rfl | exact Or.inr rfl | assumption)⟩, ?_⟩
        | refine ⟨fun h => absurd h (by decide), fun _ => ?_⟩
        | refine ⟨fun _ => ?_, fun h => absurd h (by decide)⟩
        | refine ⟨fun h => ?_, fun h => ?_⟩
        | fail)
theorem c_De_feed {d n0 : Nat} {μ : zMu} {w : Int64} {x : Int32} {K : Option zV → zMu → Prop} (hn : μ 2 0 0 = nI n0) (h200 : n0 ≤ 200) (h0 : ¬ okFd x → K (some (zI (-2))) μ) (h1 : ∀ m, 1 ≤ m → m ≤ 8 → x = nI m → 200 < n0 + m → K (some (zI (-4))) μ) (h2 : ∀ m, 1 ≤ m → m ≤ 8 → x = nI m → n0 + m ≤ 200 → K (some (zI (nI (n0 + m)))) (cFed μ n0 m w 0)) : Ct (d + 1) m_De_feed [zR 0 0, zL w, zI x] μ K := by
  refine zmeet rfl (Nat.le_of_ble_eq_true rfl) (fun S => ?_)
  by_cases hx : okFd x
  case neg =>
    have hk := h0 hx
    unfold okFd at hx
    repeat' (first
      | exact hk
      | exact absurd (by grind) hx
      | refine zs k_De_feed rfl ?_
      | refine ⟨Nat.zero_lt_one, rfl, ?_⟩
      | refine ⟨rfl, ?_⟩
      | refine ⟨⟨Nat.zero_lt_one, rfl⟩, Nat.le_of_ble_eq_true rfl, ?_⟩
      | refine ⟨Nat.le_of_ble_eq_true rfl, Nat.le_of_ble_eq_true rfl, ?_⟩
      | refine ⟨(by first | exact Nat.zero_lt_one | assumption | omega), (by first | assumption | exact vp_in_nI (by omega) (by omega) | (unfold vp_in; decide)), ?_⟩
      | refine ⟨(by first | exact Nat.zero_lt_one | assumption | omega), rfl, ?_⟩
      | refine ⟨⟨(by first | exact Nat.zero_lt_one | assumption | omega), rfl⟩, Nat.le_of_ble_eq_true rfl, ?_⟩
      | refine ⟨(by first | exact Nat.zero_lt_one | assumption | omega), ?_⟩
      | refine ⟨Or.inl rfl, ?_⟩
      | refine ⟨Or.inr (Or.inl rfl), ?_⟩
      | refine ⟨Or.inr (Or.inr rfl), ?_⟩
      | refine ⟨Or.inr ⟨rfl, (by first | exact Or.inl rfl | exact Or.inr rfl | assumption)⟩, ?_⟩
      | refine ⟨fun h => absurd h (by decide), fun _ => ?_⟩
      | refine ⟨fun _ => ?_, fun h => absurd h (by decide)⟩
      | refine ⟨fun h => ?_, fun h => ?_⟩
      | fail)
  case pos =>
    obtain ⟨m, hm1, hm8, rfl⟩ := okFd_of hx
    have x1 : ¬ nI m < 1 := nI_nlt (b := 1) hm1 (by omega)
    have x2 : nI m ≤ 8 := nI_le (b := 8) hm8 (by omega)
    by_cases hf : n0 + m ≤ 200
    case neg =>
      have hk := h1 m hm1 hm8 rfl (by omega)
      have hle : 200 < μ 2 0 0 + nI m := by rw [hn, nI_add]; exact nI_lt (a := 200) (by omega) (by omega)
      repeat' (first
        | refine br_f x1 ?_
        | refine br_t x2 ?_
        | refine br_t hle ?_
        | exact hk
        | refine zs k_De_feed rfl ?_
        | refine ⟨Nat.zero_lt_one, rfl, ?_⟩
        | refine ⟨rfl, ?_⟩
        | refine ⟨⟨Nat.zero_lt_one, rfl⟩, Nat.le_of_ble_eq_true rfl, ?_⟩
        | refine ⟨Nat.le_of_ble_eq_true rfl, Nat.le_of_ble_eq_true rfl, ?_⟩
        | refine ⟨(by first | exact Nat.zero_lt_one | assumption | omega), (by first | assumption | exact vp_in_nI (by omega) (by omega) | (unfold vp_in; decide)), ?_⟩
        | refine ⟨(by first | exact Nat.zero_lt_one | assumption | omega), rfl, ?_⟩
        | refine ⟨⟨(by first | exact Nat.zero_lt_one | assumption | omega), rfl⟩, Nat.le_of_ble_eq_true rfl, ?_⟩
        | refine ⟨(by first | exact Nat.zero_lt_one | assumption | omega), ?_⟩
        | refine ⟨Or.inl rfl, ?_⟩
        | refine ⟨Or.inr (Or.inl rfl), ?_⟩
        | refine ⟨Or.inr (Or.inr rfl), ?_⟩
        | refine ⟨Or.inr ⟨rfl, (by first | exact Or.inl rfl | exact Or.inr rfl | assumption)⟩, ?_⟩
        | refine ⟨fun h => absurd h (by decide), fun _ => ?_⟩
        | refine ⟨fun _ => ?_, fun h => absurd h (by decide)⟩
        | refine ⟨fun h => ?_, fun h => ?_⟩
        | fail)
    case pos =>
      have hk := h2 m hm1 hm8 rfl hf
      have hle : ¬ 200 < μ 2 0 0 + nI m := by rw [hn, nI_add]; exact nI_nlt (a := 200) hf (by omega)
      repeat' (first
        | refine br_f x1 ?_
        | refine br_t x2 ?_
        | refine br_f hle ?_
        | refine c_Tp_append rfl hn hf ?_
        | exact hk
        | refine zs k_De_feed rfl ?_
        | refine ⟨Nat.zero_lt_one, rfl, ?_⟩
        | refine ⟨rfl, ?_⟩
        | refine ⟨⟨Nat.zero_lt_one, rfl⟩, Nat.le_of_ble_eq_true rfl, ?_⟩
        | refine ⟨Nat.le_of_ble_eq_true rfl, Nat.le_of_ble_eq_true rfl, ?_⟩
        | refine ⟨(by first | exact Nat.zero_lt_one | assumption | omega), (by first | assumption | exact vp_in_nI (by omega) (by omega) | (unfold vp_in; decide)), ?_⟩
        | refine ⟨(by first | exact Nat.zero_lt_one | assumption | omega), rfl, ?_⟩
        | refine ⟨⟨(by first | exact Nat.zero_lt_one | assumption | omega), rfl⟩, Nat.le_of_ble_eq_true rfl, ?_⟩
        | refine ⟨(by first | exact Nat.zero_lt_one | assumption | omega), ?_⟩
        | refine ⟨Or.inl rfl, ?_⟩
        | refine ⟨Or.inr (Or.inl rfl), ?_⟩
        | refine ⟨Or.inr (Or.inr rfl), ?_⟩
        | refine ⟨Or.inr ⟨rfl, (by first | exact Or.inl rfl | exact Or.inr rfl | assumption)⟩, ?_⟩
        | refine ⟨fun h => absurd h (by decide), fun _ => ?_⟩
        | refine ⟨fun _ => ?_, fun h => absurd h (by decide)⟩
        | refine ⟨fun h => ?_, fun h => ?_⟩
        | fail)
theorem b_feed {μ : zMu} {w : Int64} {x : Int32} (h : Rel μ) : Both m_De_feed m_Mo_feed [zL w, zI x] μ := by
  intro d K hK
  obtain ⟨ns, n, nr, nh, nt, nb, L, g1, g2, g3, g4, g5, g6, g7, g8, g9, g10, g11⟩ := id h
  refine c_De_feed g3.1 g3.2.2.1 (fun hb => hK _ _ (fun d K2 hK2 => ?_)) (fun m a1 a2 a3 hf => hK _ _ (fun d K2 hK2 => ?_)) (fun m a1 a2 a3 hf => hK _ _ (fun d K2 hK2 => ?_))
  · exact c_Mo_feed g3.2.1 g3.2.2.1 (fun _ => hK2 _ h) (fun m a1 a2 a3 => absurd (by rw [a3]; exact ⟨nI_le (a := 1) a1 (by omega), nI_le (b := 8) a2 (by omega)⟩) hb) (fun m a1 a2 a3 => absurd (by rw [a3]; exact ⟨nI_le (a := 1) a1 (by omega), nI_le (b := 8) a2 (by omega)⟩) hb)
  · subst a3
    refine c_Mo_feed g3.2.1 g3.2.2.1 (fun q => absurd ⟨nI_le (a := 1) a1 (by omega), nI_le (b := 8) a2 (by omega)⟩ q) (fun _ _ _ _ _ => hK2 _ h) (fun m' b1 b2 b3 q => ?_)
    have := (nI_eq (by omega) (by omega)).mp b3
    omega
  · subst a3
    refine c_Mo_feed (n0 := nb) g3.2.1 g3.2.2.1 (fun q => absurd ⟨nI_le (a := 1) a1 (by omega), nI_le (b := 8) a2 (by omega)⟩ q) (fun m' b1 b2 b3 q => ?_) (fun m' b1 b2 b3 q => ?_)
    · have := (nI_eq (by omega) (by omega)).mp b3
      omega
    · obtain rfl := (nI_eq (by omega) (by omega)).mp b3
      refine hK2 _ ⟨ns, n, nr, nh, nt, nb + m, L, g1, g2, ⟨?_, ?_, hf, fun j hj => ?_⟩, g4, g5, g6, g7, g8, g9, g10, g11⟩
      · rfl
      · rfl
      · show (if 18 = 18 ∧ 0 = 0 ∧ nb ≤ j ∧ j < nb + (m - 0) then pFeed w (m - 1 - (j - nb)) else μ 18 0 j) = (if 63 = 63 ∧ 0 = 0 ∧ nb ≤ j ∧ j < nb + (m - 0) then mByte w (m - 1 - (j - nb)) else μ 63 0 j) &&& 255
        rcases Nat.lt_or_ge j nb with q1 | q1
        · rw [if_neg (by omega), if_neg (by omega)]
          exact g3.2.2.2 j q1
        · rw [if_pos (by omega), if_pos (by omega)]
          exact fd_eq w (by omega)
