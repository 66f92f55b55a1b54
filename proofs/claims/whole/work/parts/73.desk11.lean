/-! DESK: feud, talk -/
abbrev okI (n : Nat) (x : Int32) : Prop := 0 ≤ x ∧ x < nI n
theorem c_De_feud {d ns : Nat} {μ : zMu} {x y z : Int32} {K : Option zV → zMu → Prop} (hs : μ 1 0 0 = nI ns) (h10 : ns ≤ 10) (h0 : ¬ (okI ns x ∧ okI ns y) → K (some (zI (-1))) μ) (h1 : okI ns x ∧ okI ns y → ¬ (¬ x = y ∧ (z = 0 ∨ z = 1)) → K (some (zI (-2))) μ) (h2 : ∀ a b, a < ns → b < ns → x = nI a → y = nI b → a ≠ b → (z = 0 ∨ z = 1) → K (some (zI (μ 36 a b))) (zu (zu μ 36 a b z) 36 b a z)) : Ct (d + 1) m_De_feud [zR 0 0, zI x, zI y, zI z] μ K := by
  refine zmeet rfl (Nat.le_of_ble_eq_true rfl) (fun S => ?_)
  by_cases ho : okI ns x ∧ okI ns y
  case neg =>
    have hk := h0 ho
    unfold okI at ho
    rw [← hs] at ho
    repeat' (first
      | refine c_Ro_hasState (fun q1 q2 => ?_) (fun q => ?_)
      | exact hk
      | (refine zs k_De_feud rfl ?_; conv => whnf)
      | refine ⟨Nat.zero_lt_one, rfl, ?_⟩
      | refine ⟨rfl, ?_⟩
      | refine ⟨⟨Nat.zero_lt_one, rfl⟩, Nat.le_of_ble_eq_true rfl, ?_⟩
      | refine ⟨Nat.le_of_ble_eq_true rfl, Nat.le_of_ble_eq_true rfl, ?_⟩
      | refine ⟨(by first | exact Nat.zero_lt_one | assumption | omega), (by first | assumption | exact vp_in_nI (by omega) (by omega) | (unfold vp_in; decide)), ?_⟩
      | refine ⟨(by first | exact Nat.zero_lt_one | assumption | omega), rfl, ?_⟩
      | refine ⟨⟨(by first | exact Nat.zero_lt_one | assumption | omega), rfl⟩, Nat.le_of_ble_eq_true rfl, ?_⟩
      | refine ⟨(by first | exact Nat.zero_lt_one | assumption | omega), ?_⟩
      | refine ⟨Or.inl rfl, ?_⟩
      | refine ⟨Or.inr (Or.inl rfl), ?_⟩
      | refine ⟨Or.inr (Or.inr rfl), ?_⟩
      | refine ⟨Or.inr ⟨rfl, (by first | exact Or.inl rfl | exact Or.inr rfl | assumption)⟩, ?_⟩
      | refine ⟨fun h => absurd h (by decide), fun _ => ?_⟩
      | refine ⟨fun _ => ?_, fun h => absurd h (by decide)⟩
      | refine ⟨fun h => ?_, fun h => ?_⟩
      | exact absurd (by grind) ho
      | fail)
  have hx : 0 ≤ x ∧ x < μ 1 0 0 := by rw [hs]; exact ho.1
  have hy : 0 ≤ y ∧ y < μ 1 0 0 := by rw [hs]; exact ho.2
  by_cases hz : ¬ x = y ∧ (z = 0 ∨ z = 1)
  case neg =>
    have hk := h1 ho hz
    repeat' (first
      | refine c_Ro_hasState (fun q1 q2 => ?_) (fun q => absurd hx q)
      | refine c_Ro_hasState (fun q1 q2 => ?_) (fun q => absurd hy q)
      | exact hk
      | (refine zs k_De_feud rfl ?_; conv => whnf)
      | refine ⟨Nat.zero_lt_one, rfl, ?_⟩
      | refine ⟨rfl, ?_⟩
      | refine ⟨⟨Nat.zero_lt_one, rfl⟩, Nat.le_of_ble_eq_true rfl, ?_⟩
      | refine ⟨Nat.le_of_ble_eq_true rfl, Nat.le_of_ble_eq_true rfl, ?_⟩
      | refine ⟨(by first | exact Nat.zero_lt_one | assumption | omega), (by first | assumption | exact vp_in_nI (by omega) (by omega) | (unfold vp_in; decide)), ?_⟩
      | refine ⟨(by first | exact Nat.zero_lt_one | assumption | omega), rfl, ?_⟩
      | refine ⟨⟨(by first | exact Nat.zero_lt_one | assumption | omega), rfl⟩, Nat.le_of_ble_eq_true rfl, ?_⟩
      | refine ⟨(by first | exact Nat.zero_lt_one | assumption | omega), ?_⟩
      | refine ⟨Or.inl rfl, ?_⟩
      | refine ⟨Or.inr (Or.inl rfl), ?_⟩
      | refine ⟨Or.inr (Or.inr rfl), ?_⟩
      | refine ⟨Or.inr ⟨rfl, (by first | exact Or.inl rfl | exact Or.inr rfl | assumption)⟩, ?_⟩
      | refine ⟨fun h => absurd h (by decide), fun _ => ?_⟩
      | refine ⟨fun _ => ?_, fun h => absurd h (by decide)⟩
      | refine ⟨fun h => ?_, fun h => ?_⟩
      | exact absurd (by grind) hz
      | fail)
  rcases zIx x (n := ns) (by omega) with ⟨a, ha, rfl⟩ | q
  case inr => exact absurd ho.1 q
  rcases zIx y (n := ns) (by omega) with ⟨b, hb, rfl⟩ | q
  case inr => exact absurd ho.2 q
  have hk := h2 a b ha hb rfl rfl (fun e => hz.1 (by rw [e])) hz.2
  have ca : (nI a).toNatClampNeg = a := nI_clamp (by omega)
  have cb : (nI b).toNatClampNeg = b := nI_clamp (by omega)
  have z0 := hz.1
  rcases hz.2 with rfl | rfl
  · skip
    repeat' (first
      | refine c_Ro_hasState (fun q1 q2 => ?_) (fun q => absurd hx q)
      | refine c_Ro_hasState (fun q1 q2 => ?_) (fun q => absurd hy q)
      | refine br_f z0 ?_
      | refine c_Ha_setFeud (vp_in_nI (by omega) (by omega)) (vp_in_nI (by omega) (by omega)) ?_
      | exact zKe hk (by rw [ca, cb]) (by rw [ca, cb])
      | (refine zs k_De_feud rfl ?_; conv => whnf)
      | refine ⟨Nat.zero_lt_one, rfl, ?_⟩
      | refine ⟨rfl, ?_⟩
      | refine ⟨⟨Nat.zero_lt_one, rfl⟩, Nat.le_of_ble_eq_true rfl, ?_⟩
      | refine ⟨Nat.le_of_ble_eq_true rfl, Nat.le_of_ble_eq_true rfl, ?_⟩
      | refine ⟨(by first | exact Nat.zero_lt_one | assumption | omega), (by first | assumption | exact vp_in_nI (by omega) (by omega) | (unfold vp_in; decide)), ?_⟩
      | refine ⟨(by first | exact Nat.zero_lt_one | assumption | omega), rfl, ?_⟩
      | refine ⟨⟨(by first | exact Nat.zero_lt_one | assumption | omega), rfl⟩, Nat.le_of_ble_eq_true rfl, ?_⟩
      | refine ⟨(by first | exact Nat.zero_lt_one | assumption | omega), ?_⟩
      | refine ⟨Or.inl rfl, ?_⟩
      | refine ⟨Or.inr (Or.inl rfl), ?_⟩
      | refine ⟨Or.inr (Or.inr rfl), ?_⟩
      | refine ⟨Or.inr ⟨rfl, (by first | exact Or.inl rfl | exact Or.inr rfl | assumption)⟩, ?_⟩
      | refine ⟨fun h => absurd h (by decide), fun _ => ?_⟩
      | refine ⟨fun _ => ?_, fun h => absurd h (by decide)⟩
      | refine ⟨fun h => ?_, fun h => ?_⟩
      | fail)
  · skip
    repeat' (first
      | refine c_Ro_hasState (fun q1 q2 => ?_) (fun q => absurd hx q)
      | refine c_Ro_hasState (fun q1 q2 => ?_) (fun q => absurd hy q)
      | refine br_f z0 ?_
      | refine c_Ha_setFeud (vp_in_nI (by omega) (by omega)) (vp_in_nI (by omega) (by omega)) ?_
      | exact zKe hk (by rw [ca, cb]) (by rw [ca, cb])
      | (refine zs k_De_feud rfl ?_; conv => whnf)
      | refine ⟨Nat.zero_lt_one, rfl, ?_⟩
      | refine ⟨rfl, ?_⟩
      | refine ⟨⟨Nat.zero_lt_one, rfl⟩, Nat.le_of_ble_eq_true rfl, ?_⟩
      | refine ⟨Nat.le_of_ble_eq_true rfl, Nat.le_of_ble_eq_true rfl, ?_⟩
      | refine ⟨(by first | exact Nat.zero_lt_one | assumption | omega), (by first | assumption | exact vp_in_nI (by omega) (by omega) | (unfold vp_in; decide)), ?_⟩
      | refine ⟨(by first | exact Nat.zero_lt_one | assumption | omega), rfl, ?_⟩
      | refine ⟨⟨(by first | exact Nat.zero_lt_one | assumption | omega), rfl⟩, Nat.le_of_ble_eq_true rfl, ?_⟩
      | refine ⟨(by first | exact Nat.zero_lt_one | assumption | omega), ?_⟩
      | refine ⟨Or.inl rfl, ?_⟩
      | refine ⟨Or.inr (Or.inl rfl), ?_⟩
      | refine ⟨Or.inr (Or.inr rfl), ?_⟩
      | refine ⟨Or.inr ⟨rfl, (by first | exact Or.inl rfl | exact Or.inr rfl | assumption)⟩, ?_⟩
      | refine ⟨fun h => absurd h (by decide), fun _ => ?_⟩
      | refine ⟨fun _ => ?_, fun h => absurd h (by decide)⟩
      | refine ⟨fun h => ?_, fun h => ?_⟩
      | fail)
set_option maxHeartbeats 1000000 in
theorem c_Mo_feud {d ns : Nat} {μ μ0 : zMu} {x y z : Int32} {K : Option zV → zMu → Prop} (hs : μ 48 0 0 = nI ns) (h10 : ns ≤ 10) (h53 : ∀ a b, a < 10 → b < 10 → μ 53 0 (10 * a + b) = μ0 36 a b ∧ (μ0 36 a b = 0 ∨ μ0 36 a b = 1)) (h0 : ¬ (okI ns x ∧ okI ns y) → K (some (zI (-1))) μ) (h1 : okI ns x ∧ okI ns y → ¬ (¬ x = y ∧ (z = 0 ∨ z = 1)) → K (some (zI (-2))) μ) (h2 : ∀ a b, a < ns → b < ns → x = nI a → y = nI b → a ≠ b → (z = 0 ∨ z = 1) → K (some (zI (μ0 36 a b))) (zu (zu μ 53 0 (10 * a + b) z) 53 0 (10 * b + a) z)) : Ct (d + 1) m_Mo_feud [zR 48 0, zI x, zI y, zI z] μ K := by
  refine zmeet rfl (Nat.le_of_ble_eq_true rfl) (fun S => ?_)
  by_cases ho : okI ns x ∧ okI ns y
  case neg =>
    have hk := h0 ho
    unfold okI at ho
    rw [← hs] at ho
    repeat' (first
      | refine c_Mo_isState (fun q1 => ?_) (fun q => ?_)
      | exact hk
      | (refine zs k_Mo_feud rfl ?_; conv => whnf)
      | refine ⟨Nat.zero_lt_one, rfl, ?_⟩
      | refine ⟨rfl, ?_⟩
      | refine ⟨⟨Nat.zero_lt_one, rfl⟩, Nat.le_of_ble_eq_true rfl, ?_⟩
      | refine ⟨Nat.le_of_ble_eq_true rfl, Nat.le_of_ble_eq_true rfl, ?_⟩
      | refine ⟨(by first | exact Nat.zero_lt_one | assumption | omega), (by first | assumption | exact vp_in_nI (by omega) (by omega) | (unfold vp_in; decide)), ?_⟩
      | refine ⟨(by first | exact Nat.zero_lt_one | assumption | omega), rfl, ?_⟩
      | refine ⟨⟨(by first | exact Nat.zero_lt_one | assumption | omega), rfl⟩, Nat.le_of_ble_eq_true rfl, ?_⟩
      | refine ⟨(by first | exact Nat.zero_lt_one | assumption | omega), ?_⟩
      | refine ⟨Or.inl rfl, ?_⟩
      | refine ⟨Or.inr (Or.inl rfl), ?_⟩
      | refine ⟨Or.inr (Or.inr rfl), ?_⟩
      | refine ⟨Or.inr ⟨rfl, (by first | exact Or.inl rfl | exact Or.inr rfl | assumption)⟩, ?_⟩
      | refine ⟨fun h => absurd h (by decide), fun _ => ?_⟩
      | refine ⟨fun _ => ?_, fun h => absurd h (by decide)⟩
      | refine ⟨fun h => ?_, fun h => ?_⟩
      | exact absurd (by grind) ho
      | fail)
  have hx : 0 ≤ x ∧ x < μ 48 0 0 := by rw [hs]; exact ho.1
  have hy : 0 ≤ y ∧ y < μ 48 0 0 := by rw [hs]; exact ho.2
  by_cases hz : ¬ x = y ∧ (z = 0 ∨ z = 1)
  case neg =>
    have hk := h1 ho hz
    repeat' (first
      | refine c_Mo_isState (fun q1 => ?_) (fun q => absurd hx q)
      | refine c_Mo_isState (fun q1 => ?_) (fun q => absurd hy q)
      | refine c_Mo_isIn (lo := 0) (hi := 1) rfl rfl (fun hb => absurd ⟨by assumption, i01.mp hb⟩ hz) (fun hb => ?_)
      | exact hk
      | (refine zs k_Mo_feud rfl ?_; conv => whnf)
      | refine ⟨Nat.zero_lt_one, rfl, ?_⟩
      | refine ⟨rfl, ?_⟩
      | refine ⟨⟨Nat.zero_lt_one, rfl⟩, Nat.le_of_ble_eq_true rfl, ?_⟩
      | refine ⟨Nat.le_of_ble_eq_true rfl, Nat.le_of_ble_eq_true rfl, ?_⟩
      | refine ⟨(by first | exact Nat.zero_lt_one | assumption | omega), (by first | assumption | exact vp_in_nI (by omega) (by omega) | (unfold vp_in; decide)), ?_⟩
      | refine ⟨(by first | exact Nat.zero_lt_one | assumption | omega), rfl, ?_⟩
      | refine ⟨⟨(by first | exact Nat.zero_lt_one | assumption | omega), rfl⟩, Nat.le_of_ble_eq_true rfl, ?_⟩
      | refine ⟨(by first | exact Nat.zero_lt_one | assumption | omega), ?_⟩
      | refine ⟨Or.inl rfl, ?_⟩
      | refine ⟨Or.inr (Or.inl rfl), ?_⟩
      | refine ⟨Or.inr (Or.inr rfl), ?_⟩
      | refine ⟨Or.inr ⟨rfl, (by first | exact Or.inl rfl | exact Or.inr rfl | assumption)⟩, ?_⟩
      | refine ⟨fun h => absurd h (by decide), fun _ => ?_⟩
      | refine ⟨fun _ => ?_, fun h => absurd h (by decide)⟩
      | refine ⟨fun h => ?_, fun h => ?_⟩
      | fail)
  rcases zIx x (n := ns) (by omega) with ⟨a, ha, rfl⟩ | q
  case inr => exact absurd ho.1 q
  rcases zIx y (n := ns) (by omega) with ⟨b, hb, rfl⟩ | q
  case inr => exact absurd ho.2 q
  have hab : a ≠ b := fun e => hz.1 (by rw [e])
  have hk := h2 a b ha hb rfl rfl hab hz.2
  have m1 : (10 : Int32) * nI a + nI b = nI (10 * a + b) := by rw [show (10 : Int32) * nI a = nI (10 * a) from pk_mul 10 a, nI_add]
  have m2 : (10 : Int32) * nI b + nI a = nI (10 * b + a) := by rw [show (10 : Int32) * nI b = nI (10 * b) from pk_mul 10 b, nI_add]
  have v1 : vp_in ((10 : Int32) * nI a + nI b) 100 := by rw [m1]; exact vp_in_nI (by omega) (by omega)
  have v2 : vp_in ((10 : Int32) * nI b + nI a) 100 := by rw [m2]; exact vp_in_nI (by omega) (by omega)
  have c1 : ((10 : Int32) * nI a + nI b).toNatClampNeg = 10 * a + b := by rw [m1]; exact nI_clamp (by omega)
  have c2 : ((10 : Int32) * nI b + nI a).toNatClampNeg = 10 * b + a := by rw [m2]; exact nI_clamp (by omega)
  obtain ⟨q53, q2⟩ := h53 a b (by omega) (by omega)
  rw [← c1] at q53
  have z0 := hz.1
  have zi := i01.mpr hz.2
  rw [← c1, ← c2] at hk
  rcases hz.2 with rfl | rfl
  · rcases q2 with q2 | q2
    · rw [q2] at q53 hk
      repeat' (first
        | refine c_Mo_isState (fun q1 => ?_) (fun q => absurd hx q)
        | refine c_Mo_isState (fun q1 => ?_) (fun q => absurd hy q)
        | refine br_f z0 ?_
        | refine c_Mo_isIn (lo := 0) (hi := 1) rfl rfl (fun hb => ?_) (fun hb => absurd zi hb)
        | refine br_t q53 ?_
        | exact hk
        | (refine zs k_Mo_feud rfl ?_; conv => whnf)
        | refine ⟨Nat.zero_lt_one, rfl, ?_⟩
        | refine ⟨rfl, ?_⟩
        | refine ⟨⟨Nat.zero_lt_one, rfl⟩, Nat.le_of_ble_eq_true rfl, ?_⟩
        | refine ⟨Nat.le_of_ble_eq_true rfl, Nat.le_of_ble_eq_true rfl, ?_⟩
        | refine ⟨(by first | exact Nat.zero_lt_one | assumption | omega), (by first | assumption | exact vp_in_nI (by omega) (by omega) | (unfold vp_in; decide)), ?_⟩
        | refine ⟨(by first | exact Nat.zero_lt_one | assumption | omega), rfl, ?_⟩
        | refine ⟨⟨(by first | exact Nat.zero_lt_one | assumption | omega), rfl⟩, Nat.le_of_ble_eq_true rfl, ?_⟩
        | refine ⟨(by first | exact Nat.zero_lt_one | assumption | omega), ?_⟩
        | refine ⟨Or.inl rfl, ?_⟩
        | refine ⟨Or.inr (Or.inl rfl), ?_⟩
        | refine ⟨Or.inr (Or.inr rfl), ?_⟩
        | refine ⟨Or.inr ⟨rfl, (by first | exact Or.inl rfl | exact Or.inr rfl | assumption)⟩, ?_⟩
        | refine ⟨fun h => absurd h (by decide), fun _ => ?_⟩
        | refine ⟨fun _ => ?_, fun h => absurd h (by decide)⟩
        | refine ⟨fun h => ?_, fun h => ?_⟩
        | fail)
    · rw [q2] at q53 hk
      repeat' (first
        | refine c_Mo_isState (fun q1 => ?_) (fun q => absurd hx q)
        | refine c_Mo_isState (fun q1 => ?_) (fun q => absurd hy q)
        | refine br_f z0 ?_
        | refine c_Mo_isIn (lo := 0) (hi := 1) rfl rfl (fun hb => ?_) (fun hb => absurd zi hb)
        | refine br_f (by rw [q53]; decide) ?_
        | exact hk
        | (refine zs k_Mo_feud rfl ?_; conv => whnf)
        | refine ⟨Nat.zero_lt_one, rfl, ?_⟩
        | refine ⟨rfl, ?_⟩
        | refine ⟨⟨Nat.zero_lt_one, rfl⟩, Nat.le_of_ble_eq_true rfl, ?_⟩
        | refine ⟨Nat.le_of_ble_eq_true rfl, Nat.le_of_ble_eq_true rfl, ?_⟩
        | refine ⟨(by first | exact Nat.zero_lt_one | assumption | omega), (by first | assumption | exact vp_in_nI (by omega) (by omega) | (unfold vp_in; decide)), ?_⟩
        | refine ⟨(by first | exact Nat.zero_lt_one | assumption | omega), rfl, ?_⟩
        | refine ⟨⟨(by first | exact Nat.zero_lt_one | assumption | omega), rfl⟩, Nat.le_of_ble_eq_true rfl, ?_⟩
        | refine ⟨(by first | exact Nat.zero_lt_one | assumption | omega), ?_⟩
        | refine ⟨Or.inl rfl, ?_⟩
        | refine ⟨Or.inr (Or.inl rfl), ?_⟩
        | refine ⟨Or.inr (Or.inr rfl), ?_⟩
        | refine ⟨Or.inr ⟨rfl, (by first | exact Or.inl rfl | exact Or.inr rfl | assumption)⟩, ?_⟩
        | refine ⟨fun h => absurd h (by decide), fun _ => ?_⟩
        | refine ⟨fun _ => ?_, fun h => absurd h (by decide)⟩
        | refine ⟨fun h => ?_, fun h => ?_⟩
        | fail)
  · rcases q2 with q2 | q2
    · rw [q2] at q53 hk
      repeat' (first
        | refine c_Mo_isState (fun q1 => ?_) (fun q => absurd hx q)
        | refine c_Mo_isState (fun q1 => ?_) (fun q => absurd hy q)
        | refine br_f z0 ?_
        | refine c_Mo_isIn (lo := 0) (hi := 1) rfl rfl (fun hb => ?_) (fun hb => absurd zi hb)
        | refine br_t q53 ?_
        | exact hk
        | (refine zs k_Mo_feud rfl ?_; conv => whnf)
        | refine ⟨Nat.zero_lt_one, rfl, ?_⟩
        | refine ⟨rfl, ?_⟩
        | refine ⟨⟨Nat.zero_lt_one, rfl⟩, Nat.le_of_ble_eq_true rfl, ?_⟩
        | refine ⟨Nat.le_of_ble_eq_true rfl, Nat.le_of_ble_eq_true rfl, ?_⟩
        | refine ⟨(by first | exact Nat.zero_lt_one | assumption | omega), (by first | assumption | exact vp_in_nI (by omega) (by omega) | (unfold vp_in; decide)), ?_⟩
        | refine ⟨(by first | exact Nat.zero_lt_one | assumption | omega), rfl, ?_⟩
        | refine ⟨⟨(by first | exact Nat.zero_lt_one | assumption | omega), rfl⟩, Nat.le_of_ble_eq_true rfl, ?_⟩
        | refine ⟨(by first | exact Nat.zero_lt_one | assumption | omega), ?_⟩
        | refine ⟨Or.inl rfl, ?_⟩
        | refine ⟨Or.inr (Or.inl rfl), ?_⟩
        | refine ⟨Or.inr (Or.inr rfl), ?_⟩
        | refine ⟨Or.inr ⟨rfl, (by first | exact Or.inl rfl | exact Or.inr rfl | assumption)⟩, ?_⟩
        | refine ⟨fun h => absurd h (by decide), fun _ => ?_⟩
        | refine ⟨fun _ => ?_, fun h => absurd h (by decide)⟩
        | refine ⟨fun h => ?_, fun h => ?_⟩
        | fail)
    · rw [q2] at q53 hk
      repeat' (first
        | refine c_Mo_isState (fun q1 => ?_) (fun q => absurd hx q)
        | refine c_Mo_isState (fun q1 => ?_) (fun q => absurd hy q)
        | refine br_f z0 ?_
        | refine c_Mo_isIn (lo := 0) (hi := 1) rfl rfl (fun hb => ?_) (fun hb => absurd zi hb)
        | refine br_f (by rw [q53]; decide) ?_
        | exact hk
        | (refine zs k_Mo_feud rfl ?_; conv => whnf)
        | refine ⟨Nat.zero_lt_one, rfl, ?_⟩
        | refine ⟨rfl, ?_⟩
        | refine ⟨⟨Nat.zero_lt_one, rfl⟩, Nat.le_of_ble_eq_true rfl, ?_⟩
        | refine ⟨Nat.le_of_ble_eq_true rfl, Nat.le_of_ble_eq_true rfl, ?_⟩
        | refine ⟨(by first | exact Nat.zero_lt_one | assumption | omega), (by first | assumption | exact vp_in_nI (by omega) (by omega) | (unfold vp_in; decide)), ?_⟩
        | refine ⟨(by first | exact Nat.zero_lt_one | assumption | omega), rfl, ?_⟩
        | refine ⟨⟨(by first | exact Nat.zero_lt_one | assumption | omega), rfl⟩, Nat.le_of_ble_eq_true rfl, ?_⟩
        | refine ⟨(by first | exact Nat.zero_lt_one | assumption | omega), ?_⟩
        | refine ⟨Or.inl rfl, ?_⟩
        | refine ⟨Or.inr (Or.inl rfl), ?_⟩
        | refine ⟨Or.inr (Or.inr rfl), ?_⟩
        | refine ⟨Or.inr ⟨rfl, (by first | exact Or.inl rfl | exact Or.inr rfl | assumption)⟩, ?_⟩
        | refine ⟨fun h => absurd h (by decide), fun _ => ?_⟩
        | refine ⟨fun _ => ?_, fun h => absurd h (by decide)⟩
        | refine ⟨fun h => ?_, fun h => ?_⟩
        | fail)
theorem okI_i {n a : Nat} (h : a < n) (hn : n < 2 ^ 31) : okI n (nI a) := zIx_y h hn
theorem b_feud {μ : zMu} {x y z : Int32} (h : Rel μ) : Both m_De_feud m_Mo_feud [zI x, zI y, zI z] μ := by
  intro d K hK
  obtain ⟨ns, n, nr, nh, nt, nb, L, g1, g2, g3, g4, g5, g6, g7, g8, g9, g10, g11⟩ := id h
  have h10 := g1.2.2.1
  have h53 : ∀ a b, a < 10 → b < 10 → μ 53 0 (10 * a + b) = μ 36 a b ∧ (μ 36 a b = 0 ∨ μ 36 a b = 1) := fun a b ha hb => ⟨(g7 a b ha hb).2.1, (g7 a b ha hb).1⟩
  refine c_De_feud g1.1 h10 (fun a => hK _ _ (fun d K2 hK2 => ?_)) (fun a b => hK _ _ (fun d K2 hK2 => ?_)) (fun a b ha hb ex ey hab hz => hK _ _ (fun d K2 hK2 => ?_))
  · exact c_Mo_feud g1.2.1 h10 h53 (fun _ => hK2 _ h) (fun q => absurd q a) (fun a' b' ha hb ex ey => absurd ⟨by rw [ex]; exact okI_i ha (by omega), by rw [ey]; exact okI_i hb (by omega)⟩ a)
  · exact c_Mo_feud g1.2.1 h10 h53 (fun q => absurd a q) (fun _ _ => hK2 _ h) (fun a' b' ha hb ex ey hab hz => absurd ⟨by rw [ex, ey]; exact fun e => hab ((nI_eq (by omega) (by omega)).mp e), hz⟩ b)
  · subst ex ey
    have hi : okI ns (nI a) ∧ okI ns (nI b) := ⟨okI_i ha (by omega), okI_i hb (by omega)⟩
    refine c_Mo_feud (ns := ns) (μ0 := μ) g1.2.1 h10 h53 (fun q => absurd hi q) (fun _ q => absurd ⟨fun e => hab ((nI_eq (by omega) (by omega)).mp e), hz⟩ q) (fun a' b' ha' hb' ex ey _ _ => ?_)
    obtain rfl := (nI_eq (by omega) (by omega)).mp ex
    obtain rfl := (nI_eq (by omega) (by omega)).mp ey
    refine hK2 _ ⟨ns, n, nr, nh, nt, nb, L, g1, g2, g3, g4, g5, g6, fun i j hi hj => ?_, g8, g9, g10, g11⟩
    have e36 : ∀ i j, zu (zu (zu (zu μ 36 a b z) 36 b a z) 53 0 (10 * a + b) z) 53 0 (10 * b + a) z 36 i j = if (i = a ∧ j = b) ∨ (i = b ∧ j = a) then z else μ 36 i j := fun i j => by
      rw [zu_ne (by omega), zu_ne (by omega)]
      by_cases q1 : i = b ∧ j = a
      · rw [if_pos (Or.inr q1), q1.1, q1.2, zu_eq]
      · rw [zu_ne (by omega)]
        by_cases q2 : i = a ∧ j = b
        · rw [if_pos (Or.inl q2), q2.1, q2.2, zu_eq]
        · rw [zu_ne (by omega), if_neg (by omega)]
    have e53 : ∀ k, zu (zu (zu (zu μ 36 a b z) 36 b a z) 53 0 (10 * a + b) z) 53 0 (10 * b + a) z 53 0 k = if k = 10 * a + b ∨ k = 10 * b + a then z else μ 53 0 k := fun k => by
      by_cases q1 : k = 10 * b + a
      · rw [if_pos (Or.inr q1), q1, zu_eq]
      · rw [zu_ne (by omega)]
        by_cases q2 : k = 10 * a + b
        · rw [if_pos (Or.inl q2), q2, zu_eq]
        · rw [zu_ne (by omega), zu_ne (by omega), zu_ne (by omega), if_neg (by omega)]
    obtain ⟨a1, a2, a3⟩ := g7 i j hi hj
    rw [e36, e36, e53]
    by_cases q : (i = a ∧ j = b) ∨ (i = b ∧ j = a)
    · rw [if_pos q, if_pos (by omega), if_pos (by omega)]
      exact ⟨hz, rfl, rfl⟩
    · rw [if_neg q, if_neg (by omega), if_neg (by omega)]
      exact ⟨a1, a2, a3⟩
def okTk (x y z : Int32) : Prop := 0 ≤ x ∧ x < 8 ∧ 0 ≤ y ∧ y < 8 ∧ ¬ x = y ∧ 0 ≤ z ∧ z ≤ 9
theorem okTk_of {x y z : Int32} (h : okTk x y z) : ∃ a b c, a < 8 ∧ b < 8 ∧ a ≠ b ∧ c ≤ 9 ∧ x = nI a ∧ y = nI b ∧ z = nI c := by
  obtain ⟨h1, h2, h3, h4, h5, h6, h7⟩ := h
  rcases zIx x (n := 8) (by omega) with ⟨a, ha, rfl⟩ | q
  case inr => exact absurd ⟨h1, h2⟩ q
  rcases zIx y (n := 8) (by omega) with ⟨b, hb, rfl⟩ | q
  case inr => exact absurd ⟨h3, h4⟩ q
  obtain ⟨c, hc, rfl⟩ := nI_of2 (x := z) (M := 9) (n := 9) rfl (by grind) h7
  exact ⟨a, b, c, ha, hb, fun e => h5 (by rw [e]), hc, rfl, rfl, rfl⟩
theorem c_De_talk {d : Nat} {μ : zMu} {x y z : Int32} {K : Option zV → zMu → Prop} (h0 : ¬ okTk x y z → K (some (zI (-2))) μ) (h2 : ∀ a b, okTk x y z → a < 8 → b < 8 → x = nI a → y = nI b → K (some (zI (μ 38 a b))) (zu (zu μ 38 a b z) 38 b a z)) : Ct (d + 1) m_De_talk [zR 0 0, zI x, zI y, zI z] μ K := by
  refine zmeet rfl (Nat.le_of_ble_eq_true rfl) (fun S => ?_)
  by_cases ho : okTk x y z
  case neg =>
    have hk := h0 ho
    unfold okTk at ho
    repeat' (first
      | refine c_Ro_isTongue (fun _ _ => ?_) (fun _ => ?_)
      | exact hk
      | (refine zs k_De_talk rfl ?_; conv => whnf)
      | refine ⟨Nat.zero_lt_one, rfl, ?_⟩
      | refine ⟨rfl, ?_⟩
      | refine ⟨⟨Nat.zero_lt_one, rfl⟩, Nat.le_of_ble_eq_true rfl, ?_⟩
      | refine ⟨Nat.le_of_ble_eq_true rfl, Nat.le_of_ble_eq_true rfl, ?_⟩
      | refine ⟨(by first | exact Nat.zero_lt_one | assumption | omega), (by first | assumption | exact vp_in_nI (by omega) (by omega) | (unfold vp_in; decide)), ?_⟩
      | refine ⟨(by first | exact Nat.zero_lt_one | assumption | omega), rfl, ?_⟩
      | refine ⟨⟨(by first | exact Nat.zero_lt_one | assumption | omega), rfl⟩, Nat.le_of_ble_eq_true rfl, ?_⟩
      | refine ⟨(by first | exact Nat.zero_lt_one | assumption | omega), ?_⟩
      | refine ⟨Or.inl rfl, ?_⟩
      | refine ⟨Or.inr (Or.inl rfl), ?_⟩
      | refine ⟨Or.inr (Or.inr rfl), ?_⟩
      | refine ⟨Or.inr ⟨rfl, (by first | exact Or.inl rfl | exact Or.inr rfl | assumption)⟩, ?_⟩
      | refine ⟨fun h => absurd h (by decide), fun _ => ?_⟩
      | refine ⟨fun _ => ?_, fun h => absurd h (by decide)⟩
      | refine ⟨fun h => ?_, fun h => ?_⟩
      | exact absurd (by grind) ho
      | fail)
  obtain ⟨a, b, c, ha, hb, hab, hc, rfl, rfl, rfl⟩ := okTk_of ho
  have hk := h2 a b ho ha hb rfl rfl
  have ca : (nI a).toNatClampNeg = a := nI_clamp (by omega)
  have cb : (nI b).toNatClampNeg = b := nI_clamp (by omega)
  have t1 : 0 ≤ nI a ∧ nI a < 8 := ⟨ho.1, ho.2.1⟩
  have t2 : 0 ≤ nI b ∧ nI b < 8 := ⟨ho.2.2.1, ho.2.2.2.1⟩
  have t3 := ho.2.2.2.2.1
  have t4 : ¬ nI c < 0 := nI_pos (by omega)
  have t5 := ho.2.2.2.2.2.2
  repeat' (first
    | refine c_Ro_isTongue (fun _ _ => ?_) (fun q => absurd t1 q)
    | refine c_Ro_isTongue (fun _ _ => ?_) (fun q => absurd t2 q)
    | refine br_f t3 ?_
    | refine br_f t4 ?_
    | refine br_t t5 ?_
    | refine c_Ha_setCost (vp_in_nI (by omega) (by omega)) (vp_in_nI (by omega) (by omega)) ?_
    | exact zKe hk (by rw [ca, cb]) (by rw [ca, cb])
    | (refine zs k_De_talk rfl ?_; conv => whnf)
    | refine ⟨Nat.zero_lt_one, rfl, ?_⟩
    | refine ⟨rfl, ?_⟩
    | refine ⟨⟨Nat.zero_lt_one, rfl⟩, Nat.le_of_ble_eq_true rfl, ?_⟩
    | refine ⟨Nat.le_of_ble_eq_true rfl, Nat.le_of_ble_eq_true rfl, ?_⟩
    | refine ⟨(by first | exact Nat.zero_lt_one | assumption | omega), (by first | assumption | exact vp_in_nI (by omega) (by omega) | (unfold vp_in; decide)), ?_⟩
    | refine ⟨(by first | exact Nat.zero_lt_one | assumption | omega), rfl, ?_⟩
    | refine ⟨⟨(by first | exact Nat.zero_lt_one | assumption | omega), rfl⟩, Nat.le_of_ble_eq_true rfl, ?_⟩
    | refine ⟨(by first | exact Nat.zero_lt_one | assumption | omega), ?_⟩
    | refine ⟨Or.inl rfl, ?_⟩
    | refine ⟨Or.inr (Or.inl rfl), ?_⟩
    | refine ⟨Or.inr (Or.inr rfl), ?_⟩
    | refine ⟨Or.inr ⟨rfl, (by first | exact Or.inl rfl | exact Or.inr rfl | assumption)⟩, ?_⟩
    | refine ⟨fun h => absurd h (by decide), fun _ => ?_⟩
    | refine ⟨fun _ => ?_, fun h => absurd h (by decide)⟩
    | refine ⟨fun h => ?_, fun h => ?_⟩
    | fail)
theorem c_Mo_talk {d : Nat} {μ : zMu} {x y z : Int32} {K : Option zV → zMu → Prop} (h0 : ¬ okTk x y z → K (some (zI (-2))) μ) (h2 : ∀ a b, okTk x y z → a < 8 → b < 8 → x = nI a → y = nI b → K (some (zI (μ 54 0 (8 * a + b)))) (zu (zu μ 54 0 (8 * a + b) z) 54 0 (8 * b + a) z)) : Ct (d + 1) m_Mo_talk [zR 48 0, zI x, zI y, zI z] μ K := by
  refine zmeet rfl (Nat.le_of_ble_eq_true rfl) (fun S => ?_)
  by_cases ho : okTk x y z
  case neg =>
    have hk := h0 ho
    have ho' : ¬ ((0 ≤ x ∧ x ≤ 7) ∧ (0 ≤ y ∧ y ≤ 7) ∧ ¬ x = y ∧ 0 ≤ z ∧ z ≤ 9) := fun q => ho ⟨q.1.1, lt8.mpr q.1.2, q.2.1.1, lt8.mpr q.2.1.2, q.2.2⟩
    repeat' (first
      | refine c_Mo_isIn (x := x) (lo := 0) (hi := 7) rfl rfl (fun i1 => ?_) (fun i1 => ?_)
      | refine c_Mo_isIn (x := y) (lo := 0) (hi := 7) rfl rfl (fun i2 => ?_) (fun i2 => ?_)
      | refine c_Mo_isIn (x := z) (lo := 0) (hi := 9) rfl rfl (fun i3 => absurd ⟨i1, i2, by assumption, i3⟩ ho') (fun i3 => ?_)
      | exact hk
      | (refine zs k_Mo_talk rfl ?_; conv => whnf)
      | refine ⟨Nat.zero_lt_one, rfl, ?_⟩
      | refine ⟨rfl, ?_⟩
      | refine ⟨⟨Nat.zero_lt_one, rfl⟩, Nat.le_of_ble_eq_true rfl, ?_⟩
      | refine ⟨Nat.le_of_ble_eq_true rfl, Nat.le_of_ble_eq_true rfl, ?_⟩
      | refine ⟨(by first | exact Nat.zero_lt_one | assumption | omega), (by first | assumption | exact vp_in_nI (by omega) (by omega) | (unfold vp_in; decide)), ?_⟩
      | refine ⟨(by first | exact Nat.zero_lt_one | assumption | omega), rfl, ?_⟩
      | refine ⟨⟨(by first | exact Nat.zero_lt_one | assumption | omega), rfl⟩, Nat.le_of_ble_eq_true rfl, ?_⟩
      | refine ⟨(by first | exact Nat.zero_lt_one | assumption | omega), ?_⟩
      | refine ⟨Or.inl rfl, ?_⟩
      | refine ⟨Or.inr (Or.inl rfl), ?_⟩
      | refine ⟨Or.inr (Or.inr rfl), ?_⟩
      | refine ⟨Or.inr ⟨rfl, (by first | exact Or.inl rfl | exact Or.inr rfl | assumption)⟩, ?_⟩
      | refine ⟨fun h => absurd h (by decide), fun _ => ?_⟩
      | refine ⟨fun _ => ?_, fun h => absurd h (by decide)⟩
      | refine ⟨fun h => ?_, fun h => ?_⟩
      | fail)
  obtain ⟨a, b, c, ha, hb, hab, hc, rfl, rfl, rfl⟩ := okTk_of ho
  have hk := h2 a b ho ha hb rfl rfl
  have t1 : 0 ≤ nI a ∧ nI a ≤ 7 := ⟨ho.1, lt8.mp ho.2.1⟩
  have t2 : 0 ≤ nI b ∧ nI b ≤ 7 := ⟨ho.2.2.1, lt8.mp ho.2.2.2.1⟩
  have t3 := ho.2.2.2.2.1
  have t5 : 0 ≤ nI c ∧ nI c ≤ 9 := ho.2.2.2.2.2
  have m1 : (8 : Int32) * nI a + nI b = nI (8 * a + b) := by rw [show (8 : Int32) * nI a = nI (8 * a) from pk_mul 8 a, nI_add]
  have m2 : (8 : Int32) * nI b + nI a = nI (8 * b + a) := by rw [show (8 : Int32) * nI b = nI (8 * b) from pk_mul 8 b, nI_add]
  have v1 : vp_in ((8 : Int32) * nI a + nI b) 64 := by rw [m1]; exact vp_in_nI (by omega) (by omega)
  have v2 : vp_in ((8 : Int32) * nI b + nI a) 64 := by rw [m2]; exact vp_in_nI (by omega) (by omega)
  have c1 : ((8 : Int32) * nI a + nI b).toNatClampNeg = 8 * a + b := by rw [m1]; exact nI_clamp (by omega)
  have c2 : ((8 : Int32) * nI b + nI a).toNatClampNeg = 8 * b + a := by rw [m2]; exact nI_clamp (by omega)
  rw [← c1, ← c2] at hk
  repeat' (first
    | refine c_Mo_isIn (x := nI a) (lo := 0) (hi := 7) rfl rfl (fun i1 => ?_) (fun i1 => absurd t1 i1)
    | refine c_Mo_isIn (x := nI b) (lo := 0) (hi := 7) rfl rfl (fun i2 => ?_) (fun i2 => absurd t2 i2)
    | refine c_Mo_isIn (x := nI c) (lo := 0) (hi := 9) rfl rfl (fun i3 => ?_) (fun i3 => absurd t5 i3)
    | refine br_f t3 ?_
    | exact hk
    | (refine zs k_Mo_talk rfl ?_; conv => whnf)
    | refine ⟨Nat.zero_lt_one, rfl, ?_⟩
    | refine ⟨rfl, ?_⟩
    | refine ⟨⟨Nat.zero_lt_one, rfl⟩, Nat.le_of_ble_eq_true rfl, ?_⟩
    | refine ⟨Nat.le_of_ble_eq_true rfl, Nat.le_of_ble_eq_true rfl, ?_⟩
    | refine ⟨(by first | exact Nat.zero_lt_one | assumption | omega), (by first | assumption | exact vp_in_nI (by omega) (by omega) | (unfold vp_in; decide)), ?_⟩
    | refine ⟨(by first | exact Nat.zero_lt_one | assumption | omega), rfl, ?_⟩
    | refine ⟨⟨(by first | exact Nat.zero_lt_one | assumption | omega), rfl⟩, Nat.le_of_ble_eq_true rfl, ?_⟩
    | refine ⟨(by first | exact Nat.zero_lt_one | assumption | omega), ?_⟩
    | refine ⟨Or.inl rfl, ?_⟩
    | refine ⟨Or.inr (Or.inl rfl), ?_⟩
    | refine ⟨Or.inr (Or.inr rfl), ?_⟩
    | refine ⟨Or.inr ⟨rfl, (by first | exact Or.inl rfl | exact Or.inr rfl | assumption)⟩, ?_⟩
    | refine ⟨fun h => absurd h (by decide), fun _ => ?_⟩
    | refine ⟨fun _ => ?_, fun h => absurd h (by decide)⟩
    | refine ⟨fun h => ?_, fun h => ?_⟩
    | fail)
theorem b_talk {μ : zMu} {x y z : Int32} (h : Rel μ) : Both m_De_talk m_Mo_talk [zI x, zI y, zI z] μ := by
  intro d K hK
  obtain ⟨ns, n, nr, nh, nt, nb, L, g1, g2, g3, g4, g5, g6, g7, g8, g9, g10, g11⟩ := id h
  refine c_De_talk (fun a => hK _ _ (fun d K2 hK2 => ?_)) (fun a b ho ha hb ex ey => hK _ _ (fun d K2 hK2 => ?_))
  · exact c_Mo_talk (fun _ => hK2 _ h) (fun a' b' q => absurd q a)
  · refine c_Mo_talk (fun q => absurd ho q) (fun a' b' _ ha' hb' ex' ey' => ?_)
    rw [ex] at ex'
    rw [ey] at ey'
    obtain rfl := (nI_eq (by omega) (by omega)).mp ex'
    obtain rfl := (nI_eq (by omega) (by omega)).mp ey'
    obtain ⟨c, hc, rfl⟩ := nI_of2 (x := z) (M := 9) (n := 9) rfl (by have := ho.2.2.2.2.2.1; grind) ho.2.2.2.2.2.2
    refine zKe (hK2 _ ?_) (g8 a b ha hb).2.1 rfl
    refine ⟨ns, n, nr, nh, nt, nb, L, g1, g2, g3, g4, g5, g6, g7, fun i j hi hj => ?_, g9, g10, g11⟩
    have e36 : ∀ i j, zu (zu (zu (zu μ 38 a b (nI c)) 38 b a (nI c)) 54 0 (8 * a + b) (nI c)) 54 0 (8 * b + a) (nI c) 38 i j = if (i = a ∧ j = b) ∨ (i = b ∧ j = a) then nI c else μ 38 i j := fun i j => by
      rw [zu_ne (by omega), zu_ne (by omega)]
      by_cases q1 : i = b ∧ j = a
      · rw [if_pos (Or.inr q1), q1.1, q1.2, zu_eq]
      · rw [zu_ne (by omega)]
        by_cases q2 : i = a ∧ j = b
        · rw [if_pos (Or.inl q2), q2.1, q2.2, zu_eq]
        · rw [zu_ne (by omega), if_neg (by omega)]
    have e53 : ∀ k, zu (zu (zu (zu μ 38 a b (nI c)) 38 b a (nI c)) 54 0 (8 * a + b) (nI c)) 54 0 (8 * b + a) (nI c) 54 0 k = if k = 8 * a + b ∨ k = 8 * b + a then nI c else μ 54 0 k := fun k => by
      by_cases q1 : k = 8 * b + a
      · rw [if_pos (Or.inr q1), q1, zu_eq]
      · rw [zu_ne (by omega)]
        by_cases q2 : k = 8 * a + b
        · rw [if_pos (Or.inl q2), q2, zu_eq]
        · rw [zu_ne (by omega), zu_ne (by omega), zu_ne (by omega), if_neg (by omega)]
    obtain ⟨a1, a2, a3⟩ := g8 i j hi hj
    rw [e36, e36, e53]
    by_cases q : (i = a ∧ j = b) ∨ (i = b ∧ j = a)
    · rw [if_pos q, if_pos (by omega), if_pos (by omega)]
      exact ⟨⟨c, hc, rfl⟩, rfl, rfl⟩
    · rw [if_neg q, if_neg (by omega), if_neg (by omega)]
      exact ⟨a1, a2, a3⟩
