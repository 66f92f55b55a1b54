/-! THE LAW: its loop -/
theorem l_cmp {L i : Nat} (hL : L ≤ 3072) (hi : i ≤ 4000) : Int32.ofNat L - 6 < nI i ↔ ¬ i + 6 ≤ L := by
  show nI L - 6 < nI i ↔ ¬ i + 6 ≤ L
  rcases Nat.lt_or_ge L 6 with w | w
  · have h0 : (0 : Int32) ≤ nI i := nI_pos' (by omega)
    have h1 : nI L - 6 < 0 := by
      have : L = 0 ∨ L = 1 ∨ L = 2 ∨ L = 3 ∨ L = 4 ∨ L = 5 := by omega
      rcases this with rfl | rfl | rfl | rfl | rfl | rfl <;> decide
    constructor
    · intro _
      omega
    · intro _
      grind
  · rw [show nI L - 6 = nI (L - 6) from pk_sub (b := 6) w, nI_ltI (by omega) (by omega)]
    omega
theorem l_loop {S : Nat × (Nat → Int32)} (hL : S.1 ≤ 3072) : ∀ (k i : Nat) (μ : zMu), S.1 ≤ i + 6 * k → i ≤ 3072 → Rel μ → lG S 18 [some (zR 201 0), some (zR 0 0), some (zR 48 0), some (zI (nI i))] [] μ := by
  intro k
  induction k with
  | zero =>
    intro i μ hk hi3 hr
    have c1 : Int32.ofNat S.1 - 6 < nI i := (l_cmp hL (by omega)).mpr (by omega)
    repeat' (first
      | refine br_t c1 ?_
      | exact (rfl : lK (some (zI 1)) μ)
      | (refine zl k_L_head rfl ?_; conv => whnf)
      | refine ⟨Nat.zero_lt_one, rfl, ?_⟩
      | refine ⟨rfl, ?_⟩
      | refine ⟨⟨Nat.zero_lt_one, rfl⟩, Nat.le_of_ble_eq_true rfl, ?_⟩
      | refine ⟨Nat.le_of_ble_eq_true rfl, Nat.le_of_ble_eq_true rfl, ?_⟩
      | refine ⟨(by first | exact Nat.zero_lt_one | assumption | omega), (by first | assumption | exact vp_in_nI (by omega) (by omega) | (unfold vp_in; decide)), ?_⟩
      | refine ⟨(by first | exact Nat.zero_lt_one | assumption | omega), rfl, ?_⟩
      | refine ⟨⟨(by first | exact Nat.zero_lt_one | assumption | omega), rfl⟩, Nat.le_of_ble_eq_true rfl, ?_⟩
      | refine ⟨(by first | exact Nat.zero_lt_one | assumption | omega), ?_⟩
      | refine ⟨Or.inl rfl, ?_⟩
      | refine ⟨Or.inr (Or.inl rfl), ?_⟩
      | refine ⟨Or.inr (Or.inr rfl), ?_⟩
      | refine ⟨Or.inr ⟨rfl, (by first | exact Or.inl rfl | exact Or.inr rfl | assumption)⟩, ?_⟩
      | refine ⟨fun h => absurd h (by decide), fun _ => ?_⟩
      | refine ⟨fun _ => ?_, fun h => absurd h (by decide)⟩
      | refine ⟨fun h => ?_, fun h => ?_⟩
      | fail)
  | succ k ih =>
    intro i μ hk hi3 hr
    by_cases hi : i + 6 ≤ S.1
    case neg =>
      have c1 : Int32.ofNat S.1 - 6 < nI i := (l_cmp hL (by omega)).mpr hi
      repeat' (first
        | refine br_t c1 ?_
        | exact (rfl : lK (some (zI 1)) μ)
        | (refine zl k_L_head rfl ?_; conv => whnf)
        | refine ⟨Nat.zero_lt_one, rfl, ?_⟩
        | refine ⟨rfl, ?_⟩
        | refine ⟨⟨Nat.zero_lt_one, rfl⟩, Nat.le_of_ble_eq_true rfl, ?_⟩
        | refine ⟨Nat.le_of_ble_eq_true rfl, Nat.le_of_ble_eq_true rfl, ?_⟩
        | refine ⟨(by first | exact Nat.zero_lt_one | assumption | omega), (by first | assumption | exact vp_in_nI (by omega) (by omega) | (unfold vp_in; decide)), ?_⟩
        | refine ⟨(by first | exact Nat.zero_lt_one | assumption | omega), rfl, ?_⟩
        | refine ⟨⟨(by first | exact Nat.zero_lt_one | assumption | omega), rfl⟩, Nat.le_of_ble_eq_true rfl, ?_⟩
        | refine ⟨(by first | exact Nat.zero_lt_one | assumption | omega), ?_⟩
        | refine ⟨Or.inl rfl, ?_⟩
        | refine ⟨Or.inr (Or.inl rfl), ?_⟩
        | refine ⟨Or.inr (Or.inr rfl), ?_⟩
        | refine ⟨Or.inr ⟨rfl, (by first | exact Or.inl rfl | exact Or.inr rfl | assumption)⟩, ?_⟩
        | refine ⟨fun h => absurd h (by decide), fun _ => ?_⟩
        | refine ⟨fun _ => ?_, fun h => absurd h (by decide)⟩
        | refine ⟨fun h => ?_, fun h => ?_⟩
        | fail)
    have c1 : ¬ Int32.ofNat S.1 - 6 < nI i := fun q => (l_cmp hL (by omega)).mp q hi
    have v0 : vp_in (nI i) S.1 := vp_in_nI (by omega) (by omega)
    have hend : ∀ μ', Rel μ' → lG S 1422 [some (zR 201 0), some (zR 0 0), some (zR 48 0), some (zI (nI i))] [] μ' := fun μ' h' => by
      have hg := ih (i + 6) μ' (by omega) (by omega) h'
      have e6 : nI i + 6 = nI (i + 6) := nI_add i 6
      repeat' (first
        | (rw [e6]; exact hg)
        | (refine zl k_L_head rfl ?_; conv => whnf)
        | refine ⟨Nat.zero_lt_one, rfl, ?_⟩
        | refine ⟨rfl, ?_⟩
        | refine ⟨⟨Nat.zero_lt_one, rfl⟩, Nat.le_of_ble_eq_true rfl, ?_⟩
        | refine ⟨Nat.le_of_ble_eq_true rfl, Nat.le_of_ble_eq_true rfl, ?_⟩
        | refine ⟨(by first | exact Nat.zero_lt_one | assumption | omega), (by first | assumption | exact vp_in_nI (by omega) (by omega) | (unfold vp_in; decide)), ?_⟩
        | refine ⟨(by first | exact Nat.zero_lt_one | assumption | omega), rfl, ?_⟩
        | refine ⟨⟨(by first | exact Nat.zero_lt_one | assumption | omega), rfl⟩, Nat.le_of_ble_eq_true rfl, ?_⟩
        | refine ⟨(by first | exact Nat.zero_lt_one | assumption | omega), ?_⟩
        | refine ⟨Or.inl rfl, ?_⟩
        | refine ⟨Or.inr (Or.inl rfl), ?_⟩
        | refine ⟨Or.inr (Or.inr rfl), ?_⟩
        | refine ⟨Or.inr ⟨rfl, (by first | exact Or.inl rfl | exact Or.inr rfl | assumption)⟩, ?_⟩
        | refine ⟨fun h => absurd h (by decide), fun _ => ?_⟩
        | refine ⟨fun _ => ?_, fun h => absurd h (by decide)⟩
        | refine ⟨fun h => ?_, fun h => ?_⟩
        | fail)
    repeat' (first
      | refine ⟨(by with_reducible assumption), ?_⟩
      | refine br_f c1 ?_
      | exact l_state hr hi hL hend
      | exact l_person hr hi hL hend
      | exact l_paper hr hi hL hend
      | exact l_there hr hi hL hend
      | exact l_split hr hi hL hend
      | exact l_about hr hi hL hend
      | exact l_feed hr hi hL hend
      | exact l_wipe hr hi hL hend
      | exact l_rule hr hi hL hend
      | exact l_ends hr hi hL hend
      | exact l_decides hr hi hL hend
      | exact l_hand hr hi hL hend
      | exact l_ahead hr hi hL hend
      | exact l_why hr hi hL hend
      | exact l_quarrel hr hi hL hend
      | exact l_order hr hi hL hend
      | exact l_ring hr hi hL hend
      | exact l_dean hr hi hL hend
      | exact l_table hr hi hL hend
      | exact l_feud hr hi hL hend
      | exact l_talk hr hi hL hend
      | exact l_sit hr hi hL hend
      | exact l_price hr hi hL hend
      | exact l_keeps hr hi hL hend
      | exact l_lay hr hi hL hend
      | exact l_close hr hi hL hend
      | exact l_seat hr hi hL hend
      | exact l_visit hr hi hL hend
      | exact l_card hr hi hL hend
      | exact l_owes hr hi hL hend
      | exact l_within hr hi hL hend
      | exact l_count hr hi hL hend
      | exact hend μ hr
      | (refine zl k_L_head rfl ?_; conv => whnf)
      | refine ⟨Nat.zero_lt_one, rfl, ?_⟩
      | refine ⟨rfl, ?_⟩
      | refine ⟨⟨Nat.zero_lt_one, rfl⟩, Nat.le_of_ble_eq_true rfl, ?_⟩
      | refine ⟨Nat.le_of_ble_eq_true rfl, Nat.le_of_ble_eq_true rfl, ?_⟩
      | refine ⟨(by first | exact Nat.zero_lt_one | assumption | omega), (by first | assumption | exact vp_in_nI (by omega) (by omega) | (unfold vp_in; decide)), ?_⟩
      | refine ⟨(by first | exact Nat.zero_lt_one | assumption | omega), rfl, ?_⟩
      | refine ⟨⟨(by first | exact Nat.zero_lt_one | assumption | omega), rfl⟩, Nat.le_of_ble_eq_true rfl, ?_⟩
      | refine ⟨(by first | exact Nat.zero_lt_one | assumption | omega), ?_⟩
      | refine ⟨Or.inl rfl, ?_⟩
      | refine ⟨Or.inr (Or.inl rfl), ?_⟩
      | refine ⟨Or.inr (Or.inr rfl), ?_⟩
      | refine ⟨Or.inr ⟨rfl, (by first | exact Or.inl rfl | exact Or.inr rfl | assumption)⟩, ?_⟩
      | refine ⟨fun h => absurd h (by decide), fun _ => ?_⟩
      | refine ⟨fun _ => ?_, fun h => absurd h (by decide)⟩
      | refine ⟨fun h => ?_, fun h => ?_⟩
      | fail)
