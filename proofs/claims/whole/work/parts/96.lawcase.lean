/-! THE LAW: a case each -/
theorem l_state {S : Nat × (Nat → Int32)} {i : Nat} {μ : zMu} (h : Rel μ) (hi : i + 6 ≤ S.1) (hL : S.1 ≤ 3072) (go : ∀ μ', Rel μ' → lG S 1422 [some (zR 201 0), some (zR 0 0), some (zR 48 0), some (zI (nI i))] [] μ') : lG S 176 [some (zR 201 0), some (zR 0 0), some (zR 48 0), some (zI (nI i))] [] μ := by
  obtain ⟨v1, v2, v3, v4, v5⟩ := l_in hi hL
  repeat' (first
    | refine ⟨(by with_reducible assumption), ?_⟩
    | refine b_state h _ _ (fun a μ1 hm => ?_)
    | refine hm _ _ (fun μ2 h2 => ?_)
    | refine br_t rfl ?_
    | exact go μ2 h2
    | (refine zl k_L_state rfl ?_; conv => whnf)
    | refine ⟨Nat.zero_lt_one, rfl, ?_⟩
    | refine ⟨rfl, ?_⟩
    | refine ⟨⟨Nat.zero_lt_one, rfl⟩, Nat.le_of_ble_eq_true rfl, ?_⟩
    | refine ⟨Nat.le_of_ble_eq_true rfl, Nat.le_of_ble_eq_true rfl, ?_⟩
    | refine ⟨(by first | exact Nat.zero_lt_one | assumption | omega), (by first | assumption | exact vp_in_nI (by omega) (by omega) | (unfold vp_in; decide)), ?_⟩
    | refine ⟨(by first | exact Nat.zero_lt_one | assumption | omega), rfl, ?_⟩
    | refine ⟨⟨(by first | exact Nat.zero_lt_one | assumption | omega), rfl⟩, Nat.le_of_ble_eq_true rfl, ?_⟩
    | refine ⟨(by first | exact Nat.zero_lt_one | assumption | omega), ?_⟩
    | refine ⟨Or.inl rfl, ?_⟩
    | refine ⟨Or.inr (Or.inl rfl), ?_⟩
    | refine ⟨Or.inr (Or.inr rfl), ?_⟩
    | refine ⟨Or.inr ⟨rfl, (by first | exact Or.inl rfl | exact Or.inr rfl | assumption)⟩, ?_⟩
    | refine ⟨fun h => absurd h (by decide), fun _ => ?_⟩
    | refine ⟨fun _ => ?_, fun h => absurd h (by decide)⟩
    | refine ⟨fun h => ?_, fun h => ?_⟩
    | fail)
theorem l_person {S : Nat × (Nat → Int32)} {i : Nat} {μ : zMu} (h : Rel μ) (hi : i + 6 ≤ S.1) (hL : S.1 ≤ 3072) (go : ∀ μ', Rel μ' → lG S 1422 [some (zR 201 0), some (zR 0 0), some (zR 48 0), some (zI (nI i))] [] μ') : lG S 209 [some (zR 201 0), some (zR 0 0), some (zR 48 0), some (zI (nI i))] [] μ := by
  obtain ⟨v1, v2, v3, v4, v5⟩ := l_in hi hL
  repeat' (first
    | refine ⟨(by with_reducible assumption), ?_⟩
    | refine b_person h _ _ (fun a μ1 hm => ?_)
    | refine hm _ _ (fun μ2 h2 => ?_)
    | refine br_t rfl ?_
    | exact go μ2 h2
    | (refine zl k_L_person rfl ?_; conv => whnf)
    | refine ⟨Nat.zero_lt_one, rfl, ?_⟩
    | refine ⟨rfl, ?_⟩
    | refine ⟨⟨Nat.zero_lt_one, rfl⟩, Nat.le_of_ble_eq_true rfl, ?_⟩
    | refine ⟨Nat.le_of_ble_eq_true rfl, Nat.le_of_ble_eq_true rfl, ?_⟩
    | refine ⟨(by first | exact Nat.zero_lt_one | assumption | omega), (by first | assumption | exact vp_in_nI (by omega) (by omega) | (unfold vp_in; decide)), ?_⟩
    | refine ⟨(by first | exact Nat.zero_lt_one | assumption | omega), rfl, ?_⟩
    | refine ⟨⟨(by first | exact Nat.zero_lt_one | assumption | omega), rfl⟩, Nat.le_of_ble_eq_true rfl, ?_⟩
    | refine ⟨(by first | exact Nat.zero_lt_one | assumption | omega), ?_⟩
    | refine ⟨Or.inl rfl, ?_⟩
    | refine ⟨Or.inr (Or.inl rfl), ?_⟩
    | refine ⟨Or.inr (Or.inr rfl), ?_⟩
    | refine ⟨Or.inr ⟨rfl, (by first | exact Or.inl rfl | exact Or.inr rfl | assumption)⟩, ?_⟩
    | refine ⟨fun h => absurd h (by decide), fun _ => ?_⟩
    | refine ⟨fun _ => ?_, fun h => absurd h (by decide)⟩
    | refine ⟨fun h => ?_, fun h => ?_⟩
    | fail)
theorem l_paper {S : Nat × (Nat → Int32)} {i : Nat} {μ : zMu} (h : Rel μ) (hi : i + 6 ≤ S.1) (hL : S.1 ≤ 3072) (go : ∀ μ', Rel μ' → lG S 1422 [some (zR 201 0), some (zR 0 0), some (zR 48 0), some (zI (nI i))] [] μ') : lG S 272 [some (zR 201 0), some (zR 0 0), some (zR 48 0), some (zI (nI i))] [] μ := by
  obtain ⟨v1, v2, v3, v4, v5⟩ := l_in hi hL
  repeat' (first
    | refine ⟨(by with_reducible assumption), ?_⟩
    | refine b_paper h _ _ (fun a μ1 hm => ?_)
    | refine hm _ _ (fun μ2 h2 => ?_)
    | refine br_t rfl ?_
    | exact go μ2 h2
    | (refine zl k_L_paper rfl ?_; conv => whnf)
    | refine ⟨Nat.zero_lt_one, rfl, ?_⟩
    | refine ⟨rfl, ?_⟩
    | refine ⟨⟨Nat.zero_lt_one, rfl⟩, Nat.le_of_ble_eq_true rfl, ?_⟩
    | refine ⟨Nat.le_of_ble_eq_true rfl, Nat.le_of_ble_eq_true rfl, ?_⟩
    | refine ⟨(by first | exact Nat.zero_lt_one | assumption | omega), (by first | assumption | exact vp_in_nI (by omega) (by omega) | (unfold vp_in; decide)), ?_⟩
    | refine ⟨(by first | exact Nat.zero_lt_one | assumption | omega), rfl, ?_⟩
    | refine ⟨⟨(by first | exact Nat.zero_lt_one | assumption | omega), rfl⟩, Nat.le_of_ble_eq_true rfl, ?_⟩
    | refine ⟨(by first | exact Nat.zero_lt_one | assumption | omega), ?_⟩
    | refine ⟨Or.inl rfl, ?_⟩
    | refine ⟨Or.inr (Or.inl rfl), ?_⟩
    | refine ⟨Or.inr (Or.inr rfl), ?_⟩
    | refine ⟨Or.inr ⟨rfl, (by first | exact Or.inl rfl | exact Or.inr rfl | assumption)⟩, ?_⟩
    | refine ⟨fun h => absurd h (by decide), fun _ => ?_⟩
    | refine ⟨fun _ => ?_, fun h => absurd h (by decide)⟩
    | refine ⟨fun h => ?_, fun h => ?_⟩
    | fail)
theorem l_there {S : Nat × (Nat → Int32)} {i : Nat} {μ : zMu} (h : Rel μ) (hi : i + 6 ≤ S.1) (hL : S.1 ≤ 3072) (go : ∀ μ', Rel μ' → lG S 1422 [some (zR 201 0), some (zR 0 0), some (zR 48 0), some (zI (nI i))] [] μ') : lG S 305 [some (zR 201 0), some (zR 0 0), some (zR 48 0), some (zI (nI i))] [] μ := by
  obtain ⟨v1, v2, v3, v4, v5⟩ := l_in hi hL
  repeat' (first
    | refine ⟨(by with_reducible assumption), ?_⟩
    | refine b_there h _ _ (fun a μ1 hm => ?_)
    | refine hm _ _ (fun μ2 h2 => ?_)
    | refine br_t rfl ?_
    | exact go μ2 h2
    | (refine zl k_L_there rfl ?_; conv => whnf)
    | refine ⟨Nat.zero_lt_one, rfl, ?_⟩
    | refine ⟨rfl, ?_⟩
    | refine ⟨⟨Nat.zero_lt_one, rfl⟩, Nat.le_of_ble_eq_true rfl, ?_⟩
    | refine ⟨Nat.le_of_ble_eq_true rfl, Nat.le_of_ble_eq_true rfl, ?_⟩
    | refine ⟨(by first | exact Nat.zero_lt_one | assumption | omega), (by first | assumption | exact vp_in_nI (by omega) (by omega) | (unfold vp_in; decide)), ?_⟩
    | refine ⟨(by first | exact Nat.zero_lt_one | assumption | omega), rfl, ?_⟩
    | refine ⟨⟨(by first | exact Nat.zero_lt_one | assumption | omega), rfl⟩, Nat.le_of_ble_eq_true rfl, ?_⟩
    | refine ⟨(by first | exact Nat.zero_lt_one | assumption | omega), ?_⟩
    | refine ⟨Or.inl rfl, ?_⟩
    | refine ⟨Or.inr (Or.inl rfl), ?_⟩
    | refine ⟨Or.inr (Or.inr rfl), ?_⟩
    | refine ⟨Or.inr ⟨rfl, (by first | exact Or.inl rfl | exact Or.inr rfl | assumption)⟩, ?_⟩
    | refine ⟨fun h => absurd h (by decide), fun _ => ?_⟩
    | refine ⟨fun _ => ?_, fun h => absurd h (by decide)⟩
    | refine ⟨fun h => ?_, fun h => ?_⟩
    | fail)
theorem l_split {S : Nat × (Nat → Int32)} {i : Nat} {μ : zMu} (h : Rel μ) (hi : i + 6 ≤ S.1) (hL : S.1 ≤ 3072) (go : ∀ μ', Rel μ' → lG S 1422 [some (zR 201 0), some (zR 0 0), some (zR 48 0), some (zI (nI i))] [] μ') : lG S 338 [some (zR 201 0), some (zR 0 0), some (zR 48 0), some (zI (nI i))] [] μ := by
  obtain ⟨v1, v2, v3, v4, v5⟩ := l_in hi hL
  repeat' (first
    | refine ⟨(by with_reducible assumption), ?_⟩
    | refine b_split h _ _ (fun a μ1 hm => ?_)
    | refine hm _ _ (fun μ2 h2 => ?_)
    | refine br_t rfl ?_
    | exact go μ2 h2
    | (refine zl k_L_split rfl ?_; conv => whnf)
    | refine ⟨Nat.zero_lt_one, rfl, ?_⟩
    | refine ⟨rfl, ?_⟩
    | refine ⟨⟨Nat.zero_lt_one, rfl⟩, Nat.le_of_ble_eq_true rfl, ?_⟩
    | refine ⟨Nat.le_of_ble_eq_true rfl, Nat.le_of_ble_eq_true rfl, ?_⟩
    | refine ⟨(by first | exact Nat.zero_lt_one | assumption | omega), (by first | assumption | exact vp_in_nI (by omega) (by omega) | (unfold vp_in; decide)), ?_⟩
    | refine ⟨(by first | exact Nat.zero_lt_one | assumption | omega), rfl, ?_⟩
    | refine ⟨⟨(by first | exact Nat.zero_lt_one | assumption | omega), rfl⟩, Nat.le_of_ble_eq_true rfl, ?_⟩
    | refine ⟨(by first | exact Nat.zero_lt_one | assumption | omega), ?_⟩
    | refine ⟨Or.inl rfl, ?_⟩
    | refine ⟨Or.inr (Or.inl rfl), ?_⟩
    | refine ⟨Or.inr (Or.inr rfl), ?_⟩
    | refine ⟨Or.inr ⟨rfl, (by first | exact Or.inl rfl | exact Or.inr rfl | assumption)⟩, ?_⟩
    | refine ⟨fun h => absurd h (by decide), fun _ => ?_⟩
    | refine ⟨fun _ => ?_, fun h => absurd h (by decide)⟩
    | refine ⟨fun h => ?_, fun h => ?_⟩
    | fail)
theorem l_about {S : Nat × (Nat → Int32)} {i : Nat} {μ : zMu} (h : Rel μ) (hi : i + 6 ≤ S.1) (hL : S.1 ≤ 3072) (go : ∀ μ', Rel μ' → lG S 1422 [some (zR 201 0), some (zR 0 0), some (zR 48 0), some (zI (nI i))] [] μ') : lG S 391 [some (zR 201 0), some (zR 0 0), some (zR 48 0), some (zI (nI i))] [] μ := by
  obtain ⟨v1, v2, v3, v4, v5⟩ := l_in hi hL
  repeat' (first
    | refine ⟨(by with_reducible assumption), ?_⟩
    | refine b_about h _ _ (fun a μ1 hm => ?_)
    | refine hm _ _ (fun μ2 h2 => ?_)
    | refine br_t rfl ?_
    | exact go μ2 h2
    | (refine zl k_L_about rfl ?_; conv => whnf)
    | refine ⟨Nat.zero_lt_one, rfl, ?_⟩
    | refine ⟨rfl, ?_⟩
    | refine ⟨⟨Nat.zero_lt_one, rfl⟩, Nat.le_of_ble_eq_true rfl, ?_⟩
    | refine ⟨Nat.le_of_ble_eq_true rfl, Nat.le_of_ble_eq_true rfl, ?_⟩
    | refine ⟨(by first | exact Nat.zero_lt_one | assumption | omega), (by first | assumption | exact vp_in_nI (by omega) (by omega) | (unfold vp_in; decide)), ?_⟩
    | refine ⟨(by first | exact Nat.zero_lt_one | assumption | omega), rfl, ?_⟩
    | refine ⟨⟨(by first | exact Nat.zero_lt_one | assumption | omega), rfl⟩, Nat.le_of_ble_eq_true rfl, ?_⟩
    | refine ⟨(by first | exact Nat.zero_lt_one | assumption | omega), ?_⟩
    | refine ⟨Or.inl rfl, ?_⟩
    | refine ⟨Or.inr (Or.inl rfl), ?_⟩
    | refine ⟨Or.inr (Or.inr rfl), ?_⟩
    | refine ⟨Or.inr ⟨rfl, (by first | exact Or.inl rfl | exact Or.inr rfl | assumption)⟩, ?_⟩
    | refine ⟨fun h => absurd h (by decide), fun _ => ?_⟩
    | refine ⟨fun _ => ?_, fun h => absurd h (by decide)⟩
    | refine ⟨fun h => ?_, fun h => ?_⟩
    | fail)
theorem l_feed {S : Nat × (Nat → Int32)} {i : Nat} {μ : zMu} (h : Rel μ) (hi : i + 6 ≤ S.1) (hL : S.1 ≤ 3072) (go : ∀ μ', Rel μ' → lG S 1422 [some (zR 201 0), some (zR 0 0), some (zR 48 0), some (zI (nI i))] [] μ') : lG S 424 [some (zR 201 0), some (zR 0 0), some (zR 48 0), some (zI (nI i))] [] μ := by
  obtain ⟨v1, v2, v3, v4, v5⟩ := l_in hi hL
  repeat' (first
    | refine ⟨(by with_reducible assumption), ?_⟩
    | refine b_feed h _ _ (fun a μ1 hm => ?_)
    | refine hm _ _ (fun μ2 h2 => ?_)
    | refine br_t rfl ?_
    | exact go μ2 h2
    | (refine zl k_L_feed rfl ?_; conv => whnf)
    | refine ⟨Nat.zero_lt_one, rfl, ?_⟩
    | refine ⟨rfl, ?_⟩
    | refine ⟨⟨Nat.zero_lt_one, rfl⟩, Nat.le_of_ble_eq_true rfl, ?_⟩
    | refine ⟨Nat.le_of_ble_eq_true rfl, Nat.le_of_ble_eq_true rfl, ?_⟩
    | refine ⟨(by first | exact Nat.zero_lt_one | assumption | omega), (by first | assumption | exact vp_in_nI (by omega) (by omega) | (unfold vp_in; decide)), ?_⟩
    | refine ⟨(by first | exact Nat.zero_lt_one | assumption | omega), rfl, ?_⟩
    | refine ⟨⟨(by first | exact Nat.zero_lt_one | assumption | omega), rfl⟩, Nat.le_of_ble_eq_true rfl, ?_⟩
    | refine ⟨(by first | exact Nat.zero_lt_one | assumption | omega), ?_⟩
    | refine ⟨Or.inl rfl, ?_⟩
    | refine ⟨Or.inr (Or.inl rfl), ?_⟩
    | refine ⟨Or.inr (Or.inr rfl), ?_⟩
    | refine ⟨Or.inr ⟨rfl, (by first | exact Or.inl rfl | exact Or.inr rfl | assumption)⟩, ?_⟩
    | refine ⟨fun h => absurd h (by decide), fun _ => ?_⟩
    | refine ⟨fun _ => ?_, fun h => absurd h (by decide)⟩
    | refine ⟨fun h => ?_, fun h => ?_⟩
    | fail)
theorem l_wipe {S : Nat × (Nat → Int32)} {i : Nat} {μ : zMu} (h : Rel μ) (hi : i + 6 ≤ S.1) (hL : S.1 ≤ 3072) (go : ∀ μ', Rel μ' → lG S 1422 [some (zR 201 0), some (zR 0 0), some (zR 48 0), some (zI (nI i))] [] μ') : lG S 487 [some (zR 201 0), some (zR 0 0), some (zR 48 0), some (zI (nI i))] [] μ := by
  obtain ⟨v1, v2, v3, v4, v5⟩ := l_in hi hL
  repeat' (first
    | refine ⟨(by with_reducible assumption), ?_⟩
    | refine b_wipe h _ _ (fun a μ1 hm => ?_)
    | refine hm _ _ (fun μ2 h2 => ?_)
    | refine br_t rfl ?_
    | exact go μ2 h2
    | (refine zl k_L_wipe rfl ?_; conv => whnf)
    | refine ⟨Nat.zero_lt_one, rfl, ?_⟩
    | refine ⟨rfl, ?_⟩
    | refine ⟨⟨Nat.zero_lt_one, rfl⟩, Nat.le_of_ble_eq_true rfl, ?_⟩
    | refine ⟨Nat.le_of_ble_eq_true rfl, Nat.le_of_ble_eq_true rfl, ?_⟩
    | refine ⟨(by first | exact Nat.zero_lt_one | assumption | omega), (by first | assumption | exact vp_in_nI (by omega) (by omega) | (unfold vp_in; decide)), ?_⟩
    | refine ⟨(by first | exact Nat.zero_lt_one | assumption | omega), rfl, ?_⟩
    | refine ⟨⟨(by first | exact Nat.zero_lt_one | assumption | omega), rfl⟩, Nat.le_of_ble_eq_true rfl, ?_⟩
    | refine ⟨(by first | exact Nat.zero_lt_one | assumption | omega), ?_⟩
    | refine ⟨Or.inl rfl, ?_⟩
    | refine ⟨Or.inr (Or.inl rfl), ?_⟩
    | refine ⟨Or.inr (Or.inr rfl), ?_⟩
    | refine ⟨Or.inr ⟨rfl, (by first | exact Or.inl rfl | exact Or.inr rfl | assumption)⟩, ?_⟩
    | refine ⟨fun h => absurd h (by decide), fun _ => ?_⟩
    | refine ⟨fun _ => ?_, fun h => absurd h (by decide)⟩
    | refine ⟨fun h => ?_, fun h => ?_⟩
    | fail)
theorem l_rule {S : Nat × (Nat → Int32)} {i : Nat} {μ : zMu} (h : Rel μ) (hi : i + 6 ≤ S.1) (hL : S.1 ≤ 3072) (go : ∀ μ', Rel μ' → lG S 1422 [some (zR 201 0), some (zR 0 0), some (zR 48 0), some (zI (nI i))] [] μ') : lG S 500 [some (zR 201 0), some (zR 0 0), some (zR 48 0), some (zI (nI i))] [] μ := by
  obtain ⟨v1, v2, v3, v4, v5⟩ := l_in hi hL
  repeat' (first
    | refine ⟨(by with_reducible assumption), ?_⟩
    | refine b_rule h _ _ (fun a μ1 hm => ?_)
    | refine hm _ _ (fun μ2 h2 => ?_)
    | refine br_t rfl ?_
    | exact go μ2 h2
    | (refine zl k_L_rule rfl ?_; conv => whnf)
    | refine ⟨Nat.zero_lt_one, rfl, ?_⟩
    | refine ⟨rfl, ?_⟩
    | refine ⟨⟨Nat.zero_lt_one, rfl⟩, Nat.le_of_ble_eq_true rfl, ?_⟩
    | refine ⟨Nat.le_of_ble_eq_true rfl, Nat.le_of_ble_eq_true rfl, ?_⟩
    | refine ⟨(by first | exact Nat.zero_lt_one | assumption | omega), (by first | assumption | exact vp_in_nI (by omega) (by omega) | (unfold vp_in; decide)), ?_⟩
    | refine ⟨(by first | exact Nat.zero_lt_one | assumption | omega), rfl, ?_⟩
    | refine ⟨⟨(by first | exact Nat.zero_lt_one | assumption | omega), rfl⟩, Nat.le_of_ble_eq_true rfl, ?_⟩
    | refine ⟨(by first | exact Nat.zero_lt_one | assumption | omega), ?_⟩
    | refine ⟨Or.inl rfl, ?_⟩
    | refine ⟨Or.inr (Or.inl rfl), ?_⟩
    | refine ⟨Or.inr (Or.inr rfl), ?_⟩
    | refine ⟨Or.inr ⟨rfl, (by first | exact Or.inl rfl | exact Or.inr rfl | assumption)⟩, ?_⟩
    | refine ⟨fun h => absurd h (by decide), fun _ => ?_⟩
    | refine ⟨fun _ => ?_, fun h => absurd h (by decide)⟩
    | refine ⟨fun h => ?_, fun h => ?_⟩
    | fail)
theorem l_ends {S : Nat × (Nat → Int32)} {i : Nat} {μ : zMu} (h : Rel μ) (hi : i + 6 ≤ S.1) (hL : S.1 ≤ 3072) (go : ∀ μ', Rel μ' → lG S 1422 [some (zR 201 0), some (zR 0 0), some (zR 48 0), some (zI (nI i))] [] μ') : lG S 533 [some (zR 201 0), some (zR 0 0), some (zR 48 0), some (zI (nI i))] [] μ := by
  obtain ⟨v1, v2, v3, v4, v5⟩ := l_in hi hL
  repeat' (first
    | refine ⟨(by with_reducible assumption), ?_⟩
    | refine b_ends h _ _ (fun a μ1 hm => ?_)
    | refine hm _ _ (fun μ2 h2 => ?_)
    | refine br_t rfl ?_
    | exact go μ2 h2
    | (refine zl k_L_ends rfl ?_; conv => whnf)
    | refine ⟨Nat.zero_lt_one, rfl, ?_⟩
    | refine ⟨rfl, ?_⟩
    | refine ⟨⟨Nat.zero_lt_one, rfl⟩, Nat.le_of_ble_eq_true rfl, ?_⟩
    | refine ⟨Nat.le_of_ble_eq_true rfl, Nat.le_of_ble_eq_true rfl, ?_⟩
    | refine ⟨(by first | exact Nat.zero_lt_one | assumption | omega), (by first | assumption | exact vp_in_nI (by omega) (by omega) | (unfold vp_in; decide)), ?_⟩
    | refine ⟨(by first | exact Nat.zero_lt_one | assumption | omega), rfl, ?_⟩
    | refine ⟨⟨(by first | exact Nat.zero_lt_one | assumption | omega), rfl⟩, Nat.le_of_ble_eq_true rfl, ?_⟩
    | refine ⟨(by first | exact Nat.zero_lt_one | assumption | omega), ?_⟩
    | refine ⟨Or.inl rfl, ?_⟩
    | refine ⟨Or.inr (Or.inl rfl), ?_⟩
    | refine ⟨Or.inr (Or.inr rfl), ?_⟩
    | refine ⟨Or.inr ⟨rfl, (by first | exact Or.inl rfl | exact Or.inr rfl | assumption)⟩, ?_⟩
    | refine ⟨fun h => absurd h (by decide), fun _ => ?_⟩
    | refine ⟨fun _ => ?_, fun h => absurd h (by decide)⟩
    | refine ⟨fun h => ?_, fun h => ?_⟩
    | fail)
theorem l_decides {S : Nat × (Nat → Int32)} {i : Nat} {μ : zMu} (h : Rel μ) (hi : i + 6 ≤ S.1) (hL : S.1 ≤ 3072) (go : ∀ μ', Rel μ' → lG S 1422 [some (zR 201 0), some (zR 0 0), some (zR 48 0), some (zI (nI i))] [] μ') : lG S 566 [some (zR 201 0), some (zR 0 0), some (zR 48 0), some (zI (nI i))] [] μ := by
  obtain ⟨v1, v2, v3, v4, v5⟩ := l_in hi hL
  repeat' (first
    | refine ⟨(by with_reducible assumption), ?_⟩
    | refine b_decides h _ _ (fun a μ1 hm => ?_)
    | refine hm _ _ (fun μ2 h2 => ?_)
    | refine br_t rfl ?_
    | exact go μ2 h2
    | (refine zl k_L_decides rfl ?_; conv => whnf)
    | refine ⟨Nat.zero_lt_one, rfl, ?_⟩
    | refine ⟨rfl, ?_⟩
    | refine ⟨⟨Nat.zero_lt_one, rfl⟩, Nat.le_of_ble_eq_true rfl, ?_⟩
    | refine ⟨Nat.le_of_ble_eq_true rfl, Nat.le_of_ble_eq_true rfl, ?_⟩
    | refine ⟨(by first | exact Nat.zero_lt_one | assumption | omega), (by first | assumption | exact vp_in_nI (by omega) (by omega) | (unfold vp_in; decide)), ?_⟩
    | refine ⟨(by first | exact Nat.zero_lt_one | assumption | omega), rfl, ?_⟩
    | refine ⟨⟨(by first | exact Nat.zero_lt_one | assumption | omega), rfl⟩, Nat.le_of_ble_eq_true rfl, ?_⟩
    | refine ⟨(by first | exact Nat.zero_lt_one | assumption | omega), ?_⟩
    | refine ⟨Or.inl rfl, ?_⟩
    | refine ⟨Or.inr (Or.inl rfl), ?_⟩
    | refine ⟨Or.inr (Or.inr rfl), ?_⟩
    | refine ⟨Or.inr ⟨rfl, (by first | exact Or.inl rfl | exact Or.inr rfl | assumption)⟩, ?_⟩
    | refine ⟨fun h => absurd h (by decide), fun _ => ?_⟩
    | refine ⟨fun _ => ?_, fun h => absurd h (by decide)⟩
    | refine ⟨fun h => ?_, fun h => ?_⟩
    | fail)
theorem l_hand {S : Nat × (Nat → Int32)} {i : Nat} {μ : zMu} (h : Rel μ) (hi : i + 6 ≤ S.1) (hL : S.1 ≤ 3072) (go : ∀ μ', Rel μ' → lG S 1422 [some (zR 201 0), some (zR 0 0), some (zR 48 0), some (zI (nI i))] [] μ') : lG S 629 [some (zR 201 0), some (zR 0 0), some (zR 48 0), some (zI (nI i))] [] μ := by
  obtain ⟨v1, v2, v3, v4, v5⟩ := l_in hi hL
  repeat' (first
    | refine ⟨(by with_reducible assumption), ?_⟩
    | refine b_hand h _ _ (fun a μ1 hm => ?_)
    | refine hm _ _ (fun μ2 h2 => ?_)
    | refine br_t rfl ?_
    | exact go μ2 h2
    | (refine zl k_L_hand rfl ?_; conv => whnf)
    | refine ⟨Nat.zero_lt_one, rfl, ?_⟩
    | refine ⟨rfl, ?_⟩
    | refine ⟨⟨Nat.zero_lt_one, rfl⟩, Nat.le_of_ble_eq_true rfl, ?_⟩
    | refine ⟨Nat.le_of_ble_eq_true rfl, Nat.le_of_ble_eq_true rfl, ?_⟩
    | refine ⟨(by first | exact Nat.zero_lt_one | assumption | omega), (by first | assumption | exact vp_in_nI (by omega) (by omega) | (unfold vp_in; decide)), ?_⟩
    | refine ⟨(by first | exact Nat.zero_lt_one | assumption | omega), rfl, ?_⟩
    | refine ⟨⟨(by first | exact Nat.zero_lt_one | assumption | omega), rfl⟩, Nat.le_of_ble_eq_true rfl, ?_⟩
    | refine ⟨(by first | exact Nat.zero_lt_one | assumption | omega), ?_⟩
    | refine ⟨Or.inl rfl, ?_⟩
    | refine ⟨Or.inr (Or.inl rfl), ?_⟩
    | refine ⟨Or.inr (Or.inr rfl), ?_⟩
    | refine ⟨Or.inr ⟨rfl, (by first | exact Or.inl rfl | exact Or.inr rfl | assumption)⟩, ?_⟩
    | refine ⟨fun h => absurd h (by decide), fun _ => ?_⟩
    | refine ⟨fun _ => ?_, fun h => absurd h (by decide)⟩
    | refine ⟨fun h => ?_, fun h => ?_⟩
    | fail)
theorem l_ahead {S : Nat × (Nat → Int32)} {i : Nat} {μ : zMu} (h : Rel μ) (hi : i + 6 ≤ S.1) (hL : S.1 ≤ 3072) (go : ∀ μ', Rel μ' → lG S 1422 [some (zR 201 0), some (zR 0 0), some (zR 48 0), some (zI (nI i))] [] μ') : lG S 662 [some (zR 201 0), some (zR 0 0), some (zR 48 0), some (zI (nI i))] [] μ := by
  obtain ⟨v1, v2, v3, v4, v5⟩ := l_in hi hL
  repeat' (first
    | refine ⟨(by with_reducible assumption), ?_⟩
    | refine b_ahead h _ _ (fun a μ1 hm => ?_)
    | refine hm _ _ (fun μ2 h2 => ?_)
    | refine br_t rfl ?_
    | exact go μ2 h2
    | (refine zl k_L_ahead rfl ?_; conv => whnf)
    | refine ⟨Nat.zero_lt_one, rfl, ?_⟩
    | refine ⟨rfl, ?_⟩
    | refine ⟨⟨Nat.zero_lt_one, rfl⟩, Nat.le_of_ble_eq_true rfl, ?_⟩
    | refine ⟨Nat.le_of_ble_eq_true rfl, Nat.le_of_ble_eq_true rfl, ?_⟩
    | refine ⟨(by first | exact Nat.zero_lt_one | assumption | omega), (by first | assumption | exact vp_in_nI (by omega) (by omega) | (unfold vp_in; decide)), ?_⟩
    | refine ⟨(by first | exact Nat.zero_lt_one | assumption | omega), rfl, ?_⟩
    | refine ⟨⟨(by first | exact Nat.zero_lt_one | assumption | omega), rfl⟩, Nat.le_of_ble_eq_true rfl, ?_⟩
    | refine ⟨(by first | exact Nat.zero_lt_one | assumption | omega), ?_⟩
    | refine ⟨Or.inl rfl, ?_⟩
    | refine ⟨Or.inr (Or.inl rfl), ?_⟩
    | refine ⟨Or.inr (Or.inr rfl), ?_⟩
    | refine ⟨Or.inr ⟨rfl, (by first | exact Or.inl rfl | exact Or.inr rfl | assumption)⟩, ?_⟩
    | refine ⟨fun h => absurd h (by decide), fun _ => ?_⟩
    | refine ⟨fun _ => ?_, fun h => absurd h (by decide)⟩
    | refine ⟨fun h => ?_, fun h => ?_⟩
    | fail)
theorem l_why {S : Nat × (Nat → Int32)} {i : Nat} {μ : zMu} (h : Rel μ) (hi : i + 6 ≤ S.1) (hL : S.1 ≤ 3072) (go : ∀ μ', Rel μ' → lG S 1422 [some (zR 201 0), some (zR 0 0), some (zR 48 0), some (zI (nI i))] [] μ') : lG S 715 [some (zR 201 0), some (zR 0 0), some (zR 48 0), some (zI (nI i))] [] μ := by
  obtain ⟨v1, v2, v3, v4, v5⟩ := l_in hi hL
  repeat' (first
    | refine ⟨(by with_reducible assumption), ?_⟩
    | refine b_why h _ _ (fun a μ1 hm => ?_)
    | refine hm _ _ (fun μ2 h2 => ?_)
    | refine br_t rfl ?_
    | exact go μ2 h2
    | (refine zl k_L_why rfl ?_; conv => whnf)
    | refine ⟨Nat.zero_lt_one, rfl, ?_⟩
    | refine ⟨rfl, ?_⟩
    | refine ⟨⟨Nat.zero_lt_one, rfl⟩, Nat.le_of_ble_eq_true rfl, ?_⟩
    | refine ⟨Nat.le_of_ble_eq_true rfl, Nat.le_of_ble_eq_true rfl, ?_⟩
    | refine ⟨(by first | exact Nat.zero_lt_one | assumption | omega), (by first | assumption | exact vp_in_nI (by omega) (by omega) | (unfold vp_in; decide)), ?_⟩
    | refine ⟨(by first | exact Nat.zero_lt_one | assumption | omega), rfl, ?_⟩
    | refine ⟨⟨(by first | exact Nat.zero_lt_one | assumption | omega), rfl⟩, Nat.le_of_ble_eq_true rfl, ?_⟩
    | refine ⟨(by first | exact Nat.zero_lt_one | assumption | omega), ?_⟩
    | refine ⟨Or.inl rfl, ?_⟩
    | refine ⟨Or.inr (Or.inl rfl), ?_⟩
    | refine ⟨Or.inr (Or.inr rfl), ?_⟩
    | refine ⟨Or.inr ⟨rfl, (by first | exact Or.inl rfl | exact Or.inr rfl | assumption)⟩, ?_⟩
    | refine ⟨fun h => absurd h (by decide), fun _ => ?_⟩
    | refine ⟨fun _ => ?_, fun h => absurd h (by decide)⟩
    | refine ⟨fun h => ?_, fun h => ?_⟩
    | fail)
theorem l_quarrel {S : Nat × (Nat → Int32)} {i : Nat} {μ : zMu} (h : Rel μ) (hi : i + 6 ≤ S.1) (hL : S.1 ≤ 3072) (go : ∀ μ', Rel μ' → lG S 1422 [some (zR 201 0), some (zR 0 0), some (zR 48 0), some (zI (nI i))] [] μ') : lG S 768 [some (zR 201 0), some (zR 0 0), some (zR 48 0), some (zI (nI i))] [] μ := by
  obtain ⟨v1, v2, v3, v4, v5⟩ := l_in hi hL
  repeat' (first
    | refine ⟨(by with_reducible assumption), ?_⟩
    | refine b_quarrel h _ _ (fun a μ1 hm => ?_)
    | refine hm _ _ (fun μ2 h2 => ?_)
    | refine br_t rfl ?_
    | exact go μ2 h2
    | (refine zl k_L_quarrel rfl ?_; conv => whnf)
    | refine ⟨Nat.zero_lt_one, rfl, ?_⟩
    | refine ⟨rfl, ?_⟩
    | refine ⟨⟨Nat.zero_lt_one, rfl⟩, Nat.le_of_ble_eq_true rfl, ?_⟩
    | refine ⟨Nat.le_of_ble_eq_true rfl, Nat.le_of_ble_eq_true rfl, ?_⟩
    | refine ⟨(by first | exact Nat.zero_lt_one | assumption | omega), (by first | assumption | exact vp_in_nI (by omega) (by omega) | (unfold vp_in; decide)), ?_⟩
    | refine ⟨(by first | exact Nat.zero_lt_one | assumption | omega), rfl, ?_⟩
    | refine ⟨⟨(by first | exact Nat.zero_lt_one | assumption | omega), rfl⟩, Nat.le_of_ble_eq_true rfl, ?_⟩
    | refine ⟨(by first | exact Nat.zero_lt_one | assumption | omega), ?_⟩
    | refine ⟨Or.inl rfl, ?_⟩
    | refine ⟨Or.inr (Or.inl rfl), ?_⟩
    | refine ⟨Or.inr (Or.inr rfl), ?_⟩
    | refine ⟨Or.inr ⟨rfl, (by first | exact Or.inl rfl | exact Or.inr rfl | assumption)⟩, ?_⟩
    | refine ⟨fun h => absurd h (by decide), fun _ => ?_⟩
    | refine ⟨fun _ => ?_, fun h => absurd h (by decide)⟩
    | refine ⟨fun h => ?_, fun h => ?_⟩
    | fail)
theorem l_order {S : Nat × (Nat → Int32)} {i : Nat} {μ : zMu} (h : Rel μ) (hi : i + 6 ≤ S.1) (hL : S.1 ≤ 3072) (go : ∀ μ', Rel μ' → lG S 1422 [some (zR 201 0), some (zR 0 0), some (zR 48 0), some (zI (nI i))] [] μ') : lG S 821 [some (zR 201 0), some (zR 0 0), some (zR 48 0), some (zI (nI i))] [] μ := by
  obtain ⟨v1, v2, v3, v4, v5⟩ := l_in hi hL
  repeat' (first
    | refine ⟨(by with_reducible assumption), ?_⟩
    | refine b_order h _ _ (fun a μ1 hm => ?_)
    | refine hm _ _ (fun μ2 h2 => ?_)
    | refine br_t rfl ?_
    | exact go μ2 h2
    | (refine zl k_L_order rfl ?_; conv => whnf)
    | refine ⟨Nat.zero_lt_one, rfl, ?_⟩
    | refine ⟨rfl, ?_⟩
    | refine ⟨⟨Nat.zero_lt_one, rfl⟩, Nat.le_of_ble_eq_true rfl, ?_⟩
    | refine ⟨Nat.le_of_ble_eq_true rfl, Nat.le_of_ble_eq_true rfl, ?_⟩
    | refine ⟨(by first | exact Nat.zero_lt_one | assumption | omega), (by first | assumption | exact vp_in_nI (by omega) (by omega) | (unfold vp_in; decide)), ?_⟩
    | refine ⟨(by first | exact Nat.zero_lt_one | assumption | omega), rfl, ?_⟩
    | refine ⟨⟨(by first | exact Nat.zero_lt_one | assumption | omega), rfl⟩, Nat.le_of_ble_eq_true rfl, ?_⟩
    | refine ⟨(by first | exact Nat.zero_lt_one | assumption | omega), ?_⟩
    | refine ⟨Or.inl rfl, ?_⟩
    | refine ⟨Or.inr (Or.inl rfl), ?_⟩
    | refine ⟨Or.inr (Or.inr rfl), ?_⟩
    | refine ⟨Or.inr ⟨rfl, (by first | exact Or.inl rfl | exact Or.inr rfl | assumption)⟩, ?_⟩
    | refine ⟨fun h => absurd h (by decide), fun _ => ?_⟩
    | refine ⟨fun _ => ?_, fun h => absurd h (by decide)⟩
    | refine ⟨fun h => ?_, fun h => ?_⟩
    | fail)
theorem l_ring {S : Nat × (Nat → Int32)} {i : Nat} {μ : zMu} (h : Rel μ) (hi : i + 6 ≤ S.1) (hL : S.1 ≤ 3072) (go : ∀ μ', Rel μ' → lG S 1422 [some (zR 201 0), some (zR 0 0), some (zR 48 0), some (zI (nI i))] [] μ') : lG S 864 [some (zR 201 0), some (zR 0 0), some (zR 48 0), some (zI (nI i))] [] μ := by
  obtain ⟨v1, v2, v3, v4, v5⟩ := l_in hi hL
  repeat' (first
    | refine ⟨(by with_reducible assumption), ?_⟩
    | refine b_ring h _ _ (fun a μ1 hm => ?_)
    | refine hm _ _ (fun μ2 h2 => ?_)
    | refine br_t rfl ?_
    | exact go μ2 h2
    | (refine zl k_L_ring rfl ?_; conv => whnf)
    | refine ⟨Nat.zero_lt_one, rfl, ?_⟩
    | refine ⟨rfl, ?_⟩
    | refine ⟨⟨Nat.zero_lt_one, rfl⟩, Nat.le_of_ble_eq_true rfl, ?_⟩
    | refine ⟨Nat.le_of_ble_eq_true rfl, Nat.le_of_ble_eq_true rfl, ?_⟩
    | refine ⟨(by first | exact Nat.zero_lt_one | assumption | omega), (by first | assumption | exact vp_in_nI (by omega) (by omega) | (unfold vp_in; decide)), ?_⟩
    | refine ⟨(by first | exact Nat.zero_lt_one | assumption | omega), rfl, ?_⟩
    | refine ⟨⟨(by first | exact Nat.zero_lt_one | assumption | omega), rfl⟩, Nat.le_of_ble_eq_true rfl, ?_⟩
    | refine ⟨(by first | exact Nat.zero_lt_one | assumption | omega), ?_⟩
    | refine ⟨Or.inl rfl, ?_⟩
    | refine ⟨Or.inr (Or.inl rfl), ?_⟩
    | refine ⟨Or.inr (Or.inr rfl), ?_⟩
    | refine ⟨Or.inr ⟨rfl, (by first | exact Or.inl rfl | exact Or.inr rfl | assumption)⟩, ?_⟩
    | refine ⟨fun h => absurd h (by decide), fun _ => ?_⟩
    | refine ⟨fun _ => ?_, fun h => absurd h (by decide)⟩
    | refine ⟨fun h => ?_, fun h => ?_⟩
    | fail)
theorem l_dean {S : Nat × (Nat → Int32)} {i : Nat} {μ : zMu} (h : Rel μ) (hi : i + 6 ≤ S.1) (hL : S.1 ≤ 3072) (go : ∀ μ', Rel μ' → lG S 1422 [some (zR 201 0), some (zR 0 0), some (zR 48 0), some (zI (nI i))] [] μ') : lG S 907 [some (zR 201 0), some (zR 0 0), some (zR 48 0), some (zI (nI i))] [] μ := by
  obtain ⟨v1, v2, v3, v4, v5⟩ := l_in hi hL
  repeat' (first
    | refine ⟨(by with_reducible assumption), ?_⟩
    | refine b_dean h _ _ (fun a μ1 hm => ?_)
    | refine hm _ _ (fun μ2 h2 => ?_)
    | refine br_t rfl ?_
    | exact go μ2 h2
    | (refine zl k_L_dean rfl ?_; conv => whnf)
    | refine ⟨Nat.zero_lt_one, rfl, ?_⟩
    | refine ⟨rfl, ?_⟩
    | refine ⟨⟨Nat.zero_lt_one, rfl⟩, Nat.le_of_ble_eq_true rfl, ?_⟩
    | refine ⟨Nat.le_of_ble_eq_true rfl, Nat.le_of_ble_eq_true rfl, ?_⟩
    | refine ⟨(by first | exact Nat.zero_lt_one | assumption | omega), (by first | assumption | exact vp_in_nI (by omega) (by omega) | (unfold vp_in; decide)), ?_⟩
    | refine ⟨(by first | exact Nat.zero_lt_one | assumption | omega), rfl, ?_⟩
    | refine ⟨⟨(by first | exact Nat.zero_lt_one | assumption | omega), rfl⟩, Nat.le_of_ble_eq_true rfl, ?_⟩
    | refine ⟨(by first | exact Nat.zero_lt_one | assumption | omega), ?_⟩
    | refine ⟨Or.inl rfl, ?_⟩
    | refine ⟨Or.inr (Or.inl rfl), ?_⟩
    | refine ⟨Or.inr (Or.inr rfl), ?_⟩
    | refine ⟨Or.inr ⟨rfl, (by first | exact Or.inl rfl | exact Or.inr rfl | assumption)⟩, ?_⟩
    | refine ⟨fun h => absurd h (by decide), fun _ => ?_⟩
    | refine ⟨fun _ => ?_, fun h => absurd h (by decide)⟩
    | refine ⟨fun h => ?_, fun h => ?_⟩
    | fail)
theorem l_table {S : Nat × (Nat → Int32)} {i : Nat} {μ : zMu} (h : Rel μ) (hi : i + 6 ≤ S.1) (hL : S.1 ≤ 3072) (go : ∀ μ', Rel μ' → lG S 1422 [some (zR 201 0), some (zR 0 0), some (zR 48 0), some (zI (nI i))] [] μ') : lG S 920 [some (zR 201 0), some (zR 0 0), some (zR 48 0), some (zI (nI i))] [] μ := by
  obtain ⟨v1, v2, v3, v4, v5⟩ := l_in hi hL
  repeat' (first
    | refine ⟨(by with_reducible assumption), ?_⟩
    | refine b_table h _ _ (fun a μ1 hm => ?_)
    | refine hm _ _ (fun μ2 h2 => ?_)
    | refine br_t rfl ?_
    | exact go μ2 h2
    | (refine zl k_L_table rfl ?_; conv => whnf)
    | refine ⟨Nat.zero_lt_one, rfl, ?_⟩
    | refine ⟨rfl, ?_⟩
    | refine ⟨⟨Nat.zero_lt_one, rfl⟩, Nat.le_of_ble_eq_true rfl, ?_⟩
    | refine ⟨Nat.le_of_ble_eq_true rfl, Nat.le_of_ble_eq_true rfl, ?_⟩
    | refine ⟨(by first | exact Nat.zero_lt_one | assumption | omega), (by first | assumption | exact vp_in_nI (by omega) (by omega) | (unfold vp_in; decide)), ?_⟩
    | refine ⟨(by first | exact Nat.zero_lt_one | assumption | omega), rfl, ?_⟩
    | refine ⟨⟨(by first | exact Nat.zero_lt_one | assumption | omega), rfl⟩, Nat.le_of_ble_eq_true rfl, ?_⟩
    | refine ⟨(by first | exact Nat.zero_lt_one | assumption | omega), ?_⟩
    | refine ⟨Or.inl rfl, ?_⟩
    | refine ⟨Or.inr (Or.inl rfl), ?_⟩
    | refine ⟨Or.inr (Or.inr rfl), ?_⟩
    | refine ⟨Or.inr ⟨rfl, (by first | exact Or.inl rfl | exact Or.inr rfl | assumption)⟩, ?_⟩
    | refine ⟨fun h => absurd h (by decide), fun _ => ?_⟩
    | refine ⟨fun _ => ?_, fun h => absurd h (by decide)⟩
    | refine ⟨fun h => ?_, fun h => ?_⟩
    | fail)
theorem l_feud {S : Nat × (Nat → Int32)} {i : Nat} {μ : zMu} (h : Rel μ) (hi : i + 6 ≤ S.1) (hL : S.1 ≤ 3072) (go : ∀ μ', Rel μ' → lG S 1422 [some (zR 201 0), some (zR 0 0), some (zR 48 0), some (zI (nI i))] [] μ') : lG S 953 [some (zR 201 0), some (zR 0 0), some (zR 48 0), some (zI (nI i))] [] μ := by
  obtain ⟨v1, v2, v3, v4, v5⟩ := l_in hi hL
  repeat' (first
    | refine ⟨(by with_reducible assumption), ?_⟩
    | refine b_feud h _ _ (fun a μ1 hm => ?_)
    | refine hm _ _ (fun μ2 h2 => ?_)
    | refine br_t rfl ?_
    | exact go μ2 h2
    | (refine zl k_L_feud rfl ?_; conv => whnf)
    | refine ⟨Nat.zero_lt_one, rfl, ?_⟩
    | refine ⟨rfl, ?_⟩
    | refine ⟨⟨Nat.zero_lt_one, rfl⟩, Nat.le_of_ble_eq_true rfl, ?_⟩
    | refine ⟨Nat.le_of_ble_eq_true rfl, Nat.le_of_ble_eq_true rfl, ?_⟩
    | refine ⟨(by first | exact Nat.zero_lt_one | assumption | omega), (by first | assumption | exact vp_in_nI (by omega) (by omega) | (unfold vp_in; decide)), ?_⟩
    | refine ⟨(by first | exact Nat.zero_lt_one | assumption | omega), rfl, ?_⟩
    | refine ⟨⟨(by first | exact Nat.zero_lt_one | assumption | omega), rfl⟩, Nat.le_of_ble_eq_true rfl, ?_⟩
    | refine ⟨(by first | exact Nat.zero_lt_one | assumption | omega), ?_⟩
    | refine ⟨Or.inl rfl, ?_⟩
    | refine ⟨Or.inr (Or.inl rfl), ?_⟩
    | refine ⟨Or.inr (Or.inr rfl), ?_⟩
    | refine ⟨Or.inr ⟨rfl, (by first | exact Or.inl rfl | exact Or.inr rfl | assumption)⟩, ?_⟩
    | refine ⟨fun h => absurd h (by decide), fun _ => ?_⟩
    | refine ⟨fun _ => ?_, fun h => absurd h (by decide)⟩
    | refine ⟨fun h => ?_, fun h => ?_⟩
    | fail)
theorem l_talk {S : Nat × (Nat → Int32)} {i : Nat} {μ : zMu} (h : Rel μ) (hi : i + 6 ≤ S.1) (hL : S.1 ≤ 3072) (go : ∀ μ', Rel μ' → lG S 1422 [some (zR 201 0), some (zR 0 0), some (zR 48 0), some (zI (nI i))] [] μ') : lG S 996 [some (zR 201 0), some (zR 0 0), some (zR 48 0), some (zI (nI i))] [] μ := by
  obtain ⟨v1, v2, v3, v4, v5⟩ := l_in hi hL
  repeat' (first
    | refine ⟨(by with_reducible assumption), ?_⟩
    | refine b_talk h _ _ (fun a μ1 hm => ?_)
    | refine hm _ _ (fun μ2 h2 => ?_)
    | refine br_t rfl ?_
    | exact go μ2 h2
    | (refine zl k_L_talk rfl ?_; conv => whnf)
    | refine ⟨Nat.zero_lt_one, rfl, ?_⟩
    | refine ⟨rfl, ?_⟩
    | refine ⟨⟨Nat.zero_lt_one, rfl⟩, Nat.le_of_ble_eq_true rfl, ?_⟩
    | refine ⟨Nat.le_of_ble_eq_true rfl, Nat.le_of_ble_eq_true rfl, ?_⟩
    | refine ⟨(by first | exact Nat.zero_lt_one | assumption | omega), (by first | assumption | exact vp_in_nI (by omega) (by omega) | (unfold vp_in; decide)), ?_⟩
    | refine ⟨(by first | exact Nat.zero_lt_one | assumption | omega), rfl, ?_⟩
    | refine ⟨⟨(by first | exact Nat.zero_lt_one | assumption | omega), rfl⟩, Nat.le_of_ble_eq_true rfl, ?_⟩
    | refine ⟨(by first | exact Nat.zero_lt_one | assumption | omega), ?_⟩
    | refine ⟨Or.inl rfl, ?_⟩
    | refine ⟨Or.inr (Or.inl rfl), ?_⟩
    | refine ⟨Or.inr (Or.inr rfl), ?_⟩
    | refine ⟨Or.inr ⟨rfl, (by first | exact Or.inl rfl | exact Or.inr rfl | assumption)⟩, ?_⟩
    | refine ⟨fun h => absurd h (by decide), fun _ => ?_⟩
    | refine ⟨fun _ => ?_, fun h => absurd h (by decide)⟩
    | refine ⟨fun h => ?_, fun h => ?_⟩
    | fail)
theorem l_sit {S : Nat × (Nat → Int32)} {i : Nat} {μ : zMu} (h : Rel μ) (hi : i + 6 ≤ S.1) (hL : S.1 ≤ 3072) (go : ∀ μ', Rel μ' → lG S 1422 [some (zR 201 0), some (zR 0 0), some (zR 48 0), some (zI (nI i))] [] μ') : lG S 1039 [some (zR 201 0), some (zR 0 0), some (zR 48 0), some (zI (nI i))] [] μ := by
  obtain ⟨v1, v2, v3, v4, v5⟩ := l_in hi hL
  repeat' (first
    | refine ⟨(by with_reducible assumption), ?_⟩
    | refine b_sit h _ _ (fun a μ1 hm => ?_)
    | refine hm _ _ (fun μ2 h2 => ?_)
    | refine br_t rfl ?_
    | exact go μ2 h2
    | (refine zl k_L_sit rfl ?_; conv => whnf)
    | refine ⟨Nat.zero_lt_one, rfl, ?_⟩
    | refine ⟨rfl, ?_⟩
    | refine ⟨⟨Nat.zero_lt_one, rfl⟩, Nat.le_of_ble_eq_true rfl, ?_⟩
    | refine ⟨Nat.le_of_ble_eq_true rfl, Nat.le_of_ble_eq_true rfl, ?_⟩
    | refine ⟨(by first | exact Nat.zero_lt_one | assumption | omega), (by first | assumption | exact vp_in_nI (by omega) (by omega) | (unfold vp_in; decide)), ?_⟩
    | refine ⟨(by first | exact Nat.zero_lt_one | assumption | omega), rfl, ?_⟩
    | refine ⟨⟨(by first | exact Nat.zero_lt_one | assumption | omega), rfl⟩, Nat.le_of_ble_eq_true rfl, ?_⟩
    | refine ⟨(by first | exact Nat.zero_lt_one | assumption | omega), ?_⟩
    | refine ⟨Or.inl rfl, ?_⟩
    | refine ⟨Or.inr (Or.inl rfl), ?_⟩
    | refine ⟨Or.inr (Or.inr rfl), ?_⟩
    | refine ⟨Or.inr ⟨rfl, (by first | exact Or.inl rfl | exact Or.inr rfl | assumption)⟩, ?_⟩
    | refine ⟨fun h => absurd h (by decide), fun _ => ?_⟩
    | refine ⟨fun _ => ?_, fun h => absurd h (by decide)⟩
    | refine ⟨fun h => ?_, fun h => ?_⟩
    | fail)
theorem l_price {S : Nat × (Nat → Int32)} {i : Nat} {μ : zMu} (h : Rel μ) (hi : i + 6 ≤ S.1) (hL : S.1 ≤ 3072) (go : ∀ μ', Rel μ' → lG S 1422 [some (zR 201 0), some (zR 0 0), some (zR 48 0), some (zI (nI i))] [] μ') : lG S 1082 [some (zR 201 0), some (zR 0 0), some (zR 48 0), some (zI (nI i))] [] μ := by
  obtain ⟨v1, v2, v3, v4, v5⟩ := l_in hi hL
  repeat' (first
    | refine ⟨(by with_reducible assumption), ?_⟩
    | refine b_price h _ _ (fun a μ1 hm => ?_)
    | refine hm _ _ (fun μ2 h2 => ?_)
    | refine br_t rfl ?_
    | exact go μ2 h2
    | (refine zl k_L_price rfl ?_; conv => whnf)
    | refine ⟨Nat.zero_lt_one, rfl, ?_⟩
    | refine ⟨rfl, ?_⟩
    | refine ⟨⟨Nat.zero_lt_one, rfl⟩, Nat.le_of_ble_eq_true rfl, ?_⟩
    | refine ⟨Nat.le_of_ble_eq_true rfl, Nat.le_of_ble_eq_true rfl, ?_⟩
    | refine ⟨(by first | exact Nat.zero_lt_one | assumption | omega), (by first | assumption | exact vp_in_nI (by omega) (by omega) | (unfold vp_in; decide)), ?_⟩
    | refine ⟨(by first | exact Nat.zero_lt_one | assumption | omega), rfl, ?_⟩
    | refine ⟨⟨(by first | exact Nat.zero_lt_one | assumption | omega), rfl⟩, Nat.le_of_ble_eq_true rfl, ?_⟩
    | refine ⟨(by first | exact Nat.zero_lt_one | assumption | omega), ?_⟩
    | refine ⟨Or.inl rfl, ?_⟩
    | refine ⟨Or.inr (Or.inl rfl), ?_⟩
    | refine ⟨Or.inr (Or.inr rfl), ?_⟩
    | refine ⟨Or.inr ⟨rfl, (by first | exact Or.inl rfl | exact Or.inr rfl | assumption)⟩, ?_⟩
    | refine ⟨fun h => absurd h (by decide), fun _ => ?_⟩
    | refine ⟨fun _ => ?_, fun h => absurd h (by decide)⟩
    | refine ⟨fun h => ?_, fun h => ?_⟩
    | fail)
theorem l_keeps {S : Nat × (Nat → Int32)} {i : Nat} {μ : zMu} (h : Rel μ) (hi : i + 6 ≤ S.1) (hL : S.1 ≤ 3072) (go : ∀ μ', Rel μ' → lG S 1422 [some (zR 201 0), some (zR 0 0), some (zR 48 0), some (zI (nI i))] [] μ') : lG S 1125 [some (zR 201 0), some (zR 0 0), some (zR 48 0), some (zI (nI i))] [] μ := by
  obtain ⟨v1, v2, v3, v4, v5⟩ := l_in hi hL
  repeat' (first
    | refine ⟨(by with_reducible assumption), ?_⟩
    | refine b_keeps h _ _ (fun a μ1 hm => ?_)
    | refine hm _ _ (fun μ2 h2 => ?_)
    | refine br_t rfl ?_
    | exact go μ2 h2
    | (refine zl k_L_keeps rfl ?_; conv => whnf)
    | refine ⟨Nat.zero_lt_one, rfl, ?_⟩
    | refine ⟨rfl, ?_⟩
    | refine ⟨⟨Nat.zero_lt_one, rfl⟩, Nat.le_of_ble_eq_true rfl, ?_⟩
    | refine ⟨Nat.le_of_ble_eq_true rfl, Nat.le_of_ble_eq_true rfl, ?_⟩
    | refine ⟨(by first | exact Nat.zero_lt_one | assumption | omega), (by first | assumption | exact vp_in_nI (by omega) (by omega) | (unfold vp_in; decide)), ?_⟩
    | refine ⟨(by first | exact Nat.zero_lt_one | assumption | omega), rfl, ?_⟩
    | refine ⟨⟨(by first | exact Nat.zero_lt_one | assumption | omega), rfl⟩, Nat.le_of_ble_eq_true rfl, ?_⟩
    | refine ⟨(by first | exact Nat.zero_lt_one | assumption | omega), ?_⟩
    | refine ⟨Or.inl rfl, ?_⟩
    | refine ⟨Or.inr (Or.inl rfl), ?_⟩
    | refine ⟨Or.inr (Or.inr rfl), ?_⟩
    | refine ⟨Or.inr ⟨rfl, (by first | exact Or.inl rfl | exact Or.inr rfl | assumption)⟩, ?_⟩
    | refine ⟨fun h => absurd h (by decide), fun _ => ?_⟩
    | refine ⟨fun _ => ?_, fun h => absurd h (by decide)⟩
    | refine ⟨fun h => ?_, fun h => ?_⟩
    | fail)
theorem l_lay {S : Nat × (Nat → Int32)} {i : Nat} {μ : zMu} (h : Rel μ) (hi : i + 6 ≤ S.1) (hL : S.1 ≤ 3072) (go : ∀ μ', Rel μ' → lG S 1422 [some (zR 201 0), some (zR 0 0), some (zR 48 0), some (zI (nI i))] [] μ') : lG S 1148 [some (zR 201 0), some (zR 0 0), some (zR 48 0), some (zI (nI i))] [] μ := by
  obtain ⟨v1, v2, v3, v4, v5⟩ := l_in hi hL
  repeat' (first
    | refine ⟨(by with_reducible assumption), ?_⟩
    | refine b_lay h _ _ (fun a μ1 hm => ?_)
    | refine hm _ _ (fun μ2 h2 => ?_)
    | refine br_t rfl ?_
    | exact go μ2 h2
    | (refine zl k_L_lay rfl ?_; conv => whnf)
    | refine ⟨Nat.zero_lt_one, rfl, ?_⟩
    | refine ⟨rfl, ?_⟩
    | refine ⟨⟨Nat.zero_lt_one, rfl⟩, Nat.le_of_ble_eq_true rfl, ?_⟩
    | refine ⟨Nat.le_of_ble_eq_true rfl, Nat.le_of_ble_eq_true rfl, ?_⟩
    | refine ⟨(by first | exact Nat.zero_lt_one | assumption | omega), (by first | assumption | exact vp_in_nI (by omega) (by omega) | (unfold vp_in; decide)), ?_⟩
    | refine ⟨(by first | exact Nat.zero_lt_one | assumption | omega), rfl, ?_⟩
    | refine ⟨⟨(by first | exact Nat.zero_lt_one | assumption | omega), rfl⟩, Nat.le_of_ble_eq_true rfl, ?_⟩
    | refine ⟨(by first | exact Nat.zero_lt_one | assumption | omega), ?_⟩
    | refine ⟨Or.inl rfl, ?_⟩
    | refine ⟨Or.inr (Or.inl rfl), ?_⟩
    | refine ⟨Or.inr (Or.inr rfl), ?_⟩
    | refine ⟨Or.inr ⟨rfl, (by first | exact Or.inl rfl | exact Or.inr rfl | assumption)⟩, ?_⟩
    | refine ⟨fun h => absurd h (by decide), fun _ => ?_⟩
    | refine ⟨fun _ => ?_, fun h => absurd h (by decide)⟩
    | refine ⟨fun h => ?_, fun h => ?_⟩
    | fail)
theorem l_close {S : Nat × (Nat → Int32)} {i : Nat} {μ : zMu} (h : Rel μ) (hi : i + 6 ≤ S.1) (hL : S.1 ≤ 3072) (go : ∀ μ', Rel μ' → lG S 1422 [some (zR 201 0), some (zR 0 0), some (zR 48 0), some (zI (nI i))] [] μ') : lG S 1201 [some (zR 201 0), some (zR 0 0), some (zR 48 0), some (zI (nI i))] [] μ := by
  obtain ⟨v1, v2, v3, v4, v5⟩ := l_in hi hL
  repeat' (first
    | refine ⟨(by with_reducible assumption), ?_⟩
    | refine b_close h _ _ (fun a μ1 hm => ?_)
    | refine hm _ _ (fun μ2 h2 => ?_)
    | refine br_t rfl ?_
    | exact go μ2 h2
    | (refine zl k_L_close rfl ?_; conv => whnf)
    | refine ⟨Nat.zero_lt_one, rfl, ?_⟩
    | refine ⟨rfl, ?_⟩
    | refine ⟨⟨Nat.zero_lt_one, rfl⟩, Nat.le_of_ble_eq_true rfl, ?_⟩
    | refine ⟨Nat.le_of_ble_eq_true rfl, Nat.le_of_ble_eq_true rfl, ?_⟩
    | refine ⟨(by first | exact Nat.zero_lt_one | assumption | omega), (by first | assumption | exact vp_in_nI (by omega) (by omega) | (unfold vp_in; decide)), ?_⟩
    | refine ⟨(by first | exact Nat.zero_lt_one | assumption | omega), rfl, ?_⟩
    | refine ⟨⟨(by first | exact Nat.zero_lt_one | assumption | omega), rfl⟩, Nat.le_of_ble_eq_true rfl, ?_⟩
    | refine ⟨(by first | exact Nat.zero_lt_one | assumption | omega), ?_⟩
    | refine ⟨Or.inl rfl, ?_⟩
    | refine ⟨Or.inr (Or.inl rfl), ?_⟩
    | refine ⟨Or.inr (Or.inr rfl), ?_⟩
    | refine ⟨Or.inr ⟨rfl, (by first | exact Or.inl rfl | exact Or.inr rfl | assumption)⟩, ?_⟩
    | refine ⟨fun h => absurd h (by decide), fun _ => ?_⟩
    | refine ⟨fun _ => ?_, fun h => absurd h (by decide)⟩
    | refine ⟨fun h => ?_, fun h => ?_⟩
    | fail)
theorem l_seat {S : Nat × (Nat → Int32)} {i : Nat} {μ : zMu} (h : Rel μ) (hi : i + 6 ≤ S.1) (hL : S.1 ≤ 3072) (go : ∀ μ', Rel μ' → lG S 1422 [some (zR 201 0), some (zR 0 0), some (zR 48 0), some (zI (nI i))] [] μ') : lG S 1224 [some (zR 201 0), some (zR 0 0), some (zR 48 0), some (zI (nI i))] [] μ := by
  obtain ⟨v1, v2, v3, v4, v5⟩ := l_in hi hL
  repeat' (first
    | refine ⟨(by with_reducible assumption), ?_⟩
    | refine b_seat h _ _ (fun a μ1 hm => ?_)
    | refine hm _ _ (fun μ2 h2 => ?_)
    | refine br_t rfl ?_
    | exact go μ2 h2
    | (refine zl k_L_seat rfl ?_; conv => whnf)
    | refine ⟨Nat.zero_lt_one, rfl, ?_⟩
    | refine ⟨rfl, ?_⟩
    | refine ⟨⟨Nat.zero_lt_one, rfl⟩, Nat.le_of_ble_eq_true rfl, ?_⟩
    | refine ⟨Nat.le_of_ble_eq_true rfl, Nat.le_of_ble_eq_true rfl, ?_⟩
    | refine ⟨(by first | exact Nat.zero_lt_one | assumption | omega), (by first | assumption | exact vp_in_nI (by omega) (by omega) | (unfold vp_in; decide)), ?_⟩
    | refine ⟨(by first | exact Nat.zero_lt_one | assumption | omega), rfl, ?_⟩
    | refine ⟨⟨(by first | exact Nat.zero_lt_one | assumption | omega), rfl⟩, Nat.le_of_ble_eq_true rfl, ?_⟩
    | refine ⟨(by first | exact Nat.zero_lt_one | assumption | omega), ?_⟩
    | refine ⟨Or.inl rfl, ?_⟩
    | refine ⟨Or.inr (Or.inl rfl), ?_⟩
    | refine ⟨Or.inr (Or.inr rfl), ?_⟩
    | refine ⟨Or.inr ⟨rfl, (by first | exact Or.inl rfl | exact Or.inr rfl | assumption)⟩, ?_⟩
    | refine ⟨fun h => absurd h (by decide), fun _ => ?_⟩
    | refine ⟨fun _ => ?_, fun h => absurd h (by decide)⟩
    | refine ⟨fun h => ?_, fun h => ?_⟩
    | fail)
theorem l_visit {S : Nat × (Nat → Int32)} {i : Nat} {μ : zMu} (h : Rel μ) (hi : i + 6 ≤ S.1) (hL : S.1 ≤ 3072) (go : ∀ μ', Rel μ' → lG S 1422 [some (zR 201 0), some (zR 0 0), some (zR 48 0), some (zI (nI i))] [] μ') : lG S 1257 [some (zR 201 0), some (zR 0 0), some (zR 48 0), some (zI (nI i))] [] μ := by
  obtain ⟨v1, v2, v3, v4, v5⟩ := l_in hi hL
  repeat' (first
    | refine ⟨(by with_reducible assumption), ?_⟩
    | refine b_visit h _ _ (fun a μ1 hm => ?_)
    | refine hm _ _ (fun μ2 h2 => ?_)
    | refine br_t rfl ?_
    | exact go μ2 h2
    | (refine zl k_L_visit rfl ?_; conv => whnf)
    | refine ⟨Nat.zero_lt_one, rfl, ?_⟩
    | refine ⟨rfl, ?_⟩
    | refine ⟨⟨Nat.zero_lt_one, rfl⟩, Nat.le_of_ble_eq_true rfl, ?_⟩
    | refine ⟨Nat.le_of_ble_eq_true rfl, Nat.le_of_ble_eq_true rfl, ?_⟩
    | refine ⟨(by first | exact Nat.zero_lt_one | assumption | omega), (by first | assumption | exact vp_in_nI (by omega) (by omega) | (unfold vp_in; decide)), ?_⟩
    | refine ⟨(by first | exact Nat.zero_lt_one | assumption | omega), rfl, ?_⟩
    | refine ⟨⟨(by first | exact Nat.zero_lt_one | assumption | omega), rfl⟩, Nat.le_of_ble_eq_true rfl, ?_⟩
    | refine ⟨(by first | exact Nat.zero_lt_one | assumption | omega), ?_⟩
    | refine ⟨Or.inl rfl, ?_⟩
    | refine ⟨Or.inr (Or.inl rfl), ?_⟩
    | refine ⟨Or.inr (Or.inr rfl), ?_⟩
    | refine ⟨Or.inr ⟨rfl, (by first | exact Or.inl rfl | exact Or.inr rfl | assumption)⟩, ?_⟩
    | refine ⟨fun h => absurd h (by decide), fun _ => ?_⟩
    | refine ⟨fun _ => ?_, fun h => absurd h (by decide)⟩
    | refine ⟨fun h => ?_, fun h => ?_⟩
    | fail)
theorem l_card {S : Nat × (Nat → Int32)} {i : Nat} {μ : zMu} (h : Rel μ) (hi : i + 6 ≤ S.1) (hL : S.1 ≤ 3072) (go : ∀ μ', Rel μ' → lG S 1422 [some (zR 201 0), some (zR 0 0), some (zR 48 0), some (zI (nI i))] [] μ') : lG S 1300 [some (zR 201 0), some (zR 0 0), some (zR 48 0), some (zI (nI i))] [] μ := by
  obtain ⟨v1, v2, v3, v4, v5⟩ := l_in hi hL
  repeat' (first
    | refine ⟨(by with_reducible assumption), ?_⟩
    | refine b_card h _ _ (fun a μ1 hm => ?_)
    | refine hm _ _ (fun μ2 h2 => ?_)
    | refine br_t rfl ?_
    | exact go μ2 h2
    | (refine zl k_L_card rfl ?_; conv => whnf)
    | refine ⟨Nat.zero_lt_one, rfl, ?_⟩
    | refine ⟨rfl, ?_⟩
    | refine ⟨⟨Nat.zero_lt_one, rfl⟩, Nat.le_of_ble_eq_true rfl, ?_⟩
    | refine ⟨Nat.le_of_ble_eq_true rfl, Nat.le_of_ble_eq_true rfl, ?_⟩
    | refine ⟨(by first | exact Nat.zero_lt_one | assumption | omega), (by first | assumption | exact vp_in_nI (by omega) (by omega) | (unfold vp_in; decide)), ?_⟩
    | refine ⟨(by first | exact Nat.zero_lt_one | assumption | omega), rfl, ?_⟩
    | refine ⟨⟨(by first | exact Nat.zero_lt_one | assumption | omega), rfl⟩, Nat.le_of_ble_eq_true rfl, ?_⟩
    | refine ⟨(by first | exact Nat.zero_lt_one | assumption | omega), ?_⟩
    | refine ⟨Or.inl rfl, ?_⟩
    | refine ⟨Or.inr (Or.inl rfl), ?_⟩
    | refine ⟨Or.inr (Or.inr rfl), ?_⟩
    | refine ⟨Or.inr ⟨rfl, (by first | exact Or.inl rfl | exact Or.inr rfl | assumption)⟩, ?_⟩
    | refine ⟨fun h => absurd h (by decide), fun _ => ?_⟩
    | refine ⟨fun _ => ?_, fun h => absurd h (by decide)⟩
    | refine ⟨fun h => ?_, fun h => ?_⟩
    | fail)
theorem l_owes {S : Nat × (Nat → Int32)} {i : Nat} {μ : zMu} (h : Rel μ) (hi : i + 6 ≤ S.1) (hL : S.1 ≤ 3072) (go : ∀ μ', Rel μ' → lG S 1422 [some (zR 201 0), some (zR 0 0), some (zR 48 0), some (zI (nI i))] [] μ') : lG S 1333 [some (zR 201 0), some (zR 0 0), some (zR 48 0), some (zI (nI i))] [] μ := by
  obtain ⟨v1, v2, v3, v4, v5⟩ := l_in hi hL
  repeat' (first
    | refine ⟨(by with_reducible assumption), ?_⟩
    | refine b_owes h _ _ (fun a μ1 hm => ?_)
    | refine hm _ _ (fun μ2 h2 => ?_)
    | refine br_t rfl ?_
    | exact go μ2 h2
    | (refine zl k_L_owes rfl ?_; conv => whnf)
    | refine ⟨Nat.zero_lt_one, rfl, ?_⟩
    | refine ⟨rfl, ?_⟩
    | refine ⟨⟨Nat.zero_lt_one, rfl⟩, Nat.le_of_ble_eq_true rfl, ?_⟩
    | refine ⟨Nat.le_of_ble_eq_true rfl, Nat.le_of_ble_eq_true rfl, ?_⟩
    | refine ⟨(by first | exact Nat.zero_lt_one | assumption | omega), (by first | assumption | exact vp_in_nI (by omega) (by omega) | (unfold vp_in; decide)), ?_⟩
    | refine ⟨(by first | exact Nat.zero_lt_one | assumption | omega), rfl, ?_⟩
    | refine ⟨⟨(by first | exact Nat.zero_lt_one | assumption | omega), rfl⟩, Nat.le_of_ble_eq_true rfl, ?_⟩
    | refine ⟨(by first | exact Nat.zero_lt_one | assumption | omega), ?_⟩
    | refine ⟨Or.inl rfl, ?_⟩
    | refine ⟨Or.inr (Or.inl rfl), ?_⟩
    | refine ⟨Or.inr (Or.inr rfl), ?_⟩
    | refine ⟨Or.inr ⟨rfl, (by first | exact Or.inl rfl | exact Or.inr rfl | assumption)⟩, ?_⟩
    | refine ⟨fun h => absurd h (by decide), fun _ => ?_⟩
    | refine ⟨fun _ => ?_, fun h => absurd h (by decide)⟩
    | refine ⟨fun h => ?_, fun h => ?_⟩
    | fail)
theorem l_within {S : Nat × (Nat → Int32)} {i : Nat} {μ : zMu} (h : Rel μ) (hi : i + 6 ≤ S.1) (hL : S.1 ≤ 3072) (go : ∀ μ', Rel μ' → lG S 1422 [some (zR 201 0), some (zR 0 0), some (zR 48 0), some (zI (nI i))] [] μ') : lG S 1376 [some (zR 201 0), some (zR 0 0), some (zR 48 0), some (zI (nI i))] [] μ := by
  obtain ⟨v1, v2, v3, v4, v5⟩ := l_in hi hL
  repeat' (first
    | refine ⟨(by with_reducible assumption), ?_⟩
    | refine b_within h _ _ (fun a μ1 hm => ?_)
    | refine hm _ _ (fun μ2 h2 => ?_)
    | refine br_t rfl ?_
    | exact go μ2 h2
    | (refine zl k_L_within rfl ?_; conv => whnf)
    | refine ⟨Nat.zero_lt_one, rfl, ?_⟩
    | refine ⟨rfl, ?_⟩
    | refine ⟨⟨Nat.zero_lt_one, rfl⟩, Nat.le_of_ble_eq_true rfl, ?_⟩
    | refine ⟨Nat.le_of_ble_eq_true rfl, Nat.le_of_ble_eq_true rfl, ?_⟩
    | refine ⟨(by first | exact Nat.zero_lt_one | assumption | omega), (by first | assumption | exact vp_in_nI (by omega) (by omega) | (unfold vp_in; decide)), ?_⟩
    | refine ⟨(by first | exact Nat.zero_lt_one | assumption | omega), rfl, ?_⟩
    | refine ⟨⟨(by first | exact Nat.zero_lt_one | assumption | omega), rfl⟩, Nat.le_of_ble_eq_true rfl, ?_⟩
    | refine ⟨(by first | exact Nat.zero_lt_one | assumption | omega), ?_⟩
    | refine ⟨Or.inl rfl, ?_⟩
    | refine ⟨Or.inr (Or.inl rfl), ?_⟩
    | refine ⟨Or.inr (Or.inr rfl), ?_⟩
    | refine ⟨Or.inr ⟨rfl, (by first | exact Or.inl rfl | exact Or.inr rfl | assumption)⟩, ?_⟩
    | refine ⟨fun h => absurd h (by decide), fun _ => ?_⟩
    | refine ⟨fun _ => ?_, fun h => absurd h (by decide)⟩
    | refine ⟨fun h => ?_, fun h => ?_⟩
    | fail)
theorem l_count {S : Nat × (Nat → Int32)} {i : Nat} {μ : zMu} (h : Rel μ) (hi : i + 6 ≤ S.1) (hL : S.1 ≤ 3072) (go : ∀ μ', Rel μ' → lG S 1422 [some (zR 201 0), some (zR 0 0), some (zR 48 0), some (zI (nI i))] [] μ') : lG S 1399 [some (zR 201 0), some (zR 0 0), some (zR 48 0), some (zI (nI i))] [] μ := by
  obtain ⟨v1, v2, v3, v4, v5⟩ := l_in hi hL
  repeat' (first
    | refine ⟨(by with_reducible assumption), ?_⟩
    | refine b_count h _ _ (fun a μ1 hm => ?_)
    | refine hm _ _ (fun μ2 h2 => ?_)
    | refine br_t rfl ?_
    | exact go μ2 h2
    | (refine zl k_L_count rfl ?_; conv => whnf)
    | refine ⟨Nat.zero_lt_one, rfl, ?_⟩
    | refine ⟨rfl, ?_⟩
    | refine ⟨⟨Nat.zero_lt_one, rfl⟩, Nat.le_of_ble_eq_true rfl, ?_⟩
    | refine ⟨Nat.le_of_ble_eq_true rfl, Nat.le_of_ble_eq_true rfl, ?_⟩
    | refine ⟨(by first | exact Nat.zero_lt_one | assumption | omega), (by first | assumption | exact vp_in_nI (by omega) (by omega) | (unfold vp_in; decide)), ?_⟩
    | refine ⟨(by first | exact Nat.zero_lt_one | assumption | omega), rfl, ?_⟩
    | refine ⟨⟨(by first | exact Nat.zero_lt_one | assumption | omega), rfl⟩, Nat.le_of_ble_eq_true rfl, ?_⟩
    | refine ⟨(by first | exact Nat.zero_lt_one | assumption | omega), ?_⟩
    | refine ⟨Or.inl rfl, ?_⟩
    | refine ⟨Or.inr (Or.inl rfl), ?_⟩
    | refine ⟨Or.inr (Or.inr rfl), ?_⟩
    | refine ⟨Or.inr ⟨rfl, (by first | exact Or.inl rfl | exact Or.inr rfl | assumption)⟩, ?_⟩
    | refine ⟨fun h => absurd h (by decide), fun _ => ?_⟩
    | refine ⟨fun _ => ?_, fun h => absurd h (by decide)⟩
    | refine ⟨fun h => ?_, fun h => ?_⟩
    | fail)
