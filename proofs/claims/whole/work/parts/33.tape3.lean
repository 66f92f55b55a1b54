/-! TAPE: numbers -/
def pNumF (B : Nat → Int32) : Nat → Nat → Int32 → Nat × Int32
  | 0, at_, v => (at_, v)
  | f + 1, at_, v => if 48 ≤ B at_ ∧ B at_ ≤ 57 then pNumF B f (at_ + 1) (10 * v + B at_ - 48) else (at_, v)
def pRdN (a : Nat → Int32) (n at_ : Nat) (fl : Int32) : Int32 × Nat × Int32 :=
  if fl = -1 then (if (pNumF (pB a n) 8 at_ 0).1 = at_ then (0, at_, nI at_) else ((pNumF (pB a n) 8 at_ 0).2, (pNumF (pB a n) 8 at_ 0).1, -1)) else (0, at_, fl)
theorem pNumF_ge (B : Nat → Int32) : ∀ (f at_ : Nat) (v : Int32), at_ ≤ (pNumF B f at_ v).1 ∧ (pNumF B f at_ v).1 ≤ at_ + f
  | 0, at_, v => ⟨Nat.le_refl _, Nat.le_refl _⟩
  | f + 1, at_, v => by
    rw [pNumF]
    split
    · have := pNumF_ge B f (at_ + 1) (10 * v + B at_ - 48)
      omega
    · exact ⟨Nat.le_refl _, by show at_ ≤ _; omega⟩
theorem pNumF_0 (B : Nat → Int32) (f at_ : Nat) (v : Int32) (h : (pNumF B f at_ v).1 = at_) : (pNumF B f at_ v).2 = v := by
  cases f with
  | zero => rfl
  | succ f =>
    rw [pNumF] at h ⊢
    split
    · rename_i hc
      rw [if_pos hc] at h
      have := (pNumF_ge B f (at_ + 1) (10 * v + B at_ - 48)).1
      omega
    · rfl
set_option maxHeartbeats 4000000 in
theorem c_Tp_readNumber {d n at_ : Nat} {μ : zMu} {K : Option zV → zMu → Prop} (hn : μ 2 0 0 = nI n) (h200 : n ≤ 200) (hat : μ 2 0 2 = nI at_) (ha : at_ ≤ 1000) (hK : K (some (zI (pRdN (μ 18 0) n at_ (μ 2 0 3)).1)) (cAt μ (pRdN (μ 18 0) n at_ (μ 2 0 3)).2)) : Ct (d + 1) m_Tp_readNumber [zR 2 0] μ K := by
  refine zmeet rfl (Nat.le_of_ble_eq_true rfl) (fun S => ?_)
  have hid := cAt_id hat
  unfold pRdN at hK
  by_cases hf : μ 2 0 3 = -1
  · rw [if_pos hf] at hK
    have hz2 := pNumF_0 (pB (μ 18 0) n) 8 at_ 0
    generalize hR : pNumF (pB (μ 18 0) n) 8 at_ 0 = Rv at hK hz2
    have L : ∀ (f dg a1 : Nat) (v xd : Int32) (μ1 : zMu), f + dg = 8 → a1 = at_ + dg → pNumF (pB (μ 18 0) n) f a1 v = Rv → xd = nI dg → μ1 = zu μ 2 0 2 (nI a1) → zG S (d + 1) m_Tp_readNumber K 4 [some (zR 2 0), some (zI v), some (zI xd)] [] μ1 := by
      intro f
      have hend : ∀ (dg a1 : Nat) (v : Int32), a1 = at_ + dg → (a1, v) = Rv → dg ≤ 8 → zG S (d + 1) m_Tp_readNumber K 65 [some (zR 2 0), some (zI v), some (zI (nI dg))] [] (zu μ 2 0 2 (nI a1)) := by
        intro dg a1 v ha1 hRv hdg
        subst hRv
        rcases Nat.eq_zero_or_pos dg with h0 | h0
        · subst h0
          have ha2 : a1 = at_ := by omega
          have hv0 : v = 0 := hz2 ha2
          subst hv0
          rw [if_pos ha2] at hK
          refine zs k_Tp_readNumber rfl ?_
          repeat' (first
            | refine ⟨fun h => absurd rfl h, fun _ => ?_⟩
            | refine c_Tp_fail ?_
            | refine zKe hK rfl ?_
            | refine zs k_Tp_readNumber rfl ?_
            | refine ⟨Nat.zero_lt_one, rfl, ?_⟩
            | refine ⟨rfl, ?_⟩
            | refine ⟨⟨Nat.zero_lt_one, rfl⟩, Nat.le_of_ble_eq_true rfl, ?_⟩
            | refine ⟨Nat.le_of_ble_eq_true rfl, Nat.le_of_ble_eq_true rfl, ?_⟩
            | refine ⟨(by first | exact Nat.zero_lt_one | assumption | omega), (by first | assumption | exact vp_in_nI (by omega) (by omega) | (unfold vp_in; decide)), ?_⟩
            | refine ⟨(by first | exact Nat.zero_lt_one | assumption | omega), rfl, ?_⟩
            | refine ⟨⟨(by first | exact Nat.zero_lt_one | assumption | omega), rfl⟩, Nat.le_of_ble_eq_true rfl, ?_⟩
            | refine ⟨(by first | exact Nat.zero_lt_one | assumption | omega), ?_⟩
            | refine ⟨Or.inl rfl, ?_⟩
            | refine ⟨Or.inr (Or.inl rfl), ?_⟩
            | refine ⟨Or.inr (Or.inr rfl), ?_⟩
            | refine ⟨Or.inr ⟨rfl, (by first | exact Or.inl rfl | exact Or.inr rfl | assumption)⟩, ?_⟩
            | refine ⟨fun h => absurd h (by decide), fun _ => ?_⟩
            | refine ⟨fun _ => ?_, fun h => absurd h (by decide)⟩
            | refine ⟨fun h => ?_, fun h => ?_⟩
            | fail)
          rw [show zu μ 2 0 2 (nI a1) 2 0 3 = μ 2 0 3 from rfl, if_pos hf, ha2]
          rfl
        · rw [if_neg (by omega)] at hK
          refine zs k_Tp_readNumber rfl ?_
          repeat' (first
            | refine ⟨fun _ => ?_, fun h => absurd h (nI_ne0 h0 (by omega))⟩
            | refine zKe hK rfl ?_
            | refine zs k_Tp_readNumber rfl ?_
            | refine ⟨Nat.zero_lt_one, rfl, ?_⟩
            | refine ⟨rfl, ?_⟩
            | refine ⟨⟨Nat.zero_lt_one, rfl⟩, Nat.le_of_ble_eq_true rfl, ?_⟩
            | refine ⟨Nat.le_of_ble_eq_true rfl, Nat.le_of_ble_eq_true rfl, ?_⟩
            | refine ⟨(by first | exact Nat.zero_lt_one | assumption | omega), (by first | assumption | exact vp_in_nI (by omega) (by omega) | (unfold vp_in; decide)), ?_⟩
            | refine ⟨(by first | exact Nat.zero_lt_one | assumption | omega), rfl, ?_⟩
            | refine ⟨⟨(by first | exact Nat.zero_lt_one | assumption | omega), rfl⟩, Nat.le_of_ble_eq_true rfl, ?_⟩
            | refine ⟨(by first | exact Nat.zero_lt_one | assumption | omega), ?_⟩
            | refine ⟨Or.inl rfl, ?_⟩
            | refine ⟨Or.inr (Or.inl rfl), ?_⟩
            | refine ⟨Or.inr (Or.inr rfl), ?_⟩
            | refine ⟨Or.inr ⟨rfl, (by first | exact Or.inl rfl | exact Or.inr rfl | assumption)⟩, ?_⟩
            | refine ⟨fun h => absurd h (by decide), fun _ => ?_⟩
            | refine ⟨fun _ => ?_, fun h => absurd h (by decide)⟩
            | refine ⟨fun h => ?_, fun h => ?_⟩
            | fail)
          funext f a b
          simp only [cAt, zu]
          grind
      induction f with
      | zero =>
        intro dg a1 v xd μ1 hfd ha1 hp hx hm
        subst hx hm
        obtain rfl : dg = 8 := by omega
        refine zs k_Tp_readNumber rfl ?_
        repeat' (first
          | refine hend 8 a1 v ha1 hp (by omega)
          | refine ⟨fun h => absurd hf h, fun _ => ?_⟩
          | refine br_t (by decide) ?_
          | refine zs k_Tp_readNumber rfl ?_
          | refine ⟨Nat.zero_lt_one, rfl, ?_⟩
          | refine ⟨rfl, ?_⟩
          | refine ⟨⟨Nat.zero_lt_one, rfl⟩, Nat.le_of_ble_eq_true rfl, ?_⟩
          | refine ⟨Nat.le_of_ble_eq_true rfl, Nat.le_of_ble_eq_true rfl, ?_⟩
          | refine ⟨(by first | exact Nat.zero_lt_one | assumption | omega), (by first | assumption | exact vp_in_nI (by omega) (by omega) | (unfold vp_in; decide)), ?_⟩
          | refine ⟨(by first | exact Nat.zero_lt_one | assumption | omega), rfl, ?_⟩
          | refine ⟨⟨(by first | exact Nat.zero_lt_one | assumption | omega), rfl⟩, Nat.le_of_ble_eq_true rfl, ?_⟩
          | refine ⟨(by first | exact Nat.zero_lt_one | assumption | omega), ?_⟩
          | refine ⟨Or.inl rfl, ?_⟩
          | refine ⟨Or.inr (Or.inl rfl), ?_⟩
          | refine ⟨Or.inr (Or.inr rfl), ?_⟩
          | refine ⟨Or.inr ⟨rfl, (by first | exact Or.inl rfl | exact Or.inr rfl | assumption)⟩, ?_⟩
          | refine ⟨fun h => absurd h (by decide), fun _ => ?_⟩
          | refine ⟨fun _ => ?_, fun h => absurd h (by decide)⟩
          | refine ⟨fun h => ?_, fun h => ?_⟩
          | fail)
      | succ f ih =>
        intro dg a1 v xd μ1 hfd ha1 hp hx hm
        subst hx hm
        have h8 : ¬ (8 : Int32) ≤ nI dg := nI_ge (b := 8) (by omega) (by omega)
        have ha3 : zu μ 2 0 2 (nI a1) 2 0 2 = nI a1 := rfl
        rw [pNumF] at hp
        by_cases hdg : 48 ≤ pB (μ 18 0) n a1 ∧ pB (μ 18 0) n a1 ≤ 57
        · rw [if_pos hdg] at hp
          refine zs k_Tp_readNumber rfl ?_
          repeat' (first
            | refine ⟨fun h => absurd hf h, fun _ => ?_⟩
            | refine br_f h8 ?_
            | refine c_Tp_byteAt (j := a1) hn h200 (by omega) ha3 ?_
            | refine c_Tp_isDigit (fun _ => ?_) (fun h => absurd hdg h)
            | refine ih (dg + 1) (a1 + 1) _ _ _ (by omega) (by omega) hp (by exact nI_1 dg) ?_
            | refine zs k_Tp_readNumber rfl ?_
            | refine ⟨Nat.zero_lt_one, rfl, ?_⟩
            | refine ⟨rfl, ?_⟩
            | refine ⟨⟨Nat.zero_lt_one, rfl⟩, Nat.le_of_ble_eq_true rfl, ?_⟩
            | refine ⟨Nat.le_of_ble_eq_true rfl, Nat.le_of_ble_eq_true rfl, ?_⟩
            | refine ⟨(by first | exact Nat.zero_lt_one | assumption | omega), (by first | assumption | exact vp_in_nI (by omega) (by omega) | (unfold vp_in; decide)), ?_⟩
            | refine ⟨(by first | exact Nat.zero_lt_one | assumption | omega), rfl, ?_⟩
            | refine ⟨⟨(by first | exact Nat.zero_lt_one | assumption | omega), rfl⟩, Nat.le_of_ble_eq_true rfl, ?_⟩
            | refine ⟨(by first | exact Nat.zero_lt_one | assumption | omega), ?_⟩
            | refine ⟨Or.inl rfl, ?_⟩
            | refine ⟨Or.inr (Or.inl rfl), ?_⟩
            | refine ⟨Or.inr (Or.inr rfl), ?_⟩
            | refine ⟨Or.inr ⟨rfl, (by first | exact Or.inl rfl | exact Or.inr rfl | assumption)⟩, ?_⟩
            | refine ⟨fun h => absurd h (by decide), fun _ => ?_⟩
            | refine ⟨fun _ => ?_, fun h => absurd h (by decide)⟩
            | refine ⟨fun h => ?_, fun h => ?_⟩
            | fail)
          rw [ha3, nI_1]
          funext f a b
          simp only [zu]
          grind
        · rw [if_neg hdg] at hp
          refine zs k_Tp_readNumber rfl ?_
          repeat' (first
            | refine hend dg a1 v ha1 hp (by omega)
            | refine ⟨fun h => absurd hf h, fun _ => ?_⟩
            | refine br_f h8 ?_
            | refine c_Tp_byteAt (j := a1) hn h200 (by omega) ha3 ?_
            | refine c_Tp_isDigit (fun h => absurd h hdg) (fun _ => ?_)
            | refine zs k_Tp_readNumber rfl ?_
            | refine ⟨Nat.zero_lt_one, rfl, ?_⟩
            | refine ⟨rfl, ?_⟩
            | refine ⟨⟨Nat.zero_lt_one, rfl⟩, Nat.le_of_ble_eq_true rfl, ?_⟩
            | refine ⟨Nat.le_of_ble_eq_true rfl, Nat.le_of_ble_eq_true rfl, ?_⟩
            | refine ⟨(by first | exact Nat.zero_lt_one | assumption | omega), (by first | assumption | exact vp_in_nI (by omega) (by omega) | (unfold vp_in; decide)), ?_⟩
            | refine ⟨(by first | exact Nat.zero_lt_one | assumption | omega), rfl, ?_⟩
            | refine ⟨⟨(by first | exact Nat.zero_lt_one | assumption | omega), rfl⟩, Nat.le_of_ble_eq_true rfl, ?_⟩
            | refine ⟨(by first | exact Nat.zero_lt_one | assumption | omega), ?_⟩
            | refine ⟨Or.inl rfl, ?_⟩
            | refine ⟨Or.inr (Or.inl rfl), ?_⟩
            | refine ⟨Or.inr (Or.inr rfl), ?_⟩
            | refine ⟨Or.inr ⟨rfl, (by first | exact Or.inl rfl | exact Or.inr rfl | assumption)⟩, ?_⟩
            | refine ⟨fun h => absurd h (by decide), fun _ => ?_⟩
            | refine ⟨fun _ => ?_, fun h => absurd h (by decide)⟩
            | refine ⟨fun h => ?_, fun h => ?_⟩
            | fail)
    repeat' (first
      | refine L 8 0 at_ 0 _ _ (by omega) (by omega) hR rfl ?_
      | refine zs k_Tp_readNumber rfl ?_
      | refine ⟨Nat.zero_lt_one, rfl, ?_⟩
      | refine ⟨rfl, ?_⟩
      | refine ⟨⟨Nat.zero_lt_one, rfl⟩, Nat.le_of_ble_eq_true rfl, ?_⟩
      | refine ⟨Nat.le_of_ble_eq_true rfl, Nat.le_of_ble_eq_true rfl, ?_⟩
      | refine ⟨(by first | exact Nat.zero_lt_one | assumption | omega), (by first | assumption | exact vp_in_nI (by omega) (by omega) | (unfold vp_in; decide)), ?_⟩
      | refine ⟨(by first | exact Nat.zero_lt_one | assumption | omega), rfl, ?_⟩
      | refine ⟨⟨(by first | exact Nat.zero_lt_one | assumption | omega), rfl⟩, Nat.le_of_ble_eq_true rfl, ?_⟩
      | refine ⟨(by first | exact Nat.zero_lt_one | assumption | omega), ?_⟩
      | refine ⟨Or.inl rfl, ?_⟩
      | refine ⟨Or.inr (Or.inl rfl), ?_⟩
      | refine ⟨Or.inr (Or.inr rfl), ?_⟩
      | refine ⟨Or.inr ⟨rfl, (by first | exact Or.inl rfl | exact Or.inr rfl | assumption)⟩, ?_⟩
      | refine ⟨fun h => absurd h (by decide), fun _ => ?_⟩
      | refine ⟨fun _ => ?_, fun h => absurd h (by decide)⟩
      | refine ⟨fun h => ?_, fun h => ?_⟩
      | fail)
    funext f a b
    simp only [zu]
    grind
  · rw [if_neg hf, hid] at hK
    repeat' (first
      | refine ⟨fun _ => ?_, fun h => absurd h hf⟩
      | refine c_Tp_fail ?_
      | refine zKe hK rfl ?_
      | refine zs k_Tp_readNumber rfl ?_
      | refine ⟨Nat.zero_lt_one, rfl, ?_⟩
      | refine ⟨rfl, ?_⟩
      | refine ⟨⟨Nat.zero_lt_one, rfl⟩, Nat.le_of_ble_eq_true rfl, ?_⟩
      | refine ⟨Nat.le_of_ble_eq_true rfl, Nat.le_of_ble_eq_true rfl, ?_⟩
      | refine ⟨(by first | exact Nat.zero_lt_one | assumption | omega), (by first | assumption | exact vp_in_nI (by omega) (by omega) | (unfold vp_in; decide)), ?_⟩
      | refine ⟨(by first | exact Nat.zero_lt_one | assumption | omega), rfl, ?_⟩
      | refine ⟨⟨(by first | exact Nat.zero_lt_one | assumption | omega), rfl⟩, Nat.le_of_ble_eq_true rfl, ?_⟩
      | refine ⟨(by first | exact Nat.zero_lt_one | assumption | omega), ?_⟩
      | refine ⟨Or.inl rfl, ?_⟩
      | refine ⟨Or.inr (Or.inl rfl), ?_⟩
      | refine ⟨Or.inr (Or.inr rfl), ?_⟩
      | refine ⟨Or.inr ⟨rfl, (by first | exact Or.inl rfl | exact Or.inr rfl | assumption)⟩, ?_⟩
      | refine ⟨fun h => absurd h (by decide), fun _ => ?_⟩
      | refine ⟨fun _ => ?_, fun h => absurd h (by decide)⟩
      | refine ⟨fun h => ?_, fun h => ?_⟩
      | fail)
    rw [if_neg hf]
