/-! DESK: seat, close, sit -/
def stOk (μ : zMu) (nt : Nat) (x i : Int32) : Prop := ∃ t, t < nt ∧ x = nI t ∧ 0 ≤ i ∧ i < μ 9 t 0
theorem stOk_of {μ : zMu} {nt n : Nat} {x i : Int32} (g : gTb μ nt n) (h : stOk μ nt x i) : ∃ t j z, t < nt ∧ x = nI t ∧ i = nI j ∧ j < z ∧ z ≤ 12 ∧ μ 9 t 0 = nI z ∧ μ 94 0 t = nI z := by
  obtain ⟨t, ht, hx, h0, h1⟩ := h
  obtain ⟨-, -, ⟨z, z1, z2, z3, z4, z5⟩, -⟩ := g.2.2.2 t ht
  rw [z3] at h1
  rcases zIx i (n := z) (by omega) with ⟨j, hj, rfl⟩ | q
  · exact ⟨t, j, z, ht, hx, rfl, hj, z2, z3, z4⟩
  · exact absurd ⟨h0, h1⟩ q
theorem c_De_seat {d nt n : Nat} {μ : zMu} {x i : Int32} {K : Option zV → zMu → Prop} (g : gTb μ nt n) (h0 : ¬ stOk μ nt x i → K (some (zI (-1))) μ) (h1 : ∀ t j, stOk μ nt x i → t < nt → j < 12 → x = nI t → i = nI j → K (some (zI (μ 40 t j))) μ) : Ct (d + 2) m_De_seat [zR 0 0, zI x, zI i] μ K := by
  refine zmeet rfl (Nat.le_of_ble_eq_true rfl) (fun S => ?_)
  have h4 := g.2.2.1
  by_cases ho : stOk μ nt x i
  case neg =>
    have hk := h0 ho
    repeat' (first
      | refine c_Ha_hasSeat g.1 h4 (fun t ht hx hi1 hi2 => absurd ⟨t, ht, hx, hi1, hi2⟩ ho) (fun _ => ?_)
      | exact hk
      | (refine zs k_De_seat rfl ?_; conv => whnf)
      | refine ⟨Nat.zero_lt_one, rfl, ?_⟩
      | refine ⟨rfl, ?_⟩
      | refine ⟨⟨Nat.zero_lt_one, rfl⟩, Nat.le_of_ble_eq_true rfl, ?_⟩
      | refine ⟨Nat.le_of_ble_eq_true rfl, Nat.le_of_ble_eq_true rfl, ?_⟩
      | refine ⟨(by first | exact Nat.zero_lt_one | assumption | omega), (by first | assumption | exact vp_in_nI (by omega) (by omega) | (unfold vp_in; decide)), ?_⟩
      | refine ⟨(by first | exact Nat.zero_lt_one | assumption | omega), rfl, ?_⟩
      | refine ⟨⟨(by first | exact Nat.zero_lt_one | assumption | omega), rfl⟩, Nat.le_of_ble_eq_true rfl, ?_⟩
      | refine ⟨(by first | exact Nat.zero_lt_one | assumption | omega), ?_⟩
      | refine ⟨Or.inl rfl, ?_⟩
      | refine ⟨Or.inr (Or.inl rfl), ?_⟩
      | refine ⟨Or.inr (Or.inr rfl), ?_⟩
      | refine ⟨Or.inr ⟨rfl, (by first | exact Or.inl rfl | exact Or.inr rfl | assumption)⟩, ?_⟩
      | refine ⟨fun h => absurd h (by decide), fun _ => ?_⟩
      | refine ⟨fun _ => ?_, fun h => absurd h (by decide)⟩
      | refine ⟨fun h => ?_, fun h => ?_⟩
      | fail)
  obtain ⟨t, j, z, ht, rfl, rfl, hj, hz, e9, e94⟩ := stOk_of g ho
  have hk := h1 t j ho ht (by omega) rfl rfl
  have ct : (nI t).toNatClampNeg = t := nI_clamp (by omega)
  have cj : (nI j).toNatClampNeg = j := nI_clamp (by omega)
  have hvt : vp_in (nI t) 4 := vp_in_nI (by omega) (by omega)
  have hlt : (nI t).toNatClampNeg < 4 := by omega
  repeat' (first
    | refine c_Ha_hasSeat g.1 h4 (fun _ _ _ _ _ => ?_) (fun q => absurd ho q)
    | exact zKe hk (by rw [ct, cj]) rfl
    | (refine zs k_De_seat rfl ?_; conv => whnf)
    | refine ⟨Nat.zero_lt_one, rfl, ?_⟩
    | refine ⟨rfl, ?_⟩
    | refine ⟨⟨Nat.zero_lt_one, rfl⟩, Nat.le_of_ble_eq_true rfl, ?_⟩
    | refine ⟨Nat.le_of_ble_eq_true rfl, Nat.le_of_ble_eq_true rfl, ?_⟩
    | refine ⟨(by first | exact Nat.zero_lt_one | assumption | omega), (by first | assumption | exact vp_in_nI (by omega) (by omega) | (unfold vp_in; decide)), ?_⟩
    | refine ⟨(by first | exact Nat.zero_lt_one | assumption | omega), rfl, ?_⟩
    | refine ⟨⟨(by first | exact Nat.zero_lt_one | assumption | omega), rfl⟩, Nat.le_of_ble_eq_true rfl, ?_⟩
    | refine ⟨(by first | exact Nat.zero_lt_one | assumption | omega), ?_⟩
    | refine ⟨Or.inl rfl, ?_⟩
    | refine ⟨Or.inr (Or.inl rfl), ?_⟩
    | refine ⟨Or.inr (Or.inr rfl), ?_⟩
    | refine ⟨Or.inr ⟨rfl, (by first | exact Or.inl rfl | exact Or.inr rfl | assumption)⟩, ?_⟩
    | refine ⟨fun h => absurd h (by decide), fun _ => ?_⟩
    | refine ⟨fun _ => ?_, fun h => absurd h (by decide)⟩
    | refine ⟨fun h => ?_, fun h => ?_⟩
    | fail)
theorem c_Mo_seat {d nt n : Nat} {μ : zMu} {x i : Int32} {K : Option zV → zMu → Prop} (g : gTb μ nt n) (h0 : ¬ stOk μ nt x i → K (some (zI (-1))) μ) (h1 : ∀ t j, stOk μ nt x i → t < nt → j < 12 → x = nI t → i = nI j → K (some (zI (μ 40 t j))) μ) : Ct (d + 1) m_Mo_seat [zR 48 0, zI x, zI i] μ K := by
  refine zmeet rfl (Nat.le_of_ble_eq_true rfl) (fun S => ?_)
  have h4 := g.2.2.1
  have hn := g.2.1
  by_cases ho : stOk μ nt x i
  case neg =>
    have hk := h0 ho
    rcases zIx x (n := nt) (by omega) with ⟨t, ht, rfl⟩ | q
    case inr =>
      have q' : ¬ (0 ≤ x ∧ x < μ 48 0 42) := by rw [hn]; exact q
      repeat' (first
        | refine c_Mo_isTable (fun h => absurd h q') (fun _ => ?_)
        | exact hk
        | (refine zs k_Mo_seat rfl ?_; conv => whnf)
        | refine ⟨Nat.zero_lt_one, rfl, ?_⟩
        | refine ⟨rfl, ?_⟩
        | refine ⟨⟨Nat.zero_lt_one, rfl⟩, Nat.le_of_ble_eq_true rfl, ?_⟩
        | refine ⟨Nat.le_of_ble_eq_true rfl, Nat.le_of_ble_eq_true rfl, ?_⟩
        | refine ⟨(by first | exact Nat.zero_lt_one | assumption | omega), (by first | assumption | exact vp_in_nI (by omega) (by omega) | (unfold vp_in; decide)), ?_⟩
        | refine ⟨(by first | exact Nat.zero_lt_one | assumption | omega), rfl, ?_⟩
        | refine ⟨⟨(by first | exact Nat.zero_lt_one | assumption | omega), rfl⟩, Nat.le_of_ble_eq_true rfl, ?_⟩
        | refine ⟨(by first | exact Nat.zero_lt_one | assumption | omega), ?_⟩
        | refine ⟨Or.inl rfl, ?_⟩
        | refine ⟨Or.inr (Or.inl rfl), ?_⟩
        | refine ⟨Or.inr (Or.inr rfl), ?_⟩
        | refine ⟨Or.inr ⟨rfl, (by first | exact Or.inl rfl | exact Or.inr rfl | assumption)⟩, ?_⟩
        | refine ⟨fun h => absurd h (by decide), fun _ => ?_⟩
        | refine ⟨fun _ => ?_, fun h => absurd h (by decide)⟩
        | refine ⟨fun h => ?_, fun h => ?_⟩
        | fail)
    have hy : 0 ≤ nI t ∧ nI t < μ 48 0 42 := by rw [hn]; exact zIx_y ht (by omega)
    obtain ⟨-, -, ⟨z, z1, z2, z3, z4, z5⟩, -⟩ := g.2.2.2 t ht
    have ct : (nI t).toNatClampNeg = t := nI_clamp (by omega)
    have hvt : vp_in (nI t) 4 := vp_in_nI (by omega) (by omega)
    have e94 : μ 94 0 (nI t).toNatClampNeg = μ 9 t 0 := by rw [ct, z4, z3]
    have no : ¬ (¬ i < 0 ∧ i < μ 94 0 (nI t).toNatClampNeg) := fun q => ho ⟨t, ht, rfl, by have := q.1; grind, by rw [← e94]; exact q.2⟩
    repeat' (first
      | refine c_Mo_isTable (fun _ => ?_) (fun h => absurd hy h)
      | exact hk
      | (refine zs k_Mo_seat rfl ?_; conv => whnf)
      | refine ⟨Nat.zero_lt_one, rfl, ?_⟩
      | refine ⟨rfl, ?_⟩
      | refine ⟨⟨Nat.zero_lt_one, rfl⟩, Nat.le_of_ble_eq_true rfl, ?_⟩
      | refine ⟨Nat.le_of_ble_eq_true rfl, Nat.le_of_ble_eq_true rfl, ?_⟩
      | refine ⟨(by first | exact Nat.zero_lt_one | assumption | omega), (by first | assumption | exact vp_in_nI (by omega) (by omega) | (unfold vp_in; decide)), ?_⟩
      | refine ⟨(by first | exact Nat.zero_lt_one | assumption | omega), rfl, ?_⟩
      | refine ⟨⟨(by first | exact Nat.zero_lt_one | assumption | omega), rfl⟩, Nat.le_of_ble_eq_true rfl, ?_⟩
      | refine ⟨(by first | exact Nat.zero_lt_one | assumption | omega), ?_⟩
      | refine ⟨Or.inl rfl, ?_⟩
      | refine ⟨Or.inr (Or.inl rfl), ?_⟩
      | refine ⟨Or.inr (Or.inr rfl), ?_⟩
      | refine ⟨Or.inr ⟨rfl, (by first | exact Or.inl rfl | exact Or.inr rfl | assumption)⟩, ?_⟩
      | refine ⟨fun h => absurd h (by decide), fun _ => ?_⟩
      | refine ⟨fun _ => ?_, fun h => absurd h (by decide)⟩
      | refine ⟨fun h => ?_, fun h => ?_⟩
      | exact absurd ⟨by assumption, by grind⟩ no
      | fail)
  obtain ⟨t, j, z, ht, rfl, rfl, hj, hz, e9, e94⟩ := stOk_of g ho
  have hk := h1 t j ho ht (by omega) rfl rfl
  have ct : (nI t).toNatClampNeg = t := nI_clamp (by omega)
  have hy : 0 ≤ nI t ∧ nI t < μ 48 0 42 := by rw [hn]; exact zIx_y ht (by omega)
  have e94' : ¬ μ 94 0 (nI t).toNatClampNeg ≤ nI j := by rw [ct, e94]; exact nI_ge hj (by omega)
  have m1 : (12 : Int32) * nI t + nI j = nI (12 * t + j) := by rw [show (12 : Int32) * nI t = nI (12 * t) from pk_mul 12 t, nI_add]
  have v1 : vp_in ((12 : Int32) * nI t + nI j) 48 := by rw [m1]; exact vp_in_nI (by omega) (by omega)
  have c1 : ((12 : Int32) * nI t + nI j).toNatClampNeg = 12 * t + j := by rw [m1]; exact nI_clamp (by omega)
  have e95 : μ 95 0 ((12 : Int32) * nI t + nI j).toNatClampNeg = μ 40 t j := by rw [c1]; exact (g.2.2.2 t ht).2.2.2.1 j (by omega)
  repeat' (first
    | refine c_Mo_isTable (fun _ => ?_) (fun h => absurd hy h)
    | refine br_f (nI_pos (by omega)) ?_
    | refine br_f e94' ?_
    | exact zKe hk e95 rfl
    | (refine zs k_Mo_seat rfl ?_; conv => whnf)
    | refine ⟨Nat.zero_lt_one, rfl, ?_⟩
    | refine ⟨rfl, ?_⟩
    | refine ⟨⟨Nat.zero_lt_one, rfl⟩, Nat.le_of_ble_eq_true rfl, ?_⟩
    | refine ⟨Nat.le_of_ble_eq_true rfl, Nat.le_of_ble_eq_true rfl, ?_⟩
    | refine ⟨(by first | exact Nat.zero_lt_one | assumption | omega), (by first | assumption | exact vp_in_nI (by omega) (by omega) | (unfold vp_in; decide)), ?_⟩
    | refine ⟨(by first | exact Nat.zero_lt_one | assumption | omega), rfl, ?_⟩
    | refine ⟨⟨(by first | exact Nat.zero_lt_one | assumption | omega), rfl⟩, Nat.le_of_ble_eq_true rfl, ?_⟩
    | refine ⟨(by first | exact Nat.zero_lt_one | assumption | omega), ?_⟩
    | refine ⟨Or.inl rfl, ?_⟩
    | refine ⟨Or.inr (Or.inl rfl), ?_⟩
    | refine ⟨Or.inr (Or.inr rfl), ?_⟩
    | refine ⟨Or.inr ⟨rfl, (by first | exact Or.inl rfl | exact Or.inr rfl | assumption)⟩, ?_⟩
    | refine ⟨fun h => absurd h (by decide), fun _ => ?_⟩
    | refine ⟨fun _ => ?_, fun h => absurd h (by decide)⟩
    | refine ⟨fun h => ?_, fun h => ?_⟩
    | fail)
theorem b_seat {μ : zMu} {x y : Int32} (h : Rel μ) : Both m_De_seat m_Mo_seat [zI x, zI y] μ := by
  intro d K hK
  obtain ⟨ns, n, nr, nh, nt, nb, L, g1, g2, g3, g4, g5, g6, g7, g8, g9, g10, g11⟩ := id h
  have h4 := g6.2.2.1
  refine c_De_seat g6 (fun a => hK _ _ (fun d K2 hK2 => ?_)) (fun t j ho ht hj ex ey => hK _ _ (fun d K2 hK2 => ?_))
  · exact c_Mo_seat g6 (fun _ => hK2 _ h) (fun t j q => absurd q a)
  · subst ex ey
    refine c_Mo_seat g6 (fun q => absurd ho q) (fun t' j' _ ht' hj' ex ey => ?_)
    obtain rfl := (nI_eq (by omega) (by omega)).mp ex
    obtain rfl := (nI_eq (by omega) (by omega)).mp ey
    exact hK2 _ h
-- ---- close
theorem pUp_inv {a : Nat → Int32} (hd : ∀ j k, j < k → k < 12 → a j = a k → a j = -1) : ∀ i, i ≤ 12 → (∀ k, i ≤ k → (pUp a i).2 k = a k) ∧ (∀ k, (pUp a i).1 ≤ k → k < i → (pUp a i).2 k = -1) ∧ (∀ k, k < 12 → (pUp a i).2 k = -1 ∨ ∃ j, j < 12 ∧ (pUp a i).2 k = a j) ∧ (∀ j k, j < k → k < 12 → (pUp a i).2 j = (pUp a i).2 k → (pUp a i).2 j = -1)
  | 0, _ => ⟨fun _ _ => rfl, fun k h1 h2 => absurd h2 (by omega), fun k hk => Or.inr ⟨k, hk, rfl⟩, hd⟩
  | i + 1, hi => by
    obtain ⟨h1, h2, h3, h4⟩ := pUp_inv hd i (by omega)
    have hle := pUp_le a i
    rw [pUp]
    generalize hr : pUp a i = r at *
    obtain ⟨m, b⟩ := r
    dsimp only at *
    by_cases q : b i = -1
    · rw [if_pos q]
      refine ⟨fun k hk => h1 k (by omega), fun k hk1 hk2 => ?_, h3, h4⟩
      rcases Nat.lt_or_ge k i with w | w
      · exact h2 k hk1 w
      · obtain rfl : k = i := by omega
        exact q
    · rw [if_neg q]
      have ev : ∀ k, upd (upd b i (-1)) m (b i) k = if k = m then b i else if k = i then -1 else b k := fun k => by
        simp only [upd]
      refine ⟨fun k hk => ?_, fun k hk1 hk2 => ?_, fun k hk => ?_, fun j k hj hk => ?_⟩
      · show upd (upd b i (-1)) m (b i) k = a k
        rw [ev, if_neg (by omega), if_neg (by omega)]
        exact h1 k (by omega)
      · show upd (upd b i (-1)) m (b i) k = -1
        have hk1' : m + 1 ≤ k := hk1
        rw [ev, if_neg (by omega)]
        by_cases w : k = i
        · rw [if_pos w]
        · rw [if_neg w]
          exact h2 k (by omega) (by omega)
      · show upd (upd b i (-1)) m (b i) k = -1 ∨ ∃ j, j < 12 ∧ upd (upd b i (-1)) m (b i) k = a j
        rw [ev]
        by_cases w1 : k = m
        · rw [if_pos w1]
          exact h3 i (by omega)
        · rw [if_neg w1]
          by_cases w : k = i
          · rw [if_pos w]
            exact Or.inl rfl
          · rw [if_neg w]
            exact h3 k hk
      · show upd (upd b i (-1)) m (b i) j = upd (upd b i (-1)) m (b i) k → upd (upd b i (-1)) m (b i) j = -1
        rw [ev, ev]
        intro he
        by_cases j1 : j = m
        · rw [if_pos j1] at he ⊢
          rw [if_neg (by omega)] at he
          by_cases k2 : k = i
          · rw [if_pos k2] at he
            exact he
          · rw [if_neg k2] at he
            rcases Nat.lt_or_ge i k with w | w
            · exact h4 i k w hk he
            · rw [he]
              exact h2 k (by omega) (by omega)
        · rw [if_neg j1] at he ⊢
          by_cases j2 : j = i
          · rw [if_pos j2]
          · rw [if_neg j2] at he ⊢
            by_cases k1 : k = m
            · rw [if_pos k1] at he
              rcases Nat.lt_or_ge j i with w | w
              · exact h4 j i w (by omega) he
              · exact absurd w (by omega)
            · rw [if_neg k1] at he
              by_cases k2 : k = i
              · rw [if_pos k2] at he
                exact he
              · rw [if_neg k2] at he
                exact h4 j k hj hk he
theorem pUp_z {a : Nat → Int32} (hd : ∀ j k, j < k → k < 12 → a j = a k → a j = -1) {z : Nat} (hz : ∀ k, z ≤ k → k < 12 → a k = -1) : ∀ j, z + j ≤ 12 → pUp a (z + j) = pUp a z
  | 0, _ => rfl
  | j + 1, hj => by
    have ih := pUp_z hd hz j (by omega)
    have h1 := (pUp_inv hd (z + j) (by omega)).1 (z + j) (Nat.le_refl _)
    show pUp a (z + j + 1) = _
    rw [pUp, if_pos (h1.trans (hz _ (by omega) (by omega)))]
    exact ih
theorem c_De_close {d nt n : Nat} {μ : zMu} {x : Int32} {K : Option zV → zMu → Prop} (g : gTb μ nt n) (h0 : ¬ okI nt x → K (some (zI (-1))) μ) (h1 : ∀ t, t < nt → x = nI t → K (some (zI (nI (pUp (μ 40 t) 12).1))) (cRow μ 40 t (pUp (μ 40 t) 12).2)) : Ct (d + 1) m_De_close [zR 0 0, zI x] μ K := by
  refine zmeet rfl (Nat.le_of_ble_eq_true rfl) (fun S => ?_)
  have h4 := g.2.2.1
  rcases zIx x (n := nt) (by omega) with ⟨t, ht, rfl⟩ | q
  case inr =>
    have hk := h0 q
    repeat' (first
      | refine c_Ha_hasTable (fun h h' => absurd (by rw [← g.1]; exact ⟨h, h'⟩) q) (fun _ => ?_)
      | exact hk
      | (refine zs k_De_close rfl ?_; conv => whnf)
      | refine ⟨Nat.zero_lt_one, rfl, ?_⟩
      | refine ⟨rfl, ?_⟩
      | refine ⟨⟨Nat.zero_lt_one, rfl⟩, Nat.le_of_ble_eq_true rfl, ?_⟩
      | refine ⟨Nat.le_of_ble_eq_true rfl, Nat.le_of_ble_eq_true rfl, ?_⟩
      | refine ⟨(by first | exact Nat.zero_lt_one | assumption | omega), (by first | assumption | exact vp_in_nI (by omega) (by omega) | (unfold vp_in; decide)), ?_⟩
      | refine ⟨(by first | exact Nat.zero_lt_one | assumption | omega), rfl, ?_⟩
      | refine ⟨⟨(by first | exact Nat.zero_lt_one | assumption | omega), rfl⟩, Nat.le_of_ble_eq_true rfl, ?_⟩
      | refine ⟨(by first | exact Nat.zero_lt_one | assumption | omega), ?_⟩
      | refine ⟨Or.inl rfl, ?_⟩
      | refine ⟨Or.inr (Or.inl rfl), ?_⟩
      | refine ⟨Or.inr (Or.inr rfl), ?_⟩
      | refine ⟨Or.inr ⟨rfl, (by first | exact Or.inl rfl | exact Or.inr rfl | assumption)⟩, ?_⟩
      | refine ⟨fun h => absurd h (by decide), fun _ => ?_⟩
      | refine ⟨fun _ => ?_, fun h => absurd h (by decide)⟩
      | refine ⟨fun h => ?_, fun h => ?_⟩
      | fail)
  have hk := h1 t ht rfl
  have hy : 0 ≤ nI t ∧ nI t < μ 5 0 0 := by rw [g.1]; exact zIx_y ht (by omega)
  obtain ⟨-, -, ⟨z, z1, z2, z3, z4, z5⟩, a4, a5, a6⟩ := g.2.2.2 t ht
  have hu := pUp_z a6 z5 (12 - z) (by omega)
  rw [show z + (12 - z) = 12 by omega] at hu
  rw [hu] at hk
  have ct : (nI t).toNatClampNeg = t := nI_clamp (by omega)
  have hvt : vp_in (nI t) 4 := vp_in_nI (by omega) (by omega)
  have hlt : (nI t).toNatClampNeg < 4 := by omega
  have e9 : μ 9 (nI t).toNatClampNeg 0 = nI z := by rw [ct]; exact z3
  rw [← ct] at hk
  repeat' (first
    | refine c_Ha_hasTable (fun _ _ => ?_) (fun h => absurd hy h)
    | refine c_Tb_moveUp hlt e9 z2 ?_
    | exact hk
    | (refine zs k_De_close rfl ?_; conv => whnf)
    | refine ⟨Nat.zero_lt_one, rfl, ?_⟩
    | refine ⟨rfl, ?_⟩
    | refine ⟨⟨Nat.zero_lt_one, rfl⟩, Nat.le_of_ble_eq_true rfl, ?_⟩
    | refine ⟨Nat.le_of_ble_eq_true rfl, Nat.le_of_ble_eq_true rfl, ?_⟩
    | refine ⟨(by first | exact Nat.zero_lt_one | assumption | omega), (by first | assumption | exact vp_in_nI (by omega) (by omega) | (unfold vp_in; decide)), ?_⟩
    | refine ⟨(by first | exact Nat.zero_lt_one | assumption | omega), rfl, ?_⟩
    | refine ⟨⟨(by first | exact Nat.zero_lt_one | assumption | omega), rfl⟩, Nat.le_of_ble_eq_true rfl, ?_⟩
    | refine ⟨(by first | exact Nat.zero_lt_one | assumption | omega), ?_⟩
    | refine ⟨Or.inl rfl, ?_⟩
    | refine ⟨Or.inr (Or.inl rfl), ?_⟩
    | refine ⟨Or.inr (Or.inr rfl), ?_⟩
    | refine ⟨Or.inr ⟨rfl, (by first | exact Or.inl rfl | exact Or.inr rfl | assumption)⟩, ?_⟩
    | refine ⟨fun h => absurd h (by decide), fun _ => ?_⟩
    | refine ⟨fun _ => ?_, fun h => absurd h (by decide)⟩
    | refine ⟨fun h => ?_, fun h => ?_⟩
    | fail)
set_option maxHeartbeats 1000000 in
theorem c_Mo_close {d nt : Nat} {μ : zMu} {x : Int32} {a : Nat → Nat → Int32} {K : Option zV → zMu → Prop} (hn : μ 48 0 42 = nI nt) (h4 : nt ≤ 4) (ha : ∀ t, t < nt → ∀ k, k < 12 → μ 95 0 (12 * t + k) = a t k) (hd : ∀ t, t < nt → ∀ j k, j < k → k < 12 → a t j = a t k → a t j = -1) (h0 : ¬ okI nt x → K (some (zI (-1))) μ) (h1 : ∀ t μ', t < nt → x = nI t → (∀ f, f ≠ 95 → μ' f = μ f) → (∀ k, ¬ (12 * t ≤ k ∧ k < 12 * t + 12) → μ' 95 0 k = μ 95 0 k) → (∀ k, k < 12 → μ' 95 0 (12 * t + k) = (pUp (a t) 12).2 k) → K (some (zI (nI (pUp (a t) 12).1))) μ') : Ct (d + 1) m_Mo_close [zR 48 0, zI x] μ K := by
  refine zmeet rfl (Nat.le_of_ble_eq_true rfl) (fun S => ?_)
  rcases zIx x (n := nt) (by omega) with ⟨t, ht, rfl⟩ | q
  case inr =>
    have hk := h0 q
    repeat' (first
      | refine c_Mo_isTable (fun h => absurd (by rw [← hn]; exact h) q) (fun _ => ?_)
      | exact hk
      | (refine zs k_Mo_close rfl ?_; conv => whnf)
      | refine ⟨Nat.zero_lt_one, rfl, ?_⟩
      | refine ⟨rfl, ?_⟩
      | refine ⟨⟨Nat.zero_lt_one, rfl⟩, Nat.le_of_ble_eq_true rfl, ?_⟩
      | refine ⟨Nat.le_of_ble_eq_true rfl, Nat.le_of_ble_eq_true rfl, ?_⟩
      | refine ⟨(by first | exact Nat.zero_lt_one | assumption | omega), (by first | assumption | exact vp_in_nI (by omega) (by omega) | (unfold vp_in; decide)), ?_⟩
      | refine ⟨(by first | exact Nat.zero_lt_one | assumption | omega), rfl, ?_⟩
      | refine ⟨⟨(by first | exact Nat.zero_lt_one | assumption | omega), rfl⟩, Nat.le_of_ble_eq_true rfl, ?_⟩
      | refine ⟨(by first | exact Nat.zero_lt_one | assumption | omega), ?_⟩
      | refine ⟨Or.inl rfl, ?_⟩
      | refine ⟨Or.inr (Or.inl rfl), ?_⟩
      | refine ⟨Or.inr (Or.inr rfl), ?_⟩
      | refine ⟨Or.inr ⟨rfl, (by first | exact Or.inl rfl | exact Or.inr rfl | assumption)⟩, ?_⟩
      | refine ⟨fun h => absurd h (by decide), fun _ => ?_⟩
      | refine ⟨fun _ => ?_, fun h => absurd h (by decide)⟩
      | refine ⟨fun h => ?_, fun h => ?_⟩
      | fail)
  have hy : 0 ≤ nI t ∧ nI t < μ 48 0 42 := by rw [hn]; exact zIx_y ht (by omega)
  have hm : (12 : Int32) * nI t = nI (12 * t) := pk_mul 12 t
  have hm2 : (12 : Int32) * nI t + 12 = nI (12 * t + 12) := by rw [hm]; exact nI_add _ 12
  have L : ∀ (k i : Nat) (v w : Int32) (l4 : Option zV) (μ1 : zMu), i + k = 12 → v = nI (pUp (a t) i).1 → w = nI (12 * t + i) → (∀ f, f ≠ 95 → μ1 f = μ f) → (∀ k, ¬ (12 * t ≤ k ∧ k < 12 * t + 12) → μ1 95 0 k = μ 95 0 k) → (∀ k, k < 12 → μ1 95 0 (12 * t + k) = (pUp (a t) i).2 k) → zG S (d + 1) m_Mo_close K 17 [some (zR 48 0), some (zI (nI t)), some (zI v), some (zI w), l4] [] μ1 := by
    intro k
    induction k with
    | zero =>
      intro i v w l4 μ1 hi hv hw e1 e2 e3
      obtain rfl : i = 12 := by omega
      subst hv hw
      have hk := h1 t μ1 ht rfl e1 e2 e3
      have hle : (12 : Int32) * nI t + 12 ≤ nI (12 * t + 12) := by rw [hm2]; exact nI_le (Nat.le_refl _) (by omega)
      refine zs k_Mo_close rfl ?_; conv => whnf
      repeat' (first
        | refine br_t hle ?_
        | exact hk
        | (refine zs k_Mo_close rfl ?_; conv => whnf)
        | refine ⟨Nat.zero_lt_one, rfl, ?_⟩
        | refine ⟨rfl, ?_⟩
        | refine ⟨⟨Nat.zero_lt_one, rfl⟩, Nat.le_of_ble_eq_true rfl, ?_⟩
        | refine ⟨Nat.le_of_ble_eq_true rfl, Nat.le_of_ble_eq_true rfl, ?_⟩
        | refine ⟨(by first | exact Nat.zero_lt_one | assumption | omega), (by first | assumption | exact vp_in_nI (by omega) (by omega) | (unfold vp_in; decide)), ?_⟩
        | refine ⟨(by first | exact Nat.zero_lt_one | assumption | omega), rfl, ?_⟩
        | refine ⟨⟨(by first | exact Nat.zero_lt_one | assumption | omega), rfl⟩, Nat.le_of_ble_eq_true rfl, ?_⟩
        | refine ⟨(by first | exact Nat.zero_lt_one | assumption | omega), ?_⟩
        | refine ⟨Or.inl rfl, ?_⟩
        | refine ⟨Or.inr (Or.inl rfl), ?_⟩
        | refine ⟨Or.inr (Or.inr rfl), ?_⟩
        | refine ⟨Or.inr ⟨rfl, (by first | exact Or.inl rfl | exact Or.inr rfl | assumption)⟩, ?_⟩
        | refine ⟨fun h => absurd h (by decide), fun _ => ?_⟩
        | refine ⟨fun _ => ?_, fun h => absurd h (by decide)⟩
        | refine ⟨fun h => ?_, fun h => ?_⟩
        | fail)
    | succ k ih =>
      intro i v w l4 μ1 hi hv hw e1 e2 e3
      subst hv hw
      have hlp := pUp_le (a t) i
      have hle : ¬ (12 : Int32) * nI t + 12 ≤ nI (12 * t + i) := by rw [hm2]; exact nI_ge (by omega) (by omega)
      have ci : (nI (12 * t + i)).toNatClampNeg = 12 * t + i := nI_clamp (by omega)
      have ei : μ1 95 0 (nI (12 * t + i)).toNatClampNeg = (pUp (a t) i).2 i := by rw [ci]; exact e3 i (by omega)
      have mm : (12 : Int32) * nI t + nI (pUp (a t) i).1 = nI (12 * t + (pUp (a t) i).1) := by rw [hm, nI_add]
      have vv : vp_in ((12 : Int32) * nI t + nI (pUp (a t) i).1) 48 := by rw [mm]; exact vp_in_nI (by omega) (by omega)
      have cm : ((12 : Int32) * nI t + nI (pUp (a t) i).1).toNatClampNeg = 12 * t + (pUp (a t) i).1 := by rw [mm]; exact nI_clamp (by omega)
      have inv := (pUp_inv (hd t ht) i (by omega)).2.1
      by_cases q : (pUp (a t) i).2 i = -1
      · have q' : μ1 95 0 (nI (12 * t + i)).toNatClampNeg = -1 := ei.trans q
        have hu : pUp (a t) (i + 1) = pUp (a t) i := by rw [pUp, if_pos q]
        refine zs k_Mo_close rfl ?_; conv => whnf
        repeat' (first
          | refine br_f hle ?_
          | refine br_t q' ?_
          | refine ih (i + 1) _ _ _ _ (by omega) (by rw [hu]) (by exact nI_1 _) (fun f hf => ?_) (fun k hk => ?_) (fun k hk => ?_)
          | (refine zs k_Mo_close rfl ?_; conv => whnf)
          | refine ⟨Nat.zero_lt_one, rfl, ?_⟩
          | refine ⟨rfl, ?_⟩
          | refine ⟨⟨Nat.zero_lt_one, rfl⟩, Nat.le_of_ble_eq_true rfl, ?_⟩
          | refine ⟨Nat.le_of_ble_eq_true rfl, Nat.le_of_ble_eq_true rfl, ?_⟩
          | refine ⟨(by first | exact Nat.zero_lt_one | assumption | omega), (by first | assumption | exact vp_in_nI (by omega) (by omega) | (unfold vp_in; decide)), ?_⟩
          | refine ⟨(by first | exact Nat.zero_lt_one | assumption | omega), rfl, ?_⟩
          | refine ⟨⟨(by first | exact Nat.zero_lt_one | assumption | omega), rfl⟩, Nat.le_of_ble_eq_true rfl, ?_⟩
          | refine ⟨(by first | exact Nat.zero_lt_one | assumption | omega), ?_⟩
          | refine ⟨Or.inl rfl, ?_⟩
          | refine ⟨Or.inr (Or.inl rfl), ?_⟩
          | refine ⟨Or.inr (Or.inr rfl), ?_⟩
          | refine ⟨Or.inr ⟨rfl, (by first | exact Or.inl rfl | exact Or.inr rfl | assumption)⟩, ?_⟩
          | refine ⟨fun h => absurd h (by decide), fun _ => ?_⟩
          | refine ⟨fun _ => ?_, fun h => absurd h (by decide)⟩
          | refine ⟨fun h => ?_, fun h => ?_⟩
          | fail)
        · funext p r
          rw [zu_ne (fun z => hf z.1), e1 f hf]
        · rw [ci, zu_ne (by omega)]
          exact e2 k hk
        · rw [ci, hu]
          by_cases w : k = i
          · subst w
            rw [zu_eq]
            exact q.symm
          · rw [zu_ne (by omega)]
            exact e3 k hk
      · have q' : ¬ μ1 95 0 (nI (12 * t + i)).toNatClampNeg = -1 := by rw [ei]; exact q
        have hu : pUp (a t) (i + 1) = ((pUp (a t) i).1 + 1, upd (upd (pUp (a t) i).2 i (-1)) (pUp (a t) i).1 ((pUp (a t) i).2 i)) := by rw [pUp, if_neg q]
        refine zs k_Mo_close rfl ?_; conv => whnf
        repeat' (first
          | refine br_f hle ?_
          | refine br_f q' ?_
          | refine ih (i + 1) _ _ _ _ (by omega) (by rw [hu]; exact nI_1 _) (by exact nI_1 _) (fun f hf => ?_) (fun k hk => ?_) (fun k hk => ?_)
          | (refine zs k_Mo_close rfl ?_; conv => whnf)
          | refine ⟨Nat.zero_lt_one, rfl, ?_⟩
          | refine ⟨rfl, ?_⟩
          | refine ⟨⟨Nat.zero_lt_one, rfl⟩, Nat.le_of_ble_eq_true rfl, ?_⟩
          | refine ⟨Nat.le_of_ble_eq_true rfl, Nat.le_of_ble_eq_true rfl, ?_⟩
          | refine ⟨(by first | exact Nat.zero_lt_one | assumption | omega), (by first | assumption | exact vp_in_nI (by omega) (by omega) | (unfold vp_in; decide)), ?_⟩
          | refine ⟨(by first | exact Nat.zero_lt_one | assumption | omega), rfl, ?_⟩
          | refine ⟨⟨(by first | exact Nat.zero_lt_one | assumption | omega), rfl⟩, Nat.le_of_ble_eq_true rfl, ?_⟩
          | refine ⟨(by first | exact Nat.zero_lt_one | assumption | omega), ?_⟩
          | refine ⟨Or.inl rfl, ?_⟩
          | refine ⟨Or.inr (Or.inl rfl), ?_⟩
          | refine ⟨Or.inr (Or.inr rfl), ?_⟩
          | refine ⟨Or.inr ⟨rfl, (by first | exact Or.inl rfl | exact Or.inr rfl | assumption)⟩, ?_⟩
          | refine ⟨fun h => absurd h (by decide), fun _ => ?_⟩
          | refine ⟨fun _ => ?_, fun h => absurd h (by decide)⟩
          | refine ⟨fun h => ?_, fun h => ?_⟩
          | fail)
        · funext p r
          rw [zu_ne (fun z => hf z.1), zu_ne (fun z => hf z.1), e1 f hf]
        · rw [cm, ci, zu_ne (by omega), zu_ne (by omega)]
          exact e2 k hk
        · rw [cm, ci, hu]
          show _ = upd (upd (pUp (a t) i).2 i (-1)) (pUp (a t) i).1 ((pUp (a t) i).2 i) k
          simp only [upd]
          by_cases w : k = (pUp (a t) i).1
          · rw [if_pos w, w, zu_eq, e3 i (by omega)]
          · rw [if_neg w, zu_ne (by omega)]
            by_cases w2 : k = i
            · rw [if_pos w2, w2, zu_eq]
            · rw [if_neg w2, zu_ne (by omega)]
              exact e3 k hk
  repeat' (first
    | refine c_Mo_isTable (fun _ => ?_) (fun h => absurd hy h)
    | refine L 12 0 _ _ _ _ (by omega) rfl (by exact hm) (fun _ _ => rfl) (fun _ _ => rfl) (ha t ht)
    | (refine zs k_Mo_close rfl ?_; conv => whnf)
    | refine ⟨Nat.zero_lt_one, rfl, ?_⟩
    | refine ⟨rfl, ?_⟩
    | refine ⟨⟨Nat.zero_lt_one, rfl⟩, Nat.le_of_ble_eq_true rfl, ?_⟩
    | refine ⟨Nat.le_of_ble_eq_true rfl, Nat.le_of_ble_eq_true rfl, ?_⟩
    | refine ⟨(by first | exact Nat.zero_lt_one | assumption | omega), (by first | assumption | exact vp_in_nI (by omega) (by omega) | (unfold vp_in; decide)), ?_⟩
    | refine ⟨(by first | exact Nat.zero_lt_one | assumption | omega), rfl, ?_⟩
    | refine ⟨⟨(by first | exact Nat.zero_lt_one | assumption | omega), rfl⟩, Nat.le_of_ble_eq_true rfl, ?_⟩
    | refine ⟨(by first | exact Nat.zero_lt_one | assumption | omega), ?_⟩
    | refine ⟨Or.inl rfl, ?_⟩
    | refine ⟨Or.inr (Or.inl rfl), ?_⟩
    | refine ⟨Or.inr (Or.inr rfl), ?_⟩
    | refine ⟨Or.inr ⟨rfl, (by first | exact Or.inl rfl | exact Or.inr rfl | assumption)⟩, ?_⟩
    | refine ⟨fun h => absurd h (by decide), fun _ => ?_⟩
    | refine ⟨fun _ => ?_, fun h => absurd h (by decide)⟩
    | refine ⟨fun h => ?_, fun h => ?_⟩
    | fail)
theorem b_close {μ : zMu} {x : Int32} (h : Rel μ) : Both m_De_close m_Mo_close [zI x] μ := by
  intro d K hK
  obtain ⟨ns, n, nr, nh, nt, nb, L, g1, g2, g3, g4, g5, g6, g7, g8, g9, g10, g11⟩ := id h
  have h4 := g6.2.2.1
  have ha : ∀ t, t < nt → ∀ k, k < 12 → μ 95 0 (12 * t + k) = μ 40 t k := fun t ht => (g6.2.2.2 t ht).2.2.2.1
  have hd : ∀ t, t < nt → ∀ j k, j < k → k < 12 → μ 40 t j = μ 40 t k → μ 40 t j = -1 := fun t ht => (g6.2.2.2 t ht).2.2.2.2.2
  refine c_De_close g6 (fun a => hK _ _ (fun d K2 hK2 => ?_)) (fun t ht ex => hK _ _ (fun d K2 hK2 => ?_))
  · exact c_Mo_close (a := μ 40) g6.2.1 h4 ha hd (fun _ => hK2 _ h) (fun t μ' ht ex => absurd (by rw [ex]; exact okI_i ht (by omega)) a)
  · subst ex
    have e95 : ∀ t' k, cRow μ 40 t (pUp (μ 40 t) 12).2 95 0 (12 * t' + k) = μ 95 0 (12 * t' + k) := fun _ _ => rfl
    refine c_Mo_close (a := μ 40) (nt := nt) g6.2.1 h4 (fun t' ht' k hk => (e95 t' k).trans (ha t' ht' k hk)) hd (fun q => absurd (okI_i ht (by omega)) q) (fun t' M ht' ex e0 e2 e3 => ?_)
    obtain rfl := (nI_eq (by omega) (by omega)).mp ex
    refine hK2 _ ?_
    have m0 : ∀ f, f ≠ 40 → f ≠ 95 → M f = μ f := fun f q1 q2 => by
      rw [e0 f q2]
      funext a b
      exact if_neg (fun z => q1 z.1)
    have m40 : ∀ u k, M 40 u k = if u = t then (pUp (μ 40 t) 12).2 k else μ 40 u k := fun u k => by
      rw [e0 40 (by omega)]
      unfold cRow
      simp only [true_and]
    have ef : ∀ l : List Nat, l.all (fun f => !([40, 95] : List Nat).contains f) = true → ∀ f, f ∈ l → M f = μ f := fun l hl f hf => by
      have := List.all_eq_true.mp hl f hf
      simp at this
      exact m0 f this.1 this.2
    have e48 : M 48 = μ 48 := ef [48] rfl 48 (by simp)
    refine ⟨ns, n, nr, nh, nt, nb, L, gSt_fr (ef _ rfl) (by rw [e48]) g1, gPe_fr (ef _ rfl) (by rw [e48]) g2, gTp_fr (ef _ rfl) (by rw [ef [2] rfl 2 (by simp)]) (by rw [e48]) g3, gRu_fr (ef _ rfl) (by rw [e48]) g4, gHd_fr (ef _ rfl) (by rw [e48]) g5, ⟨by rw [ef [5] rfl 5 (by simp)]; exact g6.1, by rw [e48]; exact g6.2.1, h4, fun u hu => ?_⟩, gFe_fr (ef _ rfl) g7, gCo_fr (ef _ rfl) g8, gVs_fr (ef _ rfl) (by rw [e48]) g9, gWi_fr (ef [7] rfl 7 (by simp)) (by rw [e48]) g10, gCs_fr (ef _ rfl) g11⟩
    obtain ⟨a1, a2, ⟨z, z1, z2, z3, z4, z5⟩, a4, a5, a6⟩ := g6.2.2.2 u hu
    unfold gT1
    rw [ef [9] rfl 9 (by simp), ef [93] rfl 93 (by simp), ef [94] rfl 94 (by simp), ef [10] rfl 10 (by simp)]
    by_cases q : u = t
    · subst q
      obtain ⟨i1, i2, i3, i4⟩ := pUp_inv a6 12 (Nat.le_refl _)
      have iu := pUp_z a6 z5 (12 - z) (by omega)
      rw [show z + (12 - z) = 12 by omega] at iu
      have ile := pUp_le (μ 40 u) z
      have f40 : ∀ k, M 40 u k = (pUp (μ 40 u) 12).2 k := fun k => by rw [m40, if_pos rfl]
      refine ⟨a1, a2, ⟨z, z1, z2, z3, z4, fun k h1 h2 => ?_⟩, fun k hk => ?_, fun k hk => ?_, fun j k hj hk => ?_⟩
      · rw [f40]
        exact i2 k (by rw [iu]; omega) h2
      · rw [f40]
        exact e3 k hk
      · rw [f40]
        rcases i3 k hk with r | ⟨j, hj, r⟩
        · exact Or.inl r
        · rw [r]
          exact a5 j hj
      · rw [f40, f40]
        exact i4 j k hj hk
    · have f40 : ∀ k, M 40 u k = μ 40 u k := fun k => by rw [m40, if_neg q]
      refine ⟨a1, a2, ⟨z, z1, z2, z3, z4, fun k h1 h2 => ?_⟩, fun k hk => ?_, fun k hk => ?_, fun j k hj hk => ?_⟩
      · rw [f40]
        exact z5 k h1 h2
      · rw [f40, e2 _ (by omega)]
        exact a4 k hk
      · rw [f40]
        exact a5 k hk
      · rw [f40, f40]
        exact a6 j k hj hk
