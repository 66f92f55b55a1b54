/-! PROCESSION: the ring -/
theorem pFst_m1 {P : Nat → Bool} : ∀ {n : Nat}, n < 2 ^ 31 → pFst P n = -1 → ∀ j, j < n → P j = false
  | 0, _, _ => fun j hj => absurd hj (by omega)
  | n + 1, h, h0 => by
    rw [pFst] at h0
    split at h0
    · rename_i h1
      have ih := pFst_m1 (P := P) (n := n) (by omega) h1
      intro j hj
      rcases Nat.lt_or_ge j n with q | q
      · exact ih j q
      · obtain rfl : j = n := by omega
        cases hp : P j with
        | false => rfl
        | true =>
          rw [hp, if_pos rfl] at h0
          exact absurd h0 (nI_nem1 (by omega))
    · contradiction
theorem pFst_in {P : Nat → Bool} : ∀ {n : Nat}, n < 2 ^ 31 → pFst P n = -1 ∨ ∃ r, r < n ∧ pFst P n = nI r ∧ P r = true ∧ ∀ j, j < r → P j = false
  | 0, _ => Or.inl rfl
  | n + 1, h => by
    rcases pFst_in (P := P) (n := n) (by omega) with h0 | ⟨r, h1, h2, h3, h4⟩
    · have hn := pFst_m1 (by omega) h0
      cases hp : P n with
      | true => exact Or.inr ⟨n, by omega, by rw [pFst, if_pos h0, hp, if_pos rfl], hp, hn⟩
      | false => exact Or.inl (by rw [pFst, if_pos h0, hp]; rfl)
    · exact Or.inr ⟨r, by omega, by rw [pFst, h2, if_neg (nI_nem1 (by omega))], h3, h4⟩
/-- the walk from one on: always the least of those left that are ahead -/
def pWk (lf : Nat → Bool) (A : Nat → Nat → Bool) (n st : Nat) : Nat → Nat
  | 0 => st
  | i + 1 => (pAh lf A n (pWk lf A n st i)).toNatClampNeg
/-- T steps till one comes again, which came at s first -/
def pRg (w : Nat → Nat) (T s : Nat) : Prop := s < T ∧ w T = w s ∧ ∀ i j, i < j → j < T → w i ≠ w j
theorem pRg_one {w : Nat → Nat} {T s T' s' : Nat} (h : pRg w T s) (h' : pRg w T' s') : T = T' ∧ s = s' := by
  obtain ⟨a1, a2, a3⟩ := h
  obtain ⟨b1, b2, b3⟩ := h'
  have hT : T = T' := by
    rcases Nat.lt_trichotomy T T' with q | q | q
    · exact absurd a2.symm (b3 s T a1 q)
    · exact q
    · exact absurd b2.symm (a3 s' T' b1 q)
  subst hT
  refine ⟨rfl, ?_⟩
  rcases Nat.lt_trichotomy s s' with q | q | q
  · exact absurd (a2.symm.trans b2) (a3 s s' q b1)
  · exact q
  · exact absurd (b2.symm.trans a2) (a3 s' s q a1)
/-- all who are left have one ahead: the walk stays among them -/
theorem pWk_in {lf : Nat → Bool} {A : Nat → Nat → Bool} {n st : Nat} (hn : n ≤ 20) (hs : st < n) (hl : lf st = true) (hu : ∀ p, p < n → lf p = true → ¬ pAh lf A n p = -1) : ∀ i, pWk lf A n st i < n ∧ lf (pWk lf A n st i) = true ∧ pAh lf A n (pWk lf A n st i) = nI (pWk lf A n st (i + 1))
  | 0 => by
    refine ⟨hs, hl, ?_⟩
    rcases pFst_in (P := fun q => decide (q ≠ st) && lf q && A q st) (n := n) (by omega) with h | ⟨r, h1, h2, -⟩
    · exact absurd h (hu st hs hl)
    · show pAh lf A n st = nI (pAh lf A n st).toNatClampNeg
      unfold pAh
      rw [h2, nI_clamp (by omega)]
  | i + 1 => by
    obtain ⟨h1, h2, h3⟩ := pWk_in hn hs hl hu i
    rcases pFst_in (P := fun q => decide (q ≠ pWk lf A n st i) && lf q && A q (pWk lf A n st i)) (n := n) (by omega) with h | ⟨r, g1, g2, g3, -⟩
    · exact absurd h (hu _ h1 h2)
    · have e : pWk lf A n st (i + 1) = r := by
        show (pAh lf A n (pWk lf A n st i)).toNatClampNeg = r
        unfold pAh
        rw [g2, nI_clamp (by omega)]
      have hlr : lf r = true := by
        simp only [Bool.and_eq_true] at g3
        exact g3.1.2
      refine ⟨by rw [e]; exact g1, by rw [e]; exact hlr, ?_⟩
      rw [e]
      rcases pFst_in (P := fun q => decide (q ≠ r) && lf q && A q r) (n := n) (by omega) with h | ⟨r', k1, k2, -⟩
      · exact absurd h (hu r g1 hlr)
      · show pAh lf A n r = nI (pAh lf A n (pWk lf A n st (i + 1))).toNatClampNeg
        rw [e]
        unfold pAh
        rw [k2, nI_clamp (by omega)]
