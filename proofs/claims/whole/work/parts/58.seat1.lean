/-! SEATING: the search -/
def lw (w : List Nat) (k : Nat) : Int32 := match w[k]? with
  | some p => nI p
  | none => -1
theorem lw_at {w : List Nat} {k p : Nat} (h : w[k]? = some p) : lw w k = nI p := by
  unfold lw
  rw [h]
theorem lw_out {w : List Nat} {k : Nat} (h : w.length ≤ k) : lw w k = -1 := by
  unfold lw
  rw [List.getElem?_eq_none h]
theorem lw_app {w u : List Nat} {k : Nat} (h : k < w.length) : lw (w ++ u) k = lw w k := by
  unfold lw
  rw [List.getElem?_append_left h]
theorem lw_new {w : List Nat} {g : Nat} : lw (w ++ [g]) w.length = nI g := lw_at (by simp)
def hFdB (μ : zMu) (p q : Int32) : Bool := decide (¬ p = -1 ∧ ¬ q = -1 ∧ μ 36 (μ 17 p.toNatClampNeg 5).toNatClampNeg (μ 17 q.toNatClampNeg 5).toNatClampNeg = 1)
def hPeB (μ : zMu) (r : Nat → Int32) (rd : Int32) (n k : Nat) : Bool := !hFdB μ (r k) (jAt r (jBe k)) && (!hFdB μ (r k) (jAt r (jAr rd n k)) && !hFdB μ (r k) (jAt r (jFa rd n k)))
theorem hFd_iff {μ : zMu} {p q : Int32} : hFd μ p q ↔ hFdB μ p q = true := by
  unfold hFd hFdB
  exact decide_eq_true_iff.symm
theorem hPe_iff {μ : zMu} {r : Nat → Int32} {rd : Int32} {n k : Nat} : hPe μ r rd n k ↔ hPeB μ r rd n k = true := by
  unfold hPe hPeB
  rw [hFd_iff, hFd_iff, hFd_iff, Bool.and_eq_true, Bool.and_eq_true, Bool.not_eq_true', Bool.not_eq_true', Bool.not_eq_true', Bool.not_eq_true, Bool.not_eq_true, Bool.not_eq_true]
theorem jAt_loc {r r' : Nat → Int32} {k : Nat} (h : ∀ j, j ≤ k → r' j = r j) {x : Int32} (hx : x = -1 ∨ ∃ j, j ≤ k ∧ j < 20 ∧ x = nI j) : jAt r' x = jAt r x := by
  unfold jAt
  rcases hx with e | ⟨j, hj, h20, rfl⟩
  · rw [if_pos e, if_pos e]
  · rw [if_neg (nI_nem1 (by omega)), if_neg (nI_nem1 (by omega)), nI_clamp (by omega)]
    exact h j hj
theorem hPe_loc {μ μ' : zMu} {r r' : Nat → Int32} {rd : Int32} {n k : Nat} (hk : k < 12) (h : ∀ j, j ≤ k → r' j = r j) (h36 : μ' 36 = μ 36) (h17 : μ' 17 = μ 17) : hPe μ' r' rd n k ↔ hPe μ r rd n k := by
  unfold hPe hFd
  rw [jAt_loc h (jBe_ok hk), jAt_loc h jAr_ok, jAt_loc h (jFa_ok hk), h k (Nat.le_refl k), h36, h17]
theorem hPr_loc {μ μ' : zMu} {r r' : Nat → Int32} {rd : Int32} {n k : Nat} (hk : k < 12) (h : ∀ j, j ≤ k → r' j = r j) (h38 : μ' 38 = μ 38) (h17 : μ' 17 = μ 17) (h39 : μ' 39 = μ 39) : hPr μ' r' rd n k = hPr μ r rd n k := by
  unfold hPr hTk
  rw [jAt_loc h (jBe_ok hk), jAt_loc h jAr_ok, h k (Nat.le_refl k), h38, h17, h39]
-- ---- the search's prices and peace
def sPe (μ : zMu) (rd : Int32) (n : Nat) (w : List Nat) : Bool := hPeB μ (lw w) rd n (w.length - 1)
def sPc (μ : zMu) (rd : Int32) (n : Nat) (w : List Nat) : Nat := (hPr μ (lw w) rd n (w.length - 1)).toNatClampNeg
abbrev zNot (w : List Nat) (g : Nat) : Bool := !decide (g ∈ w)
def sEnv (μ : zMu) (t n : Nat) (gs : List Nat) : Prop := t < 4 ∧ μ 9 t 0 = nI n ∧ n ≤ 12 ∧ gs.length ≤ 7 ∧ gs.length ≤ n ∧ gs.Nodup ∧ (∀ g ∈ gs, g < 20 ∧ hOk μ (nI g)) ∧ (∀ j g, gs[j]? = some g → μ 41 0 j = nI g) ∧ (∀ w, w ≠ [] → w.length ≤ gs.length → (∀ x ∈ w, x ∈ gs) → ∃ N, N ≤ 100 ∧ hPr μ (lw w) (μ 9 t 2) n (w.length - 1) = nI N)
def sSt (μ0 μ : zMu) (gs w : List Nat) (b : Nat × List Nat) : Prop :=
  (∀ f, f ∉ [6, 42, 43, 44] → μ f = μ0 f) ∧ μ 6 0 5 = nI gs.length ∧ μ 6 0 6 = nI b.1 ∧ (∀ j g, gs[j]? = some g → μ 42 0 j = if g ∈ w then 1 else 0) ∧ (∀ k, k < w.length → μ 43 0 k = lw w k) ∧ (∀ k, k < 12 → μ 44 0 k = lw b.2 k) ∧ b.2.length ≤ gs.length ∧ b.1 ≤ 1000000
theorem bst_le : ∀ {l : List (Nat × List Nat)} {b : Nat × List Nat}, (l.foldl bst b).1 ≤ b.1
  | [], b => Nat.le_refl _
  | e :: l, b => by
    rw [List.foldl_cons]
    refine Nat.le_trans bst_le ?_
    unfold bst
    split <;> omega
theorem sSt_row {μ0 μ : zMu} {gs w : List Nat} {b : Nat × List Nat} {k : Nat} {x : Int32} (h : sSt μ0 μ gs w b) (hk : w.length ≤ k) : sSt μ0 (zu μ 43 0 k x) gs w b := by
  obtain ⟨h1, h2, h3, h4, h5, h6, h7, h8⟩ := h
  refine ⟨fun f hf => ?_, h2, h3, h4, fun j hj => ?_, h6, h7, h8⟩
  · rw [← h1 f hf]
    funext a c
    exact zu_ne (fun q => hf (by rw [q.1]; simp))
  · rw [zu_ne (fun q => by omega)]
    exact h5 j hj
theorem gs_ix {gs : List Nat} (hn : gs.Nodup) {i j g : Nat} (hi : gs[i]? = some g) (hj : gs[j]? = some g) : i = j := by
  obtain ⟨a1, e1⟩ := List.getElem?_eq_some_iff.mp hi
  obtain ⟨a2, e2⟩ := List.getElem?_eq_some_iff.mp hj
  have hp := List.pairwise_iff_getElem.mp hn
  rcases Nat.lt_trichotomy i j with q | q | q
  · exact absurd (e1.trans e2.symm) (hp i j a1 a2 q)
  · exact q
  · exact absurd (e2.trans e1.symm) (hp j i a2 a1 q)
/-- a guest takes the next seat -/
theorem sSt_in {μ0 μ : zMu} {gs w : List Nat} {b : Nat × List Nat} {j g : Nat} (hn : gs.Nodup) (hg : gs[j]? = some g) (h : sSt μ0 μ gs w b) : sSt μ0 (zu (zu μ 43 0 w.length (nI g)) 42 0 j 1) gs (w ++ [g]) b := by
  obtain ⟨h1, h2, h3, h4, h5, h6, h7, h8⟩ := h
  refine ⟨fun f hf => ?_, h2, h3, fun i e he => ?_, fun k hk => ?_, h6, h7, h8⟩
  · rw [← h1 f hf]
    funext a c
    rw [zu_ne (fun q => hf (by rw [q.1]; simp)), zu_ne (fun q => hf (by rw [q.1]; simp))]
  · by_cases hij : i = j
    · subst hij
      obtain rfl : g = e := Option.some.inj (hg.symm.trans he)
      rw [zu_eq, if_pos (by simp)]
    · rw [zu_ne (fun q => hij q.2.1)]
      show μ 42 0 i = _
      rw [h4 i e he]
      have : e ≠ g := fun q => hij (gs_ix hn (q ▸ he) hg)
      simp [this]
  · show zu μ 43 0 w.length (nI g) 43 0 k = _
    rw [List.length_append, List.length_singleton] at hk
    by_cases hkl : k = w.length
    · subst hkl
      rw [zu_eq, lw_new]
    · rw [zu_ne (fun q => hkl q.2.1), lw_app (by omega)]
      exact h5 k (by omega)
/-- and leaves it -/
theorem sSt_out {μ0 μ : zMu} {gs w : List Nat} {b : Nat × List Nat} {j g : Nat} (hn : gs.Nodup) (hg : gs[j]? = some g) (hw : g ∉ w) (h : sSt μ0 μ gs (w ++ [g]) b) : sSt μ0 (zu μ 42 0 j 0) gs w b := by
  obtain ⟨h1, h2, h3, h4, h5, h6, h7, h8⟩ := h
  refine ⟨fun f hf => ?_, h2, h3, fun i e he => ?_, fun k hk => ?_, h6, h7, h8⟩
  · rw [← h1 f hf]
    funext a c
    exact zu_ne (fun q => hf (by rw [q.1]; simp))
  · by_cases hij : i = j
    · subst hij
      obtain rfl : g = e := Option.some.inj (hg.symm.trans he)
      rw [zu_eq, if_neg hw]
    · rw [zu_ne (fun q => hij q.2.1), h4 i e he]
      have : e ≠ g := fun q => hij (gs_ix hn (q ▸ he) hg)
      simp [this]
  · show μ 43 0 k = _
    rw [h5 k (by simp; omega), lw_app hk]
