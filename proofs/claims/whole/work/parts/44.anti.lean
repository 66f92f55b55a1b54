/-! who is ahead turns with the two -/
theorem i32_neg0 (x : Int32) : -x = 0 ↔ x = 0 := by grind
theorem pHand_anti {hx hy : Nat → Int32} {x y : Int32} (hne : ¬ x = y) : ∀ n, pHand hx hy y x n = -pHand hx hy x y n
  | 0 => by
    show (0 : Int32) = -0
    decide
  | n + 1 => by
    have ih := pHand_anti (hx := hx) (hy := hy) hne n
    simp only [pHand]
    grind
theorem pV_anti (F : Nat → Nat → Int32) (u : rU) (o day : Int32) (x y : Nat) : pV F u o day y x = -pV F u o day x y := by
  simp only [pV]
  generalize F x u.2.1.toNatClampNeg = a
  generalize F y u.2.1.toNatClampNeg = b
  generalize pHolds F u x y = p
  generalize pHolds F u y x = q
  generalize u.2.2.1 = dn
  have hC : (a = b ∨ ¬ (u.2.2.2.2.1 ≤ day ∧ day < u.2.2.2.2.2.1 ∧ (u.1 = -1 ∨ u.1 = o)) ∨ (p = false ∧ q = false)) ↔ (b = a ∨ ¬ (u.2.2.2.2.1 ≤ day ∧ day < u.2.2.2.2.2.1 ∧ (u.1 = -1 ∨ u.1 = o)) ∨ (q = false ∧ p = false)) := by
    constructor
    · rintro (h | h | h)
      · exact Or.inl h.symm
      · exact Or.inr (Or.inl h)
      · exact Or.inr (Or.inr ⟨h.2, h.1⟩)
    · rintro (h | h | h)
      · exact Or.inl h.symm
      · exact Or.inr (Or.inl h)
      · exact Or.inr (Or.inr ⟨h.2, h.1⟩)
  by_cases h : (a = b ∨ ¬ (u.2.2.2.2.1 ≤ day ∧ day < u.2.2.2.2.2.1 ∧ (u.1 = -1 ∨ u.1 = o)) ∨ (p = false ∧ q = false))
  · rw [if_pos h, if_pos (hC.mp h)]
    decide
  · have hab : ¬ a = b := fun e => h (Or.inl e)
    rw [if_neg h, if_neg (fun g => h (hC.mpr g))]
    clear h hC
    by_cases hd : dn = 1
    · by_cases hlt : a < b
      · have h2 : ¬ b < a := by grind
        have e1 : (a < b ↔ dn = 1) := ⟨fun _ => hd, fun _ => hlt⟩
        have e2 : ¬ (b < a ↔ dn = 1) := fun e => h2 (e.mpr hd)
        rw [if_pos e1, if_neg e2]
        decide
      · have h2 : b < a := by grind
        have e1 : ¬ (a < b ↔ dn = 1) := fun e => hlt (e.mpr hd)
        have e2 : (b < a ↔ dn = 1) := ⟨fun _ => hd, fun _ => h2⟩
        rw [if_neg e1, if_pos e2]
    · by_cases hlt : a < b
      · have h2 : ¬ b < a := by grind
        have e1 : ¬ (a < b ↔ dn = 1) := fun e => hd (e.mp hlt)
        have e2 : (b < a ↔ dn = 1) := ⟨fun e => absurd e h2, fun e => absurd e hd⟩
        rw [if_neg e1, if_pos e2]
      · have h2 : b < a := by grind
        have e1 : (a < b ↔ dn = 1) := ⟨fun e => absurd e hlt, fun e => absurd e hd⟩
        have e2 : ¬ (b < a ↔ dn = 1) := fun e => hd (e.mp h2)
        rw [if_pos e1, if_neg e2]
        decide
theorem pGo_cong {V V' oc : Nat → Int32} : ∀ {n : Nat}, (∀ r, r < n → (V' r = 0 ↔ V r = 0)) → pGo V' oc n = pGo V oc n
  | 0, _ => rfl
  | n + 1, h => by
    have ih := pGo_cong (oc := oc) (n := n) (fun r hr => h r (by omega))
    have hn := h n (by omega)
    simp only [pGo, ih]
    by_cases hv : V n = 0
    · rw [if_pos hv, if_pos (hn.mpr hv)]
    · rw [if_neg hv, if_neg (fun e => hv (hn.mp e))]
theorem pLd_anti {h h' : Int32} {V V' oc : Nat → Int32} {n : Nat} (hh : h' = -h) (hV : ∀ r, V' r = -V r) : pLd h' V' oc n = -pLd h V oc n := by
  have e := pGo_cong (V := V) (V' := V') (oc := oc) (n := n) (fun r _ => by rw [hV]; exact i32_neg0 _)
  have hv := hV (pGo V oc n).toNatClampNeg
  simp only [pLd, e, hh, hv]
  grind
theorem pLd_cases {h : Int32} {V oc : Nat → Int32} {n : Nat} (hh : h = 0 ∨ h = 1 ∨ h = -1) (hV : ∀ r, V r = 0 ∨ V r = 1 ∨ V r = -1) : pLd h V oc n = 0 ∨ pLd h V oc n = 1 ∨ pLd h V oc n = -1 := by
  unfold pLd
  split
  · exact hh
  · split
    · exact Or.inl rfl
    · exact hV _
/-- who is ahead, by the class's rows -/
def cLdr (μ : zMu) (o day : Int32) (nr nh x y : Nat) : Int32 := pLd (pHand (μ 20 0) (μ 21 0) (nI x) (nI y) nh) (cV μ o day x y) (cOc μ) nr
theorem cLdr_anti {μ : zMu} {o day : Int32} {nr nh x y : Nat} (hx : x < 20) (hy : y < 20) (hne : x ≠ y) : cLdr μ o day nr nh y x = -cLdr μ o day nr nh x y := by
  refine pLd_anti (pHand_anti (fun e => hne ((nI_eq (by omega) (by omega)).mp e)) nh) (fun r => ?_)
  exact pV_anti _ _ _ _ _ _
/-- rows that the leader looks at -/
def zLk (μ μ' : zMu) : Prop := ∀ f, f ∈ [1, 3, 8, 10, 17, 20, 21, 22, 23, 24, 25, 26] → μ' f = μ f
theorem zLk_rok {μ μ' : zMu} {r : Nat} (h : zLk μ μ') (hr : cRok μ r) : cRok μ' r := by
  unfold cRok
  rw [h 8 (by decide), h 24 (by decide), h 22 (by decide)]
  exact hr
theorem zLk_ldr {μ μ' : zMu} (h : zLk μ μ') (o day : Int32) (nr nh x y : Nat) : cLdr μ' o day nr nh x y = cLdr μ o day nr nh x y := by
  unfold cLdr cV cOc cF cRu
  rw [h 8 (by decide), h 24 (by decide), h 22 (by decide), h 23 (by decide), h 25 (by decide), h 26 (by decide), h 17 (by decide), h 20 (by decide), h 21 (by decide)]
