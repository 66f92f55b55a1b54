/-! PROCESSION: form -/
def oLf (A : Nat → Nat → Bool) (n : Nat) (lf0 : Nat → Bool) : Nat → Nat → Bool
  | 0 => lf0
  | k + 1 => fun p => oLf A n lf0 k p && decide (p ≠ oNx A n (oLf A n lf0 k))
def oN (A : Nat → Nat → Bool) (n : Nat) (lf0 : Nat → Bool) (k : Nat) : Nat := oNx A n (oLf A n lf0 k)
/-- the ring told in the first k places: how long, who -/
def oRk (A : Nat → Nat → Bool) (n : Nat) (lf0 : Nat → Bool) : Nat → Nat → (Nat → Nat) → Prop
  | 0, len, _ => len = 0
  | k + 1, len, fn => ∃ len0 fn0, oRk A n lf0 k len0 fn0 ∧ ((¬ (pUn (oLf A n lf0 k) A n = -1 ∧ len0 = 0) ∧ len = len0 ∧ fn = fn0) ∨ ((pUn (oLf A n lf0 k) A n = -1 ∧ len0 = 0) ∧ ∃ T s, pRg (pWk (oLf A n lf0 k) A n (oN A n lf0 k)) T s ∧ len = T - s ∧ fn = fun i => pWk (oLf A n lf0 k) A n (oN A n lf0 k) (s + i)))
theorem pCt_rm {lf : Nat → Bool} {x : Nat} (hx : lf x = true) : ∀ n, pCt (fun p => lf p && decide (p ≠ x)) n + (if x < n then 1 else 0) = pCt lf n
  | 0 => rfl
  | n + 1 => by
    have ih := pCt_rm hx n
    show pCt (fun p => lf p && decide (p ≠ x)) n + (if (lf n && decide (n ≠ x)) = true then 1 else 0) + (if x < n + 1 then 1 else 0) = pCt lf n + (if lf n = true then 1 else 0)
    by_cases e : n = x
    · subst e
      rw [if_neg (Nat.lt_irrefl n)] at ih
      have e3 : (lf n && decide (n ≠ n)) = false := by simp
      rw [e3, hx, if_pos (Nat.lt_succ_self n)]
      show pCt (fun p => lf p && decide (p ≠ n)) n + 0 + 1 = pCt lf n + 1
      omega
    · have e2 : (lf n && decide (n ≠ x)) = lf n := by simp [e]
      rw [e2]
      by_cases h : x < n
      · rw [if_pos h] at ih
        rw [if_pos (show x < n + 1 by omega)]
        omega
      · rw [if_neg h] at ih
        rw [if_neg (show ¬ x < n + 1 by omega)]
        omega
theorem pCt_pos {lf : Nat → Bool} : ∀ {n : Nat}, 0 < pCt lf n → ∃ p, p < n ∧ lf p = true
  | 0, h => absurd h (Nat.lt_irrefl 0)
  | n + 1, h => by
    cases hl : lf n with
    | true => exact ⟨n, by omega, hl⟩
    | false =>
      rw [pCt, hl] at h
      obtain ⟨p, h1, h2⟩ := pCt_pos (n := n) (by simpa using h)
      exact ⟨p, by omega, h2⟩
theorem oLf_ct {A : Nat → Nat → Bool} {n : Nat} {lf0 : Nat → Bool} (h20 : n ≤ 20) : ∀ k, k ≤ pCt lf0 n → pCt (oLf A n lf0 k) n + k = pCt lf0 n
  | 0, _ => rfl
  | k + 1, h => by
    have ih := oLf_ct (A := A) (lf0 := lf0) h20 k (by omega)
    obtain ⟨h1, h2, -, -⟩ := oNx_in (A := A) h20 (pCt_pos (lf := oLf A n lf0 k) (n := n) (by omega))
    have := pCt_rm h2 n
    rw [if_pos h1] at this
    show pCt (fun p => oLf A n lf0 k p && decide (p ≠ oNx A n (oLf A n lf0 k))) n + (k + 1) = _
    omega
def cLf0 (μ : zMu) (n p : Nat) : Bool := decide (p < n) && decide (μ 10 0 p = 1)
def cLdm (μ : zMu) (o day : Int32) (nr nh n a b : Nat) : Int32 := if cLf0 μ n a && cLf0 μ n b then cLdr μ o day nr nh a b else 0
def cAd (μ : zMu) (o day : Int32) (nr nh n q p : Nat) : Bool := decide (cLdm μ o day nr nh n q p = 1)
theorem cLdm_anti {μ : zMu} {o day : Int32} {nr nh n x y : Nat} (hx : x < 20) (hy : y < 20) (hne : x ≠ y) : cLdm μ o day nr nh n y x = -cLdm μ o day nr nh n x y := by
  unfold cLdm
  rw [Bool.and_comm]
  split
  · exact cLdr_anti hx hy hne
  · decide
theorem cPres_ct {μ : zMu} {n : Nat} (hp : ∀ p, p < n → μ 10 0 p = 0 ∨ μ 10 0 p = 1) : ∀ i, i ≤ n → cPres μ i = nI (pCt (cLf0 μ n) i)
  | 0, _ => rfl
  | i + 1, h => by
    rw [cPres, cPres_ct hp i (by omega), pCt]
    rcases hp i (by omega) with e | e
    · have : cLf0 μ n i = false := by simp [cLf0, e]
      rw [this, e]
      simp
    · have : cLf0 μ n i = true := by simp [cLf0, e]; omega
      rw [this, e]
      exact nI_1 _
def zFr7 (μ μ' : zMu) : Prop := ∀ f, f ∉ [4, 27, 28, 29, 30, 31, 33] → μ' f = μ f
theorem zFr7_lk {μ μ' : zMu} (h : zFr7 μ μ') : zLk μ μ' := fun f hf => h f (by simp only [List.mem_cons, List.not_mem_nil, or_false, not_or] at *; omega)
/-- the order is there -/
def cOrd (μ μ' : zMu) (A : Nat → Nat → Bool) (n : Nat) (lf0 : Nat → Bool) (m : Nat) : Prop := μ' 4 0 0 = nI m ∧ (∀ k, k < m → μ' 27 0 k = nI (oN A n lf0 k)) ∧ ∃ len fn, oRk A n lf0 m len fn ∧ len ≤ 20 ∧ μ' 4 0 1 = nI len ∧ ∀ k, k < len → μ' 28 0 k = nI (fn k)
set_option maxHeartbeats 8000000 in
theorem c_Pr_form {d n nr nh : Nat} {μ : zMu} {o day : Int32} {K : Option zV → zMu → Prop} (hn : μ 1 0 1 = nI n) (h20 : n ≤ 20) (hr : μ 3 0 0 = nI nr) (h16 : nr ≤ 16) (hh : μ 3 0 1 = nI nh) (hh20 : nh ≤ 20) (hok : ∀ r, r < nr → cRok μ r) (hp : ∀ p, p < n → μ 10 0 p = 0 ∨ μ 10 0 p = 1)
    (hK : ∀ μ' : zMu, zFr7 μ μ' → cOrd μ μ' (cAd μ o day nr nh n) n (cLf0 μ n) (pCt (cLf0 μ n) n) → K none μ') : Ct (d + 5) m_Pr_form [zR 4 0, zI o, zI day] μ K := by
  refine zmeet rfl (Nat.le_of_ble_eq_true rfl) (fun S => ?_)
  have hm20 : pCt (cLf0 μ n) n ≤ n := pCt_le _ _
  generalize hA : cAd μ o day nr nh n = A at hK
  generalize hlf : cLf0 μ n = lf0 at hK hm20
  generalize hm : pCt lf0 n = m at hK hm20
  -- places
  have L3 : ∀ (k i : Nat) (x : Int32) (μ1 : zMu), i + k = m → x = nI i → zFr7 μ μ1 → cLf μ1 (oLf A n lf0 i) → cLd μ1 A n → cOrd μ μ1 A n lf0 i → zG S (d + 5) m_Pr_form K 175 [some (zR 4 0), some (zI o), some (zI day), some (zI (nI m)), some (zI x)] [] μ1 := by
    intro k
    induction k with
    | zero =>
      intro i x μ1 hi hx hf hl hd ho
      subst hx
      obtain rfl : i = m := by omega
      have hle : nI i ≤ nI i := nI_le (Nat.le_refl i) (by omega)
      refine zs k_Pr_form rfl ?_
      repeat' (first
        | refine br_t hle ?_
        | exact hK _ hf ho
        | refine zs k_Pr_form rfl ?_
        | refine ⟨Nat.zero_lt_one, rfl, ?_⟩
        | refine ⟨rfl, ?_⟩
        | refine ⟨⟨Nat.zero_lt_one, rfl⟩, Nat.le_of_ble_eq_true rfl, ?_⟩
        | refine ⟨Nat.le_of_ble_eq_true rfl, Nat.le_of_ble_eq_true rfl, ?_⟩
        | refine ⟨(by first | exact Nat.zero_lt_one | assumption | omega), (by first | assumption | exact vp_in_nI (by omega) (by omega) | (unfold vp_in; decide)), ?_⟩
        | refine ⟨(by first | exact Nat.zero_lt_one | assumption | omega), rfl, ?_⟩
        | refine ⟨⟨(by first | exact Nat.zero_lt_one | assumption | omega), rfl⟩, Nat.le_of_ble_eq_true rfl, ?_⟩
        | refine ⟨(by first | exact Nat.zero_lt_one | assumption | omega), ?_⟩
        | refine ⟨Or.inl rfl, ?_⟩
        | refine ⟨Or.inr (Or.inl rfl), ?_⟩
        | refine ⟨Or.inr (Or.inr rfl), ?_⟩
        | refine ⟨Or.inr ⟨rfl, (by first | exact Or.inl rfl | exact Or.inr rfl | assumption)⟩, ?_⟩
        | refine ⟨fun h => absurd h (by decide), fun _ => ?_⟩
        | refine ⟨fun _ => ?_, fun h => absurd h (by decide)⟩
        | refine ⟨fun h => ?_, fun h => ?_⟩
        | fail)
    | succ k ih =>
      intro i x μ1 hi hx hf hl hd ho
      subst hx
      have hlt : ¬ nI m ≤ nI i := nI_ge (by omega) (by omega)
      have hct := oLf_ct (A := A) (lf0 := lf0) h20 i (by omega)
      have hne := pCt_pos (lf := oLf A n lf0 i) (n := n) (by omega)
      have hn1 : μ1 1 0 1 = nI n := by rw [hf 1 (by decide)]; exact hn
      obtain ⟨ho1, ho2, len, fn, ho3, ho4, ho5, ho6⟩ := ho
      refine zs k_Pr_form rfl ?_
      repeat' (first
        | refine br_f hlt ?_
        | refine c_Pr_takeNext (lf := oLf A n lf0 i) (A := A) hn1 h20 hl hd hne ho1 (by omega) (fun μ' g1 g2 g3 g4 g5 g6 => ?_)
        | refine ih (i + 1) _ _ (by omega) (by exact nI_1 i) ?_ g2 ?_ ?_
        | refine zs k_Pr_form rfl ?_
        | refine ⟨Nat.zero_lt_one, rfl, ?_⟩
        | refine ⟨rfl, ?_⟩
        | refine ⟨⟨Nat.zero_lt_one, rfl⟩, Nat.le_of_ble_eq_true rfl, ?_⟩
        | refine ⟨Nat.le_of_ble_eq_true rfl, Nat.le_of_ble_eq_true rfl, ?_⟩
        | refine ⟨(by first | exact Nat.zero_lt_one | assumption | omega), (by first | assumption | exact vp_in_nI (by omega) (by omega) | (unfold vp_in; decide)), ?_⟩
        | refine ⟨(by first | exact Nat.zero_lt_one | assumption | omega), rfl, ?_⟩
        | refine ⟨⟨(by first | exact Nat.zero_lt_one | assumption | omega), rfl⟩, Nat.le_of_ble_eq_true rfl, ?_⟩
        | refine ⟨(by first | exact Nat.zero_lt_one | assumption | omega), ?_⟩
        | refine ⟨Or.inl rfl, ?_⟩
        | refine ⟨Or.inr (Or.inl rfl), ?_⟩
        | refine ⟨Or.inr (Or.inr rfl), ?_⟩
        | refine ⟨Or.inr ⟨rfl, (by first | exact Or.inl rfl | exact Or.inr rfl | assumption)⟩, ?_⟩
        | refine ⟨fun h => absurd h (by decide), fun _ => ?_⟩
        | refine ⟨fun _ => ?_, fun h => absurd h (by decide)⟩
        | refine ⟨fun h => ?_, fun h => ?_⟩
        | fail)
      · intro f hfs
        rw [← hf f hfs]
        funext a b
        exact g1 f a b (by simp only [List.mem_cons, List.not_mem_nil, or_false, not_or] at *; omega)
      · intro q p h1 h2 h3
        rw [g1 33 q p (by decide)]
        exact hd q p h1 h2 h3
      · refine ⟨fun j hj => ?_, ?_⟩
        · rcases Nat.lt_or_ge j i with q | q
          · rw [g4 j q]
            exact ho2 j q
          · obtain rfl : j = i := by omega
            exact g5
        · rcases g6 with ⟨u1, u2, u3⟩ | ⟨⟨u1, u2⟩, T, s, u3, u4, u5, u6⟩
          · refine ⟨len, fn, ⟨len, fn, ho3, Or.inl ⟨fun h => u1 ⟨h.1, by rw [ho5, h.2]; exact nI_0⟩, rfl, rfl⟩⟩, ho4, by rw [u2]; exact ho5, fun j hj => by rw [u3]; exact ho6 j hj⟩
          · have hl0 : len = 0 := by
              rcases Nat.eq_zero_or_pos len with q | q
              · exact q
              · exact absurd (ho5.symm.trans u2) (nI_ne0 q (by omega))
            exact ⟨T - s, _, ⟨len, fn, ho3, Or.inr ⟨⟨u1, hl0⟩, T, s, u3, rfl, rfl⟩⟩, by omega, u5, u6⟩
  -- who leads whom
  have L2 : ∀ (k p : Nat) (x : Int32) (l4 : Option zV) (μ1 : zMu), p + k = n → x = nI p → zFr7 μ μ1 → cLf μ1 lf0 → μ1 4 0 0 = 0 → μ1 4 0 1 = 0 → (∀ a b, a < n → b < n → a ≠ b → (a < p ∨ b < p) → μ1 33 a b = cLdm μ o day nr nh n a b) → zG S (d + 5) m_Pr_form K 61 [some (zR 4 0), some (zI o), some (zI day), some (zI x), l4] [] μ1 := by
    intro k
    induction k with
    | zero =>
      intro p x l4 μ1 hpk hx hf hl h40 h41 hM
      subst hx
      obtain rfl : p = n := by omega
      have hn1 : μ1 1 0 1 = nI p := by rw [hf 1 (by decide)]; exact hn
      have hpr : cPres μ1 p = nI m := by
        have e : ∀ i, cPres μ1 i = cPres μ i := fun i => by
          induction i with
          | zero => rfl
          | succ i ihi => rw [cPres, cPres, ihi, hf 10 (by decide)]
        rw [e, cPres_ct hp p (Nat.le_refl p), hlf, hm]
      have hle : nI p ≤ nI p := nI_le (Nat.le_refl p) (by omega)
      refine zs k_Pr_form rfl ?_
      repeat' (first
        | (refine c_Ro_countPresent hn1 h20 ?_; rw [hpr])
        | refine L3 m 0 _ _ (by omega) rfl hf hl ?_ ⟨h40, fun k hk => absurd hk (by omega), 0, fun _ => 0, rfl, by omega, h41, fun k hk => absurd hk (by omega)⟩
        | refine zs k_Pr_form rfl ?_
        | refine br_t (by simp (disch := omega) only [hn1, nI_leI, nI_ltI, nI_eq]; omega) ?_
        | refine br_f (by simp (disch := omega) only [hn1, nI_leI, nI_ltI, nI_eq]; omega) ?_
        | refine ⟨Nat.zero_lt_one, rfl, ?_⟩
        | refine ⟨rfl, ?_⟩
        | refine ⟨⟨Nat.zero_lt_one, rfl⟩, Nat.le_of_ble_eq_true rfl, ?_⟩
        | refine ⟨Nat.le_of_ble_eq_true rfl, Nat.le_of_ble_eq_true rfl, ?_⟩
        | refine ⟨(by first | exact Nat.zero_lt_one | assumption | omega), (by first | assumption | exact vp_in_nI (by omega) (by omega) | (unfold vp_in; decide)), ?_⟩
        | refine ⟨(by first | exact Nat.zero_lt_one | assumption | omega), rfl, ?_⟩
        | refine ⟨⟨(by first | exact Nat.zero_lt_one | assumption | omega), rfl⟩, Nat.le_of_ble_eq_true rfl, ?_⟩
        | refine ⟨(by first | exact Nat.zero_lt_one | assumption | omega), ?_⟩
        | refine ⟨Or.inl rfl, ?_⟩
        | refine ⟨Or.inr (Or.inl rfl), ?_⟩
        | refine ⟨Or.inr (Or.inr rfl), ?_⟩
        | refine ⟨Or.inr ⟨rfl, (by first | exact Or.inl rfl | exact Or.inr rfl | assumption)⟩, ?_⟩
        | refine ⟨fun h => absurd h (by decide), fun _ => ?_⟩
        | refine ⟨fun _ => ?_, fun h => absurd h (by decide)⟩
        | refine ⟨fun h => ?_, fun h => ?_⟩
        | fail)
      intro q r h1 h2 h3
      rw [hM q r h1 h2 h3 (Or.inl h1), ← hA]
      simp [cAd]
    | succ k ih =>
      intro p x l4 μ1 hpk hx hf hl h40 h41 hM
      subst hx
      have hcp : (nI p).toNatClampNeg = p := nI_clamp (by omega)
      have L1 : ∀ (k2 q : Nat) (y : Int32) (μ2 : zMu), q + k2 = n → p < q → y = nI q → zFr7 μ μ2 → cLf μ2 lf0 → μ2 4 0 0 = 0 → μ2 4 0 1 = 0 → (∀ a b, a < n → b < n → a ≠ b → (a < p ∨ b < p ∨ (a = p ∧ b < q) ∨ (b = p ∧ a < q)) → μ2 33 a b = cLdm μ o day nr nh n a b) → zG S (d + 5) m_Pr_form K 77 [some (zR 4 0), some (zI o), some (zI day), some (zI (nI p)), some (zI y)] [] μ2 := by
        intro k2
        induction k2 with
        | zero =>
          intro q y μ2 hqk hpq hy hf2 hl2 h40' h41' hM2
          subst hy
          obtain rfl : q = n := by omega
          have hn1 : μ2 1 0 1 = nI q := by rw [hf2 1 (by decide)]; exact hn
          refine zs k_Pr_form rfl ?_
          repeat' (first
            | refine ih (p + 1) _ _ _ (by omega) (by exact nI_1 p) hf2 hl2 h40' h41' (fun a b h1 h2 h3 h4 => hM2 a b h1 h2 h3 (by omega))
            | refine zs k_Pr_form rfl ?_
            | refine br_t (by simp (disch := omega) only [hn1, nI_leI, nI_ltI, nI_eq]; omega) ?_
            | refine br_f (by simp (disch := omega) only [hn1, nI_leI, nI_ltI, nI_eq]; omega) ?_
            | refine ⟨Nat.zero_lt_one, rfl, ?_⟩
            | refine ⟨rfl, ?_⟩
            | refine ⟨⟨Nat.zero_lt_one, rfl⟩, Nat.le_of_ble_eq_true rfl, ?_⟩
            | refine ⟨Nat.le_of_ble_eq_true rfl, Nat.le_of_ble_eq_true rfl, ?_⟩
            | refine ⟨(by first | exact Nat.zero_lt_one | assumption | omega), (by first | assumption | exact vp_in_nI (by omega) (by omega) | (unfold vp_in; decide)), ?_⟩
            | refine ⟨(by first | exact Nat.zero_lt_one | assumption | omega), rfl, ?_⟩
            | refine ⟨⟨(by first | exact Nat.zero_lt_one | assumption | omega), rfl⟩, Nat.le_of_ble_eq_true rfl, ?_⟩
            | refine ⟨(by first | exact Nat.zero_lt_one | assumption | omega), ?_⟩
            | refine ⟨Or.inl rfl, ?_⟩
            | refine ⟨Or.inr (Or.inl rfl), ?_⟩
            | refine ⟨Or.inr (Or.inr rfl), ?_⟩
            | refine ⟨Or.inr ⟨rfl, (by first | exact Or.inl rfl | exact Or.inr rfl | assumption)⟩, ?_⟩
            | refine ⟨fun h => absurd h (by decide), fun _ => ?_⟩
            | refine ⟨fun _ => ?_, fun h => absurd h (by decide)⟩
            | refine ⟨fun h => ?_, fun h => ?_⟩
            | fail)
        | succ k2 ih2 =>
          intro q y μ2 hqk hpq hy hf2 hl2 h40' h41' hM2
          subst hy
          have hn1 : μ2 1 0 1 = nI n := by rw [hf2 1 (by decide)]; exact hn
          have hcq : (nI q).toNatClampNeg = q := nI_clamp (by omega)
          have hlp : μ2 29 0 (nI p).toNatClampNeg = if lf0 p then 1 else 0 := by rw [hcp]; exact hl2 p (by omega)
          have hlq : μ2 29 0 (nI q).toNatClampNeg = if lf0 q then 1 else 0 := by rw [hcq]; exact hl2 q (by omega)
          have hlk := zFr7_lk hf2
          have hr2 : μ2 3 0 0 = nI nr := by rw [hf2 3 (by decide)]; exact hr
          have hh2 : μ2 3 0 1 = nI nh := by rw [hf2 3 (by decide)]; exact hh
          have hok2 : ∀ r, r < nr → cRok μ2 r := fun r h => zLk_rok hlk (hok r h)
          have hld : pLd (pHand (μ2 20 0) (μ2 21 0) (nI p) (nI q) nh) (cV μ2 o day (nI p).toNatClampNeg (nI q).toNatClampNeg) (cOc μ2) nr = cLdr μ o day nr nh p q := by
            rw [hcp, hcq]
            exact zLk_ldr hlk o day nr nh p q
          have nxt : ∀ v : Int32, v = cLdm μ o day nr nh n p q → zG S (d + 5) m_Pr_form K 132 [some (zR 4 0), some (zI o), some (zI day), some (zI (nI p)), some (zI (nI q))] [zI v, zI (nI q), zR 33 (nI p).toNatClampNeg] μ2 := by
            intro v hv
            have hne : ¬ p = q := by omega
            have hzz : zu μ2 33 p q v 33 p q = v := zu_eq
            rw [hcp]
            refine zs k_Pr_form rfl ?_
            repeat' (first
              | (rw [hcq, hcp]; refine ih2 (q + 1) _ _ (by omega) (by omega) (by exact nI_1 q) ?_ hl2 h40' h41' ?_)
              | refine zs k_Pr_form rfl ?_
              | refine ⟨Nat.zero_lt_one, rfl, ?_⟩
              | refine ⟨rfl, ?_⟩
              | refine ⟨⟨Nat.zero_lt_one, rfl⟩, Nat.le_of_ble_eq_true rfl, ?_⟩
              | refine ⟨Nat.le_of_ble_eq_true rfl, Nat.le_of_ble_eq_true rfl, ?_⟩
              | refine ⟨(by first | exact Nat.zero_lt_one | assumption | omega), (by first | assumption | exact vp_in_nI (by omega) (by omega) | (unfold vp_in; decide)), ?_⟩
              | refine ⟨(by first | exact Nat.zero_lt_one | assumption | omega), rfl, ?_⟩
              | refine ⟨⟨(by first | exact Nat.zero_lt_one | assumption | omega), rfl⟩, Nat.le_of_ble_eq_true rfl, ?_⟩
              | refine ⟨(by first | exact Nat.zero_lt_one | assumption | omega), ?_⟩
              | refine ⟨Or.inl rfl, ?_⟩
              | refine ⟨Or.inr (Or.inl rfl), ?_⟩
              | refine ⟨Or.inr (Or.inr rfl), ?_⟩
              | refine ⟨Or.inr ⟨rfl, (by first | exact Or.inl rfl | exact Or.inr rfl | assumption)⟩, ?_⟩
              | refine ⟨fun h => absurd h (by decide), fun _ => ?_⟩
              | refine ⟨fun _ => ?_, fun h => absurd h (by decide)⟩
              | refine ⟨fun h => ?_, fun h => ?_⟩
              | fail)
            · intro f hfs
              rw [← hf2 f hfs]
              funext a b
              simp only [zu]
              simp only [List.mem_cons, List.not_mem_nil, or_false, not_or] at hfs
              rw [if_neg (by omega), if_neg (by omega)]
            · intro a b h1 h2 h3 h4
              rw [hzz]
              simp only [zu]
              by_cases e1 : a = q ∧ b = p
              · rw [if_pos ⟨trivial, e1.2, e1.1⟩, e1.1, e1.2, hv]
                exact (cLdm_anti (by omega) (by omega) (by omega)).symm
              · rw [if_neg (fun h => e1 ⟨h.2.2, h.2.1⟩)]
                by_cases e2 : a = p ∧ b = q
                · rw [if_pos ⟨trivial, e2.2, e2.1⟩, e2.1, e2.2, hv]
                · rw [if_neg (fun h => e2 ⟨h.2.2, h.2.1⟩)]
                  exact hM2 a b h1 h2 h3 (by omega)
          cases hbp : lf0 p with
          | false =>
            rw [hbp] at hlp
            have hz : μ2 29 0 (nI p).toNatClampNeg = 0 := by rw [hlp]; rfl
            refine zs k_Pr_form rfl ?_
            repeat' (first
              | refine br_t hz ?_
              | refine nxt 0 ?_
              | refine zs k_Pr_form rfl ?_
              | refine br_t (by simp (disch := omega) only [hn1, nI_leI, nI_ltI, nI_eq]; omega) ?_
              | refine br_f (by simp (disch := omega) only [hn1, nI_leI, nI_ltI, nI_eq]; omega) ?_
              | refine ⟨Nat.zero_lt_one, rfl, ?_⟩
              | refine ⟨rfl, ?_⟩
              | refine ⟨⟨Nat.zero_lt_one, rfl⟩, Nat.le_of_ble_eq_true rfl, ?_⟩
              | refine ⟨Nat.le_of_ble_eq_true rfl, Nat.le_of_ble_eq_true rfl, ?_⟩
              | refine ⟨(by first | exact Nat.zero_lt_one | assumption | omega), (by first | assumption | exact vp_in_nI (by omega) (by omega) | (unfold vp_in; decide)), ?_⟩
              | refine ⟨(by first | exact Nat.zero_lt_one | assumption | omega), rfl, ?_⟩
              | refine ⟨⟨(by first | exact Nat.zero_lt_one | assumption | omega), rfl⟩, Nat.le_of_ble_eq_true rfl, ?_⟩
              | refine ⟨(by first | exact Nat.zero_lt_one | assumption | omega), ?_⟩
              | refine ⟨Or.inl rfl, ?_⟩
              | refine ⟨Or.inr (Or.inl rfl), ?_⟩
              | refine ⟨Or.inr (Or.inr rfl), ?_⟩
              | refine ⟨Or.inr ⟨rfl, (by first | exact Or.inl rfl | exact Or.inr rfl | assumption)⟩, ?_⟩
              | refine ⟨fun h => absurd h (by decide), fun _ => ?_⟩
              | refine ⟨fun _ => ?_, fun h => absurd h (by decide)⟩
              | refine ⟨fun h => ?_, fun h => ?_⟩
              | fail)
            simp [cLdm, hlf, hbp]
          | true =>
            rw [hbp] at hlp
            have hz : ¬ μ2 29 0 (nI p).toNatClampNeg = 0 := by rw [hlp]; decide
            cases hbq : lf0 q with
            | false =>
              rw [hbq] at hlq
              have hz2 : μ2 29 0 (nI q).toNatClampNeg = 0 := by rw [hlq]; rfl
              refine zs k_Pr_form rfl ?_
              repeat' (first
                | refine br_t hz2 ?_
                | refine br_f hz ?_
                | refine nxt 0 ?_
                | refine zs k_Pr_form rfl ?_
                | refine br_t (by simp (disch := omega) only [hn1, nI_leI, nI_ltI, nI_eq]; omega) ?_
                | refine br_f (by simp (disch := omega) only [hn1, nI_leI, nI_ltI, nI_eq]; omega) ?_
                | refine ⟨Nat.zero_lt_one, rfl, ?_⟩
                | refine ⟨rfl, ?_⟩
                | refine ⟨⟨Nat.zero_lt_one, rfl⟩, Nat.le_of_ble_eq_true rfl, ?_⟩
                | refine ⟨Nat.le_of_ble_eq_true rfl, Nat.le_of_ble_eq_true rfl, ?_⟩
                | refine ⟨(by first | exact Nat.zero_lt_one | assumption | omega), (by first | assumption | exact vp_in_nI (by omega) (by omega) | (unfold vp_in; decide)), ?_⟩
                | refine ⟨(by first | exact Nat.zero_lt_one | assumption | omega), rfl, ?_⟩
                | refine ⟨⟨(by first | exact Nat.zero_lt_one | assumption | omega), rfl⟩, Nat.le_of_ble_eq_true rfl, ?_⟩
                | refine ⟨(by first | exact Nat.zero_lt_one | assumption | omega), ?_⟩
                | refine ⟨Or.inl rfl, ?_⟩
                | refine ⟨Or.inr (Or.inl rfl), ?_⟩
                | refine ⟨Or.inr (Or.inr rfl), ?_⟩
                | refine ⟨Or.inr ⟨rfl, (by first | exact Or.inl rfl | exact Or.inr rfl | assumption)⟩, ?_⟩
                | refine ⟨fun h => absurd h (by decide), fun _ => ?_⟩
                | refine ⟨fun _ => ?_, fun h => absurd h (by decide)⟩
                | refine ⟨fun h => ?_, fun h => ?_⟩
                | fail)
              simp [cLdm, hlf, hbq]
            | true =>
              rw [hbq] at hlq
              have hz2 : ¬ μ2 29 0 (nI q).toNatClampNeg = 0 := by rw [hlq]; decide
              refine zs k_Pr_form rfl ?_
              repeat' (first
                | refine br_f hz2 ?_
                | refine br_f hz ?_
                | (refine c_Bo_leader hr2 h16 hh2 hh20 hok2 (vp_in_nI (by omega) (by omega)) (vp_in_nI (by omega) (by omega)) ?_; rw [hld])
                | refine nxt _ ?_
                | refine zs k_Pr_form rfl ?_
                | refine br_t (by simp (disch := omega) only [hn1, nI_leI, nI_ltI, nI_eq]; omega) ?_
                | refine br_f (by simp (disch := omega) only [hn1, nI_leI, nI_ltI, nI_eq]; omega) ?_
                | refine ⟨Nat.zero_lt_one, rfl, ?_⟩
                | refine ⟨rfl, ?_⟩
                | refine ⟨⟨Nat.zero_lt_one, rfl⟩, Nat.le_of_ble_eq_true rfl, ?_⟩
                | refine ⟨Nat.le_of_ble_eq_true rfl, Nat.le_of_ble_eq_true rfl, ?_⟩
                | refine ⟨(by first | exact Nat.zero_lt_one | assumption | omega), (by first | assumption | exact vp_in_nI (by omega) (by omega) | (unfold vp_in; decide)), ?_⟩
                | refine ⟨(by first | exact Nat.zero_lt_one | assumption | omega), rfl, ?_⟩
                | refine ⟨⟨(by first | exact Nat.zero_lt_one | assumption | omega), rfl⟩, Nat.le_of_ble_eq_true rfl, ?_⟩
                | refine ⟨(by first | exact Nat.zero_lt_one | assumption | omega), ?_⟩
                | refine ⟨Or.inl rfl, ?_⟩
                | refine ⟨Or.inr (Or.inl rfl), ?_⟩
                | refine ⟨Or.inr (Or.inr rfl), ?_⟩
                | refine ⟨Or.inr ⟨rfl, (by first | exact Or.inl rfl | exact Or.inr rfl | assumption)⟩, ?_⟩
                | refine ⟨fun h => absurd h (by decide), fun _ => ?_⟩
                | refine ⟨fun _ => ?_, fun h => absurd h (by decide)⟩
                | refine ⟨fun h => ?_, fun h => ?_⟩
                | fail)
              simp [cLdm, hlf, hbp, hbq]
      have hn1 : μ1 1 0 1 = nI n := by rw [hf 1 (by decide)]; exact hn
      refine zs k_Pr_form rfl ?_
      repeat' (first
        | refine L1 (n - (p + 1)) (p + 1) _ _ (by omega) (by omega) (by exact nI_1 p) hf hl h40 h41 (fun a b h1 h2 h3 h4 => hM a b h1 h2 h3 (by omega))
        | refine zs k_Pr_form rfl ?_
        | refine br_t (by simp (disch := omega) only [hn1, nI_leI, nI_ltI, nI_eq]; omega) ?_
        | refine br_f (by simp (disch := omega) only [hn1, nI_leI, nI_ltI, nI_eq]; omega) ?_
        | refine ⟨Nat.zero_lt_one, rfl, ?_⟩
        | refine ⟨rfl, ?_⟩
        | refine ⟨⟨Nat.zero_lt_one, rfl⟩, Nat.le_of_ble_eq_true rfl, ?_⟩
        | refine ⟨Nat.le_of_ble_eq_true rfl, Nat.le_of_ble_eq_true rfl, ?_⟩
        | refine ⟨(by first | exact Nat.zero_lt_one | assumption | omega), (by first | assumption | exact vp_in_nI (by omega) (by omega) | (unfold vp_in; decide)), ?_⟩
        | refine ⟨(by first | exact Nat.zero_lt_one | assumption | omega), rfl, ?_⟩
        | refine ⟨⟨(by first | exact Nat.zero_lt_one | assumption | omega), rfl⟩, Nat.le_of_ble_eq_true rfl, ?_⟩
        | refine ⟨(by first | exact Nat.zero_lt_one | assumption | omega), ?_⟩
        | refine ⟨Or.inl rfl, ?_⟩
        | refine ⟨Or.inr (Or.inl rfl), ?_⟩
        | refine ⟨Or.inr (Or.inr rfl), ?_⟩
        | refine ⟨Or.inr ⟨rfl, (by first | exact Or.inl rfl | exact Or.inr rfl | assumption)⟩, ?_⟩
        | refine ⟨fun h => absurd h (by decide), fun _ => ?_⟩
        | refine ⟨fun _ => ?_, fun h => absurd h (by decide)⟩
        | refine ⟨fun h => ?_, fun h => ?_⟩
        | fail)
  -- who is left
  have L0 : ∀ (k i : Nat) (x : Int32) (l4 : Option zV) (μ1 : zMu), i + k = 20 → x = nI i → zFr7 μ μ1 → μ1 4 0 0 = 0 → μ1 4 0 1 = 0 → (∀ p, p < i → μ1 29 0 p = if lf0 p then 1 else 0) → zG S (d + 5) m_Pr_form K 12 [some (zR 4 0), some (zI o), some (zI day), some (zI x), l4] [] μ1 := by
    intro k
    induction k with
    | zero =>
      intro i x l4 μ1 hi hx hf h40 h41 hl
      subst hx
      obtain rfl : i = 20 := by omega
      refine zs k_Pr_form rfl ?_
      repeat' (first
        | refine br_t (by decide) ?_
        | refine L2 n 0 _ _ _ (by omega) rfl hf hl h40 h41 (fun a b _ _ _ h => absurd h (by omega))
        | refine zs k_Pr_form rfl ?_
        | refine ⟨Nat.zero_lt_one, rfl, ?_⟩
        | refine ⟨rfl, ?_⟩
        | refine ⟨⟨Nat.zero_lt_one, rfl⟩, Nat.le_of_ble_eq_true rfl, ?_⟩
        | refine ⟨Nat.le_of_ble_eq_true rfl, Nat.le_of_ble_eq_true rfl, ?_⟩
        | refine ⟨(by first | exact Nat.zero_lt_one | assumption | omega), (by first | assumption | exact vp_in_nI (by omega) (by omega) | (unfold vp_in; decide)), ?_⟩
        | refine ⟨(by first | exact Nat.zero_lt_one | assumption | omega), rfl, ?_⟩
        | refine ⟨⟨(by first | exact Nat.zero_lt_one | assumption | omega), rfl⟩, Nat.le_of_ble_eq_true rfl, ?_⟩
        | refine ⟨(by first | exact Nat.zero_lt_one | assumption | omega), ?_⟩
        | refine ⟨Or.inl rfl, ?_⟩
        | refine ⟨Or.inr (Or.inl rfl), ?_⟩
        | refine ⟨Or.inr (Or.inr rfl), ?_⟩
        | refine ⟨Or.inr ⟨rfl, (by first | exact Or.inl rfl | exact Or.inr rfl | assumption)⟩, ?_⟩
        | refine ⟨fun h => absurd h (by decide), fun _ => ?_⟩
        | refine ⟨fun _ => ?_, fun h => absurd h (by decide)⟩
        | refine ⟨fun h => ?_, fun h => ?_⟩
        | fail)
    | succ k ih =>
      intro i x l4 μ1 hi hx hf h40 h41 hl
      subst hx
      have h20i : ¬ (20 : Int32) ≤ nI i := nI_ge (b := 20) (by omega) (by omega)
      have hc : (nI i).toNatClampNeg = i := nI_clamp (by omega)
      have hn1 : μ1 1 0 1 = nI n := by rw [hf 1 (by decide)]; exact hn
      have h10 : μ1 10 0 (nI i).toNatClampNeg = μ 10 0 i := by rw [hc, hf 10 (by decide)]
      have hb0 : vp_nar .boolean 0 = 0 := rfl
      have hb1 : vp_nar .boolean 1 = 1 := rfl
      have fin : ∀ v : Int32, (v = 0 ∨ v = 1) → v = (if lf0 i then 1 else 0) → zG S (d + 5) m_Pr_form K 52 [some (zR 4 0), some (zI o), some (zI day), some (zI (nI i)), l4] [zI v, zI (nI i), zR 29 0] μ1 := by
        intro v h01 hv
        have hnar : vp_nar .boolean v = v := by rcases h01 with rfl | rfl <;> rfl
        refine zs k_Pr_form rfl ?_
        repeat' (first
          | (rw [hc, hnar]; refine ih (i + 1) _ _ _ (by omega) (by exact nI_1 i) ?_ h40 h41 ?_)
          | refine zs k_Pr_form rfl ?_
          | refine ⟨Nat.zero_lt_one, rfl, ?_⟩
          | refine ⟨rfl, ?_⟩
          | refine ⟨⟨Nat.zero_lt_one, rfl⟩, Nat.le_of_ble_eq_true rfl, ?_⟩
          | refine ⟨Nat.le_of_ble_eq_true rfl, Nat.le_of_ble_eq_true rfl, ?_⟩
          | refine ⟨(by first | exact Nat.zero_lt_one | assumption | omega), (by first | assumption | exact vp_in_nI (by omega) (by omega) | (unfold vp_in; decide)), ?_⟩
          | refine ⟨(by first | exact Nat.zero_lt_one | assumption | omega), rfl, ?_⟩
          | refine ⟨⟨(by first | exact Nat.zero_lt_one | assumption | omega), rfl⟩, Nat.le_of_ble_eq_true rfl, ?_⟩
          | refine ⟨(by first | exact Nat.zero_lt_one | assumption | omega), ?_⟩
          | refine ⟨Or.inl rfl, ?_⟩
          | refine ⟨Or.inr (Or.inl rfl), ?_⟩
          | refine ⟨Or.inr (Or.inr rfl), ?_⟩
          | refine ⟨Or.inr ⟨rfl, (by first | exact Or.inl rfl | exact Or.inr rfl | assumption)⟩, ?_⟩
          | refine ⟨fun h => absurd h (by decide), fun _ => ?_⟩
          | refine ⟨fun _ => ?_, fun h => absurd h (by decide)⟩
          | refine ⟨fun h => ?_, fun h => ?_⟩
          | fail)
        · intro f hfs
          rw [← hf f hfs]
          funext a b
          simp only [zu]
          simp only [List.mem_cons, List.not_mem_nil, or_false, not_or] at hfs
          rw [if_neg (by omega)]
        · intro p hpi
          by_cases e : p = i
          · rw [e]
            exact (if_pos (show 29 = 29 ∧ i = i ∧ 0 = 0 from ⟨rfl, rfl, rfl⟩)).trans hv
          · exact (if_neg (show ¬ (29 = 29 ∧ p = i ∧ 0 = 0) by omega)).trans (hl p (by omega))
      by_cases hin : i < n
      · have hlti : ¬ nI n ≤ nI i := nI_ge (by omega) (by omega)
        by_cases hpr : μ 10 0 i = 1
        · have hnp : μ1 10 0 (nI i).toNatClampNeg = 1 := h10.trans hpr
          refine zs k_Pr_form rfl ?_
          repeat' (first
            | refine fin 1 (Or.inr rfl) ?_
            | refine br_f h20i ?_
            | refine br_f (show ¬ μ1 1 0 1 ≤ nI i by rw [hn1]; exact hlti) ?_
            | refine ⟨fun h => absurd hnp h, fun _ => ?_⟩
            | refine zs k_Pr_form rfl ?_
            | refine ⟨Nat.zero_lt_one, rfl, ?_⟩
            | refine ⟨rfl, ?_⟩
            | refine ⟨⟨Nat.zero_lt_one, rfl⟩, Nat.le_of_ble_eq_true rfl, ?_⟩
            | refine ⟨Nat.le_of_ble_eq_true rfl, Nat.le_of_ble_eq_true rfl, ?_⟩
            | refine ⟨(by first | exact Nat.zero_lt_one | assumption | omega), (by first | assumption | exact vp_in_nI (by omega) (by omega) | (unfold vp_in; decide)), ?_⟩
            | refine ⟨(by first | exact Nat.zero_lt_one | assumption | omega), rfl, ?_⟩
            | refine ⟨⟨(by first | exact Nat.zero_lt_one | assumption | omega), rfl⟩, Nat.le_of_ble_eq_true rfl, ?_⟩
            | refine ⟨(by first | exact Nat.zero_lt_one | assumption | omega), ?_⟩
            | refine ⟨Or.inl rfl, ?_⟩
            | refine ⟨Or.inr (Or.inl rfl), ?_⟩
            | refine ⟨Or.inr (Or.inr rfl), ?_⟩
            | refine ⟨Or.inr ⟨rfl, (by first | exact Or.inl rfl | exact Or.inr rfl | assumption)⟩, ?_⟩
            | refine ⟨fun h => absurd h (by decide), fun _ => ?_⟩
            | refine ⟨fun _ => ?_, fun h => absurd h (by decide)⟩
            | refine ⟨fun h => ?_, fun h => ?_⟩
            | fail)
          rw [← hlf]
          simp [cLf0, hin, hpr]
        · have hnp : ¬ μ1 10 0 (nI i).toNatClampNeg = 1 := fun e => hpr (h10.symm.trans e)
          refine zs k_Pr_form rfl ?_
          repeat' (first
            | refine fin 0 (Or.inl rfl) ?_
            | refine br_f h20i ?_
            | refine br_f (show ¬ μ1 1 0 1 ≤ nI i by rw [hn1]; exact hlti) ?_
            | refine ⟨fun _ => ?_, fun h => absurd h hnp⟩
            | refine zs k_Pr_form rfl ?_
            | refine ⟨Nat.zero_lt_one, rfl, ?_⟩
            | refine ⟨rfl, ?_⟩
            | refine ⟨⟨Nat.zero_lt_one, rfl⟩, Nat.le_of_ble_eq_true rfl, ?_⟩
            | refine ⟨Nat.le_of_ble_eq_true rfl, Nat.le_of_ble_eq_true rfl, ?_⟩
            | refine ⟨(by first | exact Nat.zero_lt_one | assumption | omega), (by first | assumption | exact vp_in_nI (by omega) (by omega) | (unfold vp_in; decide)), ?_⟩
            | refine ⟨(by first | exact Nat.zero_lt_one | assumption | omega), rfl, ?_⟩
            | refine ⟨⟨(by first | exact Nat.zero_lt_one | assumption | omega), rfl⟩, Nat.le_of_ble_eq_true rfl, ?_⟩
            | refine ⟨(by first | exact Nat.zero_lt_one | assumption | omega), ?_⟩
            | refine ⟨Or.inl rfl, ?_⟩
            | refine ⟨Or.inr (Or.inl rfl), ?_⟩
            | refine ⟨Or.inr (Or.inr rfl), ?_⟩
            | refine ⟨Or.inr ⟨rfl, (by first | exact Or.inl rfl | exact Or.inr rfl | assumption)⟩, ?_⟩
            | refine ⟨fun h => absurd h (by decide), fun _ => ?_⟩
            | refine ⟨fun _ => ?_, fun h => absurd h (by decide)⟩
            | refine ⟨fun h => ?_, fun h => ?_⟩
            | fail)
          rw [← hlf]
          simp [cLf0, hpr]
      · have hlti : nI n ≤ nI i := nI_le (by omega) (by omega)
        refine zs k_Pr_form rfl ?_
        repeat' (first
          | refine fin 0 (Or.inl rfl) ?_
          | refine br_f h20i ?_
          | refine br_t (show μ1 1 0 1 ≤ nI i by rw [hn1]; exact hlti) ?_
          | refine zs k_Pr_form rfl ?_
          | refine ⟨Nat.zero_lt_one, rfl, ?_⟩
          | refine ⟨rfl, ?_⟩
          | refine ⟨⟨Nat.zero_lt_one, rfl⟩, Nat.le_of_ble_eq_true rfl, ?_⟩
          | refine ⟨Nat.le_of_ble_eq_true rfl, Nat.le_of_ble_eq_true rfl, ?_⟩
          | refine ⟨(by first | exact Nat.zero_lt_one | assumption | omega), (by first | assumption | exact vp_in_nI (by omega) (by omega) | (unfold vp_in; decide)), ?_⟩
          | refine ⟨(by first | exact Nat.zero_lt_one | assumption | omega), rfl, ?_⟩
          | refine ⟨⟨(by first | exact Nat.zero_lt_one | assumption | omega), rfl⟩, Nat.le_of_ble_eq_true rfl, ?_⟩
          | refine ⟨(by first | exact Nat.zero_lt_one | assumption | omega), ?_⟩
          | refine ⟨Or.inl rfl, ?_⟩
          | refine ⟨Or.inr (Or.inl rfl), ?_⟩
          | refine ⟨Or.inr (Or.inr rfl), ?_⟩
          | refine ⟨Or.inr ⟨rfl, (by first | exact Or.inl rfl | exact Or.inr rfl | assumption)⟩, ?_⟩
          | refine ⟨fun h => absurd h (by decide), fun _ => ?_⟩
          | refine ⟨fun _ => ?_, fun h => absurd h (by decide)⟩
          | refine ⟨fun h => ?_, fun h => ?_⟩
          | fail)
        rw [← hlf]
        simp [cLf0, hin]
  repeat' (first
    | refine L0 20 0 _ _ _ (by omega) rfl ?_ rfl rfl (fun p hp => absurd hp (by omega))
    | refine zs k_Pr_form rfl ?_
    | refine ⟨Nat.zero_lt_one, rfl, ?_⟩
    | refine ⟨rfl, ?_⟩
    | refine ⟨⟨Nat.zero_lt_one, rfl⟩, Nat.le_of_ble_eq_true rfl, ?_⟩
    | refine ⟨Nat.le_of_ble_eq_true rfl, Nat.le_of_ble_eq_true rfl, ?_⟩
    | refine ⟨(by first | exact Nat.zero_lt_one | assumption | omega), (by first | assumption | exact vp_in_nI (by omega) (by omega) | (unfold vp_in; decide)), ?_⟩
    | refine ⟨(by first | exact Nat.zero_lt_one | assumption | omega), rfl, ?_⟩
    | refine ⟨⟨(by first | exact Nat.zero_lt_one | assumption | omega), rfl⟩, Nat.le_of_ble_eq_true rfl, ?_⟩
    | refine ⟨(by first | exact Nat.zero_lt_one | assumption | omega), ?_⟩
    | refine ⟨Or.inl rfl, ?_⟩
    | refine ⟨Or.inr (Or.inl rfl), ?_⟩
    | refine ⟨Or.inr (Or.inr rfl), ?_⟩
    | refine ⟨Or.inr ⟨rfl, (by first | exact Or.inl rfl | exact Or.inr rfl | assumption)⟩, ?_⟩
    | refine ⟨fun h => absurd h (by decide), fun _ => ?_⟩
    | refine ⟨fun _ => ?_, fun h => absurd h (by decide)⟩
    | refine ⟨fun h => ?_, fun h => ?_⟩
    | fail)
  intro f hfs
  funext a b
  simp only [zu]
  simp only [List.mem_cons, List.not_mem_nil, or_false, not_or] at hfs
  rw [if_neg (by omega), if_neg (by omega)]
