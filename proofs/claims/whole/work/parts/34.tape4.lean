/-! TAPE: tests and heads, over place and fault as one -/
abbrev zQ : Type := Nat × Int32
def qW (a : Nat → Int32) (n : Nat) (q : zQ) (k : Nat) : Int32 × zQ := pRdW a n q.1 q.2 (zByt.getD k [])
def qB (a : Nat → Int32) (n : Nat) (q : zQ) : zQ := pBlank a n q.1 q.2
def qN (a : Nat → Int32) (n : Nat) (q : zQ) : Int32 × zQ := pRdN a n q.1 q.2
-- places stay on the tape
theorem pB_lt {a : Nat → Int32} {n j : Nat} (h : ¬ pB a n j = -1) : j < n := by
  unfold pB at h
  split at h
  · assumption
  · exact absurd rfl h
theorem qB_le {a : Nat → Int32} {n : Nat} {q : zQ} (h : q.1 ≤ n) : (qB a n q).1 ≤ n := by
  unfold qB pBlank
  split
  · split
    · rename_i h32
      have := pB_lt (a := a) (n := n) (j := q.1) (by rw [h32]; decide)
      exact this
    · exact h
  · exact h
theorem pWord_le {b : Nat → Int32} : ∀ (tx : List Int32) (ix mt lg : Nat) (ft : Bool) (r : Nat × Nat), (∀ c ∈ tx, ¬ c = -1) → (∀ j, j < mt → ¬ b j = -1) → pWord b tx ix mt lg ft = .inl r → ∀ j, j < r.2 → ¬ b j = -1
  | [], ix, mt, lg, ft, r, hc, hm, h => by
    unfold pWord at h
    split at h
    · cases h
      exact hm
    · cases h
  | c :: t, ix, mt, lg, ft, r, hc, hm, h => by
    unfold pWord at h
    split at h
    · split at h
      · cases h
        exact hm
      · exact pWord_le t _ _ _ _ r (fun c' h' => hc c' (List.mem_cons_of_mem _ h')) (fun j hj => absurd hj (by omega)) h
    · split at h
      · rename_i hb
        refine pWord_le t _ _ _ _ r (fun c' h' => hc c' (List.mem_cons_of_mem _ h')) (lt_s hm ?_) h
        rw [hb.2]
        exact hc c List.mem_cons_self
      · exact pWord_le t _ _ _ _ r (fun c' h' => hc c' (List.mem_cons_of_mem _ h')) hm h
theorem zByt_pos : ∀ k, k < 13 → ∀ c ∈ zByt.getD k [], ¬ c = -1 := by decide +kernel
theorem qW_le {a : Nat → Int32} {n k : Nat} {q : zQ} (hk : k < 13) (h : q.1 ≤ n) : (qW a n q k).2.1 ≤ n := by
  unfold qW pRdW
  split
  · split
    · rename_i r hr
      have h1 := pWord_le _ 0 0 0 true r (zByt_pos k hk) (fun j hj => absurd hj (by omega)) hr
      show q.1 + r.2 ≤ n
      rcases Nat.eq_zero_or_pos r.2 with h0 | h0
      · omega
      · have := pB_lt (h1 (r.2 - 1) (by omega))
        omega
    · exact h
  · exact h
theorem pNumF_le {a : Nat → Int32} {n : Nat} : ∀ (f at_ : Nat) (v : Int32), at_ ≤ n → (pNumF (pB a n) f at_ v).1 ≤ n
  | 0, at_, v, h => h
  | f + 1, at_, v, h => by
    rw [pNumF]
    split
    · rename_i hd
      have := pB_lt (a := a) (n := n) (j := at_) (by intro e; rw [e] at hd; exact absurd hd.1 (by decide))
      exact pNumF_le f (at_ + 1) _ this
    · exact h
theorem qN_le {a : Nat → Int32} {n : Nat} {q : zQ} (h : q.1 ≤ n) : (qN a n q).2.1 ≤ n := by
  unfold qN pRdN
  split
  · split
    · exact h
    · exact pNumF_le 8 q.1 0 h
  · exact h
theorem r_word {d n k : Nat} {μ : zMu} {a : Nat → Int32} {q : zQ} {K : Option zV → zMu → Prop} (hk : k < 13) (hn : μ 2 0 0 = nI n) (h200 : n ≤ 200) (hA : μ 18 0 = a) (h2 : μ 2 0 2 = nI q.1) (h3 : μ 2 0 3 = q.2) (hq : q.1 ≤ n) (hK : ∀ (v : Int32) (q' : zQ), qW a n q k = (v, q') → q'.1 ≤ n → K (some (zI v)) (cAt μ q')) : Ct (d + 4) m_Tp_readWord [zR 2 0, zR 200 k] μ K := by
  subst hA
  refine c_Tp_readWord hk hn h200 h2 (by omega) ?_
  rw [h3]
  exact hK _ _ rfl (qW_le hk hq)
theorem r_blank {d n : Nat} {μ : zMu} {a : Nat → Int32} {q : zQ} {K : Option zV → zMu → Prop} (hn : μ 2 0 0 = nI n) (h200 : n ≤ 200) (hA : μ 18 0 = a) (h2 : μ 2 0 2 = nI q.1) (h3 : μ 2 0 3 = q.2) (hq : q.1 ≤ n) (hK : ∀ q' : zQ, qB a n q = q' → q'.1 ≤ n → K none (cAt μ q')) : Ct (d + 1) m_Tp_readBlank [zR 2 0] μ K := by
  subst hA
  refine c_Tp_readBlank hn h200 h2 (by omega) ?_
  rw [h3]
  exact hK _ rfl (qB_le hq)
theorem r_num {d n : Nat} {μ : zMu} {a : Nat → Int32} {q : zQ} {K : Option zV → zMu → Prop} (hn : μ 2 0 0 = nI n) (h200 : n ≤ 200) (hA : μ 18 0 = a) (h2 : μ 2 0 2 = nI q.1) (h3 : μ 2 0 3 = q.2) (hq : q.1 ≤ n) (hK : ∀ (v : Int32) (q' : zQ), qN a n q = (v, q') → q'.1 ≤ n → K (some (zI v)) (cAt μ q')) : Ct (d + 1) m_Tp_readNumber [zR 2 0] μ K := by
  subst hA
  refine c_Tp_readNumber hn h200 h2 (by omega) ?_
  rw [h3]
  exact hK _ _ rfl (qN_le hq)
/-- a test is read: not, second, field, sign, number; place and fault -/
def qT0R (a : Nat → Int32) (n : Nat) (q : zQ) (neg w : Int32) (q' : zQ) : Prop := ∃ v1 q1, qW a n q 5 = (v1, q1) ∧ ((v1 = 2 ∧ neg = 1 ∧ qW a n (qB a n q1) 6 = (w, q')) ∨ (¬ v1 = 2 ∧ neg = 0 ∧ w = v1 ∧ q' = q1))
def qTR (a : Nat → Int32) (n : Nat) (q : zQ) (t : rT) (q' : zQ) : Prop := ∃ w q3 v4 q4 q5 q6, qT0R a n q t.1 w q3 ∧ t.2.1 = (if w = 1 then 1 else 0) ∧ qW a n q3 7 = (v4, q4) ∧ qW a n q4 8 = (t.2.2.1, q5) ∧ qW a n q5 9 = (t.2.2.2.1, q6) ∧ qN a n q6 = (t.2.2.2.2, q')
theorem zGmu {S : Nat × (Nat → Int32)} {d : Nat} {M : zMth} {K : Option zV → zMu → Prop} {pc : Nat} {ls : List (Option zV)} {st : List zV} {μ μ' : zMu} (h : zG S d M K pc ls st μ) (e : μ' = μ) : zG S d M K pc ls st μ' := by
  rw [e]
  exact h
/-- rule r has test j -/
def cTe (μ : zMu) (r j : Nat) (t : rT) : zMu := zu (zu (zu (zu (zu (zu μ 22 r j t.1) 23 r j t.2.1) 24 r j t.2.2.1) 25 r j t.2.2.2.1) 26 r j t.2.2.2.2) 8 r 4 (nI (j + 1))
set_option maxHeartbeats 4000000 in
theorem c_Tp_readTest {d n r j : Nat} {μ : zMu} {a : Nat → Int32} {q : zQ} {x : Int32} {K : Option zV → zMu → Prop} (hr : r < 16) (hj : j < 4) (hx : x = nI j) (hn : μ 2 0 0 = nI n) (h200 : n ≤ 200) (hA : μ 18 0 = a) (h2 : μ 2 0 2 = nI q.1) (h3 : μ 2 0 3 = q.2) (hq : q.1 ≤ n) (hK : ∀ (t : rT) (q' : zQ), qTR a n q t q' → q'.1 ≤ n → K none (cAt (cTe μ r j t) q')) : Ct (d + 5) m_Tp_readTest [zR 2 0, zR 8 r, zI x] μ K := by
  subst hx
  refine zmeet rfl (Nat.le_of_ble_eq_true rfl) (fun S => ?_)
  have hc : (nI j).toNatClampNeg = j := nI_clamp (by omega)
  have tail : ∀ (w neg : Int32) (q3 : zQ), qT0R a n q neg w q3 → q3.1 ≤ n → zG S (d + 5) m_Tp_readTest K 43 [some (zR 2 0), some (zR 8 r), some (zI (nI j)), some (zI w)] [] (cAt (zu μ 22 r j neg) q3) := by
    intro w neg q3 h0 hq3
    have go : ∀ b : Int32, b = (if w = 1 then 1 else 0) → zG S (d + 5) m_Tp_readTest K 59 [some (zR 2 0), some (zR 8 r), some (zI (nI j)), some (zI w)] [] (zu (cAt (zu μ 22 r j neg) q3) 23 r j b) := by
      intro b hb
      repeat' (first
        | refine ⟨⟨rfl, (by omega)⟩, Nat.le_of_ble_eq_true rfl, ?_⟩
        | refine r_num (a := a) (n := n) (q := q6) hn h200 hA rfl rfl hq6 (fun v7 q7 e7 hq7 => ?_)
        | refine r_word (a := a) (n := n) (q := q5) (by omega) hn h200 hA rfl rfl hq5 (fun v6 q6 e6 hq6 => ?_)
        | refine r_word (a := a) (n := n) (q := q4) (by omega) hn h200 hA rfl rfl hq4 (fun v5 q5 e5 hq5 => ?_)
        | refine r_word (a := a) (n := n) (q := q3) (by omega) hn h200 hA rfl rfl hq3 (fun v4 q4 e4 hq4 => ?_)
        | refine zKn (hK (neg, b, v5, v6, v7) q7 ⟨w, q3, v4, q4, q5, q6, h0, hb, e4, e5, e6, e7⟩ hq7) ?_
        | refine zs k_Tp_readTest rfl ?_
        | refine ⟨Nat.zero_lt_one, rfl, ?_⟩
        | refine ⟨rfl, ?_⟩
        | refine ⟨⟨Nat.zero_lt_one, rfl⟩, Nat.le_of_ble_eq_true rfl, ?_⟩
        | refine ⟨Nat.le_of_ble_eq_true rfl, Nat.le_of_ble_eq_true rfl, ?_⟩
        | refine ⟨(by first | exact Nat.zero_lt_one | assumption | omega), (by first | assumption | exact vp_in_nI (by omega) (by omega) | (unfold vp_in; decide)), ?_⟩
        | refine ⟨(by first | exact Nat.zero_lt_one | assumption | omega), rfl, ?_⟩
        | refine ⟨⟨(by first | exact Nat.zero_lt_one | assumption | omega), rfl⟩, Nat.le_of_ble_eq_true rfl, ?_⟩
        | refine ⟨(by first | exact Nat.zero_lt_one | assumption | omega), ?_⟩
        | refine ⟨Or.inl rfl, ?_⟩
        | refine ⟨Or.inr (Or.inl rfl), ?_⟩
        | refine ⟨Or.inr (Or.inr rfl), ?_⟩
        | refine ⟨Or.inr ⟨rfl, (by first | exact Or.inl rfl | exact Or.inr rfl | assumption)⟩, ?_⟩
        | refine ⟨fun h => absurd h (by decide), fun _ => ?_⟩
        | refine ⟨fun _ => ?_, fun h => absurd h (by decide)⟩
        | refine ⟨fun h => ?_, fun h => ?_⟩
        | fail)
      rw [hc, nI_1]
      funext f i k
      simp only [cAt, cTe, zu]
      grind
    refine zs k_Tp_readTest rfl ?_
    repeat' (first
      | (rw [hc]; refine go _ ?_)
      | refine zs k_Tp_readTest rfl ?_
      | refine ⟨Nat.zero_lt_one, rfl, ?_⟩
      | refine ⟨rfl, ?_⟩
      | refine ⟨⟨Nat.zero_lt_one, rfl⟩, Nat.le_of_ble_eq_true rfl, ?_⟩
      | refine ⟨Nat.le_of_ble_eq_true rfl, Nat.le_of_ble_eq_true rfl, ?_⟩
      | refine ⟨(by first | exact Nat.zero_lt_one | assumption | omega), (by first | assumption | exact vp_in_nI (by omega) (by omega) | (unfold vp_in; decide)), ?_⟩
      | refine ⟨(by first | exact Nat.zero_lt_one | assumption | omega), rfl, ?_⟩
      | refine ⟨⟨(by first | exact Nat.zero_lt_one | assumption | omega), rfl⟩, Nat.le_of_ble_eq_true rfl, ?_⟩
      | refine ⟨(by first | exact Nat.zero_lt_one | assumption | omega), ?_⟩
      | refine ⟨Or.inl rfl, ?_⟩
      | refine ⟨Or.inr (Or.inl rfl), ?_⟩
      | refine ⟨Or.inr (Or.inr rfl), ?_⟩
      | refine ⟨Or.inr ⟨rfl, (by first | exact Or.inl rfl | exact Or.inr rfl | assumption)⟩, ?_⟩
      | refine ⟨fun h => absurd h (by decide), fun _ => ?_⟩
      | refine ⟨fun _ => ?_, fun h => absurd h (by decide)⟩
      | refine ⟨fun h => ?_, fun h => ?_⟩
      | fail)
    · rw [if_neg (by assumption)]; rfl
    · rw [if_pos (by assumption)]; rfl
  have n0 : vp_nar .boolean 0 = 0 := rfl
  have n1 : vp_nar .boolean 1 = 1 := rfl
  repeat' (first
    | refine zGmu (tail v3 1 q3 ⟨v1, q1, e1, Or.inl ⟨(by assumption), rfl, by rw [e2]; exact e3⟩⟩ hq3) ?_
    | refine zGmu (tail v1 0 q1 ⟨v1, q1, e1, Or.inr ⟨(by assumption), rfl, rfl, rfl⟩⟩ hq1) ?_
    | refine ⟨⟨rfl, (by omega)⟩, Nat.le_of_ble_eq_true rfl, ?_⟩
    | refine ⟨fun h => absurd (zu_eq.symm.trans h) (by decide), fun _ => ?_⟩
    | refine ⟨fun _ => ?_, fun h => absurd zu_eq h⟩
    | refine r_word (a := a) (n := n) (q := q2) (by omega) hn h200 hA rfl rfl hq2 (fun v3 q3 e3 hq3 => ?_)
    | refine r_blank (a := a) (n := n) (q := q1) hn h200 hA rfl rfl hq1 (fun q2 e2 hq2 => ?_)
    | refine r_word (a := a) (n := n) (q := q) (by omega) hn h200 hA h2 h3 hq (fun v1 q1 e1 hq1 => ?_)
    | refine zs k_Tp_readTest rfl ?_
    | refine ⟨Nat.zero_lt_one, rfl, ?_⟩
    | refine ⟨rfl, ?_⟩
    | refine ⟨⟨Nat.zero_lt_one, rfl⟩, Nat.le_of_ble_eq_true rfl, ?_⟩
    | refine ⟨Nat.le_of_ble_eq_true rfl, Nat.le_of_ble_eq_true rfl, ?_⟩
    | refine ⟨(by first | exact Nat.zero_lt_one | assumption | omega), (by first | assumption | exact vp_in_nI (by omega) (by omega) | (unfold vp_in; decide)), ?_⟩
    | refine ⟨(by first | exact Nat.zero_lt_one | assumption | omega), rfl, ?_⟩
    | refine ⟨⟨(by first | exact Nat.zero_lt_one | assumption | omega), rfl⟩, Nat.le_of_ble_eq_true rfl, ?_⟩
    | refine ⟨(by first | exact Nat.zero_lt_one | assumption | omega), ?_⟩
    | refine ⟨Or.inl rfl, ?_⟩
    | refine ⟨Or.inr (Or.inl rfl), ?_⟩
    | refine ⟨Or.inr (Or.inr rfl), ?_⟩
    | refine ⟨Or.inr ⟨rfl, (by first | exact Or.inl rfl | exact Or.inr rfl | assumption)⟩, ?_⟩
    | refine ⟨fun h => absurd h (by decide), fun _ => ?_⟩
    | refine ⟨fun _ => ?_, fun h => absurd h (by decide)⟩
    | refine ⟨fun h => ?_, fun h => ?_⟩
    | fail)
  all_goals
    rw [hc]
    funext f i k
    simp only [cAt, zu, n0, n1]
    grind
