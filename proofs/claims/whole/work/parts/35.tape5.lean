/-! TAPE: a rule's head, its tests, the whole -/
def qHR (a : Nat → Int32) (n : Nat) (q : zQ) (oc ky dn : Int32) (q' : zQ) : Prop := ∃ v1 q1 q2 v3 q3 q4 q5 q6 v7, qW a n q 0 = (v1, q1) ∧ qB a n q1 = q2 ∧ qW a n q2 1 = (v3, q3) ∧ oc = v3 - 1 ∧ qB a n q3 = q4 ∧ qW a n q4 2 = (ky, q5) ∧ qB a n q5 = q6 ∧ qW a n q6 3 = (v7, q') ∧ dn = (if v7 = 1 then 1 else 0)
def cHd (μ : zMu) (r : Nat) (oc ky dn : Int32) : zMu := zu (zu (zu μ 8 r 0 oc) 8 r 1 ky) 8 r 2 dn
set_option maxHeartbeats 4000000 in
theorem c_Tp_readHead {d n r : Nat} {μ : zMu} {a : Nat → Int32} {q : zQ} {K : Option zV → zMu → Prop} (hr : r < 16) (hn : μ 2 0 0 = nI n) (h200 : n ≤ 200) (hA : μ 18 0 = a) (h2 : μ 2 0 2 = nI q.1) (h3 : μ 2 0 3 = q.2) (hq : q.1 ≤ n) (hK : ∀ (oc ky dn : Int32) (q' : zQ), qHR a n q oc ky dn q' → q'.1 ≤ n → K none (cAt (cHd μ r oc ky dn) q')) : Ct (d + 5) m_Tp_readHead [zR 2 0, zR 8 r] μ K := by
  refine zmeet rfl (Nat.le_of_ble_eq_true rfl) (fun S => ?_)
  repeat' (first
    | refine ⟨⟨rfl, (by omega)⟩, Nat.le_of_ble_eq_true rfl, ?_⟩
    | refine zKn (hK (v3 - 1) v5 0 q7 ⟨v1, q1, q2, v3, q3, q4, q5, q6, v7, e1, e2, e3, rfl, e4, e5, e6, e7, by rw [if_neg (by assumption)]⟩ hq7) ?_
    | refine zKn (hK (v3 - 1) v5 1 q7 ⟨v1, q1, q2, v3, q3, q4, q5, q6, v7, e1, e2, e3, rfl, e4, e5, e6, e7, by rw [if_pos (by assumption)]⟩ hq7) ?_
    | refine r_word (a := a) (n := n) (q := q6) (by omega) hn h200 hA rfl rfl hq6 (fun v7 q7 e7 hq7 => ?_)
    | refine r_blank (a := a) (n := n) (q := q5) hn h200 hA rfl rfl hq5 (fun q6 e6 hq6 => ?_)
    | refine r_word (a := a) (n := n) (q := q4) (by omega) hn h200 hA rfl rfl hq4 (fun v5 q5 e5 hq5 => ?_)
    | refine r_blank (a := a) (n := n) (q := q3) hn h200 hA rfl rfl hq3 (fun q4 e4 hq4 => ?_)
    | refine r_word (a := a) (n := n) (q := q2) (by omega) hn h200 hA rfl rfl hq2 (fun v3 q3 e3 hq3 => ?_)
    | refine r_blank (a := a) (n := n) (q := q1) hn h200 hA rfl rfl hq1 (fun q2 e2 hq2 => ?_)
    | refine r_word (a := a) (n := n) (q := q) (by omega) hn h200 hA h2 h3 hq (fun v1 q1 e1 hq1 => ?_)
    | refine zs k_Tp_readHead rfl ?_
    | refine ⟨Nat.zero_lt_one, rfl, ?_⟩
    | refine ⟨rfl, ?_⟩
    | refine ⟨⟨Nat.zero_lt_one, rfl⟩, Nat.le_of_ble_eq_true rfl, ?_⟩
    | refine ⟨Nat.le_of_ble_eq_true rfl, Nat.le_of_ble_eq_true rfl, ?_⟩
    | refine ⟨(by first | exact Nat.zero_lt_one | assumption | omega), (by first | assumption | exact vp_in_nI (by omega) (by omega) | (unfold vp_in; decide)), ?_⟩
    | refine ⟨(by first | exact Nat.zero_lt_one | assumption | omega), rfl, ?_⟩
    | refine ⟨⟨(by first | exact Nat.zero_lt_one | assumption | omega), rfl⟩, Nat.le_of_ble_eq_true rfl, ?_⟩
    | refine ⟨(by first | exact Nat.zero_lt_one | assumption | omega), ?_⟩
    | refine ⟨Or.inl rfl, ?_⟩
    | refine ⟨Or.inr (Or.inl rfl), ?_⟩
    | refine ⟨Or.inr (Or.inr rfl), ?_⟩
    | refine ⟨Or.inr ⟨rfl, (by first | exact Or.inl rfl | exact Or.inr rfl | assumption)⟩, ?_⟩
    | refine ⟨fun h => absurd h (by decide), fun _ => ?_⟩
    | refine ⟨fun _ => ?_, fun h => absurd h (by decide)⟩
    | refine ⟨fun h => ?_, fun h => ?_⟩
    | fail)
  all_goals
    funext f i k
    simp only [cAt, cHd, zu]
    grind
def qMore (n : Nat) (q : zQ) : Prop := q.2 = -1 ∧ q.1 < n
/-- the further tests: k may come, any so far -/
def qLR (a : Nat → Int32) (n : Nat) : Nat → Int32 → zQ → List rT → Int32 → zQ → Prop
  | 0, any, q, ts, any', q' => ts = [] ∧ any' = any ∧ q' = q
  | k + 1, any, q, ts, any', q' => (¬ qMore n q ∧ ts = [] ∧ any' = any ∧ q' = q) ∨ (qMore n q ∧ ∃ q1 any1 v2 q2 q3 t q4 ts', qB a n q = q1 ∧ (if k = 2 then qW a n q1 10 = (v2, q2) ∧ any1 = (if v2 = 1 then 1 else 0) else qW a n q1 (if any = 0 then 12 else 11) = (v2, q2) ∧ any1 = any) ∧ qB a n q2 = q3 ∧ qTR a n q3 t q4 ∧ ts = t :: ts' ∧ qLR a n k any1 q4 ts' any' q')
def cTs (μ : zMu) (r : Nat) : Nat → List rT → zMu
  | _, [] => μ
  | j, t :: ts => cTs (cTe μ r j t) r (j + 1) ts
def zOff (r : Nat) (μ μ' : zMu) : Prop := ∀ f i k, ¬ (f = 2 ∧ i = 0 ∧ (k = 2 ∨ k = 3)) → ¬ (f = 8 ∧ i = r ∧ k = 3) → μ f i k = μ' f i k
theorem cTe_off {r j : Nat} {t : rT} {μ μ' : zMu} (h : zOff r μ μ') : zOff r (cTe μ r j t) (cTe μ' r j t) := by
  intro f i k h1 h2
  have := h f i k h1 h2
  simp only [cTe, zu]
  grind
theorem cTs_off {r : Nat} : ∀ {ts : List rT} {j : Nat} {μ μ' : zMu}, zOff r μ μ' → zOff r (cTs μ r j ts) (cTs μ' r j ts)
  | [], _, _, _, h => h
  | t :: ts, j, μ, μ', h => cTs_off (ts := ts) (j := j + 1) (cTe_off h)
theorem cAt_off {r : Nat} {μ μ' : zMu} {any : Int32} {q : zQ} (h : zOff r μ μ') : cAt (zu μ 8 r 3 any) q = cAt (zu μ' 8 r 3 any) q := by
  funext f i k
  have := h f i k
  simp only [cAt, zu]
  grind
theorem cAt_any {r : Nat} {μ : zMu} {any : Int32} {q : zQ} (h1 : μ 2 0 2 = nI q.1) (h2 : μ 2 0 3 = q.2) (h3 : μ 8 r 3 = any) : cAt (zu μ 8 r 3 any) q = μ := by
  funext f i k
  simp only [cAt, zu]
  grind
theorem qMore_iff {μ : zMu} {n : Nat} {q : zQ} (hn : μ 2 0 0 = nI n) (h200 : n ≤ 200) (h2 : μ 2 0 2 = nI q.1) (h3 : μ 2 0 3 = q.2) (hq : q.1 ≤ n) : (μ 2 0 3 = -1 ∧ μ 2 0 2 < μ 2 0 0) ↔ qMore n q := by
  rw [hn, h2, h3, nI_ltI (by omega) (by omega)]
  exact Iff.rfl
set_option maxHeartbeats 8000000 in
theorem c_Tp_readTests {d n r : Nat} {μ : zMu} {a : Nat → Int32} {q : zQ} {any : Int32} {K : Option zV → zMu → Prop} (hr : r < 16) (hn : μ 2 0 0 = nI n) (h200 : n ≤ 200) (hA : μ 18 0 = a) (h2 : μ 2 0 2 = nI q.1) (h3 : μ 2 0 3 = q.2) (hq : q.1 ≤ n) (hany : μ 8 r 3 = any)
    (hK : ∀ (v2 : Int32) (q1 q2 q3 q4 : zQ) (t : rT) (ts : List rT) (any' : Int32) (q' : zQ), qB a n q = q1 → qW a n q1 4 = (v2, q2) → qB a n q2 = q3 → qTR a n q3 t q4 → qLR a n 3 any q4 ts any' q' → q'.1 ≤ n → K none (cAt (zu (cTs μ r 0 (t :: ts)) 8 r 3 any') q')) : Ct (d + 6) m_Tp_readTests [zR 2 0, zR 8 r] μ K := by
  refine zmeet rfl (Nat.le_of_ble_eq_true rfl) (fun S => ?_)
  have L : ∀ (k j : Nat) (x : Int32) (any : Int32) (q : zQ) (μ1 : zMu), j + k = 4 → 1 ≤ j → x = nI j → μ1 2 0 0 = nI n → μ1 18 0 = a → μ1 2 0 2 = nI q.1 → μ1 2 0 3 = q.2 → q.1 ≤ n → μ1 8 r 3 = any → (∀ (ts : List rT) (any' : Int32) (q' : zQ), qLR a n k any q ts any' q' → q'.1 ≤ n → K none (cAt (zu (cTs μ1 r j ts) 8 r 3 any') q')) → zG S (d + 6) m_Tp_readTests K 23 [some (zR 2 0), some (zR 8 r), some (zI x)] [] μ1 := by
    intro k
    induction k with
    | zero =>
      intro j x any q μ1 hjk hj1 hx gn gA g2 g3 gq gany gK
      subst hx
      obtain rfl : j = 4 := by omega
      have hk := gK [] any q ⟨rfl, rfl, rfl⟩ gq
      rw [cTs, cAt_any g2 g3 gany] at hk
      refine zs k_Tp_readTests rfl ?_
      repeat' (first
        | refine br_t (by decide) ?_
        | exact hk
        | refine zs k_Tp_readTests rfl ?_
        | refine ⟨Nat.zero_lt_one, rfl, ?_⟩
        | refine ⟨rfl, ?_⟩
        | refine ⟨⟨Nat.zero_lt_one, rfl⟩, Nat.le_of_ble_eq_true rfl, ?_⟩
        | refine ⟨Nat.le_of_ble_eq_true rfl, Nat.le_of_ble_eq_true rfl, ?_⟩
        | refine ⟨(by first | exact Nat.zero_lt_one | assumption | omega), (by first | assumption | exact vp_in_nI (by omega) (by omega) | (unfold vp_in; decide)), ?_⟩
        | refine ⟨(by first | exact Nat.zero_lt_one | assumption | omega), rfl, ?_⟩
        | refine ⟨⟨(by first | exact Nat.zero_lt_one | assumption | omega), rfl⟩, Nat.le_of_ble_eq_true rfl, ?_⟩
        | refine ⟨(by first | exact Nat.zero_lt_one | assumption | omega), ?_⟩
        | refine ⟨Or.inl rfl, ?_⟩
        | refine ⟨Or.inr (Or.inl rfl), ?_⟩
        | refine ⟨Or.inr (Or.inr rfl), ?_⟩
        | refine ⟨Or.inr ⟨rfl, (by first | exact Or.inl rfl | exact Or.inr rfl | assumption)⟩, ?_⟩
        | refine ⟨fun h => absurd h (by decide), fun _ => ?_⟩
        | refine ⟨fun _ => ?_, fun h => absurd h (by decide)⟩
        | refine ⟨fun h => ?_, fun h => ?_⟩
        | fail)
    | succ k ih =>
      intro j x any q μ1 hjk hj1 hx gn gA g2 g3 gq gany gK
      subst hx
      have hm := qMore_iff gn h200 g2 g3 gq
      have h4 : ¬ (4 : Int32) ≤ nI j := nI_ge (b := 4) (by omega) (by omega)
      by_cases hmore : qMore n q
      · have cont : ∀ (q1 : zQ) (any1 v2 : Int32) (q2 : zQ) (μ2 : zMu), qB a n q = q1 → (if k = 2 then qW a n q1 10 = (v2, q2) ∧ any1 = (if v2 = 1 then 1 else 0) else qW a n q1 (if any = 0 then 12 else 11) = (v2, q2) ∧ any1 = any) → q2.1 ≤ n → zOff r μ2 μ1 → μ2 2 0 2 = nI q2.1 → μ2 2 0 3 = q2.2 → μ2 8 r 3 = any1 → zG S (d + 6) m_Tp_readTests K 85 [some (zR 2 0), some (zR 8 r), some (zI (nI j))] [] μ2 := by
          intro q1 any1 v2 q2 μ2 eq1 eq2 hq2 hoff k2 k3 kany
          have kn : μ2 2 0 0 = nI n := by rw [hoff 2 0 0 (by omega) (by omega)]; exact gn
          have kA : μ2 18 0 = a := by
            rw [← gA]
            funext z
            exact hoff 18 0 z (by omega) (by omega)
          repeat' (first
            | refine ih (j + 1) _ any1 q4 _ (by omega) (by omega) (by exact nI_1 j) kn kA rfl rfl hq4 kany (fun ts any' q' hl hq' => ?_)
            | refine r_blank (a := a) (n := n) (q := q2) kn h200 kA k2 k3 hq2 (fun q3 e3 hq3 => ?_)
            | refine c_Tp_readTest (a := a) (n := n) (q := q3) hr (by omega) rfl kn h200 kA rfl rfl hq3 (fun t q4 e4 hq4 => ?_)
            | refine zs k_Tp_readTests rfl ?_
            | refine ⟨Nat.zero_lt_one, rfl, ?_⟩
            | refine ⟨rfl, ?_⟩
            | refine ⟨⟨Nat.zero_lt_one, rfl⟩, Nat.le_of_ble_eq_true rfl, ?_⟩
            | refine ⟨Nat.le_of_ble_eq_true rfl, Nat.le_of_ble_eq_true rfl, ?_⟩
            | refine ⟨(by first | exact Nat.zero_lt_one | assumption | omega), (by first | assumption | exact vp_in_nI (by omega) (by omega) | (unfold vp_in; decide)), ?_⟩
            | refine ⟨(by first | exact Nat.zero_lt_one | assumption | omega), rfl, ?_⟩
            | refine ⟨⟨(by first | exact Nat.zero_lt_one | assumption | omega), rfl⟩, Nat.le_of_ble_eq_true rfl, ?_⟩
            | refine ⟨(by first | exact Nat.zero_lt_one | assumption | omega), ?_⟩
            | refine ⟨Or.inl rfl, ?_⟩
            | refine ⟨Or.inr (Or.inl rfl), ?_⟩
            | refine ⟨Or.inr (Or.inr rfl), ?_⟩
            | refine ⟨Or.inr ⟨rfl, (by first | exact Or.inl rfl | exact Or.inr rfl | assumption)⟩, ?_⟩
            | refine ⟨fun h => absurd h (by decide), fun _ => ?_⟩
            | refine ⟨fun _ => ?_, fun h => absurd h (by decide)⟩
            | refine ⟨fun h => ?_, fun h => ?_⟩
            | fail)
          have hk := gK (t :: ts) any' q' (Or.inr ⟨hmore, q1, any1, v2, q2, q3, t, q4, ts, eq1, eq2, e3, e4, rfl, hl⟩) hq'
          refine zKn hk ?_
          refine cAt_off (cTs_off ?_)
          intro f i k' h1' h2'
          have := hoff f i k' h1' h2'
          simp only [cAt, cTe, zu]
          grind
        by_cases hj : j = 1
        · subst hj
          obtain rfl : k = 2 := by omega
          refine zs k_Tp_readTests rfl ?_
          repeat' (first
            | refine cont q1 0 v2 q2 _ e1 (by rw [if_pos rfl]; exact ⟨e2, by rw [if_neg (by assumption)]⟩) hq2 ?_ rfl rfl zu_eq
            | refine cont q1 1 v2 q2 _ e1 (by rw [if_pos rfl]; exact ⟨e2, by rw [if_pos (by assumption)]⟩) hq2 ?_ rfl rfl zu_eq
            | refine br_f h4 ?_
            | refine ⟨⟨rfl, (by omega)⟩, Nat.le_of_ble_eq_true rfl, ?_⟩
            | refine c_Tp_hasMore (fun _ => ?_) (fun h => absurd (hm.mpr hmore) h)
            | refine ⟨fun h => absurd rfl h, fun _ => ?_⟩
            | refine r_word (a := a) (n := n) (q := q1) (by omega) gn h200 gA rfl rfl hq1 (fun v2 q2 e2 hq2 => ?_)
            | refine r_blank (a := a) (n := n) (q := q) gn h200 gA g2 g3 gq (fun q1 e1 hq1 => ?_)
            | refine zs k_Tp_readTests rfl ?_
            | refine ⟨Nat.zero_lt_one, rfl, ?_⟩
            | refine ⟨rfl, ?_⟩
            | refine ⟨⟨Nat.zero_lt_one, rfl⟩, Nat.le_of_ble_eq_true rfl, ?_⟩
            | refine ⟨Nat.le_of_ble_eq_true rfl, Nat.le_of_ble_eq_true rfl, ?_⟩
            | refine ⟨(by first | exact Nat.zero_lt_one | assumption | omega), (by first | assumption | exact vp_in_nI (by omega) (by omega) | (unfold vp_in; decide)), ?_⟩
            | refine ⟨(by first | exact Nat.zero_lt_one | assumption | omega), rfl, ?_⟩
            | refine ⟨⟨(by first | exact Nat.zero_lt_one | assumption | omega), rfl⟩, Nat.le_of_ble_eq_true rfl, ?_⟩
            | refine ⟨(by first | exact Nat.zero_lt_one | assumption | omega), ?_⟩
            | refine ⟨Or.inl rfl, ?_⟩
            | refine ⟨Or.inr (Or.inl rfl), ?_⟩
            | refine ⟨Or.inr (Or.inr rfl), ?_⟩
            | refine ⟨Or.inr ⟨rfl, (by first | exact Or.inl rfl | exact Or.inr rfl | assumption)⟩, ?_⟩
            | refine ⟨fun h => absurd h (by decide), fun _ => ?_⟩
            | refine ⟨fun _ => ?_, fun h => absurd h (by decide)⟩
            | refine ⟨fun h => ?_, fun h => ?_⟩
            | fail)
          all_goals
            intro f i k' h1' h2'
            simp only [cAt, zu]
            grind
        · have hj2 : ¬ nI j = 1 := fun h => hj ((nI_eq (b := 1) (by omega) (by omega)).mp h)
          by_cases ha0 : any = 0
          · skip
            refine zs k_Tp_readTests rfl ?_
            repeat' (first
              | refine cont q1 any v2 q2 _ e1 (by rw [if_neg (by omega), if_pos ha0]; exact ⟨e2, rfl⟩) hq2 ?_ rfl rfl gany
              | refine br_f h4 ?_
              | refine ⟨⟨rfl, (by omega)⟩, Nat.le_of_ble_eq_true rfl, ?_⟩
              | refine c_Tp_hasMore (fun _ => ?_) (fun h => absurd (hm.mpr hmore) h)
              | refine ⟨fun _ => ?_, fun h => absurd h hj2⟩
              | refine br_t (gany.trans ha0) ?_
              | refine r_word (a := a) (n := n) (q := q1) (by omega) gn h200 gA rfl rfl hq1 (fun v2 q2 e2 hq2 => ?_)
              | refine r_blank (a := a) (n := n) (q := q) gn h200 gA g2 g3 gq (fun q1 e1 hq1 => ?_)
              | refine zs k_Tp_readTests rfl ?_
              | refine ⟨Nat.zero_lt_one, rfl, ?_⟩
              | refine ⟨rfl, ?_⟩
              | refine ⟨⟨Nat.zero_lt_one, rfl⟩, Nat.le_of_ble_eq_true rfl, ?_⟩
              | refine ⟨Nat.le_of_ble_eq_true rfl, Nat.le_of_ble_eq_true rfl, ?_⟩
              | refine ⟨(by first | exact Nat.zero_lt_one | assumption | omega), (by first | assumption | exact vp_in_nI (by omega) (by omega) | (unfold vp_in; decide)), ?_⟩
              | refine ⟨(by first | exact Nat.zero_lt_one | assumption | omega), rfl, ?_⟩
              | refine ⟨⟨(by first | exact Nat.zero_lt_one | assumption | omega), rfl⟩, Nat.le_of_ble_eq_true rfl, ?_⟩
              | refine ⟨(by first | exact Nat.zero_lt_one | assumption | omega), ?_⟩
              | refine ⟨Or.inl rfl, ?_⟩
              | refine ⟨Or.inr (Or.inl rfl), ?_⟩
              | refine ⟨Or.inr (Or.inr rfl), ?_⟩
              | refine ⟨Or.inr ⟨rfl, (by first | exact Or.inl rfl | exact Or.inr rfl | assumption)⟩, ?_⟩
              | refine ⟨fun h => absurd h (by decide), fun _ => ?_⟩
              | refine ⟨fun _ => ?_, fun h => absurd h (by decide)⟩
              | refine ⟨fun h => ?_, fun h => ?_⟩
              | fail)
            all_goals
              intro f i k' h1' h2'
              simp only [cAt, zu]
              grind
          · skip
            refine zs k_Tp_readTests rfl ?_
            repeat' (first
              | refine cont q1 any v2 q2 _ e1 (by rw [if_neg (by omega), if_neg ha0]; exact ⟨e2, rfl⟩) hq2 ?_ rfl rfl gany
              | refine br_f h4 ?_
              | refine ⟨⟨rfl, (by omega)⟩, Nat.le_of_ble_eq_true rfl, ?_⟩
              | refine c_Tp_hasMore (fun _ => ?_) (fun h => absurd (hm.mpr hmore) h)
              | refine ⟨fun _ => ?_, fun h => absurd h hj2⟩
              | refine br_f (fun h => ha0 (gany.symm.trans h)) ?_
              | refine r_word (a := a) (n := n) (q := q1) (by omega) gn h200 gA rfl rfl hq1 (fun v2 q2 e2 hq2 => ?_)
              | refine r_blank (a := a) (n := n) (q := q) gn h200 gA g2 g3 gq (fun q1 e1 hq1 => ?_)
              | refine zs k_Tp_readTests rfl ?_
              | refine ⟨Nat.zero_lt_one, rfl, ?_⟩
              | refine ⟨rfl, ?_⟩
              | refine ⟨⟨Nat.zero_lt_one, rfl⟩, Nat.le_of_ble_eq_true rfl, ?_⟩
              | refine ⟨Nat.le_of_ble_eq_true rfl, Nat.le_of_ble_eq_true rfl, ?_⟩
              | refine ⟨(by first | exact Nat.zero_lt_one | assumption | omega), (by first | assumption | exact vp_in_nI (by omega) (by omega) | (unfold vp_in; decide)), ?_⟩
              | refine ⟨(by first | exact Nat.zero_lt_one | assumption | omega), rfl, ?_⟩
              | refine ⟨⟨(by first | exact Nat.zero_lt_one | assumption | omega), rfl⟩, Nat.le_of_ble_eq_true rfl, ?_⟩
              | refine ⟨(by first | exact Nat.zero_lt_one | assumption | omega), ?_⟩
              | refine ⟨Or.inl rfl, ?_⟩
              | refine ⟨Or.inr (Or.inl rfl), ?_⟩
              | refine ⟨Or.inr (Or.inr rfl), ?_⟩
              | refine ⟨Or.inr ⟨rfl, (by first | exact Or.inl rfl | exact Or.inr rfl | assumption)⟩, ?_⟩
              | refine ⟨fun h => absurd h (by decide), fun _ => ?_⟩
              | refine ⟨fun _ => ?_, fun h => absurd h (by decide)⟩
              | refine ⟨fun h => ?_, fun h => ?_⟩
              | fail)
            all_goals
              intro f i k' h1' h2'
              simp only [cAt, zu]
              grind
      · have hk := gK [] any q (Or.inl ⟨hmore, rfl, rfl, rfl⟩) gq
        rw [cTs, cAt_any g2 g3 gany] at hk
        refine zs k_Tp_readTests rfl ?_
        repeat' (first
          | refine br_f h4 ?_
          | refine c_Tp_hasMore (fun h => absurd (hm.mp h) hmore) (fun _ => ?_)
          | exact hk
          | refine zs k_Tp_readTests rfl ?_
          | refine ⟨Nat.zero_lt_one, rfl, ?_⟩
          | refine ⟨rfl, ?_⟩
          | refine ⟨⟨Nat.zero_lt_one, rfl⟩, Nat.le_of_ble_eq_true rfl, ?_⟩
          | refine ⟨Nat.le_of_ble_eq_true rfl, Nat.le_of_ble_eq_true rfl, ?_⟩
          | refine ⟨(by first | exact Nat.zero_lt_one | assumption | omega), (by first | assumption | exact vp_in_nI (by omega) (by omega) | (unfold vp_in; decide)), ?_⟩
          | refine ⟨(by first | exact Nat.zero_lt_one | assumption | omega), rfl, ?_⟩
          | refine ⟨⟨(by first | exact Nat.zero_lt_one | assumption | omega), rfl⟩, Nat.le_of_ble_eq_true rfl, ?_⟩
          | refine ⟨(by first | exact Nat.zero_lt_one | assumption | omega), ?_⟩
          | refine ⟨Or.inl rfl, ?_⟩
          | refine ⟨Or.inr (Or.inl rfl), ?_⟩
          | refine ⟨Or.inr (Or.inr rfl), ?_⟩
          | refine ⟨Or.inr ⟨rfl, (by first | exact Or.inl rfl | exact Or.inr rfl | assumption)⟩, ?_⟩
          | refine ⟨fun h => absurd h (by decide), fun _ => ?_⟩
          | refine ⟨fun _ => ?_, fun h => absurd h (by decide)⟩
          | refine ⟨fun h => ?_, fun h => ?_⟩
          | fail)
  repeat' (first
    | refine ⟨⟨rfl, (by omega)⟩, Nat.le_of_ble_eq_true rfl, ?_⟩
    | refine L 3 1 _ any q4 _ (by omega) (by omega) rfl hn hA rfl rfl hq4 hany (fun ts any' q' hl hq' => ?_)
    | refine c_Tp_readTest (a := a) (n := n) (q := q3) (j := 0) hr (by omega) rfl hn h200 hA rfl rfl hq3 (fun t q4 e4 hq4 => ?_)
    | refine r_blank (a := a) (n := n) (q := q2) hn h200 hA rfl rfl hq2 (fun q3 e3 hq3 => ?_)
    | refine r_word (a := a) (n := n) (q := q1) (by omega) hn h200 hA rfl rfl hq1 (fun v2 q2 e2 hq2 => ?_)
    | refine r_blank (a := a) (n := n) (q := q) hn h200 hA h2 h3 hq (fun q1 e1 hq1 => ?_)
    | refine zs k_Tp_readTests rfl ?_
    | refine ⟨Nat.zero_lt_one, rfl, ?_⟩
    | refine ⟨rfl, ?_⟩
    | refine ⟨⟨Nat.zero_lt_one, rfl⟩, Nat.le_of_ble_eq_true rfl, ?_⟩
    | refine ⟨Nat.le_of_ble_eq_true rfl, Nat.le_of_ble_eq_true rfl, ?_⟩
    | refine ⟨(by first | exact Nat.zero_lt_one | assumption | omega), (by first | assumption | exact vp_in_nI (by omega) (by omega) | (unfold vp_in; decide)), ?_⟩
    | refine ⟨(by first | exact Nat.zero_lt_one | assumption | omega), rfl, ?_⟩
    | refine ⟨⟨(by first | exact Nat.zero_lt_one | assumption | omega), rfl⟩, Nat.le_of_ble_eq_true rfl, ?_⟩
    | refine ⟨(by first | exact Nat.zero_lt_one | assumption | omega), ?_⟩
    | refine ⟨Or.inl rfl, ?_⟩
    | refine ⟨Or.inr (Or.inl rfl), ?_⟩
    | refine ⟨Or.inr (Or.inr rfl), ?_⟩
    | refine ⟨Or.inr ⟨rfl, (by first | exact Or.inl rfl | exact Or.inr rfl | assumption)⟩, ?_⟩
    | refine ⟨fun h => absurd h (by decide), fun _ => ?_⟩
    | refine ⟨fun _ => ?_, fun h => absurd h (by decide)⟩
    | refine ⟨fun h => ?_, fun h => ?_⟩
    | fail)
  refine zKn (hK v2 q1 q2 q3 q4 t ts any' q' e1 e2 e3 e4 hl hq') ?_
  refine cAt_off (cTs_off ?_)
  intro f i k' h1' h2'
  simp only [cAt, cTe, zu]
  grind
