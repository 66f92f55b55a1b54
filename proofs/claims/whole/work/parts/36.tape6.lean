/-! TAPE: a whole rule; bytes come -/
def qTsR (a : Nat → Int32) (n : Nat) (q : zQ) (ts : List rT) (any : Int32) (q' : zQ) : Prop := (¬ qMore n q ∧ ts = [] ∧ any = 0 ∧ q' = q) ∨ (qMore n q ∧ ∃ v2 q1 q2 q3 q4 t ts', qB a n q = q1 ∧ qW a n q1 4 = (v2, q2) ∧ qB a n q2 = q3 ∧ qTR a n q3 t q4 ∧ qLR a n 3 0 q4 ts' any q' ∧ ts = t :: ts')
def qRR (a : Nat → Int32) (n : Nat) (oc ky dn : Int32) (ts : List rT) (any : Int32) (at_ : Nat) (fl : Int32) : Prop := ∃ q1 q2, qHR a n (0, -1) oc ky dn q1 ∧ qTsR a n q1 ts any q2 ∧ at_ = q2.1 ∧ ((qMore n q2 ∧ fl = nI q2.1) ∨ (¬ qMore n q2 ∧ fl = q2.2))
def cRd (μ : zMu) (r : Nat) (oc ky dn : Int32) (ts : List rT) (any : Int32) : zMu := zu (cTs (cHd (zu μ 8 r 4 0) r oc ky dn) r 0 ts) 8 r 3 any
theorem cTs_keep {r : Nat} {f i k : Nat} (hf : f ≠ 8 ∧ f ≠ 22 ∧ f ≠ 23 ∧ f ≠ 24 ∧ f ≠ 25 ∧ f ≠ 26) : ∀ {ts : List rT} {j : Nat} {μ : zMu}, cTs μ r j ts f i k = μ f i k
  | [], _, _ => rfl
  | t :: ts, j, μ => by
    rw [cTs, cTs_keep hf]
    simp only [cTe, zu]
    grind
theorem zOff_rd {μ : zMu} {r : Nat} {oc ky dn : Int32} {q1 : zQ} : zOff r (cAt (cHd (zu (zu (zu (zu μ 2 0 2 0) 2 0 3 (-1)) 8 r 4 0) 8 r 3 0) r oc ky dn) q1) (cHd (zu μ 8 r 4 0) r oc ky dn) := by
  intro f i k h1 h2
  simp only [cAt, cHd, zu]
  grind (splits := 40)
theorem cAt_cAt {μ : zMu} {q q' : zQ} : cAt (cAt μ q) q' = cAt μ q' := by
  funext f i k
  simp only [cAt, zu]
  grind
set_option maxHeartbeats 8000000 in
theorem c_Tp_readInto {d n r : Nat} {μ : zMu} {a : Nat → Int32} {K : Option zV → zMu → Prop} (hr : r < 16) (hn : μ 2 0 0 = nI n) (h200 : n ≤ 200) (hA : μ 18 0 = a)
    (hK : ∀ (oc ky dn : Int32) (ts : List rT) (any : Int32) (at_ : Nat) (fl : Int32), qRR a n oc ky dn ts any at_ fl → K (some (zI fl)) (cAt (cRd μ r oc ky dn ts any) (at_, fl))) : Ct (d + 7) m_Tp_readInto [zR 2 0, zR 8 r] μ K := by
  refine zmeet rfl (Nat.le_of_ble_eq_true rfl) (fun S => ?_)
  have fin : ∀ (oc ky dn : Int32) (ts : List rT) (any : Int32) (q1 q2 : zQ) (μ1 : zMu), qHR a n (0, -1) oc ky dn q1 → qTsR a n q1 ts any q2 → q2.1 ≤ n → μ1 2 0 0 = nI n → μ1 = cAt (cRd μ r oc ky dn ts any) q2 → zG S (d + 7) m_Tp_readInto K 37 [some (zR 2 0), some (zR 8 r)] [] μ1 := by
    intro oc ky dn ts any q1 q2 μ1 e1 e2 hq2 kn hm
    have k2 : μ1 2 0 2 = nI q2.1 := by rw [hm]; rfl
    have k3 : μ1 2 0 3 = q2.2 := by rw [hm]; rfl
    have hmi := qMore_iff kn h200 k2 k3 hq2
    by_cases hmore : qMore n q2
    · have hk := hK oc ky dn ts any q2.1 (nI q2.1) ⟨q1, q2, e1, e2, rfl, Or.inl ⟨hmore, rfl⟩⟩
      have hf : μ1 2 0 3 = -1 := k3.trans hmore.1
      have hmu : zu μ1 2 0 3 (μ1 2 0 2) = cAt (cRd μ r oc ky dn ts any) (q2.1, nI q2.1) := by
        rw [k2, hm]
        funext f i k
        simp only [cAt, zu]
        grind
      repeat' (first
        | refine c_Tp_hasMore (fun _ => ?_) (fun h => absurd (hmi.mpr hmore) h)
        | (refine c_Tp_fail ?_; rw [if_pos hf, hmu])
        | exact hk
        | refine zs k_Tp_readInto rfl ?_
        | refine ⟨Nat.zero_lt_one, rfl, ?_⟩
        | refine ⟨rfl, ?_⟩
        | refine ⟨⟨Nat.zero_lt_one, rfl⟩, Nat.le_of_ble_eq_true rfl, ?_⟩
        | refine ⟨Nat.le_of_ble_eq_true rfl, Nat.le_of_ble_eq_true rfl, ?_⟩
        | refine ⟨(by first | exact Nat.zero_lt_one | assumption | omega), (by first | assumption | exact vp_in_nI (by omega) (by omega) | (unfold vp_in; decide)), ?_⟩
        | refine ⟨(by first | exact Nat.zero_lt_one | assumption | omega), rfl, ?_⟩
        | refine ⟨⟨(by first | exact Nat.zero_lt_one | assumption | omega), rfl⟩, Nat.le_of_ble_eq_true rfl, ?_⟩
        | refine ⟨(by first | exact Nat.zero_lt_one | assumption | omega), ?_⟩
        | refine ⟨Or.inl rfl, ?_⟩
        | refine ⟨Or.inr (Or.inl rfl), ?_⟩
        | refine ⟨Or.inr (Or.inr rfl), ?_⟩
        | refine ⟨Or.inr ⟨rfl, (by first | exact Or.inl rfl | exact Or.inr rfl | assumption)⟩, ?_⟩
        | refine ⟨fun h => absurd h (by decide), fun _ => ?_⟩
        | refine ⟨fun _ => ?_, fun h => absurd h (by decide)⟩
        | refine ⟨fun h => ?_, fun h => ?_⟩
        | fail)
    · have hk := hK oc ky dn ts any q2.1 q2.2 ⟨q1, q2, e1, e2, rfl, Or.inr ⟨hmore, rfl⟩⟩
      repeat' (first
        | refine c_Tp_hasMore (fun h => absurd (hmi.mp h) hmore) (fun _ => ?_)
        | exact zKe hk k3 hm
        | refine zs k_Tp_readInto rfl ?_
        | refine ⟨Nat.zero_lt_one, rfl, ?_⟩
        | refine ⟨rfl, ?_⟩
        | refine ⟨⟨Nat.zero_lt_one, rfl⟩, Nat.le_of_ble_eq_true rfl, ?_⟩
        | refine ⟨Nat.le_of_ble_eq_true rfl, Nat.le_of_ble_eq_true rfl, ?_⟩
        | refine ⟨(by first | exact Nat.zero_lt_one | assumption | omega), (by first | assumption | exact vp_in_nI (by omega) (by omega) | (unfold vp_in; decide)), ?_⟩
        | refine ⟨(by first | exact Nat.zero_lt_one | assumption | omega), rfl, ?_⟩
        | refine ⟨⟨(by first | exact Nat.zero_lt_one | assumption | omega), rfl⟩, Nat.le_of_ble_eq_true rfl, ?_⟩
        | refine ⟨(by first | exact Nat.zero_lt_one | assumption | omega), ?_⟩
        | refine ⟨Or.inl rfl, ?_⟩
        | refine ⟨Or.inr (Or.inl rfl), ?_⟩
        | refine ⟨Or.inr (Or.inr rfl), ?_⟩
        | refine ⟨Or.inr ⟨rfl, (by first | exact Or.inl rfl | exact Or.inr rfl | assumption)⟩, ?_⟩
        | refine ⟨fun h => absurd h (by decide), fun _ => ?_⟩
        | refine ⟨fun _ => ?_, fun h => absurd h (by decide)⟩
        | refine ⟨fun h => ?_, fun h => ?_⟩
        | fail)
  repeat' (first
    | refine fin oc ky dn (t :: ts) any' q1 q' _ e1 (Or.inr ⟨(qMore_iff (μ := cAt (cHd (zu (zu (zu (zu μ 2 0 2 0) 2 0 3 (-1)) 8 r 4 0) 8 r 3 0) r oc ky dn) q1) (q := q1) hn h200 rfl rfl hq1).mp h, v2, p1, p2, p3, p4, t, ts, f1, f2, f3, f4, f5, rfl⟩) hq' ?_ ?_
    | refine fin oc ky dn [] 0 q1 q1 _ e1 (Or.inl ⟨fun hh => h ((qMore_iff (μ := cAt (cHd (zu (zu (zu (zu μ 2 0 2 0) 2 0 3 (-1)) 8 r 4 0) 8 r 3 0) r oc ky dn) q1) (q := q1) hn h200 rfl rfl hq1).mpr hh), rfl, rfl, rfl⟩) hq1 hn ?_
    | refine c_Tp_readHead (a := a) (n := n) (q := (0, -1)) hr hn h200 hA rfl rfl (Nat.zero_le n) (fun oc ky dn q1 e1 hq1 => ?_)
    | refine c_Tp_hasMore (fun h => ?_) (fun h => ?_)
    | refine c_Tp_readTests (a := a) (n := n) (q := q1) (any := 0) hr hn h200 hA rfl rfl hq1 zu_eq (fun v2 p1 p2 p3 p4 t ts any' q' f1 f2 f3 f4 f5 hq' => ?_)
    | refine zs k_Tp_readInto rfl ?_
    | refine ⟨Nat.zero_lt_one, rfl, ?_⟩
    | refine ⟨rfl, ?_⟩
    | refine ⟨⟨Nat.zero_lt_one, rfl⟩, Nat.le_of_ble_eq_true rfl, ?_⟩
    | refine ⟨Nat.le_of_ble_eq_true rfl, Nat.le_of_ble_eq_true rfl, ?_⟩
    | refine ⟨(by first | exact Nat.zero_lt_one | assumption | omega), (by first | assumption | exact vp_in_nI (by omega) (by omega) | (unfold vp_in; decide)), ?_⟩
    | refine ⟨(by first | exact Nat.zero_lt_one | assumption | omega), rfl, ?_⟩
    | refine ⟨⟨(by first | exact Nat.zero_lt_one | assumption | omega), rfl⟩, Nat.le_of_ble_eq_true rfl, ?_⟩
    | refine ⟨(by first | exact Nat.zero_lt_one | assumption | omega), ?_⟩
    | refine ⟨Or.inl rfl, ?_⟩
    | refine ⟨Or.inr (Or.inl rfl), ?_⟩
    | refine ⟨Or.inr (Or.inr rfl), ?_⟩
    | refine ⟨Or.inr ⟨rfl, (by first | exact Or.inl rfl | exact Or.inr rfl | assumption)⟩, ?_⟩
    | refine ⟨fun h => absurd h (by decide), fun _ => ?_⟩
    | refine ⟨fun _ => ?_, fun h => absurd h (by decide)⟩
    | refine ⟨fun h => ?_, fun h => ?_⟩
    | fail)
  · show cTs _ r 0 (t :: ts) 2 0 0 = nI n
    rw [cTs_keep (by decide)]
    exact hn
  · exact cAt_off (cTs_off zOff_rd)
  · simp only [cRd, cTs]
    funext f i k
    simp only [cAt, cHd, zu]
    grind
/-- bytes behind the tape's: from the w's higher ones on -/
def pFeed (w : Int64) (i : Nat) : Int32 := (w.toUInt64 >>> ((8 * nI i).toInt64.toUInt64 &&& Int64.toUInt64 63)).toInt64.toInt32 &&& 255
def cFed (μ : zMu) (n0 m : Nat) (w : Int64) (i : Nat) : zMu := fun f a b => if f = 18 ∧ a = 0 ∧ n0 ≤ b ∧ b < n0 + (m - i) then pFeed w (m - 1 - (b - n0)) else if f = 2 ∧ a = 0 ∧ b = 0 then nI (n0 + (m - i)) else μ f a b
theorem c_Tp_append {d n0 m : Nat} {μ : zMu} {w : Int64} {x : Int32} {K : Option zV → zMu → Prop} (hx : x = nI m) (hn : μ 2 0 0 = nI n0) (hm : n0 + m ≤ 200) (hK : K (some (zI (nI (n0 + m)))) (cFed μ n0 m w 0)) : Ct d m_Tp_append [zR 2 0, zL w, zI x] μ K := by
  subst hx
  refine zmeet rfl (Nat.le_of_ble_eq_true rfl) (fun S => ?_)
  have L : ∀ (i : Nat) (v : Int32) (μ1 : zMu), i ≤ m → v = nI i - 1 → μ1 = cFed μ n0 m w i → zG S d m_Tp_append K 5 [some (zR 2 0), some (zL w), none, some (zI (nI m)), some (zI v)] [] μ1 := by
    intro i
    induction i with
    | zero =>
      intro v μ1 hi hv h1
      subst hv h1
      refine zs k_Tp_append rfl ?_
      repeat' (first
        | refine br_t (by decide) ?_
        | refine zKe hK ?_ rfl
        | refine zs k_Tp_append rfl ?_
        | refine ⟨Nat.zero_lt_one, rfl, ?_⟩
        | refine ⟨rfl, ?_⟩
        | refine ⟨⟨Nat.zero_lt_one, rfl⟩, Nat.le_of_ble_eq_true rfl, ?_⟩
        | refine ⟨Nat.le_of_ble_eq_true rfl, Nat.le_of_ble_eq_true rfl, ?_⟩
        | refine ⟨(by first | exact Nat.zero_lt_one | assumption | omega), (by first | assumption | exact vp_in_nI (by omega) (by omega) | (unfold vp_in; decide)), ?_⟩
        | refine ⟨(by first | exact Nat.zero_lt_one | assumption | omega), rfl, ?_⟩
        | refine ⟨⟨(by first | exact Nat.zero_lt_one | assumption | omega), rfl⟩, Nat.le_of_ble_eq_true rfl, ?_⟩
        | refine ⟨(by first | exact Nat.zero_lt_one | assumption | omega), ?_⟩
        | refine ⟨Or.inl rfl, ?_⟩
        | refine ⟨Or.inr (Or.inl rfl), ?_⟩
        | refine ⟨Or.inr (Or.inr rfl), ?_⟩
        | refine ⟨Or.inr ⟨rfl, (by first | exact Or.inl rfl | exact Or.inr rfl | assumption)⟩, ?_⟩
        | refine ⟨fun h => absurd h (by decide), fun _ => ?_⟩
        | refine ⟨fun _ => ?_, fun h => absurd h (by decide)⟩
        | refine ⟨fun h => ?_, fun h => ?_⟩
        | fail)
      show (if (2 = 18 ∧ _) then _ else if (2 = 2 ∧ 0 = 0 ∧ 0 = 0) then nI (n0 + (m - 0)) else _) = _
      rw [if_neg (by omega), if_pos (by omega)]
      rfl
    | succ i ih =>
      intro v μ1 hi hv h1
      subst hv
      rw [nI_pred]
      have hl : μ1 2 0 0 = nI (n0 + (m - (i + 1))) := by
        rw [h1]
        show (if (2 = 18 ∧ _) then _ else if (2 = 2 ∧ 0 = 0 ∧ 0 = 0) then nI (n0 + (m - (i + 1))) else _) = _
        rw [if_neg (by omega), if_pos (by omega)]
      have hvp : vp_in (μ1 2 0 0) 200 := by rw [hl]; exact vp_in_nI (by omega) (by omega)
      have hcl : (μ1 2 0 0).toNatClampNeg = n0 + (m - (i + 1)) := by rw [hl]; exact nI_clamp (by omega)
      refine zs k_Tp_append rfl ?_
      repeat' (first
        | refine br_f (nI_pos (by omega)) ?_
        | refine ih _ _ (by omega) (by exact i32_m1 _) ?_
        | refine zs k_Tp_append rfl ?_
        | refine ⟨Nat.zero_lt_one, rfl, ?_⟩
        | refine ⟨rfl, ?_⟩
        | refine ⟨⟨Nat.zero_lt_one, rfl⟩, Nat.le_of_ble_eq_true rfl, ?_⟩
        | refine ⟨Nat.le_of_ble_eq_true rfl, Nat.le_of_ble_eq_true rfl, ?_⟩
        | refine ⟨(by first | exact Nat.zero_lt_one | assumption | omega), (by first | assumption | exact vp_in_nI (by omega) (by omega) | (unfold vp_in; decide)), ?_⟩
        | refine ⟨(by first | exact Nat.zero_lt_one | assumption | omega), rfl, ?_⟩
        | refine ⟨⟨(by first | exact Nat.zero_lt_one | assumption | omega), rfl⟩, Nat.le_of_ble_eq_true rfl, ?_⟩
        | refine ⟨(by first | exact Nat.zero_lt_one | assumption | omega), ?_⟩
        | refine ⟨Or.inl rfl, ?_⟩
        | refine ⟨Or.inr (Or.inl rfl), ?_⟩
        | refine ⟨Or.inr (Or.inr rfl), ?_⟩
        | refine ⟨Or.inr ⟨rfl, (by first | exact Or.inl rfl | exact Or.inr rfl | assumption)⟩, ?_⟩
        | refine ⟨fun h => absurd h (by decide), fun _ => ?_⟩
        | refine ⟨fun _ => ?_, fun h => absurd h (by decide)⟩
        | refine ⟨fun h => ?_, fun h => ?_⟩
        | fail)
      rw [hcl]
      have e1 : zu μ1 18 0 (n0 + (m - (i + 1))) (pFeed w i) 2 0 0 = nI (n0 + (m - (i + 1))) := hl
      show zu (zu μ1 18 0 (n0 + (m - (i + 1))) (pFeed w i)) 2 0 0 (zu μ1 18 0 (n0 + (m - (i + 1))) (pFeed w i) 2 0 0 + 1) = _
      rw [e1, nI_1, h1]
      funext f a b
      simp only [cFed, zu]
      have e2 : n0 + (m - (i + 1)) + 1 = n0 + (m - i) := by omega
      rw [e2]
      by_cases hb : f = 18 ∧ b = n0 + (m - (i + 1)) ∧ a = 0
      · obtain ⟨rfl, rfl, rfl⟩ := hb
        rw [if_neg (by omega), if_pos (by omega), if_pos (by omega)]
        congr 1
        omega
      · by_cases hb2 : f = 2 ∧ b = 0 ∧ a = 0
        · obtain ⟨rfl, rfl, rfl⟩ := hb2
          rw [if_pos (by omega), if_neg (by omega), if_pos (by omega)]
        · rw [if_neg hb2, if_neg hb]
          by_cases h3 : f = 18 ∧ a = 0 ∧ n0 ≤ b ∧ b < n0 + (m - (i + 1))
          · rw [if_pos h3, if_pos (by omega)]
          · rw [if_neg h3, if_neg (by omega), if_neg (by omega), if_neg (by omega)]
  repeat' (first
    | refine L m _ _ (Nat.le_refl m) rfl ?_
    | refine zs k_Tp_append rfl ?_
    | refine ⟨Nat.zero_lt_one, rfl, ?_⟩
    | refine ⟨rfl, ?_⟩
    | refine ⟨⟨Nat.zero_lt_one, rfl⟩, Nat.le_of_ble_eq_true rfl, ?_⟩
    | refine ⟨Nat.le_of_ble_eq_true rfl, Nat.le_of_ble_eq_true rfl, ?_⟩
    | refine ⟨(by first | exact Nat.zero_lt_one | assumption | omega), (by first | assumption | exact vp_in_nI (by omega) (by omega) | (unfold vp_in; decide)), ?_⟩
    | refine ⟨(by first | exact Nat.zero_lt_one | assumption | omega), rfl, ?_⟩
    | refine ⟨⟨(by first | exact Nat.zero_lt_one | assumption | omega), rfl⟩, Nat.le_of_ble_eq_true rfl, ?_⟩
    | refine ⟨(by first | exact Nat.zero_lt_one | assumption | omega), ?_⟩
    | refine ⟨Or.inl rfl, ?_⟩
    | refine ⟨Or.inr (Or.inl rfl), ?_⟩
    | refine ⟨Or.inr (Or.inr rfl), ?_⟩
    | refine ⟨Or.inr ⟨rfl, (by first | exact Or.inl rfl | exact Or.inr rfl | assumption)⟩, ?_⟩
    | refine ⟨fun h => absurd h (by decide), fun _ => ?_⟩
    | refine ⟨fun _ => ?_, fun h => absurd h (by decide)⟩
    | refine ⟨fun h => ?_, fun h => ?_⟩
    | fail)
  funext f a b
  simp only [cFed]
  grind
