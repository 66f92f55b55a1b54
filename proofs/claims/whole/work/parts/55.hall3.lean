/-! HALL: a seat's price and peace -/
def hTk (μ : zMu) (p q : Int32) : Int32 := if p = -1 ∨ q = -1 then 0 else μ 38 (μ 17 p.toNatClampNeg 6).toNatClampNeg (μ 17 q.toNatClampNeg 6).toNatClampNeg
def hFd (μ : zMu) (p q : Int32) : Prop := ¬ p = -1 ∧ ¬ q = -1 ∧ μ 36 (μ 17 p.toNatClampNeg 5).toNatClampNeg (μ 17 q.toNatClampNeg 5).toNatClampNeg = 1
/-- who may sit: nobody, or a person with tongue and home -/
def hOk (μ : zMu) (p : Int32) : Prop := p = -1 ∨ (vp_in p 20 ∧ vp_in (μ 17 p.toNatClampNeg 6) 8 ∧ vp_in (μ 17 p.toNatClampNeg 5) 10)
def hPr (μ : zMu) (r : Nat → Int32) (rd : Int32) (n k : Nat) : Int32 := if r k = -1 then 0 else pAbs (μ 39 0 (r k).toNatClampNeg - nI k) + hTk μ (r k) (jAt r (jBe k)) + hTk μ (r k) (jAt r (jAr rd n k))
def hPe (μ : zMu) (r : Nat → Int32) (rd : Int32) (n k : Nat) : Prop := ¬ hFd μ (r k) (jAt r (jBe k)) ∧ ¬ hFd μ (r k) (jAt r (jAr rd n k)) ∧ ¬ hFd μ (r k) (jAt r (jFa rd n k))
theorem n_talkCost {d : Nat} {μ : zMu} {p q : Int32} {K : Option zV → zMu → Prop} (hp : hOk μ p) (hq : hOk μ q) (hK : K (some (zI (hTk μ p q))) μ) : Ct (d + 1) m_Ha_talkCost [zR 5 0, zI p, zI q] μ K :=
  c_Ha_talkCost (hp.elim Or.inl (fun h => Or.inr h.1)) (hq.elim Or.inl (fun h => Or.inr h.1)) (fun h => (hp.resolve_left h).2.1) (fun h => (hq.resolve_left h).2.1) hK
theorem n_areFeuding {d : Nat} {μ : zMu} {p q : Int32} {K : Option zV → zMu → Prop} (hp : hOk μ p) (hq : hOk μ q) (h1 : hFd μ p q → K (some (zI 1)) μ) (h0 : ¬ hFd μ p q → K (some (zI 0)) μ) : Ct (d + 1) m_Ha_areFeuding [zR 5 0, zI p, zI q] μ K :=
  c_Ha_areFeuding (hp.elim Or.inl (fun h => Or.inr h.1)) (hq.elim Or.inl (fun h => Or.inr h.1)) (fun h => (hp.resolve_left h).2.2) (fun h => (hq.resolve_left h).2.2) h1 h0
theorem n_abs {d : Nat} {μ : zMu} {x : Int32} {K : Option zV → zMu → Prop} (hK : K (some (zI (pAbs x))) μ) : Ct d m_Jmath_abs [zI x] μ K := c_Jmath_abs hK
theorem jAt_ok {μ : zMu} {r : Nat → Int32} {k : Nat} (hs : ∀ j, j ≤ k → hOk μ (r j)) {x : Int32} (hx : x = -1 ∨ ∃ j, j ≤ k ∧ j < 20 ∧ x = nI j) : hOk μ (jAt r x) := by
  unfold jAt
  rcases hx with h | ⟨j, hj, h20, rfl⟩
  · rw [if_pos h]
    exact Or.inl rfl
  · rw [if_neg (nI_nem1 (by omega)), nI_clamp (by omega)]
    exact hs j hj
theorem jBe_ok {k : Nat} (h : k < 12) : jBe k = -1 ∨ ∃ j, j ≤ k ∧ j < 20 ∧ jBe k = nI j := by
  unfold jBe
  split
  · exact Or.inl rfl
  · exact Or.inr ⟨k - 1, by omega, by omega, rfl⟩
theorem jAr_ok {rd : Int32} {n k : Nat} : jAr rd n k = -1 ∨ ∃ j, j ≤ k ∧ j < 20 ∧ jAr rd n k = nI j := by
  unfold jAr
  split
  · exact Or.inr ⟨0, by omega, by omega, rfl⟩
  · exact Or.inl rfl
theorem jFa_ok {rd : Int32} {n k : Nat} (h : k < 12) : jFa rd n k = -1 ∨ ∃ j, j ≤ k ∧ j < 20 ∧ jFa rd n k = nI j := by
  unfold jFa
  split
  · exact Or.inr ⟨n - 1 - k, by omega, by omega, rfl⟩
  · exact Or.inl rfl
theorem c_Ha_priceAt_40 {d t n k : Nat} {μ : zMu} {K : Option zV → zMu → Prop} (ht : t < 4) (hn : μ 9 t 0 = nI n) (h12 : n ≤ 12) (hk : k < n) (hs : ∀ j, j ≤ k → hOk μ (μ 40 t j)) (hK : K (some (zI (hPr μ (μ 40 t) (μ 9 t 2) n k))) μ) : Ct (d + 2) m_Ha_priceAt [zR 5 0, zR 9 t, zR 40 t, zI (nI k)] μ K := by
  refine zmeet rfl (Nat.le_of_ble_eq_true rfl) (fun S => ?_)
  have hc : (nI k).toNatClampNeg = k := nI_clamp (by omega)
  have hs0 : hOk μ (μ 40 t (nI k).toNatClampNeg) := by rw [hc]; exact hs k (Nat.le_refl k)
  have hs1 : hOk μ (jAt (μ 40 t) (jBe k)) := jAt_ok hs (jBe_ok (by omega))
  have hs2 : hOk μ (jAt (μ 40 t) (jAr (μ 9 t 2) n k)) := jAt_ok hs jAr_ok
  unfold hPr at hK
  by_cases h1 : μ 40 t (nI k).toNatClampNeg = -1
  · rw [if_pos (by rw [← hc]; exact h1)] at hK
    repeat' (first
      | refine ⟨fun h => absurd h1 h, fun _ => ?_⟩
      | exact hK
      | refine zs k_Ha_priceAt rfl ?_
      | refine ⟨Nat.zero_lt_one, rfl, ?_⟩
      | refine ⟨rfl, ?_⟩
      | refine ⟨⟨Nat.zero_lt_one, rfl⟩, Nat.le_of_ble_eq_true rfl, ?_⟩
      | refine ⟨Nat.le_of_ble_eq_true rfl, Nat.le_of_ble_eq_true rfl, ?_⟩
      | refine ⟨(by first | exact Nat.zero_lt_one | assumption | omega), (by first | assumption | exact vp_in_nI (by omega) (by omega) | (unfold vp_in; decide)), ?_⟩
      | refine ⟨(by first | exact Nat.zero_lt_one | assumption | omega), rfl, ?_⟩
      | refine ⟨⟨(by first | exact Nat.zero_lt_one | assumption | omega), rfl⟩, Nat.le_of_ble_eq_true rfl, ?_⟩
      | refine ⟨(by first | exact Nat.zero_lt_one | assumption | omega), ?_⟩
      | refine ⟨Or.inl rfl, ?_⟩
      | refine ⟨Or.inr (Or.inl rfl), ?_⟩
      | refine ⟨Or.inr (Or.inr rfl), ?_⟩
      | refine ⟨Or.inr ⟨rfl, (by first | exact Or.inl rfl | exact Or.inr rfl | assumption)⟩, ?_⟩
      | refine ⟨fun h => absurd h (by decide), fun _ => ?_⟩
      | refine ⟨fun _ => ?_, fun h => absurd h (by decide)⟩
      | refine ⟨fun h => ?_, fun h => ?_⟩
      | fail)
  · rw [if_neg (by rw [← hc]; exact h1)] at hK
    have hp0 : vp_in (μ 40 t (nI k).toNatClampNeg) 20 := (hs0.resolve_left h1).1
    repeat' (first
      | refine ⟨fun _ => ?_, fun h => absurd h h1⟩
      | refine n_abs ?_
      | refine n_lowerBeside (by omega) ?_
      | refine n_lowerAround ht hn h12 hk ?_
      | refine c_Ha_sitterAt_40 (t := t) ht (jBe_in (by omega)) ?_
      | refine c_Ha_sitterAt_40 (t := t) ht jAr_in ?_
      | refine n_talkCost hs0 hs1 ?_
      | refine n_talkCost hs0 hs2 ?_
      | exact zKe hK (by rw [hc]; rfl) rfl
      | refine zs k_Ha_priceAt rfl ?_
      | refine ⟨Nat.zero_lt_one, rfl, ?_⟩
      | refine ⟨rfl, ?_⟩
      | refine ⟨⟨Nat.zero_lt_one, rfl⟩, Nat.le_of_ble_eq_true rfl, ?_⟩
      | refine ⟨Nat.le_of_ble_eq_true rfl, Nat.le_of_ble_eq_true rfl, ?_⟩
      | refine ⟨(by first | exact Nat.zero_lt_one | assumption | omega), (by first | assumption | exact vp_in_nI (by omega) (by omega) | (unfold vp_in; decide)), ?_⟩
      | refine ⟨(by first | exact Nat.zero_lt_one | assumption | omega), rfl, ?_⟩
      | refine ⟨⟨(by first | exact Nat.zero_lt_one | assumption | omega), rfl⟩, Nat.le_of_ble_eq_true rfl, ?_⟩
      | refine ⟨(by first | exact Nat.zero_lt_one | assumption | omega), ?_⟩
      | refine ⟨Or.inl rfl, ?_⟩
      | refine ⟨Or.inr (Or.inl rfl), ?_⟩
      | refine ⟨Or.inr (Or.inr rfl), ?_⟩
      | refine ⟨Or.inr ⟨rfl, (by first | exact Or.inl rfl | exact Or.inr rfl | assumption)⟩, ?_⟩
      | refine ⟨fun h => absurd h (by decide), fun _ => ?_⟩
      | refine ⟨fun _ => ?_, fun h => absurd h (by decide)⟩
      | refine ⟨fun h => ?_, fun h => ?_⟩
      | fail)
set_option maxHeartbeats 1000000 in
theorem c_Ha_isPeacefulAt_40 {d t n k : Nat} {μ : zMu} {K : Option zV → zMu → Prop} (ht : t < 4) (hn : μ 9 t 0 = nI n) (h12 : n ≤ 12) (hk : k < n) (hs : ∀ j, j ≤ k → hOk μ (μ 40 t j)) (h1 : hPe μ (μ 40 t) (μ 9 t 2) n k → K (some (zI 1)) μ) (h0 : ¬ hPe μ (μ 40 t) (μ 9 t 2) n k → K (some (zI 0)) μ) : Ct (d + 2) m_Ha_isPeacefulAt [zR 5 0, zR 9 t, zR 40 t, zI (nI k)] μ K := by
  refine zmeet rfl (Nat.le_of_ble_eq_true rfl) (fun S => ?_)
  have hc : (nI k).toNatClampNeg = k := nI_clamp (by omega)
  have hs0 : hOk μ (μ 40 t (nI k).toNatClampNeg) := by rw [hc]; exact hs k (Nat.le_refl k)
  have hs1 : hOk μ (jAt (μ 40 t) (jBe k)) := jAt_ok hs (jBe_ok (by omega))
  have hs2 : hOk μ (jAt (μ 40 t) (jAr (μ 9 t 2) n k)) := jAt_ok hs jAr_ok
  have hs3 : hOk μ (jAt (μ 40 t) (jFa (μ 9 t 2) n k)) := jAt_ok hs (jFa_ok (by omega))
  unfold hPe at h1 h0
  have e : μ 40 t (nI k).toNatClampNeg = μ 40 t k := by rw [hc]
  repeat' (first
    | refine n_lowerBeside (by omega) ?_
    | refine n_lowerAround ht hn h12 hk ?_
    | refine n_lowerFacing ht hn h12 hk ?_
    | refine c_Ha_sitterAt_40 (t := t) ht (jBe_in (by omega)) ?_
    | refine c_Ha_sitterAt_40 (t := t) ht jAr_in ?_
    | refine c_Ha_sitterAt_40 (t := t) ht (jFa_in (by omega)) ?_
    | refine n_areFeuding hs0 hs1 (fun hf1 => ?_) (fun hf1 => ?_)
    | refine n_areFeuding hs0 hs2 (fun hf2 => ?_) (fun hf2 => ?_)
    | refine n_areFeuding hs0 hs3 (fun hf3 => ?_) (fun hf3 => ?_)
    | exact h1 (by rw [← e]; exact ⟨hf1, hf2, hf3⟩)
    | exact h0 (by rw [← e]; exact fun h => h.1 hf1)
    | exact h0 (by rw [← e]; exact fun h => h.2.1 hf2)
    | exact h0 (by rw [← e]; exact fun h => h.2.2 hf3)
    | refine zs k_Ha_isPeacefulAt rfl ?_
    | refine ⟨Nat.zero_lt_one, rfl, ?_⟩
    | refine ⟨rfl, ?_⟩
    | refine ⟨⟨Nat.zero_lt_one, rfl⟩, Nat.le_of_ble_eq_true rfl, ?_⟩
    | refine ⟨Nat.le_of_ble_eq_true rfl, Nat.le_of_ble_eq_true rfl, ?_⟩
    | refine ⟨(by first | exact Nat.zero_lt_one | assumption | omega), (by first | assumption | exact vp_in_nI (by omega) (by omega) | (unfold vp_in; decide)), ?_⟩
    | refine ⟨(by first | exact Nat.zero_lt_one | assumption | omega), rfl, ?_⟩
    | refine ⟨⟨(by first | exact Nat.zero_lt_one | assumption | omega), rfl⟩, Nat.le_of_ble_eq_true rfl, ?_⟩
    | refine ⟨(by first | exact Nat.zero_lt_one | assumption | omega), ?_⟩
    | refine ⟨Or.inl rfl, ?_⟩
    | refine ⟨Or.inr (Or.inl rfl), ?_⟩
    | refine ⟨Or.inr (Or.inr rfl), ?_⟩
    | refine ⟨Or.inr ⟨rfl, (by first | exact Or.inl rfl | exact Or.inr rfl | assumption)⟩, ?_⟩
    | refine ⟨fun h => absurd h (by decide), fun _ => ?_⟩
    | refine ⟨fun _ => ?_, fun h => absurd h (by decide)⟩
    | refine ⟨fun h => ?_, fun h => ?_⟩
    | fail)
theorem c_Ha_priceAt_43 {d t n k : Nat} {μ : zMu} {K : Option zV → zMu → Prop} (ht : t < 4) (hn : μ 9 t 0 = nI n) (h12 : n ≤ 12) (hk : k < n) (hs : ∀ j, j ≤ k → hOk μ (μ 43 0 j)) (hK : K (some (zI (hPr μ (μ 43 0) (μ 9 t 2) n k))) μ) : Ct (d + 2) m_Ha_priceAt [zR 5 0, zR 9 t, zR 43 0, zI (nI k)] μ K := by
  refine zmeet rfl (Nat.le_of_ble_eq_true rfl) (fun S => ?_)
  have hc : (nI k).toNatClampNeg = k := nI_clamp (by omega)
  have hs0 : hOk μ (μ 43 0 (nI k).toNatClampNeg) := by rw [hc]; exact hs k (Nat.le_refl k)
  have hs1 : hOk μ (jAt (μ 43 0) (jBe k)) := jAt_ok hs (jBe_ok (by omega))
  have hs2 : hOk μ (jAt (μ 43 0) (jAr (μ 9 t 2) n k)) := jAt_ok hs jAr_ok
  unfold hPr at hK
  by_cases h1 : μ 43 0 (nI k).toNatClampNeg = -1
  · rw [if_pos (by rw [← hc]; exact h1)] at hK
    repeat' (first
      | refine ⟨fun h => absurd h1 h, fun _ => ?_⟩
      | exact hK
      | refine zs k_Ha_priceAt rfl ?_
      | refine ⟨Nat.zero_lt_one, rfl, ?_⟩
      | refine ⟨rfl, ?_⟩
      | refine ⟨⟨Nat.zero_lt_one, rfl⟩, Nat.le_of_ble_eq_true rfl, ?_⟩
      | refine ⟨Nat.le_of_ble_eq_true rfl, Nat.le_of_ble_eq_true rfl, ?_⟩
      | refine ⟨(by first | exact Nat.zero_lt_one | assumption | omega), (by first | assumption | exact vp_in_nI (by omega) (by omega) | (unfold vp_in; decide)), ?_⟩
      | refine ⟨(by first | exact Nat.zero_lt_one | assumption | omega), rfl, ?_⟩
      | refine ⟨⟨(by first | exact Nat.zero_lt_one | assumption | omega), rfl⟩, Nat.le_of_ble_eq_true rfl, ?_⟩
      | refine ⟨(by first | exact Nat.zero_lt_one | assumption | omega), ?_⟩
      | refine ⟨Or.inl rfl, ?_⟩
      | refine ⟨Or.inr (Or.inl rfl), ?_⟩
      | refine ⟨Or.inr (Or.inr rfl), ?_⟩
      | refine ⟨Or.inr ⟨rfl, (by first | exact Or.inl rfl | exact Or.inr rfl | assumption)⟩, ?_⟩
      | refine ⟨fun h => absurd h (by decide), fun _ => ?_⟩
      | refine ⟨fun _ => ?_, fun h => absurd h (by decide)⟩
      | refine ⟨fun h => ?_, fun h => ?_⟩
      | fail)
  · rw [if_neg (by rw [← hc]; exact h1)] at hK
    have hp0 : vp_in (μ 43 0 (nI k).toNatClampNeg) 20 := (hs0.resolve_left h1).1
    repeat' (first
      | refine ⟨fun _ => ?_, fun h => absurd h h1⟩
      | refine n_abs ?_
      | refine n_lowerBeside (by omega) ?_
      | refine n_lowerAround ht hn h12 hk ?_
      | refine c_Ha_sitterAt_43 (t := t)  (jBe_in (by omega)) ?_
      | refine c_Ha_sitterAt_43 (t := t)  jAr_in ?_
      | refine n_talkCost hs0 hs1 ?_
      | refine n_talkCost hs0 hs2 ?_
      | exact zKe hK (by rw [hc]; rfl) rfl
      | refine zs k_Ha_priceAt rfl ?_
      | refine ⟨Nat.zero_lt_one, rfl, ?_⟩
      | refine ⟨rfl, ?_⟩
      | refine ⟨⟨Nat.zero_lt_one, rfl⟩, Nat.le_of_ble_eq_true rfl, ?_⟩
      | refine ⟨Nat.le_of_ble_eq_true rfl, Nat.le_of_ble_eq_true rfl, ?_⟩
      | refine ⟨(by first | exact Nat.zero_lt_one | assumption | omega), (by first | assumption | exact vp_in_nI (by omega) (by omega) | (unfold vp_in; decide)), ?_⟩
      | refine ⟨(by first | exact Nat.zero_lt_one | assumption | omega), rfl, ?_⟩
      | refine ⟨⟨(by first | exact Nat.zero_lt_one | assumption | omega), rfl⟩, Nat.le_of_ble_eq_true rfl, ?_⟩
      | refine ⟨(by first | exact Nat.zero_lt_one | assumption | omega), ?_⟩
      | refine ⟨Or.inl rfl, ?_⟩
      | refine ⟨Or.inr (Or.inl rfl), ?_⟩
      | refine ⟨Or.inr (Or.inr rfl), ?_⟩
      | refine ⟨Or.inr ⟨rfl, (by first | exact Or.inl rfl | exact Or.inr rfl | assumption)⟩, ?_⟩
      | refine ⟨fun h => absurd h (by decide), fun _ => ?_⟩
      | refine ⟨fun _ => ?_, fun h => absurd h (by decide)⟩
      | refine ⟨fun h => ?_, fun h => ?_⟩
      | fail)
set_option maxHeartbeats 1000000 in
theorem c_Ha_isPeacefulAt_43 {d t n k : Nat} {μ : zMu} {K : Option zV → zMu → Prop} (ht : t < 4) (hn : μ 9 t 0 = nI n) (h12 : n ≤ 12) (hk : k < n) (hs : ∀ j, j ≤ k → hOk μ (μ 43 0 j)) (h1 : hPe μ (μ 43 0) (μ 9 t 2) n k → K (some (zI 1)) μ) (h0 : ¬ hPe μ (μ 43 0) (μ 9 t 2) n k → K (some (zI 0)) μ) : Ct (d + 2) m_Ha_isPeacefulAt [zR 5 0, zR 9 t, zR 43 0, zI (nI k)] μ K := by
  refine zmeet rfl (Nat.le_of_ble_eq_true rfl) (fun S => ?_)
  have hc : (nI k).toNatClampNeg = k := nI_clamp (by omega)
  have hs0 : hOk μ (μ 43 0 (nI k).toNatClampNeg) := by rw [hc]; exact hs k (Nat.le_refl k)
  have hs1 : hOk μ (jAt (μ 43 0) (jBe k)) := jAt_ok hs (jBe_ok (by omega))
  have hs2 : hOk μ (jAt (μ 43 0) (jAr (μ 9 t 2) n k)) := jAt_ok hs jAr_ok
  have hs3 : hOk μ (jAt (μ 43 0) (jFa (μ 9 t 2) n k)) := jAt_ok hs (jFa_ok (by omega))
  unfold hPe at h1 h0
  have e : μ 43 0 (nI k).toNatClampNeg = μ 43 0 k := by rw [hc]
  repeat' (first
    | refine n_lowerBeside (by omega) ?_
    | refine n_lowerAround ht hn h12 hk ?_
    | refine n_lowerFacing ht hn h12 hk ?_
    | refine c_Ha_sitterAt_43 (t := t)  (jBe_in (by omega)) ?_
    | refine c_Ha_sitterAt_43 (t := t)  jAr_in ?_
    | refine c_Ha_sitterAt_43 (t := t)  (jFa_in (by omega)) ?_
    | refine n_areFeuding hs0 hs1 (fun hf1 => ?_) (fun hf1 => ?_)
    | refine n_areFeuding hs0 hs2 (fun hf2 => ?_) (fun hf2 => ?_)
    | refine n_areFeuding hs0 hs3 (fun hf3 => ?_) (fun hf3 => ?_)
    | exact h1 (by rw [← e]; exact ⟨hf1, hf2, hf3⟩)
    | exact h0 (by rw [← e]; exact fun h => h.1 hf1)
    | exact h0 (by rw [← e]; exact fun h => h.2.1 hf2)
    | exact h0 (by rw [← e]; exact fun h => h.2.2 hf3)
    | refine zs k_Ha_isPeacefulAt rfl ?_
    | refine ⟨Nat.zero_lt_one, rfl, ?_⟩
    | refine ⟨rfl, ?_⟩
    | refine ⟨⟨Nat.zero_lt_one, rfl⟩, Nat.le_of_ble_eq_true rfl, ?_⟩
    | refine ⟨Nat.le_of_ble_eq_true rfl, Nat.le_of_ble_eq_true rfl, ?_⟩
    | refine ⟨(by first | exact Nat.zero_lt_one | assumption | omega), (by first | assumption | exact vp_in_nI (by omega) (by omega) | (unfold vp_in; decide)), ?_⟩
    | refine ⟨(by first | exact Nat.zero_lt_one | assumption | omega), rfl, ?_⟩
    | refine ⟨⟨(by first | exact Nat.zero_lt_one | assumption | omega), rfl⟩, Nat.le_of_ble_eq_true rfl, ?_⟩
    | refine ⟨(by first | exact Nat.zero_lt_one | assumption | omega), ?_⟩
    | refine ⟨Or.inl rfl, ?_⟩
    | refine ⟨Or.inr (Or.inl rfl), ?_⟩
    | refine ⟨Or.inr (Or.inr rfl), ?_⟩
    | refine ⟨Or.inr ⟨rfl, (by first | exact Or.inl rfl | exact Or.inr rfl | assumption)⟩, ?_⟩
    | refine ⟨fun h => absurd h (by decide), fun _ => ?_⟩
    | refine ⟨fun _ => ?_, fun h => absurd h (by decide)⟩
    | refine ⟨fun h => ?_, fun h => ?_⟩
    | fail)
