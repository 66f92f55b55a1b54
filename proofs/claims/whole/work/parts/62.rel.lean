/-! WHAT HOLDS BETWEEN THE CALLS -/
def gSt (μ : zMu) (ns : Nat) : Prop := μ 1 0 0 = nI ns ∧ μ 48 0 0 = nI ns ∧ ns ≤ 10 ∧ ∀ s, s < ns → μ 51 0 s = μ 13 0 s ∧ μ 52 0 s = μ 14 0 s ∧ vp_in (μ 14 0 s) 8
def gP1 (μ : zMu) (ns p : Nat) : Prop := μ 62 0 p = μ 10 0 p ∧ (μ 10 0 p = 0 ∨ μ 10 0 p = 1) ∧ μ 61 0 p = μ 11 0 p ∧ μ 58 0 p = μ 15 0 p ∧ μ 60 0 p = μ 16 0 p ∧ 0 ≤ μ 16 0 p ∧ μ 59 0 p = μ 17 p 3 ∧ μ 57 0 p = μ 17 p 4 ∧ μ 56 0 p = μ 17 p 5 ∧ (∃ s, s < ns ∧ μ 17 p 5 = nI s ∧ μ 17 p 2 = μ 13 0 s ∧ μ 17 p 6 = μ 14 0 s) ∧ μ 17 p 0 = cRank μ p ∧ μ 17 p 1 = cPap μ p ∧ ((μ 17 p 4 = 3 ∨ μ 17 p 4 = 4) → ∃ q, q < p ∧ μ 11 0 p = nI q)
def gPe (μ : zMu) (ns n : Nat) : Prop := μ 1 0 1 = nI n ∧ μ 48 0 5 = nI n ∧ n ≤ 20 ∧ ∀ p, p < n → gP1 μ ns p
def gTp (μ : zMu) (nb : Nat) : Prop := μ 2 0 0 = nI nb ∧ μ 48 0 14 = nI nb ∧ nb ≤ 200 ∧ ∀ j, j < nb → μ 18 0 j = μ 63 0 j &&& 255
def gR1 (μ : zMu) (r : Nat) : Prop := cRok μ r ∧ ((μ 8 r 0 = -1 ∧ μ 66 0 r = 10) ∨ (0 ≤ μ 8 r 0 ∧ μ 8 r 0 ≤ 9 ∧ μ 66 0 r = μ 8 r 0)) ∧ μ 67 0 r = μ 8 r 1 ∧ ((μ 8 r 2 = 0 ∧ μ 68 0 r = 1) ∨ (μ 8 r 2 = 1 ∧ μ 68 0 r = 0)) ∧ μ 69 0 r = μ 8 r 3 ∧ μ 70 0 r = μ 8 r 5 ∧ μ 71 0 r = μ 8 r 6 ∧ μ 72 0 r = μ 8 r 4 ∧ (∀ j, j < (μ 8 r 4).toNatClampNeg → μ 73 0 (4 * r + j) = μ 22 r j ∧ μ 74 0 (4 * r + j) = μ 23 r j ∧ (μ 23 r j = 0 ∨ μ 23 r j = 1) ∧ μ 75 0 (4 * r + j) = μ 24 r j ∧ μ 76 0 (4 * r + j) = μ 25 r j ∧ μ 77 0 (4 * r + j) = μ 26 r j) ∧ (μ 8 r 4 = 0 → μ 8 r 3 = 0)
def gRu (μ : zMu) (nr : Nat) : Prop := μ 3 0 0 = nI nr ∧ μ 48 0 15 = nI nr ∧ nr ≤ 16 ∧ ∀ r, r < nr → gR1 μ r
def gHd (μ : zMu) (nh : Nat) : Prop := μ 3 0 1 = nI nh ∧ μ 48 0 33 = nI nh ∧ nh ≤ 20 ∧ ∀ k, k < nh → μ 84 0 k = μ 20 0 k ∧ μ 85 0 k = μ 21 0 k
def gT1 (μ : zMu) (n t : Nat) : Prop := (μ 9 t 2 = 0 ∨ μ 9 t 2 = 1) ∧ μ 93 0 t = μ 9 t 2 ∧ (∃ z, 2 ≤ z ∧ z ≤ 12 ∧ μ 9 t 0 = nI z ∧ μ 94 0 t = nI z ∧ ∀ k, z ≤ k → k < 12 → μ 40 t k = -1) ∧ (∀ k, k < 12 → μ 95 0 (12 * t + k) = μ 40 t k) ∧ (∀ k, k < 12 → μ 40 t k = -1 ∨ ∃ p, p < n ∧ μ 40 t k = nI p ∧ μ 10 0 p = 1) ∧ (∀ j k, j < k → k < 12 → μ 40 t j = μ 40 t k → μ 40 t j = -1)
def gTb (μ : zMu) (nt n : Nat) : Prop := μ 5 0 0 = nI nt ∧ μ 48 0 42 = nI nt ∧ nt ≤ 4 ∧ ∀ t, t < nt → gT1 μ n t
def gFe (μ : zMu) : Prop := ∀ a b, a < 10 → b < 10 → (μ 36 a b = 0 ∨ μ 36 a b = 1) ∧ μ 53 0 (10 * a + b) = μ 36 a b ∧ μ 36 b a = μ 36 a b
def gCo (μ : zMu) : Prop := ∀ a b, a < 8 → b < 8 → (∃ c, c ≤ 9 ∧ μ 38 a b = nI c) ∧ μ 54 0 (8 * a + b) = μ 38 a b ∧ μ 38 b a = μ 38 a b
def mVs (μ : zMu) (L : List zVt) : Prop := μ 48 0 48 = nI L.length ∧ ∀ (k : Nat) (e : zVt), L[k]? = some e → μ 99 0 k = e.1 ∧ μ 100 0 k = e.2.1 ∧ μ 101 0 k = e.2.2
def gVs (μ : zMu) (L : List zVt) : Prop := cVs μ L ∧ mVs μ L
def gWi (μ : zMu) : Prop := μ 48 0 52 = μ 7 0 1
def gLet : List Int32 := [114, 97, 110, 107, 112, 97, 112, 101, 114, 110, 97, 109, 101, 115, 105, 110, 99, 101, 107, 105, 110, 100, 115, 116, 97, 116, 101, 116, 111, 110, 103, 117, 101]
def gBeg : List Int32 := [0, 4, 9, 13, 18, 22, 27]
def gLon : List Int32 := [4, 5, 4, 5, 4, 5, 6]
def gCs (μ : zMu) : Prop := (∀ k, k < 33 → μ 80 0 k = gLet.getD k 0) ∧ (∀ k, k < 7 → μ 81 0 k = gBeg.getD k 0) ∧ ∀ k, k < 7 → μ 82 0 k = gLon.getD k 0
def Rel (μ : zMu) : Prop := ∃ ns n nr nh nt nb L, gSt μ ns ∧ gPe μ ns n ∧ gTp μ nb ∧ gRu μ nr ∧ gHd μ nh ∧ gTb μ nt n ∧ gFe μ ∧ gCo μ ∧ gVs μ L ∧ gWi μ ∧ gCs μ
/-- the class's method and then the model's answer alike, and what holds between the calls holds again -/
def Both (Mc Mm : zMth) (as : List zV) (μ : zMu) : Prop := ∀ (d : Nat) (K : Option zV → zMu → Prop), (∀ (a : Int32) (μ1 : zMu), (∀ (d : Nat) (K2 : Option zV → zMu → Prop), (∀ μ2, Rel μ2 → K2 (some (zI a)) μ2) → Ct (d + 20) Mm (zR 48 0 :: as) μ1 K2) → K (some (zI a)) μ1) → Ct (d + 20) Mc (zR 0 0 :: as) μ K
-- ---- frames: a state that differs elsewhere
theorem gSt_fr {μ μ' : zMu} {ns : Nat} (h : ∀ f, f ∈ [1, 13, 14, 51, 52] → μ' f = μ f) (h48 : μ' 48 0 0 = μ 48 0 0) (g : gSt μ ns) : gSt μ' ns := by
  unfold gSt at *
  rw [h 1 (by simp), h 13 (by simp), h 14 (by simp), h 51 (by simp), h 52 (by simp), h48]
  exact g
theorem gP1_fr {μ μ' : zMu} {ns p : Nat} (h : ∀ f, f ∈ [10, 11, 13, 14, 15, 16, 17, 56, 57, 58, 59, 60, 61, 62] → μ' f = μ f) (g : gP1 μ ns p) : gP1 μ' ns p := by
  unfold gP1 cRank cPap cPq cOwn at *
  rw [h 10 (by simp), h 11 (by simp), h 13 (by simp), h 14 (by simp), h 15 (by simp), h 16 (by simp), h 17 (by simp), h 56 (by simp), h 57 (by simp), h 58 (by simp), h 59 (by simp), h 60 (by simp), h 61 (by simp), h 62 (by simp)]
  exact g
theorem gPe_fr {μ μ' : zMu} {ns n : Nat} (h : ∀ f, f ∈ [1, 10, 11, 13, 14, 15, 16, 17, 56, 57, 58, 59, 60, 61, 62] → μ' f = μ f) (h48 : μ' 48 0 5 = μ 48 0 5) (g : gPe μ ns n) : gPe μ' ns n := by
  obtain ⟨g1, g2, g3, g4⟩ := g
  refine ⟨by rw [h 1 (by simp)]; exact g1, by rw [h48]; exact g2, g3, fun p hp => gP1_fr (fun f hf => h f (List.mem_cons_of_mem _ hf)) (g4 p hp)⟩
theorem gTp_fr {μ μ' : zMu} {nb : Nat} (h : ∀ f, f ∈ [18, 63] → μ' f = μ f) (h2 : μ' 2 0 0 = μ 2 0 0) (h48 : μ' 48 0 14 = μ 48 0 14) (g : gTp μ nb) : gTp μ' nb := by
  unfold gTp at *
  rw [h 18 (by simp), h 63 (by simp), h2, h48]
  exact g
theorem gR1_fr {μ μ' : zMu} {r : Nat} (h : ∀ f, f ∈ [8, 22, 23, 24, 25, 26, 66, 67, 68, 69, 70, 71, 72, 73, 74, 75, 76, 77] → μ' f = μ f) (g : gR1 μ r) : gR1 μ' r := by
  unfold gR1 cRok at *
  rw [h 8 (by simp), h 22 (by simp), h 23 (by simp), h 24 (by simp), h 25 (by simp), h 26 (by simp), h 66 (by simp), h 67 (by simp), h 68 (by simp), h 69 (by simp), h 70 (by simp), h 71 (by simp), h 72 (by simp), h 73 (by simp), h 74 (by simp), h 75 (by simp), h 76 (by simp), h 77 (by simp)]
  exact g
theorem gRu_fr {μ μ' : zMu} {nr : Nat} (h : ∀ f, f ∈ [3, 8, 22, 23, 24, 25, 26, 66, 67, 68, 69, 70, 71, 72, 73, 74, 75, 76, 77] → μ' f = μ f) (h48 : μ' 48 0 15 = μ 48 0 15) (g : gRu μ nr) : gRu μ' nr := by
  obtain ⟨g1, g2, g3, g4⟩ := g
  refine ⟨by rw [h 3 (by simp)]; exact g1, by rw [h48]; exact g2, g3, fun r hr => gR1_fr (fun f hf => h f (List.mem_cons_of_mem _ hf)) (g4 r hr)⟩
theorem gHd_fr {μ μ' : zMu} {nh : Nat} (h : ∀ f, f ∈ [3, 20, 21, 84, 85] → μ' f = μ f) (h48 : μ' 48 0 33 = μ 48 0 33) (g : gHd μ nh) : gHd μ' nh := by
  unfold gHd at *
  rw [h 3 (by simp), h 20 (by simp), h 21 (by simp), h 84 (by simp), h 85 (by simp), h48]
  exact g
theorem gT1_fr {μ μ' : zMu} {n t : Nat} (h : ∀ f, f ∈ [9, 10, 40, 93, 94, 95] → μ' f = μ f) (g : gT1 μ n t) : gT1 μ' n t := by
  unfold gT1 at *
  rw [h 9 (by simp), h 10 (by simp), h 40 (by simp), h 93 (by simp), h 94 (by simp), h 95 (by simp)]
  exact g
theorem gTb_fr {μ μ' : zMu} {nt n : Nat} (h : ∀ f, f ∈ [5, 9, 10, 40, 93, 94, 95] → μ' f = μ f) (h48 : μ' 48 0 42 = μ 48 0 42) (g : gTb μ nt n) : gTb μ' nt n := by
  obtain ⟨g1, g2, g3, g4⟩ := g
  exact ⟨by rw [h 5 (by simp)]; exact g1, by rw [h48]; exact g2, g3, fun t ht => gT1_fr (fun f hf => h f (List.mem_cons_of_mem _ hf)) (g4 t ht)⟩
theorem gFe_fr {μ μ' : zMu} (h : ∀ f, f ∈ [36, 53] → μ' f = μ f) (g : gFe μ) : gFe μ' := by
  unfold gFe at *
  rw [h 36 (by simp), h 53 (by simp)]
  exact g
theorem gCo_fr {μ μ' : zMu} (h : ∀ f, f ∈ [38, 54] → μ' f = μ f) (g : gCo μ) : gCo μ' := by
  unfold gCo at *
  rw [h 38 (by simp), h 54 (by simp)]
  exact g
theorem gVs_fr {μ μ' : zMu} {L : List zVt} (h : ∀ f, f ∈ [7, 45, 46, 47, 99, 100, 101] → μ' f = μ f) (h48 : μ' 48 0 48 = μ 48 0 48) (g : gVs μ L) : gVs μ' L := by
  unfold gVs cVs mVs at *
  rw [h 7 (by simp), h 45 (by simp), h 46 (by simp), h 47 (by simp), h 99 (by simp), h 100 (by simp), h 101 (by simp), h48]
  exact g
theorem gWi_fr {μ μ' : zMu} (h : μ' 7 = μ 7) (h48 : μ' 48 0 52 = μ 48 0 52) (g : gWi μ) : gWi μ' := by
  unfold gWi at *
  rw [h, h48]
  exact g
theorem gCs_fr {μ μ' : zMu} (h : ∀ f, f ∈ [80, 81, 82] → μ' f = μ f) (g : gCs μ) : gCs μ' := by
  unfold gCs at *
  rw [h 80 (by simp), h 81 (by simp), h 82 (by simp)]
  exact g
/-- scratch alone has changed -/
def zScr (μ μ' : zMu) : Prop := (∀ f, f ∉ [2, 4, 6, 27, 28, 29, 30, 31, 33, 39, 41, 42, 43, 44, 48, 86, 88, 89, 91, 96, 97] → μ' f = μ f) ∧ μ' 2 0 0 = μ 2 0 0 ∧ ∀ k, k ∉ [28, 29, 37, 40] → μ' 48 0 k = μ 48 0 k
theorem zScr_rf {μ : zMu} : zScr μ μ := ⟨fun _ _ => rfl, rfl, fun _ _ => rfl⟩
theorem zScr_tr {μ μ' μ'' : zMu} (h : zScr μ μ') (h' : zScr μ' μ'') : zScr μ μ'' := ⟨fun f hf => (h'.1 f hf).trans (h.1 f hf), h'.2.1.trans h.2.1, fun k hk => (h'.2.2 k hk).trans (h.2.2 k hk)⟩
theorem zScr_in {μ μ' : zMu} (h : zScr μ μ') {l : List Nat} (hl : l.all (fun f => !([2, 4, 6, 27, 28, 29, 30, 31, 33, 39, 41, 42, 43, 44, 48, 86, 88, 89, 91, 96, 97] : List Nat).contains f) = true) : ∀ f, f ∈ l → μ' f = μ f := fun f hf => h.1 f (fun q => by
  have := List.all_eq_true.mp hl f hf
  simp only [Bool.not_eq_true', List.contains_eq_mem, decide_eq_false_iff_not] at this
  exact this q)
theorem Rel_scr {μ μ' : zMu} (h : zScr μ μ') (g : Rel μ) : Rel μ' := by
  obtain ⟨ns, n, nr, nh, nt, nb, L, g1, g2, g3, g4, g5, g6, g7, g8, g9, g10, g11⟩ := g
  exact ⟨ns, n, nr, nh, nt, nb, L, gSt_fr (zScr_in h rfl) (h.2.2 0 (by decide)) g1, gPe_fr (zScr_in h rfl) (h.2.2 5 (by decide)) g2, gTp_fr (zScr_in h rfl) h.2.1 (h.2.2 14 (by decide)) g3, gRu_fr (zScr_in h rfl) (h.2.2 15 (by decide)) g4, gHd_fr (zScr_in h rfl) (h.2.2 33 (by decide)) g5, gTb_fr (zScr_in h rfl) (h.2.2 42 (by decide)) g6, gFe_fr (zScr_in h rfl) g7, gCo_fr (zScr_in h rfl) g8, gVs_fr (zScr_in h rfl) (h.2.2 48 (by decide)) g9, gWi_fr (h.1 7 (by decide)) (h.2.2 52 (by decide)) g10, gCs_fr (zScr_in h rfl) g11⟩
-- ---- the model's small methods
theorem i64_le {x y : Int32} : x.toInt64 ≤ y.toInt64 ↔ x ≤ y := by
  rw [Int64.le_iff_toInt_le, Int32.le_iff_toInt_le, Int32.toInt_toInt64, Int32.toInt_toInt64]
theorem c_Mo_isIn {d : Nat} {μ : zMu} {x lo hi : Int32} {L H : Int64} {K : Option zV → zMu → Prop} (hL : L = lo.toInt64) (hH : H = hi.toInt64) (h1 : lo ≤ x ∧ x ≤ hi → K (some (zI 1)) μ) (h0 : ¬ (lo ≤ x ∧ x ≤ hi) → K (some (zI 0)) μ) : Ct d m_Mo_isIn [zL x.toInt64, zL L, zL H] μ K := by
  subst hL hH
  have e1 : lg_cmp x.toInt64 lo.toInt64 < 0 ↔ ¬ lo ≤ x := by
    rw [← i64_le, ← lg_cmp_ge]
    grind
  have e2 : 0 < lg_cmp x.toInt64 hi.toInt64 ↔ ¬ x ≤ hi := by
    rw [← i64_le, ← lg_cmp_le]
    grind
  refine zmeet rfl (Nat.le_of_ble_eq_true rfl) (fun S => ?_)
  repeat' (first
    | exact h0 (fun h => e1.mp (by assumption) h.1)
    | exact h0 (fun h => e2.mp (by assumption) h.2)
    | exact h1 ⟨Classical.byContradiction (fun q => absurd (e1.mpr q) (by assumption)), Classical.byContradiction (fun q => absurd (e2.mpr q) (by assumption))⟩
    | refine zs k_Mo_isIn rfl ?_
    | refine ⟨Nat.zero_lt_one, rfl, ?_⟩
    | refine ⟨rfl, ?_⟩
    | refine ⟨⟨Nat.zero_lt_one, rfl⟩, Nat.le_of_ble_eq_true rfl, ?_⟩
    | refine ⟨Nat.le_of_ble_eq_true rfl, Nat.le_of_ble_eq_true rfl, ?_⟩
    | refine ⟨(by first | exact Nat.zero_lt_one | assumption | omega), (by first | assumption | exact vp_in_nI (by omega) (by omega) | (unfold vp_in; decide)), ?_⟩
    | refine ⟨(by first | exact Nat.zero_lt_one | assumption | omega), rfl, ?_⟩
    | refine ⟨⟨(by first | exact Nat.zero_lt_one | assumption | omega), rfl⟩, Nat.le_of_ble_eq_true rfl, ?_⟩
    | refine ⟨(by first | exact Nat.zero_lt_one | assumption | omega), ?_⟩
    | refine ⟨Or.inl rfl, ?_⟩
    | refine ⟨Or.inr (Or.inl rfl), ?_⟩
    | refine ⟨Or.inr (Or.inr rfl), ?_⟩
    | refine ⟨Or.inr ⟨rfl, (by first | exact Or.inl rfl | exact Or.inr rfl | assumption)⟩, ?_⟩
    | refine ⟨fun h => absurd h (by decide), fun _ => ?_⟩
    | refine ⟨fun _ => ?_, fun h => absurd h (by decide)⟩
    | refine ⟨fun h => ?_, fun h => ?_⟩
    | fail)
theorem c_Mo_isPerson {d : Nat} {μ : zMu} {x : Int32} {K : Option zV → zMu → Prop} (h1 : 0 ≤ x ∧ x < μ 48 0 5 → K (some (zI 1)) μ) (h0 : ¬ (0 ≤ x ∧ x < μ 48 0 5) → K (some (zI 0)) μ) : Ct d m_Mo_isPerson [zR 48 0, zI x] μ K := by
  refine zmeet rfl (Nat.le_of_ble_eq_true rfl) (fun S => ?_)
  repeat' (first
    | exact h0 (by grind)
    | exact h1 (by grind)
    | refine zs k_Mo_isPerson rfl ?_
    | refine ⟨Nat.zero_lt_one, rfl, ?_⟩
    | refine ⟨rfl, ?_⟩
    | refine ⟨⟨Nat.zero_lt_one, rfl⟩, Nat.le_of_ble_eq_true rfl, ?_⟩
    | refine ⟨Nat.le_of_ble_eq_true rfl, Nat.le_of_ble_eq_true rfl, ?_⟩
    | refine ⟨(by first | exact Nat.zero_lt_one | assumption | omega), (by first | assumption | exact vp_in_nI (by omega) (by omega) | (unfold vp_in; decide)), ?_⟩
    | refine ⟨(by first | exact Nat.zero_lt_one | assumption | omega), rfl, ?_⟩
    | refine ⟨⟨(by first | exact Nat.zero_lt_one | assumption | omega), rfl⟩, Nat.le_of_ble_eq_true rfl, ?_⟩
    | refine ⟨(by first | exact Nat.zero_lt_one | assumption | omega), ?_⟩
    | refine ⟨Or.inl rfl, ?_⟩
    | refine ⟨Or.inr (Or.inl rfl), ?_⟩
    | refine ⟨Or.inr (Or.inr rfl), ?_⟩
    | refine ⟨Or.inr ⟨rfl, (by first | exact Or.inl rfl | exact Or.inr rfl | assumption)⟩, ?_⟩
    | refine ⟨fun h => absurd h (by decide), fun _ => ?_⟩
    | refine ⟨fun _ => ?_, fun h => absurd h (by decide)⟩
    | refine ⟨fun h => ?_, fun h => ?_⟩
    | fail)
theorem c_Mo_isState {d : Nat} {μ : zMu} {x : Int32} {K : Option zV → zMu → Prop} (h1 : 0 ≤ x ∧ x < μ 48 0 0 → K (some (zI 1)) μ) (h0 : ¬ (0 ≤ x ∧ x < μ 48 0 0) → K (some (zI 0)) μ) : Ct d m_Mo_isState [zR 48 0, zI x] μ K := by
  refine zmeet rfl (Nat.le_of_ble_eq_true rfl) (fun S => ?_)
  repeat' (first
    | exact h0 (by grind)
    | exact h1 (by grind)
    | refine zs k_Mo_isState rfl ?_
    | refine ⟨Nat.zero_lt_one, rfl, ?_⟩
    | refine ⟨rfl, ?_⟩
    | refine ⟨⟨Nat.zero_lt_one, rfl⟩, Nat.le_of_ble_eq_true rfl, ?_⟩
    | refine ⟨Nat.le_of_ble_eq_true rfl, Nat.le_of_ble_eq_true rfl, ?_⟩
    | refine ⟨(by first | exact Nat.zero_lt_one | assumption | omega), (by first | assumption | exact vp_in_nI (by omega) (by omega) | (unfold vp_in; decide)), ?_⟩
    | refine ⟨(by first | exact Nat.zero_lt_one | assumption | omega), rfl, ?_⟩
    | refine ⟨⟨(by first | exact Nat.zero_lt_one | assumption | omega), rfl⟩, Nat.le_of_ble_eq_true rfl, ?_⟩
    | refine ⟨(by first | exact Nat.zero_lt_one | assumption | omega), ?_⟩
    | refine ⟨Or.inl rfl, ?_⟩
    | refine ⟨Or.inr (Or.inl rfl), ?_⟩
    | refine ⟨Or.inr (Or.inr rfl), ?_⟩
    | refine ⟨Or.inr ⟨rfl, (by first | exact Or.inl rfl | exact Or.inr rfl | assumption)⟩, ?_⟩
    | refine ⟨fun h => absurd h (by decide), fun _ => ?_⟩
    | refine ⟨fun _ => ?_, fun h => absurd h (by decide)⟩
    | refine ⟨fun h => ?_, fun h => ?_⟩
    | fail)
theorem c_Mo_isTable {d : Nat} {μ : zMu} {x : Int32} {K : Option zV → zMu → Prop} (h1 : 0 ≤ x ∧ x < μ 48 0 42 → K (some (zI 1)) μ) (h0 : ¬ (0 ≤ x ∧ x < μ 48 0 42) → K (some (zI 0)) μ) : Ct d m_Mo_isTable [zR 48 0, zI x] μ K := by
  refine zmeet rfl (Nat.le_of_ble_eq_true rfl) (fun S => ?_)
  repeat' (first
    | exact h0 (by grind)
    | exact h1 (by grind)
    | refine zs k_Mo_isTable rfl ?_
    | refine ⟨Nat.zero_lt_one, rfl, ?_⟩
    | refine ⟨rfl, ?_⟩
    | refine ⟨⟨Nat.zero_lt_one, rfl⟩, Nat.le_of_ble_eq_true rfl, ?_⟩
    | refine ⟨Nat.le_of_ble_eq_true rfl, Nat.le_of_ble_eq_true rfl, ?_⟩
    | refine ⟨(by first | exact Nat.zero_lt_one | assumption | omega), (by first | assumption | exact vp_in_nI (by omega) (by omega) | (unfold vp_in; decide)), ?_⟩
    | refine ⟨(by first | exact Nat.zero_lt_one | assumption | omega), rfl, ?_⟩
    | refine ⟨⟨(by first | exact Nat.zero_lt_one | assumption | omega), rfl⟩, Nat.le_of_ble_eq_true rfl, ?_⟩
    | refine ⟨(by first | exact Nat.zero_lt_one | assumption | omega), ?_⟩
    | refine ⟨Or.inl rfl, ?_⟩
    | refine ⟨Or.inr (Or.inl rfl), ?_⟩
    | refine ⟨Or.inr (Or.inr rfl), ?_⟩
    | refine ⟨Or.inr ⟨rfl, (by first | exact Or.inl rfl | exact Or.inr rfl | assumption)⟩, ?_⟩
    | refine ⟨fun h => absurd h (by decide), fun _ => ?_⟩
    | refine ⟨fun _ => ?_, fun h => absurd h (by decide)⟩
    | refine ⟨fun h => ?_, fun h => ?_⟩
    | fail)
