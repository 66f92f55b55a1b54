/-! SETS AS BITS; numbers -/
def bN (x : Int32) : Nat := x.toBitVec.toNat
theorem bt_s : ∀ q, q < 32 → ((nI q &&& 31).toBitVec.smod 32).toNat = q := by decide +kernel
theorem bt_u : ∀ q, q < 32 → (((nI q).toUInt32 &&& Int32.toUInt32 31).toBitVec % 32).toNat = q := by decide +kernel
theorem bN_lt (x : Int32) : bN x < 2 ^ 32 := x.toBitVec.isLt
theorem bN_nI {n : Nat} (h : n < 2 ^ 32) : bN (nI n) = n := pk_tn h
theorem bt_1 (y : Int32) : y &&& 1 = nI (bN y % 2) := pk_and y (m := 1) 1 (by decide)
theorem bt_is {k : Nat} (h : k < 2) : nI k = 1 ↔ k = 1 := nI_eq (a := k) (b := 1) (by omega) (by omega)
theorem zbit_iff {x : Int32} {p : Nat} (hp : p < 32) : zbit x (nI p) ↔ (bN x).testBit p = true := by
  unfold zbit
  rw [bt_1, bt_is (Nat.mod_lt _ (by omega)), show bN (x.toUInt32 >>> ((nI p).toUInt32 &&& Int32.toUInt32 31)).toInt32 = bN x / 2 ^ p from pk_ushr x (nI p) p (bt_u p hp), Nat.testBit_eq_decide_div_mod_eq, decide_eq_true_iff]
def zbt (x : Int32) (p : Nat) : Bool := (bN x).testBit p
theorem zbt_or {x : Int32} {p q : Nat} (hq : q < 32) : zbt (x ||| 1 <<< (nI q &&& 31)) p = (zbt x p || decide (q = p)) := by
  unfold zbt bN
  rw [Int32.toBitVec_or, BitVec.toNat_or, Nat.testBit_or, show (1 <<< (nI q &&& 31) : Int32).toBitVec.toNat = 2 ^ q from ?_, Nat.testBit_two_pow]
  rw [pk_shl 1 (nI q &&& 31) q (bt_s q hq), show (1 : Int32).toBitVec.toNat = 1 from rfl, Nat.one_mul, Nat.mod_eq_of_lt (Nat.pow_lt_pow_right (by omega) hq)]
theorem zbt_0 {p : Nat} : zbt 0 p = false := by
  unfold zbt
  rw [show bN 0 = 0 from rfl, Nat.zero_testBit]
theorem bN_inj {x y : Int32} (h : bN x = bN y) : x = y := Int32.toBitVec_inj.mp (BitVec.eq_of_toNat_eq h)
theorem set_ok {x : Int32} {n : Nat} (hn : n < 32) : (x.toUInt32 >>> ((nI n).toUInt32 &&& Int32.toUInt32 31)).toInt32 = 0 ↔ bN x < 2 ^ n := by
  have h : bN (x.toUInt32 >>> ((nI n).toUInt32 &&& Int32.toUInt32 31)).toInt32 = bN x / 2 ^ n := pk_ushr x (nI n) n (bt_u n hn)
  constructor
  · intro e
    rw [e, show bN 0 = 0 from rfl] at h
    exact (Nat.div_eq_zero_iff.mp h.symm).resolve_left (by have := Nat.two_pow_pos n; omega)
  · intro e
    rw [Nat.div_eq_of_lt e] at h
    exact bN_inj h
/-- an index, or none -/
theorem zIx (x : Int32) {n : Nat} (hn : n < 2 ^ 31) : (∃ j : Nat, j < n ∧ x = nI j) ∨ ¬ (0 ≤ x ∧ x < nI n) := by
  rcases pk_ix x hn with h | h | h
  · exact Or.inr (by grind)
  · exact Or.inr (by grind)
  · exact Or.inl h
theorem zIx_y {n j : Nat} (hj : j < n) (hn : n < 2 ^ 31) : 0 ≤ nI j ∧ nI j < nI n := ⟨nI_pos' (by omega), nI_lt hj hn⟩
def pAbs (x : Int32) : Int32 := if 0 ≤ x then x else -x
/-- the row's neighbour below, the first one for the last of a round table, the one that faces -/
def jBe (k : Nat) : Int32 := if k = 0 then -1 else nI (k - 1)
def jAr (rd : Int32) (n k : Nat) : Int32 := if ¬ rd = 0 ∧ 2 < n ∧ k + 1 = n then 0 else -1
def jFa (rd : Int32) (n k : Nat) : Int32 := if rd = 0 ∧ n - 1 - k < k then nI (n - 1 - k) else -1
def jAt (r : Nat → Int32) (x : Int32) : Int32 := if x = -1 then -1 else r x.toNatClampNeg
theorem jBe_in {k : Nat} (h : k ≤ 12) : jBe k = -1 ∨ vp_in (jBe k) 12 := by
  unfold jBe
  split
  · exact Or.inl rfl
  · exact Or.inr (vp_in_nI (by omega) (by omega))
theorem jAr_in {rd : Int32} {n k : Nat} : jAr rd n k = -1 ∨ vp_in (jAr rd n k) 12 := by
  unfold jAr
  split
  · exact Or.inr (by unfold vp_in; decide)
  · exact Or.inl rfl
theorem jFa_in {rd : Int32} {n k : Nat} (h : k ≤ 12) : jFa rd n k = -1 ∨ vp_in (jFa rd n k) 12 := by
  unfold jFa
  split
  · exact Or.inr (vp_in_nI (by omega) (by omega))
  · exact Or.inl rfl
theorem n_lowerBeside {d t k : Nat} {μ : zMu} {K : Option zV → zMu → Prop} (hk : k < 12) (hK : K (some (zI (jBe k))) μ) : Ct d m_Tb_lowerBeside [zR 9 t, zI (nI k)] μ K := by
  refine c_Tb_lowerBeside (zKe hK ?_ rfl)
  unfold jBe
  rcases Nat.eq_zero_or_pos k with h | h
  · subst h
    rfl
  · rw [if_neg (nI_nle h (by omega)), if_neg (by omega)]
    obtain ⟨j, rfl⟩ : ∃ j, k = j + 1 := ⟨k - 1, by omega⟩
    exact nI_pred j
theorem n_lowerAround {d t n k : Nat} {μ : zMu} {K : Option zV → zMu → Prop} (ht : t < 4) (hn : μ 9 t 0 = nI n) (h12 : n ≤ 12) (hk : k < n) (hK : K (some (zI (jAr (μ 9 t 2) n k))) μ) : Ct d m_Tb_lowerAround [zR 9 t, zI (nI k)] μ K := by
  refine c_Tb_lowerAround ht (zKe hK ?_ rfl)
  obtain ⟨j, rfl⟩ : ∃ j, n = j + 1 := ⟨n - 1, by omega⟩
  rw [hn, nI_pred]
  unfold jAr
  have h2 : (2 : Int32) < nI (j + 1) ↔ 2 < j + 1 := nI_ltI (a := 2) (b := j + 1) (by omega) (by omega)
  have h3 : nI k = nI j ↔ k = j := nI_eq (by omega) (by omega)
  simp only [h2, h3, Nat.add_right_cancel_iff]
theorem n_lowerFacing {d t n k : Nat} {μ : zMu} {K : Option zV → zMu → Prop} (ht : t < 4) (hn : μ 9 t 0 = nI n) (h12 : n ≤ 12) (hk : k < n) (hK : K (some (zI (jFa (μ 9 t 2) n k))) μ) : Ct d m_Tb_lowerFacing [zR 9 t, zI (nI k)] μ K := by
  refine c_Tb_lowerFacing ht (zKe hK ?_ rfl)
  obtain ⟨j, rfl⟩ : ∃ j, n = j + 1 := ⟨n - 1, by omega⟩
  rw [hn, nI_pred, pk_sub (show k ≤ j by omega)]
  unfold jFa
  have h2 : nI (j - k) < nI k ↔ j - k < k := nI_ltI (by omega) (by omega)
  have h0 : (0 : Int32) ≤ nI (j - k) := nI_pos' (by omega)
  simp only [h2, h0, true_and, Nat.add_sub_cancel]
