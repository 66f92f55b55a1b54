/-! HOW MANY BITS -/
theorem land16 (u M : Nat) : u &&& M = (u % 16 &&& M % 16) + 16 * (u / 16 &&& M / 16) := by
  have h1 : (u &&& M) % 16 = u % 16 &&& M % 16 := Nat.and_mod_two_pow (n := 4)
  have h2 : (u &&& M) / 16 = u / 16 &&& M / 16 := Nat.and_div_two_pow (n := 4)
  rw [← h1, ← h2]
  omega
def bc1 (M X : Nat) : Nat := X - (X / 2 &&& M)
def bc2 (M Y : Nat) : Nat := (Y &&& M) + (Y / 4 &&& M)
theorem bc1_16 {M a B : Nat} (ha : a < 16) : bc1 (5 + 16 * M) (a + 16 * B) = bc1 5 a + 16 * bc1 M B := by
  unfold bc1
  rw [land16, show ((a + 16 * B) / 2) / 16 = B / 2 by omega, show (5 + 16 * M) / 16 = M by omega, show (5 + 16 * M) % 16 = 5 by omega, show ((a + 16 * B) / 2) % 16 = a / 2 + 8 * (B % 2) by omega]
  have h1 : ∀ a, a < 16 → ∀ e, e < 2 → (a / 2 + 8 * e) &&& 5 = a / 2 &&& 5 := by decide +kernel
  rw [h1 a ha _ (by omega)]
  have h2 : a / 2 &&& 5 ≤ a / 2 := Nat.and_le_left
  have h3 : B / 2 &&& M ≤ B / 2 := Nat.and_le_left
  omega
theorem bc2_16 {M a B : Nat} (ha : a < 16) : bc2 (3 + 16 * M) (a + 16 * B) = bc2 3 a + 16 * bc2 M B := by
  unfold bc2
  rw [land16, land16 ((a + 16 * B) / 4), show ((a + 16 * B) / 4) / 16 = B / 4 by omega, show (3 + 16 * M) / 16 = M by omega, show (3 + 16 * M) % 16 = 3 by omega, show ((a + 16 * B) / 4) % 16 = a / 4 + 4 * (B % 4) by omega, show (a + 16 * B) % 16 = a by omega, show (a + 16 * B) / 16 = B by omega]
  have h1 : ∀ a, a < 16 → ∀ e, e < 4 → (a / 4 + 4 * e) &&& 3 = a / 4 &&& 3 := by decide +kernel
  rw [h1 a ha _ (by omega)]
  omega
def bcn (a : Nat) : Nat := a % 2 + a / 2 % 2 + a / 4 % 2 + a / 8 % 2
theorem bcn_eq : ∀ a, a < 16 → bc1 5 a < 16 ∧ bc2 3 (bc1 5 a) = bcn a ∧ bcn a ≤ 4 := by decide +kernel
theorem bc12 {M1 M2 a B : Nat} (ha : a < 16) : bc2 (3 + 16 * M2) (bc1 (5 + 16 * M1) (a + 16 * B)) = bcn a + 16 * bc2 M2 (bc1 M1 B) := by
  rw [bc1_16 ha, bc2_16 (bcn_eq a ha).1, (bcn_eq a ha).2.1]
def bcE (Y : Nat) : Nat := ((Y + Y / 16 &&& 252645135) + (Y + Y / 16 &&& 252645135) / 256 + ((Y + Y / 16 &&& 252645135) + (Y + Y / 16 &&& 252645135) / 256) / 65536) &&& 63
theorem bcE_eq : ∀ a, a < 5 → ∀ b, b < 5 → ∀ c, c < 5 → ∀ d, d < 5 → ∀ e, e < 5 → bcE (a + 16 * (b + 16 * (c + 16 * (d + 16 * e)))) = a + b + c + d + e := by decide +kernel
theorem bc_all {X : Nat} (h : X < 2 ^ 20) : bcE (bc2 858993459 (bc1 1431655765 X)) = bcn (X % 16) + bcn (X / 16 % 16) + bcn (X / 256 % 16) + bcn (X / 4096 % 16) + bcn (X / 65536 % 16) := by
  have e : X = X % 16 + 16 * (X / 16 % 16 + 16 * (X / 256 % 16 + 16 * (X / 4096 % 16 + 16 * (X / 65536 % 16 + 16 * 0)))) := by omega
  have e0 : bc2 858993459 (bc1 1431655765 X) = bc2 (3 + 16 * (3 + 16 * (3 + 16 * (3 + 16 * (3 + 16 * 819))))) (bc1 (5 + 16 * (5 + 16 * (5 + 16 * (5 + 16 * (5 + 16 * 1365))))) (X % 16 + 16 * (X / 16 % 16 + 16 * (X / 256 % 16 + 16 * (X / 4096 % 16 + 16 * (X / 65536 % 16 + 16 * 0)))))) := by rw [← e]
  rw [e0, bc12 (by omega), bc12 (by omega), bc12 (by omega), bc12 (by omega), bc12 (by omega), show bc2 819 (bc1 1365 0) = 0 from rfl, Nat.mul_zero, Nat.add_zero]
  have hb : ∀ a, bcn (a % 16) < 5 := fun a => by have := (bcn_eq (a % 16) (by omega)).2.2; omega
  exact bcE_eq _ (hb _) _ (hb _) _ (hb _) _ (hb _) _ (hb _)
theorem bN_and (x y : Int32) : bN (x &&& y) = bN x &&& bN y := by
  unfold bN
  rw [Int32.toBitVec_and, BitVec.toNat_and]
theorem bN_add (x y : Int32) : bN (x + y) = (bN x + bN y) % 2 ^ 32 := by
  unfold bN
  rw [Int32.toBitVec_add, BitVec.toNat_add]
theorem bN_sub (x y : Int32) : bN (x - y) = (2 ^ 32 - bN y + bN x) % 2 ^ 32 := by
  unfold bN
  rw [Int32.toBitVec_sub, BitVec.toNat_sub]
def bush (x : Int32) (s : Int32) : Int32 := (x.toUInt32 >>> (s.toUInt32 &&& Int32.toUInt32 31)).toInt32
theorem bN_ush {x : Int32} {k : Nat} (h : k < 32) : bN (bush x (nI k)) = bN x / 2 ^ k := pk_ushr x (nI k) k (bt_u k h)
def bcA (x : Int32) : Int32 := x - (bush x 1 &&& 1431655765)
def bcB (x : Int32) : Int32 := (x &&& 858993459) + (bush x 2 &&& 858993459)
def bcC (x : Int32) : Int32 := (x + bush x 4) &&& 252645135
def bcD (x : Int32) : Int32 := x + bush x 8
def bcF (x : Int32) : Int32 := (x + bush x 16) &&& 63
theorem c_Jint_bitCount {d : Nat} {μ : zMu} {x : Int32} {K : Option zV → zMu → Prop} (hK : K (some (zI (bcF (bcD (bcC (bcB (bcA x))))))) μ) : Ct d m_Jint_bitCount [zI x] μ K := by
  refine zmeetF pf_bit (Nat.le_of_ble_eq_true rfl) (fun S => ?_)
  repeat' (first
    | exact hK
    | refine zs k_Jint_bitCount rfl ?_
    | refine ⟨Nat.zero_lt_one, rfl, ?_⟩
    | refine ⟨rfl, ?_⟩
    | refine ⟨⟨Nat.zero_lt_one, rfl⟩, Nat.le_of_ble_eq_true rfl, ?_⟩
    | refine ⟨Nat.le_of_ble_eq_true rfl, Nat.le_of_ble_eq_true rfl, ?_⟩
    | refine ⟨(by first | exact Nat.zero_lt_one | assumption | omega), (by first | assumption | exact vp_in_nI (by omega) (by omega) | (unfold vp_in; decide)), ?_⟩
    | refine ⟨(by first | exact Nat.zero_lt_one | assumption | omega), rfl, ?_⟩
    | refine ⟨⟨(by first | exact Nat.zero_lt_one | assumption | omega), rfl⟩, Nat.le_of_ble_eq_true rfl, ?_⟩
    | refine ⟨(by first | exact Nat.zero_lt_one | assumption | omega), ?_⟩
    | refine ⟨Or.inl rfl, ?_⟩
    | refine ⟨Or.inr (Or.inl rfl), ?_⟩
    | refine ⟨Or.inr (Or.inr rfl), ?_⟩
    | refine ⟨Or.inr ⟨rfl, (by first | exact Or.inl rfl | exact Or.inr rfl | assumption)⟩, ?_⟩
    | refine ⟨fun h => absurd h (by decide), fun _ => ?_⟩
    | refine ⟨fun _ => ?_, fun h => absurd h (by decide)⟩
    | refine ⟨fun h => ?_, fun h => ?_⟩
    | fail)
theorem bcA_eq {x : Int32} : bN (bcA x) = bc1 1431655765 (bN x) := by
  unfold bcA bc1
  have h := bN_lt x
  have h2 : bN x / 2 &&& 1431655765 ≤ bN x / 2 := Nat.and_le_left
  rw [bN_sub, bN_and, show bN (bush x 1) = bN x / 2 from bN_ush (k := 1) (by omega), show bN 1431655765 = 1431655765 from rfl]
  omega
theorem bcB_eq {x : Int32} : bN (bcB x) = bc2 858993459 (bN x) := by
  unfold bcB bc2
  have h := bN_lt x
  have h1 : bN x &&& 858993459 ≤ 858993459 := Nat.and_le_right
  have h2 : bN x / 4 &&& 858993459 ≤ 858993459 := Nat.and_le_right
  rw [bN_add, bN_and, bN_and, show bN (bush x 2) = bN x / 4 from bN_ush (k := 2) (by omega), show bN 858993459 = 858993459 from rfl]
  omega
theorem bc2_le {Y : Nat} : bc2 858993459 Y ≤ 1717986918 := by
  unfold bc2
  have h1 : Y &&& 858993459 ≤ 858993459 := Nat.and_le_right
  have h2 : Y / 4 &&& 858993459 ≤ 858993459 := Nat.and_le_right
  omega
theorem bcX_eq {x : Int32} (h : bN x ≤ 1717986918) : bN (bcF (bcD (bcC x))) = bcE (bN x) := by
  have hC : bN (bcC x) = (bN x + bN x / 16) &&& 252645135 := by
    unfold bcC
    rw [bN_and, bN_add, show bN (bush x 4) = bN x / 16 from bN_ush (k := 4) (by omega), show bN 252645135 = 252645135 from rfl, Nat.mod_eq_of_lt (by omega)]
  have hC2 : bN (bcC x) ≤ 252645135 := by rw [hC]; exact Nat.and_le_right
  have hD : bN (bcD (bcC x)) = bN (bcC x) + bN (bcC x) / 256 := by
    unfold bcD
    rw [bN_add, show bN (bush (bcC x) 8) = bN (bcC x) / 256 from bN_ush (k := 8) (by omega), Nat.mod_eq_of_lt (by omega)]
  unfold bcE
  rw [← hC, ← hD]
  generalize bcD (bcC x) = y at *
  unfold bcF
  rw [bN_and, bN_add, show bN (bush y 16) = bN y / 65536 from bN_ush (k := 16) (by omega), show bN 63 = 63 from rfl, Nat.mod_eq_of_lt (by omega)]
theorem tb_if {b : Bool} {v : Nat} (h : b = decide (v = 1)) (hv : v < 2) : (if b then 1 else 0) = v := by
  subst h
  rcases Nat.lt_or_ge v 1 with q | q
  · obtain rfl : v = 0 := by omega
    rfl
  · obtain rfl : v = 1 := by omega
    rfl
theorem gsT_len {x : Int32} : ∀ p, (gsT x p).length = pCt (zbt x) p
  | 0 => rfl
  | p + 1 => by
    rw [gsT_s, List.length_append, gsT_len p, pCt]
    cases zbt x p <;> rfl
theorem pCt_sum {x : Int32} (p : Nat) : pCt (zbt x) (p + 1) = pCt (zbt x) p + bN x / 2 ^ p % 2 := by
  rw [pCt]
  congr 1
  exact tb_if (by unfold zbt; rw [Nat.testBit_eq_decide_div_mod_eq]) (Nat.mod_lt _ (by omega))
theorem bc_ct {x : Int32} (h : bN x < 2 ^ 20) : bcF (bcD (bcC (bcB (bcA x)))) = nI (gsT x 20).length := by
  refine bN_inj ?_
  rw [bcX_eq (by rw [bcB_eq]; exact bc2_le), bcB_eq, bcA_eq, bc_all h, gsT_len]
  have hb : ∀ Y, bcn (Y % 16) = Y % 2 + Y / 2 % 2 + Y / 4 % 2 + Y / 8 % 2 := fun Y => by
    unfold bcn
    omega
  have hle : pCt (zbt x) 20 ≤ 20 := pCt_le _ _
  rw [bN_nI (by omega), hb, hb, hb, hb, hb]
  simp only [pCt_sum, show pCt (zbt x) 0 = 0 from rfl, Nat.div_div_eq_div_mul, Nat.reducePow, Nat.reduceMul, Nat.div_one, Nat.zero_add]
  ac_rfl
