/-! ROLL: persons -/
theorem c_Jmath_min {d : Nat} {μ : zMu} {x y : Int32} {K : Option zV → zMu → Prop} (hK : K (some (zI (if y < x then y else x))) μ) : Ct d m_Jmath_min [zI x, zI y] μ K := by
  refine zmeetF pf_min (Nat.le_of_ble_eq_true rfl) (fun S => ?_)
  repeat' (first
    | exact (by rw [if_pos (by assumption)] at hK; exact hK)
    | exact (by rw [if_neg (by assumption)] at hK; exact hK)
    | refine zs k_Jmath_min rfl ?_
    | refine ⟨Nat.zero_lt_one, rfl, ?_⟩
    | refine ⟨rfl, ?_⟩
    | refine ⟨⟨Nat.zero_lt_one, rfl⟩, Nat.le_of_ble_eq_true rfl, ?_⟩
    | refine ⟨Nat.le_of_ble_eq_true rfl, Nat.le_of_ble_eq_true rfl, ?_⟩
    | refine ⟨(by first | exact Nat.zero_lt_one | assumption | omega), (by first | assumption | exact vp_in_nI (by omega) (by omega) | (unfold vp_in; decide)), ?_⟩
    | refine ⟨(by first | exact Nat.zero_lt_one | assumption | omega), rfl, ?_⟩
    | refine ⟨⟨(by first | exact Nat.zero_lt_one | assumption | omega), rfl⟩, Nat.le_of_ble_eq_true rfl, ?_⟩
    | refine ⟨(by first | exact Nat.zero_lt_one | assumption | omega), ?_⟩
    | refine ⟨Or.inl rfl, ?_⟩
    | refine ⟨Or.inr (Or.inl rfl), ?_⟩
    | refine ⟨Or.inr (Or.inr rfl), ?_⟩
    | refine ⟨Or.inr ⟨rfl, (by first | exact Or.inl rfl | exact Or.inr rfl | assumption)⟩, ?_⟩
    | refine ⟨fun h => absurd h (by decide), fun _ => ?_⟩
    | refine ⟨fun _ => ?_, fun h => absurd h (by decide)⟩
    | refine ⟨fun h => ?_, fun h => ?_⟩
    | fail)
theorem c_Jmath_max {d : Nat} {μ : zMu} {x y : Int32} {K : Option zV → zMu → Prop} (hK : K (some (zI (if x < y then y else x))) μ) : Ct d m_Jmath_max [zI x, zI y] μ K := by
  refine zmeetF pf_max (Nat.le_of_ble_eq_true rfl) (fun S => ?_)
  repeat' (first
    | exact (by rw [if_pos (by assumption)] at hK; exact hK)
    | exact (by rw [if_neg (by assumption)] at hK; exact hK)
    | refine zs k_Jmath_max rfl ?_
    | refine ⟨Nat.zero_lt_one, rfl, ?_⟩
    | refine ⟨rfl, ?_⟩
    | refine ⟨⟨Nat.zero_lt_one, rfl⟩, Nat.le_of_ble_eq_true rfl, ?_⟩
    | refine ⟨Nat.le_of_ble_eq_true rfl, Nat.le_of_ble_eq_true rfl, ?_⟩
    | refine ⟨(by first | exact Nat.zero_lt_one | assumption | omega), (by first | assumption | exact vp_in_nI (by omega) (by omega) | (unfold vp_in; decide)), ?_⟩
    | refine ⟨(by first | exact Nat.zero_lt_one | assumption | omega), rfl, ?_⟩
    | refine ⟨⟨(by first | exact Nat.zero_lt_one | assumption | omega), rfl⟩, Nat.le_of_ble_eq_true rfl, ?_⟩
    | refine ⟨(by first | exact Nat.zero_lt_one | assumption | omega), ?_⟩
    | refine ⟨Or.inl rfl, ?_⟩
    | refine ⟨Or.inr (Or.inl rfl), ?_⟩
    | refine ⟨Or.inr (Or.inr rfl), ?_⟩
    | refine ⟨Or.inr ⟨rfl, (by first | exact Or.inl rfl | exact Or.inr rfl | assumption)⟩, ?_⟩
    | refine ⟨fun h => absurd h (by decide), fun _ => ?_⟩
    | refine ⟨fun _ => ?_, fun h => absurd h (by decide)⟩
    | refine ⟨fun h => ?_, fun h => ?_⟩
    | fail)
theorem c_Jmath_abs {d : Nat} {μ : zMu} {x : Int32} {K : Option zV → zMu → Prop} (hK : K (some (zI (if 0 ≤ x then x else -x))) μ) : Ct d m_Jmath_abs [zI x] μ K := by
  refine zmeetF pf_abs (Nat.le_of_ble_eq_true rfl) (fun S => ?_)
  repeat' (first
    | exact (by rw [if_pos (by assumption)] at hK; exact hK)
    | exact (by rw [if_neg (by assumption)] at hK; exact hK)
    | refine zs k_Jmath_abs rfl ?_
    | refine ⟨Nat.zero_lt_one, rfl, ?_⟩
    | refine ⟨rfl, ?_⟩
    | refine ⟨⟨Nat.zero_lt_one, rfl⟩, Nat.le_of_ble_eq_true rfl, ?_⟩
    | refine ⟨Nat.le_of_ble_eq_true rfl, Nat.le_of_ble_eq_true rfl, ?_⟩
    | refine ⟨(by first | exact Nat.zero_lt_one | assumption | omega), (by first | assumption | exact vp_in_nI (by omega) (by omega) | (unfold vp_in; decide)), ?_⟩
    | refine ⟨(by first | exact Nat.zero_lt_one | assumption | omega), rfl, ?_⟩
    | refine ⟨⟨(by first | exact Nat.zero_lt_one | assumption | omega), rfl⟩, Nat.le_of_ble_eq_true rfl, ?_⟩
    | refine ⟨(by first | exact Nat.zero_lt_one | assumption | omega), ?_⟩
    | refine ⟨Or.inl rfl, ?_⟩
    | refine ⟨Or.inr (Or.inl rfl), ?_⟩
    | refine ⟨Or.inr (Or.inr rfl), ?_⟩
    | refine ⟨Or.inr ⟨rfl, (by first | exact Or.inl rfl | exact Or.inr rfl | assumption)⟩, ?_⟩
    | refine ⟨fun h => absurd h (by decide), fun _ => ?_⟩
    | refine ⟨fun _ => ?_, fun h => absurd h (by decide)⟩
    | refine ⟨fun h => ?_, fun h => ?_⟩
    | fail)
def cRank (μ : zMu) (p : Nat) : Int32 := if μ 17 p 4 = 3 then cOwn μ (μ 11 0 p).toNatClampNeg else if μ 17 p 4 = 4 then (if 9 < cOwn μ (μ 11 0 p).toNatClampNeg + 1 then 9 else cOwn μ (μ 11 0 p).toNatClampNeg + 1) else cOwn μ p
def cPq (μ : zMu) (p : Nat) : Nat := if μ 17 p 4 = 3 then (μ 11 0 p).toNatClampNeg else p
def cPap (μ : zMu) (p : Nat) : Int32 := if μ 16 0 (cPq μ p) = 0 then 99999999 else μ 16 0 (cPq μ p)
/-- a person that is of another has one -/
def cOf (μ : zMu) (p : Nat) : Prop := (μ 17 p 4 = 3 ∨ μ 17 p 4 = 4) → vp_in (μ 11 0 p) 20
theorem i32_ne {x : Int32} {c : Int32} (h : ¬ x.toInt = c.toInt) : ¬ x = c := fun e => h (congrArg Int32.toInt e)
theorem i32_inj {x : Int32} {c : Int32} (h : x.toInt = c.toInt) : x = c := Int32.toInt_inj.mp h
theorem c_Ro_rankOf {d : Nat} {μ : zMu} {p : Int32} {K : Option zV → zMu → Prop} (hp : vp_in p 20) (ho : cOf μ p.toNatClampNeg) (hK : K (some (zI (cRank μ p.toNatClampNeg))) μ) : Ct (d + 2) m_Ro_rankOf [zR 1 0, zI p] μ K := by
  refine zmeet rfl (Nat.le_of_ble_eq_true rfl) (fun S => ?_)
  have hp2 := vp_lt hp
  unfold cRank at hK
  repeat' (first
    | refine c_Ro_ownRankOf hp ?_
    | refine c_Ro_ownRankOf (ho (Or.inl (i32_inj (by assumption)))) ?_
    | refine c_Ro_ownRankOf (ho (Or.inr (i32_inj (by assumption)))) ?_
    | refine c_Jmath_min ?_
    | exact (by rw [if_pos (i32_inj (by assumption))] at hK; exact hK)
    | exact (by rw [if_neg (i32_ne (by assumption)), if_pos (i32_inj (by assumption))] at hK; exact hK)
    | exact (by rw [if_neg (i32_ne (by assumption)), if_neg (i32_ne (by assumption))] at hK; exact hK)
    | refine zs k_Ro_rankOf rfl ?_
    | refine ⟨Nat.zero_lt_one, rfl, ?_⟩
    | refine ⟨rfl, ?_⟩
    | refine ⟨⟨Nat.zero_lt_one, rfl⟩, Nat.le_of_ble_eq_true rfl, ?_⟩
    | refine ⟨Nat.le_of_ble_eq_true rfl, Nat.le_of_ble_eq_true rfl, ?_⟩
    | refine ⟨(by first | exact Nat.zero_lt_one | assumption | omega), (by first | assumption | exact vp_in_nI (by omega) (by omega) | (unfold vp_in; decide)), ?_⟩
    | refine ⟨(by first | exact Nat.zero_lt_one | assumption | omega), rfl, ?_⟩
    | refine ⟨⟨(by first | exact Nat.zero_lt_one | assumption | omega), rfl⟩, Nat.le_of_ble_eq_true rfl, ?_⟩
    | refine ⟨(by first | exact Nat.zero_lt_one | assumption | omega), ?_⟩
    | refine ⟨Or.inl rfl, ?_⟩
    | refine ⟨Or.inr (Or.inl rfl), ?_⟩
    | refine ⟨Or.inr (Or.inr rfl), ?_⟩
    | refine ⟨Or.inr ⟨rfl, (by first | exact Or.inl rfl | exact Or.inr rfl | assumption)⟩, ?_⟩
    | refine ⟨fun h => absurd h (by decide), fun _ => ?_⟩
    | refine ⟨fun _ => ?_, fun h => absurd h (by decide)⟩
    | refine ⟨fun h => ?_, fun h => ?_⟩
    | fail)
theorem c_Ro_refreshFields {d : Nat} {μ : zMu} {p : Int32} {K : Option zV → zMu → Prop} (hp : vp_in p 20) (ho : cOf μ p.toNatClampNeg) (hK : K none (zu (zu μ 17 p.toNatClampNeg 0 (cRank μ p.toNatClampNeg)) 17 p.toNatClampNeg 1 (cPap μ p.toNatClampNeg))) : Ct (d + 3) m_Ro_refreshFields [zR 1 0, zI p] μ K := by
  refine zmeet rfl (Nat.le_of_ble_eq_true rfl) (fun S => ?_)
  have hp2 := vp_lt hp
  repeat' (first
    | refine c_Ro_rankOf hp ho ?_
    | refine c_Ro_isOfKind hp (fun hk => ?_) (fun hk => ?_)
    | refine c_Ro_paperOf (ho (Or.inl hk)) ?_
    | refine c_Ro_paperOf hp ?_
    | exact (by rw [cPap, show cPq μ p.toNatClampNeg = (μ 11 0 p.toNatClampNeg).toNatClampNeg from if_pos hk] at hK; exact hK)
    | exact (by rw [cPap, show cPq μ p.toNatClampNeg = p.toNatClampNeg from if_neg hk] at hK; exact hK)
    | refine zs k_Ro_refreshFields rfl ?_
    | refine ⟨Nat.zero_lt_one, rfl, ?_⟩
    | refine ⟨rfl, ?_⟩
    | refine ⟨⟨Nat.zero_lt_one, rfl⟩, Nat.le_of_ble_eq_true rfl, ?_⟩
    | refine ⟨Nat.le_of_ble_eq_true rfl, Nat.le_of_ble_eq_true rfl, ?_⟩
    | refine ⟨(by first | exact Nat.zero_lt_one | assumption | omega), (by first | assumption | exact vp_in_nI (by omega) (by omega) | (unfold vp_in; decide)), ?_⟩
    | refine ⟨(by first | exact Nat.zero_lt_one | assumption | omega), rfl, ?_⟩
    | refine ⟨⟨(by first | exact Nat.zero_lt_one | assumption | omega), rfl⟩, Nat.le_of_ble_eq_true rfl, ?_⟩
    | refine ⟨(by first | exact Nat.zero_lt_one | assumption | omega), ?_⟩
    | refine ⟨Or.inl rfl, ?_⟩
    | refine ⟨Or.inr (Or.inl rfl), ?_⟩
    | refine ⟨Or.inr (Or.inr rfl), ?_⟩
    | refine ⟨Or.inr ⟨rfl, (by first | exact Or.inl rfl | exact Or.inr rfl | assumption)⟩, ?_⟩
    | refine ⟨fun h => absurd h (by decide), fun _ => ?_⟩
    | refine ⟨fun _ => ?_, fun h => absurd h (by decide)⟩
    | refine ⟨fun h => ?_, fun h => ?_⟩
    | fail)
theorem c_Ro_setHome {d : Nat} {μ : zMu} {p q : Int32} {K : Option zV → zMu → Prop} (hp : vp_in p 20) (hq : vp_in q 10) (hK : K none (zu (zu (zu μ 17 p.toNatClampNeg 5 q) 17 p.toNatClampNeg 2 (μ 13 0 q.toNatClampNeg)) 17 p.toNatClampNeg 6 (μ 14 0 q.toNatClampNeg))) : Ct d m_Ro_setHome [zR 1 0, zI p, zI q] μ K := by
  refine zmeet rfl (Nat.le_of_ble_eq_true rfl) (fun S => ?_)
  have hp2 := vp_lt hp
  repeat' (first
    | exact hK
    | refine zs k_Ro_setHome rfl ?_
    | refine ⟨Nat.zero_lt_one, rfl, ?_⟩
    | refine ⟨rfl, ?_⟩
    | refine ⟨⟨Nat.zero_lt_one, rfl⟩, Nat.le_of_ble_eq_true rfl, ?_⟩
    | refine ⟨Nat.le_of_ble_eq_true rfl, Nat.le_of_ble_eq_true rfl, ?_⟩
    | refine ⟨(by first | exact Nat.zero_lt_one | assumption | omega), (by first | assumption | exact vp_in_nI (by omega) (by omega) | (unfold vp_in; decide)), ?_⟩
    | refine ⟨(by first | exact Nat.zero_lt_one | assumption | omega), rfl, ?_⟩
    | refine ⟨⟨(by first | exact Nat.zero_lt_one | assumption | omega), rfl⟩, Nat.le_of_ble_eq_true rfl, ?_⟩
    | refine ⟨(by first | exact Nat.zero_lt_one | assumption | omega), ?_⟩
    | refine ⟨Or.inl rfl, ?_⟩
    | refine ⟨Or.inr (Or.inl rfl), ?_⟩
    | refine ⟨Or.inr (Or.inr rfl), ?_⟩
    | refine ⟨Or.inr ⟨rfl, (by first | exact Or.inl rfl | exact Or.inr rfl | assumption)⟩, ?_⟩
    | refine ⟨fun h => absurd h (by decide), fun _ => ?_⟩
    | refine ⟨fun _ => ?_, fun h => absurd h (by decide)⟩
    | refine ⟨fun h => ?_, fun h => ?_⟩
    | fail)

/-- behind a new person's own numbers -/
def cNew (μ : zMu) (n : Nat) (home kind rank since of : Int32) : zMu := zu (zu (zu (zu (zu (zu (zu (zu (zu (zu μ 1 0 1 (μ 1 0 1 + 1)) 17 n 4 kind) 17 n 3 since) 15 0 n rank) 16 0 n 0) 11 0 n of) 10 0 n 1) 17 n 5 home) 17 n 2 (μ 13 0 home.toNatClampNeg)) 17 n 6 (μ 14 0 home.toNatClampNeg)
theorem c_Ro_addPerson {d : Nat} {μ : zMu} {home kind rank since of : Int32} {K : Option zV → zMu → Prop} (hp : vp_in (μ 1 0 1) 20) (hh : vp_in home 10) (ho : cOf (cNew μ (μ 1 0 1).toNatClampNeg home kind rank since of) (μ 1 0 1).toNatClampNeg)
    (hK : K (some (zI (μ 1 0 1))) (zu (zu (cNew μ (μ 1 0 1).toNatClampNeg home kind rank since of) 17 (μ 1 0 1).toNatClampNeg 0 (cRank (cNew μ (μ 1 0 1).toNatClampNeg home kind rank since of) (μ 1 0 1).toNatClampNeg)) 17 (μ 1 0 1).toNatClampNeg 1 (cPap (cNew μ (μ 1 0 1).toNatClampNeg home kind rank since of) (μ 1 0 1).toNatClampNeg))) : Ct (d + 4) m_Ro_addPerson [zR 1 0, zI home, zI kind, zI rank, zI since, zI of] μ K := by
  refine zmeet rfl (Nat.le_of_ble_eq_true rfl) (fun S => ?_)
  have hp2 := vp_lt hp
  repeat' (first
    | refine c_Ro_setHome hp hh ?_
    | refine c_Ro_refreshFields (p := μ 1 0 1) hp ho ?_
    | exact hK
    | refine zs k_Ro_addPerson rfl ?_
    | refine ⟨Nat.zero_lt_one, rfl, ?_⟩
    | refine ⟨rfl, ?_⟩
    | refine ⟨⟨Nat.zero_lt_one, rfl⟩, Nat.le_of_ble_eq_true rfl, ?_⟩
    | refine ⟨Nat.le_of_ble_eq_true rfl, Nat.le_of_ble_eq_true rfl, ?_⟩
    | refine ⟨(by first | exact Nat.zero_lt_one | assumption | omega), (by first | assumption | exact vp_in_nI (by omega) (by omega) | (unfold vp_in; decide)), ?_⟩
    | refine ⟨(by first | exact Nat.zero_lt_one | assumption | omega), rfl, ?_⟩
    | refine ⟨⟨(by first | exact Nat.zero_lt_one | assumption | omega), rfl⟩, Nat.le_of_ble_eq_true rfl, ?_⟩
    | refine ⟨(by first | exact Nat.zero_lt_one | assumption | omega), ?_⟩
    | refine ⟨Or.inl rfl, ?_⟩
    | refine ⟨Or.inr (Or.inl rfl), ?_⟩
    | refine ⟨Or.inr (Or.inr rfl), ?_⟩
    | refine ⟨Or.inr ⟨rfl, (by first | exact Or.inl rfl | exact Or.inr rfl | assumption)⟩, ?_⟩
    | refine ⟨fun h => absurd h (by decide), fun _ => ?_⟩
    | refine ⟨fun _ => ?_, fun h => absurd h (by decide)⟩
    | refine ⟨fun h => ?_, fun h => ?_⟩
    | fail)
