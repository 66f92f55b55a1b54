/-! TAPE: words and numbers -/
/-- a word of a list with blanks between is sought: its index and length, or how far one fits -/
def pWord (b : Nat → Int32) : List Int32 → Nat → Nat → Nat → Bool → (Nat × Nat) ⊕ Nat
  | [], ix, mt, lg, ft => if ft then .inl (ix, mt) else .inr lg
  | c :: r, ix, mt, lg, ft => if c = 32 then (if ft then .inl (ix, mt) else pWord b r (ix + 1) 0 lg true) else if ft = true ∧ b mt = c then pWord b r ix (mt + 1) (if lg < mt + 1 then mt + 1 else lg) true else pWord b r ix mt lg false
/-- readWord: the answer, place and fault -/
def pRdW (a : Nat → Int32) (n at_ : Nat) (fl : Int32) (tx : List Int32) : Int32 × Nat × Int32 :=
  if fl = -1 then (match pWord (fun j => pB a n (at_ + j)) tx 0 0 0 true with
    | .inl q => (nI q.1, at_ + q.2, -1)
    | .inr lg => (-1, at_, nI (at_ + lg))) else (-1, at_, fl)
theorem zLen_tx {k : Nat} (hk : k < 13) : (zByt.getD k []).length = zLen.getD k 0 := ((zbyt_all k hk).1).symm
set_option maxHeartbeats 4000000 in
theorem c_Tp_readWord {d n at_ k : Nat} {μ : zMu} {K : Option zV → zMu → Prop} (hk : k < 13) (hn : μ 2 0 0 = nI n) (h200 : n ≤ 200) (hat : μ 2 0 2 = nI at_) (ha : at_ ≤ 1000) (hK : K (some (zI (pRdW (μ 18 0) n at_ (μ 2 0 3) (zByt.getD k [])).1)) (cAt μ (pRdW (μ 18 0) n at_ (μ 2 0 3) (zByt.getD k [])).2)) : Ct (d + 4) m_Tp_readWord [zR 2 0, zR 200 k] μ K := by
  refine zmeet rfl (Nat.le_of_ble_eq_true rfl) (fun S => ?_)
  have hid := cAt_id hat
  have hl100 : zLen.getD k 0 < 100 := (by decide : ∀ k, k < 13 → zLen.getD k 0 < 100) k hk
  have htx := zLen_tx hk
  unfold pRdW at hK
  by_cases hf : μ 2 0 3 = -1
  · rw [if_pos hf] at hK
    generalize hR : pWord (fun j => pB (μ 18 0) n (at_ + j)) (zByt.getD k []) 0 0 0 true = Rv at hK
    have L : ∀ (r : List Int32) (i ix mt lg : Nat) (ft : Bool) (xi xm xl xf xv : Int32) (l7 : Option zV), (zByt.getD k []).drop i = r → i ≤ zLen.getD k 0 → mt ≤ i → lg ≤ i → ix ≤ i → pWord (fun j => pB (μ 18 0) n (at_ + j)) r ix mt lg ft = Rv → xi = nI ix → xm = nI mt → xl = nI lg → xf = (if ft then 1 else 0) → xv = nI i → zG S (d + 4) m_Tp_readWord K 23 [some (zR 2 0), some (zR 200 k), some (zI xi), some (zI xm), some (zI xl), some (zI xf), some (zI xv), l7] [] μ := by
      intro r
      induction r with
      | nil =>
        intro i ix mt lg ft xi xm xl xf xv l7 hr hi hmt hlg hix hpw e1 e2 e3 e4 e5
        have hil : i = zLen.getD k 0 := by
          have := List.drop_eq_nil_iff.mp hr
          omega
        subst e1 e2 e3 e4 e5
        subst hil
        have hn1 : ¬ nI (zLen.getD k 0) < nI (zLen.getD k 0) := nI_nlt (Nat.le_refl _) (by omega)
        have hn2 : nI (zLen.getD k 0) < nI (zLen.getD k 0) + 1 := by rw [nI_1]; exact nI_lt (by omega) (by omega)
        have hat2 : μ 2 0 2 + nI mt = nI (at_ + mt) := by rw [hat, nI_add]
        have hat3 : μ 2 0 2 + nI lg = nI (at_ + lg) := by rw [hat, nI_add]
        cases ft with
        | true =>
          have hRv : Rv = .inl (ix, mt) := hpw.symm
          rw [hRv] at hK
          refine zs k_Tp_readWord rfl ?_
          repeat' (first
            | refine ⟨⟨rfl, hk⟩, Nat.le_of_ble_eq_true rfl, ?_⟩
            | refine c_Jstr_length hk ?_
            | refine br_f hn1 ?_
            | refine br_t rfl ?_
            | refine zKe hK rfl ?_
            | refine zs k_Tp_readWord rfl ?_
            | refine ⟨Nat.zero_lt_one, rfl, ?_⟩
            | refine ⟨rfl, ?_⟩
            | refine ⟨⟨Nat.zero_lt_one, rfl⟩, Nat.le_of_ble_eq_true rfl, ?_⟩
            | refine ⟨Nat.le_of_ble_eq_true rfl, Nat.le_of_ble_eq_true rfl, ?_⟩
            | refine ⟨(by first | exact Nat.zero_lt_one | assumption | omega), (by first | assumption | exact vp_in_nI (by omega) (by omega) | (unfold vp_in; decide)), ?_⟩
            | refine ⟨(by first | exact Nat.zero_lt_one | assumption | omega), rfl, ?_⟩
            | refine ⟨⟨(by first | exact Nat.zero_lt_one | assumption | omega), rfl⟩, Nat.le_of_ble_eq_true rfl, ?_⟩
            | refine ⟨(by first | exact Nat.zero_lt_one | assumption | omega), ?_⟩
            | refine ⟨Or.inl rfl, ?_⟩
            | refine ⟨Or.inr (Or.inl rfl), ?_⟩
            | refine ⟨Or.inr (Or.inr rfl), ?_⟩
            | refine ⟨Or.inr ⟨rfl, (by first | exact Or.inl rfl | exact Or.inr rfl | assumption)⟩, ?_⟩
            | refine ⟨fun h => absurd h (by decide), fun _ => ?_⟩
            | refine ⟨fun _ => ?_, fun h => absurd h (by decide)⟩
            | refine ⟨fun h => ?_, fun h => ?_⟩
            | fail)
          funext f a b
          simp only [cAt, zu]
          grind
        | false =>
          have hRv : Rv = .inr lg := hpw.symm
          rw [hRv] at hK
          refine zs k_Tp_readWord rfl ?_
          repeat' (first
            | refine ⟨⟨rfl, hk⟩, Nat.le_of_ble_eq_true rfl, ?_⟩
            | refine c_Jstr_length hk ?_
            | refine br_f hn1 ?_
            | refine br_t rfl ?_
            | refine br_t hn2 ?_
            | refine c_Tp_fail ?_
            | refine zKe hK rfl ?_
            | refine zs k_Tp_readWord rfl ?_
            | refine ⟨Nat.zero_lt_one, rfl, ?_⟩
            | refine ⟨rfl, ?_⟩
            | refine ⟨⟨Nat.zero_lt_one, rfl⟩, Nat.le_of_ble_eq_true rfl, ?_⟩
            | refine ⟨Nat.le_of_ble_eq_true rfl, Nat.le_of_ble_eq_true rfl, ?_⟩
            | refine ⟨(by first | exact Nat.zero_lt_one | assumption | omega), (by first | assumption | exact vp_in_nI (by omega) (by omega) | (unfold vp_in; decide)), ?_⟩
            | refine ⟨(by first | exact Nat.zero_lt_one | assumption | omega), rfl, ?_⟩
            | refine ⟨⟨(by first | exact Nat.zero_lt_one | assumption | omega), rfl⟩, Nat.le_of_ble_eq_true rfl, ?_⟩
            | refine ⟨(by first | exact Nat.zero_lt_one | assumption | omega), ?_⟩
            | refine ⟨Or.inl rfl, ?_⟩
            | refine ⟨Or.inr (Or.inl rfl), ?_⟩
            | refine ⟨Or.inr (Or.inr rfl), ?_⟩
            | refine ⟨Or.inr ⟨rfl, (by first | exact Or.inl rfl | exact Or.inr rfl | assumption)⟩, ?_⟩
            | refine ⟨fun h => absurd h (by decide), fun _ => ?_⟩
            | refine ⟨fun _ => ?_, fun h => absurd h (by decide)⟩
            | refine ⟨fun h => ?_, fun h => ?_⟩
            | fail)
          rw [if_pos hf]
          funext f a b
          simp only [cAt, zu]
          grind
      | cons c r ih =>
        intro i ix mt lg ft xi xm xl xf xv l7 hr hi hmt hlg hix hpw e1 e2 e3 e4 e5
        obtain ⟨hlt, hgc, hdr, -⟩ := sc_dropC hr
        rw [htx] at hlt
        subst e1 e2 e3 e4 e5
        have hn1 : ¬ nI (zLen.getD k 0) < nI i := nI_nlt (by omega) (by omega)
        have hn2 : ¬ nI i = nI (zLen.getD k 0) := fun h => absurd ((nI_eq (by omega) (by omega)).mp h) (by omega)
        have hat2 : μ 2 0 2 + nI mt = nI (at_ + mt) := by rw [hat, nI_add]
        have hch : zch k i = c := hgc
        by_cases hc : c = 32
        · cases ft with
          | true =>
            have hRv : Rv = .inl (ix, mt) := by rw [← hpw, pWord, if_pos hc]; rfl
            rw [hRv] at hK
            refine zs k_Tp_readWord rfl ?_
            repeat' (first
              | refine ⟨⟨rfl, hk⟩, Nat.le_of_ble_eq_true rfl, ?_⟩
              | refine c_Jstr_length hk ?_
              | (refine c_Jstr_charAt (j := i) hk hlt rfl ?_; rw [hch])
              | refine br_f hn1 ?_
              | refine br_f hn2 ?_
              | refine ⟨fun h => absurd hc h, fun _ => ?_⟩
              | refine zKe hK rfl ?_
              | refine zs k_Tp_readWord rfl ?_
              | refine ⟨Nat.zero_lt_one, rfl, ?_⟩
              | refine ⟨rfl, ?_⟩
              | refine ⟨⟨Nat.zero_lt_one, rfl⟩, Nat.le_of_ble_eq_true rfl, ?_⟩
              | refine ⟨Nat.le_of_ble_eq_true rfl, Nat.le_of_ble_eq_true rfl, ?_⟩
              | refine ⟨(by first | exact Nat.zero_lt_one | assumption | omega), (by first | assumption | exact vp_in_nI (by omega) (by omega) | (unfold vp_in; decide)), ?_⟩
              | refine ⟨(by first | exact Nat.zero_lt_one | assumption | omega), rfl, ?_⟩
              | refine ⟨⟨(by first | exact Nat.zero_lt_one | assumption | omega), rfl⟩, Nat.le_of_ble_eq_true rfl, ?_⟩
              | refine ⟨(by first | exact Nat.zero_lt_one | assumption | omega), ?_⟩
              | refine ⟨Or.inl rfl, ?_⟩
              | refine ⟨Or.inr (Or.inl rfl), ?_⟩
              | refine ⟨Or.inr (Or.inr rfl), ?_⟩
              | refine ⟨Or.inr ⟨rfl, (by first | exact Or.inl rfl | exact Or.inr rfl | assumption)⟩, ?_⟩
              | refine ⟨fun h => absurd h (by decide), fun _ => ?_⟩
              | refine ⟨fun _ => ?_, fun h => absurd h (by decide)⟩
              | refine ⟨fun h => ?_, fun h => ?_⟩
              | fail)
            funext f a b
            simp only [cAt, zu]
            grind
          | false =>
            rw [pWord, if_pos hc] at hpw
            refine zs k_Tp_readWord rfl ?_
            repeat' (first
              | refine ⟨⟨rfl, hk⟩, Nat.le_of_ble_eq_true rfl, ?_⟩
              | refine c_Jstr_length hk ?_
              | (refine c_Jstr_charAt (j := i) hk hlt rfl ?_; rw [hch])
              | refine br_f hn1 ?_
              | refine br_f hn2 ?_
              | refine ⟨fun h => absurd hc h, fun _ => ?_⟩
              | refine ih (i + 1) (ix + 1) 0 lg true _ _ _ _ _ _ hdr (by omega) (by omega) (by omega) (by omega) hpw (by exact nI_1 ix) rfl rfl rfl (by exact nI_1 i)
              | refine zs k_Tp_readWord rfl ?_
              | refine ⟨Nat.zero_lt_one, rfl, ?_⟩
              | refine ⟨rfl, ?_⟩
              | refine ⟨⟨Nat.zero_lt_one, rfl⟩, Nat.le_of_ble_eq_true rfl, ?_⟩
              | refine ⟨Nat.le_of_ble_eq_true rfl, Nat.le_of_ble_eq_true rfl, ?_⟩
              | refine ⟨(by first | exact Nat.zero_lt_one | assumption | omega), (by first | assumption | exact vp_in_nI (by omega) (by omega) | (unfold vp_in; decide)), ?_⟩
              | refine ⟨(by first | exact Nat.zero_lt_one | assumption | omega), rfl, ?_⟩
              | refine ⟨⟨(by first | exact Nat.zero_lt_one | assumption | omega), rfl⟩, Nat.le_of_ble_eq_true rfl, ?_⟩
              | refine ⟨(by first | exact Nat.zero_lt_one | assumption | omega), ?_⟩
              | refine ⟨Or.inl rfl, ?_⟩
              | refine ⟨Or.inr (Or.inl rfl), ?_⟩
              | refine ⟨Or.inr (Or.inr rfl), ?_⟩
              | refine ⟨Or.inr ⟨rfl, (by first | exact Or.inl rfl | exact Or.inr rfl | assumption)⟩, ?_⟩
              | refine ⟨fun h => absurd h (by decide), fun _ => ?_⟩
              | refine ⟨fun _ => ?_, fun h => absurd h (by decide)⟩
              | refine ⟨fun h => ?_, fun h => ?_⟩
              | fail)
        · rw [pWord, if_neg hc] at hpw
          cases ft with
          | false =>
            rw [if_neg (by simp)] at hpw
            refine zs k_Tp_readWord rfl ?_
            repeat' (first
              | refine ⟨⟨rfl, hk⟩, Nat.le_of_ble_eq_true rfl, ?_⟩
              | refine c_Jstr_length hk ?_
              | (refine c_Jstr_charAt (j := i) hk hlt rfl ?_; rw [hch])
              | refine br_f hn1 ?_
              | refine br_f hn2 ?_
              | refine ⟨fun _ => ?_, fun h => absurd h hc⟩
              | refine ih (i + 1) ix mt lg false _ _ _ _ _ _ hdr (by omega) (by omega) (by omega) (by omega) hpw rfl rfl rfl rfl (by exact nI_1 i)
              | refine zs k_Tp_readWord rfl ?_
              | refine ⟨Nat.zero_lt_one, rfl, ?_⟩
              | refine ⟨rfl, ?_⟩
              | refine ⟨⟨Nat.zero_lt_one, rfl⟩, Nat.le_of_ble_eq_true rfl, ?_⟩
              | refine ⟨Nat.le_of_ble_eq_true rfl, Nat.le_of_ble_eq_true rfl, ?_⟩
              | refine ⟨(by first | exact Nat.zero_lt_one | assumption | omega), (by first | assumption | exact vp_in_nI (by omega) (by omega) | (unfold vp_in; decide)), ?_⟩
              | refine ⟨(by first | exact Nat.zero_lt_one | assumption | omega), rfl, ?_⟩
              | refine ⟨⟨(by first | exact Nat.zero_lt_one | assumption | omega), rfl⟩, Nat.le_of_ble_eq_true rfl, ?_⟩
              | refine ⟨(by first | exact Nat.zero_lt_one | assumption | omega), ?_⟩
              | refine ⟨Or.inl rfl, ?_⟩
              | refine ⟨Or.inr (Or.inl rfl), ?_⟩
              | refine ⟨Or.inr (Or.inr rfl), ?_⟩
              | refine ⟨Or.inr ⟨rfl, (by first | exact Or.inl rfl | exact Or.inr rfl | assumption)⟩, ?_⟩
              | refine ⟨fun h => absurd h (by decide), fun _ => ?_⟩
              | refine ⟨fun _ => ?_, fun h => absurd h (by decide)⟩
              | refine ⟨fun h => ?_, fun h => ?_⟩
              | fail)
          | true =>
            by_cases hb : pB (μ 18 0) n (at_ + mt) = c
            · rw [if_pos ⟨rfl, hb⟩] at hpw
              refine zs k_Tp_readWord rfl ?_
              repeat' (first
                | refine ⟨⟨rfl, hk⟩, Nat.le_of_ble_eq_true rfl, ?_⟩
                | refine c_Jstr_length hk ?_
                | (refine c_Jstr_charAt (j := i) hk hlt rfl ?_; rw [hch])
                | refine c_Tp_byteAt (j := at_ + mt) hn h200 (by omega) hat2 ?_
                | refine c_Jmath_max ?_
                | refine br_f hn1 ?_
                | refine br_f hn2 ?_
                | refine ⟨fun _ => ?_, fun h => absurd h hc⟩
                | refine ⟨fun h => absurd hb h, fun _ => ?_⟩
                | refine ih (i + 1) ix (mt + 1) (if lg < mt + 1 then mt + 1 else lg) true _ _ _ _ _ _ hdr (by omega) (by omega) (by split <;> omega) (by omega) hpw rfl (by exact nI_1 mt) ?_ rfl (by exact nI_1 i)
                | refine zs k_Tp_readWord rfl ?_
                | refine ⟨Nat.zero_lt_one, rfl, ?_⟩
                | refine ⟨rfl, ?_⟩
                | refine ⟨⟨Nat.zero_lt_one, rfl⟩, Nat.le_of_ble_eq_true rfl, ?_⟩
                | refine ⟨Nat.le_of_ble_eq_true rfl, Nat.le_of_ble_eq_true rfl, ?_⟩
                | refine ⟨(by first | exact Nat.zero_lt_one | assumption | omega), (by first | assumption | exact vp_in_nI (by omega) (by omega) | (unfold vp_in; decide)), ?_⟩
                | refine ⟨(by first | exact Nat.zero_lt_one | assumption | omega), rfl, ?_⟩
                | refine ⟨⟨(by first | exact Nat.zero_lt_one | assumption | omega), rfl⟩, Nat.le_of_ble_eq_true rfl, ?_⟩
                | refine ⟨(by first | exact Nat.zero_lt_one | assumption | omega), ?_⟩
                | refine ⟨Or.inl rfl, ?_⟩
                | refine ⟨Or.inr (Or.inl rfl), ?_⟩
                | refine ⟨Or.inr (Or.inr rfl), ?_⟩
                | refine ⟨Or.inr ⟨rfl, (by first | exact Or.inl rfl | exact Or.inr rfl | assumption)⟩, ?_⟩
                | refine ⟨fun h => absurd h (by decide), fun _ => ?_⟩
                | refine ⟨fun _ => ?_, fun h => absurd h (by decide)⟩
                | refine ⟨fun h => ?_, fun h => ?_⟩
                | fail)
              rw [nI_1]
              by_cases hlm : lg < mt + 1
              · rw [if_pos hlm, if_pos (nI_lt hlm (by omega))]
              · rw [if_neg hlm, if_neg (nI_nlt (by omega) (by omega))]
            · rw [if_neg (fun h => hb h.2)] at hpw
              refine zs k_Tp_readWord rfl ?_
              repeat' (first
                | refine ⟨⟨rfl, hk⟩, Nat.le_of_ble_eq_true rfl, ?_⟩
                | refine c_Jstr_length hk ?_
                | (refine c_Jstr_charAt (j := i) hk hlt rfl ?_; rw [hch])
                | refine c_Tp_byteAt (j := at_ + mt) hn h200 (by omega) hat2 ?_
                | refine br_f hn1 ?_
                | refine br_f hn2 ?_
                | refine ⟨fun _ => ?_, fun h => absurd h hc⟩
                | refine ⟨fun _ => ?_, fun h => absurd h hb⟩
                | refine ih (i + 1) ix mt lg false _ _ _ _ _ _ hdr (by omega) (by omega) (by omega) (by omega) hpw rfl rfl rfl rfl (by exact nI_1 i)
                | refine zs k_Tp_readWord rfl ?_
                | refine ⟨Nat.zero_lt_one, rfl, ?_⟩
                | refine ⟨rfl, ?_⟩
                | refine ⟨⟨Nat.zero_lt_one, rfl⟩, Nat.le_of_ble_eq_true rfl, ?_⟩
                | refine ⟨Nat.le_of_ble_eq_true rfl, Nat.le_of_ble_eq_true rfl, ?_⟩
                | refine ⟨(by first | exact Nat.zero_lt_one | assumption | omega), (by first | assumption | exact vp_in_nI (by omega) (by omega) | (unfold vp_in; decide)), ?_⟩
                | refine ⟨(by first | exact Nat.zero_lt_one | assumption | omega), rfl, ?_⟩
                | refine ⟨⟨(by first | exact Nat.zero_lt_one | assumption | omega), rfl⟩, Nat.le_of_ble_eq_true rfl, ?_⟩
                | refine ⟨(by first | exact Nat.zero_lt_one | assumption | omega), ?_⟩
                | refine ⟨Or.inl rfl, ?_⟩
                | refine ⟨Or.inr (Or.inl rfl), ?_⟩
                | refine ⟨Or.inr (Or.inr rfl), ?_⟩
                | refine ⟨Or.inr ⟨rfl, (by first | exact Or.inl rfl | exact Or.inr rfl | assumption)⟩, ?_⟩
                | refine ⟨fun h => absurd h (by decide), fun _ => ?_⟩
                | refine ⟨fun _ => ?_, fun h => absurd h (by decide)⟩
                | refine ⟨fun h => ?_, fun h => ?_⟩
                | fail)
    repeat' (first
      | refine br_t hf ?_
      | refine L (zByt.getD k []) 0 0 0 0 true _ _ _ _ _ _ rfl (by omega) (by omega) (by omega) (by omega) hR rfl rfl rfl rfl rfl
      | refine zs k_Tp_readWord rfl ?_
      | refine ⟨Nat.zero_lt_one, rfl, ?_⟩
      | refine ⟨rfl, ?_⟩
      | refine ⟨⟨Nat.zero_lt_one, rfl⟩, Nat.le_of_ble_eq_true rfl, ?_⟩
      | refine ⟨Nat.le_of_ble_eq_true rfl, Nat.le_of_ble_eq_true rfl, ?_⟩
      | refine ⟨(by first | exact Nat.zero_lt_one | assumption | omega), (by first | assumption | exact vp_in_nI (by omega) (by omega) | (unfold vp_in; decide)), ?_⟩
      | refine ⟨(by first | exact Nat.zero_lt_one | assumption | omega), rfl, ?_⟩
      | refine ⟨⟨(by first | exact Nat.zero_lt_one | assumption | omega), rfl⟩, Nat.le_of_ble_eq_true rfl, ?_⟩
      | refine ⟨(by first | exact Nat.zero_lt_one | assumption | omega), ?_⟩
      | refine ⟨Or.inl rfl, ?_⟩
      | refine ⟨Or.inr (Or.inl rfl), ?_⟩
      | refine ⟨Or.inr (Or.inr rfl), ?_⟩
      | refine ⟨Or.inr ⟨rfl, (by first | exact Or.inl rfl | exact Or.inr rfl | assumption)⟩, ?_⟩
      | refine ⟨fun h => absurd h (by decide), fun _ => ?_⟩
      | refine ⟨fun _ => ?_, fun h => absurd h (by decide)⟩
      | refine ⟨fun h => ?_, fun h => ?_⟩
      | fail)
  · rw [if_neg hf, hid] at hK
    repeat' (first
      | refine br_f hf ?_
      | exact hK
      | refine zs k_Tp_readWord rfl ?_
      | refine ⟨Nat.zero_lt_one, rfl, ?_⟩
      | refine ⟨rfl, ?_⟩
      | refine ⟨⟨Nat.zero_lt_one, rfl⟩, Nat.le_of_ble_eq_true rfl, ?_⟩
      | refine ⟨Nat.le_of_ble_eq_true rfl, Nat.le_of_ble_eq_true rfl, ?_⟩
      | refine ⟨(by first | exact Nat.zero_lt_one | assumption | omega), (by first | assumption | exact vp_in_nI (by omega) (by omega) | (unfold vp_in; decide)), ?_⟩
      | refine ⟨(by first | exact Nat.zero_lt_one | assumption | omega), rfl, ?_⟩
      | refine ⟨⟨(by first | exact Nat.zero_lt_one | assumption | omega), rfl⟩, Nat.le_of_ble_eq_true rfl, ?_⟩
      | refine ⟨(by first | exact Nat.zero_lt_one | assumption | omega), ?_⟩
      | refine ⟨Or.inl rfl, ?_⟩
      | refine ⟨Or.inr (Or.inl rfl), ?_⟩
      | refine ⟨Or.inr (Or.inr rfl), ?_⟩
      | refine ⟨Or.inr ⟨rfl, (by first | exact Or.inl rfl | exact Or.inr rfl | assumption)⟩, ?_⟩
      | refine ⟨fun h => absurd h (by decide), fun _ => ?_⟩
      | refine ⟨fun _ => ?_, fun h => absurd h (by decide)⟩
      | refine ⟨fun h => ?_, fun h => ?_⟩
      | fail)
