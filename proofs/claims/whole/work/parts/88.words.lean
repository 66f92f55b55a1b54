/-! WORDS: what both sides read -/
def pfx (b : Nat → Int32) : List Int32 → Nat → Nat
  | [], _ => 0
  | c :: r, i => if b i = c then pfx b r (i + 1) + 1 else 0
theorem pfx_le {b : Nat → Int32} : ∀ {w : List Int32} {i : Nat}, pfx b w i ≤ w.length
  | [], _ => Nat.le_refl _
  | c :: r, i => by
    rw [pfx]
    split
    · have := pfx_le (b := b) (w := r) (i := i + 1)
      rw [List.length_cons]
      omega
    · exact Nat.zero_le _
theorem pfx_ch {b : Nat → Int32} : ∀ {w : List Int32} {i j : Nat}, j < pfx b w i → w[j]? = some (b (i + j))
  | [], _, j, h => absurd h (by rw [pfx]; omega)
  | c :: r, i, j, h => by
    rw [pfx] at h
    split at h
    · rename_i e
      cases j with
      | zero => rw [List.getElem?_cons_zero, Nat.add_zero, e]
      | succ j =>
        rw [List.getElem?_cons_succ, pfx_ch (b := b) (w := r) (i := i + 1) (j := j) (by omega), show i + 1 + j = i + (j + 1) by omega]
    · omega
def jn : List (List Int32) → List Int32
  | [] => []
  | [w] => w
  | w :: v :: ws => w ++ 32 :: jn (v :: ws)
def wL (b : Nat → Int32) : List (List Int32) → Nat → Nat → (Nat × Nat) ⊕ Nat
  | [], _, lg => .inr lg
  | w :: ws, ix, lg => if pfx b w 0 = w.length then .inl (ix, w.length) else wL b ws (ix + 1) (if lg < pfx b w 0 then pfx b w 0 else lg)
theorem pW_f {b : Nat → Int32} {rest : List Int32} {ix mt lg : Nat} : ∀ {w : List Int32}, (∀ c ∈ w, ¬ c = 32) → pWord b (w ++ 32 :: rest) ix mt lg false = pWord b rest (ix + 1) 0 lg true
  | [], _ => by
    rw [List.nil_append, pWord, if_pos rfl]
    rfl
  | c :: w, h => by
    rw [List.cons_append, pWord, if_neg (h c List.mem_cons_self), if_neg (fun q => by cases q.1)]
    exact pW_f (fun c' hc => h c' (List.mem_cons_of_mem _ hc))
theorem pW_f0 {b : Nat → Int32} {ix mt lg : Nat} : ∀ {w : List Int32}, (∀ c ∈ w, ¬ c = 32) → pWord b w ix mt lg false = .inr lg
  | [], _ => by
    rw [pWord]
    rfl
  | c :: w, h => by
    rw [pWord, if_neg (h c List.mem_cons_self), if_neg (fun q => by cases q.1)]
    exact pW_f0 (fun c' hc => h c' (List.mem_cons_of_mem _ hc))
theorem pW_t {b : Nat → Int32} {rest : List Int32} {ix : Nat} : ∀ {w : List Int32} {mt lg : Nat}, (∀ c ∈ w, ¬ c = 32) → mt ≤ lg → pWord b (w ++ 32 :: rest) ix mt lg true = if pfx b w mt = w.length then .inl (ix, mt + w.length) else pWord b rest (ix + 1) 0 (if lg < mt + pfx b w mt then mt + pfx b w mt else lg) true
  | [], mt, lg, _, _ => by
    rw [List.nil_append, pWord, if_pos rfl, if_pos rfl]
    first | exact (if_pos rfl).symm | simp [pfx]
  | c :: w, mt, lg, h, hm => by
    rw [List.cons_append, pWord, if_neg (h c List.mem_cons_self), pfx]
    by_cases e : b mt = c
    · rw [if_pos ⟨rfl, e⟩, if_pos e, pW_t (fun c' hc => h c' (List.mem_cons_of_mem _ hc)) (by split <;> omega), List.length_cons]
      by_cases q : pfx b w (mt + 1) = w.length
      · rw [if_pos q, if_pos (by omega), show mt + 1 + w.length = mt + (w.length + 1) by omega]
      · rw [if_neg q, if_neg (show ¬ pfx b w (mt + 1) + 1 = w.length + 1 by omega)]
        congr 1
        (repeat' split) <;> omega
    · rw [if_neg (fun q => e q.2), if_neg e, pW_f (fun c' hc => h c' (List.mem_cons_of_mem _ hc)), List.length_cons, if_neg (by omega), if_neg (by omega)]
theorem pW_t0 {b : Nat → Int32} {ix : Nat} : ∀ {w : List Int32} {mt lg : Nat}, (∀ c ∈ w, ¬ c = 32) → mt ≤ lg → pWord b w ix mt lg true = if pfx b w mt = w.length then .inl (ix, mt + w.length) else .inr (if lg < mt + pfx b w mt then mt + pfx b w mt else lg)
  | [], mt, lg, _, _ => by
    rw [pWord, if_pos rfl]
    first | exact (if_pos rfl).symm | simp [pfx]
  | c :: w, mt, lg, h, hm => by
    rw [pWord, if_neg (h c List.mem_cons_self), pfx]
    by_cases e : b mt = c
    · rw [if_pos ⟨rfl, e⟩, if_pos e, pW_t0 (fun c' hc => h c' (List.mem_cons_of_mem _ hc)) (by split <;> omega), List.length_cons]
      by_cases q : pfx b w (mt + 1) = w.length
      · rw [if_pos q, if_pos (by omega), show mt + 1 + w.length = mt + (w.length + 1) by omega]
      · rw [if_neg q, if_neg (show ¬ pfx b w (mt + 1) + 1 = w.length + 1 by omega)]
        congr 1
        (repeat' split) <;> omega
    · rw [if_neg (fun q => e q.2), if_neg e, pW_f0 (fun c' hc => h c' (List.mem_cons_of_mem _ hc)), List.length_cons, if_neg (by omega), if_neg (by omega)]
theorem jn_wL {b : Nat → Int32} : ∀ {ws : List (List Int32)} {ix lg : Nat}, (∀ w ∈ ws, ∀ c ∈ w, ¬ c = 32) → ws ≠ [] → pWord b (jn ws) ix 0 lg true = wL b ws ix lg
  | [], ix, lg, _, h => absurd rfl h
  | [w], ix, lg, h, _ => by
    rw [jn, pW_t0 (h w List.mem_cons_self) (Nat.zero_le _), wL, Nat.zero_add, Nat.zero_add]
    rfl
  | w :: v :: ws, ix, lg, h, _ => by
    rw [jn, pW_t (h w List.mem_cons_self) (Nat.zero_le _), wL, Nat.zero_add, Nat.zero_add]
    by_cases q : pfx b w 0 = w.length
    · rw [if_pos q, if_pos q]
    · rw [if_neg q, if_neg q]
      exact jn_wL (fun w' hw => h w' (List.mem_cons_of_mem _ hw)) (by simp)
def zWf : List (List Int32) := [[114, 97, 110, 107], [112, 97, 112, 101, 114], [110, 97, 109, 101], [115, 105, 110, 99, 101], [107, 105, 110, 100], [115, 116, 97, 116, 101], [116, 111, 110, 103, 117, 101]]
def zWd : List (List (List Int32)) := [[[111, 110]], [[42], [48], [49], [50], [51], [52], [53], [54], [55], [56], [57]], zWf.take 5, [[117, 112], [100, 111, 119, 110]], [[105, 102]], [[97], [98], [110, 111, 116]], [[97], [98]], [[46]], zWf, [[61], [60], [62]], [[97, 110, 100], [111, 114]], [[111, 114]], [[97, 110, 100]]]
theorem zWd_ok : ∀ k, k < 13 → jn (zWd.getD k []) = zByt.getD k [] ∧ zWd.getD k [] ≠ [] ∧ ∀ w ∈ zWd.getD k [], ∀ c ∈ w, ¬ c = 32 := by decide +kernel
theorem qW_eq {a : Nat → Int32} {n at_ k : Nat} (hk : k < 13) : qW a n (at_, -1) k = match wL (fun j => pB a n (at_ + j)) (zWd.getD k []) 0 0 with
    | .inl q => (nI q.1, at_ + q.2, -1)
    | .inr lg => (-1, at_, nI (at_ + lg)) := by
  obtain ⟨h1, h2, h3⟩ := zWd_ok k hk
  unfold qW pRdW
  rw [if_pos rfl, ← h1, jn_wL h3 h2]
  rfl
theorem qW_ft {a : Nat → Int32} {n k : Nat} {q : zQ} (h : ¬ q.2 = -1) : qW a n q k = (-1, q) := by
  unfold qW pRdW
  rw [if_neg h]
theorem qB_ft {a : Nat → Int32} {n : Nat} {q : zQ} (h : ¬ q.2 = -1) : qB a n q = q := by
  unfold qB pBlank
  rw [if_neg h]
theorem qN_ft {a : Nat → Int32} {n : Nat} {q : zQ} (h : ¬ q.2 = -1) : qN a n q = (0, q) := by
  unfold qN pRdN
  rw [if_neg h]
-- ---- the model: one byte behind the other
def mX (a : Nat → Int32) (n : Nat) : List Int32 → zQ → zQ
  | [], q => q
  | c :: cs, q => if q.2 = -1 then (if pB a n q.1 = c then mX a n cs (q.1 + 1, -1) else (q.1, nI q.1)) else q
theorem mX_ft {a : Nat → Int32} {n : Nat} : ∀ {cs : List Int32} {q : zQ}, ¬ q.2 = -1 → mX a n cs q = q
  | [], _, _ => rfl
  | c :: cs, q, h => by rw [mX, if_neg h]
theorem mX_app {a : Nat → Int32} {n : Nat} {c2 : List Int32} : ∀ {c1 : List Int32} {q : zQ}, q.1 + c1.length < 2 ^ 31 → mX a n (c1 ++ c2) q = mX a n c2 (mX a n c1 q)
  | [], _, _ => rfl
  | c :: cs, q, hq => by
    rw [List.length_cons] at hq
    rw [List.cons_append, mX, mX]
    by_cases h : q.2 = -1
    · rw [if_pos h, if_pos h]
      by_cases e : pB a n q.1 = c
      · rw [if_pos e, if_pos e]
        exact mX_app (q := (q.1 + 1, -1)) (by show q.1 + 1 + cs.length < 2 ^ 31; omega)
      · rw [if_neg e, if_neg e, mX_ft (nI_nem1 (show q.1 < 2 ^ 31 by omega))]
    · rw [if_neg h, if_neg h, mX_ft h]
theorem mX_pfx {a : Nat → Int32} {n at_ : Nat} : ∀ {cs : List Int32} {i : Nat}, mX a n cs (at_ + i, -1) = if pfx (fun j => pB a n (at_ + j)) cs i = cs.length then (at_ + i + cs.length, -1) else (at_ + i + pfx (fun j => pB a n (at_ + j)) cs i, nI (at_ + i + pfx (fun j => pB a n (at_ + j)) cs i))
  | [], i => by
    rw [mX, pfx]
    first | exact (if_pos rfl).symm | simp
  | c :: cs, i => by
    rw [mX, if_pos rfl, pfx, List.length_cons]
    by_cases e : pB a n (at_ + i) = c
    · rw [if_pos e, if_pos e]
      have ih := mX_pfx (a := a) (n := n) (at_ := at_) (cs := cs) (i := i + 1)
      rw [show (at_ + i, (-1 : Int32)).1 + 1 = at_ + (i + 1) from Nat.add_assoc _ _ _, ih]
      by_cases q : pfx (fun j => pB a n (at_ + j)) cs (i + 1) = cs.length
      · rw [if_pos q, if_pos (by omega), show at_ + (i + 1) + cs.length = at_ + i + (cs.length + 1) by omega]
      · rw [if_neg q, if_neg (by omega), show at_ + (i + 1) + pfx (fun j => pB a n (at_ + j)) cs (i + 1) = at_ + i + (pfx (fun j => pB a n (at_ + j)) cs (i + 1) + 1) by omega]
    · rw [if_neg e, if_neg e, if_neg (by omega)]
      rfl
theorem mX_b {a : Nat → Int32} {n : Nat} {q : zQ} : mX a n [32] q = qB a n q := by
  unfold qB pBlank
  rw [mX]
  by_cases h : q.2 = -1
  · rw [if_pos h, if_pos h]
    rfl
  · rw [if_neg h, if_neg h]
/-- the class's place and fault, and the model's: behind a fault the place is free -/
def eqQ (q q' : zQ) : Prop := q'.2 = q.2 ∧ (q.2 = -1 → q'.1 = q.1)
theorem eqQ_rf {q : zQ} : eqQ q q := ⟨rfl, fun _ => rfl⟩
theorem eqQ_1 {q q' : zQ} (h : eqQ q q') (h1 : q.2 = -1) : q' = q := Prod.ext (h.2 h1) h.1
theorem eqQ_X {a : Nat → Int32} {n : Nat} {cs : List Int32} {q q' : zQ} (h : eqQ q q') : eqQ (mX a n cs q) (mX a n cs q') := by
  by_cases h1 : q.2 = -1
  · rw [eqQ_1 h h1]
    exact eqQ_rf
  · have h2 : ¬ q'.2 = -1 := by rw [h.1]; exact h1
    rw [mX_ft h1, mX_ft h2]
    exact h
theorem eqQ_B {a : Nat → Int32} {n : Nat} {q q' : zQ} (h : eqQ q q') : eqQ (qB a n q) (mX a n [32] q') := by
  rw [← mX_b]
  exact eqQ_X h
/-- one word alone -/
theorem qW_1 {a : Nat → Int32} {n k : Nat} {cs : List Int32} {q q' qm : zQ} {v : Int32} (hk : k < 13) (hw : zWd.getD k [] = [cs]) (hq : q.1 + cs.length < 2 ^ 31) (h : qW a n q k = (v, q')) (he : eqQ q qm) : eqQ q' (mX a n cs qm) := by
  by_cases h1 : q.2 = -1
  · obtain ⟨at_, fl⟩ := q
    have h1 : fl = -1 := h1
    subst h1
    rw [eqQ_1 he rfl]
    rw [qW_eq hk, hw] at h
    have hX := mX_pfx (a := a) (n := n) (at_ := at_) (cs := cs) (i := 0)
    rw [Nat.add_zero] at hX
    rw [hX]
    unfold wL at h
    have hle := pfx_le (b := fun j => pB a n (at_ + j)) (w := cs) (i := 0)
    by_cases e : pfx (fun j => pB a n (at_ + j)) cs 0 = cs.length
    · rw [if_pos e] at h ⊢
      have h' : (at_ + cs.length, (-1 : Int32)) = q' := congrArg Prod.snd h
      rw [← h']
      exact eqQ_rf
    · rw [if_neg e] at h ⊢
      have h' : (at_, nI (at_ + (if 0 < pfx (fun j => pB a n (at_ + j)) cs 0 then pfx (fun j => pB a n (at_ + j)) cs 0 else 0))) = q' := congrArg Prod.snd h
      rw [← h']
      have e2 : (if 0 < pfx (fun j => pB a n (at_ + j)) cs 0 then pfx (fun j => pB a n (at_ + j)) cs 0 else 0) = pfx (fun j => pB a n (at_ + j)) cs 0 := by
        split <;> omega
      refine ⟨?_, fun z => ?_⟩
      · show nI (at_ + pfx (fun j => pB a n (at_ + j)) cs 0) = nI (at_ + (if 0 < pfx (fun j => pB a n (at_ + j)) cs 0 then pfx (fun j => pB a n (at_ + j)) cs 0 else 0))
        rw [e2]
      · have z' : nI (at_ + (if 0 < pfx (fun j => pB a n (at_ + j)) cs 0 then pfx (fun j => pB a n (at_ + j)) cs 0 else 0)) = -1 := z
        have hq' : at_ + cs.length < 2 ^ 31 := hq
        exact absurd z' (nI_nem1 (by rw [e2]; omega))
  · rw [qW_ft h1] at h
    have h' : q = q' := congrArg Prod.snd h
    have h2 : ¬ qm.2 = -1 := by rw [he.1]; exact h1
    rw [mX_ft h2, ← h']
    exact he
-- ---- the longest
def mbl (pf : Nat → Nat) : Nat → Int32 × Nat
  | 0 => (-1, 0)
  | j + 1 => if (mbl pf j).1 < nI (pf j) then (nI (pf j), j) else mbl pf j
theorem mbl_in {pf : Nat → Nat} (hp : ∀ i, pf i ≤ 10) : ∀ j, ∃ t, t < j + 1 ∧ mbl pf (j + 1) = (nI (pf t), t) ∧ ∀ i, i < j + 1 → pf i ≤ pf t
  | 0 => by
    refine ⟨0, by omega, ?_, fun i hi => by rw [show i = 0 by omega]; exact Nat.le_refl _⟩
    rw [mbl, if_pos]
    show (-1 : Int32) < nI (pf 0)
    have := nI_pos' (n := pf 0) (by have := hp 0; omega)
    grind
  | j + 1 => by
    obtain ⟨t, ht, e, h⟩ := mbl_in hp j
    rw [mbl, e]
    have h1 := hp t
    have h2 := hp (j + 1)
    by_cases q : pf t < pf (j + 1)
    · rw [if_pos (nI_lt q (by omega))]
      refine ⟨j + 1, by omega, rfl, fun i hi => ?_⟩
      rcases Nat.lt_or_ge i (j + 1) with w | w
      · have := h i w
        omega
      · rw [show i = j + 1 by omega]
        exact Nat.le_refl _
    · rw [if_neg (nI_nlt (by omega) (by omega))]
      refine ⟨t, by omega, rfl, fun i hi => ?_⟩
      rcases Nat.lt_or_ge i (j + 1) with w | w
      · exact h i w
      · rw [show i = j + 1 by omega]
        omega
theorem wL_hit {b : Nat → Int32} : ∀ {ws : List (List Int32)} {ix lg : Nat} {r : Nat × Nat}, wL b ws ix lg = .inl r → ∃ i w, ws[i]? = some w ∧ r = (ix + i, w.length) ∧ pfx b w 0 = w.length
  | [], _, _, _, h => by cases h
  | w :: ws, ix, lg, r, h => by
    rw [wL] at h
    by_cases e : pfx b w 0 = w.length
    · rw [if_pos e] at h
      cases h
      exact ⟨0, w, rfl, rfl, e⟩
    · rw [if_neg e] at h
      obtain ⟨i, v, h1, h2, h3⟩ := wL_hit h
      exact ⟨i + 1, v, h1, by rw [h2, show ix + 1 + i = ix + (i + 1) by omega], h3⟩
theorem wL_no {b : Nat → Int32} : ∀ {ws : List (List Int32)} {ix lg L : Nat}, wL b ws ix lg = .inr L → lg ≤ L ∧ (∀ (i : Nat) (w : List Int32), ws[i]? = some w → pfx b w 0 ≤ L ∧ pfx b w 0 < w.length) ∧ (L = lg ∨ ∃ (i : Nat) (w : List Int32), ws[i]? = some w ∧ pfx b w 0 = L)
  | [], _, lg, L, h => by
    cases h
    exact ⟨Nat.le_refl _, fun i w hw => by simp at hw, Or.inl rfl⟩
  | w :: ws, ix, lg, L, h => by
    rw [wL] at h
    by_cases e : pfx b w 0 = w.length
    · rw [if_pos e] at h
      cases h
    · rw [if_neg e] at h
      obtain ⟨h1, h2, h3⟩ := wL_no h
      have hle := pfx_le (b := b) (w := w) (i := 0)
      have hmx : lg ≤ L ∧ pfx b w 0 ≤ L := by
        split at h1 <;> omega
      refine ⟨hmx.1, fun i v hv => ?_, ?_⟩
      · cases i with
        | zero =>
          cases hv
          exact ⟨hmx.2, by omega⟩
        | succ i => exact h2 i v hv
      · rcases h3 with h3 | ⟨i, v, hv, e2⟩
        · by_cases q : lg < pfx b w 0
          · rw [if_pos q] at h3
            exact Or.inr ⟨0, w, rfl, h3.symm⟩
          · rw [if_neg q] at h3
            exact Or.inl h3
        · exact Or.inr ⟨i + 1, v, hv, e2⟩
theorem zWf_free : ∀ i, i < 7 → ∀ j, j < 7 → i ≠ j → (zWf.getD i []).take (zWf.getD j []).length ≠ zWf.getD j [] := by decide +kernel
theorem zWf_len : ∀ i, i < 7 → 0 < (zWf.getD i []).length ∧ (zWf.getD i []).length ≤ 6 := by decide +kernel
/-- a word that fits whole is the longest -/
theorem mbl_hit {b : Nat → Int32} {m i0 : Nat} (hm : m ≤ 7) (h1 : i0 < m) (h2 : pfx b (zWf.getD i0 []) 0 = (zWf.getD i0 []).length) : mbl (fun j => pfx b (zWf.getD j []) 0) m = (nI (zWf.getD i0 []).length, i0) := by
  have hpf : ∀ i, pfx b (zWf.getD i []) 0 ≤ 10 := fun i => by
    have := pfx_le (b := b) (w := zWf.getD i []) (i := 0)
    rcases Nat.lt_or_ge i 7 with q | q
    · have := (zWf_len i q).2
      omega
    · have e0 : zWf.getD i [] = [] := by rw [List.getD_eq_getElem?_getD, List.getElem?_eq_none (show zWf.length ≤ i from q)]; rfl
      rw [e0] at this ⊢
      exact Nat.le_trans this (by decide)
  obtain ⟨j, rfl⟩ : ∃ j, m = j + 1 := ⟨m - 1, by omega⟩
  obtain ⟨t, ht, e, h⟩ := mbl_in hpf j
  rw [e]
  have hle := h i0 h1
  have hle2 : (zWf.getD i0 []).length ≤ pfx b (zWf.getD t []) 0 := by rw [← h2]; exact hle
  by_cases q : t = i0
  · subst q
    rw [h2]
  · exfalso
    refine zWf_free t (by omega) i0 (by omega) q ?_
    refine List.ext_getElem? (fun k => ?_)
    rcases Nat.lt_or_ge k (zWf.getD i0 []).length with w | w
    · rw [List.getElem?_take_of_lt w, pfx_ch (b := b) (w := zWf.getD t []) (i := 0) (by omega), pfx_ch (b := b) (w := zWf.getD i0 []) (i := 0) (by omega)]
    · rw [List.getElem?_eq_none (by rw [List.length_take]; omega), List.getElem?_eq_none w]
theorem mbl_no {b : Nat → Int32} {m L : Nat} (h0 : 0 < m) (hm : m ≤ 7) (h : wL b (zWf.take m) 0 0 = .inr L) : ∃ t, t < m ∧ mbl (fun j => pfx b (zWf.getD j []) 0) m = (nI L, t) ∧ L < (zWf.getD t []).length ∧ L ≤ 10 := by
  have hg : ∀ i, i < m → (zWf.take m)[i]? = some (zWf.getD i []) := fun i hi => by
    rw [List.getElem?_take_of_lt hi, List.getD_eq_getElem?_getD, List.getElem?_eq_getElem (show i < zWf.length from Nat.lt_of_lt_of_le hi hm)]
    rfl
  obtain ⟨-, h2, h3⟩ := wL_no h
  have hpf : ∀ i, pfx b (zWf.getD i []) 0 ≤ 10 := fun i => by
    have := pfx_le (b := b) (w := zWf.getD i []) (i := 0)
    rcases Nat.lt_or_ge i 7 with q | q
    · have := (zWf_len i q).2
      omega
    · have e0 : zWf.getD i [] = [] := by rw [List.getD_eq_getElem?_getD, List.getElem?_eq_none (show zWf.length ≤ i from q)]; rfl
      rw [e0] at this ⊢
      exact Nat.le_trans this (by decide)
  obtain ⟨j, rfl⟩ : ∃ j, m = j + 1 := ⟨m - 1, by omega⟩
  obtain ⟨t, ht, e, hmax⟩ := mbl_in hpf j
  have ht2 := h2 t _ (hg t ht)
  have hL : pfx b (zWf.getD t []) 0 = L := by
    rcases h3 with h3 | ⟨i, w, hw, e2⟩
    · omega
    · have hi : i < j + 1 := by
        have := (List.getElem?_eq_some_iff.mp hw).1
        rw [List.length_take] at this
        omega
      rw [hg i hi] at hw
      cases hw
      have := hmax i hi
      omega
  refine ⟨t, ht, by rw [e, hL], by omega, by rw [← hL]; exact hpf t⟩
