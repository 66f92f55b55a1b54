/-! WORDS: what both sides read -/
def pfx (b : Nat → Int32) : List Int32 → Nat → Nat
  | [], _ => 0
  | c :: r, i => if b i = c then pfx b r (i + 1) + 1 else 0
theorem pfx_le {b : Nat → Int32} : ∀ {w : List Int32} {i : Nat}, pfx b w i ≤ w.length
  | [], _ => Nat.le_refl _
  | c :: r, i => by
    rw [pfx]
    split
    · have := pfx_le (b := b) (w := r) (i := i + 1)
      rw [List.length_cons]
      omega
    · exact Nat.zero_le _
theorem pfx_ch {b : Nat → Int32} : ∀ {w : List Int32} {i j : Nat}, j < pfx b w i → w[j]? = some (b (i + j))
  | [], _, j, h => absurd h (by rw [pfx]; omega)
  | c :: r, i, j, h => by
    rw [pfx] at h
    split at h
    · rename_i e
      cases j with
      | zero => rw [List.getElem?_cons_zero, Nat.add_zero, e]
      | succ j =>
        rw [List.getElem?_cons_succ, pfx_ch (b := b) (w := r) (i := i + 1) (j := j) (by omega), show i + 1 + j = i + (j + 1) by omega]
    · omega
def jn : List (List Int32) → List Int32
  | [] => []
  | [w] => w
  | w :: v :: ws => w ++ 32 :: jn (v :: ws)
def wL (b : Nat → Int32) : List (List Int32) → Nat → Nat → (Nat × Nat) ⊕ Nat
  | [], _, lg => .inr lg
  | w :: ws, ix, lg => if pfx b w 0 = w.length then .inl (ix, w.length) else wL b ws (ix + 1) (if lg < pfx b w 0 then pfx b w 0 else lg)
theorem pW_f {b : Nat → Int32} {rest : List Int32} {ix mt lg : Nat} : ∀ {w : List Int32}, (∀ c ∈ w, ¬ c = 32) → pWord b (w ++ 32 :: rest) ix mt lg false = pWord b rest (ix + 1) 0 lg true
  | [], _ => by
    rw [List.nil_append, pWord, if_pos rfl]
    rfl
  | c :: w, h => by
    rw [List.cons_append, pWord, if_neg (h c List.mem_cons_self), if_neg (fun q => by cases q.1)]
    exact pW_f (fun c' hc => h c' (List.mem_cons_of_mem _ hc))
theorem pW_f0 {b : Nat → Int32} {ix mt lg : Nat} : ∀ {w : List Int32}, (∀ c ∈ w, ¬ c = 32) → pWord b w ix mt lg false = .inr lg
  | [], _ => by
    rw [pWord]
    rfl
  | c :: w, h => by
    rw [pWord, if_neg (h c List.mem_cons_self), if_neg (fun q => by cases q.1)]
    exact pW_f0 (fun c' hc => h c' (List.mem_cons_of_mem _ hc))
theorem pW_t {b : Nat → Int32} {rest : List Int32} {ix : Nat} : ∀ {w : List Int32} {mt lg : Nat}, (∀ c ∈ w, ¬ c = 32) → mt ≤ lg → pWord b (w ++ 32 :: rest) ix mt lg true = if pfx b w mt = w.length then .inl (ix, mt + w.length) else pWord b rest (ix + 1) 0 (if lg < mt + pfx b w mt then mt + pfx b w mt else lg) true
  | [], mt, lg, _, _ => by
    rw [List.nil_append, pWord, if_pos rfl, if_pos rfl]
    first | exact (if_pos rfl).symm | simp [pfx]
  | c :: w, mt, lg, h, hm => by
    rw [List.cons_append, pWord, if_neg (h c List.mem_cons_self), pfx]
    by_cases e : b mt = c
    · rw [if_pos ⟨rfl, e⟩, if_pos e, pW_t (fun c' hc => h c' (List.mem_cons_of_mem _ hc)) (by split <;> omega), List.length_cons]
      by_cases q : pfx b w (mt + 1) = w.length
      · rw [if_pos q, if_pos (by omega), show mt + 1 + w.length = mt + (w.length + 1) by omega]
      · rw [if_neg q, if_neg (show ¬ pfx b w (mt + 1) + 1 = w.length + 1 by omega)]
        congr 1
        (repeat' split) <;> omega
    · rw [if_neg (fun q => e q.2), if_neg e, pW_f (fun c' hc => h c' (List.mem_cons_of_mem _ hc)), List.length_cons, if_neg (by omega), if_neg (by omega)]
theorem pW_t0 {b : Nat → Int32} {ix : Nat} : ∀ {w : List Int32} {mt lg : Nat}, (∀ c ∈ w, ¬ c = 32) → mt ≤ lg → pWord b w ix mt lg true = if pfx b w mt = w.length then .inl (ix, mt + w.length) else .inr (if lg < mt + pfx b w mt then mt + pfx b w mt else lg)
  | [], mt, lg, _, _ => by
    rw [pWord, if_pos rfl]
    first | exact (if_pos rfl).symm | simp [pfx]
  | c :: w, mt, lg, h, hm => by
    rw [pWord, if_neg (h c List.mem_cons_self), pfx]
    by_cases e : b mt = c
    · rw [if_pos ⟨rfl, e⟩, if_pos e, pW_t0 (fun c' hc => h c' (List.mem_cons_of_mem _ hc)) (by split <;> omega), List.length_cons]
      by_cases q : pfx b w (mt + 1) = w.length
      · rw [if_pos q, if_pos (by omega), show mt + 1 + w.length = mt + (w.length + 1) by omega]
      · rw [if_neg q, if_neg (show ¬ pfx b w (mt + 1) + 1 = w.length + 1 by omega)]
        congr 1
        (repeat' split) <;> omega
    · rw [if_neg (fun q => e q.2), if_neg e, pW_f0 (fun c' hc => h c' (List.mem_cons_of_mem _ hc)), List.length_cons, if_neg (by omega), if_neg (by omega)]
theorem jn_wL {b : Nat → Int32} : ∀ {ws : List (List Int32)} {ix lg : Nat}, (∀ w ∈ ws, ∀ c ∈ w, ¬ c = 32) → ws ≠ [] → pWord b (jn ws) ix 0 lg true = wL b ws ix lg
  | [], ix, lg, _, h => absurd rfl h
  | [w], ix, lg, h, _ => by
    rw [jn, pW_t0 (h w List.mem_cons_self) (Nat.zero_le _), wL, Nat.zero_add, Nat.zero_add]
    rfl
  | w :: v :: ws, ix, lg, h, _ => by
    rw [jn, pW_t (h w List.mem_cons_self) (Nat.zero_le _), wL, Nat.zero_add, Nat.zero_add]
    by_cases q : pfx b w 0 = w.length
    · rw [if_pos q, if_pos q]
    · rw [if_neg q, if_neg q]
      exact jn_wL (fun w' hw => h w' (List.mem_cons_of_mem _ hw)) (by simp)
def zWf : List (List Int32) := [[114, 97, 110, 107], [112, 97, 112, 101, 114], [110, 97, 109, 101], [115, 105, 110, 99, 101], [107, 105, 110, 100], [115, 116, 97, 116, 101], [116, 111, 110, 103, 117, 101]]
def zWd : List (List (List Int32)) := [[[111, 110]], [[42], [48], [49], [50], [51], [52], [53], [54], [55], [56], [57]], zWf.take 5, [[117, 112], [100, 111, 119, 110]], [[105, 102]], [[97], [98], [110, 111, 116]], [[97], [98]], [[46]], zWf, [[61], [60], [62]], [[97, 110, 100], [111, 114]], [[111, 114]], [[97, 110, 100]]]
theorem zWd_ok : ∀ k, k < 13 → jn (zWd.getD k []) = zByt.getD k [] ∧ zWd.getD k [] ≠ [] ∧ ∀ w ∈ zWd.getD k [], ∀ c ∈ w, ¬ c = 32 := by decide +kernel
theorem qW_eq {a : Nat → Int32} {n at_ k : Nat} (hk : k < 13) : qW a n (at_, -1) k = match wL (fun j => pB a n (at_ + j)) (zWd.getD k []) 0 0 with
    | .inl q => (nI q.1, at_ + q.2, -1)
    | .inr lg => (-1, at_, nI (at_ + lg)) := by
  obtain ⟨h1, h2, h3⟩ := zWd_ok k hk
  unfold qW pRdW
  rw [if_pos rfl, ← h1, jn_wL h3 h2]
  rfl
theorem qW_ft {a : Nat → Int32} {n k : Nat} {q : zQ} (h : ¬ q.2 = -1) : qW a n q k = (-1, q) := by
  unfold qW pRdW
  rw [if_neg h]
theorem qB_ft {a : Nat → Int32} {n : Nat} {q : zQ} (h : ¬ q.2 = -1) : qB a n q = q := by
  unfold qB pBlank
  rw [if_neg h]
theorem qN_ft {a : Nat → Int32} {n : Nat} {q : zQ} (h : ¬ q.2 = -1) : qN a n q = (0, q) := by
  unfold qN pRdN
  rw [if_neg h]
-- ---- the model: one byte behind the other
def mX (a : Nat → Int32) (n : Nat) : List Int32 → zQ → zQ
  | [], q => q
  | c :: cs, q => if q.2 = -1 then (if pB a n q.1 = c then mX a n cs (q.1 + 1, -1) else (q.1, nI q.1)) else q
theorem mX_ft {a : Nat → Int32} {n : Nat} : ∀ {cs : List Int32} {q : zQ}, ¬ q.2 = -1 → mX a n cs q = q
  | [], _, _ => rfl
  | c :: cs, q, h => by rw [mX, if_neg h]
theorem mX_app {a : Nat → Int32} {n : Nat} {c2 : List Int32} : ∀ {c1 : List Int32} {q : zQ}, q.1 + c1.length < 2 ^ 31 → mX a n (c1 ++ c2) q = mX a n c2 (mX a n c1 q)
  | [], _, _ => rfl
  | c :: cs, q, hq => by
    rw [List.length_cons] at hq
    rw [List.cons_append, mX, mX]
    by_cases h : q.2 = -1
    · rw [if_pos h, if_pos h]
      by_cases e : pB a n q.1 = c
      · rw [if_pos e, if_pos e]
        exact mX_app (q := (q.1 + 1, -1)) (by show q.1 + 1 + cs.length < 2 ^ 31; omega)
      · rw [if_neg e, if_neg e, mX_ft (nI_nem1 (show q.1 < 2 ^ 31 by omega))]
    · rw [if_neg h, if_neg h, mX_ft h]
theorem mX_pfx {a : Nat → Int32} {n at_ : Nat} : ∀ {cs : List Int32} {i : Nat}, mX a n cs (at_ + i, -1) = if pfx (fun j => pB a n (at_ + j)) cs i = cs.length then (at_ + i + cs.length, -1) else (at_ + i + pfx (fun j => pB a n (at_ + j)) cs i, nI (at_ + i + pfx (fun j => pB a n (at_ + j)) cs i))
  | [], i => by
    rw [mX, pfx]
    first | exact (if_pos rfl).symm | simp
  | c :: cs, i => by
    rw [mX, if_pos rfl, pfx, List.length_cons]
    by_cases e : pB a n (at_ + i) = c
    · rw [if_pos e, if_pos e]
      have ih := mX_pfx (a := a) (n := n) (at_ := at_) (cs := cs) (i := i + 1)
      rw [show (at_ + i, (-1 : Int32)).1 + 1 = at_ + (i + 1) from Nat.add_assoc _ _ _, ih]
      by_cases q : pfx (fun j => pB a n (at_ + j)) cs (i + 1) = cs.length
      · rw [if_pos q, if_pos (by omega), show at_ + (i + 1) + cs.length = at_ + i + (cs.length + 1) by omega]
      · rw [if_neg q, if_neg (by omega), show at_ + (i + 1) + pfx (fun j => pB a n (at_ + j)) cs (i + 1) = at_ + i + (pfx (fun j => pB a n (at_ + j)) cs (i + 1) + 1) by omega]
    · rw [if_neg e, if_neg e, if_neg (by omega)]
      rfl
theorem mX_b {a : Nat → Int32} {n : Nat} {q : zQ} : mX a n [32] q = qB a n q := by
  unfold qB pBlank
  rw [mX]
  by_cases h : q.2 = -1
  · rw [if_pos h, if_pos h]
    rfl
  · rw [if_neg h, if_neg h]
/-- the class's place and fault, and the model's: behind a fault the place is free -/
def eqQ (q q' : zQ) : Prop := q'.2 = q.2 ∧ (q.2 = -1 → q'.1 = q.1)
theorem eqQ_rf {q : zQ} : eqQ q q := ⟨rfl, fun _ => rfl⟩
theorem eqQ_1 {q q' : zQ} (h : eqQ q q') (h1 : q.2 = -1) : q' = q := Prod.ext (h.2 h1) h.1
theorem eqQ_X {a : Nat → Int32} {n : Nat} {cs : List Int32} {q q' : zQ} (h : eqQ q q') : eqQ (mX a n cs q) (mX a n cs q') := by
  by_cases h1 : q.2 = -1
  · rw [eqQ_1 h h1]
    exact eqQ_rf
  · have h2 : ¬ q'.2 = -1 := by rw [h.1]; exact h1
    rw [mX_ft h1, mX_ft h2]
    exact h
theorem eqQ_B {a : Nat → Int32} {n : Nat} {q q' : zQ} (h : eqQ q q') : eqQ (qB a n q) (mX a n [32] q') := by
  rw [← mX_b]
  exact eqQ_X h
/-- one word alone -/
theorem qW_1 {a : Nat → Int32} {n k : Nat} {cs : List Int32} {q q' qm : zQ} {v : Int32} (hk : k < 13) (hw : zWd.getD k [] = [cs]) (hq : q.1 + cs.length < 2 ^ 31) (h : qW a n q k = (v, q')) (he : eqQ q qm) : eqQ q' (mX a n cs qm) := by
  by_cases h1 : q.2 = -1
  · obtain ⟨at_, fl⟩ := q
    have h1 : fl = -1 := h1
    subst h1
    rw [eqQ_1 he rfl]
    rw [qW_eq hk, hw] at h
    have hX := mX_pfx (a := a) (n := n) (at_ := at_) (cs := cs) (i := 0)
    rw [Nat.add_zero] at hX
    rw [hX]
    unfold wL at h
    have hle := pfx_le (b := fun j => pB a n (at_ + j)) (w := cs) (i := 0)
    by_cases e : pfx (fun j => pB a n (at_ + j)) cs 0 = cs.length
    · rw [if_pos e] at h ⊢
      have h' : (at_ + cs.length, (-1 : Int32)) = q' := congrArg Prod.snd h
      rw [← h']
      exact eqQ_rf
    · rw [if_neg e] at h ⊢
      have h' : (at_, nI (at_ + (if 0 < pfx (fun j => pB a n (at_ + j)) cs 0 then pfx (fun j => pB a n (at_ + j)) cs 0 else 0))) = q' := congrArg Prod.snd h
      rw [← h']
      have e2 : (if 0 < pfx (fun j => pB a n (at_ + j)) cs 0 then pfx (fun j => pB a n (at_ + j)) cs 0 else 0) = pfx (fun j => pB a n (at_ + j)) cs 0 := by
        split <;> omega
      refine ⟨?_, fun z => ?_⟩
      · show nI (at_ + pfx (fun j => pB a n (at_ + j)) cs 0) = nI (at_ + (if 0 < pfx (fun j => pB a n (at_ + j)) cs 0 then pfx (fun j => pB a n (at_ + j)) cs 0 else 0))
        rw [e2]
      · have z' : nI (at_ + (if 0 < pfx (fun j => pB a n (at_ + j)) cs 0 then pfx (fun j => pB a n (at_ + j)) cs 0 else 0)) = -1 := z
        have hq' : at_ + cs.length < 2 ^ 31 := hq
        exact absurd z' (nI_nem1 (by rw [e2]; omega))
  · rw [qW_ft h1] at h
    have h' : q = q' := congrArg Prod.snd h
    have h2 : ¬ qm.2 = -1 := by rw [he.1]; exact h1
    rw [mX_ft h2, ← h']
    exact he
-- ---- the longest
def mbl (pf : Nat → Nat) : Nat → Int32 × Nat
  | 0 => (-1, 0)
  | j + 1 => if (mbl pf j).1 < nI (pf j) then (nI (pf j), j) else mbl pf j
theorem mbl_in {pf : Nat → Nat} (hp : ∀ i, pf i ≤ 10) : ∀ j, ∃ t, t < j + 1 ∧ mbl pf (j + 1) = (nI (pf t), t) ∧ ∀ i, i < j + 1 → pf i ≤ pf t
  | 0 => by
    refine ⟨0, by omega, ?_, fun i hi => by rw [show i = 0 by omega]; exact Nat.le_refl _⟩
    rw [mbl, if_pos]
    show (-1 : Int32) < nI (pf 0)
    have := nI_pos' (n := pf 0) (by have := hp 0; omega)
    grind
  | j + 1 => by
    obtain ⟨t, ht, e, h⟩ := mbl_in hp j
    rw [mbl, e]
    have h1 := hp t
    have h2 := hp (j + 1)
    by_cases q : pf t < pf (j + 1)
    · rw [if_pos (nI_lt q (by omega))]
      refine ⟨j + 1, by omega, rfl, fun i hi => ?_⟩
      rcases Nat.lt_or_ge i (j + 1) with w | w
      · have := h i w
        omega
      · rw [show i = j + 1 by omega]
        exact Nat.le_refl _
    · rw [if_neg (nI_nlt (by omega) (by omega))]
      refine ⟨t, by omega, rfl, fun i hi => ?_⟩
      rcases Nat.lt_or_ge i (j + 1) with w | w
      · exact h i w
      · rw [show i = j + 1 by omega]
        omega
theorem wL_hit {b : Nat → Int32} : ∀ {ws : List (List Int32)} {ix lg : Nat} {r : Nat × Nat}, wL b ws ix lg = .inl r → ∃ i w, ws[i]? = some w ∧ r = (ix + i, w.length) ∧ pfx b w 0 = w.length
  | [], _, _, _, h => by cases h
  | w :: ws, ix, lg, r, h => by
    rw [wL] at h
    by_cases e : pfx b w 0 = w.length
    · rw [if_pos e] at h
      cases h
      exact ⟨0, w, rfl, rfl, e⟩
    · rw [if_neg e] at h
      obtain ⟨i, v, h1, h2, h3⟩ := wL_hit h
      exact ⟨i + 1, v, h1, by rw [h2, show ix + 1 + i = ix + (i + 1) by omega], h3⟩
theorem wL_no {b : Nat → Int32} : ∀ {ws : List (List Int32)} {ix lg L : Nat}, wL b ws ix lg = .inr L → lg ≤ L ∧ (∀ (i : Nat) (w : List Int32), ws[i]? = some w → pfx b w 0 ≤ L ∧ pfx b w 0 < w.length) ∧ (L = lg ∨ ∃ (i : Nat) (w : List Int32), ws[i]? = some w ∧ pfx b w 0 = L)
  | [], _, lg, L, h => by
    cases h
    exact ⟨Nat.le_refl _, fun i w hw => by simp at hw, Or.inl rfl⟩
  | w :: ws, ix, lg, L, h => by
    rw [wL] at h
    by_cases e : pfx b w 0 = w.length
    · rw [if_pos e] at h
      cases h
    · rw [if_neg e] at h
      obtain ⟨h1, h2, h3⟩ := wL_no h
      have hle := pfx_le (b := b) (w := w) (i := 0)
      have hmx : lg ≤ L ∧ pfx b w 0 ≤ L := by
        split at h1 <;> omega
      refine ⟨hmx.1, fun i v hv => ?_, ?_⟩
      · cases i with
        | zero =>
          cases hv
          exact ⟨hmx.2, by omega⟩
        | succ i => exact h2 i v hv
      · rcases h3 with h3 | ⟨i, v, hv, e2⟩
        · by_cases q : lg < pfx b w 0
          · rw [if_pos q] at h3
            exact Or.inr ⟨0, w, rfl, h3.symm⟩
          · rw [if_neg q] at h3
            exact Or.inl h3
        · exact Or.inr ⟨i + 1, v, hv, e2⟩
theorem zWf_free : ∀ i, i < 7 → ∀ j, j < 7 → i ≠ j → (zWf.getD i []).take (zWf.getD j []).length ≠ zWf.getD j [] := by decide +kernel
theorem zWf_len : ∀ i, i < 7 → 0 < (zWf.getD i []).length ∧ (zWf.getD i []).length ≤ 6 := by decide +kernel
/-- a word that fits whole is the longest -/
theorem mbl_hit {b : Nat → Int32} {m i0 : Nat} (hm : m ≤ 7) (h1 : i0 < m) (h2 : pfx b (zWf.getD i0 []) 0 = (zWf.getD i0 []).length) : mbl (fun j => pfx b (zWf.getD j []) 0) m = (nI (zWf.getD i0 []).length, i0) := by
  have hpf : ∀ i, pfx b (zWf.getD i []) 0 ≤ 10 := fun i => by
    have := pfx_le (b := b) (w := zWf.getD i []) (i := 0)
    rcases Nat.lt_or_ge i 7 with q | q
    · have := (zWf_len i q).2
      omega
    · have e0 : zWf.getD i [] = [] := by rw [List.getD_eq_getElem?_getD, List.getElem?_eq_none (show zWf.length ≤ i from q)]; rfl
      rw [e0] at this ⊢
      exact Nat.le_trans this (by decide)
  obtain ⟨j, rfl⟩ : ∃ j, m = j + 1 := ⟨m - 1, by omega⟩
  obtain ⟨t, ht, e, h⟩ := mbl_in hpf j
  rw [e]
  have hle := h i0 h1
  have hle2 : (zWf.getD i0 []).length ≤ pfx b (zWf.getD t []) 0 := by rw [← h2]; exact hle
  by_cases q : t = i0
  · subst q
    rw [h2]
  · exfalso
    refine zWf_free t (by omega) i0 (by omega) q ?_
    refine List.ext_getElem? (fun k => ?_)
    rcases Nat.lt_or_ge k (zWf.getD i0 []).length with w | w
    · rw [List.getElem?_take_of_lt w, pfx_ch (b := b) (w := zWf.getD t []) (i := 0) (by omega), pfx_ch (b := b) (w := zWf.getD i0 []) (i := 0) (by omega)]
    · rw [List.getElem?_eq_none (by rw [List.length_take]; omega), List.getElem?_eq_none w]
theorem mbl_no {b : Nat → Int32} {m L : Nat} (h0 : 0 < m) (hm : m ≤ 7) (h : wL b (zWf.take m) 0 0 = .inr L) : ∃ t, t < m ∧ mbl (fun j => pfx b (zWf.getD j []) 0) m = (nI L, t) ∧ L < (zWf.getD t []).length ∧ L ≤ 10 := by
  have hg : ∀ i, i < m → (zWf.take m)[i]? = some (zWf.getD i []) := fun i hi => by
    rw [List.getElem?_take_of_lt hi, List.getD_eq_getElem?_getD, List.getElem?_eq_getElem (show i < zWf.length from Nat.lt_of_lt_of_le hi hm)]
    rfl
  obtain ⟨-, h2, h3⟩ := wL_no h
  have hpf : ∀ i, pfx b (zWf.getD i []) 0 ≤ 10 := fun i => by
    have := pfx_le (b := b) (w := zWf.getD i []) (i := 0)
    rcases Nat.lt_or_ge i 7 with q | q
    · have := (zWf_len i q).2
      omega
    · have e0 : zWf.getD i [] = [] := by rw [List.getD_eq_getElem?_getD, List.getElem?_eq_none (show zWf.length ≤ i from q)]; rfl
      rw [e0] at this ⊢
      exact Nat.le_trans this (by decide)
  obtain ⟨j, rfl⟩ : ∃ j, m = j + 1 := ⟨m - 1, by omega⟩
  obtain ⟨t, ht, e, hmax⟩ := mbl_in hpf j
  have ht2 := h2 t _ (hg t ht)
  have hL : pfx b (zWf.getD t []) 0 = L := by
    rcases h3 with h3 | ⟨i, w, hw, e2⟩
    · omega
    · have hi : i < j + 1 := by
        have := (List.getElem?_eq_some_iff.mp hw).1
        rw [List.length_take] at this
        omega
      rw [hg i hi] at hw
      cases hw
      have := hmax i hi
      omega
  refine ⟨t, ht, by rw [e, hL], by omega, by rw [← hL]; exact hpf t⟩
/-! MODEL: reading -/
def mE (μ : zMu) (a : Nat → Int32) (n : Nat) : Prop := μ 48 0 14 = nI n ∧ n ≤ 200 ∧ (∀ j, j < n → μ 63 0 j &&& 255 = a j) ∧ gCs μ
def qOk (q : zQ) : Prop := q.1 ≤ 1000 ∧ (q.2 = -1 ∨ ∃ p, p ≤ 2000 ∧ q.2 = nI p)
def cM (μ : zMu) (q : zQ) : zMu := zu (zu μ 48 0 28 (nI q.1)) 48 0 29 q.2
theorem cM_E {μ : zMu} {a : Nat → Int32} {n : Nat} {q : zQ} (h : mE μ a n) : mE (cM μ q) a n := h
theorem cM_28 {μ : zMu} {q : zQ} : cM μ q 48 0 28 = nI q.1 := by
  unfold cM
  rw [zu_ne (by omega), zu_eq]
theorem cM_29 {μ : zMu} {q : zQ} : cM μ q 48 0 29 = q.2 := zu_eq
theorem cM_o {μ : zMu} {q : zQ} {f i k : Nat} (h : ¬ (f = 48 ∧ i = 0 ∧ (k = 28 ∨ k = 29))) : cM μ q f i k = μ f i k := by
  unfold cM
  rw [zu_ne (by omega), zu_ne (by omega)]
theorem cM_id {μ : zMu} {q : zQ} (h1 : μ 48 0 28 = nI q.1) (h2 : μ 48 0 29 = q.2) : μ = cM μ q := by
  funext f i k
  by_cases h : f = 48 ∧ i = 0 ∧ (k = 28 ∨ k = 29)
  · obtain ⟨rfl, rfl, rfl | rfl⟩ := h
    · rw [cM_28, h1]
    · rw [cM_29, h2]
  · rw [cM_o h]
theorem cM_cM {μ : zMu} {q q' : zQ} : cM (cM μ q) q' = cM μ q' := by
  funext f i k
  by_cases h : f = 48 ∧ i = 0 ∧ (k = 28 ∨ k = 29)
  · obtain ⟨rfl, rfl, rfl | rfl⟩ := h
    · rw [cM_28, cM_28]
    · rw [cM_29, cM_29]
  · rw [cM_o h, cM_o h, cM_o h]
theorem cM_at {μ : zMu} {q : zQ} {x : Int32} {p : Nat} (hx : x = nI p) : zu (cM μ q) 48 0 28 x = cM μ (p, q.2) := by
  subst hx
  funext f i k
  by_cases h : f = 48 ∧ i = 0 ∧ (k = 28 ∨ k = 29)
  · obtain ⟨rfl, rfl, rfl | rfl⟩ := h
    · rw [zu_eq, cM_28]
    · rw [zu_ne (by omega), cM_29, cM_29]
  · rw [zu_ne (by omega), cM_o h, cM_o h]
theorem cM_fl {μ : zMu} {q : zQ} {x : Int32} : zu (cM μ q) 48 0 29 x = cM μ (q.1, x) := by
  funext f i k
  by_cases h : f = 48 ∧ i = 0 ∧ (k = 28 ∨ k = 29)
  · obtain ⟨rfl, rfl, rfl | rfl⟩ := h
    · rw [zu_ne (by omega), cM_28, cM_28]
    · rw [zu_eq, cM_29]
  · rw [zu_ne (by omega), cM_o h, cM_o h]
theorem c_Mo_letter {d n at_ : Nat} {μ : zMu} {a : Nat → Int32} {K : Option zV → zMu → Prop} (E : mE μ a n) (h28 : μ 48 0 28 = nI at_) (hat : at_ ≤ 1000) (hK : K (some (zI (pB a n at_))) μ) : Ct d m_Mo_letter [zR 48 0] μ K := by
  refine zmeet rfl (Nat.le_of_ble_eq_true rfl) (fun S => ?_)
  obtain ⟨h14, h200, h63, -⟩ := E
  unfold pB at hK
  rcases Nat.lt_or_ge at_ n with q | q
  · rw [if_pos q] at hK
    have hle : ¬ μ 48 0 14 ≤ μ 48 0 28 := by rw [h14, h28]; exact nI_ge q (by omega)
    have hv : vp_in (μ 48 0 28) 200 := by rw [h28]; exact vp_in_nI (by omega) (by omega)
    have hc : (μ 48 0 28).toNatClampNeg = at_ := by rw [h28]; exact nI_clamp (by omega)
    repeat' (first
      | refine br_f hle ?_
      | exact zKe hK (by rw [hc]; exact h63 at_ q) rfl
      | (refine zs k_Mo_letter rfl ?_; conv => whnf)
      | refine ⟨Nat.zero_lt_one, rfl, ?_⟩
      | refine ⟨rfl, ?_⟩
      | refine ⟨⟨Nat.zero_lt_one, rfl⟩, Nat.le_of_ble_eq_true rfl, ?_⟩
      | refine ⟨Nat.le_of_ble_eq_true rfl, Nat.le_of_ble_eq_true rfl, ?_⟩
      | refine ⟨(by first | exact Nat.zero_lt_one | assumption | omega), (by first | assumption | exact vp_in_nI (by omega) (by omega) | (unfold vp_in; decide)), ?_⟩
      | refine ⟨(by first | exact Nat.zero_lt_one | assumption | omega), rfl, ?_⟩
      | refine ⟨⟨(by first | exact Nat.zero_lt_one | assumption | omega), rfl⟩, Nat.le_of_ble_eq_true rfl, ?_⟩
      | refine ⟨(by first | exact Nat.zero_lt_one | assumption | omega), ?_⟩
      | refine ⟨Or.inl rfl, ?_⟩
      | refine ⟨Or.inr (Or.inl rfl), ?_⟩
      | refine ⟨Or.inr (Or.inr rfl), ?_⟩
      | refine ⟨Or.inr ⟨rfl, (by first | exact Or.inl rfl | exact Or.inr rfl | assumption)⟩, ?_⟩
      | refine ⟨fun h => absurd h (by decide), fun _ => ?_⟩
      | refine ⟨fun _ => ?_, fun h => absurd h (by decide)⟩
      | refine ⟨fun h => ?_, fun h => ?_⟩
      | fail)
  · rw [if_neg (by omega)] at hK
    have hle : μ 48 0 14 ≤ μ 48 0 28 := by rw [h14, h28]; exact nI_le q (by omega)
    repeat' (first
      | refine br_t hle ?_
      | exact hK
      | (refine zs k_Mo_letter rfl ?_; conv => whnf)
      | refine ⟨Nat.zero_lt_one, rfl, ?_⟩
      | refine ⟨rfl, ?_⟩
      | refine ⟨⟨Nat.zero_lt_one, rfl⟩, Nat.le_of_ble_eq_true rfl, ?_⟩
      | refine ⟨Nat.le_of_ble_eq_true rfl, Nat.le_of_ble_eq_true rfl, ?_⟩
      | refine ⟨(by first | exact Nat.zero_lt_one | assumption | omega), (by first | assumption | exact vp_in_nI (by omega) (by omega) | (unfold vp_in; decide)), ?_⟩
      | refine ⟨(by first | exact Nat.zero_lt_one | assumption | omega), rfl, ?_⟩
      | refine ⟨⟨(by first | exact Nat.zero_lt_one | assumption | omega), rfl⟩, Nat.le_of_ble_eq_true rfl, ?_⟩
      | refine ⟨(by first | exact Nat.zero_lt_one | assumption | omega), ?_⟩
      | refine ⟨Or.inl rfl, ?_⟩
      | refine ⟨Or.inr (Or.inl rfl), ?_⟩
      | refine ⟨Or.inr (Or.inr rfl), ?_⟩
      | refine ⟨Or.inr ⟨rfl, (by first | exact Or.inl rfl | exact Or.inr rfl | assumption)⟩, ?_⟩
      | refine ⟨fun h => absurd h (by decide), fun _ => ?_⟩
      | refine ⟨fun _ => ?_, fun h => absurd h (by decide)⟩
      | refine ⟨fun h => ?_, fun h => ?_⟩
      | fail)
theorem c_Mo_isDigit {d : Nat} {μ : zMu} {x : Int32} {K : Option zV → zMu → Prop} (h1 : 48 ≤ x ∧ x ≤ 57 → K (some (zI 1)) μ) (h0 : ¬ (48 ≤ x ∧ x ≤ 57) → K (some (zI 0)) μ) : Ct d m_Mo_isDigit [zI x] μ K := by
  refine zmeet rfl (Nat.le_of_ble_eq_true rfl) (fun S => ?_)
  repeat' (first
    | exact h0 (by grind)
    | exact h1 (by grind)
    | (refine zs k_Mo_isDigit rfl ?_; conv => whnf)
    | refine ⟨Nat.zero_lt_one, rfl, ?_⟩
    | refine ⟨rfl, ?_⟩
    | refine ⟨⟨Nat.zero_lt_one, rfl⟩, Nat.le_of_ble_eq_true rfl, ?_⟩
    | refine ⟨Nat.le_of_ble_eq_true rfl, Nat.le_of_ble_eq_true rfl, ?_⟩
    | refine ⟨(by first | exact Nat.zero_lt_one | assumption | omega), (by first | assumption | exact vp_in_nI (by omega) (by omega) | (unfold vp_in; decide)), ?_⟩
    | refine ⟨(by first | exact Nat.zero_lt_one | assumption | omega), rfl, ?_⟩
    | refine ⟨⟨(by first | exact Nat.zero_lt_one | assumption | omega), rfl⟩, Nat.le_of_ble_eq_true rfl, ?_⟩
    | refine ⟨(by first | exact Nat.zero_lt_one | assumption | omega), ?_⟩
    | refine ⟨Or.inl rfl, ?_⟩
    | refine ⟨Or.inr (Or.inl rfl), ?_⟩
    | refine ⟨Or.inr (Or.inr rfl), ?_⟩
    | refine ⟨Or.inr ⟨rfl, (by first | exact Or.inl rfl | exact Or.inr rfl | assumption)⟩, ?_⟩
    | refine ⟨fun h => absurd h (by decide), fun _ => ?_⟩
    | refine ⟨fun _ => ?_, fun h => absurd h (by decide)⟩
    | refine ⟨fun h => ?_, fun h => ?_⟩
    | fail)
theorem qOk_neg {q : zQ} (h : qOk q) : (q.2 = -1 ∧ ¬ 0 ≤ q.2) ∨ (¬ q.2 = -1 ∧ 0 ≤ q.2) := by
  rcases h.2 with e | ⟨p, hp, e⟩
  · exact Or.inl ⟨e, by rw [e]; decide⟩
  · exact Or.inr ⟨by rw [e]; exact nI_nem1 (by omega), by rw [e]; exact nI_pos' (by omega)⟩
theorem mX_ok {a : Nat → Int32} {n : Nat} (h200 : n ≤ 200) : ∀ {cs : List Int32} {q : zQ}, (∀ c ∈ cs, ¬ c = -1) → qOk q → qOk (mX a n cs q)
  | [], _, _, h => h
  | c :: cs, q, hc, h => by
    rw [mX]
    by_cases h1 : q.2 = -1
    · rw [if_pos h1]
      by_cases e : pB a n q.1 = c
      · rw [if_pos e]
        have := pB_lt (a := a) (n := n) (j := q.1) (by rw [e]; exact hc c List.mem_cons_self)
        exact mX_ok h200 (fun c' hc' => hc c' (List.mem_cons_of_mem _ hc')) ⟨by show q.1 + 1 ≤ 1000; omega, Or.inl rfl⟩
      · rw [if_neg e]
        exact ⟨h.1, Or.inr ⟨q.1, by have := h.1; omega, rfl⟩⟩
    · rw [if_neg h1]
      exact h
set_option maxHeartbeats 1000000 in
theorem c_Mo_expect {d n : Nat} {μ : zMu} {a : Nat → Int32} {cs : List Int32} {q : zQ} {x y : Int32} {K : Option zV → zMu → Prop} (E : mE μ a n) (h28 : μ 48 0 28 = nI q.1) (h29 : μ 48 0 29 = q.2) (hq : qOk q) (hx : x = nI cs.length) (h4 : cs.length ≤ 4) (hcm : ∀ c ∈ cs, ¬ c = -1) (hc : ∀ k, k < cs.length → (y >>> (8 * nI k &&& 31)) &&& 255 = cs.getD (cs.length - 1 - k) 0) (hK : K none (cM μ (mX a n cs q))) : Ct (d + 1) m_Mo_expect [zR 48 0, zI x, zI y] μ K := by
  subst hx
  refine zmeet rfl (Nat.le_of_ble_eq_true rfl) (fun S => ?_)
  have h200 := E.2.1
  generalize hQ : mX a n cs q = Q at hK
  have L : ∀ (i : Nat) (w : Int32) (q1 : zQ) (μ1 : zMu), i ≤ cs.length → w = nI i - 1 → μ1 = cM μ q1 → qOk q1 → mX a n (cs.drop (cs.length - i)) q1 = Q → zG S (d + 1) m_Mo_expect K 4 [some (zR 48 0), some (zI (nI cs.length)), some (zI y), some (zI w)] [] μ1 := by
    intro i
    induction i with
    | zero =>
      intro w q1 μ1 hi hw h1 ho hfin
      subst hw h1
      rw [Nat.sub_zero, List.drop_length] at hfin
      have hfin : q1 = Q := hfin
      refine zs k_Mo_expect rfl ?_; conv => whnf
      repeat' (first
        | refine br_t (show (nI 0 - 1 : Int32) < 0 by decide) ?_
        | exact zKn hK (by rw [hfin])
        | (refine zs k_Mo_expect rfl ?_; conv => whnf)
        | refine ⟨Nat.zero_lt_one, rfl, ?_⟩
        | refine ⟨rfl, ?_⟩
        | refine ⟨⟨Nat.zero_lt_one, rfl⟩, Nat.le_of_ble_eq_true rfl, ?_⟩
        | refine ⟨Nat.le_of_ble_eq_true rfl, Nat.le_of_ble_eq_true rfl, ?_⟩
        | refine ⟨(by first | exact Nat.zero_lt_one | assumption | omega), (by first | assumption | exact vp_in_nI (by omega) (by omega) | (unfold vp_in; decide)), ?_⟩
        | refine ⟨(by first | exact Nat.zero_lt_one | assumption | omega), rfl, ?_⟩
        | refine ⟨⟨(by first | exact Nat.zero_lt_one | assumption | omega), rfl⟩, Nat.le_of_ble_eq_true rfl, ?_⟩
        | refine ⟨(by first | exact Nat.zero_lt_one | assumption | omega), ?_⟩
        | refine ⟨Or.inl rfl, ?_⟩
        | refine ⟨Or.inr (Or.inl rfl), ?_⟩
        | refine ⟨Or.inr (Or.inr rfl), ?_⟩
        | refine ⟨Or.inr ⟨rfl, (by first | exact Or.inl rfl | exact Or.inr rfl | assumption)⟩, ?_⟩
        | refine ⟨fun h => absurd h (by decide), fun _ => ?_⟩
        | refine ⟨fun _ => ?_, fun h => absurd h (by decide)⟩
        | refine ⟨fun h => ?_, fun h => ?_⟩
        | fail)
    | succ i ih =>
      intro w q1 μ1 hi hw h1 ho hfin
      subst hw
      rw [nI_pred]
      have a28 : μ1 48 0 28 = nI q1.1 := by rw [h1]; exact cM_28
      have a29 : μ1 48 0 29 = q1.2 := by rw [h1]; exact cM_29
      have E1 : mE μ1 a n := by rw [h1]; exact cM_E E
      rcases qOk_neg ho with ⟨o1, o2⟩ | ⟨o1, o2⟩
      case inr =>
        rw [mX_ft o1] at hfin
        have o2' : 0 ≤ μ1 48 0 29 := by rw [a29]; exact o2
        refine zs k_Mo_expect rfl ?_; conv => whnf
        repeat' (first
          | refine br_f (nI_pos (by omega)) ?_
          | refine br_t o2' ?_
          | exact zKn hK (by rw [h1, hfin])
          | (refine zs k_Mo_expect rfl ?_; conv => whnf)
          | refine ⟨Nat.zero_lt_one, rfl, ?_⟩
          | refine ⟨rfl, ?_⟩
          | refine ⟨⟨Nat.zero_lt_one, rfl⟩, Nat.le_of_ble_eq_true rfl, ?_⟩
          | refine ⟨Nat.le_of_ble_eq_true rfl, Nat.le_of_ble_eq_true rfl, ?_⟩
          | refine ⟨(by first | exact Nat.zero_lt_one | assumption | omega), (by first | assumption | exact vp_in_nI (by omega) (by omega) | (unfold vp_in; decide)), ?_⟩
          | refine ⟨(by first | exact Nat.zero_lt_one | assumption | omega), rfl, ?_⟩
          | refine ⟨⟨(by first | exact Nat.zero_lt_one | assumption | omega), rfl⟩, Nat.le_of_ble_eq_true rfl, ?_⟩
          | refine ⟨(by first | exact Nat.zero_lt_one | assumption | omega), ?_⟩
          | refine ⟨Or.inl rfl, ?_⟩
          | refine ⟨Or.inr (Or.inl rfl), ?_⟩
          | refine ⟨Or.inr (Or.inr rfl), ?_⟩
          | refine ⟨Or.inr ⟨rfl, (by first | exact Or.inl rfl | exact Or.inr rfl | assumption)⟩, ?_⟩
          | refine ⟨fun h => absurd h (by decide), fun _ => ?_⟩
          | refine ⟨fun _ => ?_, fun h => absurd h (by decide)⟩
          | refine ⟨fun h => ?_, fun h => ?_⟩
          | fail)
      have o2' : ¬ 0 ≤ μ1 48 0 29 := by rw [a29]; exact o2
      have hd : cs.drop (cs.length - (i + 1)) = cs.getD (cs.length - 1 - i) 0 :: cs.drop (cs.length - i) := by
        rw [List.drop_eq_getElem_cons (show cs.length - (i + 1) < cs.length by omega), show cs.length - (i + 1) + 1 = cs.length - i by omega]
        congr 1
        rw [List.getD_eq_getElem?_getD, show cs.length - 1 - i = cs.length - (i + 1) by omega, List.getElem?_eq_getElem (show cs.length - (i + 1) < cs.length by omega)]
        rfl
      rw [hd, mX, if_pos o1] at hfin
      have hch := hc i (by omega)
      by_cases e : pB a n q1.1 = cs.getD (cs.length - 1 - i) 0
      · rw [if_pos e] at hfin
        have e' : pB a n q1.1 = (y >>> (8 * nI i &&& 31)) &&& 255 := e.trans hch.symm
        have hlt := pB_lt (a := a) (n := n) (j := q1.1) (by
          rw [e]
          refine hcm _ ?_
          rw [List.getD_eq_getElem?_getD, List.getElem?_eq_getElem (show cs.length - 1 - i < cs.length by omega)]
          exact List.getElem_mem _)
        refine zs k_Mo_expect rfl ?_; conv => whnf
        repeat' (first
          | refine br_f (nI_pos (by omega)) ?_
          | refine br_f o2' ?_
          | refine c_Mo_letter E1 a28 ho.1 ?_
          | refine br_t e' ?_
          | refine ih _ (q1.1 + 1, -1) _ (by omega) (by exact i32_m1 _) ?_ ⟨by show q1.1 + 1 ≤ 1000; omega, Or.inl rfl⟩ hfin
          | (refine zs k_Mo_expect rfl ?_; conv => whnf)
          | refine ⟨Nat.zero_lt_one, rfl, ?_⟩
          | refine ⟨rfl, ?_⟩
          | refine ⟨⟨Nat.zero_lt_one, rfl⟩, Nat.le_of_ble_eq_true rfl, ?_⟩
          | refine ⟨Nat.le_of_ble_eq_true rfl, Nat.le_of_ble_eq_true rfl, ?_⟩
          | refine ⟨(by first | exact Nat.zero_lt_one | assumption | omega), (by first | assumption | exact vp_in_nI (by omega) (by omega) | (unfold vp_in; decide)), ?_⟩
          | refine ⟨(by first | exact Nat.zero_lt_one | assumption | omega), rfl, ?_⟩
          | refine ⟨⟨(by first | exact Nat.zero_lt_one | assumption | omega), rfl⟩, Nat.le_of_ble_eq_true rfl, ?_⟩
          | refine ⟨(by first | exact Nat.zero_lt_one | assumption | omega), ?_⟩
          | refine ⟨Or.inl rfl, ?_⟩
          | refine ⟨Or.inr (Or.inl rfl), ?_⟩
          | refine ⟨Or.inr (Or.inr rfl), ?_⟩
          | refine ⟨Or.inr ⟨rfl, (by first | exact Or.inl rfl | exact Or.inr rfl | assumption)⟩, ?_⟩
          | refine ⟨fun h => absurd h (by decide), fun _ => ?_⟩
          | refine ⟨fun _ => ?_, fun h => absurd h (by decide)⟩
          | refine ⟨fun h => ?_, fun h => ?_⟩
          | fail)
        rw [h1, cM_at (p := q1.1 + 1) (by rw [cM_28, nI_1]), o1]
      · rw [if_neg e] at hfin
        have e' : ¬ pB a n q1.1 = (y >>> (8 * nI i &&& 31)) &&& 255 := by rw [hch]; exact e
        refine zs k_Mo_expect rfl ?_; conv => whnf
        repeat' (first
          | refine br_f (nI_pos (by omega)) ?_
          | refine br_f o2' ?_
          | refine c_Mo_letter E1 a28 ho.1 ?_
          | refine br_f e' ?_
          | refine ih _ (q1.1, nI q1.1) _ (by omega) (by exact i32_m1 _) ?_ ⟨ho.1, Or.inr ⟨q1.1, by have := ho.1; omega, rfl⟩⟩ (by rw [mX_ft (nI_nem1 (show q1.1 < 2 ^ 31 by have := ho.1; omega))]; exact hfin)
          | (refine zs k_Mo_expect rfl ?_; conv => whnf)
          | refine ⟨Nat.zero_lt_one, rfl, ?_⟩
          | refine ⟨rfl, ?_⟩
          | refine ⟨⟨Nat.zero_lt_one, rfl⟩, Nat.le_of_ble_eq_true rfl, ?_⟩
          | refine ⟨Nat.le_of_ble_eq_true rfl, Nat.le_of_ble_eq_true rfl, ?_⟩
          | refine ⟨(by first | exact Nat.zero_lt_one | assumption | omega), (by first | assumption | exact vp_in_nI (by omega) (by omega) | (unfold vp_in; decide)), ?_⟩
          | refine ⟨(by first | exact Nat.zero_lt_one | assumption | omega), rfl, ?_⟩
          | refine ⟨⟨(by first | exact Nat.zero_lt_one | assumption | omega), rfl⟩, Nat.le_of_ble_eq_true rfl, ?_⟩
          | refine ⟨(by first | exact Nat.zero_lt_one | assumption | omega), ?_⟩
          | refine ⟨Or.inl rfl, ?_⟩
          | refine ⟨Or.inr (Or.inl rfl), ?_⟩
          | refine ⟨Or.inr (Or.inr rfl), ?_⟩
          | refine ⟨Or.inr ⟨rfl, (by first | exact Or.inl rfl | exact Or.inr rfl | assumption)⟩, ?_⟩
          | refine ⟨fun h => absurd h (by decide), fun _ => ?_⟩
          | refine ⟨fun _ => ?_, fun h => absurd h (by decide)⟩
          | refine ⟨fun h => ?_, fun h => ?_⟩
          | fail)
        rw [h1, cM_fl, cM_28]
  repeat' (first
    | refine L cs.length _ q _ (Nat.le_refl _) rfl (cM_id h28 h29) hq (by rw [Nat.sub_self]; exact hQ)
    | (refine zs k_Mo_expect rfl ?_; conv => whnf)
    | refine ⟨Nat.zero_lt_one, rfl, ?_⟩
    | refine ⟨rfl, ?_⟩
    | refine ⟨⟨Nat.zero_lt_one, rfl⟩, Nat.le_of_ble_eq_true rfl, ?_⟩
    | refine ⟨Nat.le_of_ble_eq_true rfl, Nat.le_of_ble_eq_true rfl, ?_⟩
    | refine ⟨(by first | exact Nat.zero_lt_one | assumption | omega), (by first | assumption | exact vp_in_nI (by omega) (by omega) | (unfold vp_in; decide)), ?_⟩
    | refine ⟨(by first | exact Nat.zero_lt_one | assumption | omega), rfl, ?_⟩
    | refine ⟨⟨(by first | exact Nat.zero_lt_one | assumption | omega), rfl⟩, Nat.le_of_ble_eq_true rfl, ?_⟩
    | refine ⟨(by first | exact Nat.zero_lt_one | assumption | omega), ?_⟩
    | refine ⟨Or.inl rfl, ?_⟩
    | refine ⟨Or.inr (Or.inl rfl), ?_⟩
    | refine ⟨Or.inr (Or.inr rfl), ?_⟩
    | refine ⟨Or.inr ⟨rfl, (by first | exact Or.inl rfl | exact Or.inr rfl | assumption)⟩, ?_⟩
    | refine ⟨fun h => absurd h (by decide), fun _ => ?_⟩
    | refine ⟨fun _ => ?_, fun h => absurd h (by decide)⟩
    | refine ⟨fun h => ?_, fun h => ?_⟩
    | fail)
/-- of two, of three bytes one -/
def mOne (a : Nat → Int32) (n : Nat) (cs : List Int32) (at_ : Nat) : Nat × zQ := if pB a n at_ = cs.getD 0 0 then (0, at_ + 1, -1) else if pB a n at_ = cs.getD 1 0 then (1, at_ + 1, -1) else if 2 < cs.length ∧ pB a n at_ = cs.getD 2 0 then (2, at_ + 1, -1) else (0, at_, nI at_)
theorem mOne_2 {a : Nat → Int32} {n at_ : Nat} : mOne a n [97, 98] at_ = if pB a n at_ = 97 then (0, at_ + 1, -1) else if pB a n at_ = 98 then (1, at_ + 1, -1) else if 2 < ([97, 98] : List Int32).length ∧ pB a n at_ = ([97, 98] : List Int32).getD 2 0 then (2, at_ + 1, -1) else (0, at_, nI at_) := rfl
theorem mOne_3 {a : Nat → Int32} {n at_ : Nat} : mOne a n [61, 60, 62] at_ = if pB a n at_ = 61 then (0, at_ + 1, -1) else if pB a n at_ = 60 then (1, at_ + 1, -1) else if 2 < ([61, 60, 62] : List Int32).length ∧ pB a n at_ = 62 then (2, at_ + 1, -1) else (0, at_, nI at_) := rfl
set_option maxHeartbeats 1000000 in
theorem c_Mo_one2 {d n at_ : Nat} {μ : zMu} {a : Nat → Int32} {K : Option zV → zMu → Prop} (E : mE μ a n) (h28 : μ 48 0 28 = nI at_) (h29 : μ 48 0 29 = -1) (hat : at_ ≤ 1000) (hK : K (some (zI (nI (mOne a n [97, 98] at_).1))) (cM μ (mOne a n [97, 98] at_).2)) : Ct (d + 1) m_Mo_oneOf [zR 48 0, zI 2, zI 24930] μ K := by
  refine zmeet rfl (Nat.le_of_ble_eq_true rfl) (fun S => ?_)
  have e0 : ((24930 : Int32) >>> (8 * (2 - 1 - 0) &&& 31)) &&& 255 = 97 := by decide
  have e1 : ((24930 : Int32) >>> (8 * (2 - 1 - (0 + 1)) &&& 31)) &&& 255 = 98 := by decide
  have hid := cM_id (q := (at_, -1)) h28 h29
  rw [mOne_2] at hK
  by_cases l0 : pB a n at_ = 97
  · rw [if_pos l0] at hK
    have f0 : pB a n at_ = ((24930 : Int32) >>> (8 * (2 - 1 - 0) &&& 31)) &&& 255 := l0.trans e0.symm
    have f1 : ¬ pB a n at_ = ((24930 : Int32) >>> (8 * (2 - 1 - (0 + 1)) &&& 31)) &&& 255 := by rw [e1, l0]; decide
    repeat' (first
      | refine c_Mo_letter E h28 hat ?_
      | refine bn_f f0 ?_
      | refine bn_t f1 ?_
      | refine br_f (show ¬ (2 : Int32) ≤ 0 by decide) ?_
      | refine br_f (show ¬ (2 : Int32) ≤ 0 + 1 by decide) ?_
      | refine br_t (show (2 : Int32) ≤ 0 + 1 + 1 by decide) ?_
      | exact zKe hK rfl (by rw [h28, nI_1]; conv => lhs; rw [hid, cM_at rfl])
      | (refine zs k_Mo_oneOf rfl ?_; conv => whnf)
      | refine ⟨Nat.zero_lt_one, rfl, ?_⟩
      | refine ⟨rfl, ?_⟩
      | refine ⟨⟨Nat.zero_lt_one, rfl⟩, Nat.le_of_ble_eq_true rfl, ?_⟩
      | refine ⟨Nat.le_of_ble_eq_true rfl, Nat.le_of_ble_eq_true rfl, ?_⟩
      | refine ⟨(by first | exact Nat.zero_lt_one | assumption | omega), (by first | assumption | exact vp_in_nI (by omega) (by omega) | (unfold vp_in; decide)), ?_⟩
      | refine ⟨(by first | exact Nat.zero_lt_one | assumption | omega), rfl, ?_⟩
      | refine ⟨⟨(by first | exact Nat.zero_lt_one | assumption | omega), rfl⟩, Nat.le_of_ble_eq_true rfl, ?_⟩
      | refine ⟨(by first | exact Nat.zero_lt_one | assumption | omega), ?_⟩
      | refine ⟨Or.inl rfl, ?_⟩
      | refine ⟨Or.inr (Or.inl rfl), ?_⟩
      | refine ⟨Or.inr (Or.inr rfl), ?_⟩
      | refine ⟨Or.inr ⟨rfl, (by first | exact Or.inl rfl | exact Or.inr rfl | assumption)⟩, ?_⟩
      | refine ⟨fun h => absurd h (by decide), fun _ => ?_⟩
      | refine ⟨fun _ => ?_, fun h => absurd h (by decide)⟩
      | refine ⟨fun h => ?_, fun h => ?_⟩
      | fail)
  · rw [if_neg l0] at hK
    have f0 : ¬ pB a n at_ = ((24930 : Int32) >>> (8 * (2 - 1 - 0) &&& 31)) &&& 255 := by rw [e0]; exact l0
    by_cases l1 : pB a n at_ = 98
    · rw [if_pos l1] at hK
      have f1 : pB a n at_ = ((24930 : Int32) >>> (8 * (2 - 1 - (0 + 1)) &&& 31)) &&& 255 := l1.trans e1.symm
      repeat' (first
        | refine c_Mo_letter E h28 hat ?_
        | refine bn_t f0 ?_
        | refine bn_f f1 ?_
        | refine br_f (show ¬ (2 : Int32) ≤ 0 by decide) ?_
        | refine br_f (show ¬ (2 : Int32) ≤ 0 + 1 by decide) ?_
        | refine br_t (show (2 : Int32) ≤ 0 + 1 + 1 by decide) ?_
        | exact zKe hK rfl (by rw [h28, nI_1]; conv => lhs; rw [hid, cM_at rfl])
        | (refine zs k_Mo_oneOf rfl ?_; conv => whnf)
        | refine ⟨Nat.zero_lt_one, rfl, ?_⟩
        | refine ⟨rfl, ?_⟩
        | refine ⟨⟨Nat.zero_lt_one, rfl⟩, Nat.le_of_ble_eq_true rfl, ?_⟩
        | refine ⟨Nat.le_of_ble_eq_true rfl, Nat.le_of_ble_eq_true rfl, ?_⟩
        | refine ⟨(by first | exact Nat.zero_lt_one | assumption | omega), (by first | assumption | exact vp_in_nI (by omega) (by omega) | (unfold vp_in; decide)), ?_⟩
        | refine ⟨(by first | exact Nat.zero_lt_one | assumption | omega), rfl, ?_⟩
        | refine ⟨⟨(by first | exact Nat.zero_lt_one | assumption | omega), rfl⟩, Nat.le_of_ble_eq_true rfl, ?_⟩
        | refine ⟨(by first | exact Nat.zero_lt_one | assumption | omega), ?_⟩
        | refine ⟨Or.inl rfl, ?_⟩
        | refine ⟨Or.inr (Or.inl rfl), ?_⟩
        | refine ⟨Or.inr (Or.inr rfl), ?_⟩
        | refine ⟨Or.inr ⟨rfl, (by first | exact Or.inl rfl | exact Or.inr rfl | assumption)⟩, ?_⟩
        | refine ⟨fun h => absurd h (by decide), fun _ => ?_⟩
        | refine ⟨fun _ => ?_, fun h => absurd h (by decide)⟩
        | refine ⟨fun h => ?_, fun h => ?_⟩
        | fail)
    · rw [if_neg l1, if_neg (fun q => absurd q.1 (by decide))] at hK
      have f1 : ¬ pB a n at_ = ((24930 : Int32) >>> (8 * (2 - 1 - (0 + 1)) &&& 31)) &&& 255 := by rw [e1]; exact l1
      repeat' (first
        | refine c_Mo_letter E h28 hat ?_
        | refine bn_t f0 ?_
        | refine bn_t f1 ?_
        | refine br_f (show ¬ (2 : Int32) ≤ 0 by decide) ?_
        | refine br_f (show ¬ (2 : Int32) ≤ 0 + 1 by decide) ?_
        | refine br_t (show (2 : Int32) ≤ 0 + 1 + 1 by decide) ?_
        | exact zKe hK rfl (by rw [h28]; conv => lhs; rw [hid, cM_fl])
        | (refine zs k_Mo_oneOf rfl ?_; conv => whnf)
        | refine ⟨Nat.zero_lt_one, rfl, ?_⟩
        | refine ⟨rfl, ?_⟩
        | refine ⟨⟨Nat.zero_lt_one, rfl⟩, Nat.le_of_ble_eq_true rfl, ?_⟩
        | refine ⟨Nat.le_of_ble_eq_true rfl, Nat.le_of_ble_eq_true rfl, ?_⟩
        | refine ⟨(by first | exact Nat.zero_lt_one | assumption | omega), (by first | assumption | exact vp_in_nI (by omega) (by omega) | (unfold vp_in; decide)), ?_⟩
        | refine ⟨(by first | exact Nat.zero_lt_one | assumption | omega), rfl, ?_⟩
        | refine ⟨⟨(by first | exact Nat.zero_lt_one | assumption | omega), rfl⟩, Nat.le_of_ble_eq_true rfl, ?_⟩
        | refine ⟨(by first | exact Nat.zero_lt_one | assumption | omega), ?_⟩
        | refine ⟨Or.inl rfl, ?_⟩
        | refine ⟨Or.inr (Or.inl rfl), ?_⟩
        | refine ⟨Or.inr (Or.inr rfl), ?_⟩
        | refine ⟨Or.inr ⟨rfl, (by first | exact Or.inl rfl | exact Or.inr rfl | assumption)⟩, ?_⟩
        | refine ⟨fun h => absurd h (by decide), fun _ => ?_⟩
        | refine ⟨fun _ => ?_, fun h => absurd h (by decide)⟩
        | refine ⟨fun h => ?_, fun h => ?_⟩
        | fail)
set_option maxHeartbeats 1000000 in
theorem c_Mo_one3 {d n at_ : Nat} {μ : zMu} {a : Nat → Int32} {K : Option zV → zMu → Prop} (E : mE μ a n) (h28 : μ 48 0 28 = nI at_) (h29 : μ 48 0 29 = -1) (hat : at_ ≤ 1000) (hK : K (some (zI (nI (mOne a n [61, 60, 62] at_).1))) (cM μ (mOne a n [61, 60, 62] at_).2)) : Ct (d + 1) m_Mo_oneOf [zR 48 0, zI 3, zI 4013118] μ K := by
  refine zmeet rfl (Nat.le_of_ble_eq_true rfl) (fun S => ?_)
  have e0 : ((4013118 : Int32) >>> (8 * (3 - 1 - 0) &&& 31)) &&& 255 = 61 := by decide
  have e1 : ((4013118 : Int32) >>> (8 * (3 - 1 - (0 + 1)) &&& 31)) &&& 255 = 60 := by decide
  have e2 : ((4013118 : Int32) >>> (8 * (3 - 1 - (0 + 1 + 1)) &&& 31)) &&& 255 = 62 := by decide
  have hid := cM_id (q := (at_, -1)) h28 h29
  rw [mOne_3] at hK
  generalize hl : pB a n at_ = l at hK
  have n0 : ∀ c : Int32, (l = ((4013118 : Int32) >>> (8 * (3 - 1 - 0) &&& 31)) &&& 255 ↔ l = 61) := fun _ => by rw [e0]
  have n1 : ∀ c : Int32, (l = ((4013118 : Int32) >>> (8 * (3 - 1 - (0 + 1)) &&& 31)) &&& 255 ↔ l = 60) := fun _ => by rw [e1]
  have n2 : ∀ c : Int32, (l = ((4013118 : Int32) >>> (8 * (3 - 1 - (0 + 1 + 1)) &&& 31)) &&& 255 ↔ l = 62) := fun _ => by rw [e2]
  have k0 : ¬ (3 : Int32) ≤ 0 := by decide
  have k1 : ¬ (3 : Int32) ≤ 0 + 1 := by decide
  have k2 : ¬ (3 : Int32) ≤ 0 + 1 + 1 := by decide
  have k3 : (3 : Int32) ≤ 0 + 1 + 1 + 1 := by decide
  by_cases l0 : l = 61
  · rw [if_pos l0] at hK
    have f0 := (n0 0).mpr l0
    have f1 : ¬ l = ((4013118 : Int32) >>> (8 * (3 - 1 - (0 + 1)) &&& 31)) &&& 255 := by rw [e1, l0]; decide
    have f2 : ¬ l = ((4013118 : Int32) >>> (8 * (3 - 1 - (0 + 1 + 1)) &&& 31)) &&& 255 := by rw [e2, l0]; decide
    rw [← hl] at f0 f1 f2
    repeat' (first
      | refine c_Mo_letter E h28 hat ?_
      | refine bn_f f0 ?_
      | refine bn_t f1 ?_
      | refine bn_t f2 ?_
      | refine br_f k0 ?_
      | refine br_f k1 ?_
      | refine br_f k2 ?_
      | refine br_t k3 ?_
      | exact zKe hK rfl (by rw [h28, nI_1]; conv => lhs; rw [hid, cM_at rfl])
      | (refine zs k_Mo_oneOf rfl ?_; conv => whnf)
      | refine ⟨Nat.zero_lt_one, rfl, ?_⟩
      | refine ⟨rfl, ?_⟩
      | refine ⟨⟨Nat.zero_lt_one, rfl⟩, Nat.le_of_ble_eq_true rfl, ?_⟩
      | refine ⟨Nat.le_of_ble_eq_true rfl, Nat.le_of_ble_eq_true rfl, ?_⟩
      | refine ⟨(by first | exact Nat.zero_lt_one | assumption | omega), (by first | assumption | exact vp_in_nI (by omega) (by omega) | (unfold vp_in; decide)), ?_⟩
      | refine ⟨(by first | exact Nat.zero_lt_one | assumption | omega), rfl, ?_⟩
      | refine ⟨⟨(by first | exact Nat.zero_lt_one | assumption | omega), rfl⟩, Nat.le_of_ble_eq_true rfl, ?_⟩
      | refine ⟨(by first | exact Nat.zero_lt_one | assumption | omega), ?_⟩
      | refine ⟨Or.inl rfl, ?_⟩
      | refine ⟨Or.inr (Or.inl rfl), ?_⟩
      | refine ⟨Or.inr (Or.inr rfl), ?_⟩
      | refine ⟨Or.inr ⟨rfl, (by first | exact Or.inl rfl | exact Or.inr rfl | assumption)⟩, ?_⟩
      | refine ⟨fun h => absurd h (by decide), fun _ => ?_⟩
      | refine ⟨fun _ => ?_, fun h => absurd h (by decide)⟩
      | refine ⟨fun h => ?_, fun h => ?_⟩
      | fail)
  · rw [if_neg l0] at hK
    have f0 : ¬ l = ((4013118 : Int32) >>> (8 * (3 - 1 - 0) &&& 31)) &&& 255 := by rw [e0]; exact l0
    by_cases l1 : l = 60
    · rw [if_pos l1] at hK
      have f1 := (n1 0).mpr l1
      have f2 : ¬ l = ((4013118 : Int32) >>> (8 * (3 - 1 - (0 + 1 + 1)) &&& 31)) &&& 255 := by rw [e2, l1]; decide
      rw [← hl] at f0 f1 f2
      repeat' (first
        | refine c_Mo_letter E h28 hat ?_
        | refine bn_t f0 ?_
        | refine bn_f f1 ?_
        | refine bn_t f2 ?_
        | refine br_f k0 ?_
        | refine br_f k1 ?_
        | refine br_f k2 ?_
        | refine br_t k3 ?_
        | exact zKe hK rfl (by rw [h28, nI_1]; conv => lhs; rw [hid, cM_at rfl])
        | (refine zs k_Mo_oneOf rfl ?_; conv => whnf)
        | refine ⟨Nat.zero_lt_one, rfl, ?_⟩
        | refine ⟨rfl, ?_⟩
        | refine ⟨⟨Nat.zero_lt_one, rfl⟩, Nat.le_of_ble_eq_true rfl, ?_⟩
        | refine ⟨Nat.le_of_ble_eq_true rfl, Nat.le_of_ble_eq_true rfl, ?_⟩
        | refine ⟨(by first | exact Nat.zero_lt_one | assumption | omega), (by first | assumption | exact vp_in_nI (by omega) (by omega) | (unfold vp_in; decide)), ?_⟩
        | refine ⟨(by first | exact Nat.zero_lt_one | assumption | omega), rfl, ?_⟩
        | refine ⟨⟨(by first | exact Nat.zero_lt_one | assumption | omega), rfl⟩, Nat.le_of_ble_eq_true rfl, ?_⟩
        | refine ⟨(by first | exact Nat.zero_lt_one | assumption | omega), ?_⟩
        | refine ⟨Or.inl rfl, ?_⟩
        | refine ⟨Or.inr (Or.inl rfl), ?_⟩
        | refine ⟨Or.inr (Or.inr rfl), ?_⟩
        | refine ⟨Or.inr ⟨rfl, (by first | exact Or.inl rfl | exact Or.inr rfl | assumption)⟩, ?_⟩
        | refine ⟨fun h => absurd h (by decide), fun _ => ?_⟩
        | refine ⟨fun _ => ?_, fun h => absurd h (by decide)⟩
        | refine ⟨fun h => ?_, fun h => ?_⟩
        | fail)
    · rw [if_neg l1] at hK
      have f1 : ¬ l = ((4013118 : Int32) >>> (8 * (3 - 1 - (0 + 1)) &&& 31)) &&& 255 := by rw [e1]; exact l1
      by_cases l2 : l = 62
      · rw [if_pos ⟨by decide, l2⟩] at hK
        have f2 := (n2 0).mpr l2
        rw [← hl] at f0 f1 f2
        repeat' (first
          | refine c_Mo_letter E h28 hat ?_
          | refine bn_t f0 ?_
          | refine bn_t f1 ?_
          | refine bn_f f2 ?_
          | refine br_f k0 ?_
          | refine br_f k1 ?_
          | refine br_f k2 ?_
          | refine br_t k3 ?_
          | exact zKe hK rfl (by rw [h28, nI_1]; conv => lhs; rw [hid, cM_at rfl])
          | (refine zs k_Mo_oneOf rfl ?_; conv => whnf)
          | refine ⟨Nat.zero_lt_one, rfl, ?_⟩
          | refine ⟨rfl, ?_⟩
          | refine ⟨⟨Nat.zero_lt_one, rfl⟩, Nat.le_of_ble_eq_true rfl, ?_⟩
          | refine ⟨Nat.le_of_ble_eq_true rfl, Nat.le_of_ble_eq_true rfl, ?_⟩
          | refine ⟨(by first | exact Nat.zero_lt_one | assumption | omega), (by first | assumption | exact vp_in_nI (by omega) (by omega) | (unfold vp_in; decide)), ?_⟩
          | refine ⟨(by first | exact Nat.zero_lt_one | assumption | omega), rfl, ?_⟩
          | refine ⟨⟨(by first | exact Nat.zero_lt_one | assumption | omega), rfl⟩, Nat.le_of_ble_eq_true rfl, ?_⟩
          | refine ⟨(by first | exact Nat.zero_lt_one | assumption | omega), ?_⟩
          | refine ⟨Or.inl rfl, ?_⟩
          | refine ⟨Or.inr (Or.inl rfl), ?_⟩
          | refine ⟨Or.inr (Or.inr rfl), ?_⟩
          | refine ⟨Or.inr ⟨rfl, (by first | exact Or.inl rfl | exact Or.inr rfl | assumption)⟩, ?_⟩
          | refine ⟨fun h => absurd h (by decide), fun _ => ?_⟩
          | refine ⟨fun _ => ?_, fun h => absurd h (by decide)⟩
          | refine ⟨fun h => ?_, fun h => ?_⟩
          | fail)
      · rw [if_neg (fun q => l2 q.2)] at hK
        have f2 : ¬ l = ((4013118 : Int32) >>> (8 * (3 - 1 - (0 + 1 + 1)) &&& 31)) &&& 255 := by rw [e2]; exact l2
        rw [← hl] at f0 f1 f2
        repeat' (first
          | refine c_Mo_letter E h28 hat ?_
          | refine bn_t f0 ?_
          | refine bn_t f1 ?_
          | refine bn_t f2 ?_
          | refine br_f k0 ?_
          | refine br_f k1 ?_
          | refine br_f k2 ?_
          | refine br_t k3 ?_
          | exact zKe hK rfl (by rw [h28]; conv => lhs; rw [hid, cM_fl])
          | (refine zs k_Mo_oneOf rfl ?_; conv => whnf)
          | refine ⟨Nat.zero_lt_one, rfl, ?_⟩
          | refine ⟨rfl, ?_⟩
          | refine ⟨⟨Nat.zero_lt_one, rfl⟩, Nat.le_of_ble_eq_true rfl, ?_⟩
          | refine ⟨Nat.le_of_ble_eq_true rfl, Nat.le_of_ble_eq_true rfl, ?_⟩
          | refine ⟨(by first | exact Nat.zero_lt_one | assumption | omega), (by first | assumption | exact vp_in_nI (by omega) (by omega) | (unfold vp_in; decide)), ?_⟩
          | refine ⟨(by first | exact Nat.zero_lt_one | assumption | omega), rfl, ?_⟩
          | refine ⟨⟨(by first | exact Nat.zero_lt_one | assumption | omega), rfl⟩, Nat.le_of_ble_eq_true rfl, ?_⟩
          | refine ⟨(by first | exact Nat.zero_lt_one | assumption | omega), ?_⟩
          | refine ⟨Or.inl rfl, ?_⟩
          | refine ⟨Or.inr (Or.inl rfl), ?_⟩
          | refine ⟨Or.inr (Or.inr rfl), ?_⟩
          | refine ⟨Or.inr ⟨rfl, (by first | exact Or.inl rfl | exact Or.inr rfl | assumption)⟩, ?_⟩
          | refine ⟨fun h => absurd h (by decide), fun _ => ?_⟩
          | refine ⟨fun _ => ?_, fun h => absurd h (by decide)⟩
          | refine ⟨fun h => ?_, fun h => ?_⟩
          | fail)
theorem zWf_tab : ∀ w, w < 7 → gBeg.getD w 0 = nI (gBeg.getD w 0).toNatClampNeg ∧ gLon.getD w 0 = nI (zWf.getD w []).length ∧ (gBeg.getD w 0).toNatClampNeg + (zWf.getD w []).length ≤ 33 ∧ ∀ j, j < 6 → j < (zWf.getD w []).length → (zWf.getD w [])[j]? = some (gLet.getD ((gBeg.getD w 0).toNatClampNeg + j) 0) := by decide +kernel
set_option maxHeartbeats 2000000 in
theorem c_Mo_word {d n at_ m : Nat} {μ : zMu} {a : Nat → Int32} {x : Int32} {K : Option zV → zMu → Prop} (E : mE μ a n) (h28 : μ 48 0 28 = nI at_) (h29 : μ 48 0 29 = -1) (hat : at_ ≤ n) (hm0 : 0 < m) (hm7 : m ≤ 7) (hx : x = nI m) (h1 : ∀ i L, wL (fun j => pB a n (at_ + j)) (zWf.take m) 0 0 = .inl (i, L) → K (some (zI (nI i))) (cM μ (at_ + L, -1))) (h0 : ∀ i L, wL (fun j => pB a n (at_ + j)) (zWf.take m) 0 0 = .inr L → K (some (zI (nI i))) (cM μ (at_ + L, nI (at_ + L)))) : Ct d m_Mo_word [zR 48 0, zI x] μ K := by
  subst hx
  refine zmeet rfl (Nat.le_of_ble_eq_true rfl) (fun S => ?_)
  obtain ⟨h14, h200, h63, c80, c81, c82⟩ := id E
  have hid := cM_id (q := (at_, -1)) h28 h29
  generalize hb : (fun j => pB a n (at_ + j)) = b at h1 h0
  have hpf : ∀ i, i < 7 → pfx b (zWf.getD i []) 0 ≤ 6 := fun i hi => Nat.le_trans pfx_le (zWf_len i hi).2
  -- the end
  have E1 : ∀ (l6 : Option zV) (bs lg : Int32), (lg, bs) = ((mbl (fun j => pfx b (zWf.getD j []) 0) m).1, nI (mbl (fun j => pfx b (zWf.getD j []) 0) m).2) → zG S d m_Mo_word K 102 [some (zR 48 0), some (zI (nI m)), some (zI (nI at_)), some (zI bs), some (zI lg), some (zI (nI m)), l6] [] μ := by
    intro l6 bs lg he
    have he1 := congrArg Prod.fst he
    have he2 := congrArg Prod.snd he
    dsimp only at he1 he2
    cases hw : wL b (zWf.take m) 0 0 with
    | inl r =>
      obtain ⟨i, L⟩ := r
      obtain ⟨i0, w, w1, w2, w3⟩ := wL_hit hw
      have hi0 : i0 < m := by
        have := (List.getElem?_eq_some_iff.mp w1).1
        rw [List.length_take] at this
        omega
      have hwd : w = zWf.getD i0 [] := by
        rw [List.getElem?_take_of_lt hi0] at w1
        rw [List.getD_eq_getElem?_getD, w1]
        rfl
      subst hwd
      have hmb := mbl_hit (b := b) hm7 hi0 w3
      rw [hmb] at he1 he2
      dsimp only at he1 he2
      have hi : i = i0 := by have := congrArg Prod.fst w2; dsimp only at this; omega
      have hL : L = (zWf.getD i0 []).length := congrArg Prod.snd w2
      subst he1 he2
      have hk := h1 i L hw
      have t2 := (zWf_tab i0 (by omega)).2.1
      have ci : (nI i0).toNatClampNeg = i0 := nI_clamp (by omega)
      have e82 : μ 82 0 (nI i0).toNatClampNeg = nI (zWf.getD i0 []).length := by rw [ci, c82 i0 (by omega)]; exact t2
      have hl6 := (zWf_len i0 (by omega)).2
      have hge : μ 82 0 (nI i0).toNatClampNeg ≤ nI (zWf.getD i0 []).length := by rw [e82]; exact nI_le (Nat.le_refl _) (by omega)
      have vi : vp_in (nI i0) 7 := vp_in_nI (by omega) (by omega)
      refine zs k_Mo_word rfl ?_; conv => whnf
      repeat' (first
        | refine br_t hge ?_
        | exact zKe hk (by rw [hi]) (by rw [hL, nI_add]; conv => lhs; rw [hid, cM_at rfl])
        | (refine zs k_Mo_word rfl ?_; conv => whnf)
        | refine ⟨Nat.zero_lt_one, rfl, ?_⟩
        | refine ⟨rfl, ?_⟩
        | refine ⟨⟨Nat.zero_lt_one, rfl⟩, Nat.le_of_ble_eq_true rfl, ?_⟩
        | refine ⟨Nat.le_of_ble_eq_true rfl, Nat.le_of_ble_eq_true rfl, ?_⟩
        | refine ⟨(by first | exact Nat.zero_lt_one | assumption | omega), (by first | assumption | exact vp_in_nI (by omega) (by omega) | (unfold vp_in; decide)), ?_⟩
        | refine ⟨(by first | exact Nat.zero_lt_one | assumption | omega), rfl, ?_⟩
        | refine ⟨⟨(by first | exact Nat.zero_lt_one | assumption | omega), rfl⟩, Nat.le_of_ble_eq_true rfl, ?_⟩
        | refine ⟨(by first | exact Nat.zero_lt_one | assumption | omega), ?_⟩
        | refine ⟨Or.inl rfl, ?_⟩
        | refine ⟨Or.inr (Or.inl rfl), ?_⟩
        | refine ⟨Or.inr (Or.inr rfl), ?_⟩
        | refine ⟨Or.inr ⟨rfl, (by first | exact Or.inl rfl | exact Or.inr rfl | assumption)⟩, ?_⟩
        | refine ⟨fun h => absurd h (by decide), fun _ => ?_⟩
        | refine ⟨fun _ => ?_, fun h => absurd h (by decide)⟩
        | refine ⟨fun h => ?_, fun h => ?_⟩
        | fail)
    | inr L =>
      obtain ⟨t, ht, hmb, hlt, hL10⟩ := mbl_no (b := b) hm0 hm7 hw
      rw [hmb] at he1 he2
      dsimp only at he1 he2
      subst he1 he2
      have hk := h0 t L hw
      have t2 := (zWf_tab t (by omega)).2.1
      have ci : (nI t).toNatClampNeg = t := nI_clamp (by omega)
      have e82 : μ 82 0 (nI t).toNatClampNeg = nI (zWf.getD t []).length := by rw [ci, c82 t (by omega)]; exact t2
      have hl6 := (zWf_len t (by omega)).2
      have hge : ¬ μ 82 0 (nI t).toNatClampNeg ≤ nI L := by rw [e82]; exact nI_ge hlt (by omega)
      have vi : vp_in (nI t) 7 := vp_in_nI (by omega) (by omega)
      refine zs k_Mo_word rfl ?_; conv => whnf
      repeat' (first
        | refine br_f hge ?_
        | refine zKe hk rfl ?_
        | (refine zs k_Mo_word rfl ?_; conv => whnf)
        | refine ⟨Nat.zero_lt_one, rfl, ?_⟩
        | refine ⟨rfl, ?_⟩
        | refine ⟨⟨Nat.zero_lt_one, rfl⟩, Nat.le_of_ble_eq_true rfl, ?_⟩
        | refine ⟨Nat.le_of_ble_eq_true rfl, Nat.le_of_ble_eq_true rfl, ?_⟩
        | refine ⟨(by first | exact Nat.zero_lt_one | assumption | omega), (by first | assumption | exact vp_in_nI (by omega) (by omega) | (unfold vp_in; decide)), ?_⟩
        | refine ⟨(by first | exact Nat.zero_lt_one | assumption | omega), rfl, ?_⟩
        | refine ⟨⟨(by first | exact Nat.zero_lt_one | assumption | omega), rfl⟩, Nat.le_of_ble_eq_true rfl, ?_⟩
        | refine ⟨(by first | exact Nat.zero_lt_one | assumption | omega), ?_⟩
        | refine ⟨Or.inl rfl, ?_⟩
        | refine ⟨Or.inr (Or.inl rfl), ?_⟩
        | refine ⟨Or.inr (Or.inr rfl), ?_⟩
        | refine ⟨Or.inr ⟨rfl, (by first | exact Or.inl rfl | exact Or.inr rfl | assumption)⟩, ?_⟩
        | refine ⟨fun h => absurd h (by decide), fun _ => ?_⟩
        | refine ⟨fun _ => ?_, fun h => absurd h (by decide)⟩
        | refine ⟨fun h => ?_, fun h => ?_⟩
        | fail)
      show zu (zu μ 48 0 28 (nI at_ + nI L)) 48 0 29 (zu μ 48 0 28 (nI at_ + nI L) 48 0 28) = _
      rw [zu_eq, nI_add]
      rfl
  have L2 : ∀ (k w : Nat) (bs lg v : Int32) (l6 : Option zV), w + k = m → v = nI w → (lg, bs) = ((mbl (fun j => pfx b (zWf.getD j []) 0) w).1, nI (mbl (fun j => pfx b (zWf.getD j []) 0) w).2) → zG S d m_Mo_word K 13 [some (zR 48 0), some (zI (nI m)), some (zI (nI at_)), some (zI bs), some (zI lg), some (zI v), l6] [] μ := by
    intro k
    induction k with
    | zero =>
      intro w bs lg v l6 hw hv he
      subst hv
      obtain rfl : w = m := by omega
      have hle : nI w ≤ nI w := nI_le (Nat.le_refl _) (by omega)
      refine zs k_Mo_word rfl ?_; conv => whnf
      repeat' (first
        | refine br_t hle ?_
        | exact E1 _ _ _ he
        | (refine zs k_Mo_word rfl ?_; conv => whnf)
        | refine ⟨Nat.zero_lt_one, rfl, ?_⟩
        | refine ⟨rfl, ?_⟩
        | refine ⟨⟨Nat.zero_lt_one, rfl⟩, Nat.le_of_ble_eq_true rfl, ?_⟩
        | refine ⟨Nat.le_of_ble_eq_true rfl, Nat.le_of_ble_eq_true rfl, ?_⟩
        | refine ⟨(by first | exact Nat.zero_lt_one | assumption | omega), (by first | assumption | exact vp_in_nI (by omega) (by omega) | (unfold vp_in; decide)), ?_⟩
        | refine ⟨(by first | exact Nat.zero_lt_one | assumption | omega), rfl, ?_⟩
        | refine ⟨⟨(by first | exact Nat.zero_lt_one | assumption | omega), rfl⟩, Nat.le_of_ble_eq_true rfl, ?_⟩
        | refine ⟨(by first | exact Nat.zero_lt_one | assumption | omega), ?_⟩
        | refine ⟨Or.inl rfl, ?_⟩
        | refine ⟨Or.inr (Or.inl rfl), ?_⟩
        | refine ⟨Or.inr (Or.inr rfl), ?_⟩
        | refine ⟨Or.inr ⟨rfl, (by first | exact Or.inl rfl | exact Or.inr rfl | assumption)⟩, ?_⟩
        | refine ⟨fun h => absurd h (by decide), fun _ => ?_⟩
        | refine ⟨fun _ => ?_, fun h => absurd h (by decide)⟩
        | refine ⟨fun h => ?_, fun h => ?_⟩
        | fail)
    | succ k ih =>
      intro w bs lg v l6 hw hv he
      subst hv
      have hle : ¬ nI m ≤ nI w := nI_ge (by omega) (by omega)
      have cw : (nI w).toNatClampNeg = w := nI_clamp (by omega)
      have vw : vp_in (nI w) 7 := vp_in_nI (by omega) (by omega)
      obtain ⟨t1, t2, t3, t4⟩ := zWf_tab w (by omega)
      have hl6 := (zWf_len w (by omega)).2
      have e82 : μ 82 0 (nI w).toNatClampNeg = nI (zWf.getD w []).length := by rw [cw, c82 w (by omega)]; exact t2
      have e81 : μ 81 0 (nI w).toNatClampNeg = nI (gBeg.getD w 0).toNatClampNeg := by rw [cw, c81 w (by omega)]; exact t1
      have hs : mbl (fun j => pfx b (zWf.getD j []) 0) (w + 1) = if (mbl (fun j => pfx b (zWf.getD j []) 0) w).1 < nI (pfx b (zWf.getD w []) 0) then (nI (pfx b (zWf.getD w []) 0), w) else mbl (fun j => pfx b (zWf.getD j []) 0) w := rfl
      have he1 := congrArg Prod.fst he
      have he2 := congrArg Prod.snd he
      dsimp only at he1 he2
      have out : ∀ u : Int32, u = nI (pfx b (zWf.getD w []) 0) → zG S d m_Mo_word K 82 [some (zR 48 0), some (zI (nI m)), some (zI (nI at_)), some (zI bs), some (zI lg), some (zI (nI w)), some (zI u)] [] μ := fun u hu => by
        subst hu
        by_cases q : nI (pfx b (zWf.getD w []) 0) ≤ lg
        · have q' : ¬ (mbl (fun j => pfx b (zWf.getD j []) 0) w).1 < nI (pfx b (zWf.getD w []) 0) := by rw [← he1]; grind
          rw [if_neg q'] at hs
          repeat' (first
            | refine br_t q ?_
            | refine ih (w + 1) _ _ _ _ (by omega) (by exact nI_1 w) (by rw [hs]; exact he)
            | (refine zs k_Mo_word rfl ?_; conv => whnf)
            | refine ⟨Nat.zero_lt_one, rfl, ?_⟩
            | refine ⟨rfl, ?_⟩
            | refine ⟨⟨Nat.zero_lt_one, rfl⟩, Nat.le_of_ble_eq_true rfl, ?_⟩
            | refine ⟨Nat.le_of_ble_eq_true rfl, Nat.le_of_ble_eq_true rfl, ?_⟩
            | refine ⟨(by first | exact Nat.zero_lt_one | assumption | omega), (by first | assumption | exact vp_in_nI (by omega) (by omega) | (unfold vp_in; decide)), ?_⟩
            | refine ⟨(by first | exact Nat.zero_lt_one | assumption | omega), rfl, ?_⟩
            | refine ⟨⟨(by first | exact Nat.zero_lt_one | assumption | omega), rfl⟩, Nat.le_of_ble_eq_true rfl, ?_⟩
            | refine ⟨(by first | exact Nat.zero_lt_one | assumption | omega), ?_⟩
            | refine ⟨Or.inl rfl, ?_⟩
            | refine ⟨Or.inr (Or.inl rfl), ?_⟩
            | refine ⟨Or.inr (Or.inr rfl), ?_⟩
            | refine ⟨Or.inr ⟨rfl, (by first | exact Or.inl rfl | exact Or.inr rfl | assumption)⟩, ?_⟩
            | refine ⟨fun h => absurd h (by decide), fun _ => ?_⟩
            | refine ⟨fun _ => ?_, fun h => absurd h (by decide)⟩
            | refine ⟨fun h => ?_, fun h => ?_⟩
            | fail)
        · have q' : (mbl (fun j => pfx b (zWf.getD j []) 0) w).1 < nI (pfx b (zWf.getD w []) 0) := by rw [← he1]; grind
          rw [if_pos q'] at hs
          repeat' (first
            | refine br_f q ?_
            | refine ih (w + 1) _ _ _ _ (by omega) (by exact nI_1 w) (by rw [hs])
            | (refine zs k_Mo_word rfl ?_; conv => whnf)
            | refine ⟨Nat.zero_lt_one, rfl, ?_⟩
            | refine ⟨rfl, ?_⟩
            | refine ⟨⟨Nat.zero_lt_one, rfl⟩, Nat.le_of_ble_eq_true rfl, ?_⟩
            | refine ⟨Nat.le_of_ble_eq_true rfl, Nat.le_of_ble_eq_true rfl, ?_⟩
            | refine ⟨(by first | exact Nat.zero_lt_one | assumption | omega), (by first | assumption | exact vp_in_nI (by omega) (by omega) | (unfold vp_in; decide)), ?_⟩
            | refine ⟨(by first | exact Nat.zero_lt_one | assumption | omega), rfl, ?_⟩
            | refine ⟨⟨(by first | exact Nat.zero_lt_one | assumption | omega), rfl⟩, Nat.le_of_ble_eq_true rfl, ?_⟩
            | refine ⟨(by first | exact Nat.zero_lt_one | assumption | omega), ?_⟩
            | refine ⟨Or.inl rfl, ?_⟩
            | refine ⟨Or.inr (Or.inl rfl), ?_⟩
            | refine ⟨Or.inr (Or.inr rfl), ?_⟩
            | refine ⟨Or.inr ⟨rfl, (by first | exact Or.inl rfl | exact Or.inr rfl | assumption)⟩, ?_⟩
            | refine ⟨fun h => absurd h (by decide), fun _ => ?_⟩
            | refine ⟨fun _ => ?_, fun h => absurd h (by decide)⟩
            | refine ⟨fun h => ?_, fun h => ?_⟩
            | fail)
      have L1 : ∀ (k2 j : Nat) (u : Int32), j + k2 = (zWf.getD w []).length → u = nI j → pfx b (zWf.getD w []) 0 = j + pfx b ((zWf.getD w []).drop j) j → zG S d m_Mo_word K 22 [some (zR 48 0), some (zI (nI m)), some (zI (nI at_)), some (zI bs), some (zI lg), some (zI (nI w)), some (zI u)] [] μ := by
        intro k2
        induction k2 with
        | zero =>
          intro j u hj hu hp
          subst hu
          have hjl : j = (zWf.getD w []).length := by omega
          have hge : μ 82 0 (nI w).toNatClampNeg ≤ nI j := by rw [e82, ← hjl]; exact nI_le (Nat.le_refl _) (by omega)
          rw [hjl, List.drop_length] at hp
          refine zs k_Mo_word rfl ?_; conv => whnf
          repeat' (first
            | refine br_t hge ?_
            | refine out _ (by rw [hp, ← hjl]; rfl)
            | (refine zs k_Mo_word rfl ?_; conv => whnf)
            | refine ⟨Nat.zero_lt_one, rfl, ?_⟩
            | refine ⟨rfl, ?_⟩
            | refine ⟨⟨Nat.zero_lt_one, rfl⟩, Nat.le_of_ble_eq_true rfl, ?_⟩
            | refine ⟨Nat.le_of_ble_eq_true rfl, Nat.le_of_ble_eq_true rfl, ?_⟩
            | refine ⟨(by first | exact Nat.zero_lt_one | assumption | omega), (by first | assumption | exact vp_in_nI (by omega) (by omega) | (unfold vp_in; decide)), ?_⟩
            | refine ⟨(by first | exact Nat.zero_lt_one | assumption | omega), rfl, ?_⟩
            | refine ⟨⟨(by first | exact Nat.zero_lt_one | assumption | omega), rfl⟩, Nat.le_of_ble_eq_true rfl, ?_⟩
            | refine ⟨(by first | exact Nat.zero_lt_one | assumption | omega), ?_⟩
            | refine ⟨Or.inl rfl, ?_⟩
            | refine ⟨Or.inr (Or.inl rfl), ?_⟩
            | refine ⟨Or.inr (Or.inr rfl), ?_⟩
            | refine ⟨Or.inr ⟨rfl, (by first | exact Or.inl rfl | exact Or.inr rfl | assumption)⟩, ?_⟩
            | refine ⟨fun h => absurd h (by decide), fun _ => ?_⟩
            | refine ⟨fun _ => ?_, fun h => absurd h (by decide)⟩
            | refine ⟨fun h => ?_, fun h => ?_⟩
            | fail)
        | succ k2 ih2 =>
          intro j u hj hu hp
          subst hu
          have hge : ¬ μ 82 0 (nI w).toNatClampNeg ≤ nI j := by rw [e82]; exact nI_ge (by omega) (by omega)
          have hjl : j < (zWf.getD w []).length := by omega
          have hc := t4 j (by omega) hjl
          have hdr : (zWf.getD w []).drop j = gLet.getD ((gBeg.getD w 0).toNatClampNeg + j) 0 :: (zWf.getD w []).drop (j + 1) := by
            rw [List.drop_eq_getElem_cons hjl]
            congr 1
            exact Option.some.inj ((List.getElem?_eq_getElem hjl).symm.trans hc)
          rw [hdr, pfx] at hp
          have hbj : b j = pB a n (at_ + j) := by rw [← hb]
          have ma : nI at_ + nI j = nI (at_ + j) := nI_add _ _
          rcases Nat.lt_or_ge (at_ + j) n with q | q
          case inr =>
            have q' : μ 48 0 14 ≤ nI at_ + nI j := by rw [h14, ma]; exact nI_le q (by omega)
            have hne : ¬ b j = gLet.getD ((gBeg.getD w 0).toNatClampNeg + j) 0 := by
              rw [hbj]
              unfold pB
              rw [if_neg (by omega)]
              exact fun z => (by decide +kernel : ∀ k, k < 40 → ¬ (-1 : Int32) = gLet.getD k 0) _ (by omega) z
            rw [if_neg hne] at hp
            refine zs k_Mo_word rfl ?_; conv => whnf
            repeat' (first
              | refine br_f hge ?_
              | refine br_t q' ?_
              | refine out _ (by rw [hp]; rfl)
              | (refine zs k_Mo_word rfl ?_; conv => whnf)
              | refine ⟨Nat.zero_lt_one, rfl, ?_⟩
              | refine ⟨rfl, ?_⟩
              | refine ⟨⟨Nat.zero_lt_one, rfl⟩, Nat.le_of_ble_eq_true rfl, ?_⟩
              | refine ⟨Nat.le_of_ble_eq_true rfl, Nat.le_of_ble_eq_true rfl, ?_⟩
              | refine ⟨(by first | exact Nat.zero_lt_one | assumption | omega), (by first | assumption | exact vp_in_nI (by omega) (by omega) | (unfold vp_in; decide)), ?_⟩
              | refine ⟨(by first | exact Nat.zero_lt_one | assumption | omega), rfl, ?_⟩
              | refine ⟨⟨(by first | exact Nat.zero_lt_one | assumption | omega), rfl⟩, Nat.le_of_ble_eq_true rfl, ?_⟩
              | refine ⟨(by first | exact Nat.zero_lt_one | assumption | omega), ?_⟩
              | refine ⟨Or.inl rfl, ?_⟩
              | refine ⟨Or.inr (Or.inl rfl), ?_⟩
              | refine ⟨Or.inr (Or.inr rfl), ?_⟩
              | refine ⟨Or.inr ⟨rfl, (by first | exact Or.inl rfl | exact Or.inr rfl | assumption)⟩, ?_⟩
              | refine ⟨fun h => absurd h (by decide), fun _ => ?_⟩
              | refine ⟨fun _ => ?_, fun h => absurd h (by decide)⟩
              | refine ⟨fun h => ?_, fun h => ?_⟩
              | fail)
          have q' : ¬ μ 48 0 14 ≤ nI at_ + nI j := by rw [h14, ma]; exact nI_ge q (by omega)
          have vt : vp_in (nI at_ + nI j) 200 := by rw [ma]; exact vp_in_nI (by omega) (by omega)
          have ctj : (nI at_ + nI j).toNatClampNeg = at_ + j := by rw [ma]; exact nI_clamp (by omega)
          have hbe : b j = a (at_ + j) := by rw [hbj]; unfold pB; rw [if_pos q]
          have e63 : μ 63 0 (nI at_ + nI j).toNatClampNeg &&& 255 = b j := by rw [ctj, h63 _ q, hbe]
          have m81 : μ 81 0 (nI w).toNatClampNeg + nI j = nI ((gBeg.getD w 0).toNatClampNeg + j) := by rw [e81, nI_add]
          have v80 : vp_in (μ 81 0 (nI w).toNatClampNeg + nI j) 33 := by rw [m81]; exact vp_in_nI (by omega) (by omega)
          have e80 : μ 80 0 (μ 81 0 (nI w).toNatClampNeg + nI j).toNatClampNeg = gLet.getD ((gBeg.getD w 0).toNatClampNeg + j) 0 := by rw [m81, nI_clamp (by omega)]; exact c80 _ (by omega)
          by_cases e : b j = gLet.getD ((gBeg.getD w 0).toNatClampNeg + j) 0
          · rw [if_pos e] at hp
            have e' : μ 63 0 (nI at_ + nI j).toNatClampNeg &&& 255 = μ 80 0 (μ 81 0 (nI w).toNatClampNeg + nI j).toNatClampNeg := by rw [e63, e80]; exact e
            refine zs k_Mo_word rfl ?_; conv => whnf
            repeat' (first
              | refine br_f hge ?_
              | refine br_f q' ?_
              | refine bn_f e' ?_
              | refine ih2 (j + 1) _ (by omega) (by exact nI_1 j) (by rw [hp]; omega)
              | (refine zs k_Mo_word rfl ?_; conv => whnf)
              | refine ⟨Nat.zero_lt_one, rfl, ?_⟩
              | refine ⟨rfl, ?_⟩
              | refine ⟨⟨Nat.zero_lt_one, rfl⟩, Nat.le_of_ble_eq_true rfl, ?_⟩
              | refine ⟨Nat.le_of_ble_eq_true rfl, Nat.le_of_ble_eq_true rfl, ?_⟩
              | refine ⟨(by first | exact Nat.zero_lt_one | assumption | omega), (by first | assumption | exact vp_in_nI (by omega) (by omega) | (unfold vp_in; decide)), ?_⟩
              | refine ⟨(by first | exact Nat.zero_lt_one | assumption | omega), rfl, ?_⟩
              | refine ⟨⟨(by first | exact Nat.zero_lt_one | assumption | omega), rfl⟩, Nat.le_of_ble_eq_true rfl, ?_⟩
              | refine ⟨(by first | exact Nat.zero_lt_one | assumption | omega), ?_⟩
              | refine ⟨Or.inl rfl, ?_⟩
              | refine ⟨Or.inr (Or.inl rfl), ?_⟩
              | refine ⟨Or.inr (Or.inr rfl), ?_⟩
              | refine ⟨Or.inr ⟨rfl, (by first | exact Or.inl rfl | exact Or.inr rfl | assumption)⟩, ?_⟩
              | refine ⟨fun h => absurd h (by decide), fun _ => ?_⟩
              | refine ⟨fun _ => ?_, fun h => absurd h (by decide)⟩
              | refine ⟨fun h => ?_, fun h => ?_⟩
              | fail)
          · rw [if_neg e] at hp
            have e' : ¬ μ 63 0 (nI at_ + nI j).toNatClampNeg &&& 255 = μ 80 0 (μ 81 0 (nI w).toNatClampNeg + nI j).toNatClampNeg := by rw [e63, e80]; exact e
            refine zs k_Mo_word rfl ?_; conv => whnf
            repeat' (first
              | refine br_f hge ?_
              | refine br_f q' ?_
              | refine bn_t e' ?_
              | refine out _ (by rw [hp]; rfl)
              | (refine zs k_Mo_word rfl ?_; conv => whnf)
              | refine ⟨Nat.zero_lt_one, rfl, ?_⟩
              | refine ⟨rfl, ?_⟩
              | refine ⟨⟨Nat.zero_lt_one, rfl⟩, Nat.le_of_ble_eq_true rfl, ?_⟩
              | refine ⟨Nat.le_of_ble_eq_true rfl, Nat.le_of_ble_eq_true rfl, ?_⟩
              | refine ⟨(by first | exact Nat.zero_lt_one | assumption | omega), (by first | assumption | exact vp_in_nI (by omega) (by omega) | (unfold vp_in; decide)), ?_⟩
              | refine ⟨(by first | exact Nat.zero_lt_one | assumption | omega), rfl, ?_⟩
              | refine ⟨⟨(by first | exact Nat.zero_lt_one | assumption | omega), rfl⟩, Nat.le_of_ble_eq_true rfl, ?_⟩
              | refine ⟨(by first | exact Nat.zero_lt_one | assumption | omega), ?_⟩
              | refine ⟨Or.inl rfl, ?_⟩
              | refine ⟨Or.inr (Or.inl rfl), ?_⟩
              | refine ⟨Or.inr (Or.inr rfl), ?_⟩
              | refine ⟨Or.inr ⟨rfl, (by first | exact Or.inl rfl | exact Or.inr rfl | assumption)⟩, ?_⟩
              | refine ⟨fun h => absurd h (by decide), fun _ => ?_⟩
              | refine ⟨fun _ => ?_, fun h => absurd h (by decide)⟩
              | refine ⟨fun h => ?_, fun h => ?_⟩
              | fail)
      refine zs k_Mo_word rfl ?_; conv => whnf
      repeat' (first
        | refine br_f hle ?_
        | refine L1 (zWf.getD w []).length 0 _ (by omega) rfl (by rw [Nat.zero_add]; rfl)
        | (refine zs k_Mo_word rfl ?_; conv => whnf)
        | refine ⟨Nat.zero_lt_one, rfl, ?_⟩
        | refine ⟨rfl, ?_⟩
        | refine ⟨⟨Nat.zero_lt_one, rfl⟩, Nat.le_of_ble_eq_true rfl, ?_⟩
        | refine ⟨Nat.le_of_ble_eq_true rfl, Nat.le_of_ble_eq_true rfl, ?_⟩
        | refine ⟨(by first | exact Nat.zero_lt_one | assumption | omega), (by first | assumption | exact vp_in_nI (by omega) (by omega) | (unfold vp_in; decide)), ?_⟩
        | refine ⟨(by first | exact Nat.zero_lt_one | assumption | omega), rfl, ?_⟩
        | refine ⟨⟨(by first | exact Nat.zero_lt_one | assumption | omega), rfl⟩, Nat.le_of_ble_eq_true rfl, ?_⟩
        | refine ⟨(by first | exact Nat.zero_lt_one | assumption | omega), ?_⟩
        | refine ⟨Or.inl rfl, ?_⟩
        | refine ⟨Or.inr (Or.inl rfl), ?_⟩
        | refine ⟨Or.inr (Or.inr rfl), ?_⟩
        | refine ⟨Or.inr ⟨rfl, (by first | exact Or.inl rfl | exact Or.inr rfl | assumption)⟩, ?_⟩
        | refine ⟨fun h => absurd h (by decide), fun _ => ?_⟩
        | refine ⟨fun _ => ?_, fun h => absurd h (by decide)⟩
        | refine ⟨fun h => ?_, fun h => ?_⟩
        | fail)
  have S1 : ∀ v : Int32, v = nI at_ → zG S d m_Mo_word K 4 [some (zR 48 0), some (zI (nI m)), none, none, none, none, none] [zI v] μ := fun v hv => by
    subst hv
    repeat' (first
      | refine L2 m 0 _ _ _ _ (by omega) rfl rfl
      | (refine zs k_Mo_word rfl ?_; conv => whnf)
      | refine ⟨Nat.zero_lt_one, rfl, ?_⟩
      | refine ⟨rfl, ?_⟩
      | refine ⟨⟨Nat.zero_lt_one, rfl⟩, Nat.le_of_ble_eq_true rfl, ?_⟩
      | refine ⟨Nat.le_of_ble_eq_true rfl, Nat.le_of_ble_eq_true rfl, ?_⟩
      | refine ⟨(by first | exact Nat.zero_lt_one | assumption | omega), (by first | assumption | exact vp_in_nI (by omega) (by omega) | (unfold vp_in; decide)), ?_⟩
      | refine ⟨(by first | exact Nat.zero_lt_one | assumption | omega), rfl, ?_⟩
      | refine ⟨⟨(by first | exact Nat.zero_lt_one | assumption | omega), rfl⟩, Nat.le_of_ble_eq_true rfl, ?_⟩
      | refine ⟨(by first | exact Nat.zero_lt_one | assumption | omega), ?_⟩
      | refine ⟨Or.inl rfl, ?_⟩
      | refine ⟨Or.inr (Or.inl rfl), ?_⟩
      | refine ⟨Or.inr (Or.inr rfl), ?_⟩
      | refine ⟨Or.inr ⟨rfl, (by first | exact Or.inl rfl | exact Or.inr rfl | assumption)⟩, ?_⟩
      | refine ⟨fun h => absurd h (by decide), fun _ => ?_⟩
      | refine ⟨fun _ => ?_, fun h => absurd h (by decide)⟩
      | refine ⟨fun h => ?_, fun h => ?_⟩
      | fail)
  repeat' (first
    | exact S1 _ h28
    | (refine zs k_Mo_word rfl ?_; conv => whnf)
    | refine ⟨Nat.zero_lt_one, rfl, ?_⟩
    | refine ⟨rfl, ?_⟩
    | refine ⟨⟨Nat.zero_lt_one, rfl⟩, Nat.le_of_ble_eq_true rfl, ?_⟩
    | refine ⟨Nat.le_of_ble_eq_true rfl, Nat.le_of_ble_eq_true rfl, ?_⟩
    | refine ⟨(by first | exact Nat.zero_lt_one | assumption | omega), (by first | assumption | exact vp_in_nI (by omega) (by omega) | (unfold vp_in; decide)), ?_⟩
    | refine ⟨(by first | exact Nat.zero_lt_one | assumption | omega), rfl, ?_⟩
    | refine ⟨⟨(by first | exact Nat.zero_lt_one | assumption | omega), rfl⟩, Nat.le_of_ble_eq_true rfl, ?_⟩
    | refine ⟨(by first | exact Nat.zero_lt_one | assumption | omega), ?_⟩
    | refine ⟨Or.inl rfl, ?_⟩
    | refine ⟨Or.inr (Or.inl rfl), ?_⟩
    | refine ⟨Or.inr (Or.inr rfl), ?_⟩
    | refine ⟨Or.inr ⟨rfl, (by first | exact Or.inl rfl | exact Or.inr rfl | assumption)⟩, ?_⟩
    | refine ⟨fun h => absurd h (by decide), fun _ => ?_⟩
    | refine ⟨fun _ => ?_, fun h => absurd h (by decide)⟩
    | refine ⟨fun h => ?_, fun h => ?_⟩
    | fail)
/-! MODEL: a test is read -/
theorem wL_s {b : Nat → Int32} {c : Int32} : pfx b [c] 0 = if b 0 = c then 1 else 0 := rfl
theorem w6_one {a : Nat → Int32} {n at_ : Nat} {v : Int32} {q' : zQ} (hat : at_ ≤ 1000) (h : qW a n (at_, -1) 6 = (v, q')) : eqQ q' (mOne a n [97, 98] at_).2 ∧ (q'.2 = -1 → v = nI (mOne a n [97, 98] at_).1) := by
  rw [qW_eq (by omega)] at h
  have hw : zWd.getD 6 [] = [[97], [98]] := rfl
  rw [hw] at h
  unfold mOne
  simp only [wL, wL_s, Nat.add_zero, List.length_singleton] at h
  by_cases l0 : pB a n at_ = 97
  · simp only [l0, if_true] at h
    rw [if_pos (show pB a n at_ = ([97, 98] : List Int32).getD 0 0 from l0)]
    obtain ⟨rfl, rfl⟩ := Prod.mk.inj h
    exact ⟨eqQ_rf, fun _ => rfl⟩
  · rw [if_neg (show ¬ pB a n at_ = ([97, 98] : List Int32).getD 0 0 from l0)]
    by_cases l1 : pB a n at_ = 98
    · simp [l1] at h
      rw [if_pos (show pB a n at_ = ([97, 98] : List Int32).getD 1 0 from l1)]
      obtain ⟨rfl, rfl⟩ := h
      exact ⟨eqQ_rf, fun _ => rfl⟩
    · simp [l0, l1] at h
      rw [if_neg (show ¬ pB a n at_ = ([97, 98] : List Int32).getD 1 0 from l1), if_neg (fun q => absurd q.1 (by decide))]
      obtain ⟨rfl, rfl⟩ := h
      exact ⟨eqQ_rf, fun e => absurd e (nI_nem1 (by omega))⟩
theorem w9_one {a : Nat → Int32} {n at_ : Nat} {v : Int32} {q' : zQ} (hat : at_ ≤ 1000) (h : qW a n (at_, -1) 9 = (v, q')) : eqQ q' (mOne a n [61, 60, 62] at_).2 ∧ (q'.2 = -1 → v = nI (mOne a n [61, 60, 62] at_).1) := by
  rw [qW_eq (by omega)] at h
  have hw : zWd.getD 9 [] = [[61], [60], [62]] := rfl
  rw [hw] at h
  unfold mOne
  simp only [wL, wL_s, Nat.add_zero, List.length_singleton] at h
  by_cases l0 : pB a n at_ = 61
  · simp only [l0, if_true] at h
    rw [if_pos (show pB a n at_ = ([61, 60, 62] : List Int32).getD 0 0 from l0)]
    obtain ⟨rfl, rfl⟩ := Prod.mk.inj h
    exact ⟨eqQ_rf, fun _ => rfl⟩
  · rw [if_neg (show ¬ pB a n at_ = ([61, 60, 62] : List Int32).getD 0 0 from l0)]
    by_cases l1 : pB a n at_ = 60
    · simp [l1] at h
      rw [if_pos (show pB a n at_ = ([61, 60, 62] : List Int32).getD 1 0 from l1)]
      obtain ⟨rfl, rfl⟩ := h
      exact ⟨eqQ_rf, fun _ => rfl⟩
    · rw [if_neg (show ¬ pB a n at_ = ([61, 60, 62] : List Int32).getD 1 0 from l1)]
      by_cases l2 : pB a n at_ = 62
      · simp [l2] at h
        rw [if_pos ⟨by decide, l2⟩]
        obtain ⟨rfl, rfl⟩ := h
        exact ⟨eqQ_rf, fun _ => rfl⟩
      · simp [l0, l1, l2] at h
        rw [if_neg (fun q => l2 q.2)]
        obtain ⟨rfl, rfl⟩ := h
        exact ⟨eqQ_rf, fun e => absurd e (nI_nem1 (by omega))⟩
theorem w5_eq {a : Nat → Int32} {n at_ : Nat} : qW a n (at_, -1) 5 = if pB a n at_ = 97 then (0, at_ + 1, -1) else if pB a n at_ = 98 then (1, at_ + 1, -1) else if pfx (fun j => pB a n (at_ + j)) [110, 111, 116] 0 = 3 then (2, at_ + 3, -1) else (-1, at_, nI (at_ + pfx (fun j => pB a n (at_ + j)) [110, 111, 116] 0)) := by
  rw [qW_eq (by omega)]
  have hw : zWd.getD 5 [] = [[97], [98], [110, 111, 116]] := rfl
  rw [hw, wL, wL_s, wL, wL_s, wL, wL]
  show (match (if (if pB a n at_ = 97 then 1 else 0) = 1 then Sum.inl (0, 1) else if (if pB a n at_ = 98 then 1 else 0) = 1 then Sum.inl (0 + 1, 1) else if pfx (fun j => pB a n (at_ + j)) [110, 111, 116] 0 = 3 then Sum.inl (0 + 1 + 1, 3) else _ : (Nat × Nat) ⊕ Nat) with
    | .inl q => (nI q.1, at_ + q.2, (-1 : Int32))
    | .inr lg => (-1, at_, nI (at_ + lg))) = _
  by_cases l0 : pB a n at_ = 97
  · rw [if_pos l0, if_pos rfl, if_pos l0]
    rfl
  · rw [if_neg l0, if_neg (by decide), if_neg l0]
    by_cases l1 : pB a n at_ = 98
    · rw [if_pos l1, if_pos rfl, if_pos l1]
      rfl
    · rw [if_neg l1, if_neg (by decide), if_neg l1]
      by_cases l2 : pfx (fun j => pB a n (at_ + j)) [110, 111, 116] 0 = 3
      · rw [if_pos l2, if_pos l2]
        rfl
      · rw [if_neg l2, if_neg l2]
        dsimp only
        congr 3
        simp [l0, l1]
        all_goals (first | omega | ((repeat' split) <;> omega) | grind)
/-- one test's cells alone have changed -/
def mF (J : Nat) (μ μ' : zMu) : Prop := (∀ f, f ∉ [48, 73, 74, 75, 76, 77] → μ' f = μ f) ∧ (∀ k, k ∉ [28, 29] → μ' 48 0 k = μ 48 0 k) ∧ ∀ f, f ∈ [73, 74, 75, 76, 77] → ∀ k, k ≠ J → μ' f 0 k = μ f 0 k
theorem mF_rf {J : Nat} {μ : zMu} : mF J μ μ := ⟨fun _ _ => rfl, fun _ _ => rfl, fun _ _ _ _ => rfl⟩
theorem mF_zu {J f : Nat} {μ μ' : zMu} {x : Int32} (h : mF J μ μ') (hf : f ∈ [73, 74, 75, 76, 77]) : mF J μ (zu μ' f 0 J x) := by
  simp only [List.mem_cons, List.not_mem_nil, or_false] at hf
  refine ⟨fun g hg => ?_, fun k hk => ?_, fun g hg k hk => ?_⟩
  · rw [← h.1 g hg]
    simp only [List.mem_cons, List.not_mem_nil, or_false, not_or] at hg
    funext i k
    exact zu_ne (by omega)
  · rw [zu_ne (by omega)]
    exact h.2.1 k hk
  · rw [zu_ne (by omega)]
    exact h.2.2 g hg k hk
theorem mF_cM {J : Nat} {μ μ' : zMu} {q : zQ} (h : mF J μ μ') : mF J μ (cM μ' q) := by
  refine ⟨fun g hg => ?_, fun k hk => ?_, fun g hg k hk => ?_⟩
  · rw [← h.1 g hg]
    simp only [List.mem_cons, List.not_mem_nil, or_false, not_or] at hg
    funext i k
    exact cM_o (by omega)
  · simp only [List.mem_cons, List.not_mem_nil, or_false, not_or] at hk
    rw [cM_o (by omega)]
    exact h.2.1 k (by simp only [List.mem_cons, List.not_mem_nil, or_false, not_or]; exact hk)
  · rw [← h.2.2 g hg k hk]
    simp only [List.mem_cons, List.not_mem_nil, or_false] at hg
    exact cM_o (by omega)
theorem mF_E {J n : Nat} {μ μ' : zMu} {a : Nat → Int32} (h : mF J μ μ') (E : mE μ a n) : mE μ' a n := by
  unfold mE gCs at *
  rw [h.2.1 14 (by decide), h.1 63 (by decide), h.1 80 (by decide), h.1 81 (by decide), h.1 82 (by decide)]
  exact E
set_option maxHeartbeats 4000000 in
theorem c_Mo_readTest {d n J : Nat} {μ : zMu} {a : Nat → Int32} {q q' : zQ} {t : rT} {x : Int32} {K : Option zV → zMu → Prop} (E : mE μ a n) (h28 : μ 48 0 28 = nI q.1) (h29 : μ 48 0 29 = -1) (hq2 : q.2 = -1) (hqn : q.1 ≤ n) (hx : x = nI J) (hJ : J < 64) (hT : qTR a n q t q')
    (hK : ∀ μ', mF J μ μ' → μ' 48 0 29 = q'.2 → (q'.2 = -1 → μ' 48 0 28 = nI q'.1 ∧ μ' 73 0 J = t.1 ∧ μ' 74 0 J = t.2.1 ∧ μ' 75 0 J = t.2.2.1 ∧ μ' 76 0 J = t.2.2.2.1 ∧ μ' 77 0 J = t.2.2.2.2) → (¬ q'.2 = -1 → 0 ≤ q'.2) → K none μ') : Ct (d + 2) m_Mo_readTest [zR 48 0, zI x] μ K := by
  subst hx
  refine zmeet rfl (Nat.le_of_ble_eq_true rfl) (fun S => ?_)
  obtain ⟨w, q3, v4, q4, q5, q6, T0, tb, e4, e5, e6, e7⟩ := hT
  have h200 := E.2.1
  have cJ : (nI J).toNatClampNeg = J := nI_clamp (by omega)
  have vJ : vp_in (nI J) 64 := vp_in_nI (by omega) (by omega)
  have i32 : ∀ z : Int32, z = -1 → ¬ 0 ≤ z := fun z h => by rw [h]; decide
  -- the number
  have SE : ∀ (μ1 : zMu) (qm : zQ), mF J μ μ1 → μ1 48 0 28 = nI qm.1 → μ1 48 0 29 = qm.2 → qOk qm → q6.1 ≤ n → eqQ q6 qm → (q6.2 = -1 → μ1 73 0 J = t.1 ∧ μ1 74 0 J = t.2.1 ∧ μ1 75 0 J = t.2.2.1 ∧ μ1 76 0 J = t.2.2.2.1) → zG S (d + 2) m_Mo_readTest K 112 [some (zR 48 0), some (zI (nI J)), none, none] [] μ1 := by
    intro μ1 qm F s28 s29 ho h6n he vals
    have fin : ∀ (v : Int32) (l3 : Option zV) (μ2 : zMu), mF J μ μ2 → μ2 48 0 29 = q'.2 → (q'.2 = -1 → μ2 48 0 28 = nI q'.1 ∧ μ2 73 0 J = t.1 ∧ μ2 74 0 J = t.2.1 ∧ μ2 75 0 J = t.2.2.1 ∧ μ2 76 0 J = t.2.2.2.1 ∧ v = t.2.2.2.2) → (¬ q'.2 = -1 → 0 ≤ q'.2) → zG S (d + 2) m_Mo_readTest K 193 [some (zR 48 0), some (zI (nI J)), some (zI v), l3] [] μ2 := fun v l3 μ2 F2 f29 fv fp => by
      have hk := hK (zu μ2 77 0 J v) (mF_zu F2 (by decide)) f29 (fun z => by
        obtain ⟨b1, b2, b3, b4, b5, b6⟩ := fv z
        exact ⟨b1, b2, b3, b4, b5, by rw [zu_eq]; exact b6⟩) fp
      rw [← cJ] at hk
      generalize hJ' : (nI J).toNatClampNeg = J' at hk
      repeat' (first
        | exact zKn hk (by rw [hJ'])
        | (refine zs k_Mo_readTest rfl ?_; conv => whnf)
        | refine ⟨Nat.zero_lt_one, rfl, ?_⟩
        | refine ⟨rfl, ?_⟩
        | refine ⟨⟨Nat.zero_lt_one, rfl⟩, Nat.le_of_ble_eq_true rfl, ?_⟩
        | refine ⟨Nat.le_of_ble_eq_true rfl, Nat.le_of_ble_eq_true rfl, ?_⟩
        | refine ⟨(by first | exact Nat.zero_lt_one | assumption | omega), (by first | assumption | exact vp_in_nI (by omega) (by omega) | (unfold vp_in; decide)), ?_⟩
        | refine ⟨(by first | exact Nat.zero_lt_one | assumption | omega), rfl, ?_⟩
        | refine ⟨⟨(by first | exact Nat.zero_lt_one | assumption | omega), rfl⟩, Nat.le_of_ble_eq_true rfl, ?_⟩
        | refine ⟨(by first | exact Nat.zero_lt_one | assumption | omega), ?_⟩
        | refine ⟨Or.inl rfl, ?_⟩
        | refine ⟨Or.inr (Or.inl rfl), ?_⟩
        | refine ⟨Or.inr (Or.inr rfl), ?_⟩
        | refine ⟨Or.inr ⟨rfl, (by first | exact Or.inl rfl | exact Or.inr rfl | assumption)⟩, ?_⟩
        | refine ⟨fun h => absurd h (by decide), fun _ => ?_⟩
        | refine ⟨fun _ => ?_, fun h => absurd h (by decide)⟩
        | refine ⟨fun h => ?_, fun h => ?_⟩
        | fail)
    by_cases o1 : q6.2 = -1
    case neg =>
      rw [qN_ft o1] at e7
      obtain ⟨e71, e72⟩ := Prod.mk.inj e7
      have o2 : 0 ≤ μ1 48 0 29 := by
        rw [s29]
        rcases qOk_neg ho with ⟨z, -⟩ | ⟨-, z⟩
        · exact absurd (he.1.symm.trans z) o1
        · exact z
      have hf := fin 0 (some (zI 0)) μ1 F (by rw [s29, he.1, e72]) (fun z => absurd (by rw [e72]; exact z) o1) (fun _ => by rw [← e72, ← he.1, ← s29]; exact o2)
      refine zs k_Mo_readTest rfl ?_; conv => whnf
      repeat' (first
        | exact hf
        | refine br_t o2 ?_
        | refine br_f (show ¬ (8 : Int32) ≤ 0 by decide) ?_
        | (refine zs k_Mo_readTest rfl ?_; conv => whnf)
        | refine ⟨Nat.zero_lt_one, rfl, ?_⟩
        | refine ⟨rfl, ?_⟩
        | refine ⟨⟨Nat.zero_lt_one, rfl⟩, Nat.le_of_ble_eq_true rfl, ?_⟩
        | refine ⟨Nat.le_of_ble_eq_true rfl, Nat.le_of_ble_eq_true rfl, ?_⟩
        | refine ⟨(by first | exact Nat.zero_lt_one | assumption | omega), (by first | assumption | exact vp_in_nI (by omega) (by omega) | (unfold vp_in; decide)), ?_⟩
        | refine ⟨(by first | exact Nat.zero_lt_one | assumption | omega), rfl, ?_⟩
        | refine ⟨⟨(by first | exact Nat.zero_lt_one | assumption | omega), rfl⟩, Nat.le_of_ble_eq_true rfl, ?_⟩
        | refine ⟨(by first | exact Nat.zero_lt_one | assumption | omega), ?_⟩
        | refine ⟨Or.inl rfl, ?_⟩
        | refine ⟨Or.inr (Or.inl rfl), ?_⟩
        | refine ⟨Or.inr (Or.inr rfl), ?_⟩
        | refine ⟨Or.inr ⟨rfl, (by first | exact Or.inl rfl | exact Or.inr rfl | assumption)⟩, ?_⟩
        | refine ⟨fun h => absurd h (by decide), fun _ => ?_⟩
        | refine ⟨fun _ => ?_, fun h => absurd h (by decide)⟩
        | refine ⟨fun h => ?_, fun h => ?_⟩
        | fail)
    obtain rfl := (eqQ_1 he o1).symm
    have E1 := mF_E F E
    have n29 : ¬ 0 ≤ μ1 48 0 29 := i32 _ (s29.trans o1)
    unfold qN pRdN at e7
    rw [if_pos o1] at e7
    have Bd : ∀ j, (48 ≤ pB a n j ∧ pB a n j ≤ 57) → j < n := fun j h => pB_lt (fun e => by rw [e] at h; exact absurd h.1 (by decide))
    by_cases dg : 48 ≤ pB a n q6.1 ∧ pB a n q6.1 ≤ 57
    case neg =>
      have e0 : pNumF (pB a n) 8 q6.1 0 = (q6.1, 0) := by rw [pNumF, if_neg dg]
      rw [e0, if_pos rfl] at e7
      obtain ⟨e71, e72⟩ := Prod.mk.inj e7
      have hf := fin 0 (some (zI 0)) (zu μ1 48 0 29 (μ1 48 0 28)) ⟨fun f hf => by
          rw [← F.1 f hf]
          simp only [List.mem_cons, List.not_mem_nil, or_false, not_or] at hf
          funext i k
          exact zu_ne (by omega), fun k hk => by
          simp only [List.mem_cons, List.not_mem_nil, or_false, not_or] at hk
          rw [zu_ne (by omega)]
          exact F.2.1 k (by simp only [List.mem_cons, List.not_mem_nil, or_false, not_or]; exact hk), fun f hf k hk => by
          rw [← F.2.2 f hf k hk]
          simp only [List.mem_cons, List.not_mem_nil, or_false] at hf
          exact zu_ne (by omega)⟩ (by rw [zu_eq, s28, ← e72]) (fun z => by rw [← e72] at z; exact absurd z (nI_nem1 (by have := ho.1; omega))) (fun _ => by rw [← e72]; exact nI_pos' (by have := ho.1; omega))
      have o3 : 0 ≤ zu μ1 48 0 29 (μ1 48 0 28) 48 0 29 := by rw [zu_eq, s28]; exact nI_pos' (by have := ho.1; omega)
      refine zs k_Mo_readTest rfl ?_; conv => whnf
      repeat' (first
        | exact hf
        | refine br_f n29 ?_
        | refine c_Mo_letter E1 s28 ho.1 ?_
        | refine c_Mo_isDigit (fun q => absurd q dg) (fun _ => ?_)
        | refine br_f (show ¬ (8 : Int32) ≤ 0 by decide) ?_
        | refine br_t o3 ?_
        | (refine zs k_Mo_readTest rfl ?_; conv => whnf)
        | refine ⟨Nat.zero_lt_one, rfl, ?_⟩
        | refine ⟨rfl, ?_⟩
        | refine ⟨⟨Nat.zero_lt_one, rfl⟩, Nat.le_of_ble_eq_true rfl, ?_⟩
        | refine ⟨Nat.le_of_ble_eq_true rfl, Nat.le_of_ble_eq_true rfl, ?_⟩
        | refine ⟨(by first | exact Nat.zero_lt_one | assumption | omega), (by first | assumption | exact vp_in_nI (by omega) (by omega) | (unfold vp_in; decide)), ?_⟩
        | refine ⟨(by first | exact Nat.zero_lt_one | assumption | omega), rfl, ?_⟩
        | refine ⟨⟨(by first | exact Nat.zero_lt_one | assumption | omega), rfl⟩, Nat.le_of_ble_eq_true rfl, ?_⟩
        | refine ⟨(by first | exact Nat.zero_lt_one | assumption | omega), ?_⟩
        | refine ⟨Or.inl rfl, ?_⟩
        | refine ⟨Or.inr (Or.inl rfl), ?_⟩
        | refine ⟨Or.inr (Or.inr rfl), ?_⟩
        | refine ⟨Or.inr ⟨rfl, (by first | exact Or.inl rfl | exact Or.inr rfl | assumption)⟩, ?_⟩
        | refine ⟨fun h => absurd h (by decide), fun _ => ?_⟩
        | refine ⟨fun _ => ?_, fun h => absurd h (by decide)⟩
        | refine ⟨fun h => ?_, fun h => ?_⟩
        | fail)
    have hgt : ¬ (pNumF (pB a n) 8 q6.1 0).1 = q6.1 := by
      rw [pNumF, if_pos dg]
      have := (pNumF_ge (pB a n) 7 (q6.1 + 1) (10 * 0 + pB a n q6.1 - 48)).1
      omega
    rw [if_neg hgt] at e7
    obtain ⟨e71, e72⟩ := Prod.mk.inj e7
    generalize hR : pNumF (pB a n) 8 q6.1 0 = R at e71 e72
    have L : ∀ (f i at_ : Nat) (v c : Int32) (μ2 : zMu), i + f = 8 → c = nI i → mF J μ μ2 → μ2 48 0 28 = nI at_ → μ2 48 0 29 = -1 → at_ ≤ n → (μ2 73 0 J = t.1 ∧ μ2 74 0 J = t.2.1 ∧ μ2 75 0 J = t.2.2.1 ∧ μ2 76 0 J = t.2.2.2.1) → pNumF (pB a n) f at_ v = R → zG S (d + 2) m_Mo_readTest K 141 [some (zR 48 0), some (zI (nI J)), some (zI v), some (zI c)] [] μ2 := by
      intro f
      induction f with
      | zero =>
        intro i at_ v c μ2 hi hc F2 t28 t29 htn tv hr
        obtain rfl : i = 8 := by omega
        subst hc
        have hr : (at_, v) = R := hr
        have hf := fin v (some (zI (nI 8))) μ2 F2 (by rw [t29, ← e72]) (fun _ => ⟨by rw [t28, ← e72, ← hr], tv.1, tv.2.1, tv.2.2.1, tv.2.2.2, by rw [← e71, ← hr]⟩) (fun z => absurd (by rw [← e72]) z)
        refine zs k_Mo_readTest rfl ?_; conv => whnf
        repeat' (first
          | exact hf
          | refine br_t (show (8 : Int32) ≤ nI 8 by decide) ?_
          | (refine zs k_Mo_readTest rfl ?_; conv => whnf)
          | refine ⟨Nat.zero_lt_one, rfl, ?_⟩
          | refine ⟨rfl, ?_⟩
          | refine ⟨⟨Nat.zero_lt_one, rfl⟩, Nat.le_of_ble_eq_true rfl, ?_⟩
          | refine ⟨Nat.le_of_ble_eq_true rfl, Nat.le_of_ble_eq_true rfl, ?_⟩
          | refine ⟨(by first | exact Nat.zero_lt_one | assumption | omega), (by first | assumption | exact vp_in_nI (by omega) (by omega) | (unfold vp_in; decide)), ?_⟩
          | refine ⟨(by first | exact Nat.zero_lt_one | assumption | omega), rfl, ?_⟩
          | refine ⟨⟨(by first | exact Nat.zero_lt_one | assumption | omega), rfl⟩, Nat.le_of_ble_eq_true rfl, ?_⟩
          | refine ⟨(by first | exact Nat.zero_lt_one | assumption | omega), ?_⟩
          | refine ⟨Or.inl rfl, ?_⟩
          | refine ⟨Or.inr (Or.inl rfl), ?_⟩
          | refine ⟨Or.inr (Or.inr rfl), ?_⟩
          | refine ⟨Or.inr ⟨rfl, (by first | exact Or.inl rfl | exact Or.inr rfl | assumption)⟩, ?_⟩
          | refine ⟨fun h => absurd h (by decide), fun _ => ?_⟩
          | refine ⟨fun _ => ?_, fun h => absurd h (by decide)⟩
          | refine ⟨fun h => ?_, fun h => ?_⟩
          | fail)
      | succ f ih =>
        intro i at_ v c μ2 hi hc F2 t28 t29 htn tv hr
        subst hc
        have E2 := mF_E F2 E
        have k8 : ¬ (8 : Int32) ≤ nI i := nI_ge (b := 8) (by omega) (by omega)
        have m29 : ¬ 0 ≤ μ2 48 0 29 := i32 _ t29
        rw [pNumF] at hr
        by_cases dg2 : 48 ≤ pB a n at_ ∧ pB a n at_ ≤ 57
        · rw [if_pos dg2] at hr
          have hlt := Bd at_ dg2
          refine zs k_Mo_readTest rfl ?_; conv => whnf
          repeat' (first
            | refine br_f k8 ?_
            | refine br_f m29 ?_
            | refine c_Mo_letter E2 t28 (by omega) ?_
            | refine c_Mo_isDigit (fun _ => ?_) (fun q => absurd dg2 q)
            | refine ih (i + 1) (at_ + 1) _ _ _ (by omega) (by exact nI_1 i) ?_ ?_ (by exact t29) (by omega) (by exact tv) hr
            | (refine zs k_Mo_readTest rfl ?_; conv => whnf)
            | refine ⟨Nat.zero_lt_one, rfl, ?_⟩
            | refine ⟨rfl, ?_⟩
            | refine ⟨⟨Nat.zero_lt_one, rfl⟩, Nat.le_of_ble_eq_true rfl, ?_⟩
            | refine ⟨Nat.le_of_ble_eq_true rfl, Nat.le_of_ble_eq_true rfl, ?_⟩
            | refine ⟨(by first | exact Nat.zero_lt_one | assumption | omega), (by first | assumption | exact vp_in_nI (by omega) (by omega) | (unfold vp_in; decide)), ?_⟩
            | refine ⟨(by first | exact Nat.zero_lt_one | assumption | omega), rfl, ?_⟩
            | refine ⟨⟨(by first | exact Nat.zero_lt_one | assumption | omega), rfl⟩, Nat.le_of_ble_eq_true rfl, ?_⟩
            | refine ⟨(by first | exact Nat.zero_lt_one | assumption | omega), ?_⟩
            | refine ⟨Or.inl rfl, ?_⟩
            | refine ⟨Or.inr (Or.inl rfl), ?_⟩
            | refine ⟨Or.inr (Or.inr rfl), ?_⟩
            | refine ⟨Or.inr ⟨rfl, (by first | exact Or.inl rfl | exact Or.inr rfl | assumption)⟩, ?_⟩
            | refine ⟨fun h => absurd h (by decide), fun _ => ?_⟩
            | refine ⟨fun _ => ?_, fun h => absurd h (by decide)⟩
            | refine ⟨fun h => ?_, fun h => ?_⟩
            | fail)
          · refine ⟨fun g hg => ?_, fun k hk => ?_, fun g hg k hk => ?_⟩
            · rw [← F2.1 g hg]
              simp only [List.mem_cons, List.not_mem_nil, or_false, not_or] at hg
              funext i k
              exact zu_ne (by omega)
            · simp only [List.mem_cons, List.not_mem_nil, or_false, not_or] at hk
              rw [zu_ne (by omega)]
              exact F2.2.1 k (by simp only [List.mem_cons, List.not_mem_nil, or_false, not_or]; exact hk)
            · rw [← F2.2.2 g hg k hk]
              simp only [List.mem_cons, List.not_mem_nil, or_false] at hg
              exact zu_ne (by omega)
          · rw [zu_eq, t28, nI_1]
        · rw [if_neg dg2] at hr
          have hr : (at_, v) = R := hr
          have hf := fin v (some (zI (nI i))) μ2 F2 (by rw [t29, ← e72]) (fun _ => ⟨by rw [t28, ← e72, ← hr], tv.1, tv.2.1, tv.2.2.1, tv.2.2.2, by rw [← e71, ← hr]⟩) (fun z => absurd (by rw [← e72]) z)
          refine zs k_Mo_readTest rfl ?_; conv => whnf
          repeat' (first
            | exact hf
            | refine br_f k8 ?_
            | refine br_f m29 ?_
            | refine c_Mo_letter E2 t28 (by omega) ?_
            | refine c_Mo_isDigit (fun q => absurd q dg2) (fun _ => ?_)
            | (refine zs k_Mo_readTest rfl ?_; conv => whnf)
            | refine ⟨Nat.zero_lt_one, rfl, ?_⟩
            | refine ⟨rfl, ?_⟩
            | refine ⟨⟨Nat.zero_lt_one, rfl⟩, Nat.le_of_ble_eq_true rfl, ?_⟩
            | refine ⟨Nat.le_of_ble_eq_true rfl, Nat.le_of_ble_eq_true rfl, ?_⟩
            | refine ⟨(by first | exact Nat.zero_lt_one | assumption | omega), (by first | assumption | exact vp_in_nI (by omega) (by omega) | (unfold vp_in; decide)), ?_⟩
            | refine ⟨(by first | exact Nat.zero_lt_one | assumption | omega), rfl, ?_⟩
            | refine ⟨⟨(by first | exact Nat.zero_lt_one | assumption | omega), rfl⟩, Nat.le_of_ble_eq_true rfl, ?_⟩
            | refine ⟨(by first | exact Nat.zero_lt_one | assumption | omega), ?_⟩
            | refine ⟨Or.inl rfl, ?_⟩
            | refine ⟨Or.inr (Or.inl rfl), ?_⟩
            | refine ⟨Or.inr (Or.inr rfl), ?_⟩
            | refine ⟨Or.inr ⟨rfl, (by first | exact Or.inl rfl | exact Or.inr rfl | assumption)⟩, ?_⟩
            | refine ⟨fun h => absurd h (by decide), fun _ => ?_⟩
            | refine ⟨fun _ => ?_, fun h => absurd h (by decide)⟩
            | refine ⟨fun h => ?_, fun h => ?_⟩
            | fail)
    refine zs k_Mo_readTest rfl ?_; conv => whnf
    repeat' (first
      | refine L 8 0 q6.1 _ _ _ (by omega) rfl F s28 (s29.trans o1) h6n (vals o1) hR
      | refine br_f n29 ?_
      | refine c_Mo_letter E1 s28 ho.1 ?_
      | refine c_Mo_isDigit (fun _ => ?_) (fun q => absurd dg q)
      | (refine zs k_Mo_readTest rfl ?_; conv => whnf)
      | refine ⟨Nat.zero_lt_one, rfl, ?_⟩
      | refine ⟨rfl, ?_⟩
      | refine ⟨⟨Nat.zero_lt_one, rfl⟩, Nat.le_of_ble_eq_true rfl, ?_⟩
      | refine ⟨Nat.le_of_ble_eq_true rfl, Nat.le_of_ble_eq_true rfl, ?_⟩
      | refine ⟨(by first | exact Nat.zero_lt_one | assumption | omega), (by first | assumption | exact vp_in_nI (by omega) (by omega) | (unfold vp_in; decide)), ?_⟩
      | refine ⟨(by first | exact Nat.zero_lt_one | assumption | omega), rfl, ?_⟩
      | refine ⟨⟨(by first | exact Nat.zero_lt_one | assumption | omega), rfl⟩, Nat.le_of_ble_eq_true rfl, ?_⟩
      | refine ⟨(by first | exact Nat.zero_lt_one | assumption | omega), ?_⟩
      | refine ⟨Or.inl rfl, ?_⟩
      | refine ⟨Or.inr (Or.inl rfl), ?_⟩
      | refine ⟨Or.inr (Or.inr rfl), ?_⟩
      | refine ⟨Or.inr ⟨rfl, (by first | exact Or.inl rfl | exact Or.inr rfl | assumption)⟩, ?_⟩
      | refine ⟨fun h => absurd h (by decide), fun _ => ?_⟩
      | refine ⟨fun _ => ?_, fun h => absurd h (by decide)⟩
      | refine ⟨fun h => ?_, fun h => ?_⟩
      | fail)
  -- the sign
  have SD : ∀ (μ1 : zMu) (qm : zQ), mF J μ μ1 → μ1 48 0 28 = nI qm.1 → μ1 48 0 29 = qm.2 → qOk qm → q5.1 ≤ n → eqQ q5 qm → (q5.2 = -1 → μ1 73 0 J = t.1 ∧ μ1 74 0 J = t.2.1 ∧ μ1 75 0 J = t.2.2.1) → zG S (d + 2) m_Mo_readTest K 92 [some (zR 48 0), some (zI (nI J)), none, none] [] μ1 := by
    intro μ1 qm F s28 s29 ho h5n he vals
    have h6n : q6.1 ≤ n := by have := qW_le (a := a) (n := n) (k := 9) (q := q5) (by omega) h5n; rw [e6] at this; exact this
    by_cases o1 : q5.2 = -1
    case neg =>
      rw [qW_ft o1] at e6
      obtain ⟨-, e62⟩ := Prod.mk.inj e6
      have o2 : 0 ≤ μ1 48 0 29 := by
        rw [s29]
        rcases qOk_neg ho with ⟨z, -⟩ | ⟨-, z⟩
        · exact absurd (he.1.symm.trans z) o1
        · exact z
      have hS := SE μ1 qm F s28 s29 ho h6n (by rw [← e62]; exact he) (fun z => absurd (by rw [e62]; exact z) o1)
      refine zs k_Mo_readTest rfl ?_; conv => whnf
      repeat' (first
        | exact hS
        | refine br_t o2 ?_
        | (refine zs k_Mo_readTest rfl ?_; conv => whnf)
        | refine ⟨Nat.zero_lt_one, rfl, ?_⟩
        | refine ⟨rfl, ?_⟩
        | refine ⟨⟨Nat.zero_lt_one, rfl⟩, Nat.le_of_ble_eq_true rfl, ?_⟩
        | refine ⟨Nat.le_of_ble_eq_true rfl, Nat.le_of_ble_eq_true rfl, ?_⟩
        | refine ⟨(by first | exact Nat.zero_lt_one | assumption | omega), (by first | assumption | exact vp_in_nI (by omega) (by omega) | (unfold vp_in; decide)), ?_⟩
        | refine ⟨(by first | exact Nat.zero_lt_one | assumption | omega), rfl, ?_⟩
        | refine ⟨⟨(by first | exact Nat.zero_lt_one | assumption | omega), rfl⟩, Nat.le_of_ble_eq_true rfl, ?_⟩
        | refine ⟨(by first | exact Nat.zero_lt_one | assumption | omega), ?_⟩
        | refine ⟨Or.inl rfl, ?_⟩
        | refine ⟨Or.inr (Or.inl rfl), ?_⟩
        | refine ⟨Or.inr (Or.inr rfl), ?_⟩
        | refine ⟨Or.inr ⟨rfl, (by first | exact Or.inl rfl | exact Or.inr rfl | assumption)⟩, ?_⟩
        | refine ⟨fun h => absurd h (by decide), fun _ => ?_⟩
        | refine ⟨fun _ => ?_, fun h => absurd h (by decide)⟩
        | refine ⟨fun h => ?_, fun h => ?_⟩
        | fail)
    obtain rfl := (eqQ_1 he o1).symm
    have E1 := mF_E F E
    have n29 : ¬ 0 ≤ μ1 48 0 29 := i32 _ (s29.trans o1)
    have e6' : qW a n (q5.1, -1) 9 = (t.2.2.2.1, q6) := by rw [← o1]; exact e6
    obtain ⟨u1, u2⟩ := w9_one ho.1 e6'
    obtain ⟨v1, v2, v3⟩ := vals o1
    generalize hm : mOne a n [61, 60, 62] q5.1 = M at u1 u2
    have hok : qOk M.2 := by
      rw [← hm]
      unfold mOne
      have := ho.1
      split
      · rename_i hl
        have := pB_lt (a := a) (n := n) (j := q5.1) (by rw [hl]; decide)
        exact ⟨by show q5.1 + 1 ≤ 1000; omega, Or.inl rfl⟩
      · split
        · rename_i hl
          have := pB_lt (a := a) (n := n) (j := q5.1) (by rw [hl]; decide)
          exact ⟨by show q5.1 + 1 ≤ 1000; omega, Or.inl rfl⟩
        · split
          · rename_i hl
            have := pB_lt (a := a) (n := n) (j := q5.1) (by rw [hl.2]; decide)
            exact ⟨by show q5.1 + 1 ≤ 1000; omega, Or.inl rfl⟩
          · exact ⟨ho.1, Or.inr ⟨q5.1, by omega, rfl⟩⟩
    have hS := SE (zu (cM μ1 M.2) 76 0 J (nI M.1)) M.2 (mF_zu (mF_cM F) (by decide)) (by rw [zu_ne (by omega)]; exact cM_28) (by rw [zu_ne (by omega)]; exact cM_29) hok h6n u1 (fun z => ⟨v1, v2, v3, by rw [zu_eq]; exact (u2 z).symm⟩)
    have hS' : ∀ J', J' = J → zG S (d + 2) m_Mo_readTest K 112 [some (zR 48 0), some (zI (nI J)), none, none] [] (zu (cM μ1 M.2) 76 0 J' (nI M.1)) := fun J' hJ' => by rw [hJ']; exact hS
    refine zs k_Mo_readTest rfl ?_; conv => whnf
    repeat' (first
      | refine br_f n29 ?_
      | (refine c_Mo_one3 E1 s28 (s29.trans o1) ho.1 ?_; rw [hm])
      | exact hS' _ cJ
      | (refine zs k_Mo_readTest rfl ?_; conv => whnf)
      | refine ⟨Nat.zero_lt_one, rfl, ?_⟩
      | refine ⟨rfl, ?_⟩
      | refine ⟨⟨Nat.zero_lt_one, rfl⟩, Nat.le_of_ble_eq_true rfl, ?_⟩
      | refine ⟨Nat.le_of_ble_eq_true rfl, Nat.le_of_ble_eq_true rfl, ?_⟩
      | refine ⟨(by first | exact Nat.zero_lt_one | assumption | omega), (by first | assumption | exact vp_in_nI (by omega) (by omega) | (unfold vp_in; decide)), ?_⟩
      | refine ⟨(by first | exact Nat.zero_lt_one | assumption | omega), rfl, ?_⟩
      | refine ⟨⟨(by first | exact Nat.zero_lt_one | assumption | omega), rfl⟩, Nat.le_of_ble_eq_true rfl, ?_⟩
      | refine ⟨(by first | exact Nat.zero_lt_one | assumption | omega), ?_⟩
      | refine ⟨Or.inl rfl, ?_⟩
      | refine ⟨Or.inr (Or.inl rfl), ?_⟩
      | refine ⟨Or.inr (Or.inr rfl), ?_⟩
      | refine ⟨Or.inr ⟨rfl, (by first | exact Or.inl rfl | exact Or.inr rfl | assumption)⟩, ?_⟩
      | refine ⟨fun h => absurd h (by decide), fun _ => ?_⟩
      | refine ⟨fun _ => ?_, fun h => absurd h (by decide)⟩
      | refine ⟨fun h => ?_, fun h => ?_⟩
      | fail)
  -- the field
  have SC : ∀ (μ1 : zMu) (qm : zQ), mF J μ μ1 → μ1 48 0 28 = nI qm.1 → μ1 48 0 29 = qm.2 → qOk qm → q4.1 ≤ n → eqQ q4 qm → (q4.2 = -1 → μ1 73 0 J = t.1 ∧ μ1 74 0 J = t.2.1) → zG S (d + 2) m_Mo_readTest K 73 [some (zR 48 0), some (zI (nI J)), none, none] [] μ1 := by
    intro μ1 qm F s28 s29 ho h4n he vals
    have h5n : q5.1 ≤ n := by have := qW_le (a := a) (n := n) (k := 8) (q := q4) (by omega) h4n; rw [e5] at this; exact this
    by_cases o1 : q4.2 = -1
    case neg =>
      rw [qW_ft o1] at e5
      obtain ⟨-, e52⟩ := Prod.mk.inj e5
      have o2 : 0 ≤ μ1 48 0 29 := by
        rw [s29]
        rcases qOk_neg ho with ⟨z, -⟩ | ⟨-, z⟩
        · exact absurd (he.1.symm.trans z) o1
        · exact z
      have hS := SD μ1 qm F s28 s29 ho h5n (by rw [← e52]; exact he) (fun z => absurd (by rw [e52]; exact z) o1)
      refine zs k_Mo_readTest rfl ?_; conv => whnf
      repeat' (first
        | exact hS
        | refine br_t o2 ?_
        | (refine zs k_Mo_readTest rfl ?_; conv => whnf)
        | refine ⟨Nat.zero_lt_one, rfl, ?_⟩
        | refine ⟨rfl, ?_⟩
        | refine ⟨⟨Nat.zero_lt_one, rfl⟩, Nat.le_of_ble_eq_true rfl, ?_⟩
        | refine ⟨Nat.le_of_ble_eq_true rfl, Nat.le_of_ble_eq_true rfl, ?_⟩
        | refine ⟨(by first | exact Nat.zero_lt_one | assumption | omega), (by first | assumption | exact vp_in_nI (by omega) (by omega) | (unfold vp_in; decide)), ?_⟩
        | refine ⟨(by first | exact Nat.zero_lt_one | assumption | omega), rfl, ?_⟩
        | refine ⟨⟨(by first | exact Nat.zero_lt_one | assumption | omega), rfl⟩, Nat.le_of_ble_eq_true rfl, ?_⟩
        | refine ⟨(by first | exact Nat.zero_lt_one | assumption | omega), ?_⟩
        | refine ⟨Or.inl rfl, ?_⟩
        | refine ⟨Or.inr (Or.inl rfl), ?_⟩
        | refine ⟨Or.inr (Or.inr rfl), ?_⟩
        | refine ⟨Or.inr ⟨rfl, (by first | exact Or.inl rfl | exact Or.inr rfl | assumption)⟩, ?_⟩
        | refine ⟨fun h => absurd h (by decide), fun _ => ?_⟩
        | refine ⟨fun _ => ?_, fun h => absurd h (by decide)⟩
        | refine ⟨fun h => ?_, fun h => ?_⟩
        | fail)
    obtain rfl := (eqQ_1 he o1).symm
    have E1 := mF_E F E
    have n29 : ¬ 0 ≤ μ1 48 0 29 := i32 _ (s29.trans o1)
    have e5' : qW a n (q4.1, -1) 8 = (t.2.2.1, q5) := by rw [← o1]; exact e5
    rw [qW_eq (by omega), show zWd.getD 8 [] = zWf.take 7 from rfl] at e5'
    obtain ⟨v1, v2⟩ := vals o1
    have go : ∀ (i : Nat) (Q : zQ), qOk Q → eqQ q5 Q → (q5.2 = -1 → nI i = t.2.2.1) → ∀ J', J' = J → zG S (d + 2) m_Mo_readTest K 92 [some (zR 48 0), some (zI (nI J)), none, none] [] (zu (cM μ1 Q) 75 0 J' (nI i)) := fun i Q hQ heQ hv J' hJ' => by
      rw [hJ']
      exact SD _ Q (mF_zu (mF_cM F) (by decide)) (by rw [zu_ne (by omega)]; exact cM_28) (by rw [zu_ne (by omega)]; exact cM_29) hQ h5n heQ (fun z => ⟨v1, v2, by rw [zu_eq]; exact hv z⟩)
    refine zs k_Mo_readTest rfl ?_; conv => whnf
    repeat' (first
      | refine br_f n29 ?_
      | refine c_Mo_word (m := 7) E1 s28 (s29.trans o1) h4n (by omega) (by omega) rfl (fun i L hw => ?_) (fun i L hw => ?_)
      | refine go i (q4.1 + L, -1) ?_ ?_ ?_ _ cJ
      | refine go i (q4.1 + L, nI (q4.1 + L)) ?_ ?_ ?_ _ cJ
      | (refine zs k_Mo_readTest rfl ?_; conv => whnf)
      | refine ⟨Nat.zero_lt_one, rfl, ?_⟩
      | refine ⟨rfl, ?_⟩
      | refine ⟨⟨Nat.zero_lt_one, rfl⟩, Nat.le_of_ble_eq_true rfl, ?_⟩
      | refine ⟨Nat.le_of_ble_eq_true rfl, Nat.le_of_ble_eq_true rfl, ?_⟩
      | refine ⟨(by first | exact Nat.zero_lt_one | assumption | omega), (by first | assumption | exact vp_in_nI (by omega) (by omega) | (unfold vp_in; decide)), ?_⟩
      | refine ⟨(by first | exact Nat.zero_lt_one | assumption | omega), rfl, ?_⟩
      | refine ⟨⟨(by first | exact Nat.zero_lt_one | assumption | omega), rfl⟩, Nat.le_of_ble_eq_true rfl, ?_⟩
      | refine ⟨(by first | exact Nat.zero_lt_one | assumption | omega), ?_⟩
      | refine ⟨Or.inl rfl, ?_⟩
      | refine ⟨Or.inr (Or.inl rfl), ?_⟩
      | refine ⟨Or.inr (Or.inr rfl), ?_⟩
      | refine ⟨Or.inr ⟨rfl, (by first | exact Or.inl rfl | exact Or.inr rfl | assumption)⟩, ?_⟩
      | refine ⟨fun h => absurd h (by decide), fun _ => ?_⟩
      | refine ⟨fun _ => ?_, fun h => absurd h (by decide)⟩
      | refine ⟨fun h => ?_, fun h => ?_⟩
      | fail)
    · rw [hw] at e5'
      obtain ⟨-, e52⟩ := Prod.mk.inj e5'
      rw [← e52] at h5n
      exact ⟨by have : q4.1 + L ≤ n := h5n; show q4.1 + L ≤ 1000; omega, Or.inl rfl⟩
    · rw [hw] at e5'
      obtain ⟨-, e52⟩ := Prod.mk.inj e5'
      rw [← e52]
      exact eqQ_rf
    · rw [hw] at e5'
      obtain ⟨e51, -⟩ := Prod.mk.inj e5'
      exact fun _ => e51
    · obtain ⟨-, -, -, -, hL⟩ := mbl_no (b := fun j => pB a n (q4.1 + j)) (by omega) (by omega) hw
      exact ⟨by show q4.1 + L ≤ 1000; omega, Or.inr ⟨q4.1 + L, by omega, rfl⟩⟩
    · rw [hw] at e5'
      obtain ⟨-, e52⟩ := Prod.mk.inj e5'
      obtain ⟨-, -, -, -, hL⟩ := mbl_no (b := fun j => pB a n (q4.1 + j)) (by omega) (by omega) hw
      rw [← e52]
      exact ⟨rfl, fun z => absurd z (nI_nem1 (by omega))⟩
    · rw [hw] at e5'
      obtain ⟨-, e52⟩ := Prod.mk.inj e5'
      obtain ⟨-, -, -, -, hL⟩ := mbl_no (b := fun j => pB a n (q4.1 + j)) (by omega) (by omega) hw
      rw [← e52]
      exact fun z => absurd z (nI_nem1 (by omega))
  -- the point
  have SB : ∀ (μ1 : zMu) (qm : zQ), mF J μ μ1 → μ1 48 0 28 = nI qm.1 → μ1 48 0 29 = qm.2 → qOk qm → q3.1 ≤ n → eqQ q3 qm → (q3.2 = -1 → μ1 73 0 J = t.1 ∧ μ1 74 0 J = t.2.1) → zG S (d + 2) m_Mo_readTest K 66 [some (zR 48 0), some (zI (nI J)), none, none] [] μ1 := by
    intro μ1 qm F s28 s29 ho h3n he vals
    have h4n : q4.1 ≤ n := by have := qW_le (a := a) (n := n) (k := 7) (q := q3) (by omega) h3n; rw [e4] at this; exact this
    have hX := qW_1 (cs := [46]) (by omega) rfl (by show q3.1 + 1 < 2 ^ 31; omega) e4 he
    have hS := SC (cM μ1 (mX a n [46] qm)) (mX a n [46] qm) (mF_cM F) cM_28 cM_29 (mX_ok h200 (by decide) ho) h4n hX (fun z => by
      by_cases o1 : q3.2 = -1
      · exact vals o1
      · rw [qW_ft o1] at e4
        obtain ⟨-, e42⟩ := Prod.mk.inj e4
        exact absurd (by rw [e42]; exact z) o1)
    refine zs k_Mo_readTest rfl ?_; conv => whnf
    repeat' (first
      | refine c_Mo_expect (cs := [46]) (mF_E F E) s28 s29 ho rfl (by decide) (by decide) (by decide) ?_
      | exact hS
      | (refine zs k_Mo_readTest rfl ?_; conv => whnf)
      | refine ⟨Nat.zero_lt_one, rfl, ?_⟩
      | refine ⟨rfl, ?_⟩
      | refine ⟨⟨Nat.zero_lt_one, rfl⟩, Nat.le_of_ble_eq_true rfl, ?_⟩
      | refine ⟨Nat.le_of_ble_eq_true rfl, Nat.le_of_ble_eq_true rfl, ?_⟩
      | refine ⟨(by first | exact Nat.zero_lt_one | assumption | omega), (by first | assumption | exact vp_in_nI (by omega) (by omega) | (unfold vp_in; decide)), ?_⟩
      | refine ⟨(by first | exact Nat.zero_lt_one | assumption | omega), rfl, ?_⟩
      | refine ⟨⟨(by first | exact Nat.zero_lt_one | assumption | omega), rfl⟩, Nat.le_of_ble_eq_true rfl, ?_⟩
      | refine ⟨(by first | exact Nat.zero_lt_one | assumption | omega), ?_⟩
      | refine ⟨Or.inl rfl, ?_⟩
      | refine ⟨Or.inr (Or.inl rfl), ?_⟩
      | refine ⟨Or.inr (Or.inr rfl), ?_⟩
      | refine ⟨Or.inr ⟨rfl, (by first | exact Or.inl rfl | exact Or.inr rfl | assumption)⟩, ?_⟩
      | refine ⟨fun h => absurd h (by decide), fun _ => ?_⟩
      | refine ⟨fun _ => ?_, fun h => absurd h (by decide)⟩
      | refine ⟨fun h => ?_, fun h => ?_⟩
      | fail)
  -- whose
  have E0 : pB a n q.1 = pB a n q.1 := rfl
  have hq0 : qOk (q.1, -1) := ⟨by show q.1 ≤ 1000; omega, Or.inl rfl⟩
  obtain ⟨v1, q1, T1, T2⟩ := T0
  have T1' : qW a n (q.1, -1) 5 = (v1, q1) := by rw [← hq2]; exact T1
  have hq1n : q1.1 ≤ n := by have := qW_le (a := a) (n := n) (k := 5) (q := q) (by omega) hqn; rw [T1] at this; exact this
  rw [w5_eq] at T1'
  have SA2 : ∀ (μ1 : zMu) (at_ : Nat) (v : Int32) (q3' : zQ), mF J μ μ1 → μ1 48 0 28 = nI at_ → μ1 48 0 29 = -1 → at_ ≤ n → qW a n (at_, -1) 6 = (v, q3') → q3.1 ≤ n → eqQ q3' q3 → (q3.2 = -1 → v = w) → (q3.2 = -1 → μ1 73 0 J = t.1) → zG S (d + 2) m_Mo_readTest K 36 [some (zR 48 0), some (zI (nI J)), none, none] [] μ1 := by
    intro μ1 at_ v q3' F s28 s29 hatn e3 h3n he hvw v1
    have E1 := mF_E F E
    have n29 : ¬ 0 ≤ μ1 48 0 29 := i32 _ s29
    obtain ⟨u1, u2⟩ := w6_one (by omega) e3
    generalize hm : mOne a n [97, 98] at_ = M at u1 u2
    have hM1 : M.1 = 0 ∨ M.1 = 1 := by
      rw [← hm]
      unfold mOne
      split
      · exact Or.inl rfl
      · split
        · exact Or.inr rfl
        · split
          · rename_i hl
            exact absurd hl.1 (by decide)
          · exact Or.inl rfl
    have hok : qOk M.2 := by
      rw [← hm]
      unfold mOne
      split
      · rename_i hl
        have := pB_lt (a := a) (n := n) (j := at_) (by rw [hl]; decide)
        exact ⟨by show at_ + 1 ≤ 1000; omega, Or.inl rfl⟩
      · split
        · rename_i hl
          have := pB_lt (a := a) (n := n) (j := at_) (by rw [hl]; decide)
          exact ⟨by show at_ + 1 ≤ 1000; omega, Or.inl rfl⟩
        · split
          · rename_i hl
            exact absurd hl.1 (by decide)
          · exact ⟨by show at_ ≤ 1000; omega, Or.inr ⟨at_, by omega, rfl⟩⟩
    have e32 : q3'.2 = q3.2 := he.1.symm
    have heq : eqQ q3 M.2 := ⟨by rw [u1.1, e32], fun z => by rw [u1.2 (e32.trans z), he.2 (e32.trans z)]⟩
    have go : ∀ (y : Int32), (y = if w = 1 then 1 else 0) ∨ ¬ q3.2 = -1 → ∀ J', J' = J → zG S (d + 2) m_Mo_readTest K 66 [some (zR 48 0), some (zI (nI J)), none, none] [] (zu (cM μ1 M.2) 74 0 J' y) := fun y hy J' hJ' => by
      rw [hJ']
      refine SB _ M.2 (mF_zu (mF_cM F) (by decide)) (by rw [zu_ne (by omega)]; exact cM_28) (by rw [zu_ne (by omega)]; exact cM_29) hok h3n heq (fun z => ⟨v1 z, ?_⟩)
      rw [zu_eq, tb]
      rcases hy with hy | hy
      · exact hy
      · exact absurd z hy
    rcases hM1 with m0 | m1
    · have hw0 : q3.2 = -1 → (0 : Int32) = if w = 1 then 1 else 0 := fun z => by
        rw [← hvw z, u2 (e32.trans z), m0]
        rfl
      have hy : ((0 : Int32) = if w = 1 then 1 else 0) ∨ ¬ q3.2 = -1 := (Classical.em (q3.2 = -1)).elim (fun z => Or.inl (hw0 z)) Or.inr
      have g0 := go 0 hy
      have mm : ¬ nI M.1 = 1 := by rw [m0]; decide
      refine zs k_Mo_readTest rfl ?_; conv => whnf
      repeat' (first
        | refine br_f n29 ?_
        | (refine c_Mo_one2 E1 s28 s29 (by omega) ?_; rw [hm])
        | refine bn_t mm ?_
        | exact g0 _ cJ
        | (refine zs k_Mo_readTest rfl ?_; conv => whnf)
        | refine ⟨Nat.zero_lt_one, rfl, ?_⟩
        | refine ⟨rfl, ?_⟩
        | refine ⟨⟨Nat.zero_lt_one, rfl⟩, Nat.le_of_ble_eq_true rfl, ?_⟩
        | refine ⟨Nat.le_of_ble_eq_true rfl, Nat.le_of_ble_eq_true rfl, ?_⟩
        | refine ⟨(by first | exact Nat.zero_lt_one | assumption | omega), (by first | assumption | exact vp_in_nI (by omega) (by omega) | (unfold vp_in; decide)), ?_⟩
        | refine ⟨(by first | exact Nat.zero_lt_one | assumption | omega), rfl, ?_⟩
        | refine ⟨⟨(by first | exact Nat.zero_lt_one | assumption | omega), rfl⟩, Nat.le_of_ble_eq_true rfl, ?_⟩
        | refine ⟨(by first | exact Nat.zero_lt_one | assumption | omega), ?_⟩
        | refine ⟨Or.inl rfl, ?_⟩
        | refine ⟨Or.inr (Or.inl rfl), ?_⟩
        | refine ⟨Or.inr (Or.inr rfl), ?_⟩
        | refine ⟨Or.inr ⟨rfl, (by first | exact Or.inl rfl | exact Or.inr rfl | assumption)⟩, ?_⟩
        | refine ⟨fun h => absurd h (by decide), fun _ => ?_⟩
        | refine ⟨fun _ => ?_, fun h => absurd h (by decide)⟩
        | refine ⟨fun h => ?_, fun h => ?_⟩
        | fail)
    · have hw0 : q3.2 = -1 → (1 : Int32) = if w = 1 then 1 else 0 := fun z => by
        rw [← hvw z, u2 (e32.trans z), m1]
        rfl
      have hy : ((1 : Int32) = if w = 1 then 1 else 0) ∨ ¬ q3.2 = -1 := (Classical.em (q3.2 = -1)).elim (fun z => Or.inl (hw0 z)) Or.inr
      have g0 := go 1 hy
      have mm : nI M.1 = 1 := by rw [m1]; rfl
      refine zs k_Mo_readTest rfl ?_; conv => whnf
      repeat' (first
        | refine br_f n29 ?_
        | (refine c_Mo_one2 E1 s28 s29 (by omega) ?_; rw [hm])
        | refine bn_f mm ?_
        | exact g0 _ cJ
        | (refine zs k_Mo_readTest rfl ?_; conv => whnf)
        | refine ⟨Nat.zero_lt_one, rfl, ?_⟩
        | refine ⟨rfl, ?_⟩
        | refine ⟨⟨Nat.zero_lt_one, rfl⟩, Nat.le_of_ble_eq_true rfl, ?_⟩
        | refine ⟨Nat.le_of_ble_eq_true rfl, Nat.le_of_ble_eq_true rfl, ?_⟩
        | refine ⟨(by first | exact Nat.zero_lt_one | assumption | omega), (by first | assumption | exact vp_in_nI (by omega) (by omega) | (unfold vp_in; decide)), ?_⟩
        | refine ⟨(by first | exact Nat.zero_lt_one | assumption | omega), rfl, ?_⟩
        | refine ⟨⟨(by first | exact Nat.zero_lt_one | assumption | omega), rfl⟩, Nat.le_of_ble_eq_true rfl, ?_⟩
        | refine ⟨(by first | exact Nat.zero_lt_one | assumption | omega), ?_⟩
        | refine ⟨Or.inl rfl, ?_⟩
        | refine ⟨Or.inr (Or.inl rfl), ?_⟩
        | refine ⟨Or.inr (Or.inr rfl), ?_⟩
        | refine ⟨Or.inr ⟨rfl, (by first | exact Or.inl rfl | exact Or.inr rfl | assumption)⟩, ?_⟩
        | refine ⟨fun h => absurd h (by decide), fun _ => ?_⟩
        | refine ⟨fun _ => ?_, fun h => absurd h (by decide)⟩
        | refine ⟨fun h => ?_, fun h => ?_⟩
        | fail)
  by_cases l110 : pB a n q.1 = 110
  case neg =>
    have Fn : mF J μ (zu μ 73 0 J 0) := mF_zu mF_rf (by decide)
    -- a, b, or neither
    have key : ∃ v q3', qW a n (q.1, -1) 6 = (v, q3') ∧ q3.1 ≤ n ∧ eqQ q3' q3 ∧ (q3.2 = -1 → v = w) ∧ (q3.2 = -1 → (0 : Int32) = t.1) := by
      refine ⟨(qW a n (q.1, -1) 6).1, (qW a n (q.1, -1) 6).2, rfl, ?_⟩
      have p0 : pfx (fun j => pB a n (q.1 + j)) [110, 111, 116] 0 = 0 := by
        rw [pfx, if_neg (show ¬ pB a n (q.1 + 0) = 110 from l110)]
      rw [p0] at T1'
      have w6 : qW a n (q.1, -1) 6 = if pB a n q.1 = 97 then (0, q.1 + 1, -1) else if pB a n q.1 = 98 then (1, q.1 + 1, -1) else (-1, q.1, nI q.1) := by
        rw [qW_eq (by omega)]
        have hw : zWd.getD 6 [] = [[97], [98]] := rfl
        rw [hw]
        simp only [wL, wL_s, Nat.add_zero, List.length_singleton]
        by_cases l0 : pB a n q.1 = 97
        · simp [l0]
          rfl
        · by_cases l1 : pB a n q.1 = 98
          · simp [l1]
            rfl
          · simp [l0, l1]
      rw [w6]
      by_cases l0 : pB a n q.1 = 97
      · rw [if_pos l0] at T1' ⊢
        obtain ⟨rfl, rfl⟩ := Prod.mk.inj T1'
        rcases T2 with ⟨c1, -⟩ | ⟨-, c2, c3, c4⟩
        · exact absurd c1 (by decide)
        · rw [c4]
          exact ⟨hq1n, eqQ_rf, fun _ => c3.symm, fun _ => c2.symm⟩
      · rw [if_neg l0] at T1' ⊢
        by_cases l1 : pB a n q.1 = 98
        · rw [if_pos l1] at T1' ⊢
          obtain ⟨rfl, rfl⟩ := Prod.mk.inj T1'
          rcases T2 with ⟨c1, -⟩ | ⟨-, c2, c3, c4⟩
          · exact absurd c1 (by decide)
          · rw [c4]
            exact ⟨hq1n, eqQ_rf, fun _ => c3.symm, fun _ => c2.symm⟩
        · rw [if_neg l1] at T1' ⊢
          rw [if_neg (by decide)] at T1'
          obtain ⟨rfl, rfl⟩ := Prod.mk.inj T1'
          rcases T2 with ⟨c1, -⟩ | ⟨-, c2, c3, c4⟩
          · exact absurd c1 (by decide)
          · rw [c4]
            exact ⟨hq1n, eqQ_rf, fun _ => c3.symm, fun _ => c2.symm⟩
    obtain ⟨v, q3', k1, k2, k3, k4, k5⟩ := key
    have hS := SA2 (zu μ 73 0 J 0) q.1 v q3' Fn h28 h29 hqn k1 k2 k3 k4 (fun z => by rw [zu_eq]; exact k5 z)
    have hS' : ∀ J', J' = J → zG S (d + 2) m_Mo_readTest K 36 [some (zR 48 0), some (zI (nI J)), none, none] [] (zu μ 73 0 J' (vp_nar .boolean 0)) := fun J' hJ' => by rw [hJ']; exact hS
    have z73 : zu μ 73 0 (nI J).toNatClampNeg (vp_nar .boolean 0) 73 0 (nI J).toNatClampNeg = 0 := by rw [zu_eq]; rfl
    repeat' (first
      | exact hS' _ cJ
      | refine c_Mo_letter E h28 (by omega) ?_
      | refine bn_t l110 ?_
      | refine br_t z73 ?_
      | (refine zs k_Mo_readTest rfl ?_; conv => whnf)
      | refine ⟨Nat.zero_lt_one, rfl, ?_⟩
      | refine ⟨rfl, ?_⟩
      | refine ⟨⟨Nat.zero_lt_one, rfl⟩, Nat.le_of_ble_eq_true rfl, ?_⟩
      | refine ⟨Nat.le_of_ble_eq_true rfl, Nat.le_of_ble_eq_true rfl, ?_⟩
      | refine ⟨(by first | exact Nat.zero_lt_one | assumption | omega), (by first | assumption | exact vp_in_nI (by omega) (by omega) | (unfold vp_in; decide)), ?_⟩
      | refine ⟨(by first | exact Nat.zero_lt_one | assumption | omega), rfl, ?_⟩
      | refine ⟨⟨(by first | exact Nat.zero_lt_one | assumption | omega), rfl⟩, Nat.le_of_ble_eq_true rfl, ?_⟩
      | refine ⟨(by first | exact Nat.zero_lt_one | assumption | omega), ?_⟩
      | refine ⟨Or.inl rfl, ?_⟩
      | refine ⟨Or.inr (Or.inl rfl), ?_⟩
      | refine ⟨Or.inr (Or.inr rfl), ?_⟩
      | refine ⟨Or.inr ⟨rfl, (by first | exact Or.inl rfl | exact Or.inr rfl | assumption)⟩, ?_⟩
      | refine ⟨fun h => absurd h (by decide), fun _ => ?_⟩
      | refine ⟨fun _ => ?_, fun h => absurd h (by decide)⟩
      | refine ⟨fun h => ?_, fun h => ?_⟩
      | fail)
  case pos =>
    have Fn : mF J μ (zu μ 73 0 J 1) := mF_zu mF_rf (by decide)
    have l0 : ¬ pB a n q.1 = 97 := by rw [l110]; decide
    have l1 : ¬ pB a n q.1 = 98 := by rw [l110]; decide
    rw [if_neg l0, if_neg l1] at T1'
    have hX := mX_pfx (a := a) (n := n) (at_ := q.1) (cs := [110, 111, 116]) (i := 0)
    rw [Nat.add_zero] at hX
    have hXX : mX a n [110, 111, 116, 32] (q.1, -1) = mX a n [32] (mX a n [110, 111, 116] (q.1, -1)) := mX_app (c1 := [110, 111, 116]) (c2 := [32]) (by show q.1 + 3 < 2 ^ 31; omega)
    have hpl := pfx_le (b := fun j => pB a n (q.1 + j)) (w := [110, 111, 116]) (i := 0)
    have z73 : ¬ zu μ 73 0 (nI J).toNatClampNeg (vp_nar .boolean 1) 73 0 (nI J).toNatClampNeg = 0 := by
      rw [zu_eq]
      decide
    have hid : mE (zu μ 73 0 J 1) a n := mF_E Fn E
    have hokX : qOk (mX a n [110, 111, 116, 32] (q.1, -1)) := mX_ok h200 (by decide) hq0
    have go : zG S (d + 2) m_Mo_readTest K 36 [some (zR 48 0), some (zI (nI J)), none, none] [] (cM (zu μ 73 0 J 1) (mX a n [110, 111, 116, 32] (q.1, -1))) := by
      by_cases p3 : pfx (fun j => pB a n (q.1 + j)) [110, 111, 116] 0 = 3
      · rw [if_pos p3] at T1'
        obtain ⟨rfl, rfl⟩ := Prod.mk.inj T1'
        rcases T2 with ⟨-, c2, c3⟩ | ⟨c1, -⟩
        case inr => exact absurd rfl c1
        rw [if_pos (show pfx (fun j => pB a n (q.1 + j)) [110, 111, 116] 0 = ([110, 111, 116] : List Int32).length from p3)] at hX
        have hX2 : mX a n [110, 111, 116, 32] (q.1, -1) = qB a n (q.1 + 3, -1) := by rw [hXX, hX]; exact mX_b
        rw [hX2] at hokX ⊢
        have hbn := qB_le (a := a) (n := n) (q := (q.1 + 3, -1)) hq1n
        have h3n : q3.1 ≤ n := by have := qW_le (a := a) (n := n) (k := 6) (q := qB a n (q.1 + 3, -1)) (by omega) hbn; rw [c3] at this; exact this
        generalize hB : qB a n (q.1 + 3, -1) = B at *
        by_cases o1 : B.2 = -1
        · obtain ⟨at_, fl⟩ := B
          have o1 : fl = -1 := o1
          subst o1
          exact SA2 _ at_ w q3 (mF_cM Fn) cM_28 cM_29 hbn c3 h3n eqQ_rf (fun _ => rfl) (fun _ => by rw [cM_o (by omega), zu_eq, c2])
        · rw [qW_ft o1] at c3
          obtain ⟨-, c32⟩ := Prod.mk.inj c3
          have o2 : 0 ≤ cM (zu μ 73 0 J 1) B 48 0 29 := by
            rw [cM_29]
            rcases qOk_neg hokX with ⟨z, -⟩ | ⟨-, z⟩
            · exact absurd z o1
            · exact z
          have hS := SB _ B (mF_cM Fn) cM_28 cM_29 hokX h3n (by rw [← c32]; exact eqQ_rf) (fun z => absurd (by rw [c32]; exact z) o1)
          refine zs k_Mo_readTest rfl ?_; conv => whnf
          repeat' (first
            | exact hS
            | refine br_t o2 ?_
            | (refine zs k_Mo_readTest rfl ?_; conv => whnf)
            | refine ⟨Nat.zero_lt_one, rfl, ?_⟩
            | refine ⟨rfl, ?_⟩
            | refine ⟨⟨Nat.zero_lt_one, rfl⟩, Nat.le_of_ble_eq_true rfl, ?_⟩
            | refine ⟨Nat.le_of_ble_eq_true rfl, Nat.le_of_ble_eq_true rfl, ?_⟩
            | refine ⟨(by first | exact Nat.zero_lt_one | assumption | omega), (by first | assumption | exact vp_in_nI (by omega) (by omega) | (unfold vp_in; decide)), ?_⟩
            | refine ⟨(by first | exact Nat.zero_lt_one | assumption | omega), rfl, ?_⟩
            | refine ⟨⟨(by first | exact Nat.zero_lt_one | assumption | omega), rfl⟩, Nat.le_of_ble_eq_true rfl, ?_⟩
            | refine ⟨(by first | exact Nat.zero_lt_one | assumption | omega), ?_⟩
            | refine ⟨Or.inl rfl, ?_⟩
            | refine ⟨Or.inr (Or.inl rfl), ?_⟩
            | refine ⟨Or.inr (Or.inr rfl), ?_⟩
            | refine ⟨Or.inr ⟨rfl, (by first | exact Or.inl rfl | exact Or.inr rfl | assumption)⟩, ?_⟩
            | refine ⟨fun h => absurd h (by decide), fun _ => ?_⟩
            | refine ⟨fun _ => ?_, fun h => absurd h (by decide)⟩
            | refine ⟨fun h => ?_, fun h => ?_⟩
            | fail)
      · rw [if_neg p3] at T1'
        obtain ⟨rfl, rfl⟩ := Prod.mk.inj T1'
        rcases T2 with ⟨c1, -⟩ | ⟨-, c2, c3, c4⟩
        · exact absurd c1 (by decide)
        rw [if_neg (show ¬ pfx (fun j => pB a n (q.1 + j)) [110, 111, 116] 0 = ([110, 111, 116] : List Int32).length from p3)] at hX
        have hpl' : pfx (fun j => pB a n (q.1 + j)) [110, 111, 116] 0 ≤ 3 := hpl
        have hnm : ¬ nI (q.1 + pfx (fun j => pB a n (q.1 + j)) [110, 111, 116] 0) = -1 := nI_nem1 (by omega)
        rw [hXX, hX, mX_ft hnm] at hokX ⊢
        have o2 : 0 ≤ cM (zu μ 73 0 J 1) (q.1 + pfx (fun j => pB a n (q.1 + j)) [110, 111, 116] 0, nI (q.1 + pfx (fun j => pB a n (q.1 + j)) [110, 111, 116] 0)) 48 0 29 := by
          rw [cM_29]
          exact nI_pos' (by omega)
        have hS := SB _ (q.1 + pfx (fun j => pB a n (q.1 + j)) [110, 111, 116] 0, nI (q.1 + pfx (fun j => pB a n (q.1 + j)) [110, 111, 116] 0)) (mF_cM Fn) cM_28 cM_29 hokX (by rw [c4]; exact hqn) (by rw [c4]; exact ⟨rfl, fun z => absurd z hnm⟩) (fun z => by rw [c4] at z; exact absurd z hnm)
        refine zs k_Mo_readTest rfl ?_; conv => whnf
        repeat' (first
          | exact hS
          | refine br_t o2 ?_
          | (refine zs k_Mo_readTest rfl ?_; conv => whnf)
          | refine ⟨Nat.zero_lt_one, rfl, ?_⟩
          | refine ⟨rfl, ?_⟩
          | refine ⟨⟨Nat.zero_lt_one, rfl⟩, Nat.le_of_ble_eq_true rfl, ?_⟩
          | refine ⟨Nat.le_of_ble_eq_true rfl, Nat.le_of_ble_eq_true rfl, ?_⟩
          | refine ⟨(by first | exact Nat.zero_lt_one | assumption | omega), (by first | assumption | exact vp_in_nI (by omega) (by omega) | (unfold vp_in; decide)), ?_⟩
          | refine ⟨(by first | exact Nat.zero_lt_one | assumption | omega), rfl, ?_⟩
          | refine ⟨⟨(by first | exact Nat.zero_lt_one | assumption | omega), rfl⟩, Nat.le_of_ble_eq_true rfl, ?_⟩
          | refine ⟨(by first | exact Nat.zero_lt_one | assumption | omega), ?_⟩
          | refine ⟨Or.inl rfl, ?_⟩
          | refine ⟨Or.inr (Or.inl rfl), ?_⟩
          | refine ⟨Or.inr (Or.inr rfl), ?_⟩
          | refine ⟨Or.inr ⟨rfl, (by first | exact Or.inl rfl | exact Or.inr rfl | assumption)⟩, ?_⟩
          | refine ⟨fun h => absurd h (by decide), fun _ => ?_⟩
          | refine ⟨fun _ => ?_, fun h => absurd h (by decide)⟩
          | refine ⟨fun h => ?_, fun h => ?_⟩
          | fail)
    have go' : ∀ J', J' = J → zG S (d + 2) m_Mo_readTest K 36 [some (zR 48 0), some (zI (nI J)), none, none] [] (cM (zu μ 73 0 J' (vp_nar .boolean 1)) (mX a n [110, 111, 116, 32] (q.1, -1))) := fun J' hJ' => by rw [hJ']; exact go
    have E73 : mE (zu μ 73 0 (nI J).toNatClampNeg (vp_nar .boolean 1)) a n := by rw [cJ]; exact hid
    repeat' (first
      | exact go' _ cJ
      | refine c_Mo_letter E h28 (by omega) ?_
      | refine bn_f l110 ?_
      | refine br_f z73 ?_
      | refine c_Mo_expect (cs := [110, 111, 116, 32]) (q := (q.1, -1)) E73 h28 h29 hq0 rfl (by decide) (by decide) (by decide) ?_
      | (refine zs k_Mo_readTest rfl ?_; conv => whnf)
      | refine ⟨Nat.zero_lt_one, rfl, ?_⟩
      | refine ⟨rfl, ?_⟩
      | refine ⟨⟨Nat.zero_lt_one, rfl⟩, Nat.le_of_ble_eq_true rfl, ?_⟩
      | refine ⟨Nat.le_of_ble_eq_true rfl, Nat.le_of_ble_eq_true rfl, ?_⟩
      | refine ⟨(by first | exact Nat.zero_lt_one | assumption | omega), (by first | assumption | exact vp_in_nI (by omega) (by omega) | (unfold vp_in; decide)), ?_⟩
      | refine ⟨(by first | exact Nat.zero_lt_one | assumption | omega), rfl, ?_⟩
      | refine ⟨⟨(by first | exact Nat.zero_lt_one | assumption | omega), rfl⟩, Nat.le_of_ble_eq_true rfl, ?_⟩
      | refine ⟨(by first | exact Nat.zero_lt_one | assumption | omega), ?_⟩
      | refine ⟨Or.inl rfl, ?_⟩
      | refine ⟨Or.inr (Or.inl rfl), ?_⟩
      | refine ⟨Or.inr (Or.inr rfl), ?_⟩
      | refine ⟨Or.inr ⟨rfl, (by first | exact Or.inl rfl | exact Or.inr rfl | assumption)⟩, ?_⟩
      | refine ⟨fun h => absurd h (by decide), fun _ => ?_⟩
      | refine ⟨fun _ => ?_, fun h => absurd h (by decide)⟩
      | refine ⟨fun h => ?_, fun h => ?_⟩
      | fail)
/-! MODEL: the tests, the rule -/
theorem qTR_ft {a : Nat → Int32} {n : Nat} {q q' : zQ} {t : rT} (h : ¬ q.2 = -1) (hT : qTR a n q t q') : q' = q := by
  obtain ⟨w, q3, v4, q4, q5, q6, T0, tb, e4, e5, e6, e7⟩ := hT
  obtain ⟨v1, q1, T1, T2⟩ := T0
  rw [qW_ft h] at T1
  obtain ⟨rfl, rfl⟩ := Prod.mk.inj T1
  rcases T2 with ⟨c1, -⟩ | ⟨-, -, -, c4⟩
  · exact absurd c1 (by decide)
  subst c4
  rw [qW_ft h] at e4
  obtain ⟨-, rfl⟩ := Prod.mk.inj e4
  rw [qW_ft h] at e5
  obtain ⟨-, rfl⟩ := Prod.mk.inj e5
  rw [qW_ft h] at e6
  obtain ⟨-, rfl⟩ := Prod.mk.inj e6
  rw [qN_ft h] at e7
  obtain ⟨-, rfl⟩ := Prod.mk.inj e7
  rfl
theorem qTR_n {a : Nat → Int32} {n : Nat} {q q' : zQ} {t : rT} (h : q.1 ≤ n) (hT : qTR a n q t q') : q'.1 ≤ n := by
  obtain ⟨w, q3, v4, q4, q5, q6, T0, tb, e4, e5, e6, e7⟩ := hT
  obtain ⟨v1, q1, T1, T2⟩ := T0
  have h1 : q1.1 ≤ n := by have := qW_le (a := a) (n := n) (k := 5) (q := q) (by omega) h; rw [T1] at this; exact this
  have h3 : q3.1 ≤ n := by
    rcases T2 with ⟨-, -, c3⟩ | ⟨-, -, -, c4⟩
    · have := qW_le (a := a) (n := n) (k := 6) (q := qB a n q1) (by omega) (qB_le h1)
      rw [c3] at this
      exact this
    · rw [c4]
      exact h1
  have h4 : q4.1 ≤ n := by have := qW_le (a := a) (n := n) (k := 7) (q := q3) (by omega) h3; rw [e4] at this; exact this
  have h5 : q5.1 ≤ n := by have := qW_le (a := a) (n := n) (k := 8) (q := q4) (by omega) h4; rw [e5] at this; exact this
  have h6 : q6.1 ≤ n := by have := qW_le (a := a) (n := n) (k := 9) (q := q5) (by omega) h5; rw [e6] at this; exact this
  have := qN_le (a := a) (n := n) (q := q6) h6
  rw [e7] at this
  exact this
theorem qLR_no {a : Nat → Int32} {n k : Nat} {any any' : Int32} {q q' : zQ} {ts : List rT} (h : ¬ qMore n q) (hL : qLR a n k any q ts any' q') : ts = [] ∧ any' = any ∧ q' = q := by
  cases k with
  | zero => exact hL
  | succ k =>
    rcases hL with hL | hL
    · exact hL.2
    · exact absurd hL.1 h
def gF (r : Nat) (μ μ' : zMu) : Prop := (∀ f, f ∉ [48, 69, 72, 73, 74, 75, 76, 77] → μ' f = μ f) ∧ (∀ k, k ∉ [28, 29] → μ' 48 0 k = μ 48 0 k) ∧ (∀ f, f ∈ [69, 72] → ∀ k, k ≠ r → μ' f 0 k = μ f 0 k) ∧ ∀ f, f ∈ [73, 74, 75, 76, 77] → ∀ k, ¬ (4 * r ≤ k ∧ k < 4 * r + 4) → μ' f 0 k = μ f 0 k
theorem gF_rf {r : Nat} {μ : zMu} : gF r μ μ := ⟨fun _ _ => rfl, fun _ _ => rfl, fun _ _ _ _ => rfl, fun _ _ _ _ => rfl⟩
theorem gF_mF {r j : Nat} {μ μ1 μ2 : zMu} (h : gF r μ μ1) (hj : j < 4) (h2 : mF (4 * r + j) μ1 μ2) : gF r μ μ2 := by
  refine ⟨fun f hf => ?_, fun k hk => (h2.2.1 k hk).trans (h.2.1 k hk), fun f hf k hk => ?_, fun f hf k hk => ?_⟩
  · rw [h2.1 f (fun q => hf (by simp only [List.mem_cons, List.not_mem_nil, or_false] at q ⊢; omega))]
    exact h.1 f hf
  · rw [h2.1 f (fun q => by simp only [List.mem_cons, List.not_mem_nil, or_false] at q hf; omega)]
    exact h.2.2.1 f hf k hk
  · rw [h2.2.2 f hf k (by omega)]
    exact h.2.2.2 f hf k hk
theorem gF_cM {r : Nat} {μ μ1 : zMu} {q : zQ} (h : gF r μ μ1) : gF r μ (cM μ1 q) := by
  refine ⟨fun f hf => ?_, fun k hk => ?_, fun f hf k hk => ?_, fun f hf k hk => ?_⟩
  · rw [← h.1 f hf]
    simp only [List.mem_cons, List.not_mem_nil, or_false, not_or] at hf
    funext i k
    exact cM_o (by omega)
  · rw [← h.2.1 k hk]
    simp only [List.mem_cons, List.not_mem_nil, or_false, not_or] at hk
    exact cM_o (by omega)
  · rw [← h.2.2.1 f hf k hk]
    simp only [List.mem_cons, List.not_mem_nil, or_false] at hf
    exact cM_o (by omega)
  · rw [← h.2.2.2 f hf k hk]
    simp only [List.mem_cons, List.not_mem_nil, or_false] at hf
    exact cM_o (by omega)
theorem gF_fl {r : Nat} {μ μ1 : zMu} {x : Int32} (h : gF r μ μ1) : gF r μ (zu μ1 48 0 29 x) := by
  refine ⟨fun f hf => ?_, fun k hk => ?_, fun f hf k hk => ?_, fun f hf k hk => ?_⟩
  · rw [← h.1 f hf]
    simp only [List.mem_cons, List.not_mem_nil, or_false, not_or] at hf
    funext i k
    exact zu_ne (by omega)
  · rw [← h.2.1 k hk]
    simp only [List.mem_cons, List.not_mem_nil, or_false, not_or] at hk
    exact zu_ne (by omega)
  · rw [← h.2.2.1 f hf k hk]
    simp only [List.mem_cons, List.not_mem_nil, or_false] at hf
    exact zu_ne (by omega)
  · rw [← h.2.2.2 f hf k hk]
    simp only [List.mem_cons, List.not_mem_nil, or_false] at hf
    exact zu_ne (by omega)
theorem gF_r {r f : Nat} {μ μ1 : zMu} {x : Int32} (h : gF r μ μ1) (hf : f ∈ [69, 72]) : gF r μ (zu μ1 f 0 r x) := by
  simp only [List.mem_cons, List.not_mem_nil, or_false] at hf
  refine ⟨fun g hg => ?_, fun k hk => ?_, fun g hg k hk => ?_, fun g hg k hk => ?_⟩
  · rw [← h.1 g hg]
    simp only [List.mem_cons, List.not_mem_nil, or_false, not_or] at hg
    funext i k
    exact zu_ne (by omega)
  · rw [← h.2.1 k hk]
    exact zu_ne (by omega)
  · rw [← h.2.2.1 g hg k hk]
    exact zu_ne (by omega)
  · rw [← h.2.2.2 g hg k hk]
    simp only [List.mem_cons, List.not_mem_nil, or_false] at hg
    exact zu_ne (by omega)
theorem gF_E {r n : Nat} {μ μ' : zMu} {a : Nat → Int32} (h : gF r μ μ') (E : mE μ a n) : mE μ' a n := by
  unfold mE gCs at *
  rw [h.2.1 14 (by decide), h.1 63 (by decide), h.1 80 (by decide), h.1 81 (by decide), h.1 82 (by decide)]
  exact E
def tE (μ : zMu) (i : Nat) (e : rT) : Prop := μ 73 0 i = e.1 ∧ μ 74 0 i = e.2.1 ∧ μ 75 0 i = e.2.2.1 ∧ μ 76 0 i = e.2.2.2.1 ∧ μ 77 0 i = e.2.2.2.2
theorem w10_eq {a : Nat → Int32} {n : Nat} {q1 q2 : zQ} {v2 : Int32} (hq : q1.1 ≤ 1000) (o1 : q1.2 = -1) (h : qW a n q1 10 = (v2, q2)) : (pB a n q1.1 = 111 → eqQ q2 (mX a n [111, 114] q1) ∧ (q2.2 = -1 → v2 = 1)) ∧ (¬ pB a n q1.1 = 111 → eqQ q2 (mX a n [97, 110, 100] q1) ∧ (q2.2 = -1 → v2 = 0)) := by
  obtain ⟨at_, fl⟩ := q1
  have o1 : fl = -1 := o1
  subst o1
  have hq : at_ ≤ 1000 := hq
  rw [qW_eq (by omega)] at h
  have hw : zWd.getD 10 [] = [[97, 110, 100], [111, 114]] := rfl
  rw [hw, wL, wL, wL] at h
  have X1 := mX_pfx (a := a) (n := n) (at_ := at_) (cs := [97, 110, 100]) (i := 0)
  have X2 := mX_pfx (a := a) (n := n) (at_ := at_) (cs := [111, 114]) (i := 0)
  rw [Nat.add_zero] at X1 X2
  have l1 := pfx_le (b := fun j => pB a n (at_ + j)) (w := [97, 110, 100]) (i := 0)
  have l2 := pfx_le (b := fun j => pB a n (at_ + j)) (w := [111, 114]) (i := 0)
  have l1' : pfx (fun j => pB a n (at_ + j)) [97, 110, 100] 0 ≤ 3 := l1
  have l2' : pfx (fun j => pB a n (at_ + j)) [111, 114] 0 ≤ 2 := l2
  constructor
  · intro l
    have l : pB a n (at_ + 0) = 111 := l
    have p1 : pfx (fun j => pB a n (at_ + j)) [97, 110, 100] 0 = 0 := by rw [pfx, if_neg (by rw [l]; decide)]
    rw [p1, if_neg (show ¬ 0 = ([97, 110, 100] : List Int32).length by decide)] at h
    rw [X2]
    by_cases e : pfx (fun j => pB a n (at_ + j)) [111, 114] 0 = ([111, 114] : List Int32).length
    · rw [if_pos e] at h ⊢
      obtain ⟨rfl, rfl⟩ := Prod.mk.inj h
      exact ⟨eqQ_rf, fun _ => rfl⟩
    · rw [if_neg e] at h ⊢
      obtain ⟨rfl, rfl⟩ := Prod.mk.inj h
      have e2 : (if (if 0 < 0 then 0 else 0) < pfx (fun j => pB a n (at_ + j)) [111, 114] 0 then pfx (fun j => pB a n (at_ + j)) [111, 114] 0 else (if 0 < 0 then 0 else 0)) = pfx (fun j => pB a n (at_ + j)) [111, 114] 0 := by
        simp only [Nat.lt_irrefl, if_false]
        split <;> omega
      rw [e2]
      exact ⟨⟨rfl, fun z => absurd z (nI_nem1 (by omega))⟩, fun z => absurd z (nI_nem1 (by omega))⟩
  · intro l
    have l : ¬ pB a n (at_ + 0) = 111 := l
    have p2 : pfx (fun j => pB a n (at_ + j)) [111, 114] 0 = 0 := by rw [pfx, if_neg l]
    rw [p2] at h
    rw [X1]
    by_cases e : pfx (fun j => pB a n (at_ + j)) [97, 110, 100] 0 = ([97, 110, 100] : List Int32).length
    · rw [if_pos e] at h ⊢
      obtain ⟨rfl, rfl⟩ := Prod.mk.inj h
      exact ⟨eqQ_rf, fun _ => rfl⟩
    · rw [if_neg e] at h ⊢
      rw [if_neg (show ¬ 0 = ([111, 114] : List Int32).length by decide)] at h
      obtain ⟨rfl, rfl⟩ := Prod.mk.inj h
      have e2 : (if (if 0 < pfx (fun j => pB a n (at_ + j)) [97, 110, 100] 0 then pfx (fun j => pB a n (at_ + j)) [97, 110, 100] 0 else 0) < 0 then 0 else (if 0 < pfx (fun j => pB a n (at_ + j)) [97, 110, 100] 0 then pfx (fun j => pB a n (at_ + j)) [97, 110, 100] 0 else 0)) = pfx (fun j => pB a n (at_ + j)) [97, 110, 100] 0 := by
        rw [if_neg (by omega)]
        split <;> omega
      rw [e2]
      exact ⟨⟨rfl, fun z => absurd z (nI_nem1 (by omega))⟩, fun z => absurd z (nI_nem1 (by omega))⟩
set_option maxHeartbeats 4000000 in
theorem c_Mo_readTests {d n r : Nat} {μ : zMu} {a : Nat → Int32} {q q1 q2 q3 q4 q' : zQ} {v2 any' : Int32} {t : rT} {ts : List rT} {x : Int32} {K : Option zV → zMu → Prop} (E : mE μ a n) (h28 : μ 48 0 28 = nI q.1) (h29 : μ 48 0 29 = -1) (hq2 : q.2 = -1) (hqn : q.1 ≤ n) (hx : x = nI r) (hr : r < 16) (h72 : μ 72 0 r = 0) (h69 : μ 69 0 r = 0)
    (e1 : qB a n q = q1) (e2 : qW a n q1 4 = (v2, q2)) (e3 : qB a n q2 = q3) (eT : qTR a n q3 t q4) (eL : qLR a n 3 0 q4 ts any' q')
    (hK : ∀ μ' fl, gF r μ μ' → ((qMore n q' ∧ fl = nI q'.1) ∨ (¬ qMore n q' ∧ fl = q'.2)) → μ' 48 0 29 = fl → (¬ fl = -1 → 0 ≤ fl) → (fl = -1 → μ' 72 0 r = nI (t :: ts).length ∧ (t :: ts).length ≤ 4 ∧ μ' 69 0 r = any' ∧ (any' = 0 ∨ any' = 1) ∧ ∀ i e, (t :: ts)[i]? = some e → tE μ' (4 * r + i) e) → K none μ') : Ct (d + 3) m_Mo_readTests [zR 48 0, zI x] μ K := by
  subst hx
  refine zmeet rfl (Nat.le_of_ble_eq_true rfl) (fun S => ?_)
  have h200 := E.2.1
  have cr : (nI r).toNatClampNeg = r := nI_clamp (by omega)
  have vr : vp_in (nI r) 16 := vp_in_nI hr (by omega)
  have m4 : (4 : Int32) * nI r = nI (4 * r) := pk_mul 4 r
  have i32 : ∀ z : Int32, z = -1 → ¬ 0 ≤ z := fun z h => by rw [h]; decide
  have end0 : ∀ μ1 : zMu, K none μ1 → zG S (d + 3) m_Mo_readTests K 20 [some (zR 48 0), some (zI (nI r)), some (zI 0)] [] μ1 := fun μ1 hk => by
    repeat' (first
      | exact hk
      | (refine zs k_Mo_readTests rfl ?_; conv => whnf)
      | refine ⟨Nat.zero_lt_one, rfl, ?_⟩
      | refine ⟨rfl, ?_⟩
      | refine ⟨⟨Nat.zero_lt_one, rfl⟩, Nat.le_of_ble_eq_true rfl, ?_⟩
      | refine ⟨Nat.le_of_ble_eq_true rfl, Nat.le_of_ble_eq_true rfl, ?_⟩
      | refine ⟨(by first | exact Nat.zero_lt_one | assumption | omega), (by first | assumption | exact vp_in_nI (by omega) (by omega) | (unfold vp_in; decide)), ?_⟩
      | refine ⟨(by first | exact Nat.zero_lt_one | assumption | omega), rfl, ?_⟩
      | refine ⟨⟨(by first | exact Nat.zero_lt_one | assumption | omega), rfl⟩, Nat.le_of_ble_eq_true rfl, ?_⟩
      | refine ⟨(by first | exact Nat.zero_lt_one | assumption | omega), ?_⟩
      | refine ⟨Or.inl rfl, ?_⟩
      | refine ⟨Or.inr (Or.inl rfl), ?_⟩
      | refine ⟨Or.inr (Or.inr rfl), ?_⟩
      | refine ⟨Or.inr ⟨rfl, (by first | exact Or.inl rfl | exact Or.inr rfl | assumption)⟩, ?_⟩
      | refine ⟨fun h => absurd h (by decide), fun _ => ?_⟩
      | refine ⟨fun _ => ?_, fun h => absurd h (by decide)⟩
      | refine ⟨fun h => ?_, fun h => ?_⟩
      | fail)
  -- more is 0 at 72
  have end1 : ∀ μ1 : zMu, K none μ1 → zG S (d + 3) m_Mo_readTests K 72 [some (zR 48 0), some (zI (nI r)), some (zI 0)] [] μ1 := fun μ1 hk => by
    repeat' (first
      | exact end0 _ hk
      | (refine zs k_Mo_readTests rfl ?_; conv => whnf)
      | refine ⟨Nat.zero_lt_one, rfl, ?_⟩
      | refine ⟨rfl, ?_⟩
      | refine ⟨⟨Nat.zero_lt_one, rfl⟩, Nat.le_of_ble_eq_true rfl, ?_⟩
      | refine ⟨Nat.le_of_ble_eq_true rfl, Nat.le_of_ble_eq_true rfl, ?_⟩
      | refine ⟨(by first | exact Nat.zero_lt_one | assumption | omega), (by first | assumption | exact vp_in_nI (by omega) (by omega) | (unfold vp_in; decide)), ?_⟩
      | refine ⟨(by first | exact Nat.zero_lt_one | assumption | omega), rfl, ?_⟩
      | refine ⟨⟨(by first | exact Nat.zero_lt_one | assumption | omega), rfl⟩, Nat.le_of_ble_eq_true rfl, ?_⟩
      | refine ⟨(by first | exact Nat.zero_lt_one | assumption | omega), ?_⟩
      | refine ⟨Or.inl rfl, ?_⟩
      | refine ⟨Or.inr (Or.inl rfl), ?_⟩
      | refine ⟨Or.inr (Or.inr rfl), ?_⟩
      | refine ⟨Or.inr ⟨rfl, (by first | exact Or.inl rfl | exact Or.inr rfl | assumption)⟩, ?_⟩
      | refine ⟨fun h => absurd h (by decide), fun _ => ?_⟩
      | refine ⟨fun _ => ?_, fun h => absurd h (by decide)⟩
      | refine ⟨fun h => ?_, fun h => ?_⟩
      | fail)
  -- a fault at 94, 112, 190
  have end2 : ∀ μ1 : zMu, 0 ≤ μ1 48 0 29 → K none μ1 → zG S (d + 3) m_Mo_readTests K 190 [some (zR 48 0), some (zI (nI r)), some (zI 1)] [] μ1 := fun μ1 hf hk => by
    repeat' (first
      | refine br_t hf ?_
      | exact end0 _ hk
      | (refine zs k_Mo_readTests rfl ?_; conv => whnf)
      | refine ⟨Nat.zero_lt_one, rfl, ?_⟩
      | refine ⟨rfl, ?_⟩
      | refine ⟨⟨Nat.zero_lt_one, rfl⟩, Nat.le_of_ble_eq_true rfl, ?_⟩
      | refine ⟨Nat.le_of_ble_eq_true rfl, Nat.le_of_ble_eq_true rfl, ?_⟩
      | refine ⟨(by first | exact Nat.zero_lt_one | assumption | omega), (by first | assumption | exact vp_in_nI (by omega) (by omega) | (unfold vp_in; decide)), ?_⟩
      | refine ⟨(by first | exact Nat.zero_lt_one | assumption | omega), rfl, ?_⟩
      | refine ⟨⟨(by first | exact Nat.zero_lt_one | assumption | omega), rfl⟩, Nat.le_of_ble_eq_true rfl, ?_⟩
      | refine ⟨(by first | exact Nat.zero_lt_one | assumption | omega), ?_⟩
      | refine ⟨Or.inl rfl, ?_⟩
      | refine ⟨Or.inr (Or.inl rfl), ?_⟩
      | refine ⟨Or.inr (Or.inr rfl), ?_⟩
      | refine ⟨Or.inr ⟨rfl, (by first | exact Or.inl rfl | exact Or.inr rfl | assumption)⟩, ?_⟩
      | refine ⟨fun h => absurd h (by decide), fun _ => ?_⟩
      | refine ⟨fun _ => ?_, fun h => absurd h (by decide)⟩
      | refine ⟨fun h => ?_, fun h => ?_⟩
      | fail)
  have end3 : ∀ μ1 : zMu, 0 ≤ μ1 48 0 29 → K none μ1 → zG S (d + 3) m_Mo_readTests K 112 [some (zR 48 0), some (zI (nI r)), some (zI 1)] [] μ1 := fun μ1 hf hk => by
    repeat' (first
      | exact end2 _ hf hk
      | refine br_t hf ?_
      | (refine zs k_Mo_readTests rfl ?_; conv => whnf)
      | refine ⟨Nat.zero_lt_one, rfl, ?_⟩
      | refine ⟨rfl, ?_⟩
      | refine ⟨⟨Nat.zero_lt_one, rfl⟩, Nat.le_of_ble_eq_true rfl, ?_⟩
      | refine ⟨Nat.le_of_ble_eq_true rfl, Nat.le_of_ble_eq_true rfl, ?_⟩
      | refine ⟨(by first | exact Nat.zero_lt_one | assumption | omega), (by first | assumption | exact vp_in_nI (by omega) (by omega) | (unfold vp_in; decide)), ?_⟩
      | refine ⟨(by first | exact Nat.zero_lt_one | assumption | omega), rfl, ?_⟩
      | refine ⟨⟨(by first | exact Nat.zero_lt_one | assumption | omega), rfl⟩, Nat.le_of_ble_eq_true rfl, ?_⟩
      | refine ⟨(by first | exact Nat.zero_lt_one | assumption | omega), ?_⟩
      | refine ⟨Or.inl rfl, ?_⟩
      | refine ⟨Or.inr (Or.inl rfl), ?_⟩
      | refine ⟨Or.inr (Or.inr rfl), ?_⟩
      | refine ⟨Or.inr ⟨rfl, (by first | exact Or.inl rfl | exact Or.inr rfl | assumption)⟩, ?_⟩
      | refine ⟨fun h => absurd h (by decide), fun _ => ?_⟩
      | refine ⟨fun _ => ?_, fun h => absurd h (by decide)⟩
      | refine ⟨fun h => ?_, fun h => ?_⟩
      | fail)
  have core : ∀ (j : Nat) (any any' : Int32) (q q4 q' : zQ) (t : rT) (ts pre : List rT) (μ1 : zMu), j ≤ 3 → q.2 = -1 → q.1 ≤ n → qTR a n q t q4 → (¬ qMore n q4 → ts = [] ∧ any' = any ∧ q' = q4) → gF r μ μ1 → μ1 48 0 28 = nI q.1 → μ1 48 0 29 = -1 → μ1 72 0 r = nI j → μ1 69 0 r = any → (any = 0 ∨ any = 1) → pre.length = j → (∀ i e, pre[i]? = some e → tE μ1 (4 * r + i) e) →
      (∀ μ' fl, gF r μ μ' → ((qMore n q' ∧ fl = nI q'.1) ∨ (¬ qMore n q' ∧ fl = q'.2)) → μ' 48 0 29 = fl → (¬ fl = -1 → 0 ≤ fl) → (fl = -1 → μ' 72 0 r = nI (pre ++ t :: ts).length ∧ (pre ++ t :: ts).length ≤ 4 ∧ μ' 69 0 r = any' ∧ (any' = 0 ∨ any' = 1) ∧ ∀ i e, (pre ++ t :: ts)[i]? = some e → tE μ' (4 * r + i) e) → K none μ') →
      (qMore n q4 → ∀ μ2, gF r μ μ2 → μ2 48 0 28 = nI q4.1 → μ2 48 0 29 = -1 → μ2 72 0 r = nI (j + 1) → μ2 69 0 r = any → (∀ i e, (pre ++ [t])[i]? = some e → tE μ2 (4 * r + i) e) → zG S (d + 3) m_Mo_readTests K 72 [some (zR 48 0), some (zI (nI r)), some (zI 1)] [] μ2) → zG S (d + 3) m_Mo_readTests K 20 [some (zR 48 0), some (zI (nI r)), some (zI 1)] [] μ1 := by
    intro j any any' q q4 q' t ts pre μ1 hj3 o2 hqn eT hno F s28 s29 s72 s69 hany hpl hpre hK hmore
    have h4n := qTR_n hqn eT
    have v72 : μ1 72 0 (nI r).toNatClampNeg = nI j := by rw [cr]; exact s72
    have mi : (4 : Int32) * nI r + μ1 72 0 (nI r).toNatClampNeg = nI (4 * r + j) := by rw [m4, v72, nI_add]
    have fin : ∀ μ2 : zMu, mF (4 * r + j) μ1 μ2 → μ2 48 0 29 = q4.2 → (q4.2 = -1 → μ2 48 0 28 = nI q4.1 ∧ tE μ2 (4 * r + j) t) → (¬ q4.2 = -1 → 0 ≤ q4.2) → zG S (d + 3) m_Mo_readTests K 38 [some (zR 48 0), some (zI (nI r)), some (zI 1)] [] μ2 := fun μ2 F2 f29 fv fp => by
      have G2 := gF_mF F (by omega) F2
      have w72 : μ2 72 0 r = nI j := by rw [F2.1 72 (by decide)]; exact s72
      have G3 : gF r μ (zu μ2 72 0 r (nI (j + 1))) := gF_r G2 (by decide)
      have hst : ∀ r', r' = r → zu μ2 72 0 r' (μ2 72 0 r' + 1) = zu μ2 72 0 r (nI (j + 1)) := fun r' h => by
        rw [h, w72, nI_1]
      have ent : q4.2 = -1 → ∀ i e, (pre ++ [t])[i]? = some e → tE (zu μ2 72 0 r (nI (j + 1))) (4 * r + i) e := fun z i e he => by
        show tE μ2 (4 * r + i) e
        rcases Nat.lt_or_ge i j with w | w
        · rw [List.getElem?_append_left (by omega)] at he
          have := hpre i e he
          unfold tE at *
          rw [F2.2.2 73 (by decide) _ (by omega), F2.2.2 74 (by decide) _ (by omega), F2.2.2 75 (by decide) _ (by omega), F2.2.2 76 (by decide) _ (by omega), F2.2.2 77 (by decide) _ (by omega)]
          exact this
        · rw [List.getElem?_append_right (by omega)] at he
          have hi : i = j := by
            have := (List.getElem?_eq_some_iff.mp he).1
            simp at this
            omega
          subst hi
          rw [hpl, Nat.sub_self] at he
          cases he
          exact (fv z).2
      have e69 : zu μ2 72 0 r (nI (j + 1)) 69 0 r = any := by
        show μ2 69 0 r = any
        rw [F2.1 69 (by decide)]
        exact s69
      by_cases o4 : q4.2 = -1
      case neg =>
        have hnm : ¬ qMore n q4 := fun z => o4 z.1
        obtain ⟨rfl, rfl, rfl⟩ := hno hnm
        have hk := hK (zu μ2 72 0 r (nI (j + 1))) q'.2 G3 (Or.inr ⟨hnm, rfl⟩) f29 fp (fun z => absurd z o4)
        have hf : 0 ≤ μ2 48 0 29 := by rw [f29]; exact fp o4
        have e1 : zG S (d + 3) m_Mo_readTests K 48 [some (zR 48 0), some (zI (nI r)), some (zI 1)] [] (zu μ2 72 0 r (nI (j + 1))) := by
          repeat' (first
            | exact end1 _ hk
            | refine br_t hf ?_
            | (refine zs k_Mo_readTests rfl ?_; conv => whnf)
            | refine ⟨Nat.zero_lt_one, rfl, ?_⟩
            | refine ⟨rfl, ?_⟩
            | refine ⟨⟨Nat.zero_lt_one, rfl⟩, Nat.le_of_ble_eq_true rfl, ?_⟩
            | refine ⟨Nat.le_of_ble_eq_true rfl, Nat.le_of_ble_eq_true rfl, ?_⟩
            | refine ⟨(by first | exact Nat.zero_lt_one | assumption | omega), (by first | assumption | exact vp_in_nI (by omega) (by omega) | (unfold vp_in; decide)), ?_⟩
            | refine ⟨(by first | exact Nat.zero_lt_one | assumption | omega), rfl, ?_⟩
            | refine ⟨⟨(by first | exact Nat.zero_lt_one | assumption | omega), rfl⟩, Nat.le_of_ble_eq_true rfl, ?_⟩
            | refine ⟨(by first | exact Nat.zero_lt_one | assumption | omega), ?_⟩
            | refine ⟨Or.inl rfl, ?_⟩
            | refine ⟨Or.inr (Or.inl rfl), ?_⟩
            | refine ⟨Or.inr (Or.inr rfl), ?_⟩
            | refine ⟨Or.inr ⟨rfl, (by first | exact Or.inl rfl | exact Or.inr rfl | assumption)⟩, ?_⟩
            | refine ⟨fun h => absurd h (by decide), fun _ => ?_⟩
            | refine ⟨fun _ => ?_, fun h => absurd h (by decide)⟩
            | refine ⟨fun h => ?_, fun h => ?_⟩
            | fail)
        repeat' (first
          | (rw [hst _ cr]; exact e1)
          | (refine zs k_Mo_readTests rfl ?_; conv => whnf)
          | refine ⟨Nat.zero_lt_one, rfl, ?_⟩
          | refine ⟨rfl, ?_⟩
          | refine ⟨⟨Nat.zero_lt_one, rfl⟩, Nat.le_of_ble_eq_true rfl, ?_⟩
          | refine ⟨Nat.le_of_ble_eq_true rfl, Nat.le_of_ble_eq_true rfl, ?_⟩
          | refine ⟨(by first | exact Nat.zero_lt_one | assumption | omega), (by first | assumption | exact vp_in_nI (by omega) (by omega) | (unfold vp_in; decide)), ?_⟩
          | refine ⟨(by first | exact Nat.zero_lt_one | assumption | omega), rfl, ?_⟩
          | refine ⟨⟨(by first | exact Nat.zero_lt_one | assumption | omega), rfl⟩, Nat.le_of_ble_eq_true rfl, ?_⟩
          | refine ⟨(by first | exact Nat.zero_lt_one | assumption | omega), ?_⟩
          | refine ⟨Or.inl rfl, ?_⟩
          | refine ⟨Or.inr (Or.inl rfl), ?_⟩
          | refine ⟨Or.inr (Or.inr rfl), ?_⟩
          | refine ⟨Or.inr ⟨rfl, (by first | exact Or.inl rfl | exact Or.inr rfl | assumption)⟩, ?_⟩
          | refine ⟨fun h => absurd h (by decide), fun _ => ?_⟩
          | refine ⟨fun _ => ?_, fun h => absurd h (by decide)⟩
          | refine ⟨fun h => ?_, fun h => ?_⟩
          | fail)
      have hf : ¬ 0 ≤ μ2 48 0 29 := i32 _ (f29.trans o4)
      have f28 := (fv o4).1
      have b14 : μ2 48 0 14 = nI n := (gF_E G2 E).1
      by_cases hm : qMore n q4
      · have hlt : ¬ μ2 48 0 14 ≤ μ2 48 0 28 := by rw [b14, f28]; exact nI_ge hm.2 (by omega)
        have hk := hmore hm (zu μ2 72 0 r (nI (j + 1))) G3 f28 (f29.trans o4) zu_eq e69 (ent o4)
        have e1 : zG S (d + 3) m_Mo_readTests K 48 [some (zR 48 0), some (zI (nI r)), some (zI 1)] [] (zu μ2 72 0 r (nI (j + 1))) := by
          repeat' (first
            | exact hk
            | refine br_f hf ?_
            | refine br_f hlt ?_
            | (refine zs k_Mo_readTests rfl ?_; conv => whnf)
            | refine ⟨Nat.zero_lt_one, rfl, ?_⟩
            | refine ⟨rfl, ?_⟩
            | refine ⟨⟨Nat.zero_lt_one, rfl⟩, Nat.le_of_ble_eq_true rfl, ?_⟩
            | refine ⟨Nat.le_of_ble_eq_true rfl, Nat.le_of_ble_eq_true rfl, ?_⟩
            | refine ⟨(by first | exact Nat.zero_lt_one | assumption | omega), (by first | assumption | exact vp_in_nI (by omega) (by omega) | (unfold vp_in; decide)), ?_⟩
            | refine ⟨(by first | exact Nat.zero_lt_one | assumption | omega), rfl, ?_⟩
            | refine ⟨⟨(by first | exact Nat.zero_lt_one | assumption | omega), rfl⟩, Nat.le_of_ble_eq_true rfl, ?_⟩
            | refine ⟨(by first | exact Nat.zero_lt_one | assumption | omega), ?_⟩
            | refine ⟨Or.inl rfl, ?_⟩
            | refine ⟨Or.inr (Or.inl rfl), ?_⟩
            | refine ⟨Or.inr (Or.inr rfl), ?_⟩
            | refine ⟨Or.inr ⟨rfl, (by first | exact Or.inl rfl | exact Or.inr rfl | assumption)⟩, ?_⟩
            | refine ⟨fun h => absurd h (by decide), fun _ => ?_⟩
            | refine ⟨fun _ => ?_, fun h => absurd h (by decide)⟩
            | refine ⟨fun h => ?_, fun h => ?_⟩
            | fail)
        repeat' (first
          | (rw [hst _ cr]; exact e1)
          | (refine zs k_Mo_readTests rfl ?_; conv => whnf)
          | refine ⟨Nat.zero_lt_one, rfl, ?_⟩
          | refine ⟨rfl, ?_⟩
          | refine ⟨⟨Nat.zero_lt_one, rfl⟩, Nat.le_of_ble_eq_true rfl, ?_⟩
          | refine ⟨Nat.le_of_ble_eq_true rfl, Nat.le_of_ble_eq_true rfl, ?_⟩
          | refine ⟨(by first | exact Nat.zero_lt_one | assumption | omega), (by first | assumption | exact vp_in_nI (by omega) (by omega) | (unfold vp_in; decide)), ?_⟩
          | refine ⟨(by first | exact Nat.zero_lt_one | assumption | omega), rfl, ?_⟩
          | refine ⟨⟨(by first | exact Nat.zero_lt_one | assumption | omega), rfl⟩, Nat.le_of_ble_eq_true rfl, ?_⟩
          | refine ⟨(by first | exact Nat.zero_lt_one | assumption | omega), ?_⟩
          | refine ⟨Or.inl rfl, ?_⟩
          | refine ⟨Or.inr (Or.inl rfl), ?_⟩
          | refine ⟨Or.inr (Or.inr rfl), ?_⟩
          | refine ⟨Or.inr ⟨rfl, (by first | exact Or.inl rfl | exact Or.inr rfl | assumption)⟩, ?_⟩
          | refine ⟨fun h => absurd h (by decide), fun _ => ?_⟩
          | refine ⟨fun _ => ?_, fun h => absurd h (by decide)⟩
          | refine ⟨fun h => ?_, fun h => ?_⟩
          | fail)
      · have hge : μ2 48 0 14 ≤ μ2 48 0 28 := by
          rw [b14, f28]
          refine nI_le ?_ (by omega)
          rcases Nat.lt_or_ge q4.1 n with z | z
          · exact absurd ⟨o4, z⟩ hm
          · exact z
        obtain ⟨rfl, rfl, rfl⟩ := hno hm
        have hk := hK (zu μ2 72 0 r (nI (j + 1))) q'.2 G3 (Or.inr ⟨hm, rfl⟩) f29 fp (fun _ => ⟨by rw [zu_eq, List.length_append, hpl]; rfl, by rw [List.length_append, hpl]; simp; omega, e69, hany, ent o4⟩)
        have e1 : zG S (d + 3) m_Mo_readTests K 48 [some (zR 48 0), some (zI (nI r)), some (zI 1)] [] (zu μ2 72 0 r (nI (j + 1))) := by
          repeat' (first
            | exact end1 _ hk
            | refine br_f hf ?_
            | refine br_t hge ?_
            | (refine zs k_Mo_readTests rfl ?_; conv => whnf)
            | refine ⟨Nat.zero_lt_one, rfl, ?_⟩
            | refine ⟨rfl, ?_⟩
            | refine ⟨⟨Nat.zero_lt_one, rfl⟩, Nat.le_of_ble_eq_true rfl, ?_⟩
            | refine ⟨Nat.le_of_ble_eq_true rfl, Nat.le_of_ble_eq_true rfl, ?_⟩
            | refine ⟨(by first | exact Nat.zero_lt_one | assumption | omega), (by first | assumption | exact vp_in_nI (by omega) (by omega) | (unfold vp_in; decide)), ?_⟩
            | refine ⟨(by first | exact Nat.zero_lt_one | assumption | omega), rfl, ?_⟩
            | refine ⟨⟨(by first | exact Nat.zero_lt_one | assumption | omega), rfl⟩, Nat.le_of_ble_eq_true rfl, ?_⟩
            | refine ⟨(by first | exact Nat.zero_lt_one | assumption | omega), ?_⟩
            | refine ⟨Or.inl rfl, ?_⟩
            | refine ⟨Or.inr (Or.inl rfl), ?_⟩
            | refine ⟨Or.inr (Or.inr rfl), ?_⟩
            | refine ⟨Or.inr ⟨rfl, (by first | exact Or.inl rfl | exact Or.inr rfl | assumption)⟩, ?_⟩
            | refine ⟨fun h => absurd h (by decide), fun _ => ?_⟩
            | refine ⟨fun _ => ?_, fun h => absurd h (by decide)⟩
            | refine ⟨fun h => ?_, fun h => ?_⟩
            | fail)
        repeat' (first
          | (rw [hst _ cr]; exact e1)
          | (refine zs k_Mo_readTests rfl ?_; conv => whnf)
          | refine ⟨Nat.zero_lt_one, rfl, ?_⟩
          | refine ⟨rfl, ?_⟩
          | refine ⟨⟨Nat.zero_lt_one, rfl⟩, Nat.le_of_ble_eq_true rfl, ?_⟩
          | refine ⟨Nat.le_of_ble_eq_true rfl, Nat.le_of_ble_eq_true rfl, ?_⟩
          | refine ⟨(by first | exact Nat.zero_lt_one | assumption | omega), (by first | assumption | exact vp_in_nI (by omega) (by omega) | (unfold vp_in; decide)), ?_⟩
          | refine ⟨(by first | exact Nat.zero_lt_one | assumption | omega), rfl, ?_⟩
          | refine ⟨⟨(by first | exact Nat.zero_lt_one | assumption | omega), rfl⟩, Nat.le_of_ble_eq_true rfl, ?_⟩
          | refine ⟨(by first | exact Nat.zero_lt_one | assumption | omega), ?_⟩
          | refine ⟨Or.inl rfl, ?_⟩
          | refine ⟨Or.inr (Or.inl rfl), ?_⟩
          | refine ⟨Or.inr (Or.inr rfl), ?_⟩
          | refine ⟨Or.inr ⟨rfl, (by first | exact Or.inl rfl | exact Or.inr rfl | assumption)⟩, ?_⟩
          | refine ⟨fun h => absurd h (by decide), fun _ => ?_⟩
          | refine ⟨fun _ => ?_, fun h => absurd h (by decide)⟩
          | refine ⟨fun h => ?_, fun h => ?_⟩
          | fail)
    refine zs k_Mo_readTests rfl ?_; conv => whnf
    repeat' (first
      | refine c_Mo_readTest (q := q) (q' := q4) (t := t) (gF_E F E) s28 s29 o2 hqn mi (by omega) eT (fun μ2 F2 f29 fv fp => ?_)
      | exact fin μ2 F2 f29 (fun z => ⟨(fv z).1, (fv z).2⟩) fp
      | (refine zs k_Mo_readTests rfl ?_; conv => whnf)
      | refine ⟨Nat.zero_lt_one, rfl, ?_⟩
      | refine ⟨rfl, ?_⟩
      | refine ⟨⟨Nat.zero_lt_one, rfl⟩, Nat.le_of_ble_eq_true rfl, ?_⟩
      | refine ⟨Nat.le_of_ble_eq_true rfl, Nat.le_of_ble_eq_true rfl, ?_⟩
      | refine ⟨(by first | exact Nat.zero_lt_one | assumption | omega), (by first | assumption | exact vp_in_nI (by omega) (by omega) | (unfold vp_in; decide)), ?_⟩
      | refine ⟨(by first | exact Nat.zero_lt_one | assumption | omega), rfl, ?_⟩
      | refine ⟨⟨(by first | exact Nat.zero_lt_one | assumption | omega), rfl⟩, Nat.le_of_ble_eq_true rfl, ?_⟩
      | refine ⟨(by first | exact Nat.zero_lt_one | assumption | omega), ?_⟩
      | refine ⟨Or.inl rfl, ?_⟩
      | refine ⟨Or.inr (Or.inl rfl), ?_⟩
      | refine ⟨Or.inr (Or.inr rfl), ?_⟩
      | refine ⟨Or.inr ⟨rfl, (by first | exact Or.inl rfl | exact Or.inr rfl | assumption)⟩, ?_⟩
      | refine ⟨fun h => absurd h (by decide), fun _ => ?_⟩
      | refine ⟨fun _ => ?_, fun h => absurd h (by decide)⟩
      | refine ⟨fun h => ?_, fun h => ?_⟩
      | fail)
  have L : ∀ (k j : Nat) (any any' : Int32) (q q4 q' : zQ) (t : rT) (ts pre : List rT) (μ1 : zMu), j + k = 3 → q.2 = -1 → q.1 ≤ n → qTR a n q t q4 → qLR a n k any q4 ts any' q' → gF r μ μ1 → μ1 48 0 28 = nI q.1 → μ1 48 0 29 = -1 → μ1 72 0 r = nI j → μ1 69 0 r = any → (any = 0 ∨ any = 1) → pre.length = j → (∀ i e, pre[i]? = some e → tE μ1 (4 * r + i) e) →
      (∀ μ' fl, gF r μ μ' → ((qMore n q' ∧ fl = nI q'.1) ∨ (¬ qMore n q' ∧ fl = q'.2)) → μ' 48 0 29 = fl → (¬ fl = -1 → 0 ≤ fl) → (fl = -1 → μ' 72 0 r = nI (pre ++ t :: ts).length ∧ (pre ++ t :: ts).length ≤ 4 ∧ μ' 69 0 r = any' ∧ (any' = 0 ∨ any' = 1) ∧ ∀ i e, (pre ++ t :: ts)[i]? = some e → tE μ' (4 * r + i) e) → K none μ') → zG S (d + 3) m_Mo_readTests K 20 [some (zR 48 0), some (zI (nI r)), some (zI 1)] [] μ1 := by
    intro k
    induction k with
    | zero =>
      intro j any any' q q4 q' t ts pre μ1 hjk o2 hqn eT eL F s28 s29 s72 s69 hany hpl hpre hK
      obtain rfl : j = 3 := by omega
      have h4n := qTR_n hqn eT
      refine core 3 any any' q q4 q' t ts pre μ1 (by omega) o2 hqn eT (fun _ => eL) F s28 s29 s72 s69 hany hpl hpre hK (fun hm μ2 G2 t28 t29 t72 t69 ent => ?_)
      obtain ⟨rfl, rfl, rfl⟩ : ts = [] ∧ any' = any ∧ q' = q4 := eL
      have hnn : ¬ nI q'.1 = -1 := nI_nem1 (by omega)
      have hk := hK (zu μ2 48 0 29 (nI q'.1)) (nI q'.1) (gF_fl G2) (Or.inl ⟨hm, rfl⟩) zu_eq (fun _ => nI_pos' (by omega)) (fun z => absurd z hnn)
      have c72 : μ2 72 0 (nI r).toNatClampNeg = 4 := by rw [cr, t72]; rfl
      have hst : zu μ2 48 0 29 (μ2 48 0 28) = zu μ2 48 0 29 (nI q'.1) := by rw [t28]
      have hf : 0 ≤ zu μ2 48 0 29 (nI q'.1) 48 0 29 := by rw [zu_eq]; exact nI_pos' (by omega)
      have e1 : zG S (d + 3) m_Mo_readTests K 94 [some (zR 48 0), some (zI (nI r)), some (zI 1)] [] (zu μ2 48 0 29 (nI q'.1)) := by
        repeat' (first
          | exact end3 _ hf hk
          | refine br_t hf ?_
          | (refine zs k_Mo_readTests rfl ?_; conv => whnf)
          | refine ⟨Nat.zero_lt_one, rfl, ?_⟩
          | refine ⟨rfl, ?_⟩
          | refine ⟨⟨Nat.zero_lt_one, rfl⟩, Nat.le_of_ble_eq_true rfl, ?_⟩
          | refine ⟨Nat.le_of_ble_eq_true rfl, Nat.le_of_ble_eq_true rfl, ?_⟩
          | refine ⟨(by first | exact Nat.zero_lt_one | assumption | omega), (by first | assumption | exact vp_in_nI (by omega) (by omega) | (unfold vp_in; decide)), ?_⟩
          | refine ⟨(by first | exact Nat.zero_lt_one | assumption | omega), rfl, ?_⟩
          | refine ⟨⟨(by first | exact Nat.zero_lt_one | assumption | omega), rfl⟩, Nat.le_of_ble_eq_true rfl, ?_⟩
          | refine ⟨(by first | exact Nat.zero_lt_one | assumption | omega), ?_⟩
          | refine ⟨Or.inl rfl, ?_⟩
          | refine ⟨Or.inr (Or.inl rfl), ?_⟩
          | refine ⟨Or.inr (Or.inr rfl), ?_⟩
          | refine ⟨Or.inr ⟨rfl, (by first | exact Or.inl rfl | exact Or.inr rfl | assumption)⟩, ?_⟩
          | refine ⟨fun h => absurd h (by decide), fun _ => ?_⟩
          | refine ⟨fun _ => ?_, fun h => absurd h (by decide)⟩
          | refine ⟨fun h => ?_, fun h => ?_⟩
          | fail)
      repeat' (first
        | (rw [hst]; exact e1)
        | refine bn_f c72 ?_
        | (refine zs k_Mo_readTests rfl ?_; conv => whnf)
        | refine ⟨Nat.zero_lt_one, rfl, ?_⟩
        | refine ⟨rfl, ?_⟩
        | refine ⟨⟨Nat.zero_lt_one, rfl⟩, Nat.le_of_ble_eq_true rfl, ?_⟩
        | refine ⟨Nat.le_of_ble_eq_true rfl, Nat.le_of_ble_eq_true rfl, ?_⟩
        | refine ⟨(by first | exact Nat.zero_lt_one | assumption | omega), (by first | assumption | exact vp_in_nI (by omega) (by omega) | (unfold vp_in; decide)), ?_⟩
        | refine ⟨(by first | exact Nat.zero_lt_one | assumption | omega), rfl, ?_⟩
        | refine ⟨⟨(by first | exact Nat.zero_lt_one | assumption | omega), rfl⟩, Nat.le_of_ble_eq_true rfl, ?_⟩
        | refine ⟨(by first | exact Nat.zero_lt_one | assumption | omega), ?_⟩
        | refine ⟨Or.inl rfl, ?_⟩
        | refine ⟨Or.inr (Or.inl rfl), ?_⟩
        | refine ⟨Or.inr (Or.inr rfl), ?_⟩
        | refine ⟨Or.inr ⟨rfl, (by first | exact Or.inl rfl | exact Or.inr rfl | assumption)⟩, ?_⟩
        | refine ⟨fun h => absurd h (by decide), fun _ => ?_⟩
        | refine ⟨fun _ => ?_, fun h => absurd h (by decide)⟩
        | refine ⟨fun h => ?_, fun h => ?_⟩
        | fail)
    | succ k ih =>
      intro j any any' q q4 q' t ts pre μ1 hjk o2 hqn eT eL F s28 s29 s72 s69 hany hpl hpre hK
      have h4n := qTR_n hqn eT
      refine core j any any' q q4 q' t ts pre μ1 (by omega) o2 hqn eT (fun z => qLR_no z eL) F s28 s29 s72 s69 hany hpl hpre hK (fun hm μ2 G2 t28 t29 t72 t69 ent => ?_)
      rcases eL with eL | ⟨-, p1, any1, w2, p2, p3, t', p4, ts', f1, f2, f3, fT, rfl, fL⟩
      · exact absurd hm eL.1
      have hp1n : p1.1 ≤ n := by rw [← f1]; exact qB_le h4n
      have E2 := gF_E G2 E
      have o4 := hm.1
      have ok4 : qOk q4 := ⟨by omega, Or.inl o4⟩
      have hX1 : mX a n [32] q4 = p1 := by rw [mX_b]; exact f1
      have ok1 : qOk p1 := by rw [← hX1]; exact mX_ok h200 (by decide) ok4
      have c72 : ¬ μ2 72 0 (nI r).toNatClampNeg = 4 := by
        rw [cr, t72]
        exact fun z => absurd ((nI_eq (b := 4) (by omega) (by omega)).mp z) (by omega)
      have hf2 : ¬ 0 ≤ μ2 48 0 29 := i32 _ t29
      have t29' : μ2 48 0 29 = q4.2 := by rw [t29, o4]
      have hp2n : p2.1 ≤ n := by
        by_cases hk2 : k = 2
        · rw [if_pos hk2] at f2
          have := qW_le (a := a) (n := n) (k := 10) (q := p1) (by omega) hp1n
          rw [f2.1] at this
          exact this
        · rw [if_neg hk2] at f2
          have := qW_le (a := a) (n := n) (k := if any = 0 then 12 else 11) (q := p1) (by split <;> omega) hp1n
          rw [f2.1] at this
          exact this
      have hp3n : p3.1 ≤ n := by rw [← f3]; exact qB_le hp2n
      -- behind a fault nothing more is read
      have stop : ¬ p3.2 = -1 → q' = p3 ∧ ¬ qMore n q' := fun z => by
        have h4 := qTR_ft z fT
        subst h4
        obtain ⟨-, -, h5⟩ := qLR_no (fun w => z w.1) fL
        exact ⟨h5, fun w => z (by rw [← h5]; exact w.1)⟩
      have stop1 : ¬ p1.2 = -1 → p3 = p1 := fun z => by
        have h2 : p2 = p1 := by
          by_cases hk2 : k = 2
          · rw [if_pos hk2, qW_ft z] at f2
            exact (Prod.mk.inj f2.1).2.symm
          · rw [if_neg hk2, qW_ft z] at f2
            exact (Prod.mk.inj f2.1).2.symm
        rw [← f3, h2, qB_ft z]
      -- at 190
      have S190 : ∀ (μ3 : zMu) (Q : zQ), gF r μ μ3 → μ3 48 0 28 = nI Q.1 → μ3 48 0 29 = Q.2 → qOk Q → eqQ p3 Q → μ3 72 0 r = nI (j + 1) → (p3.2 = -1 → μ3 69 0 r = any1 ∧ (any1 = 0 ∨ any1 = 1)) → (∀ i e, (pre ++ [t])[i]? = some e → tE μ3 (4 * r + i) e) → zG S (d + 3) m_Mo_readTests K 190 [some (zR 48 0), some (zI (nI r)), some (zI 1)] [] μ3 := fun μ3 Q G3 u28 u29 okQ heQ u72 u69 ent3 => by
        by_cases o3 : p3.2 = -1
        · obtain rfl := (eqQ_1 heQ o3).symm
          have hf3 : ¬ 0 ≤ μ3 48 0 29 := i32 _ (u29.trans o3)
          obtain ⟨u691, u692⟩ := u69 o3
          have hgo := ih (j + 1) any1 any' p3 p4 q' t' ts' (pre ++ [t]) μ3 (by omega) o3 hp3n fT fL G3 u28 (u29.trans o3) u72 u691 u692 (by rw [List.length_append, hpl]; rfl) ent3 (fun μ' fl g1 g2 g3 g3b g4 => hK μ' fl g1 g2 g3 g3b (fun z => by
            have := g4 z
            rw [List.append_assoc] at this
            exact this))
          repeat' (first
            | exact hgo
            | refine br_f hf3 ?_
            | (refine zs k_Mo_readTests rfl ?_; conv => whnf)
            | refine ⟨Nat.zero_lt_one, rfl, ?_⟩
            | refine ⟨rfl, ?_⟩
            | refine ⟨⟨Nat.zero_lt_one, rfl⟩, Nat.le_of_ble_eq_true rfl, ?_⟩
            | refine ⟨Nat.le_of_ble_eq_true rfl, Nat.le_of_ble_eq_true rfl, ?_⟩
            | refine ⟨(by first | exact Nat.zero_lt_one | assumption | omega), (by first | assumption | exact vp_in_nI (by omega) (by omega) | (unfold vp_in; decide)), ?_⟩
            | refine ⟨(by first | exact Nat.zero_lt_one | assumption | omega), rfl, ?_⟩
            | refine ⟨⟨(by first | exact Nat.zero_lt_one | assumption | omega), rfl⟩, Nat.le_of_ble_eq_true rfl, ?_⟩
            | refine ⟨(by first | exact Nat.zero_lt_one | assumption | omega), ?_⟩
            | refine ⟨Or.inl rfl, ?_⟩
            | refine ⟨Or.inr (Or.inl rfl), ?_⟩
            | refine ⟨Or.inr (Or.inr rfl), ?_⟩
            | refine ⟨Or.inr ⟨rfl, (by first | exact Or.inl rfl | exact Or.inr rfl | assumption)⟩, ?_⟩
            | refine ⟨fun h => absurd h (by decide), fun _ => ?_⟩
            | refine ⟨fun _ => ?_, fun h => absurd h (by decide)⟩
            | refine ⟨fun h => ?_, fun h => ?_⟩
            | fail)
        · obtain ⟨h5, h6⟩ := stop o3
          have hf3 : 0 ≤ μ3 48 0 29 := by
            rw [u29]
            rcases qOk_neg okQ with ⟨z, -⟩ | ⟨-, z⟩
            · exact absurd (heQ.1.symm.trans z) o3
            · exact z
          have hk := hK μ3 q'.2 G3 (Or.inr ⟨h6, rfl⟩) (by rw [u29, heQ.1, h5]) (fun _ => by rw [h5, ← heQ.1, ← u29]; exact hf3) (fun z => absurd (by rw [← h5]; exact z) o3)
          exact end2 μ3 hf3 hk
      -- at 112
      have G4 : gF r μ (cM μ2 p1) := gF_cM G2
      have S112 : zG S (d + 3) m_Mo_readTests K 112 [some (zR 48 0), some (zI (nI r)), some (zI 1)] [] (cM μ2 p1) := by
        have u28 : cM μ2 p1 48 0 28 = nI p1.1 := cM_28
        have u29 : cM μ2 p1 48 0 29 = p1.2 := cM_29
        have u72 : cM μ2 p1 72 0 r = nI (j + 1) := t72
        have u69 : cM μ2 p1 69 0 r = any := t69
        have ent4 : ∀ i e, (pre ++ [t])[i]? = some e → tE (cM μ2 p1) (4 * r + i) e := ent
        have E4 := gF_E G4 E
        generalize cM μ2 p1 = ν at *
        by_cases o1 : p1.2 = -1
        case neg =>
          have hf4 : 0 ≤ ν 48 0 29 := by
            rw [u29]
            rcases qOk_neg ok1 with ⟨z, -⟩ | ⟨-, z⟩
            · exact absurd z o1
            · exact z
          have h3 := stop1 o1
          obtain ⟨h5, h6⟩ := stop (by rw [h3]; exact o1)
          have hk := hK ν q'.2 G4 (Or.inr ⟨h6, rfl⟩) (by rw [u29, h5, h3]) (fun _ => by rw [h5, h3, ← u29]; exact hf4) (fun z => absurd (by rw [← h3, ← h5]; exact z) o1)
          exact end3 ν hf4 hk
        have hf4 : ¬ 0 ≤ ν 48 0 29 := i32 _ (u29.trans o1)
        have exC : ∀ (cs : List Int32), cs.length ≤ 3 → eqQ p2 (mX a n cs p1) → eqQ p3 (mX a n (cs ++ [32]) p1) := fun cs hl he => by
          rw [mX_app (by omega), ← f3]
          exact eqQ_B he
        by_cases hj0 : j = 0
        · have hk2 : k = 2 := by omega
          rw [if_pos hk2] at f2
          obtain ⟨y1, y2⟩ := w10_eq (by omega) o1 f2.1
          have c1 : ν 72 0 (nI r).toNatClampNeg = 1 := by rw [cr, u72, hj0]; rfl
          by_cases l : pB a n p1.1 = 111
          · obtain ⟨z1, z2⟩ := y1 l
            have G5 : gF r μ (zu ν 69 0 r 1) := gF_r G4 (by decide)
            have hst : ∀ r', r' = r → zu ν 69 0 r' (vp_nar .boolean 1) = zu ν 69 0 r 1 := fun r' h => by rw [h]; rfl
            have hgo := S190 (cM (zu ν 69 0 r 1) (mX a n [111, 114, 32] p1)) (mX a n [111, 114, 32] p1) (gF_cM G5) cM_28 cM_29 (mX_ok h200 (by decide) ok1) (exC [111, 114] (by decide) z1) (by rw [cM_o (by omega), zu_ne (by omega)]; exact u72) (fun z => ⟨by
              rw [cM_o (by omega), zu_eq, f2.2]
              have : p2.2 = -1 := by
                by_cases w : p2.2 = -1
                · exact w
                · rw [← f3, qB_ft w] at z
                  exact absurd z w
              rw [z2 this]
              rfl, by rw [f2.2]; split <;> simp⟩) (fun i e he => by
              have := ent4 i e he
              unfold tE at *
              rw [cM_o (by omega), cM_o (by omega), cM_o (by omega), cM_o (by omega), cM_o (by omega), zu_ne (by omega), zu_ne (by omega), zu_ne (by omega), zu_ne (by omega), zu_ne (by omega)]
              exact this)
            have ne0 : ¬ zu ν 69 0 r 1 69 0 (nI r).toNatClampNeg = 0 := by rw [cr, zu_eq]; decide
            have e1 : zG S (d + 3) m_Mo_readTests K 153 [some (zR 48 0), some (zI (nI r)), some (zI 1)] [] (zu ν 69 0 r 1) := by
              repeat' (first
                | exact hgo
                | refine br_f hf4 ?_
                | refine br_f ne0 ?_
                | refine c_Mo_expect (cs := [111, 114, 32]) (q := p1) (gF_E G5 E) u28 u29 ok1 rfl (by decide) (by decide) (by decide) ?_
                | (refine zs k_Mo_readTests rfl ?_; conv => whnf)
                | refine ⟨Nat.zero_lt_one, rfl, ?_⟩
                | refine ⟨rfl, ?_⟩
                | refine ⟨⟨Nat.zero_lt_one, rfl⟩, Nat.le_of_ble_eq_true rfl, ?_⟩
                | refine ⟨Nat.le_of_ble_eq_true rfl, Nat.le_of_ble_eq_true rfl, ?_⟩
                | refine ⟨(by first | exact Nat.zero_lt_one | assumption | omega), (by first | assumption | exact vp_in_nI (by omega) (by omega) | (unfold vp_in; decide)), ?_⟩
                | refine ⟨(by first | exact Nat.zero_lt_one | assumption | omega), rfl, ?_⟩
                | refine ⟨⟨(by first | exact Nat.zero_lt_one | assumption | omega), rfl⟩, Nat.le_of_ble_eq_true rfl, ?_⟩
                | refine ⟨(by first | exact Nat.zero_lt_one | assumption | omega), ?_⟩
                | refine ⟨Or.inl rfl, ?_⟩
                | refine ⟨Or.inr (Or.inl rfl), ?_⟩
                | refine ⟨Or.inr (Or.inr rfl), ?_⟩
                | refine ⟨Or.inr ⟨rfl, (by first | exact Or.inl rfl | exact Or.inr rfl | assumption)⟩, ?_⟩
                | refine ⟨fun h => absurd h (by decide), fun _ => ?_⟩
                | refine ⟨fun _ => ?_, fun h => absurd h (by decide)⟩
                | refine ⟨fun h => ?_, fun h => ?_⟩
                | fail)
            repeat' (first
              | (rw [hst _ cr]; exact e1)
              | refine br_f hf4 ?_
              | refine bn_f c1 ?_
              | refine c_Mo_letter E4 u28 (by omega) ?_
              | refine bn_f l ?_
              | (refine zs k_Mo_readTests rfl ?_; conv => whnf)
              | refine ⟨Nat.zero_lt_one, rfl, ?_⟩
              | refine ⟨rfl, ?_⟩
              | refine ⟨⟨Nat.zero_lt_one, rfl⟩, Nat.le_of_ble_eq_true rfl, ?_⟩
              | refine ⟨Nat.le_of_ble_eq_true rfl, Nat.le_of_ble_eq_true rfl, ?_⟩
              | refine ⟨(by first | exact Nat.zero_lt_one | assumption | omega), (by first | assumption | exact vp_in_nI (by omega) (by omega) | (unfold vp_in; decide)), ?_⟩
              | refine ⟨(by first | exact Nat.zero_lt_one | assumption | omega), rfl, ?_⟩
              | refine ⟨⟨(by first | exact Nat.zero_lt_one | assumption | omega), rfl⟩, Nat.le_of_ble_eq_true rfl, ?_⟩
              | refine ⟨(by first | exact Nat.zero_lt_one | assumption | omega), ?_⟩
              | refine ⟨Or.inl rfl, ?_⟩
              | refine ⟨Or.inr (Or.inl rfl), ?_⟩
              | refine ⟨Or.inr (Or.inr rfl), ?_⟩
              | refine ⟨Or.inr ⟨rfl, (by first | exact Or.inl rfl | exact Or.inr rfl | assumption)⟩, ?_⟩
              | refine ⟨fun h => absurd h (by decide), fun _ => ?_⟩
              | refine ⟨fun _ => ?_, fun h => absurd h (by decide)⟩
              | refine ⟨fun h => ?_, fun h => ?_⟩
              | fail)
          · obtain ⟨z1, z2⟩ := y2 l
            have G5 : gF r μ (zu ν 69 0 r 0) := gF_r G4 (by decide)
            have hst : ∀ r', r' = r → zu ν 69 0 r' (vp_nar .boolean 0) = zu ν 69 0 r 0 := fun r' h => by rw [h]; rfl
            have hgo := S190 (cM (zu ν 69 0 r 0) (mX a n [97, 110, 100, 32] p1)) (mX a n [97, 110, 100, 32] p1) (gF_cM G5) cM_28 cM_29 (mX_ok h200 (by decide) ok1) (exC [97, 110, 100] (by decide) z1) (by rw [cM_o (by omega), zu_ne (by omega)]; exact u72) (fun z => ⟨by
              rw [cM_o (by omega), zu_eq, f2.2]
              have : p2.2 = -1 := by
                by_cases w : p2.2 = -1
                · exact w
                · rw [← f3, qB_ft w] at z
                  exact absurd z w
              rw [z2 this]
              rfl, by rw [f2.2]; split <;> simp⟩) (fun i e he => by
              have := ent4 i e he
              unfold tE at *
              rw [cM_o (by omega), cM_o (by omega), cM_o (by omega), cM_o (by omega), cM_o (by omega), zu_ne (by omega), zu_ne (by omega), zu_ne (by omega), zu_ne (by omega), zu_ne (by omega)]
              exact this)
            have ne0 : zu ν 69 0 r 0 69 0 (nI r).toNatClampNeg = 0 := by rw [cr, zu_eq]
            have e1 : zG S (d + 3) m_Mo_readTests K 153 [some (zR 48 0), some (zI (nI r)), some (zI 1)] [] (zu ν 69 0 r 0) := by
              repeat' (first
                | exact hgo
                | refine br_f hf4 ?_
                | refine br_t ne0 ?_
                | refine c_Mo_expect (cs := [97, 110, 100, 32]) (q := p1) (gF_E G5 E) u28 u29 ok1 rfl (by decide) (by decide) (by decide) ?_
                | (refine zs k_Mo_readTests rfl ?_; conv => whnf)
                | refine ⟨Nat.zero_lt_one, rfl, ?_⟩
                | refine ⟨rfl, ?_⟩
                | refine ⟨⟨Nat.zero_lt_one, rfl⟩, Nat.le_of_ble_eq_true rfl, ?_⟩
                | refine ⟨Nat.le_of_ble_eq_true rfl, Nat.le_of_ble_eq_true rfl, ?_⟩
                | refine ⟨(by first | exact Nat.zero_lt_one | assumption | omega), (by first | assumption | exact vp_in_nI (by omega) (by omega) | (unfold vp_in; decide)), ?_⟩
                | refine ⟨(by first | exact Nat.zero_lt_one | assumption | omega), rfl, ?_⟩
                | refine ⟨⟨(by first | exact Nat.zero_lt_one | assumption | omega), rfl⟩, Nat.le_of_ble_eq_true rfl, ?_⟩
                | refine ⟨(by first | exact Nat.zero_lt_one | assumption | omega), ?_⟩
                | refine ⟨Or.inl rfl, ?_⟩
                | refine ⟨Or.inr (Or.inl rfl), ?_⟩
                | refine ⟨Or.inr (Or.inr rfl), ?_⟩
                | refine ⟨Or.inr ⟨rfl, (by first | exact Or.inl rfl | exact Or.inr rfl | assumption)⟩, ?_⟩
                | refine ⟨fun h => absurd h (by decide), fun _ => ?_⟩
                | refine ⟨fun _ => ?_, fun h => absurd h (by decide)⟩
                | refine ⟨fun h => ?_, fun h => ?_⟩
                | fail)
            repeat' (first
              | (rw [hst _ cr]; exact e1)
              | refine br_f hf4 ?_
              | refine bn_f c1 ?_
              | refine c_Mo_letter E4 u28 (by omega) ?_
              | refine bn_t l ?_
              | (refine zs k_Mo_readTests rfl ?_; conv => whnf)
              | refine ⟨Nat.zero_lt_one, rfl, ?_⟩
              | refine ⟨rfl, ?_⟩
              | refine ⟨⟨Nat.zero_lt_one, rfl⟩, Nat.le_of_ble_eq_true rfl, ?_⟩
              | refine ⟨Nat.le_of_ble_eq_true rfl, Nat.le_of_ble_eq_true rfl, ?_⟩
              | refine ⟨(by first | exact Nat.zero_lt_one | assumption | omega), (by first | assumption | exact vp_in_nI (by omega) (by omega) | (unfold vp_in; decide)), ?_⟩
              | refine ⟨(by first | exact Nat.zero_lt_one | assumption | omega), rfl, ?_⟩
              | refine ⟨⟨(by first | exact Nat.zero_lt_one | assumption | omega), rfl⟩, Nat.le_of_ble_eq_true rfl, ?_⟩
              | refine ⟨(by first | exact Nat.zero_lt_one | assumption | omega), ?_⟩
              | refine ⟨Or.inl rfl, ?_⟩
              | refine ⟨Or.inr (Or.inl rfl), ?_⟩
              | refine ⟨Or.inr (Or.inr rfl), ?_⟩
              | refine ⟨Or.inr ⟨rfl, (by first | exact Or.inl rfl | exact Or.inr rfl | assumption)⟩, ?_⟩
              | refine ⟨fun h => absurd h (by decide), fun _ => ?_⟩
              | refine ⟨fun _ => ?_, fun h => absurd h (by decide)⟩
              | refine ⟨fun h => ?_, fun h => ?_⟩
              | fail)
        · have hk2 : ¬ k = 2 := by omega
          rw [if_neg hk2] at f2
          obtain ⟨f21, f22⟩ := f2
          have c1 : ¬ ν 72 0 (nI r).toNatClampNeg = 1 := by
            rw [cr, u72]
            exact fun z => absurd ((nI_eq (b := 1) (by omega) (by omega)).mp z) (by omega)
          rcases hany with h0 | h0
          · rw [if_pos h0] at f21
            have z1 := qW_1 (cs := [97, 110, 100]) (by omega) rfl (by show p1.1 + 3 < 2 ^ 31; omega) f21 eqQ_rf
            have hgo := S190 (cM ν (mX a n [97, 110, 100, 32] p1)) (mX a n [97, 110, 100, 32] p1) (gF_cM G4) cM_28 cM_29 (mX_ok h200 (by decide) ok1) (exC [97, 110, 100] (by decide) z1) (by rw [cM_o (by omega)]; exact u72) (fun _ => ⟨by rw [cM_o (by omega), f22]; exact u69, by rw [f22]; exact Or.inl h0⟩) ent4
            have ne0 : ν 69 0 (nI r).toNatClampNeg = 0 := by rw [cr, u69]; exact h0
            repeat' (first
              | exact hgo
              | refine br_f hf4 ?_
              | refine bn_t c1 ?_
              | refine br_t ne0 ?_
              | refine c_Mo_expect (cs := [97, 110, 100, 32]) (q := p1) E4 u28 u29 ok1 rfl (by decide) (by decide) (by decide) ?_
              | (refine zs k_Mo_readTests rfl ?_; conv => whnf)
              | refine ⟨Nat.zero_lt_one, rfl, ?_⟩
              | refine ⟨rfl, ?_⟩
              | refine ⟨⟨Nat.zero_lt_one, rfl⟩, Nat.le_of_ble_eq_true rfl, ?_⟩
              | refine ⟨Nat.le_of_ble_eq_true rfl, Nat.le_of_ble_eq_true rfl, ?_⟩
              | refine ⟨(by first | exact Nat.zero_lt_one | assumption | omega), (by first | assumption | exact vp_in_nI (by omega) (by omega) | (unfold vp_in; decide)), ?_⟩
              | refine ⟨(by first | exact Nat.zero_lt_one | assumption | omega), rfl, ?_⟩
              | refine ⟨⟨(by first | exact Nat.zero_lt_one | assumption | omega), rfl⟩, Nat.le_of_ble_eq_true rfl, ?_⟩
              | refine ⟨(by first | exact Nat.zero_lt_one | assumption | omega), ?_⟩
              | refine ⟨Or.inl rfl, ?_⟩
              | refine ⟨Or.inr (Or.inl rfl), ?_⟩
              | refine ⟨Or.inr (Or.inr rfl), ?_⟩
              | refine ⟨Or.inr ⟨rfl, (by first | exact Or.inl rfl | exact Or.inr rfl | assumption)⟩, ?_⟩
              | refine ⟨fun h => absurd h (by decide), fun _ => ?_⟩
              | refine ⟨fun _ => ?_, fun h => absurd h (by decide)⟩
              | refine ⟨fun h => ?_, fun h => ?_⟩
              | fail)
          · rw [if_neg (by rw [h0]; decide)] at f21
            have z1 := qW_1 (cs := [111, 114]) (by omega) rfl (by show p1.1 + 2 < 2 ^ 31; omega) f21 eqQ_rf
            have hgo := S190 (cM ν (mX a n [111, 114, 32] p1)) (mX a n [111, 114, 32] p1) (gF_cM G4) cM_28 cM_29 (mX_ok h200 (by decide) ok1) (exC [111, 114] (by decide) z1) (by rw [cM_o (by omega)]; exact u72) (fun _ => ⟨by rw [cM_o (by omega), f22]; exact u69, by rw [f22]; exact Or.inr h0⟩) ent4
            have ne0 : ¬ ν 69 0 (nI r).toNatClampNeg = 0 := by rw [cr, u69, h0]; decide
            repeat' (first
              | exact hgo
              | refine br_f hf4 ?_
              | refine bn_t c1 ?_
              | refine br_f ne0 ?_
              | refine c_Mo_expect (cs := [111, 114, 32]) (q := p1) E4 u28 u29 ok1 rfl (by decide) (by decide) (by decide) ?_
              | (refine zs k_Mo_readTests rfl ?_; conv => whnf)
              | refine ⟨Nat.zero_lt_one, rfl, ?_⟩
              | refine ⟨rfl, ?_⟩
              | refine ⟨⟨Nat.zero_lt_one, rfl⟩, Nat.le_of_ble_eq_true rfl, ?_⟩
              | refine ⟨Nat.le_of_ble_eq_true rfl, Nat.le_of_ble_eq_true rfl, ?_⟩
              | refine ⟨(by first | exact Nat.zero_lt_one | assumption | omega), (by first | assumption | exact vp_in_nI (by omega) (by omega) | (unfold vp_in; decide)), ?_⟩
              | refine ⟨(by first | exact Nat.zero_lt_one | assumption | omega), rfl, ?_⟩
              | refine ⟨⟨(by first | exact Nat.zero_lt_one | assumption | omega), rfl⟩, Nat.le_of_ble_eq_true rfl, ?_⟩
              | refine ⟨(by first | exact Nat.zero_lt_one | assumption | omega), ?_⟩
              | refine ⟨Or.inl rfl, ?_⟩
              | refine ⟨Or.inr (Or.inl rfl), ?_⟩
              | refine ⟨Or.inr (Or.inr rfl), ?_⟩
              | refine ⟨Or.inr ⟨rfl, (by first | exact Or.inl rfl | exact Or.inr rfl | assumption)⟩, ?_⟩
              | refine ⟨fun h => absurd h (by decide), fun _ => ?_⟩
              | refine ⟨fun _ => ?_, fun h => absurd h (by decide)⟩
              | refine ⟨fun h => ?_, fun h => ?_⟩
              | fail)
      repeat' (first
        | exact S112
        | refine bn_t c72 ?_
        | refine br_f hf2 ?_
        | (refine c_Mo_expect (cs := [32]) (q := q4) E2 t28 t29' ok4 rfl (by decide) (by decide) (by decide) ?_; rw [hX1])
        | (refine zs k_Mo_readTests rfl ?_; conv => whnf)
        | refine ⟨Nat.zero_lt_one, rfl, ?_⟩
        | refine ⟨rfl, ?_⟩
        | refine ⟨⟨Nat.zero_lt_one, rfl⟩, Nat.le_of_ble_eq_true rfl, ?_⟩
        | refine ⟨Nat.le_of_ble_eq_true rfl, Nat.le_of_ble_eq_true rfl, ?_⟩
        | refine ⟨(by first | exact Nat.zero_lt_one | assumption | omega), (by first | assumption | exact vp_in_nI (by omega) (by omega) | (unfold vp_in; decide)), ?_⟩
        | refine ⟨(by first | exact Nat.zero_lt_one | assumption | omega), rfl, ?_⟩
        | refine ⟨⟨(by first | exact Nat.zero_lt_one | assumption | omega), rfl⟩, Nat.le_of_ble_eq_true rfl, ?_⟩
        | refine ⟨(by first | exact Nat.zero_lt_one | assumption | omega), ?_⟩
        | refine ⟨Or.inl rfl, ?_⟩
        | refine ⟨Or.inr (Or.inl rfl), ?_⟩
        | refine ⟨Or.inr (Or.inr rfl), ?_⟩
        | refine ⟨Or.inr ⟨rfl, (by first | exact Or.inl rfl | exact Or.inr rfl | assumption)⟩, ?_⟩
        | refine ⟨fun h => absurd h (by decide), fun _ => ?_⟩
        | refine ⟨fun _ => ?_, fun h => absurd h (by decide)⟩
        | refine ⟨fun h => ?_, fun h => ?_⟩
        | fail)
  have okq : qOk q := ⟨by omega, Or.inl hq2⟩
  have hq1n : q1.1 ≤ n := by rw [← e1]; exact qB_le hqn
  have hq2n : q2.1 ≤ n := by have := qW_le (a := a) (n := n) (k := 4) (q := q1) (by omega) hq1n; rw [e2] at this; exact this
  have hq3n : q3.1 ≤ n := by rw [← e3]; exact qB_le hq2n
  have hX : eqQ q3 (mX a n [32, 105, 102, 32] q) := by
    have s1 : mX a n [32, 105, 102, 32] q = mX a n [32] (mX a n [105, 102] (mX a n [32] q)) := by
      rw [show ([32, 105, 102, 32] : List Int32) = ([32] ++ [105, 102]) ++ [32] from rfl, mX_app (by show q.1 + 3 < 2 ^ 31; omega), mX_app (by show q.1 + 1 < 2 ^ 31; omega)]
    rw [s1, ← e3]
    refine eqQ_B (qW_1 (by omega) rfl (by show q1.1 + 2 < 2 ^ 31; omega) e2 ?_)
    rw [← e1]
    exact eqQ_B eqQ_rf
  have okX : qOk (mX a n [32, 105, 102, 32] q) := mX_ok h200 (by decide) okq
  have GX : gF r μ (cM μ (mX a n [32, 105, 102, 32] q)) := gF_cM gF_rf
  have hend : zG S (d + 3) m_Mo_readTests K 7 [some (zR 48 0), some (zI (nI r)), none] [] (cM μ (mX a n [32, 105, 102, 32] q)) := by
    by_cases o3 : q3.2 = -1
    · have hXe := eqQ_1 hX o3
      rw [hXe] at GX ⊢
      have hf3 : ¬ 0 ≤ cM μ q3 48 0 29 := i32 _ (cM_29.trans o3)
      have hgo := L 3 0 0 any' q3 q4 q' t ts [] (cM μ q3) (by omega) o3 hq3n eT eL GX cM_28 (cM_29.trans o3) h72 h69 (Or.inl rfl) rfl (fun i e he => by simp at he) hK
      repeat' (first
        | exact hgo
        | refine br_f hf3 ?_
        | (refine zs k_Mo_readTests rfl ?_; conv => whnf)
        | refine ⟨Nat.zero_lt_one, rfl, ?_⟩
        | refine ⟨rfl, ?_⟩
        | refine ⟨⟨Nat.zero_lt_one, rfl⟩, Nat.le_of_ble_eq_true rfl, ?_⟩
        | refine ⟨Nat.le_of_ble_eq_true rfl, Nat.le_of_ble_eq_true rfl, ?_⟩
        | refine ⟨(by first | exact Nat.zero_lt_one | assumption | omega), (by first | assumption | exact vp_in_nI (by omega) (by omega) | (unfold vp_in; decide)), ?_⟩
        | refine ⟨(by first | exact Nat.zero_lt_one | assumption | omega), rfl, ?_⟩
        | refine ⟨⟨(by first | exact Nat.zero_lt_one | assumption | omega), rfl⟩, Nat.le_of_ble_eq_true rfl, ?_⟩
        | refine ⟨(by first | exact Nat.zero_lt_one | assumption | omega), ?_⟩
        | refine ⟨Or.inl rfl, ?_⟩
        | refine ⟨Or.inr (Or.inl rfl), ?_⟩
        | refine ⟨Or.inr (Or.inr rfl), ?_⟩
        | refine ⟨Or.inr ⟨rfl, (by first | exact Or.inl rfl | exact Or.inr rfl | assumption)⟩, ?_⟩
        | refine ⟨fun h => absurd h (by decide), fun _ => ?_⟩
        | refine ⟨fun _ => ?_, fun h => absurd h (by decide)⟩
        | refine ⟨fun h => ?_, fun h => ?_⟩
        | fail)
    · have h4 := qTR_ft o3 eT
      subst h4
      obtain ⟨h6, h7, h5⟩ := qLR_no (fun w => o3 w.1) eL
      have hnm : ¬ qMore n q' := fun w => o3 (by rw [← h5]; exact w.1)
      have hf3 : 0 ≤ cM μ (mX a n [32, 105, 102, 32] q) 48 0 29 := by
        rw [cM_29]
        rcases qOk_neg okX with ⟨z, -⟩ | ⟨-, z⟩
        · exact absurd (hX.1.symm.trans z) o3
        · exact z
      have hf3' := hf3
      rw [cM_29, hX.1] at hf3'
      have hk := hK _ q'.2 GX (Or.inr ⟨hnm, rfl⟩) (by rw [cM_29, hX.1, h5]) (fun _ => by rw [h5]; exact hf3') (fun z => absurd (by rw [← h5]; exact z) o3)
      repeat' (first
        | exact end0 _ hk
        | refine br_t hf3 ?_
        | (refine zs k_Mo_readTests rfl ?_; conv => whnf)
        | refine ⟨Nat.zero_lt_one, rfl, ?_⟩
        | refine ⟨rfl, ?_⟩
        | refine ⟨⟨Nat.zero_lt_one, rfl⟩, Nat.le_of_ble_eq_true rfl, ?_⟩
        | refine ⟨Nat.le_of_ble_eq_true rfl, Nat.le_of_ble_eq_true rfl, ?_⟩
        | refine ⟨(by first | exact Nat.zero_lt_one | assumption | omega), (by first | assumption | exact vp_in_nI (by omega) (by omega) | (unfold vp_in; decide)), ?_⟩
        | refine ⟨(by first | exact Nat.zero_lt_one | assumption | omega), rfl, ?_⟩
        | refine ⟨⟨(by first | exact Nat.zero_lt_one | assumption | omega), rfl⟩, Nat.le_of_ble_eq_true rfl, ?_⟩
        | refine ⟨(by first | exact Nat.zero_lt_one | assumption | omega), ?_⟩
        | refine ⟨Or.inl rfl, ?_⟩
        | refine ⟨Or.inr (Or.inl rfl), ?_⟩
        | refine ⟨Or.inr (Or.inr rfl), ?_⟩
        | refine ⟨Or.inr ⟨rfl, (by first | exact Or.inl rfl | exact Or.inr rfl | assumption)⟩, ?_⟩
        | refine ⟨fun h => absurd h (by decide), fun _ => ?_⟩
        | refine ⟨fun _ => ?_, fun h => absurd h (by decide)⟩
        | refine ⟨fun h => ?_, fun h => ?_⟩
        | fail)
  repeat' (first
    | exact hend
    | refine c_Mo_expect (cs := [32, 105, 102, 32]) (q := q) E h28 (h29.trans hq2.symm) okq rfl (by decide) (by decide) (by decide) ?_
    | (refine zs k_Mo_readTests rfl ?_; conv => whnf)
    | refine ⟨Nat.zero_lt_one, rfl, ?_⟩
    | refine ⟨rfl, ?_⟩
    | refine ⟨⟨Nat.zero_lt_one, rfl⟩, Nat.le_of_ble_eq_true rfl, ?_⟩
    | refine ⟨Nat.le_of_ble_eq_true rfl, Nat.le_of_ble_eq_true rfl, ?_⟩
    | refine ⟨(by first | exact Nat.zero_lt_one | assumption | omega), (by first | assumption | exact vp_in_nI (by omega) (by omega) | (unfold vp_in; decide)), ?_⟩
    | refine ⟨(by first | exact Nat.zero_lt_one | assumption | omega), rfl, ?_⟩
    | refine ⟨⟨(by first | exact Nat.zero_lt_one | assumption | omega), rfl⟩, Nat.le_of_ble_eq_true rfl, ?_⟩
    | refine ⟨(by first | exact Nat.zero_lt_one | assumption | omega), ?_⟩
    | refine ⟨Or.inl rfl, ?_⟩
    | refine ⟨Or.inr (Or.inl rfl), ?_⟩
    | refine ⟨Or.inr (Or.inr rfl), ?_⟩
    | refine ⟨Or.inr ⟨rfl, (by first | exact Or.inl rfl | exact Or.inr rfl | assumption)⟩, ?_⟩
    | refine ⟨fun h => absurd h (by decide), fun _ => ?_⟩
    | refine ⟨fun _ => ?_, fun h => absurd h (by decide)⟩
    | refine ⟨fun h => ?_, fun h => ?_⟩
    | fail)
/-! MODEL: the whole rule -/
theorem qW_st {a : Nat → Int32} {n k : Nat} {q q' : zQ} {v : Int32} (h : qW a n q k = (v, q')) (h1 : q'.2 = -1) : q.2 = -1 := by
  by_cases z : q.2 = -1
  · exact z
  · rw [qW_ft z] at h
    rw [← (Prod.mk.inj h).2] at h1
    exact h1
theorem qB_st {a : Nat → Int32} {n : Nat} {q q' : zQ} (h : qB a n q = q') (h1 : q'.2 = -1) : q.2 = -1 := by
  by_cases z : q.2 = -1
  · exact z
  · rw [qB_ft z] at h
    rw [← h] at h1
    exact h1
theorem qN_st {a : Nat → Int32} {n : Nat} {q q' : zQ} {v : Int32} (h : qN a n q = (v, q')) (h1 : q'.2 = -1) : q.2 = -1 := by
  by_cases z : q.2 = -1
  · exact z
  · rw [qN_ft z] at h
    rw [← (Prod.mk.inj h).2] at h1
    exact h1
/-- which word it was -/
theorem qW_ix {a : Nat → Int32} {n k : Nat} {q q' : zQ} {v : Int32} (hk : k < 13) (h : qW a n q k = (v, q')) (h1 : q'.2 = -1) (hq : q.1 ≤ 1000) (hs : ∀ w ∈ zWd.getD k [], w.length ≤ 10) : ∃ i, i < (zWd.getD k []).length ∧ v = nI i := by
  have h0 := qW_st h h1
  obtain ⟨at_, fl⟩ := q
  have h0 : fl = -1 := h0
  subst h0
  rw [qW_eq hk] at h
  cases hw : wL (fun j => pB a n (at_ + j)) (zWd.getD k []) 0 0 with
  | inl r =>
    rw [hw] at h
    obtain ⟨i, w, e1, e2, -⟩ := wL_hit hw
    refine ⟨i, (List.getElem?_eq_some_iff.mp e1).1, ?_⟩
    rw [← (Prod.mk.inj h).1, e2, Nat.zero_add]
  | inr L =>
    rw [hw] at h
    have h2 := (Prod.mk.inj h).2
    rw [← h2] at h1
    obtain ⟨-, b2, b3⟩ := wL_no hw
    have hL : L ≤ 10 := by
      rcases b3 with b3 | ⟨i, w, e1, e2⟩
      · omega
      · have := hs w (List.mem_of_getElem? e1)
        have := pfx_le (b := fun j => pB a n (at_ + j)) (w := w) (i := 0)
        omega
    have hq : at_ ≤ 1000 := hq
    exact absurd h1 (nI_nem1 (by omega))
def tOk (t : rT) : Prop := (t.1 = 0 ∨ t.1 = 1) ∧ (t.2.1 = 0 ∨ t.2.1 = 1) ∧ vp_in t.2.2.1 7
theorem zWd_s : ∀ k, k < 13 → ∀ w ∈ zWd.getD k [], w.length ≤ 10 := by decide +kernel
theorem qTR_ok {a : Nat → Int32} {n : Nat} {q q' : zQ} {t : rT} (hn : n ≤ 200) (hq : q.1 ≤ n) (hT : qTR a n q t q') (h1 : q'.2 = -1) : tOk t := by
  obtain ⟨w, q3, v4, q4, q5, q6, T0, tb, e4, e5, e6, e7⟩ := hT
  obtain ⟨v1, q1, T1, T2⟩ := T0
  have a1 : q1.1 ≤ n := by have := qW_le (a := a) (n := n) (k := 5) (q := q) (by omega) hq; rw [T1] at this; exact this
  have a3 : q3.1 ≤ n := by
    rcases T2 with ⟨-, -, c3⟩ | ⟨-, -, -, c4⟩
    · have := qW_le (a := a) (n := n) (k := 6) (q := qB a n q1) (by omega) (qB_le a1)
      rw [c3] at this
      exact this
    · rw [c4]
      exact a1
  have a4 : q4.1 ≤ n := by have := qW_le (a := a) (n := n) (k := 7) (q := q3) (by omega) a3; rw [e4] at this; exact this
  have h6 := qN_st e7 h1
  have h5 := qW_st e6 h6
  refine ⟨?_, ?_, ?_⟩
  · rcases T2 with ⟨-, c2, -⟩ | ⟨-, c2, -⟩
    · exact Or.inr c2
    · exact Or.inl c2
  · rw [tb]
    split
    · exact Or.inr rfl
    · exact Or.inl rfl
  · obtain ⟨i, hi, e⟩ := qW_ix (by omega) e5 h5 (by omega) (zWd_s 8 (by omega))
    rw [e]
    exact vp_in_nI hi (by omega)
theorem qLR_ok {a : Nat → Int32} {n : Nat} (hn : n ≤ 200) : ∀ {k : Nat} {any any' : Int32} {q q' : zQ} {ts : List rT}, q.1 ≤ n → qLR a n k any q ts any' q' → q'.2 = -1 → ∀ e ∈ ts, tOk e
  | 0, any, any', q, q', ts, hq, h, h1, e, he => by
    rw [h.1] at he
    cases he
  | k + 1, any, any', q, q', ts, hq, h, h1, e, he => by
    rcases h with h | ⟨-, p1, any1, w2, p2, p3, t', p4, ts', f1, f2, f3, fT, rfl, fL⟩
    · rw [h.2.1] at he
      cases he
    have b1 : p1.1 ≤ n := by rw [← f1]; exact qB_le hq
    have b2 : p2.1 ≤ n := by
      by_cases hk2 : k = 2
      · rw [if_pos hk2] at f2
        have := qW_le (a := a) (n := n) (k := 10) (q := p1) (by omega) b1
        rw [f2.1] at this
        exact this
      · rw [if_neg hk2] at f2
        have := qW_le (a := a) (n := n) (k := if any = 0 then 12 else 11) (q := p1) (by split <;> omega) b1
        rw [f2.1] at this
        exact this
    have b3 : p3.1 ≤ n := by rw [← f3]; exact qB_le b2
    have b4 := qTR_n b3 fT
    have o4 : p4.2 = -1 := by
      by_cases z : p4.2 = -1
      · exact z
      · obtain ⟨-, -, h5⟩ := qLR_no (fun w => z w.1) fL
        rw [h5] at h1
        exact h1
    rcases List.mem_cons.mp he with rfl | he
    · exact qTR_ok hn b3 fT o4
    · exact qLR_ok hn b4 fL h1 e he
theorem qLR_len {a : Nat → Int32} {n : Nat} : ∀ {k : Nat} {any any' : Int32} {q q' : zQ} {ts : List rT}, qLR a n k any q ts any' q' → ts.length ≤ k
  | 0, any, any', q, q', ts, h => by
    rw [h.1]
    exact Nat.le_refl _
  | k + 1, any, any', q, q', ts, h => by
    rcases h with h | ⟨-, p1, any1, w2, p2, p3, t', p4, ts', f1, f2, f3, fT, rfl, fL⟩
    · rw [h.2.1]
      exact Nat.zero_le _
    · have := qLR_len fL
      rw [List.length_cons]
      omega
/-- the rule's cells alone have changed -/
def hF (r : Nat) (μ μ' : zMu) : Prop := (∀ f, f ∉ [48, 66, 67, 68, 69, 72, 73, 74, 75, 76, 77] → μ' f = μ f) ∧ (∀ k, k ∉ [28, 29] → μ' 48 0 k = μ 48 0 k) ∧ (∀ f, f ∈ [66, 67, 68, 69, 72] → ∀ k, k ≠ r → μ' f 0 k = μ f 0 k) ∧ ∀ f, f ∈ [73, 74, 75, 76, 77] → ∀ k, ¬ (4 * r ≤ k ∧ k < 4 * r + 4) → μ' f 0 k = μ f 0 k
theorem hF_gF {r : Nat} {μ μ1 μ2 : zMu} (h : hF r μ μ1) (h2 : gF r μ1 μ2) : hF r μ μ2 := by
  refine ⟨fun f hf => ?_, fun k hk => (h2.2.1 k hk).trans (h.2.1 k hk), fun f hf k hk => ?_, fun f hf k hk => (h2.2.2.2 f hf k hk).trans (h.2.2.2 f hf k hk)⟩
  · rw [h2.1 f (fun q => hf (by simp only [List.mem_cons, List.not_mem_nil, or_false] at q ⊢; omega))]
    exact h.1 f hf
  · rw [← h.2.2.1 f hf k hk]
    by_cases e : f = 69 ∨ f = 72
    · exact h2.2.2.1 f (by simp only [List.mem_cons, List.not_mem_nil, or_false]; omega) k hk
    · rw [h2.1 f (fun q => by simp only [List.mem_cons, List.not_mem_nil, or_false] at q hf; omega)]
theorem hF_cM {r : Nat} {μ μ1 : zMu} {q : zQ} (h : hF r μ μ1) : hF r μ (cM μ1 q) := hF_gF h (gF_cM gF_rf)
theorem hF_r {r f : Nat} {μ μ1 : zMu} {x : Int32} (h : hF r μ μ1) (hf : f ∈ [66, 67, 68, 69, 72]) : hF r μ (zu μ1 f 0 r x) := by
  simp only [List.mem_cons, List.not_mem_nil, or_false] at hf
  refine ⟨fun g hg => ?_, fun k hk => ?_, fun g hg k hk => ?_, fun g hg k hk => ?_⟩
  · rw [← h.1 g hg]
    simp only [List.mem_cons, List.not_mem_nil, or_false, not_or] at hg
    funext i k
    exact zu_ne (by omega)
  · rw [← h.2.1 k hk]
    exact zu_ne (by omega)
  · rw [← h.2.2.1 g hg k hk]
    exact zu_ne (by omega)
  · rw [← h.2.2.2 g hg k hk]
    simp only [List.mem_cons, List.not_mem_nil, or_false] at hg
    exact zu_ne (by omega)
theorem hF_E {r n : Nat} {μ μ' : zMu} {a : Nat → Int32} (h : hF r μ μ') (E : mE μ a n) : mE μ' a n := by
  unfold mE gCs at *
  rw [h.2.1 14 (by decide), h.1 63 (by decide), h.1 80 (by decide), h.1 81 (by decide), h.1 82 (by decide)]
  exact E
theorem hF_rf {r : Nat} {μ : zMu} : hF r μ μ := ⟨fun _ _ => rfl, fun _ _ => rfl, fun _ _ _ _ => rfl, fun _ _ _ _ => rfl⟩
def ocR (oc m : Int32) : Prop := (oc = -1 ∧ m = 10) ∨ (0 ≤ oc ∧ oc ≤ 9 ∧ m = oc)
def upR (dn m : Int32) : Prop := (dn = 0 ∧ m = 1) ∨ (dn = 1 ∧ m = 0)
/-- the occasion -/
theorem w1_eq {a : Nat → Int32} {n : Nat} {q q' : zQ} {v : Int32} (hq : q.1 ≤ 1000) (o1 : q.2 = -1) (h : qW a n q 1 = (v, q')) : (pB a n q.1 = 42 → q' = (q.1 + 1, -1) ∧ v = 0) ∧ ((48 ≤ pB a n q.1 ∧ pB a n q.1 ≤ 57) → q' = (q.1 + 1, -1) ∧ v = pB a n q.1 - 47) ∧ (¬ pB a n q.1 = 42 → ¬ (48 ≤ pB a n q.1 ∧ pB a n q.1 ≤ 57) → q'.2 = nI q.1) := by
  obtain ⟨at_, fl⟩ := q
  have o1 : fl = -1 := o1
  subst o1
  rw [qW_eq (by omega)] at h
  have hw : zWd.getD 1 [] = [[42], [48], [49], [50], [51], [52], [53], [54], [55], [56], [57]] := rfl
  rw [hw] at h
  simp only [wL, wL_s, Nat.add_zero, List.length_singleton] at h
  show (pB a n at_ = 42 → q' = (at_ + 1, -1) ∧ v = 0) ∧ ((48 ≤ pB a n at_ ∧ pB a n at_ ≤ 57) → q' = (at_ + 1, -1) ∧ v = pB a n at_ - 47) ∧ (¬ pB a n at_ = 42 → ¬ (48 ≤ pB a n at_ ∧ pB a n at_ ≤ 57) → q'.2 = nI at_)
  refine ⟨fun e => ?_, fun e => ?_, fun e e2 => ?_⟩
  · simp [e] at h
    obtain ⟨rfl, rfl⟩ := h
    exact ⟨rfl, rfl⟩
  · obtain ⟨c, hc, ec⟩ := nI_of2 (x := pB a n at_) (M := 57) (n := 57) rfl (by grind) e.2
    have h48 : 48 ≤ c := (nI_leI (a := 48) (by omega) (by omega)).mp (by rw [← ec]; exact e.1)
    have : c = 48 ∨ c = 49 ∨ c = 50 ∨ c = 51 ∨ c = 52 ∨ c = 53 ∨ c = 54 ∨ c = 55 ∨ c = 56 ∨ c = 57 := by omega
    rcases this with rfl | rfl | rfl | rfl | rfl | rfl | rfl | rfl | rfl | rfl
    · have ec' : pB a n at_ = 48 := ec
      simp [ec'] at h
      obtain ⟨rfl, rfl⟩ := h
      exact ⟨rfl, by rw [ec']; decide⟩
    · have ec' : pB a n at_ = 49 := ec
      simp [ec'] at h
      obtain ⟨rfl, rfl⟩ := h
      exact ⟨rfl, by rw [ec']; decide⟩
    · have ec' : pB a n at_ = 50 := ec
      simp [ec'] at h
      obtain ⟨rfl, rfl⟩ := h
      exact ⟨rfl, by rw [ec']; decide⟩
    · have ec' : pB a n at_ = 51 := ec
      simp [ec'] at h
      obtain ⟨rfl, rfl⟩ := h
      exact ⟨rfl, by rw [ec']; decide⟩
    · have ec' : pB a n at_ = 52 := ec
      simp [ec'] at h
      obtain ⟨rfl, rfl⟩ := h
      exact ⟨rfl, by rw [ec']; decide⟩
    · have ec' : pB a n at_ = 53 := ec
      simp [ec'] at h
      obtain ⟨rfl, rfl⟩ := h
      exact ⟨rfl, by rw [ec']; decide⟩
    · have ec' : pB a n at_ = 54 := ec
      simp [ec'] at h
      obtain ⟨rfl, rfl⟩ := h
      exact ⟨rfl, by rw [ec']; decide⟩
    · have ec' : pB a n at_ = 55 := ec
      simp [ec'] at h
      obtain ⟨rfl, rfl⟩ := h
      exact ⟨rfl, by rw [ec']; decide⟩
    · have ec' : pB a n at_ = 56 := ec
      simp [ec'] at h
      obtain ⟨rfl, rfl⟩ := h
      exact ⟨rfl, by rw [ec']; decide⟩
    · have ec' : pB a n at_ = 57 := ec
      simp [ec'] at h
      obtain ⟨rfl, rfl⟩ := h
      exact ⟨rfl, by rw [ec']; decide⟩
  · have ne : ∀ c : Int32, 48 ≤ c → c ≤ 57 → ¬ pB a n at_ = c := fun c h1 h2 h3 => e2 (by rw [h3]; exact ⟨h1, h2⟩)
    simp only [e, ne 48 (by decide) (by decide), ne 49 (by decide) (by decide), ne 50 (by decide) (by decide), ne 51 (by decide) (by decide), ne 52 (by decide) (by decide), ne 53 (by decide) (by decide), ne 54 (by decide) (by decide), ne 55 (by decide) (by decide), ne 56 (by decide) (by decide), ne 57 (by decide) (by decide)] at h
    simp at h
    rw [← h.2]
theorem w3_eq {a : Nat → Int32} {n : Nat} {q1 q2 : zQ} {v2 : Int32} (hq : q1.1 ≤ 1000) (o1 : q1.2 = -1) (h : qW a n q1 3 = (v2, q2)) : (pB a n q1.1 = 117 → eqQ q2 (mX a n [117, 112] q1) ∧ (q2.2 = -1 → v2 = 0)) ∧ (¬ pB a n q1.1 = 117 → eqQ q2 (mX a n [100, 111, 119, 110] q1) ∧ (q2.2 = -1 → v2 = 1)) := by
  obtain ⟨at_, fl⟩ := q1
  have o1 : fl = -1 := o1
  subst o1
  have hq : at_ ≤ 1000 := hq
  rw [qW_eq (by omega)] at h
  have hw : zWd.getD 3 [] = [[117, 112], [100, 111, 119, 110]] := rfl
  rw [hw, wL, wL, wL] at h
  have X1 := mX_pfx (a := a) (n := n) (at_ := at_) (cs := [117, 112]) (i := 0)
  have X2 := mX_pfx (a := a) (n := n) (at_ := at_) (cs := [100, 111, 119, 110]) (i := 0)
  rw [Nat.add_zero] at X1 X2
  have l1' : pfx (fun j => pB a n (at_ + j)) [117, 112] 0 ≤ 2 := pfx_le
  have l2' : pfx (fun j => pB a n (at_ + j)) [100, 111, 119, 110] 0 ≤ 4 := pfx_le
  constructor
  · intro l
    have l : pB a n (at_ + 0) = 117 := l
    have p2 : pfx (fun j => pB a n (at_ + j)) [100, 111, 119, 110] 0 = 0 := by rw [pfx, if_neg (by rw [l]; decide)]
    rw [p2] at h
    rw [X1]
    by_cases e : pfx (fun j => pB a n (at_ + j)) [117, 112] 0 = ([117, 112] : List Int32).length
    · rw [if_pos e] at h ⊢
      obtain ⟨rfl, rfl⟩ := Prod.mk.inj h
      exact ⟨eqQ_rf, fun _ => rfl⟩
    · rw [if_neg e] at h ⊢
      rw [if_neg (show ¬ 0 = ([100, 111, 119, 110] : List Int32).length by decide)] at h
      obtain ⟨rfl, rfl⟩ := Prod.mk.inj h
      have e2 : (if (if 0 < pfx (fun j => pB a n (at_ + j)) [117, 112] 0 then pfx (fun j => pB a n (at_ + j)) [117, 112] 0 else 0) < 0 then 0 else (if 0 < pfx (fun j => pB a n (at_ + j)) [117, 112] 0 then pfx (fun j => pB a n (at_ + j)) [117, 112] 0 else 0)) = pfx (fun j => pB a n (at_ + j)) [117, 112] 0 := by
        rw [if_neg (by omega)]
        split <;> omega
      rw [e2]
      exact ⟨⟨rfl, fun z => absurd z (nI_nem1 (by omega))⟩, fun z => absurd z (nI_nem1 (by omega))⟩
  · intro l
    have l : ¬ pB a n (at_ + 0) = 117 := l
    have p1 : pfx (fun j => pB a n (at_ + j)) [117, 112] 0 = 0 := by rw [pfx, if_neg l]
    rw [p1, if_neg (show ¬ 0 = ([117, 112] : List Int32).length by decide)] at h
    rw [X2]
    by_cases e : pfx (fun j => pB a n (at_ + j)) [100, 111, 119, 110] 0 = ([100, 111, 119, 110] : List Int32).length
    · rw [if_pos e] at h ⊢
      obtain ⟨rfl, rfl⟩ := Prod.mk.inj h
      exact ⟨eqQ_rf, fun _ => rfl⟩
    · rw [if_neg e] at h ⊢
      obtain ⟨rfl, rfl⟩ := Prod.mk.inj h
      have e2 : (if (if 0 < 0 then 0 else 0) < pfx (fun j => pB a n (at_ + j)) [100, 111, 119, 110] 0 then pfx (fun j => pB a n (at_ + j)) [100, 111, 119, 110] 0 else (if 0 < 0 then 0 else 0)) = pfx (fun j => pB a n (at_ + j)) [100, 111, 119, 110] 0 := by
        simp only [Nat.lt_irrefl, if_false]
        split <;> omega
      rw [e2]
      exact ⟨⟨rfl, fun z => absurd z (nI_nem1 (by omega))⟩, fun z => absurd z (nI_nem1 (by omega))⟩
def rdR (μ : zMu) (r : Nat) (oc ky dn : Int32) (ts : List rT) (any : Int32) : Prop := ocR oc (μ 66 0 r) ∧ μ 67 0 r = ky ∧ vp_in ky 7 ∧ upR dn (μ 68 0 r) ∧ μ 72 0 r = nI ts.length ∧ ts.length ≤ 4 ∧ μ 69 0 r = any ∧ (any = 0 ∨ any = 1) ∧ (ts = [] → any = 0) ∧ (∀ i e, ts[i]? = some e → tE μ (4 * r + i) e) ∧ ∀ e ∈ ts, tOk e
set_option maxHeartbeats 4000000 in
theorem c_Mo_read {d n r at_ : Nat} {μ : zMu} {a : Nat → Int32} {oc ky dn any fl x : Int32} {ts : List rT} {K : Option zV → zMu → Prop} (E : mE μ a n) (hr : r < 16) (hx : x = nI r) (hR : qRR a n oc ky dn ts any at_ fl)
    (hK : ∀ μ', hF r μ μ' → μ' 48 0 29 = fl → (¬ fl = -1 → 0 ≤ fl) → (fl = -1 → rdR μ' r oc ky dn ts any) → K none μ') : Ct (d + 4) m_Mo_read [zR 48 0, zI x] μ K := by
  subst hx
  refine zmeet rfl (Nat.le_of_ble_eq_true rfl) (fun S => ?_)
  have h200 := E.2.1
  have cr : (nI r).toNatClampNeg = r := nI_clamp (by omega)
  have vr : vp_in (nI r) 16 := vp_in_nI hr (by omega)
  have i32 : ∀ z : Int32, z = -1 → ¬ 0 ≤ z := fun z h => by rw [h]; decide
  obtain ⟨qh, qe, ⟨v1, q1, q2, v3, q3, q4, q5, q6, v7, e1, e2, e3, eoc, e4, e5, e6, e7, edn⟩, hTs, -, hfl⟩ := hR
  have n1 : q1.1 ≤ n := by have := qW_le (a := a) (n := n) (k := 0) (q := (0, -1)) (by omega) (Nat.zero_le n); rw [e1] at this; exact this
  have n2 : q2.1 ≤ n := by rw [← e2]; exact qB_le n1
  have n3 : q3.1 ≤ n := by have := qW_le (a := a) (n := n) (k := 1) (q := q2) (by omega) n2; rw [e3] at this; exact this
  have n4 : q4.1 ≤ n := by rw [← e4]; exact qB_le n3
  have n5 : q5.1 ≤ n := by have := qW_le (a := a) (n := n) (k := 2) (q := q4) (by omega) n4; rw [e5] at this; exact this
  have n6 : q6.1 ≤ n := by rw [← e6]; exact qB_le n5
  have n7 : qh.1 ≤ n := by have := qW_le (a := a) (n := n) (k := 3) (q := q6) (by omega) n6; rw [e7] at this; exact this
  have fge : ∀ {q qm : zQ} {μ1 : zMu}, qOk qm → eqQ q qm → μ1 48 0 29 = qm.2 → ¬ q.2 = -1 → 0 ≤ μ1 48 0 29 := fun {q qm μ1} ho he s29 o => by
    rw [s29]
    rcases qOk_neg ho with ⟨z, -⟩ | ⟨-, z⟩
    · exact absurd (he.1.symm.trans z) o
    · exact z
  -- the tests
  have S7 : ∀ (μ1 : zMu) (qm : zQ), hF r μ μ1 → μ1 48 0 28 = nI qm.1 → μ1 48 0 29 = qm.2 → qOk qm → eqQ qh qm → μ1 72 0 r = 0 → μ1 69 0 r = 0 → (qh.2 = -1 → ocR oc (μ1 66 0 r) ∧ μ1 67 0 r = ky ∧ vp_in ky 7 ∧ upR dn (μ1 68 0 r)) → zG S (d + 4) m_Mo_read K 197 [some (zR 48 0), some (zI (nI r))] [] μ1 := by
    intro μ1 qm F s28 s29 ho he s72 s69 vals
    by_cases o1 : qh.2 = -1
    case neg =>
      have hf := fge ho he s29 o1
      have hnm : ¬ qMore n qh := fun z => o1 z.1
      rcases hTs with ⟨-, h2, h3, h4⟩ | ⟨hm, -⟩
      case inr => exact absurd hm hnm
      subst h4
      have hfl' : fl = qe.2 := by
        rcases hfl with ⟨hm, -⟩ | ⟨-, e⟩
        · exact absurd hm hnm
        · exact e
      have hk := hK μ1 F (by rw [s29, he.1, hfl']) (fun _ => by rw [hfl', ← he.1, ← s29]; exact hf) (fun z => absurd (by rw [← hfl']; exact z) o1)
      repeat' (first
        | exact hk
        | refine br_t hf ?_
        | (refine zs k_Mo_read rfl ?_; conv => whnf)
        | refine ⟨Nat.zero_lt_one, rfl, ?_⟩
        | refine ⟨rfl, ?_⟩
        | refine ⟨⟨Nat.zero_lt_one, rfl⟩, Nat.le_of_ble_eq_true rfl, ?_⟩
        | refine ⟨Nat.le_of_ble_eq_true rfl, Nat.le_of_ble_eq_true rfl, ?_⟩
        | refine ⟨(by first | exact Nat.zero_lt_one | assumption | omega), (by first | assumption | exact vp_in_nI (by omega) (by omega) | (unfold vp_in; decide)), ?_⟩
        | refine ⟨(by first | exact Nat.zero_lt_one | assumption | omega), rfl, ?_⟩
        | refine ⟨⟨(by first | exact Nat.zero_lt_one | assumption | omega), rfl⟩, Nat.le_of_ble_eq_true rfl, ?_⟩
        | refine ⟨(by first | exact Nat.zero_lt_one | assumption | omega), ?_⟩
        | refine ⟨Or.inl rfl, ?_⟩
        | refine ⟨Or.inr (Or.inl rfl), ?_⟩
        | refine ⟨Or.inr (Or.inr rfl), ?_⟩
        | refine ⟨Or.inr ⟨rfl, (by first | exact Or.inl rfl | exact Or.inr rfl | assumption)⟩, ?_⟩
        | refine ⟨fun h => absurd h (by decide), fun _ => ?_⟩
        | refine ⟨fun _ => ?_, fun h => absurd h (by decide)⟩
        | refine ⟨fun h => ?_, fun h => ?_⟩
        | fail)
    obtain rfl := (eqQ_1 he o1).symm
    obtain ⟨w1, w2, w3, w4⟩ := vals o1
    have hf : ¬ 0 ≤ μ1 48 0 29 := i32 _ (s29.trans o1)
    have E1 := hF_E F E
    by_cases hm : qMore n qh
    case neg =>
      rcases hTs with ⟨-, h2, h3, h4⟩ | ⟨hm', -⟩
      case inr => exact absurd hm' hm
      subst h4
      have hfl' : fl = -1 := by
        rcases hfl with ⟨hm', -⟩ | ⟨-, e⟩
        · exact absurd hm' hm
        · exact e.trans o1
      have hge : μ1 48 0 14 ≤ μ1 48 0 28 := by
        rw [E1.1, s28]
        refine nI_le ?_ (by omega)
        rcases Nat.lt_or_ge qe.1 n with z | z
        · exact absurd ⟨o1, z⟩ hm
        · exact z
      have hk := hK μ1 F (by rw [s29, o1, hfl']) (fun z => absurd hfl' z) (fun _ => ⟨w1, w2, w3, w4, by rw [s72, h2]; rfl, by rw [h2]; decide, by rw [s69, h3], Or.inl h3, fun _ => h3, fun i e hi => by rw [h2] at hi; simp at hi, fun e hi => by rw [h2] at hi; cases hi⟩)
      repeat' (first
        | exact hk
        | refine br_f hf ?_
        | refine br_t hge ?_
        | (refine zs k_Mo_read rfl ?_; conv => whnf)
        | refine ⟨Nat.zero_lt_one, rfl, ?_⟩
        | refine ⟨rfl, ?_⟩
        | refine ⟨⟨Nat.zero_lt_one, rfl⟩, Nat.le_of_ble_eq_true rfl, ?_⟩
        | refine ⟨Nat.le_of_ble_eq_true rfl, Nat.le_of_ble_eq_true rfl, ?_⟩
        | refine ⟨(by first | exact Nat.zero_lt_one | assumption | omega), (by first | assumption | exact vp_in_nI (by omega) (by omega) | (unfold vp_in; decide)), ?_⟩
        | refine ⟨(by first | exact Nat.zero_lt_one | assumption | omega), rfl, ?_⟩
        | refine ⟨⟨(by first | exact Nat.zero_lt_one | assumption | omega), rfl⟩, Nat.le_of_ble_eq_true rfl, ?_⟩
        | refine ⟨(by first | exact Nat.zero_lt_one | assumption | omega), ?_⟩
        | refine ⟨Or.inl rfl, ?_⟩
        | refine ⟨Or.inr (Or.inl rfl), ?_⟩
        | refine ⟨Or.inr (Or.inr rfl), ?_⟩
        | refine ⟨Or.inr ⟨rfl, (by first | exact Or.inl rfl | exact Or.inr rfl | assumption)⟩, ?_⟩
        | refine ⟨fun h => absurd h (by decide), fun _ => ?_⟩
        | refine ⟨fun _ => ?_, fun h => absurd h (by decide)⟩
        | refine ⟨fun h => ?_, fun h => ?_⟩
        | fail)
    rcases hTs with ⟨hm', -⟩ | ⟨-, u2, p1, p2, p3, p4, t, ts', f1, f2, f3, fT, fL, hts⟩
    · exact absurd hm hm'
    have hlt : ¬ μ1 48 0 14 ≤ μ1 48 0 28 := by rw [E1.1, s28]; exact nI_ge hm.2 (by omega)
    have m1 : p1.1 ≤ n := by rw [← f1]; exact qB_le n7
    have m2 : p2.1 ≤ n := by have := qW_le (a := a) (n := n) (k := 4) (q := p1) (by omega) m1; rw [f2] at this; exact this
    have m3 : p3.1 ≤ n := by rw [← f3]; exact qB_le m2
    have m4 := qTR_n m3 fT
    have hgo : ∀ (μ2 : zMu) (fl2 : Int32), gF r μ1 μ2 → ((qMore n qe ∧ fl2 = nI qe.1) ∨ (¬ qMore n qe ∧ fl2 = qe.2)) → μ2 48 0 29 = fl2 → (fl2 = -1 → μ2 72 0 r = nI (t :: ts').length ∧ (t :: ts').length ≤ 4 ∧ μ2 69 0 r = any ∧ (any = 0 ∨ any = 1) ∧ ∀ i e, (t :: ts')[i]? = some e → tE μ2 (4 * r + i) e) → (¬ fl2 = -1 → 0 ≤ fl2) → K none μ2 := fun μ2 fl2 G2 c1 c2 c3 c4 => by
      have hfe : fl = fl2 := by
        rcases hfl with ⟨x1, x2⟩ | ⟨x1, x2⟩
        · rcases c1 with ⟨y1, y2⟩ | ⟨y1, y2⟩
          · rw [x2, y2]
          · exact absurd x1 y1
        · rcases c1 with ⟨y1, y2⟩ | ⟨y1, y2⟩
          · exact absurd y1 x1
          · rw [x2, y2]
      subst hfe
      refine hK μ2 (hF_gF F G2) c2 c4 (fun z => ?_)
      obtain ⟨k1, k2, k3, k4, k5⟩ := c3 z
      have g66 : ∀ f, f ∉ [48, 69, 72, 73, 74, 75, 76, 77] → μ2 f = μ1 f := G2.1
      have oe : qe.2 = -1 := by
        rcases c1 with ⟨y1, y2⟩ | ⟨y1, y2⟩
        · exact y1.1
        · rw [← y2]
          exact z
      have o4 : p4.2 = -1 := by
        by_cases w : p4.2 = -1
        · exact w
        · obtain ⟨-, -, h5⟩ := qLR_no (fun v => w v.1) fL
          rw [h5] at oe
          exact oe
      unfold rdR
      rw [g66 66 (by decide), g66 67 (by decide), g66 68 (by decide), hts]
      exact ⟨w1, w2, w3, w4, k1, k2, k3, k4, (fun h => by cases h), k5, (fun e he => by
        rcases List.mem_cons.mp he with rfl | he
        · exact qTR_ok h200 m3 fT o4
        · exact qLR_ok h200 m4 fL oe e he)⟩
    repeat' (first
      | refine br_f hf ?_
      | refine br_f hlt ?_
      | refine c_Mo_readTests (q := qh) (q1 := p1) (q2 := p2) (q3 := p3) (q4 := p4) (q' := qe) (t := t) (ts := ts') (any' := any) (v2 := u2) E1 s28 (s29.trans o1) o1 n7 rfl hr s72 s69 f1 f2 f3 fT fL (fun μ2 fl2 G2 c1 c2 c2b c3 => ?_)
      | exact hgo μ2 fl2 G2 c1 c2 c3 c2b
      | (refine zs k_Mo_read rfl ?_; conv => whnf)
      | refine ⟨Nat.zero_lt_one, rfl, ?_⟩
      | refine ⟨rfl, ?_⟩
      | refine ⟨⟨Nat.zero_lt_one, rfl⟩, Nat.le_of_ble_eq_true rfl, ?_⟩
      | refine ⟨Nat.le_of_ble_eq_true rfl, Nat.le_of_ble_eq_true rfl, ?_⟩
      | refine ⟨(by first | exact Nat.zero_lt_one | assumption | omega), (by first | assumption | exact vp_in_nI (by omega) (by omega) | (unfold vp_in; decide)), ?_⟩
      | refine ⟨(by first | exact Nat.zero_lt_one | assumption | omega), rfl, ?_⟩
      | refine ⟨⟨(by first | exact Nat.zero_lt_one | assumption | omega), rfl⟩, Nat.le_of_ble_eq_true rfl, ?_⟩
      | refine ⟨(by first | exact Nat.zero_lt_one | assumption | omega), ?_⟩
      | refine ⟨Or.inl rfl, ?_⟩
      | refine ⟨Or.inr (Or.inl rfl), ?_⟩
      | refine ⟨Or.inr (Or.inr rfl), ?_⟩
      | refine ⟨Or.inr ⟨rfl, (by first | exact Or.inl rfl | exact Or.inr rfl | assumption)⟩, ?_⟩
      | refine ⟨fun h => absurd h (by decide), fun _ => ?_⟩
      | refine ⟨fun _ => ?_, fun h => absurd h (by decide)⟩
      | refine ⟨fun h => ?_, fun h => ?_⟩
      | fail)
  -- up or down
  have S6 : ∀ (μ1 : zMu) (qm : zQ), hF r μ μ1 → μ1 48 0 28 = nI qm.1 → μ1 48 0 29 = qm.2 → qOk qm → eqQ q6 qm → μ1 72 0 r = 0 → μ1 69 0 r = 0 → (q6.2 = -1 → ocR oc (μ1 66 0 r) ∧ μ1 67 0 r = ky ∧ vp_in ky 7) → zG S (d + 4) m_Mo_read K 143 [some (zR 48 0), some (zI (nI r))] [] μ1 := by
    intro μ1 qm F s28 s29 ho he s72 s69 vals
    by_cases o1 : q6.2 = -1
    case neg =>
      have hf := fge ho he s29 o1
      rw [qW_ft o1] at e7
      have e72 := (Prod.mk.inj e7).2
      have hgo := S7 μ1 qm F s28 s29 ho (by rw [← e72]; exact he) s72 s69 (fun z => absurd (by rw [e72]; exact z) o1)
      repeat' (first
        | exact hgo
        | refine br_t hf ?_
        | (refine zs k_Mo_read rfl ?_; conv => whnf)
        | refine ⟨Nat.zero_lt_one, rfl, ?_⟩
        | refine ⟨rfl, ?_⟩
        | refine ⟨⟨Nat.zero_lt_one, rfl⟩, Nat.le_of_ble_eq_true rfl, ?_⟩
        | refine ⟨Nat.le_of_ble_eq_true rfl, Nat.le_of_ble_eq_true rfl, ?_⟩
        | refine ⟨(by first | exact Nat.zero_lt_one | assumption | omega), (by first | assumption | exact vp_in_nI (by omega) (by omega) | (unfold vp_in; decide)), ?_⟩
        | refine ⟨(by first | exact Nat.zero_lt_one | assumption | omega), rfl, ?_⟩
        | refine ⟨⟨(by first | exact Nat.zero_lt_one | assumption | omega), rfl⟩, Nat.le_of_ble_eq_true rfl, ?_⟩
        | refine ⟨(by first | exact Nat.zero_lt_one | assumption | omega), ?_⟩
        | refine ⟨Or.inl rfl, ?_⟩
        | refine ⟨Or.inr (Or.inl rfl), ?_⟩
        | refine ⟨Or.inr (Or.inr rfl), ?_⟩
        | refine ⟨Or.inr ⟨rfl, (by first | exact Or.inl rfl | exact Or.inr rfl | assumption)⟩, ?_⟩
        | refine ⟨fun h => absurd h (by decide), fun _ => ?_⟩
        | refine ⟨fun _ => ?_, fun h => absurd h (by decide)⟩
        | refine ⟨fun h => ?_, fun h => ?_⟩
        | fail)
    obtain rfl := (eqQ_1 he o1).symm
    obtain ⟨w1, w2, w3⟩ := vals o1
    have hf : ¬ 0 ≤ μ1 48 0 29 := i32 _ (s29.trans o1)
    have E1 := hF_E F E
    obtain ⟨y1, y2⟩ := w3_eq (by omega) o1 e7
    by_cases l : pB a n q6.1 = 117
    · obtain ⟨z1, z2⟩ := y1 l
      have F2 : hF r μ (zu μ1 68 0 r 1) := hF_r F (by decide)
      have hst : ∀ r', r' = r → zu μ1 68 0 r' (vp_nar .boolean 1) = zu μ1 68 0 r 1 := fun r' h => by rw [h]; rfl
      have hgo := S7 (cM (zu μ1 68 0 r 1) (mX a n [117, 112] q6)) (mX a n [117, 112] q6) (hF_cM F2) cM_28 cM_29 (mX_ok h200 (by decide) ho) z1 s72 s69 (fun z => ⟨w1, w2, w3, Or.inl ⟨by rw [edn, z2 z]; rfl, by rw [cM_o (by omega), zu_eq]⟩⟩)
      have ne0 : ¬ zu μ1 68 0 r 1 68 0 (nI r).toNatClampNeg = 0 := by rw [cr, zu_eq]; decide
      have e1' : zG S (d + 4) m_Mo_read K 170 [some (zR 48 0), some (zI (nI r))] [] (zu μ1 68 0 r 1) := by
        repeat' (first
          | exact hgo
          | refine br_f ne0 ?_
          | refine c_Mo_expect (cs := [117, 112]) (q := q6) (hF_E F2 E) s28 s29 ho rfl (by decide) (by decide) (by decide) ?_
          | (refine zs k_Mo_read rfl ?_; conv => whnf)
          | refine ⟨Nat.zero_lt_one, rfl, ?_⟩
          | refine ⟨rfl, ?_⟩
          | refine ⟨⟨Nat.zero_lt_one, rfl⟩, Nat.le_of_ble_eq_true rfl, ?_⟩
          | refine ⟨Nat.le_of_ble_eq_true rfl, Nat.le_of_ble_eq_true rfl, ?_⟩
          | refine ⟨(by first | exact Nat.zero_lt_one | assumption | omega), (by first | assumption | exact vp_in_nI (by omega) (by omega) | (unfold vp_in; decide)), ?_⟩
          | refine ⟨(by first | exact Nat.zero_lt_one | assumption | omega), rfl, ?_⟩
          | refine ⟨⟨(by first | exact Nat.zero_lt_one | assumption | omega), rfl⟩, Nat.le_of_ble_eq_true rfl, ?_⟩
          | refine ⟨(by first | exact Nat.zero_lt_one | assumption | omega), ?_⟩
          | refine ⟨Or.inl rfl, ?_⟩
          | refine ⟨Or.inr (Or.inl rfl), ?_⟩
          | refine ⟨Or.inr (Or.inr rfl), ?_⟩
          | refine ⟨Or.inr ⟨rfl, (by first | exact Or.inl rfl | exact Or.inr rfl | assumption)⟩, ?_⟩
          | refine ⟨fun h => absurd h (by decide), fun _ => ?_⟩
          | refine ⟨fun _ => ?_, fun h => absurd h (by decide)⟩
          | refine ⟨fun h => ?_, fun h => ?_⟩
          | fail)
      repeat' (first
        | (rw [hst _ cr]; exact e1')
        | refine br_f hf ?_
        | refine c_Mo_letter E1 s28 (by omega) ?_
        | refine bn_f l ?_
        | (refine zs k_Mo_read rfl ?_; conv => whnf)
        | refine ⟨Nat.zero_lt_one, rfl, ?_⟩
        | refine ⟨rfl, ?_⟩
        | refine ⟨⟨Nat.zero_lt_one, rfl⟩, Nat.le_of_ble_eq_true rfl, ?_⟩
        | refine ⟨Nat.le_of_ble_eq_true rfl, Nat.le_of_ble_eq_true rfl, ?_⟩
        | refine ⟨(by first | exact Nat.zero_lt_one | assumption | omega), (by first | assumption | exact vp_in_nI (by omega) (by omega) | (unfold vp_in; decide)), ?_⟩
        | refine ⟨(by first | exact Nat.zero_lt_one | assumption | omega), rfl, ?_⟩
        | refine ⟨⟨(by first | exact Nat.zero_lt_one | assumption | omega), rfl⟩, Nat.le_of_ble_eq_true rfl, ?_⟩
        | refine ⟨(by first | exact Nat.zero_lt_one | assumption | omega), ?_⟩
        | refine ⟨Or.inl rfl, ?_⟩
        | refine ⟨Or.inr (Or.inl rfl), ?_⟩
        | refine ⟨Or.inr (Or.inr rfl), ?_⟩
        | refine ⟨Or.inr ⟨rfl, (by first | exact Or.inl rfl | exact Or.inr rfl | assumption)⟩, ?_⟩
        | refine ⟨fun h => absurd h (by decide), fun _ => ?_⟩
        | refine ⟨fun _ => ?_, fun h => absurd h (by decide)⟩
        | refine ⟨fun h => ?_, fun h => ?_⟩
        | fail)
    · obtain ⟨z1, z2⟩ := y2 l
      have F2 : hF r μ (zu μ1 68 0 r 0) := hF_r F (by decide)
      have hst : ∀ r', r' = r → zu μ1 68 0 r' (vp_nar .boolean 0) = zu μ1 68 0 r 0 := fun r' h => by rw [h]; rfl
      have hgo := S7 (cM (zu μ1 68 0 r 0) (mX a n [100, 111, 119, 110] q6)) (mX a n [100, 111, 119, 110] q6) (hF_cM F2) cM_28 cM_29 (mX_ok h200 (by decide) ho) z1 s72 s69 (fun z => ⟨w1, w2, w3, Or.inr ⟨by rw [edn, z2 z]; rfl, by rw [cM_o (by omega), zu_eq]⟩⟩)
      have ne0 : zu μ1 68 0 r 0 68 0 (nI r).toNatClampNeg = 0 := by rw [cr, zu_eq]
      have e1' : zG S (d + 4) m_Mo_read K 170 [some (zR 48 0), some (zI (nI r))] [] (zu μ1 68 0 r 0) := by
        repeat' (first
          | exact hgo
          | refine br_t ne0 ?_
          | refine c_Mo_expect (cs := [100, 111, 119, 110]) (q := q6) (hF_E F2 E) s28 s29 ho rfl (by decide) (by decide) (by decide) ?_
          | (refine zs k_Mo_read rfl ?_; conv => whnf)
          | refine ⟨Nat.zero_lt_one, rfl, ?_⟩
          | refine ⟨rfl, ?_⟩
          | refine ⟨⟨Nat.zero_lt_one, rfl⟩, Nat.le_of_ble_eq_true rfl, ?_⟩
          | refine ⟨Nat.le_of_ble_eq_true rfl, Nat.le_of_ble_eq_true rfl, ?_⟩
          | refine ⟨(by first | exact Nat.zero_lt_one | assumption | omega), (by first | assumption | exact vp_in_nI (by omega) (by omega) | (unfold vp_in; decide)), ?_⟩
          | refine ⟨(by first | exact Nat.zero_lt_one | assumption | omega), rfl, ?_⟩
          | refine ⟨⟨(by first | exact Nat.zero_lt_one | assumption | omega), rfl⟩, Nat.le_of_ble_eq_true rfl, ?_⟩
          | refine ⟨(by first | exact Nat.zero_lt_one | assumption | omega), ?_⟩
          | refine ⟨Or.inl rfl, ?_⟩
          | refine ⟨Or.inr (Or.inl rfl), ?_⟩
          | refine ⟨Or.inr (Or.inr rfl), ?_⟩
          | refine ⟨Or.inr ⟨rfl, (by first | exact Or.inl rfl | exact Or.inr rfl | assumption)⟩, ?_⟩
          | refine ⟨fun h => absurd h (by decide), fun _ => ?_⟩
          | refine ⟨fun _ => ?_, fun h => absurd h (by decide)⟩
          | refine ⟨fun h => ?_, fun h => ?_⟩
          | fail)
      repeat' (first
        | (rw [hst _ cr]; exact e1')
        | refine br_f hf ?_
        | refine c_Mo_letter E1 s28 (by omega) ?_
        | refine bn_t l ?_
        | (refine zs k_Mo_read rfl ?_; conv => whnf)
        | refine ⟨Nat.zero_lt_one, rfl, ?_⟩
        | refine ⟨rfl, ?_⟩
        | refine ⟨⟨Nat.zero_lt_one, rfl⟩, Nat.le_of_ble_eq_true rfl, ?_⟩
        | refine ⟨Nat.le_of_ble_eq_true rfl, Nat.le_of_ble_eq_true rfl, ?_⟩
        | refine ⟨(by first | exact Nat.zero_lt_one | assumption | omega), (by first | assumption | exact vp_in_nI (by omega) (by omega) | (unfold vp_in; decide)), ?_⟩
        | refine ⟨(by first | exact Nat.zero_lt_one | assumption | omega), rfl, ?_⟩
        | refine ⟨⟨(by first | exact Nat.zero_lt_one | assumption | omega), rfl⟩, Nat.le_of_ble_eq_true rfl, ?_⟩
        | refine ⟨(by first | exact Nat.zero_lt_one | assumption | omega), ?_⟩
        | refine ⟨Or.inl rfl, ?_⟩
        | refine ⟨Or.inr (Or.inl rfl), ?_⟩
        | refine ⟨Or.inr (Or.inr rfl), ?_⟩
        | refine ⟨Or.inr ⟨rfl, (by first | exact Or.inl rfl | exact Or.inr rfl | assumption)⟩, ?_⟩
        | refine ⟨fun h => absurd h (by decide), fun _ => ?_⟩
        | refine ⟨fun _ => ?_, fun h => absurd h (by decide)⟩
        | refine ⟨fun h => ?_, fun h => ?_⟩
        | fail)
  have S5 : ∀ (μ1 : zMu) (qm : zQ), hF r μ μ1 → μ1 48 0 28 = nI qm.1 → μ1 48 0 29 = qm.2 → qOk qm → eqQ q5 qm → μ1 72 0 r = 0 → μ1 69 0 r = 0 → (q5.2 = -1 → ocR oc (μ1 66 0 r) ∧ μ1 67 0 r = ky ∧ vp_in ky 7) → zG S (d + 4) m_Mo_read K 136 [some (zR 48 0), some (zI (nI r))] [] μ1 := by
    intro μ1 qm F s28 s29 ho he s72 s69 vals
    have hgo := S6 (cM μ1 (mX a n [32] qm)) (mX a n [32] qm) (hF_cM F) cM_28 cM_29 (mX_ok h200 (by decide) ho) (by rw [← e6]; exact eqQ_B he) s72 s69 (fun z => vals (qB_st e6 z))
    repeat' (first
      | exact hgo
      | refine c_Mo_expect (cs := [32]) (q := qm) (hF_E F E) s28 s29 ho rfl (by decide) (by decide) (by decide) ?_
      | (refine zs k_Mo_read rfl ?_; conv => whnf)
      | refine ⟨Nat.zero_lt_one, rfl, ?_⟩
      | refine ⟨rfl, ?_⟩
      | refine ⟨⟨Nat.zero_lt_one, rfl⟩, Nat.le_of_ble_eq_true rfl, ?_⟩
      | refine ⟨Nat.le_of_ble_eq_true rfl, Nat.le_of_ble_eq_true rfl, ?_⟩
      | refine ⟨(by first | exact Nat.zero_lt_one | assumption | omega), (by first | assumption | exact vp_in_nI (by omega) (by omega) | (unfold vp_in; decide)), ?_⟩
      | refine ⟨(by first | exact Nat.zero_lt_one | assumption | omega), rfl, ?_⟩
      | refine ⟨⟨(by first | exact Nat.zero_lt_one | assumption | omega), rfl⟩, Nat.le_of_ble_eq_true rfl, ?_⟩
      | refine ⟨(by first | exact Nat.zero_lt_one | assumption | omega), ?_⟩
      | refine ⟨Or.inl rfl, ?_⟩
      | refine ⟨Or.inr (Or.inl rfl), ?_⟩
      | refine ⟨Or.inr (Or.inr rfl), ?_⟩
      | refine ⟨Or.inr ⟨rfl, (by first | exact Or.inl rfl | exact Or.inr rfl | assumption)⟩, ?_⟩
      | refine ⟨fun h => absurd h (by decide), fun _ => ?_⟩
      | refine ⟨fun _ => ?_, fun h => absurd h (by decide)⟩
      | refine ⟨fun h => ?_, fun h => ?_⟩
      | fail)
  -- the key
  have S4 : ∀ (μ1 : zMu) (qm : zQ), hF r μ μ1 → μ1 48 0 28 = nI qm.1 → μ1 48 0 29 = qm.2 → qOk qm → eqQ q4 qm → μ1 72 0 r = 0 → μ1 69 0 r = 0 → (q4.2 = -1 → ocR oc (μ1 66 0 r)) → zG S (d + 4) m_Mo_read K 118 [some (zR 48 0), some (zI (nI r))] [] μ1 := by
    intro μ1 qm F s28 s29 ho he s72 s69 vals
    by_cases o1 : q4.2 = -1
    case neg =>
      have hf := fge ho he s29 o1
      rw [qW_ft o1] at e5
      have e52 := (Prod.mk.inj e5).2
      have hgo := S5 μ1 qm F s28 s29 ho (by rw [← e52]; exact he) s72 s69 (fun z => absurd (by rw [e52]; exact z) o1)
      repeat' (first
        | exact hgo
        | refine br_t hf ?_
        | (refine zs k_Mo_read rfl ?_; conv => whnf)
        | refine ⟨Nat.zero_lt_one, rfl, ?_⟩
        | refine ⟨rfl, ?_⟩
        | refine ⟨⟨Nat.zero_lt_one, rfl⟩, Nat.le_of_ble_eq_true rfl, ?_⟩
        | refine ⟨Nat.le_of_ble_eq_true rfl, Nat.le_of_ble_eq_true rfl, ?_⟩
        | refine ⟨(by first | exact Nat.zero_lt_one | assumption | omega), (by first | assumption | exact vp_in_nI (by omega) (by omega) | (unfold vp_in; decide)), ?_⟩
        | refine ⟨(by first | exact Nat.zero_lt_one | assumption | omega), rfl, ?_⟩
        | refine ⟨⟨(by first | exact Nat.zero_lt_one | assumption | omega), rfl⟩, Nat.le_of_ble_eq_true rfl, ?_⟩
        | refine ⟨(by first | exact Nat.zero_lt_one | assumption | omega), ?_⟩
        | refine ⟨Or.inl rfl, ?_⟩
        | refine ⟨Or.inr (Or.inl rfl), ?_⟩
        | refine ⟨Or.inr (Or.inr rfl), ?_⟩
        | refine ⟨Or.inr ⟨rfl, (by first | exact Or.inl rfl | exact Or.inr rfl | assumption)⟩, ?_⟩
        | refine ⟨fun h => absurd h (by decide), fun _ => ?_⟩
        | refine ⟨fun _ => ?_, fun h => absurd h (by decide)⟩
        | refine ⟨fun h => ?_, fun h => ?_⟩
        | fail)
    obtain rfl := (eqQ_1 he o1).symm
    have w1 := vals o1
    have hf : ¬ 0 ≤ μ1 48 0 29 := i32 _ (s29.trans o1)
    have E1 := hF_E F E
    have e5' : qW a n (q4.1, -1) 2 = (ky, q5) := by rw [← o1]; exact e5
    have hky : q5.2 = -1 → vp_in ky 7 := fun z => by
      obtain ⟨i, hi, e⟩ := qW_ix (by omega) e5 z (by omega) (zWd_s 2 (by omega))
      have hi5 : i < 5 := hi
      rw [e]
      exact vp_in_nI (by omega) (by omega)
    rw [qW_eq (by omega), show zWd.getD 2 [] = zWf.take 5 from rfl] at e5'
    have go : ∀ (i : Nat) (Q : zQ), qOk Q → eqQ q5 Q → (q5.2 = -1 → nI i = ky) → ∀ r', r' = r → zG S (d + 4) m_Mo_read K 136 [some (zR 48 0), some (zI (nI r))] [] (zu (cM μ1 Q) 67 0 r' (nI i)) := fun i Q hQ heQ hv r' hr' => by
      rw [hr']
      exact S5 _ Q (hF_r (hF_cM F) (by decide)) (by rw [zu_ne (by omega)]; exact cM_28) (by rw [zu_ne (by omega)]; exact cM_29) hQ heQ s72 s69 (fun z => ⟨w1, by rw [zu_eq]; exact hv z, hky z⟩)
    repeat' (first
      | refine br_f hf ?_
      | refine c_Mo_word (m := 5) E1 s28 (s29.trans o1) n4 (by omega) (by omega) rfl (fun i L hw => ?_) (fun i L hw => ?_)
      | refine go i (q4.1 + L, -1) ?_ ?_ ?_ _ cr
      | refine go i (q4.1 + L, nI (q4.1 + L)) ?_ ?_ ?_ _ cr
      | (refine zs k_Mo_read rfl ?_; conv => whnf)
      | refine ⟨Nat.zero_lt_one, rfl, ?_⟩
      | refine ⟨rfl, ?_⟩
      | refine ⟨⟨Nat.zero_lt_one, rfl⟩, Nat.le_of_ble_eq_true rfl, ?_⟩
      | refine ⟨Nat.le_of_ble_eq_true rfl, Nat.le_of_ble_eq_true rfl, ?_⟩
      | refine ⟨(by first | exact Nat.zero_lt_one | assumption | omega), (by first | assumption | exact vp_in_nI (by omega) (by omega) | (unfold vp_in; decide)), ?_⟩
      | refine ⟨(by first | exact Nat.zero_lt_one | assumption | omega), rfl, ?_⟩
      | refine ⟨⟨(by first | exact Nat.zero_lt_one | assumption | omega), rfl⟩, Nat.le_of_ble_eq_true rfl, ?_⟩
      | refine ⟨(by first | exact Nat.zero_lt_one | assumption | omega), ?_⟩
      | refine ⟨Or.inl rfl, ?_⟩
      | refine ⟨Or.inr (Or.inl rfl), ?_⟩
      | refine ⟨Or.inr (Or.inr rfl), ?_⟩
      | refine ⟨Or.inr ⟨rfl, (by first | exact Or.inl rfl | exact Or.inr rfl | assumption)⟩, ?_⟩
      | refine ⟨fun h => absurd h (by decide), fun _ => ?_⟩
      | refine ⟨fun _ => ?_, fun h => absurd h (by decide)⟩
      | refine ⟨fun h => ?_, fun h => ?_⟩
      | fail)
    · rw [hw] at e5'
      obtain ⟨-, e52⟩ := Prod.mk.inj e5'
      have n5' := n5
      rw [← e52] at n5'
      exact ⟨by have : q4.1 + L ≤ n := n5'; show q4.1 + L ≤ 1000; omega, Or.inl rfl⟩
    · rw [hw] at e5'
      obtain ⟨-, e52⟩ := Prod.mk.inj e5'
      rw [← e52]
      exact eqQ_rf
    · rw [hw] at e5'
      obtain ⟨e51, -⟩ := Prod.mk.inj e5'
      exact fun _ => e51
    · obtain ⟨-, -, -, -, hL⟩ := mbl_no (b := fun j => pB a n (q4.1 + j)) (by omega) (by omega) hw
      exact ⟨by show q4.1 + L ≤ 1000; omega, Or.inr ⟨q4.1 + L, by omega, rfl⟩⟩
    · rw [hw] at e5'
      obtain ⟨-, e52⟩ := Prod.mk.inj e5'
      obtain ⟨-, -, -, -, hL⟩ := mbl_no (b := fun j => pB a n (q4.1 + j)) (by omega) (by omega) hw
      rw [← e52]
      exact ⟨rfl, fun z => absurd z (nI_nem1 (by omega))⟩
    · rw [hw] at e5'
      obtain ⟨-, e52⟩ := Prod.mk.inj e5'
      obtain ⟨-, -, -, -, hL⟩ := mbl_no (b := fun j => pB a n (q4.1 + j)) (by omega) (by omega) hw
      rw [← e52]
      exact fun z => absurd z (nI_nem1 (by omega))
  have S3 : ∀ (μ1 : zMu) (qm : zQ), hF r μ μ1 → μ1 48 0 28 = nI qm.1 → μ1 48 0 29 = qm.2 → qOk qm → eqQ q3 qm → μ1 72 0 r = 0 → μ1 69 0 r = 0 → (q3.2 = -1 → ocR oc (μ1 66 0 r)) → zG S (d + 4) m_Mo_read K 111 [some (zR 48 0), some (zI (nI r))] [] μ1 := by
    intro μ1 qm F s28 s29 ho he s72 s69 vals
    have hgo := S4 (cM μ1 (mX a n [32] qm)) (mX a n [32] qm) (hF_cM F) cM_28 cM_29 (mX_ok h200 (by decide) ho) (by rw [← e4]; exact eqQ_B he) s72 s69 (fun z => vals (qB_st e4 z))
    repeat' (first
      | exact hgo
      | refine c_Mo_expect (cs := [32]) (q := qm) (hF_E F E) s28 s29 ho rfl (by decide) (by decide) (by decide) ?_
      | (refine zs k_Mo_read rfl ?_; conv => whnf)
      | refine ⟨Nat.zero_lt_one, rfl, ?_⟩
      | refine ⟨rfl, ?_⟩
      | refine ⟨⟨Nat.zero_lt_one, rfl⟩, Nat.le_of_ble_eq_true rfl, ?_⟩
      | refine ⟨Nat.le_of_ble_eq_true rfl, Nat.le_of_ble_eq_true rfl, ?_⟩
      | refine ⟨(by first | exact Nat.zero_lt_one | assumption | omega), (by first | assumption | exact vp_in_nI (by omega) (by omega) | (unfold vp_in; decide)), ?_⟩
      | refine ⟨(by first | exact Nat.zero_lt_one | assumption | omega), rfl, ?_⟩
      | refine ⟨⟨(by first | exact Nat.zero_lt_one | assumption | omega), rfl⟩, Nat.le_of_ble_eq_true rfl, ?_⟩
      | refine ⟨(by first | exact Nat.zero_lt_one | assumption | omega), ?_⟩
      | refine ⟨Or.inl rfl, ?_⟩
      | refine ⟨Or.inr (Or.inl rfl), ?_⟩
      | refine ⟨Or.inr (Or.inr rfl), ?_⟩
      | refine ⟨Or.inr ⟨rfl, (by first | exact Or.inl rfl | exact Or.inr rfl | assumption)⟩, ?_⟩
      | refine ⟨fun h => absurd h (by decide), fun _ => ?_⟩
      | refine ⟨fun _ => ?_, fun h => absurd h (by decide)⟩
      | refine ⟨fun h => ?_, fun h => ?_⟩
      | fail)
  -- the occasion
  have S2 : ∀ (μ1 : zMu) (qm : zQ), hF r μ μ1 → μ1 48 0 28 = nI qm.1 → μ1 48 0 29 = qm.2 → qOk qm → eqQ q2 qm → μ1 72 0 r = 0 → μ1 69 0 r = 0 → zG S (d + 4) m_Mo_read K 31 [some (zR 48 0), some (zI (nI r))] [] μ1 := by
    intro μ1 qm F s28 s29 ho he s72 s69
    by_cases o1 : q2.2 = -1
    case neg =>
      have hf := fge ho he s29 o1
      rw [qW_ft o1] at e3
      have e32 := (Prod.mk.inj e3).2
      have hgo := S3 μ1 qm F s28 s29 ho (by rw [← e32]; exact he) s72 s69 (fun z => absurd (by rw [e32]; exact z) o1)
      repeat' (first
        | exact hgo
        | refine br_t hf ?_
        | (refine zs k_Mo_read rfl ?_; conv => whnf)
        | refine ⟨Nat.zero_lt_one, rfl, ?_⟩
        | refine ⟨rfl, ?_⟩
        | refine ⟨⟨Nat.zero_lt_one, rfl⟩, Nat.le_of_ble_eq_true rfl, ?_⟩
        | refine ⟨Nat.le_of_ble_eq_true rfl, Nat.le_of_ble_eq_true rfl, ?_⟩
        | refine ⟨(by first | exact Nat.zero_lt_one | assumption | omega), (by first | assumption | exact vp_in_nI (by omega) (by omega) | (unfold vp_in; decide)), ?_⟩
        | refine ⟨(by first | exact Nat.zero_lt_one | assumption | omega), rfl, ?_⟩
        | refine ⟨⟨(by first | exact Nat.zero_lt_one | assumption | omega), rfl⟩, Nat.le_of_ble_eq_true rfl, ?_⟩
        | refine ⟨(by first | exact Nat.zero_lt_one | assumption | omega), ?_⟩
        | refine ⟨Or.inl rfl, ?_⟩
        | refine ⟨Or.inr (Or.inl rfl), ?_⟩
        | refine ⟨Or.inr (Or.inr rfl), ?_⟩
        | refine ⟨Or.inr ⟨rfl, (by first | exact Or.inl rfl | exact Or.inr rfl | assumption)⟩, ?_⟩
        | refine ⟨fun h => absurd h (by decide), fun _ => ?_⟩
        | refine ⟨fun _ => ?_, fun h => absurd h (by decide)⟩
        | refine ⟨fun h => ?_, fun h => ?_⟩
        | fail)
    obtain rfl := (eqQ_1 he o1).symm
    have hf : ¬ 0 ≤ μ1 48 0 29 := i32 _ (s29.trans o1)
    have E1 := hF_E F E
    obtain ⟨y1, y2, y3⟩ := w1_eq (by omega) o1 e3
    have stA : ∀ (m : Int32) (Q : zQ), (Q = (q2.1 + 1, -1) ∨ Q = (q2.1 + 1, nI q2.1)) → eqQ q3 Q → (q3.2 = -1 → ocR oc m) → zG S (d + 4) m_Mo_read K 111 [some (zR 48 0), some (zI (nI r))] [] (cM (zu μ1 66 0 r m) Q) := fun m Q hQ heQ hv => by
      refine S3 _ Q (hF_cM (hF_r F (by decide))) cM_28 cM_29 ?_ heQ s72 s69 (fun z => by rw [cM_o (by omega), zu_eq]; exact hv z)
      rcases hQ with h | h
      · rw [h]
        exact ⟨by show q2.1 + 1 ≤ 1000; omega, Or.inl rfl⟩
      · rw [h]
        exact ⟨by show q2.1 + 1 ≤ 1000; omega, Or.inr ⟨q2.1, by omega, rfl⟩⟩
    -- the fault stays, or comes
    have st66 : ∀ (m : Int32), zu μ1 66 0 r m = cM (zu μ1 66 0 r m) (q2.1, -1) := fun m => cM_id s28 (s29.trans o1)
    have B1 : ∀ (m : Int32), eqQ q3 (q2.1 + 1, -1) → (q3.2 = -1 → ocR oc m) → zG S (d + 4) m_Mo_read K 87 [some (zR 48 0), some (zI (nI r))] [zR 48 0] (zu μ1 66 0 r m) := fun m heQ hv => by
      have hgo := stA m (q2.1 + 1, -1) (Or.inl rfl) heQ hv
      have hst : zu (zu (zu μ1 66 0 r m) 48 0 29 (zu μ1 66 0 r m 48 0 29)) 48 0 28 (zu (zu μ1 66 0 r m) 48 0 29 (zu μ1 66 0 r m 48 0 29) 48 0 28 + 1) = cM (zu μ1 66 0 r m) (q2.1 + 1, -1) := by
        have h1 : zu (zu μ1 66 0 r m) 48 0 29 (zu μ1 66 0 r m 48 0 29) = cM (zu μ1 66 0 r m) (q2.1, -1) := by
          conv => lhs; rw [st66 m]
          rw [cM_fl, cM_29]
        rw [h1, cM_28, nI_1, cM_at rfl]
      repeat' (first
        | (rw [hst]; exact hgo)
        | (refine zs k_Mo_read rfl ?_; conv => whnf)
        | refine ⟨Nat.zero_lt_one, rfl, ?_⟩
        | refine ⟨rfl, ?_⟩
        | refine ⟨⟨Nat.zero_lt_one, rfl⟩, Nat.le_of_ble_eq_true rfl, ?_⟩
        | refine ⟨Nat.le_of_ble_eq_true rfl, Nat.le_of_ble_eq_true rfl, ?_⟩
        | refine ⟨(by first | exact Nat.zero_lt_one | assumption | omega), (by first | assumption | exact vp_in_nI (by omega) (by omega) | (unfold vp_in; decide)), ?_⟩
        | refine ⟨(by first | exact Nat.zero_lt_one | assumption | omega), rfl, ?_⟩
        | refine ⟨⟨(by first | exact Nat.zero_lt_one | assumption | omega), rfl⟩, Nat.le_of_ble_eq_true rfl, ?_⟩
        | refine ⟨(by first | exact Nat.zero_lt_one | assumption | omega), ?_⟩
        | refine ⟨Or.inl rfl, ?_⟩
        | refine ⟨Or.inr (Or.inl rfl), ?_⟩
        | refine ⟨Or.inr (Or.inr rfl), ?_⟩
        | refine ⟨Or.inr ⟨rfl, (by first | exact Or.inl rfl | exact Or.inr rfl | assumption)⟩, ?_⟩
        | refine ⟨fun h => absurd h (by decide), fun _ => ?_⟩
        | refine ⟨fun _ => ?_, fun h => absurd h (by decide)⟩
        | refine ⟨fun h => ?_, fun h => ?_⟩
        | fail)
    have B2 : ∀ (m : Int32), eqQ q3 (q2.1 + 1, nI q2.1) → (q3.2 = -1 → ocR oc m) → zG S (d + 4) m_Mo_read K 94 [some (zR 48 0), some (zI (nI r))] [zR 48 0] (zu μ1 66 0 r m) := fun m heQ hv => by
      have hgo := stA m (q2.1 + 1, nI q2.1) (Or.inr rfl) heQ hv
      have hst : zu (zu (zu μ1 66 0 r m) 48 0 29 (zu μ1 66 0 r m 48 0 28)) 48 0 28 (zu (zu μ1 66 0 r m) 48 0 29 (zu μ1 66 0 r m 48 0 28) 48 0 28 + 1) = cM (zu μ1 66 0 r m) (q2.1 + 1, nI q2.1) := by
        have h1 : zu (zu μ1 66 0 r m) 48 0 29 (zu μ1 66 0 r m 48 0 28) = cM (zu μ1 66 0 r m) (q2.1, nI q2.1) := by
          conv => lhs; rw [st66 m]
          rw [cM_fl, cM_28]
        rw [h1, cM_28, nI_1, cM_at rfl]
      repeat' (first
        | (rw [hst]; exact hgo)
        | (refine zs k_Mo_read rfl ?_; conv => whnf)
        | refine ⟨Nat.zero_lt_one, rfl, ?_⟩
        | refine ⟨rfl, ?_⟩
        | refine ⟨⟨Nat.zero_lt_one, rfl⟩, Nat.le_of_ble_eq_true rfl, ?_⟩
        | refine ⟨Nat.le_of_ble_eq_true rfl, Nat.le_of_ble_eq_true rfl, ?_⟩
        | refine ⟨(by first | exact Nat.zero_lt_one | assumption | omega), (by first | assumption | exact vp_in_nI (by omega) (by omega) | (unfold vp_in; decide)), ?_⟩
        | refine ⟨(by first | exact Nat.zero_lt_one | assumption | omega), rfl, ?_⟩
        | refine ⟨⟨(by first | exact Nat.zero_lt_one | assumption | omega), rfl⟩, Nat.le_of_ble_eq_true rfl, ?_⟩
        | refine ⟨(by first | exact Nat.zero_lt_one | assumption | omega), ?_⟩
        | refine ⟨Or.inl rfl, ?_⟩
        | refine ⟨Or.inr (Or.inl rfl), ?_⟩
        | refine ⟨Or.inr (Or.inr rfl), ?_⟩
        | refine ⟨Or.inr ⟨rfl, (by first | exact Or.inl rfl | exact Or.inr rfl | assumption)⟩, ?_⟩
        | refine ⟨fun h => absurd h (by decide), fun _ => ?_⟩
        | refine ⟨fun _ => ?_, fun h => absurd h (by decide)⟩
        | refine ⟨fun h => ?_, fun h => ?_⟩
        | fail)
    have E66 : ∀ m : Int32, mE (zu μ1 66 0 r m) a n := fun m => hF_E (hF_r F (by decide)) E
    by_cases dg : 48 ≤ pB a n q2.1 ∧ pB a n q2.1 ≤ 57
    · obtain ⟨z1, z2⟩ := y2 dg
      have hoc : ocR oc (pB a n q2.1 - 48) := by
        have e : oc = pB a n q2.1 - 48 := by rw [eoc, z2]; grind
        obtain ⟨c, hc, ec⟩ := nI_of2 (x := pB a n q2.1) (M := 57) (n := 57) rfl (by have := dg.1; grind) dg.2
        have h48 : 48 ≤ c := (nI_leI (a := 48) (by omega) (by omega)).mp (by rw [← ec]; exact dg.1)
        have e2 : pB a n q2.1 - 48 = nI (c - 48) := by rw [ec]; exact pk_sub (b := 48) h48
        refine Or.inr ⟨?_, ?_, e.symm⟩
        · rw [e, e2]
          exact nI_pos' (by omega)
        · rw [e, e2]
          exact nI_le (b := 9) (by omega) (by omega)
      have hlt : pB a n q2.1 - 48 < 10 := by
        obtain ⟨c, hc, ec⟩ := nI_of2 (x := pB a n q2.1) (M := 57) (n := 57) rfl (by have := dg.1; grind) dg.2
        have h48 : 48 ≤ c := (nI_leI (a := 48) (by omega) (by omega)).mp (by rw [← ec]; exact dg.1)
        rw [ec, show nI c - 48 = nI (c - 48) from pk_sub (b := 48) h48]
        exact nI_lt (b := 10) (by omega) (by omega)
      have hgo := B1 (pB a n q2.1 - 48) (by rw [z1]; exact eqQ_rf) (fun _ => hoc)
      have c66 : zu μ1 66 0 r (pB a n q2.1 - 48) 66 0 (nI r).toNatClampNeg < 10 := by rw [cr, zu_eq]; exact hlt
      have hg2 : zG S (d + 4) m_Mo_read K 66 [some (zR 48 0), some (zI (nI r))] [] (zu μ1 66 0 r (pB a n q2.1 - 48)) := by
        repeat' (first
          | exact hgo
          | refine br_t c66 ?_
          | (refine zs k_Mo_read rfl ?_; conv => whnf)
          | refine ⟨Nat.zero_lt_one, rfl, ?_⟩
          | refine ⟨rfl, ?_⟩
          | refine ⟨⟨Nat.zero_lt_one, rfl⟩, Nat.le_of_ble_eq_true rfl, ?_⟩
          | refine ⟨Nat.le_of_ble_eq_true rfl, Nat.le_of_ble_eq_true rfl, ?_⟩
          | refine ⟨(by first | exact Nat.zero_lt_one | assumption | omega), (by first | assumption | exact vp_in_nI (by omega) (by omega) | (unfold vp_in; decide)), ?_⟩
          | refine ⟨(by first | exact Nat.zero_lt_one | assumption | omega), rfl, ?_⟩
          | refine ⟨⟨(by first | exact Nat.zero_lt_one | assumption | omega), rfl⟩, Nat.le_of_ble_eq_true rfl, ?_⟩
          | refine ⟨(by first | exact Nat.zero_lt_one | assumption | omega), ?_⟩
          | refine ⟨Or.inl rfl, ?_⟩
          | refine ⟨Or.inr (Or.inl rfl), ?_⟩
          | refine ⟨Or.inr (Or.inr rfl), ?_⟩
          | refine ⟨Or.inr ⟨rfl, (by first | exact Or.inl rfl | exact Or.inr rfl | assumption)⟩, ?_⟩
          | refine ⟨fun h => absurd h (by decide), fun _ => ?_⟩
          | refine ⟨fun _ => ?_, fun h => absurd h (by decide)⟩
          | refine ⟨fun h => ?_, fun h => ?_⟩
          | fail)
      repeat' (first
        | (rw [cr]; exact hg2)
        | refine br_f hf ?_
        | refine c_Mo_letter E1 s28 (by omega) ?_
        | refine c_Mo_isDigit (fun _ => ?_) (fun q => absurd dg q)
        | (refine zs k_Mo_read rfl ?_; conv => whnf)
        | refine ⟨Nat.zero_lt_one, rfl, ?_⟩
        | refine ⟨rfl, ?_⟩
        | refine ⟨⟨Nat.zero_lt_one, rfl⟩, Nat.le_of_ble_eq_true rfl, ?_⟩
        | refine ⟨Nat.le_of_ble_eq_true rfl, Nat.le_of_ble_eq_true rfl, ?_⟩
        | refine ⟨(by first | exact Nat.zero_lt_one | assumption | omega), (by first | assumption | exact vp_in_nI (by omega) (by omega) | (unfold vp_in; decide)), ?_⟩
        | refine ⟨(by first | exact Nat.zero_lt_one | assumption | omega), rfl, ?_⟩
        | refine ⟨⟨(by first | exact Nat.zero_lt_one | assumption | omega), rfl⟩, Nat.le_of_ble_eq_true rfl, ?_⟩
        | refine ⟨(by first | exact Nat.zero_lt_one | assumption | omega), ?_⟩
        | refine ⟨Or.inl rfl, ?_⟩
        | refine ⟨Or.inr (Or.inl rfl), ?_⟩
        | refine ⟨Or.inr (Or.inr rfl), ?_⟩
        | refine ⟨Or.inr ⟨rfl, (by first | exact Or.inl rfl | exact Or.inr rfl | assumption)⟩, ?_⟩
        | refine ⟨fun h => absurd h (by decide), fun _ => ?_⟩
        | refine ⟨fun _ => ?_, fun h => absurd h (by decide)⟩
        | refine ⟨fun h => ?_, fun h => ?_⟩
        | fail)
    · have n66 : ¬ zu μ1 66 0 r 10 66 0 (nI r).toNatClampNeg < 10 := by rw [cr, zu_eq]; decide
      by_cases l : pB a n q2.1 = 42
      · obtain ⟨z1, z2⟩ := y1 l
        have hoc : ocR oc 10 := Or.inl ⟨by rw [eoc, z2]; decide, rfl⟩
        have hgo := B1 10 (by rw [z1]; exact eqQ_rf) (fun _ => hoc)
        have hg2 : zG S (d + 4) m_Mo_read K 66 [some (zR 48 0), some (zI (nI r))] [] (zu μ1 66 0 r 10) := by
          repeat' (first
            | exact hgo
            | refine br_f n66 ?_
            | refine c_Mo_letter (E66 10) s28 (by omega) ?_
            | refine bn_f l ?_
            | (refine zs k_Mo_read rfl ?_; conv => whnf)
            | refine ⟨Nat.zero_lt_one, rfl, ?_⟩
            | refine ⟨rfl, ?_⟩
            | refine ⟨⟨Nat.zero_lt_one, rfl⟩, Nat.le_of_ble_eq_true rfl, ?_⟩
            | refine ⟨Nat.le_of_ble_eq_true rfl, Nat.le_of_ble_eq_true rfl, ?_⟩
            | refine ⟨(by first | exact Nat.zero_lt_one | assumption | omega), (by first | assumption | exact vp_in_nI (by omega) (by omega) | (unfold vp_in; decide)), ?_⟩
            | refine ⟨(by first | exact Nat.zero_lt_one | assumption | omega), rfl, ?_⟩
            | refine ⟨⟨(by first | exact Nat.zero_lt_one | assumption | omega), rfl⟩, Nat.le_of_ble_eq_true rfl, ?_⟩
            | refine ⟨(by first | exact Nat.zero_lt_one | assumption | omega), ?_⟩
            | refine ⟨Or.inl rfl, ?_⟩
            | refine ⟨Or.inr (Or.inl rfl), ?_⟩
            | refine ⟨Or.inr (Or.inr rfl), ?_⟩
            | refine ⟨Or.inr ⟨rfl, (by first | exact Or.inl rfl | exact Or.inr rfl | assumption)⟩, ?_⟩
            | refine ⟨fun h => absurd h (by decide), fun _ => ?_⟩
            | refine ⟨fun _ => ?_, fun h => absurd h (by decide)⟩
            | refine ⟨fun h => ?_, fun h => ?_⟩
            | fail)
        repeat' (first
          | (rw [cr]; exact hg2)
          | refine br_f hf ?_
          | refine c_Mo_letter E1 s28 (by omega) ?_
          | refine c_Mo_isDigit (fun q => absurd q dg) (fun _ => ?_)
          | (refine zs k_Mo_read rfl ?_; conv => whnf)
          | refine ⟨Nat.zero_lt_one, rfl, ?_⟩
          | refine ⟨rfl, ?_⟩
          | refine ⟨⟨Nat.zero_lt_one, rfl⟩, Nat.le_of_ble_eq_true rfl, ?_⟩
          | refine ⟨Nat.le_of_ble_eq_true rfl, Nat.le_of_ble_eq_true rfl, ?_⟩
          | refine ⟨(by first | exact Nat.zero_lt_one | assumption | omega), (by first | assumption | exact vp_in_nI (by omega) (by omega) | (unfold vp_in; decide)), ?_⟩
          | refine ⟨(by first | exact Nat.zero_lt_one | assumption | omega), rfl, ?_⟩
          | refine ⟨⟨(by first | exact Nat.zero_lt_one | assumption | omega), rfl⟩, Nat.le_of_ble_eq_true rfl, ?_⟩
          | refine ⟨(by first | exact Nat.zero_lt_one | assumption | omega), ?_⟩
          | refine ⟨Or.inl rfl, ?_⟩
          | refine ⟨Or.inr (Or.inl rfl), ?_⟩
          | refine ⟨Or.inr (Or.inr rfl), ?_⟩
          | refine ⟨Or.inr ⟨rfl, (by first | exact Or.inl rfl | exact Or.inr rfl | assumption)⟩, ?_⟩
          | refine ⟨fun h => absurd h (by decide), fun _ => ?_⟩
          | refine ⟨fun _ => ?_, fun h => absurd h (by decide)⟩
          | refine ⟨fun h => ?_, fun h => ?_⟩
          | fail)
      · have z1 := y3 l dg
        have hnm : ¬ q3.2 = -1 := by rw [z1]; exact nI_nem1 (by omega)
        have hgo := B2 10 ⟨z1.symm, fun z => absurd z hnm⟩ (fun z => absurd z hnm)
        have hg2 : zG S (d + 4) m_Mo_read K 66 [some (zR 48 0), some (zI (nI r))] [] (zu μ1 66 0 r 10) := by
          repeat' (first
            | exact hgo
            | refine br_f n66 ?_
            | refine c_Mo_letter (E66 10) s28 (by omega) ?_
            | refine bn_t l ?_
            | (refine zs k_Mo_read rfl ?_; conv => whnf)
            | refine ⟨Nat.zero_lt_one, rfl, ?_⟩
            | refine ⟨rfl, ?_⟩
            | refine ⟨⟨Nat.zero_lt_one, rfl⟩, Nat.le_of_ble_eq_true rfl, ?_⟩
            | refine ⟨Nat.le_of_ble_eq_true rfl, Nat.le_of_ble_eq_true rfl, ?_⟩
            | refine ⟨(by first | exact Nat.zero_lt_one | assumption | omega), (by first | assumption | exact vp_in_nI (by omega) (by omega) | (unfold vp_in; decide)), ?_⟩
            | refine ⟨(by first | exact Nat.zero_lt_one | assumption | omega), rfl, ?_⟩
            | refine ⟨⟨(by first | exact Nat.zero_lt_one | assumption | omega), rfl⟩, Nat.le_of_ble_eq_true rfl, ?_⟩
            | refine ⟨(by first | exact Nat.zero_lt_one | assumption | omega), ?_⟩
            | refine ⟨Or.inl rfl, ?_⟩
            | refine ⟨Or.inr (Or.inl rfl), ?_⟩
            | refine ⟨Or.inr (Or.inr rfl), ?_⟩
            | refine ⟨Or.inr ⟨rfl, (by first | exact Or.inl rfl | exact Or.inr rfl | assumption)⟩, ?_⟩
            | refine ⟨fun h => absurd h (by decide), fun _ => ?_⟩
            | refine ⟨fun _ => ?_, fun h => absurd h (by decide)⟩
            | refine ⟨fun h => ?_, fun h => ?_⟩
            | fail)
        repeat' (first
          | (rw [cr]; exact hg2)
          | refine br_f hf ?_
          | refine c_Mo_letter E1 s28 (by omega) ?_
          | refine c_Mo_isDigit (fun q => absurd q dg) (fun _ => ?_)
          | (refine zs k_Mo_read rfl ?_; conv => whnf)
          | refine ⟨Nat.zero_lt_one, rfl, ?_⟩
          | refine ⟨rfl, ?_⟩
          | refine ⟨⟨Nat.zero_lt_one, rfl⟩, Nat.le_of_ble_eq_true rfl, ?_⟩
          | refine ⟨Nat.le_of_ble_eq_true rfl, Nat.le_of_ble_eq_true rfl, ?_⟩
          | refine ⟨(by first | exact Nat.zero_lt_one | assumption | omega), (by first | assumption | exact vp_in_nI (by omega) (by omega) | (unfold vp_in; decide)), ?_⟩
          | refine ⟨(by first | exact Nat.zero_lt_one | assumption | omega), rfl, ?_⟩
          | refine ⟨⟨(by first | exact Nat.zero_lt_one | assumption | omega), rfl⟩, Nat.le_of_ble_eq_true rfl, ?_⟩
          | refine ⟨(by first | exact Nat.zero_lt_one | assumption | omega), ?_⟩
          | refine ⟨Or.inl rfl, ?_⟩
          | refine ⟨Or.inr (Or.inl rfl), ?_⟩
          | refine ⟨Or.inr (Or.inr rfl), ?_⟩
          | refine ⟨Or.inr ⟨rfl, (by first | exact Or.inl rfl | exact Or.inr rfl | assumption)⟩, ?_⟩
          | refine ⟨fun h => absurd h (by decide), fun _ => ?_⟩
          | refine ⟨fun _ => ?_, fun h => absurd h (by decide)⟩
          | refine ⟨fun h => ?_, fun h => ?_⟩
          | fail)
  -- the beginning
  have F0 : hF r μ (zu (zu (cM μ (0, -1)) 72 0 r 0) 69 0 r 0) := hF_r (hF_r (hF_cM hF_rf) (by decide)) (by decide)
  have ok0 : qOk (0, -1) := ⟨Nat.zero_le _, Or.inl rfl⟩
  have hX0 : eqQ q2 (mX a n [111, 110, 32] (0, -1)) := by
    have s1 : mX a n [111, 110, 32] (0, -1) = mX a n [32] (mX a n [111, 110] (0, -1)) := mX_app (c1 := [111, 110]) (c2 := [32]) (by decide)
    rw [s1, ← e2]
    exact eqQ_B (qW_1 (by omega) rfl (by decide) e1 eqQ_rf)
  have hgo := S2 (cM (zu (zu (cM μ (0, -1)) 72 0 r 0) 69 0 r 0) (mX a n [111, 110, 32] (0, -1))) (mX a n [111, 110, 32] (0, -1)) (hF_cM F0) cM_28 cM_29 (mX_ok h200 (by decide) ok0) hX0 (by rw [cM_o (by omega), zu_ne (by omega), zu_eq]) (by rw [cM_o (by omega), zu_eq])
  have hs0 : ∀ r', r' = r → zu (zu (zu (zu μ 48 0 28 0) 48 0 29 (-1)) 72 0 r' 0) 69 0 r' (vp_nar .boolean 0) = zu (zu (cM μ (0, -1)) 72 0 r 0) 69 0 r 0 := fun r' h => by rw [h]; rfl
  have S0 : zG S (d + 4) m_Mo_read K 24 [some (zR 48 0), some (zI (nI r))] [] (zu (zu (cM μ (0, -1)) 72 0 r 0) 69 0 r 0) := by
    repeat' (first
      | exact hgo
      | refine c_Mo_expect (cs := [111, 110, 32]) (q := (0, -1)) (hF_E F0 E) (by rw [zu_ne (by omega), zu_ne (by omega)]; exact cM_28) (by rw [zu_ne (by omega), zu_ne (by omega)]; exact cM_29) ok0 rfl (by decide) (by decide) (by decide) ?_
      | (refine zs k_Mo_read rfl ?_; conv => whnf)
      | refine ⟨Nat.zero_lt_one, rfl, ?_⟩
      | refine ⟨rfl, ?_⟩
      | refine ⟨⟨Nat.zero_lt_one, rfl⟩, Nat.le_of_ble_eq_true rfl, ?_⟩
      | refine ⟨Nat.le_of_ble_eq_true rfl, Nat.le_of_ble_eq_true rfl, ?_⟩
      | refine ⟨(by first | exact Nat.zero_lt_one | assumption | omega), (by first | assumption | exact vp_in_nI (by omega) (by omega) | (unfold vp_in; decide)), ?_⟩
      | refine ⟨(by first | exact Nat.zero_lt_one | assumption | omega), rfl, ?_⟩
      | refine ⟨⟨(by first | exact Nat.zero_lt_one | assumption | omega), rfl⟩, Nat.le_of_ble_eq_true rfl, ?_⟩
      | refine ⟨(by first | exact Nat.zero_lt_one | assumption | omega), ?_⟩
      | refine ⟨Or.inl rfl, ?_⟩
      | refine ⟨Or.inr (Or.inl rfl), ?_⟩
      | refine ⟨Or.inr (Or.inr rfl), ?_⟩
      | refine ⟨Or.inr ⟨rfl, (by first | exact Or.inl rfl | exact Or.inr rfl | assumption)⟩, ?_⟩
      | refine ⟨fun h => absurd h (by decide), fun _ => ?_⟩
      | refine ⟨fun _ => ?_, fun h => absurd h (by decide)⟩
      | refine ⟨fun h => ?_, fun h => ?_⟩
      | fail)
  repeat' (first
    | (rw [hs0 _ cr]; exact S0)
    | (refine zs k_Mo_read rfl ?_; conv => whnf)
    | refine ⟨Nat.zero_lt_one, rfl, ?_⟩
    | refine ⟨rfl, ?_⟩
    | refine ⟨⟨Nat.zero_lt_one, rfl⟩, Nat.le_of_ble_eq_true rfl, ?_⟩
    | refine ⟨Nat.le_of_ble_eq_true rfl, Nat.le_of_ble_eq_true rfl, ?_⟩
    | refine ⟨(by first | exact Nat.zero_lt_one | assumption | omega), (by first | assumption | exact vp_in_nI (by omega) (by omega) | (unfold vp_in; decide)), ?_⟩
    | refine ⟨(by first | exact Nat.zero_lt_one | assumption | omega), rfl, ?_⟩
    | refine ⟨⟨(by first | exact Nat.zero_lt_one | assumption | omega), rfl⟩, Nat.le_of_ble_eq_true rfl, ?_⟩
    | refine ⟨(by first | exact Nat.zero_lt_one | assumption | omega), ?_⟩
    | refine ⟨Or.inl rfl, ?_⟩
    | refine ⟨Or.inr (Or.inl rfl), ?_⟩
    | refine ⟨Or.inr (Or.inr rfl), ?_⟩
    | refine ⟨Or.inr ⟨rfl, (by first | exact Or.inl rfl | exact Or.inr rfl | assumption)⟩, ?_⟩
    | refine ⟨fun h => absurd h (by decide), fun _ => ?_⟩
    | refine ⟨fun _ => ?_, fun h => absurd h (by decide)⟩
    | refine ⟨fun h => ?_, fun h => ?_⟩
    | fail)
