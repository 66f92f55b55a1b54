/-! WAYS: all ways to seat, in their order; what a search over them gives -/
def blk {β : Type} (f : Nat → List Nat → List β) (A1 : List Nat) : List Nat → List β
  | [] => []
  | g :: A2 => f g (A1 ++ A2) ++ blk f (A1 ++ [g]) A2
def pm : Nat → List Nat → List Nat → List (List Nat)
  | 0, w, _ => [w]
  | m + 1, w, A => blk (fun g B => pm m (w ++ [g]) B) [] A
def en (pe : List Nat → Bool) (pc : List Nat → Nat) : Nat → List Nat → List Nat → Nat → List (Nat × List Nat)
  | 0, w, _, c => [(c, w)]
  | m + 1, w, A, c => blk (fun g B => if pe (w ++ [g]) = true then en pe pc m (w ++ [g]) B (c + pc (w ++ [g])) else []) [] A
def bst (b e : Nat × List Nat) : Nat × List Nat := if e.1 < b.1 then e else b
theorem blk_mem {β : Type} {f : Nat → List Nat → List β} {x : β} : ∀ {A2 A1 : List Nat}, x ∈ blk f A1 A2 → ∃ g B, x ∈ f g B
  | [], _, h => by simp [blk] at h
  | g :: A2, A1, h => by
    rw [blk, List.mem_append] at h
    rcases h with h | h
    · exact ⟨g, _, h⟩
    · exact blk_mem h
theorem en_ge {pe : List Nat → Bool} {pc : List Nat → Nat} : ∀ {m : Nat} {w A : List Nat} {c : Nat} {e : Nat × List Nat}, e ∈ en pe pc m w A c → c ≤ e.1
  | 0, w, A, c, e, h => by
    simp only [en, List.mem_singleton] at h
    subst h
    exact Nat.le_refl c
  | m + 1, w, A, c, e, h => by
    obtain ⟨g, B, h⟩ := blk_mem h
    split at h
    · exact Nat.le_trans (Nat.le_add_right _ _) (en_ge h)
    · simp at h
theorem bst_no : ∀ {l : List (Nat × List Nat)} {b : Nat × List Nat}, (∀ e ∈ l, b.1 ≤ e.1) → l.foldl bst b = b
  | [], b, _ => rfl
  | e :: l, b, h => by
    have he : bst b e = b := if_neg (by have := h e List.mem_cons_self; omega)
    rw [List.foldl_cons, he]
    exact bst_no (fun e' h' => h e' (List.mem_cons_of_mem _ h'))
/-- a search that has spent as much as the best one gives nothing -/
theorem en_cut {pe : List Nat → Bool} {pc : List Nat → Nat} {m : Nat} {w A : List Nat} {c : Nat} {b : Nat × List Nat} (h : b.1 ≤ c) : (en pe pc m w A c).foldl bst b = b :=
  bst_no (fun _ he => Nat.le_trans h (en_ge he))
-- ---- whole ways
def kpW (pe : List Nat → Bool) (v : List Nat) : Nat → Bool
  | 0 => true
  | k + 1 => kpW pe v k && pe (v.take (k + 1))
def csW (pc : List Nat → Nat) (v : List Nat) : Nat → Nat
  | 0 => 0
  | k + 1 => csW pc v k + pc (v.take (k + 1))
theorem kpW_no {pe : List Nat → Bool} {v : List Nat} {k : Nat} (h : pe (v.take (k + 1)) = false) : ∀ {n : Nat}, k < n → kpW pe v n = false
  | 0, hn => absurd hn (by omega)
  | n + 1, hn => by
    rcases Nat.lt_or_ge k n with g | g
    · rw [kpW, kpW_no h g, Bool.false_and]
    · obtain rfl : k = n := by omega
      rw [kpW, h, Bool.and_false]
theorem kpW_ap {pe : List Nat → Bool} {w u : List Nat} : ∀ {n : Nat}, n ≤ w.length → kpW pe (w ++ u) n = kpW pe w n
  | 0, _ => rfl
  | n + 1, h => by
    rw [kpW, kpW, kpW_ap (by omega), List.take_append_of_le_length h]
theorem csW_ap {pc : List Nat → Nat} {w u : List Nat} : ∀ {n : Nat}, n ≤ w.length → csW pc (w ++ u) n = csW pc w n
  | 0, _ => rfl
  | n + 1, h => by
    rw [csW, csW, csW_ap (by omega), List.take_append_of_le_length h]
theorem pm_ext : ∀ {m : Nat} {w A v : List Nat}, v ∈ pm m w A → ∃ u, v = w ++ u ∧ u.length = m
  | 0, w, A, v, h => ⟨[], by simpa [pm] using h, rfl⟩
  | m + 1, w, A, v, h => by
    obtain ⟨g, B, h⟩ := blk_mem h
    obtain ⟨u, h1, h2⟩ := pm_ext h
    exact ⟨g :: u, by rw [h1, List.append_assoc]; rfl, by simp [h2]⟩
theorem blk_filter {f : Nat → List Nat → List (List Nat)} {F : Nat → List Nat → List (Nat × List Nat)} {q : List Nat → Bool} {z : List Nat → Nat × List Nat} (h : ∀ g B, F g B = ((f g B).filter q).map z) : ∀ (A2 A1 : List Nat), blk F A1 A2 = ((blk f A1 A2).filter q).map z
  | [], _ => rfl
  | g :: A2, A1 => by
    rw [blk, blk, List.filter_append, List.map_append, h, blk_filter h A2]
/-- the search looks at all ways that keep, with their prices -/
theorem en_pm {pe : List Nat → Bool} {pc : List Nat → Nat} : ∀ {m : Nat} {w A : List Nat}, kpW pe w w.length = true → en pe pc m w A (csW pc w w.length) = ((pm m w A).filter (fun v => kpW pe v (w.length + m))).map (fun v => (csW pc v (w.length + m), v))
  | 0, w, A, h => by
    simp [en, pm, h]
  | m + 1, w, A, h => by
    have hlen : ∀ g : Nat, (w ++ [g]).length = w.length + 1 := fun g => by simp
    have htk : ∀ g : Nat, (w ++ [g]).take (w.length + 1) = w ++ [g] := fun g => List.take_of_length_le (by simp)
    have hcs : ∀ g : Nat, csW pc (w ++ [g]) (w ++ [g]).length = csW pc w w.length + pc (w ++ [g]) := fun g => by
      rw [hlen, csW, csW_ap (Nat.le_refl _), htk]
    have hkp : ∀ g : Nat, kpW pe (w ++ [g]) (w ++ [g]).length = pe (w ++ [g]) := fun g => by
      rw [hlen, kpW, kpW_ap (Nat.le_refl _), htk, h, Bool.true_and]
    refine blk_filter (fun g B => ?_) A []
    by_cases hp : pe (w ++ [g]) = true
    · have ih := en_pm (pe := pe) (pc := pc) (m := m) (w := w ++ [g]) (A := B) (by rw [hkp]; exact hp)
      rw [hcs, hlen] at ih
      rw [if_pos hp, ih]
      simp only [Nat.add_assoc, Nat.add_comm 1 m]
    · rw [if_neg hp]
      have hf : ∀ v ∈ pm m (w ++ [g]) B, ¬ kpW pe v (w.length + (m + 1)) = true := fun v hv => by
        obtain ⟨u, rfl, hu⟩ := pm_ext hv
        rw [kpW_no (k := w.length) (by rw [List.take_append_of_le_length (by simp), htk]; simpa using hp) (by omega)]
        decide
      rw [List.filter_eq_nil_iff.mpr hf]
      rfl
-- ---- the next way
def nxR (u v : List Nat) : Prop := ∃ p x a y b, u = p ++ x :: (a ++ y :: b) ∧ v = p ++ y :: (b.reverse ++ x :: a.reverse) ∧ (a ++ y :: b).Pairwise (· > ·) ∧ x < y ∧ ∀ z ∈ b, z < x
/-- from u on by steps through all of the list, which then ends -/
def chn : List Nat → List (List Nat) → List Nat → Prop
  | u, [], z => u = z
  | u, v :: l, z => nxR u v ∧ chn v l z
theorem chn_app : ∀ {l1 : List (List Nat)} {l2 : List (List Nat)} {u z v y : List Nat}, chn u l1 z → nxR z v → chn v l2 y → chn u (l1 ++ v :: l2) y
  | [], l2, u, z, v, y, h1, h2, h3 => by
    have h1 : u = z := h1
    subst h1
    exact ⟨h2, h3⟩
  | w :: l1, l2, u, z, v, y, h1, h2, h3 => ⟨h1.1, chn_app h1.2 h2 h3⟩
theorem blk_cons {β : Type} {f : Nat → List Nat → List β} {A1 A2 : List Nat} {g : Nat} : blk f A1 (g :: A2) = f g (A1 ++ A2) ++ blk f (A1 ++ [g]) A2 := rfl
/-- the ways, from the rising one to the falling one, each the next of the one before -/
theorem pm_chn : ∀ {m : Nat} {w A : List Nat}, A.length = m → A.Pairwise (· < ·) → ∃ l, pm m w A = (w ++ A) :: l ∧ chn (w ++ A) l (w ++ A.reverse)
  | 0, w, A, h, hp => by
    obtain rfl := List.eq_nil_of_length_eq_zero h
    exact ⟨[], by simp [pm], by simp [chn]⟩
  | m + 1, w, A, h, hp => by
    have B : ∀ (A2 A1 : List Nat) (g : Nat), A = A1 ++ g :: A2 → ∃ l, blk (fun g B => pm m (w ++ [g]) B) A1 (g :: A2) = (w ++ g :: (A1 ++ A2)) :: l ∧ chn (w ++ g :: (A1 ++ A2)) l (w ++ A.reverse) := by
      intro A2
      induction A2 with
      | nil =>
        intro A1 g hA
        subst hA
        obtain ⟨l, h1, h2⟩ := pm_chn (m := m) (w := w ++ [g]) (A := A1) (by simp at h; omega) (List.pairwise_append.mp hp).1
        refine ⟨l, ?_, ?_⟩
        · rw [blk_cons, List.append_nil, h1]
          simp [blk]
        · simpa using h2
      | cons g' A2 ih =>
        intro A1 g hA
        obtain ⟨l2, h3, h4⟩ := ih (A1 ++ [g]) g' (by rw [hA]; simp)
        have hsub : (A1 ++ g' :: A2).Sublist A := by
          rw [hA]
          exact List.Sublist.append (List.Sublist.refl _) (List.sublist_cons_self _ _)
        have hpw := hp.sublist hsub
        obtain ⟨l, h1, h2⟩ := pm_chn (m := m) (w := w ++ [g]) (A := A1 ++ g' :: A2) (by rw [hA] at h; simp at h ⊢; omega) hpw
        refine ⟨l ++ (w ++ g' :: (A1 ++ [g] ++ A2)) :: l2, ?_, ?_⟩
        · rw [blk_cons, h1, h3]
          simp
        · refine chn_app (z := w ++ g :: (A1 ++ g' :: A2).reverse) ?_ ?_ h4
          · simpa using h2
          · rw [hA] at hp
            have hq := List.pairwise_append.mp hp
            have hg := List.pairwise_cons.mp hq.2.1
            refine ⟨w, g, A2.reverse, g', A1.reverse, by simp, by simp, ?_, hg.1 g' List.mem_cons_self, fun z hz => hq.2.2 z (List.mem_reverse.mp hz) g List.mem_cons_self⟩
            have hr := List.pairwise_reverse.mpr (show (A1 ++ g' :: A2).Pairwise (fun a b => b > a) from hpw)
            simpa using hr
    cases A with
    | nil => simp at h
    | cons g A2 =>
      obtain ⟨l, h1, h2⟩ := B A2 [] g rfl
      exact ⟨l, h1, h2⟩
