/-! BEHIND THE CONSTRUCTORS: what was built is what the layer stands on -/
theorem arrV_cg {cA : ClassId} {n : Nat} {f g : Nat → Value} (h : ∀ j, j < n → f j = g j) : arrV cA n f = arrV cA n g := by
  unfold arrV
  congr 1
  apply Array.ext_getElem?
  intro j
  by_cases hj : j < n
  · simp [hj, h j hj]
  · simp [hj]
theorem y_at {X : zX} {H : Heap} {n : zN} (h3 : ∀ k, X.1 300 k = X.2.2.2.1 + k) (hX : ∀ f i, f < 200 → X.1 f i = X.2.2.2.1 + yPos f i) {ws : List yC} (hn : n.1 < 200) (hc : yCk ws n = true) (hP : va_P X.2.1 zcl (yWs X ws) H) : va_at X.2.1 zcl (X.1 n.1 n.2, zE X (yMu ws) n) H := by
  obtain ⟨f, i⟩ := n
  have hn : f < 200 := hn
  rw [hX f i hn]
  unfold yCk at hc
  dsimp only at hc
  split at hc
  · rename_i cnt ci fs cj gs ht hw
    simp only [Bool.and_eq_true, decide_eq_true_eq, List.all_eq_true, List.mem_range] at hc
    obtain ⟨⟨rfl, hlen⟩, hk⟩ := hc
    have h1 := hP _ _ (yWs_at hw)
    rw [zE_obj ht]
    have e : gs.map (yF X) = fs.mapIdx (fun k o => match o with
        | none => Value.int (yMu ws f i k)
        | some g => Value.ref (X.1 (g i).1 (g i).2)) := by
      apply List.ext_getElem?
      intro k
      rw [List.getElem?_map, List.getElem?_mapIdx]
      rcases Nat.lt_or_ge k fs.length with w | w
      · have h2 := hk k w
        split at h2
        · rename_i x hf hg
          rw [hf, hg]
          have : yMu ws f i k = x := by simp only [yMu, hw, hg]
          rw [Option.map_some, Option.map_some, this]
          rfl
        · rename_i g f' q hf hg
          simp only [Bool.and_eq_true, decide_eq_true_eq] at h2
          obtain ⟨⟨rfl, h3'⟩, rfl⟩ := h2
          rw [hf, hg, Option.map_some, Option.map_some]
          show some (Value.ref (X.1 300 _)) = some (Value.ref (X.1 (g i).1 (g i).2))
          rw [h3, hX _ _ h3']
        · cases h2
      · rw [List.getElem?_eq_none w, List.getElem?_eq_none (by omega)]
        rfl
    have h2 : va_at X.2.1 zcl (X.2.2.2.1 + yPos f i, .inr (ci, gs.map (yF X))) H := h1
    rw [e] at h2
    exact h2
  · rename_i cnt kd len ke vs ht hw
    simp only [Bool.and_eq_true, decide_eq_true_eq] at hc
    obtain ⟨rfl, rfl⟩ := hc
    have h1 := hP _ _ (yWs_at hw)
    rw [zE_arr ht]
    have e : (fun j => vs.getD j 0) = yMu ws f i := by
      funext k
      simp only [yMu, hw]
    rw [← e]
    exact h1
  · rename_i cnt kd len g ke rs ht hw
    simp only [Bool.and_eq_true, decide_eq_true_eq, List.all_eq_true, List.mem_range] at hc
    obtain ⟨⟨rfl, rfl⟩, hk⟩ := hc
    have h1 : H[X.2.2.2.1 + yPos f i]? = some (arrV (X.2.2.1 kd) rs.length (fun j => va_rf ((rs.getD j none).map (fun q => X.2.2.2.1 + q)))) := hP _ _ (yWs_at hw)
    rw [zE_rfa ht]
    show H[X.2.2.2.1 + yPos f i]? = some (arrV (X.2.2.1 kd) rs.length (fun j => va_rf (some (X.1 (g i j).1 (g i j).2))))
    rw [h1]
    refine congrArg some (arrV_cg (fun j hj => ?_))
    obtain ⟨q1, q2⟩ := hk j hj
    rw [List.getD_eq_getElem?_getD, q2, hX _ _ q1]
    rfl
  · cases hc
theorem y_rep {X : zX} {s : State} {H : Heap} (h3 : ∀ k, X.1 300 k = X.2.2.2.1 + k) (hX : ∀ f i, f < 200 → X.1 f i = X.2.2.2.1 + yPos f i) (h : yRep X yW2 s H) : zRep X (yMu yW2) s H := by
  have hlt : ∀ n, n ∈ zAll → n.1 < 200 := fun n hn => of_decide_eq_true (List.all_eq_true.mp zAll_lt n hn)
  refine ⟨h.1, fun k q hq => ?_, ⟨fun i j p q hi hj e => ?_, fun k q hk => ?_⟩⟩
  · cases hz : zAll[k]? with
    | none =>
      rw [zWs, List.getElem?_map, hz] at hq
      cases hq
    | some n =>
      rw [zWs_at hz] at hq
      cases hq
      exact y_at h3 hX (hlt n (List.mem_of_getElem? hz)) (List.all_eq_true.mp yW2_ck n (List.mem_of_getElem? hz)) h.2.1
  · cases hz : zAll[i]? with
    | none =>
      rw [zWs, List.getElem?_map, hz] at hi
      cases hi
    | some n =>
      cases hz2 : zAll[j]? with
      | none =>
        rw [zWs, List.getElem?_map, hz2] at hj
        cases hj
      | some n2 =>
        rw [zWs_at hz] at hi
        rw [zWs_at hz2] at hj
        cases hi
        cases hj
        have e : X.1 n.1 n.2 = X.1 n2.1 n2.2 := e
        rw [hX _ _ (hlt n (List.mem_of_getElem? hz)), hX _ _ (hlt n2 (List.mem_of_getElem? hz2))] at e
        have e' : yPos n.1 n.2 = yPos n2.1 n2.2 := by omega
        have p1 : (zAll.map (fun n => yPos n.1 n.2))[i]? = some (yPos n.1 n.2) := by rw [List.getElem?_map, hz]; rfl
        have p2 : (zAll.map (fun n => yPos n.1 n.2))[j]? = some (yPos n2.1 n2.2) := by rw [List.getElem?_map, hz2]; rfl
        obtain ⟨l1, e1⟩ := List.getElem?_eq_some_iff.mp p1
        obtain ⟨l2, e2⟩ := List.getElem?_eq_some_iff.mp p2
        have hp := List.pairwise_iff_getElem.mp yPos_nd
        rcases Nat.lt_trichotomy i j with w | w | w
        · exact absurd (e1.trans (e'.trans e2.symm)) (hp i j l1 l2 w)
        · exact w
        · exact absurd (e2.trans (e'.symm.trans e1.symm)) (hp j i l2 l1 w)
  · cases hz : zAll[k]? with
    | none =>
      rw [zWs, List.getElem?_map, hz] at hk
      cases hk
    | some n =>
      rw [zWs_at hz] at hk
      cases hk
      show X.2.2.2.1 ≤ X.1 n.1 n.2
      rw [hX _ _ (hlt n (List.mem_of_getElem? hz))]
      omega
theorem y_cells : (∀ a, a < 10 → ∀ b, b < 10 → yMu yW2 36 a b = 0 ∧ yMu yW2 53 0 (10 * a + b) = 0) ∧ (∀ a, a < 8 → ∀ b, b < 8 → yMu yW2 38 a b = 0 ∧ yMu yW2 54 0 (8 * a + b) = 0) ∧ (∀ k, k < 33 → yMu yW2 80 0 k = gLet.getD k 0) ∧ (∀ k, k < 7 → yMu yW2 81 0 k = gBeg.getD k 0) ∧ (∀ k, k < 7 → yMu yW2 82 0 k = gLon.getD k 0) := by decide +kernel
theorem y_nums : yMu yW2 1 0 0 = 0 ∧ yMu yW2 48 0 0 = 0 ∧ yMu yW2 1 0 1 = 0 ∧ yMu yW2 48 0 5 = 0 ∧ yMu yW2 2 0 0 = 0 ∧ yMu yW2 48 0 14 = 0 ∧ yMu yW2 3 0 0 = 0 ∧ yMu yW2 48 0 15 = 0 ∧ yMu yW2 3 0 1 = 0 ∧ yMu yW2 48 0 33 = 0 ∧ yMu yW2 5 0 0 = 0 ∧ yMu yW2 48 0 42 = 0 ∧ yMu yW2 7 0 0 = 0 ∧ yMu yW2 48 0 48 = 0 ∧ yMu yW2 7 0 1 = 10 ∧ yMu yW2 48 0 52 = 10 := by decide +kernel
theorem y_Rel : Rel (yMu yW2) := by
  obtain ⟨c1, c2, c3, c4, c5⟩ := y_cells
  obtain ⟨n1, n2, n3, n4, n5, n6, n7, n8, n9, n10, n11, n12, n13, n14, n15, n16⟩ := y_nums
  refine ⟨0, 0, 0, 0, 0, 0, [], ⟨n1, n2, by omega, fun s hs => absurd hs (by omega)⟩, ⟨n3, n4, by omega, fun s hs => absurd hs (by omega)⟩, ⟨n5, n6, by omega, fun s hs => absurd hs (by omega)⟩, ⟨n7, n8, by omega, fun s hs => absurd hs (by omega)⟩, ⟨n9, n10, by omega, fun s hs => absurd hs (by omega)⟩, ⟨n11, n12, by omega, fun s hs => absurd hs (by omega)⟩, fun a b ha hb => ?_, fun a b ha hb => ?_, ⟨⟨n13, by decide, fun k e h => by simp at h⟩, ⟨n14, fun k e h => by simp at h⟩⟩, n16.trans n15.symm, ⟨c3, c4, c5⟩⟩
  · rw [(c1 a ha b hb).1, (c1 a ha b hb).2, (c1 b hb a ha).1]
    exact ⟨Or.inl rfl, rfl, rfl⟩
  · rw [(c2 a ha b hb).1, (c2 a ha b hb).2, (c2 b hb a ha).1]
    exact ⟨⟨0, by omega, rfl⟩, rfl, rfl⟩
