/-! CONSTRUCTORS: stores into arrays, arrays of arrays -/
section YS2
variable {X : zX} {p : Program} {l : Launch} {e : Env} {R : Room} {s : State} {m : MethodId} {args : Array Value} {below : List Frame} {meth : Method} {c : Code} {cells slots : Nat} {Q : State → Prop}
variable {own : String} {cc : ByteArray} {H : Heap} {locs : List Loc} {la : Array Slot} {ws : List yC} {pc : Nat} {rest : List Value}
theorem yUpd {vs : List Int32} {j : Nat} {x : Int32} (hj : j < vs.length) : updV (fun q => Value.int (vs.getD q 0)) j (.int x) = fun q => .int ((vs.set j x).getD q 0) := by
  funext q
  by_cases hq : q = j
  · subst hq
    simp [updV, List.getD_eq_getElem?_getD, hj]
  · have hq' : ¬ j = q := fun z => hq z.symm
    simp [updV, List.getD_eq_getElem?_getD, List.getElem?_set, hq, hq']
theorem y_iast (hx : p.tables.exec = Jvm.exec) (hb : c.code = cc) {q0 : Nat} {vs : List Int32} {i x : Int32} (hR : yRep X ws s H) (hS : va_S (zA X) s.heap H locs) (he : ws[q0]? = some (.inr (.inl (0, vs)))) (hin : vp_in i vs.length) (hdg : decode cc pc = .ok (.iastore, 1))
    (kk : ∀ (H1 : Heap) (locs1 : List Loc), yRep X (ws.set q0 (.inr (.inl (0, vs.set i.toNatClampNeg x)))) s H1 → va_S (zA X) s.heap H1 locs1 → W p l e R s m args below meth c H1 locs1 cells slots Q (F0 m (pc + 1) la rest)) : W p l e R s m args below meth c H locs cells slots Q (F0 m pc la (.int x :: .int i :: .ref (X.2.2.2.1 + q0) :: rest)) := by
  have ha : H[X.2.2.2.1 + q0]? = some (arrV (X.2.2.1 0) vs.length (fun j => .int (vs.getD j 0))) := hR.2.1 q0 _ (yWs_at he)
  have hlt : i.toNatClampNeg < vs.length := Nat.not_le.mp fun q => hin (Or.inr q)
  refine W.iast hx hb ha ((hR.1.2 0 _ rfl).1 vs.length (fun j => .int (vs.getD j 0))) (fun q => by cases q) (by rw [arrV_size]; exact hin) rfl rfl hdg fun H1 e1 z1 o1 => ?_
  refine kk H1 _ (ySet hR he z1 o1 ?_) (hS.put z1 o1 (yD.2 q0 _ (yWs_at he)))
  show H1[X.2.2.2.1 + q0]? = some (arrV (X.2.2.1 0) (vs.set i.toNatClampNeg x).length (fun j => .int ((vs.set i.toNatClampNeg x).getD j 0)))
  rw [e1, arrV_store, List.length_set, yUpd hlt]
theorem y_cast (hx : p.tables.exec = Jvm.exec) (hb : c.code = cc) {q0 : Nat} {vs : List Int32} {i x : Int32} (hR : yRep X ws s H) (hS : va_S (zA X) s.heap H locs) (he : ws[q0]? = some (.inr (.inl (3, vs)))) (hin : vp_in i vs.length) (hna : narrow .char (.int x) = .int x) (hdg : decode cc pc = .ok (.castore, 1))
    (kk : ∀ (H1 : Heap) (locs1 : List Loc), yRep X (ws.set q0 (.inr (.inl (3, vs.set i.toNatClampNeg x)))) s H1 → va_S (zA X) s.heap H1 locs1 → W p l e R s m args below meth c H1 locs1 cells slots Q (F0 m (pc + 1) la rest)) : W p l e R s m args below meth c H locs cells slots Q (F0 m pc la (.int x :: .int i :: .ref (X.2.2.2.1 + q0) :: rest)) := by
  have ha : H[X.2.2.2.1 + q0]? = some (arrV (X.2.2.1 3) vs.length (fun j => .int (vs.getD j 0))) := hR.2.1 q0 _ (yWs_at he)
  have hlt : i.toNatClampNeg < vs.length := Nat.not_le.mp fun q => hin (Or.inr q)
  refine W.cast hx hb ha ((hR.1.2 3 _ rfl).1 vs.length (fun j => .int (vs.getD j 0))) (fun q => by cases q) (by rw [arrV_size]; exact hin) rfl rfl hdg fun H1 e1 z1 o1 => ?_
  refine kk H1 _ (ySet hR he z1 o1 ?_) (hS.put z1 o1 (yD.2 q0 _ (yWs_at he)))
  show H1[X.2.2.2.1 + q0]? = some (arrV (X.2.2.1 3) (vs.set i.toNatClampNeg x).length (fun j => .int ((vs.set i.toNatClampNeg x).getD j 0)))
  rw [e1, hna, arrV_store, List.length_set, yUpd hlt]
theorem yUpR {B : Nat} {rs : List (Option Nat)} {j v : Nat} (hj : j < rs.length) : updV (fun q => va_rf ((rs.getD q none).map (fun z => B + z))) j (.ref (B + v)) = fun q => va_rf (((rs.set j (some v)).getD q none).map (fun z => B + z)) := by
  funext q
  by_cases hq : q = j
  · subst hq
    simp [updV, List.getD_eq_getElem?_getD, hj, va_rf]
  · have hq' : ¬ j = q := fun z => hq z.symm
    simp [updV, List.getD_eq_getElem?_getD, List.getElem?_set, hq, hq']
theorem y_aast (hx : p.tables.exec = Jvm.exec) (hb : c.code = cc) {q0 qk kd ci : Nat} {rs : List (Option Nat)} {fs : List (Option zV)} {r : vw_C} {i : Int32} (hR : yRep X ws s H) (hS : va_S (zA X) s.heap H locs) (he : ws[q0]? = some (.inr (.inr (kd, rs)))) (ht : (ztys X)[kd]? = some (X.2.2.1 kd, .object r.1)) (hv : ws[qk]? = some (.inl (ci, fs))) (hc : zcl[ci]? = some r) (hin : vp_in i rs.length) (hdg : decode cc pc = .ok (.aastore, 1))
    (kk : ∀ (H1 : Heap) (locs1 : List Loc), yRep X (ws.set q0 (.inr (.inr (kd, rs.set i.toNatClampNeg (some qk))))) s H1 → va_S (zA X) s.heap H1 locs1 → W p l e R s m args below meth c H1 locs1 cells slots Q (F0 m (pc + 1) la rest)) : W p l e R s m args below meth c H locs cells slots Q (F0 m pc la (.ref (X.2.2.2.1 + qk) :: .int i :: .ref (X.2.2.2.1 + q0) :: rest)) := by
  have ha : H[X.2.2.2.1 + q0]? = some (arrV (X.2.2.1 kd) rs.length (fun j => va_rf ((rs.getD j none).map (fun z => X.2.2.2.1 + z)))) := hR.2.1 q0 _ (yWs_at he)
  have hlt : i.toNatClampNeg < rs.length := Nat.not_le.mp fun q => hin (Or.inr q)
  have h0 : ¬ i < 0 := fun q => hin (Or.inl q)
  obtain ⟨r', hr', cellV, g1, g2, g3, -⟩ := hR.2.1 qk _ (yWs_at hv)
  have hcls := (hR.1.1 ci r hc).2
  obtain ⟨kA, comp, k1, k2, k3, -⟩ := (hR.1.2 kd _ ht).2
  have hcomp : comp = X.2.1.1 ci := Option.some.inj (k3.symm.trans hcls.1)
  subst hcomp
  obtain ⟨kC, hkC, -⟩ := hcls.2
  refine W.aast hx hb ha (fun q h => by cases h) (fun h => by cases h) k1 k2 rfl hkC ⟨h0, by rw [arrV_size]; exact hlt⟩ g1 (fun q h => by rw [g3] at h; cases h) (by rw [g2]; exact hkC) (by rw [g2]; exact va_assign hcls) rfl rfl hdg fun H1 e1 z1 o1 => ?_
  refine kk H1 _ (ySet hR he z1 o1 ?_) (hS.put z1 o1 (yD.2 q0 _ (yWs_at he)))
  show H1[X.2.2.2.1 + q0]? = some (arrV (X.2.2.1 kd) (rs.set i.toNatClampNeg (some qk)).length (fun j => va_rf (((rs.set i.toNatClampNeg (some qk)).getD j none).map (fun z => X.2.2.2.1 + z))))
  rw [e1, arrV_store, List.length_set, yUpR hlt]
def yGrid (L N M : Nat) : List yC := .inr (.inr (4, (List.range N).map (fun i => some (L + 1 + i)))) :: List.replicate N (.inr (.inl (0, List.replicate M 0)))
end YS2
