/-- methods of classes for which the machine has entries of its own -/
theorem zmeetF {d : Nat} {M : zMth} {as : List zV} {μ : zMu} {K : Option zV → zMu → Prop} (hy : plainFor M.1 = true) (hn : (zin as).length ≤ M.2.2.1) (h : ∀ S, zG S d M K 0 (zls M.2.2.1 as) [] μ) : Ct d M as μ K := by
  refine Ct_iff.mpr (fun l X => ?_)
  refine va_MetF (cc := M.2.1) (maxL := M.2.2.1) (ret := M.2.2.2) hy rfl ?_
  intro p e s m args below meth c s₁ B hml hv
  obtain ⟨rfl, hst, hR⟩ := hv
  have hts := atoms_spec (ws := zws M) B.pre
  have hown : s.vm.findClass M.1.cls = some m.cls := findClass_of_methodNamed B.named
  have C : zCx X p (zrm d) s m (as.map (ztr X)).toArray meth c 0 0 M.1.cls M.2.1 M.2.2.1 d M.2.2.2 := ⟨B.exec, B.bytes, hml, hown, fun w hw => hts w (List.mem_cons_of_mem _ hw), B.returns, B.notSynchronized, hst, Nat.le_refl _, Nat.le_refl _, Nat.le_refl _, Nat.le_refl _⟩
  have hl := lv_entry (as.map (ztr X)) (n := M.2.2.1) (by rw [zin_len]; exact hn)
  rw [lg_entry_eq]
  refine zG_iff.mp (h X.2.2.2.2.2) X p l e s m _ below meth c rfl C s.heap [] _ hR va_S.rf ⟨?_, hl.1, hl.2.1, fun q hq => hl.2.2 q (zin_lv as 0 _ q hq)⟩
  rw [zls, List.length_append, List.length_replicate]
  omega
theorem pf_max : plainFor yJ9_max_7cf53 = true := by decide +kernel
theorem pf_min : plainFor yJ9_min_7cf53 = true := by decide +kernel
theorem pf_abs : plainFor yJ9_abs_0f7a4 = true := by decide +kernel
theorem pf_fill : plainFor yJ7_fill_53178 = true := by decide +kernel
theorem pf_bit : plainFor yJ6_bitCount_0f7a4 = true := by decide +kernel
theorem pf_len : plainFor yJ0_length_8abf5 = true := by decide +kernel
theorem pf_chr : plainFor yJ0_charAt_5068e = true := by decide +kernel
theorem pf_cod : plainFor yJ0_coder_7d493 = true := by decide +kernel
theorem pf_lat : plainFor yJ0_isLatin1_aae02 = true := by decide +kernel
theorem pf_chk : plainFor yJ0_checkIndex_df160 = true := by decide +kernel
theorem pf_lch : plainFor yJ1_charAt_3b067 = true := by decide +kernel
theorem pf_pre : plainFor yJ3_checkIndex_8e157 = true := by decide +kernel
