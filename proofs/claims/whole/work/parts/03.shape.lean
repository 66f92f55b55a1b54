/-! the shape of all cells behind the two constructors: family, how many, what: an object (class, fields: none a number, some g a reference), an array of numbers (kind, length), an array of references -/
abbrev zN : Type := Nat × Nat
abbrev zD : Type := Nat × ((Nat × List (Option (Nat → zN))) ⊕ ((Nat × Nat) ⊕ (Nat × Nat × (Nat → Nat → zN))))
def zTab : List zD := [
  (1, .inl (9, [some (fun _ => (1, 0)), some (fun _ => (2, 0)), some (fun _ => (3, 0)), some (fun _ => (4, 0)), some (fun _ => (5, 0)), some (fun _ => (6, 0)), some (fun _ => (7, 0))])),
  (1, .inl (3, [none, none, some (fun _ => (10, 0)), some (fun _ => (11, 0)), some (fun _ => (12, 0)), some (fun _ => (13, 0)), some (fun _ => (14, 0)), some (fun _ => (15, 0)), some (fun _ => (16, 0))])),
  (1, .inl (8, [none, some (fun _ => (18, 0)), none, none])),
  (1, .inl (5, [none, none, some (fun _ => (19, 0)), some (fun _ => (20, 0)), some (fun _ => (21, 0)), some (fun _ => (1, 0))])),
  (1, .inl (2, [none, none, some (fun _ => (27, 0)), some (fun _ => (28, 0)), some (fun _ => (29, 0)), some (fun _ => (30, 0)), some (fun _ => (31, 0)), some (fun _ => (32, 0)), some (fun _ => (1, 0)), some (fun _ => (3, 0))])),
  (1, .inl (1, [none, some (fun _ => (34, 0)), some (fun _ => (35, 0)), some (fun _ => (37, 0)), some (fun _ => (39, 0)), some (fun _ => (1, 0))])),
  (1, .inl (6, [some (fun _ => (41, 0)), some (fun _ => (42, 0)), some (fun _ => (43, 0)), some (fun _ => (44, 0)), some (fun _ => (5, 0)), none, none])),
  (1, .inl (0, [none, none, some (fun _ => (45, 0)), some (fun _ => (46, 0)), some (fun _ => (47, 0))])),
  (16, .inl (4, [none, none, none, none, none, none, none, some (fun i => (22, i)), some (fun i => (23, i)), some (fun i => (24, i)), some (fun i => (25, i)), some (fun i => (26, i))])),
  (4, .inl (7, [none, some (fun i => (40, i)), none])),
  (1, .inr (.inl (0, 20))),
  (1, .inr (.inl (0, 20))),
  (1, .inr (.inr (4, 20, fun _ j => (17, j)))),
  (1, .inr (.inl (0, 10))),
  (1, .inr (.inl (0, 10))),
  (1, .inr (.inl (0, 20))),
  (1, .inr (.inl (0, 20))),
  (20, .inr (.inl (0, 7))),
  (1, .inr (.inl (0, 200))),
  (1, .inr (.inr (5, 16, fun _ j => (8, j)))),
  (1, .inr (.inl (0, 20))),
  (1, .inr (.inl (0, 20))),
  (16, .inr (.inl (1, 4))),
  (16, .inr (.inl (1, 4))),
  (16, .inr (.inl (0, 4))),
  (16, .inr (.inl (0, 4))),
  (16, .inr (.inl (0, 4))),
  (1, .inr (.inl (0, 20))),
  (1, .inr (.inl (0, 20))),
  (1, .inr (.inl (1, 20))),
  (1, .inr (.inl (0, 20))),
  (1, .inr (.inl (0, 20))),
  (1, .inr (.inr (4, 20, fun _ j => (33, j)))),
  (20, .inr (.inl (0, 20))),
  (1, .inr (.inr (6, 4, fun _ j => (9, j)))),
  (1, .inr (.inr (4, 10, fun _ j => (36, j)))),
  (10, .inr (.inl (0, 10))),
  (1, .inr (.inr (4, 8, fun _ j => (38, j)))),
  (8, .inr (.inl (0, 8))),
  (1, .inr (.inl (0, 20))),
  (4, .inr (.inl (0, 12))),
  (1, .inr (.inl (0, 7))),
  (1, .inr (.inl (1, 7))),
  (1, .inr (.inl (0, 12))),
  (1, .inr (.inl (0, 12))),
  (1, .inr (.inl (0, 40))),
  (1, .inr (.inl (0, 40))),
  (1, .inr (.inl (0, 40))),
  (1, .inl (10, [none, some (fun _ => (51, 0)), some (fun _ => (52, 0)), some (fun _ => (53, 0)), some (fun _ => (54, 0)), none, some (fun _ => (56, 0)), some (fun _ => (57, 0)), some (fun _ => (58, 0)), some (fun _ => (59, 0)), some (fun _ => (60, 0)), some (fun _ => (61, 0)), some (fun _ => (62, 0)), some (fun _ => (63, 0)), none, none, some (fun _ => (66, 0)), some (fun _ => (67, 0)), some (fun _ => (68, 0)), some (fun _ => (69, 0)), some (fun _ => (70, 0)), some (fun _ => (71, 0)), some (fun _ => (72, 0)), some (fun _ => (73, 0)), some (fun _ => (74, 0)), some (fun _ => (75, 0)), some (fun _ => (76, 0)), some (fun _ => (77, 0)), none, none, some (fun _ => (80, 0)), some (fun _ => (81, 0)), some (fun _ => (82, 0)), none, some (fun _ => (84, 0)), some (fun _ => (85, 0)), some (fun _ => (86, 0)), none, some (fun _ => (88, 0)), some (fun _ => (89, 0)), none, some (fun _ => (91, 0)), none, some (fun _ => (93, 0)), some (fun _ => (94, 0)), some (fun _ => (95, 0)), some (fun _ => (96, 0)), some (fun _ => (97, 0)), none, some (fun _ => (99, 0)), some (fun _ => (100, 0)), some (fun _ => (101, 0)), none])),
  (0, .inr (.inl (0, 0))),
  (0, .inr (.inl (0, 0))),
  (1, .inr (.inl (0, 10))),
  (1, .inr (.inl (0, 10))),
  (1, .inr (.inl (1, 100))),
  (1, .inr (.inl (0, 64))),
  (0, .inr (.inl (0, 0))),
  (1, .inr (.inl (0, 20))),
  (1, .inr (.inl (0, 20))),
  (1, .inr (.inl (0, 20))),
  (1, .inr (.inl (0, 20))),
  (1, .inr (.inl (0, 20))),
  (1, .inr (.inl (0, 20))),
  (1, .inr (.inl (1, 20))),
  (1, .inr (.inl (2, 200))),
  (0, .inr (.inl (0, 0))),
  (0, .inr (.inl (0, 0))),
  (1, .inr (.inl (0, 16))),
  (1, .inr (.inl (0, 16))),
  (1, .inr (.inl (1, 16))),
  (1, .inr (.inl (1, 16))),
  (1, .inr (.inl (0, 16))),
  (1, .inr (.inl (0, 16))),
  (1, .inr (.inl (0, 16))),
  (1, .inr (.inl (1, 64))),
  (1, .inr (.inl (1, 64))),
  (1, .inr (.inl (0, 64))),
  (1, .inr (.inl (0, 64))),
  (1, .inr (.inl (0, 64))),
  (0, .inr (.inl (0, 0))),
  (0, .inr (.inl (0, 0))),
  (1, .inr (.inl (3, 33))),
  (1, .inr (.inl (0, 7))),
  (1, .inr (.inl (0, 7))),
  (0, .inr (.inl (0, 0))),
  (1, .inr (.inl (0, 20))),
  (1, .inr (.inl (0, 20))),
  (1, .inr (.inl (0, 20))),
  (0, .inr (.inl (0, 0))),
  (1, .inr (.inl (1, 20))),
  (1, .inr (.inl (0, 20))),
  (0, .inr (.inl (0, 0))),
  (1, .inr (.inl (0, 21))),
  (0, .inr (.inl (0, 0))),
  (1, .inr (.inl (1, 4))),
  (1, .inr (.inl (0, 4))),
  (1, .inr (.inl (0, 48))),
  (1, .inr (.inl (0, 12))),
  (1, .inr (.inl (0, 12))),
  (0, .inr (.inl (0, 0))),
  (1, .inr (.inl (0, 40))),
  (1, .inr (.inl (0, 40))),
  (1, .inr (.inl (0, 40))),
  (0, .inr (.inl (0, 0)))]
abbrev zcl : List vw_C := [(RX0, TX0, 5), (RX1, TX1, 6), (RX2, TX2, 10), (RX3, TX3, 9), (RX4, TX4, 12), (RX5, TX5, 6), (RX6, TX6, 7), (RX7, TX7, 3), (RX8, TX8, 4), (RX9, TX9, 7), (RX10, TX10, 53)]
def zty : Nat → Nat → FieldType := fun c => match c with
  | 0 => tyX0
  | 1 => tyX1
  | 2 => tyX2
  | 3 => tyX3
  | 4 => tyX4
  | 5 => tyX5
  | 6 => tyX6
  | 7 => tyX7
  | 8 => tyX8
  | 9 => tyX9
  | _ => tyX10
def zT : List Cond := lw_tbl.filter goodWord
theorem zlay0 : ∀ w ∈ u_ws RX0 TX0 5, w ∈ zT := by
  intro w hw
  refine List.mem_filter.mpr ⟨?_, ?_⟩
  · exact (by decide +kernel : ∀ w ∈ u_ws RX0 TX0 5, w ∈ lw_tbl) w hw
  · exact (by decide +kernel : ∀ w ∈ u_ws RX0 TX0 5, goodWord w = true) w hw
theorem zlay1 : ∀ w ∈ u_ws RX1 TX1 6, w ∈ zT := by
  intro w hw
  refine List.mem_filter.mpr ⟨?_, ?_⟩
  · exact (by decide +kernel : ∀ w ∈ u_ws RX1 TX1 6, w ∈ lw_tbl) w hw
  · exact (by decide +kernel : ∀ w ∈ u_ws RX1 TX1 6, goodWord w = true) w hw
theorem zlay2 : ∀ w ∈ u_ws RX2 TX2 10, w ∈ zT := by
  intro w hw
  refine List.mem_filter.mpr ⟨?_, ?_⟩
  · exact (by decide +kernel : ∀ w ∈ u_ws RX2 TX2 10, w ∈ lw_tbl) w hw
  · exact (by decide +kernel : ∀ w ∈ u_ws RX2 TX2 10, goodWord w = true) w hw
theorem zlay3 : ∀ w ∈ u_ws RX3 TX3 9, w ∈ zT := by
  intro w hw
  refine List.mem_filter.mpr ⟨?_, ?_⟩
  · exact (by decide +kernel : ∀ w ∈ u_ws RX3 TX3 9, w ∈ lw_tbl) w hw
  · exact (by decide +kernel : ∀ w ∈ u_ws RX3 TX3 9, goodWord w = true) w hw
theorem zlay4 : ∀ w ∈ u_ws RX4 TX4 12, w ∈ zT := by
  intro w hw
  refine List.mem_filter.mpr ⟨?_, ?_⟩
  · exact (by decide +kernel : ∀ w ∈ u_ws RX4 TX4 12, w ∈ lw_tbl) w hw
  · exact (by decide +kernel : ∀ w ∈ u_ws RX4 TX4 12, goodWord w = true) w hw
theorem zlay5 : ∀ w ∈ u_ws RX5 TX5 6, w ∈ zT := by
  intro w hw
  refine List.mem_filter.mpr ⟨?_, ?_⟩
  · exact (by decide +kernel : ∀ w ∈ u_ws RX5 TX5 6, w ∈ lw_tbl) w hw
  · exact (by decide +kernel : ∀ w ∈ u_ws RX5 TX5 6, goodWord w = true) w hw
theorem zlay6 : ∀ w ∈ u_ws RX6 TX6 7, w ∈ zT := by
  intro w hw
  refine List.mem_filter.mpr ⟨?_, ?_⟩
  · exact (by decide +kernel : ∀ w ∈ u_ws RX6 TX6 7, w ∈ lw_tbl) w hw
  · exact (by decide +kernel : ∀ w ∈ u_ws RX6 TX6 7, goodWord w = true) w hw
theorem zlay7 : ∀ w ∈ u_ws RX7 TX7 3, w ∈ zT := by
  intro w hw
  refine List.mem_filter.mpr ⟨?_, ?_⟩
  · exact (by decide +kernel : ∀ w ∈ u_ws RX7 TX7 3, w ∈ lw_tbl) w hw
  · exact (by decide +kernel : ∀ w ∈ u_ws RX7 TX7 3, goodWord w = true) w hw
theorem zlay8 : ∀ w ∈ u_ws RX8 TX8 4, w ∈ zT := by
  intro w hw
  refine List.mem_filter.mpr ⟨?_, ?_⟩
  · exact (by decide +kernel : ∀ w ∈ u_ws RX8 TX8 4, w ∈ lw_tbl) w hw
  · exact (by decide +kernel : ∀ w ∈ u_ws RX8 TX8 4, goodWord w = true) w hw
theorem zlay9 : ∀ w ∈ u_ws RX9 TX9 7, w ∈ zT := by
  intro w hw
  refine List.mem_filter.mpr ⟨?_, ?_⟩
  · exact (by decide +kernel : ∀ w ∈ u_ws RX9 TX9 7, w ∈ lw_tbl) w hw
  · exact (by decide +kernel : ∀ w ∈ u_ws RX9 TX9 7, goodWord w = true) w hw
theorem zlay10 : ∀ w ∈ u_ws RX10 TX10 53, w ∈ zT := by
  intro w hw
  refine List.mem_filter.mpr ⟨?_, ?_⟩
  · exact (by decide +kernel : ∀ w ∈ u_ws RX10 TX10 53, w ∈ lw_tbl) w hw
  · exact (by decide +kernel : ∀ w ∈ u_ws RX10 TX10 53, goodWord w = true) w hw
theorem zlay {ci : Nat} {C : String} {T : u_T} {N : Nat} (h : zcl[ci]? = some (C, T, N)) : (∀ w ∈ u_ws C T N, w ∈ zT) ∧ (∀ k, k < N → parseFieldDescriptor (T k).2.2.1 = some (zty ci k)) ∧ (∀ a, a < N → ∀ b, b < N → a ≠ b → (T a).2.1 ≠ (T b).2.1) := by
  match ci, h with
  | 0, h => cases h; exact ⟨zlay0, tyX0_ok, nmX0⟩
  | 1, h => cases h; exact ⟨zlay1, tyX1_ok, nmX1⟩
  | 2, h => cases h; exact ⟨zlay2, tyX2_ok, nmX2⟩
  | 3, h => cases h; exact ⟨zlay3, tyX3_ok, nmX3⟩
  | 4, h => cases h; exact ⟨zlay4, tyX4_ok, nmX4⟩
  | 5, h => cases h; exact ⟨zlay5, tyX5_ok, nmX5⟩
  | 6, h => cases h; exact ⟨zlay6, tyX6_ok, nmX6⟩
  | 7, h => cases h; exact ⟨zlay7, tyX7_ok, nmX7⟩
  | 8, h => cases h; exact ⟨zlay8, tyX8_ok, nmX8⟩
  | 9, h => cases h; exact ⟨zlay9, tyX9_ok, nmX9⟩
  | 10, h => cases h; exact ⟨zlay10, tyX10_ok, nmX10⟩
  | n + 11, h => exact absurd h (by simp [zcl])
