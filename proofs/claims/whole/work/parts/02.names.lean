/-! names: classes by number, fields, methods, links -/
def g_T : List Cond := lw_tbl.filter goodWord
theorem g_w {w : Cond} (i : Nat) (h : lw_tbl[i]? = some w) (hg : goodWord w = true) : w ∈ g_T := List.mem_filter.mpr ⟨List.mem_of_getElem? h, hg⟩
theorem g_T_tbl {w : Cond} (h : w ∈ g_T) : w ∈ lw_tbl := (List.mem_filter.mp h).1
theorem g_T_good {w : Cond} (h : w ∈ g_T) : (w.onTables && w.keeps) = true ∨ ∃ ty, w = .arrayClass ty := good_of_word (List.mem_filter.mp h).2
def R_0 : String := "LassoPaths$Formula"
def T_0 : u_T := fun k => match k with
  | 0 => ("LassoPaths$Formula", "letters", "[I", true)
  | 1 => ("LassoPaths$Formula", "size", "I", false)
  | _ => ("LassoPaths$Formula", "laters", "I", false)
def ty_0 : Nat → FieldType := fun k => match k with
  | 0 => .array (.int)
  | 1 => .int
  | _ => .int
theorem nm_0 : ∀ a, a < 3 → ∀ b, b < 3 → a ≠ b → (T_0 a).2.1 ≠ (T_0 b).2.1 := by decide +kernel
theorem ty_0_ok : ∀ k, k < 3 → parseFieldDescriptor (T_0 k).2.2.1 = some (ty_0 k) := by decide +kernel
theorem in_0 : ∀ w ∈ u_ws R_0 T_0 3, w ∈ g_T := fun w hw => by
  have h : u_ws R_0 T_0 3 = ([108, 110, 112] : List Nat).filterMap (fun i => lw_tbl[i]?) := by decide +kernel
  have h2 : (u_ws R_0 T_0 3).all goodWord = true := by decide +kernel
  have h3 := List.all_eq_true.mp h2 w hw
  rw [h] at hw
  obtain ⟨i, -, hi⟩ := List.mem_filterMap.mp hw
  exact g_w i hi h3
def R_1 : String := "LassoPaths$Ground"
def T_1 : u_T := fun k => match k with
  | 0 => ("LassoPaths$Ground", "places", "I", false)
  | 1 => ("LassoPaths$Ground", "placeLabel", "[I", true)
  | _ => ("LassoPaths$Ground", "targets", "[[I", true)
def ty_1 : Nat → FieldType := fun k => match k with
  | 0 => .int
  | 1 => .array (.int)
  | _ => .array (.array (.int))
theorem nm_1 : ∀ a, a < 3 → ∀ b, b < 3 → a ≠ b → (T_1 a).2.1 ≠ (T_1 b).2.1 := by decide +kernel
theorem ty_1_ok : ∀ k, k < 3 → parseFieldDescriptor (T_1 k).2.2.1 = some (ty_1 k) := by decide +kernel
theorem in_1 : ∀ w ∈ u_ws R_1 T_1 3, w ∈ g_T := fun w hw => by
  have h : u_ws R_1 T_1 3 = ([211, 213, 215] : List Nat).filterMap (fun i => lw_tbl[i]?) := by decide +kernel
  have h2 : (u_ws R_1 T_1 3).all goodWord = true := by decide +kernel
  have h3 := List.all_eq_true.mp h2 w hw
  rw [h] at hw
  obtain ⟨i, -, hi⟩ := List.mem_filterMap.mp hw
  exact g_w i hi h3
def R_2 : String := "LassoPaths$LoopSearch"
def T_2 : u_T := fun k => match k with
  | 0 => ("LassoPaths$LoopSearch", "length", "I", false)
  | 1 => ("LassoPaths$LoopSearch", "entry", "I", false)
  | 2 => ("LassoPaths$LoopSearch", "entryPlace", "I", false)
  | 3 => ("LassoPaths$LoopSearch", "tableau", "LLassoPaths$Tableau;", true)
  | 4 => ("LassoPaths$LoopSearch", "seen", "[J", true)
  | 5 => ("LassoPaths$LoopSearch", "front", "[J", true)
  | _ => ("LassoPaths$LoopSearch", "next", "[J", true)
def ty_2 : Nat → FieldType := fun k => match k with
  | 0 => .int
  | 1 => .int
  | 2 => .int
  | 3 => .object "LassoPaths$Tableau"
  | 4 => .array (.long)
  | 5 => .array (.long)
  | _ => .array (.long)
theorem nm_2 : ∀ a, a < 7 → ∀ b, b < 7 → a ≠ b → (T_2 a).2.1 ≠ (T_2 b).2.1 := by decide +kernel
theorem ty_2_ok : ∀ k, k < 7 → parseFieldDescriptor (T_2 k).2.2.1 = some (ty_2 k) := by decide +kernel
theorem in_2 : ∀ w ∈ u_ws R_2 T_2 7, w ∈ g_T := fun w hw => by
  have h : u_ws R_2 T_2 7 = ([300, 302, 304, 306, 308, 310, 312] : List Nat).filterMap (fun i => lw_tbl[i]?) := by decide +kernel
  have h2 : (u_ws R_2 T_2 7).all goodWord = true := by decide +kernel
  have h3 := List.all_eq_true.mp h2 w hw
  rw [h] at hw
  obtain ⟨i, -, hi⟩ := List.mem_filterMap.mp hw
  exact g_w i hi h3
def R_3 : String := "LassoPaths$SystemReader"
def T_3 : u_T := fun k => match k with
  | 0 => ("LassoPaths$SystemReader", "text", "[I", true)
  | 1 => ("LassoPaths$SystemReader", "length", "I", false)
  | 2 => ("LassoPaths$SystemReader", "place", "I", false)
  | 3 => ("LassoPaths$SystemReader", "start", "I", false)
  | 4 => ("LassoPaths$SystemReader", "kind", "I", false)
  | _ => ("LassoPaths$SystemReader", "value", "I", false)
def ty_3 : Nat → FieldType := fun k => match k with
  | 0 => .array (.int)
  | 1 => .int
  | 2 => .int
  | 3 => .int
  | 4 => .int
  | _ => .int
theorem nm_3 : ∀ a, a < 6 → ∀ b, b < 6 → a ≠ b → (T_3 a).2.1 ≠ (T_3 b).2.1 := by decide +kernel
theorem ty_3_ok : ∀ k, k < 6 → parseFieldDescriptor (T_3 k).2.2.1 = some (ty_3 k) := by decide +kernel
theorem in_3 : ∀ w ∈ u_ws R_3 T_3 6, w ∈ g_T := fun w hw => by
  have h : u_ws R_3 T_3 6 = ([171, 173, 175, 177, 179, 181] : List Nat).filterMap (fun i => lw_tbl[i]?) := by decide +kernel
  have h2 : (u_ws R_3 T_3 6).all goodWord = true := by decide +kernel
  have h3 := List.all_eq_true.mp h2 w hw
  rw [h] at hw
  obtain ⟨i, -, hi⟩ := List.mem_filterMap.mp hw
  exact g_w i hi h3
def R_4 : String := "LassoPaths$Tableau"
def T_4 : u_T := fun k => match k with
  | 0 => ("LassoPaths$Tableau", "ground", "LLassoPaths$Ground;", true)
  | 1 => ("LassoPaths$Tableau", "guesses", "I", false)
  | 2 => ("LassoPaths$Tableau", "nodes", "I", false)
  | 3 => ("LassoPaths$Tableau", "all", "J", false)
  | 4 => ("LassoPaths$Tableau", "nodesOfPlace0", "J", false)
  | 5 => ("LassoPaths$Tableau", "so", "[J", true)
  | 6 => ("LassoPaths$Tableau", "laters", "I", false)
  | 7 => ("LassoPaths$Tableau", "waiting", "[J", true)
  | 8 => ("LassoPaths$Tableau", "meanwhile", "[J", true)
  | 9 => ("LassoPaths$Tableau", "goal", "[J", true)
  | 10 => ("LassoPaths$Tableau", "atNext", "[Z", true)
  | 11 => ("LassoPaths$Tableau", "steps", "[[J", true)
  | 12 => ("LassoPaths$Tableau", "due", "I", false)
  | 13 => ("LassoPaths$Tableau", "met", "[I", true)
  | 14 => ("LassoPaths$Tableau", "metByStep", "[I", true)
  | 15 => ("LassoPaths$Tableau", "reach", "[J", true)
  | 16 => ("LassoPaths$Tableau", "ring", "[J", true)
  | 17 => ("LassoPaths$Tableau", "core", "J", false)
  | _ => ("LassoPaths$Tableau", "live", "J", false)
def ty_4 : Nat → FieldType := fun k => match k with
  | 0 => .object "LassoPaths$Ground"
  | 1 => .int
  | 2 => .int
  | 3 => .long
  | 4 => .long
  | 5 => .array (.long)
  | 6 => .int
  | 7 => .array (.long)
  | 8 => .array (.long)
  | 9 => .array (.long)
  | 10 => .array (.boolean)
  | 11 => .array (.array (.long))
  | 12 => .int
  | 13 => .array (.int)
  | 14 => .array (.int)
  | 15 => .array (.long)
  | 16 => .array (.long)
  | 17 => .long
  | _ => .long
theorem nm_4 : ∀ a, a < 19 → ∀ b, b < 19 → a ≠ b → (T_4 a).2.1 ≠ (T_4 b).2.1 := by decide +kernel
theorem ty_4_ok : ∀ k, k < 19 → parseFieldDescriptor (T_4 k).2.2.1 = some (ty_4 k) := by decide +kernel
theorem in_4 : ∀ w ∈ u_ws R_4 T_4 19, w ∈ g_T := fun w hw => by
  have h : u_ws R_4 T_4 19 = ([249, 251, 253, 255, 257, 259, 261, 263, 265, 267, 269, 271, 273, 275, 277, 279, 281, 283, 285] : List Nat).filterMap (fun i => lw_tbl[i]?) := by decide +kernel
  have h2 : (u_ws R_4 T_4 19).all goodWord = true := by decide +kernel
  have h3 := List.all_eq_true.mp h2 w hw
  rw [h] at hw
  obtain ⟨i, -, hi⟩ := List.mem_filterMap.mp hw
  exact g_w i hi h3
def R_5 : String := "LassoPaths$World"
def T_5 : u_T := fun k => match k with
  | 0 => ("LassoPaths$World", "states", "I", false)
  | 1 => ("LassoPaths$World", "moveCount", "I", false)
  | 2 => ("LassoPaths$World", "stateLabel", "[I", true)
  | 3 => ("LassoPaths$World", "moveActor", "[I", true)
  | 4 => ("LassoPaths$World", "moveFrom", "[I", true)
  | 5 => ("LassoPaths$World", "moveTo", "[I", true)
  | 6 => ("LassoPaths$World", "current", "LLassoPaths$Formula;", true)
  | _ => ("LassoPaths$World", "slots", "[LLassoPaths$Formula;", true)
def ty_5 : Nat → FieldType := fun k => match k with
  | 0 => .int
  | 1 => .int
  | 2 => .array (.int)
  | 3 => .array (.int)
  | 4 => .array (.int)
  | 5 => .array (.int)
  | 6 => .object "LassoPaths$Formula"
  | _ => .array (.object "LassoPaths$Formula")
theorem nm_5 : ∀ a, a < 8 → ∀ b, b < 8 → a ≠ b → (T_5 a).2.1 ≠ (T_5 b).2.1 := by decide +kernel
theorem ty_5_ok : ∀ k, k < 8 → parseFieldDescriptor (T_5 k).2.2.1 = some (ty_5 k) := by decide +kernel
theorem in_5 : ∀ w ∈ u_ws R_5 T_5 8, w ∈ g_T := fun w hw => by
  have h : u_ws R_5 T_5 8 = ([141, 143, 145, 147, 149, 151, 153, 155] : List Nat).filterMap (fun i => lw_tbl[i]?) := by decide +kernel
  have h2 : (u_ws R_5 T_5 8).all goodWord = true := by decide +kernel
  have h3 := List.all_eq_true.mp h2 w hw
  rw [h] at hw
  obtain ⟨i, -, hi⟩ := List.mem_filterMap.mp hw
  exact g_w i hi h3
def R_6 : String := "LassoPaths"
def T_6 : u_T := fun k => match k with
  | 0 => ("LassoPaths", "typed", "[I", true)
  | 1 => ("LassoPaths", "typedCount", "I", false)
  | 2 => ("LassoPaths", "shown", "[I", true)
  | 3 => ("LassoPaths", "shownCount", "I", false)
  | 4 => ("LassoPaths", "now", "LLassoPaths$World;", true)
  | 5 => ("LassoPaths", "draft", "LLassoPaths$World;", true)
  | 6 => ("LassoPaths", "past", "[LLassoPaths$World;", true)
  | 7 => ("LassoPaths", "pastCount", "I", false)
  | 8 => ("LassoPaths", "images", "[LLassoPaths$World;", true)
  | 9 => ("LassoPaths", "imageKept", "[Z", true)
  | 10 => ("LassoPaths", "systemReader", "LLassoPaths$SystemReader;", true)
  | 11 => ("LassoPaths", "search", "LLassoPaths$LoopSearch;", true)
  | 12 => ("LassoPaths", "tableau", "LLassoPaths$Tableau;", true)
  | _ => ("LassoPaths", "ground", "LLassoPaths$Ground;", true)
def ty_6 : Nat → FieldType := fun k => match k with
  | 0 => .array (.int)
  | 1 => .int
  | 2 => .array (.int)
  | 3 => .int
  | 4 => .object "LassoPaths$World"
  | 5 => .object "LassoPaths$World"
  | 6 => .array (.object "LassoPaths$World")
  | 7 => .int
  | 8 => .array (.object "LassoPaths$World")
  | 9 => .array (.boolean)
  | 10 => .object "LassoPaths$SystemReader"
  | 11 => .object "LassoPaths$LoopSearch"
  | 12 => .object "LassoPaths$Tableau"
  | _ => .object "LassoPaths$Ground"
theorem nm_6 : ∀ a, a < 14 → ∀ b, b < 14 → a ≠ b → (T_6 a).2.1 ≠ (T_6 b).2.1 := by decide +kernel
theorem ty_6_ok : ∀ k, k < 14 → parseFieldDescriptor (T_6 k).2.2.1 = some (ty_6 k) := by decide +kernel
theorem in_6 : ∀ w ∈ u_ws R_6 T_6 14, w ∈ g_T := fun w hw => by
  have h : u_ws R_6 T_6 14 = ([329, 331, 333, 335, 337, 339, 341, 343, 345, 347, 349, 351, 353, 355] : List Nat).filterMap (fun i => lw_tbl[i]?) := by decide +kernel
  have h2 : (u_ws R_6 T_6 14).all goodWord = true := by decide +kernel
  have h3 := List.all_eq_true.mp h2 w hw
  rw [h] at hw
  obtain ⟨i, -, hi⟩ := List.mem_filterMap.mp hw
  exact g_w i hi h3
def R_7 : String := "LassoPathsModel"
def T_7 : u_T := fun k => match k with
  | 0 => ("LassoPathsModel", "now", "[I", true)
  | 1 => ("LassoPathsModel", "past", "[I", true)
  | 2 => ("LassoPathsModel", "undone", "I", false)
  | 3 => ("LassoPathsModel", "images", "[I", true)
  | 4 => ("LassoPathsModel", "isKept", "[Z", true)
  | 5 => ("LassoPathsModel", "text", "[I", true)
  | 6 => ("LassoPathsModel", "letters", "I", false)
  | 7 => ("LassoPathsModel", "shown", "[I", true)
  | 8 => ("LassoPathsModel", "showing", "I", false)
  | 9 => ("LassoPathsModel", "read", "[I", true)
  | 10 => ("LassoPathsModel", "spot", "I", false)
  | 11 => ("LassoPathsModel", "tokenAt", "I", false)
  | 12 => ("LassoPathsModel", "value", "I", false)
  | 13 => ("LassoPathsModel", "letter", "[I", true)
  | 14 => ("LassoPathsModel", "sizes", "[I", true)
  | 15 => ("LassoPathsModel", "laterNumber", "[I", true)
  | 16 => ("LassoPathsModel", "many", "[I", true)
  | 17 => ("LassoPathsModel", "laters", "I", false)
  | 18 => ("LassoPathsModel", "places", "I", false)
  | 19 => ("LassoPathsModel", "guesses", "I", false)
  | 20 => ("LassoPathsModel", "labelAt", "[I", true)
  | 21 => ("LassoPathsModel", "soAt", "[I", true)
  | 22 => ("LassoPathsModel", "meets", "[I", true)
  | 23 => ("LassoPathsModel", "wayFrom", "[I", true)
  | 24 => ("LassoPathsModel", "wayTo", "[I", true)
  | 25 => ("LassoPathsModel", "wayBy", "[I", true)
  | 26 => ("LassoPathsModel", "ways", "I", false)
  | 27 => ("LassoPathsModel", "reach", "[J", true)
  | 28 => ("LassoPathsModel", "goesOn", "[Z", true)
  | 29 => ("LassoPathsModel", "far", "[I", true)
  | 30 => ("LassoPathsModel", "round", "[I", true)
  | 31 => ("LassoPathsModel", "line", "[I", true)
  | _ => ("LassoPathsModel", "guessAt", "[I", true)
def ty_7 : Nat → FieldType := fun k => match k with
  | 0 => .array (.int)
  | 1 => .array (.int)
  | 2 => .int
  | 3 => .array (.int)
  | 4 => .array (.boolean)
  | 5 => .array (.int)
  | 6 => .int
  | 7 => .array (.int)
  | 8 => .int
  | 9 => .array (.int)
  | 10 => .int
  | 11 => .int
  | 12 => .int
  | 13 => .array (.int)
  | 14 => .array (.int)
  | 15 => .array (.int)
  | 16 => .array (.int)
  | 17 => .int
  | 18 => .int
  | 19 => .int
  | 20 => .array (.int)
  | 21 => .array (.int)
  | 22 => .array (.int)
  | 23 => .array (.int)
  | 24 => .array (.int)
  | 25 => .array (.int)
  | 26 => .int
  | 27 => .array (.long)
  | 28 => .array (.boolean)
  | 29 => .array (.int)
  | 30 => .array (.int)
  | 31 => .array (.int)
  | _ => .array (.int)
theorem nm_7 : ∀ a, a < 33 → ∀ b, b < 33 → a ≠ b → (T_7 a).2.1 ≠ (T_7 b).2.1 := by decide +kernel
theorem ty_7_ok : ∀ k, k < 33 → parseFieldDescriptor (T_7 k).2.2.1 = some (ty_7 k) := by decide +kernel
theorem in_7 : ∀ w ∈ u_ws R_7 T_7 33, w ∈ g_T := fun w hw => by
  have h : u_ws R_7 T_7 33 = ([787, 789, 791, 793, 795, 797, 799, 801, 803, 805, 807, 809, 811, 813, 815, 817, 819, 821, 823, 825, 827, 829, 831, 833, 835, 837, 839, 841, 843, 845, 847, 849, 851] : List Nat).filterMap (fun i => lw_tbl[i]?) := by decide +kernel
  have h2 : (u_ws R_7 T_7 33).all goodWord = true := by decide +kernel
  have h3 := List.all_eq_true.mp h2 w hw
  rw [h] at hw
  obtain ⟨i, -, hi⟩ := List.mem_filterMap.mp hw
  exact g_w i hi h3
abbrev g_cl : List vw_C := [(R_0, T_0, 3), (R_1, T_1, 3), (R_2, T_2, 7), (R_3, T_3, 6), (R_4, T_4, 19), (R_5, T_5, 8), (R_6, T_6, 14), (R_7, T_7, 33)]
def R_8 : String := "LassoPathsLaw"
def g_cn : Nat → String := fun k => match k with
  | 0 => R_0
  | 1 => R_1
  | 2 => R_2
  | 3 => R_3
  | 4 => R_4
  | 5 => R_5
  | 6 => R_6
  | 7 => R_7
  | _ => R_8
def g_Tc : Nat → u_T := fun k => match k with
  | 0 => T_0
  | 1 => T_1
  | 2 => T_2
  | 3 => T_3
  | 4 => T_4
  | 5 => T_5
  | 6 => T_6
  | _ => T_7
def g_Nc : Nat → Nat := fun k => match k with
  | 0 => 3
  | 1 => 3
  | 2 => 7
  | 3 => 6
  | 4 => 19
  | 5 => 8
  | 6 => 14
  | _ => 33
def g_tc : Nat → Nat → FieldType := fun k => match k with
  | 0 => ty_0
  | 1 => ty_1
  | 2 => ty_2
  | 3 => ty_3
  | 4 => ty_4
  | 5 => ty_5
  | 6 => ty_6
  | _ => ty_7
theorem g_cl_at : ∀ ci, ci < 8 → g_cl[ci]? = some (g_cn ci, g_Tc ci, g_Nc ci)
  | 0, _ => rfl
  | 1, _ => rfl
  | 2, _ => rfl
  | 3, _ => rfl
  | 4, _ => rfl
  | 5, _ => rfl
  | 6, _ => rfl
  | 7, _ => rfl
  | n + 8, h => absurd h (by omega)
theorem g_in : ∀ ci, ci < 8 → ∀ w ∈ u_ws (g_cn ci) (g_Tc ci) (g_Nc ci), w ∈ g_T
  | 0, _ => in_0
  | 1, _ => in_1
  | 2, _ => in_2
  | 3, _ => in_3
  | 4, _ => in_4
  | 5, _ => in_5
  | 6, _ => in_6
  | 7, _ => in_7
  | n + 8, h => absurd h (by omega)
theorem g_ty : ∀ ci, ci < 8 → ∀ k, k < g_Nc ci → parseFieldDescriptor (g_Tc ci k).2.2.1 = some (g_tc ci k)
  | 0, _ => ty_0_ok
  | 1, _ => ty_1_ok
  | 2, _ => ty_2_ok
  | 3, _ => ty_3_ok
  | 4, _ => ty_4_ok
  | 5, _ => ty_5_ok
  | 6, _ => ty_6_ok
  | 7, _ => ty_7_ok
  | n + 8, h => absurd h (by omega)
theorem g_nm : ∀ ci, ci < 8 → ∀ a, a < g_Nc ci → ∀ b, b < g_Nc ci → a ≠ b → (g_Tc ci a).2.1 ≠ (g_Tc ci b).2.1
  | 0, _ => nm_0
  | 1, _ => nm_1
  | 2, _ => nm_2
  | 3, _ => nm_3
  | 4, _ => nm_4
  | 5, _ => nm_5
  | 6, _ => nm_6
  | 7, _ => nm_7
  | n + 8, h => absurd h (by omega)
def g_N : List Cond := ([104, 105, 107, 116, 117, 119, 120, 121, 123, 124, 126, 127, 129, 130, 132, 133, 135, 136, 138, 140, 158, 161, 187, 193, 199, 204, 206, 208, 210, 219, 221, 223, 225, 235, 236, 239, 241, 244, 245, 247, 290, 292, 294, 296, 466, 533, 590, 685] : List Nat).filterMap (fun i => lw_tbl[i]?)
/-- the field links: whose, the index, the class, the field; a nest mate's; 0 final, 1 an int, 2 a long; the place of the word -/
def g_FL : List (Nat × Nat × Nat × Nat × Nat × Nat × Nat) := [(0, 9, 0, 0, 0, 0, 102), (0, 15, 0, 1, 0, 1, 103), (4, 86, 0, 1, 1, 1, 104), (6, 98, 0, 1, 1, 1, 105), (0, 19, 0, 2, 0, 1, 106), (6, 196, 0, 2, 1, 1, 107), (1, 20, 5, 0, 1, 1, 117), (5, 43, 5, 0, 0, 1, 118), (3, 52, 5, 0, 1, 1, 119), (6, 78, 5, 0, 1, 1, 120), (1, 36, 5, 1, 1, 1, 121), (5, 47, 5, 1, 0, 1, 122), (3, 58, 5, 1, 1, 1, 123), (6, 81, 5, 1, 1, 1, 124), (5, 9, 5, 2, 0, 0, 125), (1, 33, 5, 2, 1, 0, 126), (6, 108, 5, 2, 1, 0, 127), (5, 15, 5, 3, 0, 0, 128), (1, 39, 5, 3, 1, 0, 129), (6, 134, 5, 3, 1, 0, 130), (5, 18, 5, 4, 0, 0, 131), (1, 42, 5, 4, 1, 0, 132), (6, 137, 5, 4, 1, 0, 133), (5, 21, 5, 5, 0, 0, 134), (1, 45, 5, 5, 1, 0, 135), (6, 140, 5, 5, 1, 0, 136), (5, 27, 5, 6, 0, 0, 137), (6, 84, 5, 6, 1, 0, 138), (5, 31, 5, 7, 0, 0, 139), (6, 125, 5, 7, 1, 0, 140), (3, 9, 3, 0, 0, 0, 165), (3, 24, 3, 1, 0, 1, 166), (3, 34, 3, 2, 0, 1, 167), (3, 64, 3, 3, 0, 1, 168), (3, 45, 3, 4, 0, 1, 169), (3, 71, 3, 5, 0, 1, 170), (1, 30, 1, 0, 0, 1, 205), (4, 66, 1, 0, 1, 1, 206), (1, 9, 1, 1, 0, 0, 207), (4, 130, 1, 1, 1, 0, 208), (1, 17, 1, 2, 0, 0, 209), (4, 143, 1, 2, 1, 0, 210), (4, 12, 4, 0, 0, 0, 220), (6, 56, 4, 0, 1, 0, 221), (4, 62, 4, 1, 0, 1, 222), (2, 64, 4, 1, 1, 1, 223), (4, 69, 4, 2, 0, 1, 224), (2, 50, 4, 2, 1, 1, 225), (4, 76, 4, 3, 0, 2, 226), (4, 80, 4, 4, 0, 2, 227), (4, 18, 4, 5, 0, 0, 228), (4, 83, 4, 6, 0, 1, 229), (4, 22, 4, 7, 0, 0, 230), (4, 25, 4, 8, 0, 0, 231), (4, 28, 4, 9, 0, 0, 232), (4, 31, 4, 10, 0, 0, 233), (4, 37, 4, 11, 0, 0, 234), (2, 103, 4, 11, 1, 0, 235), (2, 74, 4, 12, 1, 1, 236), (4, 151, 4, 12, 0, 1, 237), (4, 40, 4, 13, 0, 0, 238), (2, 92, 4, 13, 1, 0, 239), (4, 44, 4, 14, 0, 0, 240), (2, 100, 4, 14, 1, 0, 241), (4, 47, 4, 15, 0, 0, 242), (4, 50, 4, 16, 0, 0, 243), (2, 82, 4, 16, 1, 0, 244), (2, 36, 4, 17, 1, 2, 245), (4, 164, 4, 17, 0, 2, 246), (6, 179, 4, 18, 1, 2, 247), (4, 173, 4, 18, 0, 2, 248), (2, 28, 2, 0, 0, 1, 289), (6, 187, 2, 0, 1, 1, 290), (2, 61, 2, 1, 0, 1, 291), (6, 190, 2, 1, 1, 1, 292), (2, 67, 2, 2, 0, 1, 293), (6, 193, 2, 2, 1, 1, 294), (2, 12, 2, 3, 0, 0, 295), (6, 51, 2, 3, 1, 0, 296), (2, 18, 2, 4, 0, 0, 297), (2, 22, 2, 5, 0, 0, 298), (2, 25, 2, 6, 0, 0, 299), (6, 9, 6, 0, 0, 0, 315), (6, 63, 6, 1, 0, 1, 316), (6, 13, 6, 2, 0, 0, 317), (6, 215, 6, 3, 0, 1, 318), (6, 19, 6, 4, 0, 0, 319), (6, 23, 6, 5, 0, 0, 320), (6, 26, 6, 6, 0, 0, 321), (6, 129, 6, 7, 0, 1, 322), (6, 30, 6, 8, 0, 0, 323), (6, 33, 6, 9, 0, 0, 324), (6, 40, 6, 10, 0, 0, 325), (6, 47, 6, 11, 0, 0, 326), (6, 55, 6, 12, 0, 0, 327), (6, 62, 6, 13, 0, 0, 328), (7, 7, 7, 0, 0, 0, 754), (7, 13, 7, 1, 0, 0, 755), (7, 81, 7, 2, 0, 1, 756), (7, 16, 7, 3, 0, 0, 757), (7, 19, 7, 4, 0, 0, 758), (7, 23, 7, 5, 0, 0, 759), (7, 89, 7, 6, 0, 1, 760), (7, 26, 7, 7, 0, 0, 761), (7, 250, 7, 8, 0, 1, 762), (7, 29, 7, 9, 0, 0, 763), (7, 92, 7, 10, 0, 1, 764), (7, 95, 7, 11, 0, 1, 765), (7, 105, 7, 12, 0, 1, 766), (7, 32, 7, 13, 0, 0, 767), (7, 35, 7, 14, 0, 0, 768), (7, 38, 7, 15, 0, 0, 769), (7, 41, 7, 16, 0, 0, 770), (7, 154, 7, 17, 0, 1, 771), (7, 182, 7, 18, 0, 1, 772), (7, 179, 7, 19, 0, 1, 773), (7, 44, 7, 20, 0, 0, 774), (7, 47, 7, 21, 0, 0, 775), (7, 50, 7, 22, 0, 0, 776), (7, 53, 7, 23, 0, 0, 777), (7, 56, 7, 24, 0, 0, 778), (7, 59, 7, 25, 0, 0, 779), (7, 192, 7, 26, 0, 1, 780), (7, 62, 7, 27, 0, 0, 781), (7, 66, 7, 28, 0, 0, 782), (7, 69, 7, 29, 0, 0, 783), (7, 72, 7, 30, 0, 0, 784), (7, 75, 7, 31, 0, 0, 785), (7, 78, 7, 32, 0, 0, 786)]
def g_fw (t : Nat × Nat × Nat × Nat × Nat × Nat × Nat) : Cond := match t with
  | (ow, ix, ci, k, nt, _, _) => if nt = 0 then .fieldLink (g_cn ow) ix (g_cn ci) (g_Tc ci k).2.1 (g_Tc ci k).2.2.1 else .fieldLinkNest (g_cn ow) ix (g_cn ci) (g_Tc ci k).2.1 (g_Tc ci k).2.2.1 R_6
def g_fok (t : Nat × Nat × Nat × Nat × Nat × Nat × Nat) : Bool := match t with
  | (ow, ix, ci, k, nt, kd, pl) => decide (ci < 8) && decide (k < g_Nc ci) && decide ((g_Tc ci k).1 = g_cn ci) && decide (lw_tbl[pl]? = some (g_fw (ow, ix, ci, k, nt, kd, pl))) && (if nt = 0 then goodWord (g_fw (ow, ix, ci, k, nt, kd, pl)) else decide (g_fw (ow, ix, ci, k, nt, kd, pl) ∈ g_N)) && (decide (kd = 0) || (decide ((g_Tc ci k).2.2.2 = false) && ((decide (kd = 1) && decide (g_tc ci k = .int)) || (decide (kd = 2) && decide (g_tc ci k = .long)))))
set_option maxRecDepth 100000 in
theorem g_FL_ok : g_FL.all g_fok = true := by decide +kernel
/-! methods -/
def y_L_init : MethodName := ⟨R_6, "<init>", "()V"⟩
abbrev c_L_init : ByteArray := prog_1_method_1_code
def y_W_init : MethodName := ⟨R_5, "<init>", "()V"⟩
abbrev c_W_init : ByteArray := prog_7_method_1_code
def y_F_init : MethodName := ⟨R_0, "<init>", "()V"⟩
abbrev c_F_init : ByteArray := prog_2_method_1_code
def y_R_init : MethodName := ⟨R_3, "<init>", "()V"⟩
abbrev c_R_init : ByteArray := prog_5_method_1_code
def y_S_init : MethodName := ⟨R_2, "<init>", "()V"⟩
abbrev c_S_init : ByteArray := prog_4_method_1_code
def y_T_init : MethodName := ⟨R_4, "<init>", "()V"⟩
abbrev c_T_init : ByteArray := prog_6_method_1_code
def y_G_init : MethodName := ⟨R_1, "<init>", "()V"⟩
abbrev c_G_init : ByteArray := prog_3_method_1_code
def y_L_type : MethodName := ⟨R_6, "type", "(I)I"⟩
abbrev c_L_type : ByteArray := prog_1_method_2_code
def y_L_clear : MethodName := ⟨R_6, "clear", "()I"⟩
abbrev c_L_clear : ByteArray := prog_1_method_3_code
def y_L_system : MethodName := ⟨R_6, "system", "()I"⟩
abbrev c_L_system : ByteArray := prog_1_method_4_code
def y_R_read : MethodName := ⟨R_3, "read", "([IILLassoPaths$World;)I"⟩
abbrev c_R_read : ByteArray := prog_5_method_2_code
def y_W_emptySystem : MethodName := ⟨R_5, "emptySystem", "()V"⟩
abbrev c_W_emptySystem : ByteArray := prog_7_method_6_code
def y_R_advance : MethodName := ⟨R_3, "advance", "()V"⟩
abbrev c_R_advance : ByteArray := prog_5_method_8_code
def y_R_isFigure : MethodName := ⟨R_3, "isFigure", "(I)Z"⟩
abbrev c_R_isFigure : ByteArray := prog_5_method_10_code
def y_R_advanceOverNumber : MethodName := ⟨R_3, "advanceOverNumber", "()V"⟩
abbrev c_R_advanceOverNumber : ByteArray := prog_5_method_9_code
def y_R_readItem : MethodName := ⟨R_3, "readItem", "(LLassoPaths$World;)I"⟩
abbrev c_R_readItem : ByteArray := prog_5_method_3_code
def y_R_readState : MethodName := ⟨R_3, "readState", "(LLassoPaths$World;)I"⟩
abbrev c_R_readState : ByteArray := prog_5_method_4_code
def y_R_advanceToNumber : MethodName := ⟨R_3, "advanceToNumber", "(I)Z"⟩
abbrev c_R_advanceToNumber : ByteArray := prog_5_method_7_code
def y_W_addState : MethodName := ⟨R_5, "addState", "(I)V"⟩
abbrev c_W_addState : ByteArray := prog_7_method_7_code
def y_R_readItemEnd : MethodName := ⟨R_3, "readItemEnd", "()I"⟩
abbrev c_R_readItemEnd : ByteArray := prog_5_method_6_code
def y_R_readMove : MethodName := ⟨R_3, "readMove", "(LLassoPaths$World;)I"⟩
abbrev c_R_readMove : ByteArray := prog_5_method_5_code
def y_W_addMove : MethodName := ⟨R_5, "addMove", "(III)V"⟩
abbrev c_W_addMove : ByteArray := prog_7_method_8_code
def y_L_remember : MethodName := ⟨R_6, "remember", "()V"⟩
abbrev c_L_remember : ByteArray := prog_1_method_31_code
def y_W_copy : MethodName := ⟨R_5, "copy", "(LLassoPaths$World;)V"⟩
abbrev c_W_copy : ByteArray := prog_7_method_2_code
def y_W_copySystem : MethodName := ⟨R_5, "copySystem", "(LLassoPaths$World;)V"⟩
abbrev c_W_copySystem : ByteArray := prog_7_method_3_code
def y_F_copy : MethodName := ⟨R_0, "copy", "(LLassoPaths$Formula;)V"⟩
abbrev c_F_copy : ByteArray := prog_2_method_4_code
def y_L_formula : MethodName := ⟨R_6, "formula", "()I"⟩
abbrev c_L_formula : ByteArray := prog_1_method_5_code
def y_L_readFormula : MethodName := ⟨R_6, "readFormula", "([IILLassoPaths$Formula;)I"⟩
abbrev c_L_readFormula : ByteArray := prog_1_method_36_code
def y_F_empty : MethodName := ⟨R_0, "empty", "()V"⟩
abbrev c_F_empty : ByteArray := prog_2_method_2_code
def y_L_innerCount : MethodName := ⟨R_6, "innerCount", "(I)I"⟩
abbrev c_L_innerCount : ByteArray := prog_1_method_35_code
def y_L_isLater : MethodName := ⟨R_6, "isLater", "(I)Z"⟩
abbrev c_L_isLater : ByteArray := prog_1_method_34_code
def y_F_add : MethodName := ⟨R_0, "add", "(I)V"⟩
abbrev c_F_add : ByteArray := prog_2_method_3_code
def y_L_labels : MethodName := ⟨R_6, "labels", "(II)I"⟩
abbrev c_L_labels : ByteArray := prog_1_method_6_code
def y_W_hasState : MethodName := ⟨R_5, "hasState", "(I)Z"⟩
abbrev c_W_hasState : ByteArray := prog_7_method_4_code
def y_L_isLabel : MethodName := ⟨R_6, "isLabel", "(I)Z"⟩
abbrev c_L_isLabel : ByteArray := prog_1_method_27_code
def y_L_moves : MethodName := ⟨R_6, "moves", "(III)I"⟩
abbrev c_L_moves : ByteArray := prog_1_method_7_code
def y_L_takes : MethodName := ⟨R_6, "takes", "(I)I"⟩
abbrev c_L_takes : ByteArray := prog_1_method_8_code
def y_W_hasMove : MethodName := ⟨R_5, "hasMove", "(I)Z"⟩
abbrev c_W_hasMove : ByteArray := prog_7_method_5_code
def y_W_removeMove : MethodName := ⟨R_5, "removeMove", "(I)V"⟩
abbrev c_W_removeMove : ByteArray := prog_7_method_9_code
def y_L_stores : MethodName := ⟨R_6, "stores", "(I)I"⟩
abbrev c_L_stores : ByteArray := prog_1_method_9_code
def y_L_isSlot : MethodName := ⟨R_6, "isSlot", "(I)Z"⟩
abbrev c_L_isSlot : ByteArray := prog_1_method_28_code
def y_L_fetches : MethodName := ⟨R_6, "fetches", "(I)I"⟩
abbrev c_L_fetches : ByteArray := prog_1_method_10_code
def y_L_undo : MethodName := ⟨R_6, "undo", "()I"⟩
abbrev c_L_undo : ByteArray := prog_1_method_11_code
def y_L_label : MethodName := ⟨R_6, "label", "(I)I"⟩
abbrev c_L_label : ByteArray := prog_1_method_12_code
def y_L_move : MethodName := ⟨R_6, "move", "(II)I"⟩
abbrev c_L_move : ByteArray := prog_1_method_13_code
def y_L_part : MethodName := ⟨R_6, "part", "(II)I"⟩
abbrev c_L_part : ByteArray := prog_1_method_14_code
def y_F_letterOf : MethodName := ⟨R_0, "letterOf", "(I)I"⟩
abbrev c_F_letterOf : ByteArray := prog_2_method_5_code
def y_F_spanOf : MethodName := ⟨R_0, "spanOf", "(I)I"⟩
abbrev c_F_spanOf : ByteArray := prog_2_method_6_code
def y_F_outerOf : MethodName := ⟨R_0, "outerOf", "(I)I"⟩
abbrev c_F_outerOf : ByteArray := prog_2_method_7_code
def y_L_bit : MethodName := ⟨R_6, "bit", "(Z)I"⟩
abbrev c_L_bit : ByteArray := prog_1_method_30_code
def y_L_holds : MethodName := ⟨R_6, "holds", "(II)I"⟩
abbrev c_L_holds : ByteArray := prog_1_method_15_code
def y_L_isFlag : MethodName := ⟨R_6, "isFlag", "(I)Z"⟩
abbrev c_L_isFlag : ByteArray := prog_1_method_26_code
def y_L_wrongStarts : MethodName := ⟨R_6, "wrongStarts", "(I)J"⟩
abbrev c_L_wrongStarts : ByteArray := prog_1_method_33_code
def y_G_takeSystem : MethodName := ⟨R_1, "takeSystem", "(LLassoPaths$World;)V"⟩
abbrev c_G_takeSystem : ByteArray := prog_3_method_2_code
def y_G_open : MethodName := ⟨R_1, "open", "(I)V"⟩
abbrev c_G_open : ByteArray := prog_3_method_5_code
def y_G_join : MethodName := ⟨R_1, "join", "(III)V"⟩
abbrev c_G_join : ByteArray := prog_3_method_6_code
def y_L_judgeGround : MethodName := ⟨R_6, "judgeGround", "(Z)J"⟩
abbrev c_L_judgeGround : ByteArray := prog_1_method_32_code
def y_T_open : MethodName := ⟨R_4, "open", "(I)V"⟩
abbrev c_T_open : ByteArray := prog_6_method_2_code
def y_T_firstNodes : MethodName := ⟨R_4, "firstNodes", "(I)J"⟩
abbrev c_T_firstNodes : ByteArray := prog_6_method_7_code
def y_T_tell : MethodName := ⟨R_4, "tell", "(LLassoPaths$Formula;)J"⟩
abbrev c_T_tell : ByteArray := prog_6_method_3_code
def y_T_nodesWhere : MethodName := ⟨R_4, "nodesWhere", "(LLassoPaths$Formula;I)J"⟩
abbrev c_T_nodesWhere : ByteArray := prog_6_method_9_code
def y_T_labelled : MethodName := ⟨R_4, "labelled", "(I)J"⟩
abbrev c_T_labelled : ByteArray := prog_6_method_10_code
def y_T_nodesOf : MethodName := ⟨R_4, "nodesOf", "(I)J"⟩
abbrev c_T_nodesOf : ByteArray := prog_6_method_5_code
def y_T_addLater : MethodName := ⟨R_4, "addLater", "(ZZJJ)J"⟩
abbrev c_T_addLater : ByteArray := prog_6_method_11_code
def y_T_finish : MethodName := ⟨R_4, "finish", "(Z)V"⟩
abbrev c_T_finish : ByteArray := prog_6_method_4_code
def y_T_makeSteps : MethodName := ⟨R_4, "makeSteps", "()V"⟩
abbrev c_T_makeSteps : ByteArray := prog_6_method_12_code
def y_T_allowedBehind : MethodName := ⟨R_4, "allowedBehind", "(I)J"⟩
abbrev c_T_allowedBehind : ByteArray := prog_6_method_14_code
def y_T_has : MethodName := ⟨R_4, "has", "(JI)Z"⟩
abbrev c_T_has : ByteArray := prog_6_method_8_code
def y_T_nodesAimedAt : MethodName := ⟨R_4, "nodesAimedAt", "(II)J"⟩
abbrev c_T_nodesAimedAt : ByteArray := prog_6_method_13_code
def y_T_makeDue : MethodName := ⟨R_4, "makeDue", "(Z)V"⟩
abbrev c_T_makeDue : ByteArray := prog_6_method_15_code
def y_T_addDue : MethodName := ⟨R_4, "addDue", "(J)I"⟩
abbrev c_T_addDue : ByteArray := prog_6_method_16_code
def y_T_nodesWithoutMoves : MethodName := ⟨R_4, "nodesWithoutMoves", "(I)J"⟩
abbrev c_T_nodesWithoutMoves : ByteArray := prog_6_method_17_code
def y_T_makeReach : MethodName := ⟨R_4, "makeReach", "()V"⟩
abbrev c_T_makeReach : ByteArray := prog_6_method_18_code
def y_T_behind : MethodName := ⟨R_4, "behind", "(I)J"⟩
abbrev c_T_behind : ByteArray := prog_6_method_6_code
def y_T_makeRings : MethodName := ⟨R_4, "makeRings", "()V"⟩
abbrev c_T_makeRings : ByteArray := prog_6_method_19_code
def y_T_ringOf : MethodName := ⟨R_4, "ringOf", "(I)J"⟩
abbrev c_T_ringOf : ByteArray := prog_6_method_20_code
def y_T_metIn : MethodName := ⟨R_4, "metIn", "(J)I"⟩
abbrev c_T_metIn : ByteArray := prog_6_method_21_code
def y_T_makeLive : MethodName := ⟨R_4, "makeLive", "()V"⟩
abbrev c_T_makeLive : ByteArray := prog_6_method_22_code
def y_L_where : MethodName := ⟨R_6, "where", "(I)I"⟩
abbrev c_L_where : ByteArray := prog_1_method_16_code
def y_L_some : MethodName := ⟨R_6, "some", "(I)I"⟩
abbrev c_L_some : ByteArray := prog_1_method_17_code
def y_L_breaks : MethodName := ⟨R_6, "breaks", "(II)I"⟩
abbrev c_L_breaks : ByteArray := prog_1_method_18_code
def y_S_run : MethodName := ⟨R_2, "run", "(J)V"⟩
abbrev c_S_run : ByteArray := prog_4_method_2_code
def y_S_isShorter : MethodName := ⟨R_2, "isShorter", "(I)Z"⟩
abbrev c_S_isShorter : ByteArray := prog_4_method_3_code
def y_S_tryEntries : MethodName := ⟨R_2, "tryEntries", "(IJ)V"⟩
abbrev c_S_tryEntries : ByteArray := prog_4_method_4_code
def y_S_loopThrough : MethodName := ⟨R_2, "loopThrough", "(II)I"⟩
abbrev c_S_loopThrough : ByteArray := prog_4_method_6_code
def y_S_goOneStep : MethodName := ⟨R_2, "goOneStep", "(JI)V"⟩
abbrev c_S_goOneStep : ByteArray := prog_4_method_7_code
def y_S_leave : MethodName := ⟨R_2, "leave", "(IIJI)V"⟩
abbrev c_S_leave : ByteArray := prog_4_method_8_code
def y_S_takeNext : MethodName := ⟨R_2, "takeNext", "(I)Z"⟩
abbrev c_S_takeNext : ByteArray := prog_4_method_9_code
def y_S_nextLayer : MethodName := ⟨R_2, "nextLayer", "(J)J"⟩
abbrev c_S_nextLayer : ByteArray := prog_4_method_5_code
def y_L_against : MethodName := ⟨R_6, "against", "(II)I"⟩
abbrev c_L_against : ByteArray := prog_1_method_19_code
def y_G_takeAllRows : MethodName := ⟨R_1, "takeAllRows", "()V"⟩
abbrev c_G_takeAllRows : ByteArray := prog_3_method_4_code
def y_L_shows : MethodName := ⟨R_6, "shows", "(I)I"⟩
abbrev c_L_shows : ByteArray := prog_1_method_20_code
def y_L_hides : MethodName := ⟨R_6, "hides", "()I"⟩
abbrev c_L_hides : ByteArray := prog_1_method_21_code
def y_L_judged : MethodName := ⟨R_6, "judged", "(I)I"⟩
abbrev c_L_judged : ByteArray := prog_1_method_22_code
def y_G_takeRow : MethodName := ⟨R_1, "takeRow", "([III)V"⟩
abbrev c_G_takeRow : ByteArray := prog_3_method_3_code
def y_L_keep : MethodName := ⟨R_6, "keep", "(I)I"⟩
abbrev c_L_keep : ByteArray := prog_1_method_23_code
def y_L_isImage : MethodName := ⟨R_6, "isImage", "(I)Z"⟩
abbrev c_L_isImage : ByteArray := prog_1_method_29_code
def y_L_back : MethodName := ⟨R_6, "back", "(I)I"⟩
abbrev c_L_back : ByteArray := prog_1_method_24_code
def y_L_count : MethodName := ⟨R_6, "count", "(I)I"⟩
abbrev c_L_count : ByteArray := prog_1_method_25_code
def y_M_init : MethodName := ⟨R_7, "<init>", "()V"⟩
abbrev c_M_init : ByteArray := prog_9_method_1_code
def y_M_undo : MethodName := ⟨R_7, "undo", "()I"⟩
abbrev c_M_undo : ByteArray := prog_9_method_6_code
def y_M_type : MethodName := ⟨R_7, "type", "(I)I"⟩
abbrev c_M_type : ByteArray := prog_9_method_7_code
def y_M_in : MethodName := ⟨R_7, "in", "(III)Z"⟩
abbrev c_M_in : ByteArray := prog_9_method_3_code
def y_M_clear : MethodName := ⟨R_7, "clear", "()I"⟩
abbrev c_M_clear : ByteArray := prog_9_method_8_code
def y_M_system : MethodName := ⟨R_7, "system", "()I"⟩
abbrev c_M_system : ByteArray := prog_9_method_17_code
def y_M_readsSystem : MethodName := ⟨R_7, "readsSystem", "()I"⟩
abbrev c_M_readsSystem : ByteArray := prog_9_method_16_code
def y_M_blanks : MethodName := ⟨R_7, "blanks", "()V"⟩
abbrev c_M_blanks : ByteArray := prog_9_method_9_code
def y_M_isAt : MethodName := ⟨R_7, "isAt", "(I)Z"⟩
abbrev c_M_isAt : ByteArray := prog_9_method_10_code
def y_M_takesState : MethodName := ⟨R_7, "takesState", "()Z"⟩
abbrev c_M_takesState : ByteArray := prog_9_method_14_code
def y_M_takesNumber : MethodName := ⟨R_7, "takesNumber", "(I)Z"⟩
abbrev c_M_takesNumber : ByteArray := prog_9_method_13_code
def y_M_isFigure : MethodName := ⟨R_7, "isFigure", "()Z"⟩
abbrev c_M_isFigure : ByteArray := prog_9_method_11_code
def y_M_takesSign : MethodName := ⟨R_7, "takesSign", "(I)Z"⟩
abbrev c_M_takesSign : ByteArray := prog_9_method_12_code
def y_M_takesMove : MethodName := ⟨R_7, "takesMove", "()Z"⟩
abbrev c_M_takesMove : ByteArray := prog_9_method_15_code
def y_M_remembers : MethodName := ⟨R_7, "remembers", "()V"⟩
abbrev c_M_remembers : ByteArray := prog_9_method_5_code
def y_M_formula : MethodName := ⟨R_7, "formula", "()I"⟩
abbrev c_M_formula : ByteArray := prog_9_method_21_code
def y_M_readsFormula : MethodName := ⟨R_7, "readsFormula", "()I"⟩
abbrev c_M_readsFormula : ByteArray := prog_9_method_20_code
def y_M_isLater : MethodName := ⟨R_7, "isLater", "(I)Z"⟩
abbrev c_M_isLater : ByteArray := prog_9_method_19_code
def y_M_insideOf : MethodName := ⟨R_7, "insideOf", "(I)I"⟩
abbrev c_M_insideOf : ByteArray := prog_9_method_18_code
def y_M_labels : MethodName := ⟨R_7, "labels", "(II)I"⟩
abbrev c_M_labels : ByteArray := prog_9_method_23_code
def y_M_isState : MethodName := ⟨R_7, "isState", "(I)Z"⟩
abbrev c_M_isState : ByteArray := prog_9_method_22_code
def y_M_moves : MethodName := ⟨R_7, "moves", "(III)I"⟩
abbrev c_M_moves : ByteArray := prog_9_method_24_code
def y_M_takes : MethodName := ⟨R_7, "takes", "(I)I"⟩
abbrev c_M_takes : ByteArray := prog_9_method_26_code
def y_M_isMove : MethodName := ⟨R_7, "isMove", "(I)Z"⟩
abbrev c_M_isMove : ByteArray := prog_9_method_25_code
def y_M_stores : MethodName := ⟨R_7, "stores", "(I)I"⟩
abbrev c_M_stores : ByteArray := prog_9_method_29_code
def y_M_isSlot : MethodName := ⟨R_7, "isSlot", "(I)Z"⟩
abbrev c_M_isSlot : ByteArray := prog_9_method_27_code
def y_M_copies : MethodName := ⟨R_7, "copies", "(II)I"⟩
abbrev c_M_copies : ByteArray := prog_9_method_28_code
def y_M_fetches : MethodName := ⟨R_7, "fetches", "(I)I"⟩
abbrev c_M_fetches : ByteArray := prog_9_method_30_code
def y_M_label : MethodName := ⟨R_7, "label", "(I)I"⟩
abbrev c_M_label : ByteArray := prog_9_method_31_code
def y_M_move : MethodName := ⟨R_7, "move", "(II)I"⟩
abbrev c_M_move : ByteArray := prog_9_method_32_code
def y_M_part : MethodName := ⟨R_7, "part", "(II)I"⟩
abbrev c_M_part : ByteArray := prog_9_method_37_code
def y_M_laysOne : MethodName := ⟨R_7, "laysOne", "()V"⟩
abbrev c_M_laysOne : ByteArray := prog_9_method_34_code
def y_M_laysFormula : MethodName := ⟨R_7, "laysFormula", "(II)V"⟩
abbrev c_M_laysFormula : ByteArray := prog_9_method_33_code
def y_M_outerOf : MethodName := ⟨R_7, "outerOf", "(I)I"⟩
abbrev c_M_outerOf : ByteArray := prog_9_method_35_code
def y_M_holds : MethodName := ⟨R_7, "holds", "(II)I"⟩
abbrev c_M_holds : ByteArray := prog_9_method_54_code
def y_M_isFair : MethodName := ⟨R_7, "isFair", "(I)Z"⟩
abbrev c_M_isFair : ByteArray := prog_9_method_52_code
def y_M_whereOf : MethodName := ⟨R_7, "whereOf", "(I)I"⟩
abbrev c_M_whereOf : ByteArray := prog_9_method_53_code
def y_M_laysSystem : MethodName := ⟨R_7, "laysSystem", "(I)V"⟩
abbrev c_M_laysSystem : ByteArray := prog_9_method_46_code
def y_M_laysNodes : MethodName := ⟨R_7, "laysNodes", "()V"⟩
abbrev c_M_laysNodes : ByteArray := prog_9_method_43_code
def y_M_partsAt : MethodName := ⟨R_7, "partsAt", "(III)I"⟩
abbrev c_M_partsAt : ByteArray := prog_9_method_38_code
def y_M_has : MethodName := ⟨R_7, "has", "(II)Z"⟩
abbrev c_M_has : ByteArray := prog_9_method_4_code
def y_M_isSoBy : MethodName := ⟨R_7, "isSoBy", "(IIIZZ)Z"⟩
abbrev c_M_isSoBy : ByteArray := prog_9_method_39_code
def y_M_isCalm : MethodName := ⟨R_7, "isCalm", "(III)Z"⟩
abbrev c_M_isCalm : ByteArray := prog_9_method_42_code
def y_M_hasMove : MethodName := ⟨R_7, "hasMove", "(II)Z"⟩
abbrev c_M_hasMove : ByteArray := prog_9_method_44_code
def y_M_laysWays : MethodName := ⟨R_7, "laysWays", "(III)V"⟩
abbrev c_M_laysWays : ByteArray := prog_9_method_45_code
def y_M_areNext : MethodName := ⟨R_7, "areNext", "(II)Z"⟩
abbrev c_M_areNext : ByteArray := prog_9_method_41_code
def y_M_goesWith : MethodName := ⟨R_7, "goesWith", "(IIII)Z"⟩
abbrev c_M_goesWith : ByteArray := prog_9_method_40_code
def y_M_findsOn : MethodName := ⟨R_7, "findsOn", "()V"⟩
abbrev c_M_findsOn : ByteArray := prog_9_method_50_code
def y_M_closes : MethodName := ⟨R_7, "closes", "(I)V"⟩
abbrev c_M_closes : ByteArray := prog_9_method_48_code
def y_M_isIn : MethodName := ⟨R_7, "isIn", "(JI)Z"⟩
abbrev c_M_isIn : ByteArray := prog_9_method_47_code
def y_M_metBy : MethodName := ⟨R_7, "metBy", "(I)I"⟩
abbrev c_M_metBy : ByteArray := prog_9_method_49_code
def y_M_isThere : MethodName := ⟨R_7, "isThere", "(IZ)Z"⟩
abbrev c_M_isThere : ByteArray := prog_9_method_51_code
def y_M_where : MethodName := ⟨R_7, "where", "(I)I"⟩
abbrev c_M_where : ByteArray := prog_9_method_55_code
def y_M_some : MethodName := ⟨R_7, "some", "(I)I"⟩
abbrev c_M_some : ByteArray := prog_9_method_56_code
def y_M_breaks : MethodName := ⟨R_7, "breaks", "(II)I"⟩
abbrev c_M_breaks : ByteArray := prog_9_method_60_code
def y_M_breaksOf : MethodName := ⟨R_7, "breaksOf", "(II)I"⟩
abbrev c_M_breaksOf : ByteArray := prog_9_method_59_code
def y_M_findsFar : MethodName := ⟨R_7, "findsFar", "()V"⟩
abbrev c_M_findsFar : ByteArray := prog_9_method_57_code
def y_M_roundOf : MethodName := ⟨R_7, "roundOf", "(I)I"⟩
abbrev c_M_roundOf : ByteArray := prog_9_method_58_code
def y_M_against : MethodName := ⟨R_7, "against", "(II)I"⟩
abbrev c_M_against : ByteArray := prog_9_method_63_code
def y_M_againstOf : MethodName := ⟨R_7, "againstOf", "(I)I"⟩
abbrev c_M_againstOf : ByteArray := prog_9_method_62_code
def y_M_togetherOf : MethodName := ⟨R_7, "togetherOf", "()I"⟩
abbrev c_M_togetherOf : ByteArray := prog_9_method_61_code
def y_M_shows : MethodName := ⟨R_7, "shows", "(I)I"⟩
abbrev c_M_shows : ByteArray := prog_9_method_64_code
def y_M_hides : MethodName := ⟨R_7, "hides", "()I"⟩
abbrev c_M_hides : ByteArray := prog_9_method_65_code
def y_M_judged : MethodName := ⟨R_7, "judged", "(I)I"⟩
abbrev c_M_judged : ByteArray := prog_9_method_68_code
def y_M_judgedAt : MethodName := ⟨R_7, "judgedAt", "(I)I"⟩
abbrev c_M_judgedAt : ByteArray := prog_9_method_67_code
def y_M_tellsLater : MethodName := ⟨R_7, "tellsLater", "(II)V"⟩
abbrev c_M_tellsLater : ByteArray := prog_9_method_66_code
def y_M_keep : MethodName := ⟨R_7, "keep", "(I)I"⟩
abbrev c_M_keep : ByteArray := prog_9_method_70_code
def y_M_isImage : MethodName := ⟨R_7, "isImage", "(I)Z"⟩
abbrev c_M_isImage : ByteArray := prog_9_method_69_code
def y_M_back : MethodName := ⟨R_7, "back", "(I)I"⟩
abbrev c_M_back : ByteArray := prog_9_method_71_code
def y_M_count : MethodName := ⟨R_7, "count", "(I)I"⟩
abbrev c_M_count : ByteArray := prog_9_method_72_code
def y_M_latersNow : MethodName := ⟨R_7, "latersNow", "()I"⟩
abbrev c_M_latersNow : ByteArray := prog_9_method_36_code
def g_ML : List (Nat × Nat × Nat × Nat) := [(3, 15, 1, 374), (3, 21, 2, 377), (3, 28, 3, 380), (5, 50, 3, 438), (0, 26, 3, 443), (1, 52, 1, 561), (1, 58, 2, 562), (4, 53, 1, 575), (4, 59, 2, 576), (2, 77, 1, 690)]
def g_mw (t : Nat × Nat × Nat × Nat) : Cond := .methodLink (g_cn t.1) t.2.1 (if t.2.2.1 = 1 then Lib.Math.min.name else if t.2.2.1 = 2 then Lib.Math.max.name else arraycopyName)
set_option maxRecDepth 100000 in
theorem g_ML_ok : g_ML.all (fun t => decide (lw_tbl[t.2.2.2]? = some (g_mw t)) && goodWord (g_mw t)) = true := by decide +kernel
theorem g_m_min : Cond.static Lib.Math.min.name ∈ g_T ∧ Cond.code Lib.Math.min.name Lib.Math.min.code 2 (some .int) ∈ g_T := ⟨g_w 375 (by decide +kernel) (by decide +kernel), g_w 376 (by decide +kernel) (by decide +kernel)⟩
theorem g_m_max : Cond.static Lib.Math.max.name ∈ g_T ∧ Cond.code Lib.Math.max.name Lib.Math.max.code 2 (some .int) ∈ g_T := ⟨g_w 378 (by decide +kernel) (by decide +kernel), g_w 379 (by decide +kernel) (by decide +kernel)⟩
theorem g_m_mini : Cond.initialized "java/lang/Math" ∈ g_T := g_w 80 (by decide +kernel) (by decide +kernel)
theorem g_m_sini : Cond.initialized "java/lang/System" ∈ g_T := g_w 81 (by decide +kernel) (by decide +kernel)
theorem g_m_copy : Cond.native arraycopyName ∈ g_T ∧ Cond.static arraycopyName ∈ g_T := ⟨g_w 382 (by decide +kernel) (by decide +kernel), g_w 381 (by decide +kernel) (by decide +kernel)⟩
def g_KL : List (Nat × Nat × Int64 × Nat) := [(4, 111, -1, 580), (6, 213, -1, 659), (2, 48, -1, 703)]
set_option maxRecDepth 100000 in
theorem g_KL_ok : g_KL.all (fun t => decide (lw_tbl[t.2.2.2]? = some (Cond.constantLong (g_cn t.1) t.2.1 t.2.2.1)) && goodWord (Cond.constantLong (g_cn t.1) t.2.1 t.2.2.1)) = true := by decide +kernel
theorem g_w2 {w : Cond} (i : Nat) (h : lw_tbl[i]? = some w) : w ∈ lw_tbl := List.mem_of_getElem? h
