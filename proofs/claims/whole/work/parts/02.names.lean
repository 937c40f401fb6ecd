/-! ===== names: the words of the tables that are good; classes, fields, methods ===== -/
def gT : List Cond := lw_tbl.filter goodWord
theorem gT_of {c : Cond} (i : Nat) (h : lw_tbl[i]? = some c) (hg : goodWord c = true) : c ∈ gT := List.mem_filter.mpr ⟨List.mem_of_getElem? h, hg⟩
theorem gT_ws {ws : List Cond} (ps : List Nat) (h : ws = ps.filterMap (fun i => lw_tbl[i]?)) (hg : ws.all goodWord = true) : ∀ w ∈ ws, w ∈ gT := by
  intro w hw
  have h1 := List.all_eq_true.mp hg w hw
  rw [h] at hw
  obtain ⟨i, -, hi⟩ := List.mem_filterMap.mp hw
  exact gT_of i hi h1
theorem gT_at {l : List Cond} (hs : ∀ w ∈ l, w ∈ lw_tbl) {c : Cond} (i : Nat) (h : l[i]? = some c) (hg : goodWord c = true) : c ∈ gT := List.mem_filter.mpr ⟨hs c (List.mem_of_getElem? h), hg⟩
theorem sub_1 : ∀ w ∈ tables_1_1, w ∈ lw_tbl := fun w hw => List.mem_append_right _ (show w ∈ tables_1 from List.mem_append_left _ (hw))
theorem sub_2 : ∀ w ∈ tables_1_2, w ∈ lw_tbl := fun w hw => List.mem_append_right _ (show w ∈ tables_1 from List.mem_append_right _ (List.mem_append_left _ (hw)))
theorem sub_3 : ∀ w ∈ tables_1_3, w ∈ lw_tbl := fun w hw => List.mem_append_right _ (show w ∈ tables_1 from List.mem_append_right _ (List.mem_append_right _ (List.mem_append_left _ (hw))))
theorem sub_4 : ∀ w ∈ tables_1_4, w ∈ lw_tbl := fun w hw => List.mem_append_right _ (show w ∈ tables_1 from List.mem_append_right _ (List.mem_append_right _ (List.mem_append_right _ (List.mem_append_left _ (hw)))))
theorem sub_5 : ∀ w ∈ tables_1_5, w ∈ lw_tbl := fun w hw => List.mem_append_right _ (show w ∈ tables_1 from List.mem_append_right _ (List.mem_append_right _ (List.mem_append_right _ (List.mem_append_right _ (List.mem_append_left _ (hw))))))
theorem sub_6 : ∀ w ∈ tables_1_6, w ∈ lw_tbl := fun w hw => List.mem_append_right _ (show w ∈ tables_1 from List.mem_append_right _ (List.mem_append_right _ (List.mem_append_right _ (List.mem_append_right _ (List.mem_append_right _ (List.mem_append_left _ (hw)))))))
theorem sub_7 : ∀ w ∈ tables_1_7, w ∈ lw_tbl := fun w hw => List.mem_append_right _ (show w ∈ tables_1 from List.mem_append_right _ (List.mem_append_right _ (List.mem_append_right _ (List.mem_append_right _ (List.mem_append_right _ (List.mem_append_right _ (List.mem_append_left _ (hw))))))))
theorem sub_8 : ∀ w ∈ tables_1_8, w ∈ lw_tbl := fun w hw => List.mem_append_right _ (show w ∈ tables_1 from List.mem_append_right _ (List.mem_append_right _ (List.mem_append_right _ (List.mem_append_right _ (List.mem_append_right _ (List.mem_append_right _ (List.mem_append_right _ (hw))))))))
def R_Book : String := "QuarterBoards$Book"
def T_Book : u_T := fun k => match k with
  | 0 => ("QuarterBoards$Book", "entries", "I", false)
  | 1 => ("QuarterBoards$Book", "verdicts", "[I", true)
  | 2 => ("QuarterBoards$Book", "players", "[I", true)
  | 3 => ("QuarterBoards$Book", "outlines", "[I", true)
  | 4 => ("QuarterBoards$Book", "boardSets", "[I", true)
  | 5 => ("QuarterBoards$Book", "layCodes", "[[I", true)
  | _ => ("QuarterBoards$Book", "named", "[I", true)
def ty_Book : Nat → FieldType := fun k => match k with
  | 0 => .int
  | 1 => .array .int
  | 2 => .array .int
  | 3 => .array .int
  | 4 => .array .int
  | 5 => .array (.array .int)
  | _ => .array .int
theorem nm_Book : ∀ a, a < 7 → ∀ b, b < 7 → a ≠ b → (T_Book a).2.1 ≠ (T_Book b).2.1 := by decide +kernel
theorem tyok_Book : ∀ k, k < 7 → parseFieldDescriptor (T_Book k).2.2.1 = some (ty_Book k) := by decide +kernel
theorem iw_Book : ∀ w ∈ u_ws R_Book T_Book 7, w ∈ gT := gT_ws [523, 525, 527, 529, 531, 533, 535] (by decide +kernel) (by decide +kernel)
def R_Builder : String := "QuarterBoards$Builder"
def T_Builder : u_T := fun k => match k with
  | 0 => ("QuarterBoards$Builder", "made", "[LQuarterBoards$Shape;", true)
  | 1 => ("QuarterBoards$Builder", "asOutline", "[Z", true)
  | 2 => ("QuarterBoards$Builder", "many", "I", false)
  | 3 => ("QuarterBoards$Builder", "names", "[J", true)
  | 4 => ("QuarterBoards$Builder", "sums", "[LQuarterBoards$Shape;", true)
  | 5 => ("QuarterBoards$Builder", "parts", "[LQuarterBoards$Shape;", true)
  | 6 => ("QuarterBoards$Builder", "spare", "LQuarterBoards$Shape;", true)
  | 7 => ("QuarterBoards$Builder", "words", "[I", true)
  | 8 => ("QuarterBoards$Builder", "wordsOpen", "I", false)
  | 9 => ("QuarterBoards$Builder", "tokens", "LQuarterBoards$Tokens;", true)
  | _ => ("QuarterBoards$Builder", "at", "I", false)
def ty_Builder : Nat → FieldType := fun k => match k with
  | 0 => .array (.object "QuarterBoards$Shape")
  | 1 => .array .boolean
  | 2 => .int
  | 3 => .array .long
  | 4 => .array (.object "QuarterBoards$Shape")
  | 5 => .array (.object "QuarterBoards$Shape")
  | 6 => .object "QuarterBoards$Shape"
  | 7 => .array .int
  | 8 => .int
  | 9 => .object "QuarterBoards$Tokens"
  | _ => .int
theorem nm_Builder : ∀ a, a < 11 → ∀ b, b < 11 → a ≠ b → (T_Builder a).2.1 ≠ (T_Builder b).2.1 := by decide +kernel
theorem tyok_Builder : ∀ k, k < 11 → parseFieldDescriptor (T_Builder k).2.2.1 = some (ty_Builder k) := by decide +kernel
theorem iw_Builder : ∀ w ∈ u_ws R_Builder T_Builder 11, w ∈ gT := gT_ws [308, 310, 312, 314, 316, 318, 320, 322, 324, 306, 326] (by decide +kernel) (by decide +kernel)
def R_Cutter : String := "QuarterBoards$Cutter"
def T_Cutter : u_T := fun k => match k with
  | 0 => ("QuarterBoards$Cutter", "partCount", "I", false)
  | 1 => ("QuarterBoards$Cutter", "imageLaid", "I", false)
  | 2 => ("QuarterBoards$Cutter", "shiftA", "I", false)
  | 3 => ("QuarterBoards$Cutter", "shiftB", "I", false)
  | 4 => ("QuarterBoards$Cutter", "whole", "LQuarterBoards$Shape;", true)
  | 5 => ("QuarterBoards$Cutter", "firstPart", "LQuarterBoards$Shape;", true)
  | 6 => ("QuarterBoards$Cutter", "secondPart", "LQuarterBoards$Shape;", true)
  | 7 => ("QuarterBoards$Cutter", "common", "LQuarterBoards$Shape;", true)
  | 8 => ("QuarterBoards$Cutter", "leftOver", "LQuarterBoards$Shape;", true)
  | _ => ("QuarterBoards$Cutter", "leftForm", "LQuarterBoards$Form;", true)
def ty_Cutter : Nat → FieldType := fun k => match k with
  | 0 => .int
  | 1 => .int
  | 2 => .int
  | 3 => .int
  | 4 => .object "QuarterBoards$Shape"
  | 5 => .object "QuarterBoards$Shape"
  | 6 => .object "QuarterBoards$Shape"
  | 7 => .object "QuarterBoards$Shape"
  | 8 => .object "QuarterBoards$Shape"
  | _ => .object "QuarterBoards$Form"
theorem nm_Cutter : ∀ a, a < 10 → ∀ b, b < 10 → a ≠ b → (T_Cutter a).2.1 ≠ (T_Cutter b).2.1 := by decide +kernel
theorem tyok_Cutter : ∀ k, k < 10 → parseFieldDescriptor (T_Cutter k).2.2.1 = some (ty_Cutter k) := by decide +kernel
theorem iw_Cutter : ∀ w ∈ u_ws R_Cutter T_Cutter 10, w ∈ gT := gT_ws [462, 464, 466, 468, 470, 472, 474, 476, 478, 480] (by decide +kernel) (by decide +kernel)
def R_Filler : String := "QuarterBoards$Filler"
def T_Filler : u_T := fun k => match k with
  | 0 => ("QuarterBoards$Filler", "countedSteps", "I", false)
  | 1 => ("QuarterBoards$Filler", "boards", "[LQuarterBoards$Form;", true)
  | 2 => ("QuarterBoards$Filler", "left", "LQuarterBoards$Shape;", true)
  | 3 => ("QuarterBoards$Filler", "onlyFirst", "Z", false)
  | 4 => ("QuarterBoards$Filler", "full", "Z", false)
  | 5 => ("QuarterBoards$Filler", "stepsDone", "I", false)
  | 6 => ("QuarterBoards$Filler", "ways", "I", false)
  | 7 => ("QuarterBoards$Filler", "tried", "[I", true)
  | 8 => ("QuarterBoards$Filler", "firstWay", "[I", true)
  | 9 => ("QuarterBoards$Filler", "rememberedSet", "I", false)
  | 10 => ("QuarterBoards$Filler", "setCounts", "[I", true)
  | _ => ("QuarterBoards$Filler", "fillingSets", "[[I", true)
def ty_Filler : Nat → FieldType := fun k => match k with
  | 0 => .int
  | 1 => .array (.object "QuarterBoards$Form")
  | 2 => .object "QuarterBoards$Shape"
  | 3 => .boolean
  | 4 => .boolean
  | 5 => .int
  | 6 => .int
  | 7 => .array .int
  | 8 => .array .int
  | 9 => .int
  | 10 => .array .int
  | _ => .array (.array .int)
theorem nm_Filler : ∀ a, a < 12 → ∀ b, b < 12 → a ≠ b → (T_Filler a).2.1 ≠ (T_Filler b).2.1 := by decide +kernel
theorem tyok_Filler : ∀ k, k < 12 → parseFieldDescriptor (T_Filler k).2.2.1 = some (ty_Filler k) := by decide +kernel
theorem iw_Filler : ∀ w ∈ u_ws R_Filler T_Filler 12, w ∈ gT := gT_ws [400, 398, 402, 404, 406, 408, 410, 412, 414, 416, 418, 420] (by decide +kernel) (by decide +kernel)
def R_Form : String := "QuarterBoards$Form"
def T_Form : u_T := fun k => match k with
  | 0 => ("QuarterBoards$Form", "told", "LQuarterBoards$Shape;", true)
  | 1 => ("QuarterBoards$Form", "turned", "[LQuarterBoards$Shape;", true)
  | 2 => ("QuarterBoards$Form", "lowest", "[I", true)
  | 3 => ("QuarterBoards$Form", "width", "[I", true)
  | 4 => ("QuarterBoards$Form", "height", "[I", true)
  | 5 => ("QuarterBoards$Form", "leastSame", "[I", true)
  | _ => ("QuarterBoards$Form", "size", "I", false)
def ty_Form : Nat → FieldType := fun k => match k with
  | 0 => .object "QuarterBoards$Shape"
  | 1 => .array (.object "QuarterBoards$Shape")
  | 2 => .array .int
  | 3 => .array .int
  | 4 => .array .int
  | 5 => .array .int
  | _ => .int
theorem nm_Form : ∀ a, a < 7 → ∀ b, b < 7 → a ≠ b → (T_Form a).2.1 ≠ (T_Form b).2.1 := by decide +kernel
theorem tyok_Form : ∀ k, k < 7 → parseFieldDescriptor (T_Form k).2.2.1 = some (ty_Form k) := by decide +kernel
theorem iw_Form : ∀ w ∈ u_ws R_Form T_Form 7, w ∈ gT := gT_ws [369, 371, 373, 375, 377, 379, 381] (by decide +kernel) (by decide +kernel)
def R_Meaning : String := "QuarterBoards$Meaning"
def T_Meaning : u_T := fun k => match k with
  | 0 => ("QuarterBoards$Meaning", "names", "[J", true)
  | 1 => ("QuarterBoards$Meaning", "told", "I", false)
  | 2 => ("QuarterBoards$Meaning", "openName", "J", false)
  | 3 => ("QuarterBoards$Meaning", "word", "I", false)
  | 4 => ("QuarterBoards$Meaning", "numbersSeen", "I", false)
  | 5 => ("QuarterBoards$Meaning", "unitX", "I", false)
  | _ => ("QuarterBoards$Meaning", "unitY", "I", false)
def ty_Meaning : Nat → FieldType := fun k => match k with
  | 0 => .array .long
  | 1 => .int
  | 2 => .long
  | 3 => .int
  | 4 => .int
  | 5 => .int
  | _ => .int
theorem nm_Meaning : ∀ a, a < 7 → ∀ b, b < 7 → a ≠ b → (T_Meaning a).2.1 ≠ (T_Meaning b).2.1 := by decide +kernel
theorem tyok_Meaning : ∀ k, k < 7 → parseFieldDescriptor (T_Meaning k).2.2.1 = some (ty_Meaning k) := by decide +kernel
theorem iw_Meaning : ∀ w ∈ u_ws R_Meaning T_Meaning 7, w ∈ gT := gT_ws [174, 176, 178, 180, 182, 184, 186] (by decide +kernel) (by decide +kernel)
def R_Measure : String := "QuarterBoards$Measure"
def T_Measure : u_T := fun k => match k with
  | 0 => ("QuarterBoards$Measure", "open", "LQuarterBoards$Shape;", true)
  | 1 => ("QuarterBoards$Measure", "queue", "[I", true)
  | _ => ("QuarterBoards$Measure", "queued", "I", false)
def ty_Measure : Nat → FieldType := fun k => match k with
  | 0 => .object "QuarterBoards$Shape"
  | 1 => .array .int
  | _ => .int
theorem nm_Measure : ∀ a, a < 3 → ∀ b, b < 3 → a ≠ b → (T_Measure a).2.1 ≠ (T_Measure b).2.1 := by decide +kernel
theorem tyok_Measure : ∀ k, k < 3 → parseFieldDescriptor (T_Measure k).2.2.1 = some (ty_Measure k) := by decide +kernel
theorem iw_Measure : ∀ w ∈ u_ws R_Measure T_Measure 3, w ∈ gT := gT_ws [435, 437, 439] (by decide +kernel) (by decide +kernel)
def R_Shape : String := "QuarterBoards$Shape"
def T_Shape : u_T := fun k => match k with
  | _ => ("QuarterBoards$Shape", "rows", "[I", true)
def ty_Shape : Nat → FieldType := fun k => match k with
  | _ => .array .int
theorem nm_Shape : ∀ a, a < 1 → ∀ b, b < 1 → a ≠ b → (T_Shape a).2.1 ≠ (T_Shape b).2.1 := by decide +kernel
theorem tyok_Shape : ∀ k, k < 1 → parseFieldDescriptor (T_Shape k).2.2.1 = some (ty_Shape k) := by decide +kernel
theorem iw_Shape : ∀ w ∈ u_ws R_Shape T_Shape 1, w ∈ gT := gT_ws [287] (by decide +kernel) (by decide +kernel)
def R_Syntax : String := "QuarterBoards$Syntax"
def T_Syntax : u_T := fun k => match k with
  | 0 => ("QuarterBoards$Syntax", "state", "I", false)
  | 1 => ("QuarterBoards$Syntax", "numbersLeft", "I", false)
  | 2 => ("QuarterBoards$Syntax", "brackets", "I", false)
  | 3 => ("QuarterBoards$Syntax", "boardsTold", "I", false)
  | _ => ("QuarterBoards$Syntax", "outlinesTold", "I", false)
def ty_Syntax : Nat → FieldType := fun k => match k with
  | 0 => .int
  | 1 => .int
  | 2 => .int
  | 3 => .int
  | _ => .int
theorem nm_Syntax : ∀ a, a < 5 → ∀ b, b < 5 → a ≠ b → (T_Syntax a).2.1 ≠ (T_Syntax b).2.1 := by decide +kernel
theorem tyok_Syntax : ∀ k, k < 5 → parseFieldDescriptor (T_Syntax k).2.2.1 = some (ty_Syntax k) := by decide +kernel
theorem iw_Syntax : ∀ w ∈ u_ws R_Syntax T_Syntax 5, w ∈ gT := gT_ws [149, 151, 153, 155, 157] (by decide +kernel) (by decide +kernel)
def R_Table : String := "QuarterBoards$Table"
def T_Table : u_T := fun k => match k with
  | 0 => ("QuarterBoards$Table", "lays", "[LQuarterBoards$Shape;", true)
  | 1 => ("QuarterBoards$Table", "codes", "[I", true)
  | 2 => ("QuarterBoards$Table", "once", "LQuarterBoards$Shape;", true)
  | 3 => ("QuarterBoards$Table", "again", "LQuarterBoards$Shape;", true)
  | _ => ("QuarterBoards$Table", "spare", "LQuarterBoards$Shape;", true)
def ty_Table : Nat → FieldType := fun k => match k with
  | 0 => .array (.object "QuarterBoards$Shape")
  | 1 => .array .int
  | 2 => .object "QuarterBoards$Shape"
  | 3 => .object "QuarterBoards$Shape"
  | _ => .object "QuarterBoards$Shape"
theorem nm_Table : ∀ a, a < 5 → ∀ b, b < 5 → a ≠ b → (T_Table a).2.1 ≠ (T_Table b).2.1 := by decide +kernel
theorem tyok_Table : ∀ k, k < 5 → parseFieldDescriptor (T_Table k).2.2.1 = some (ty_Table k) := by decide +kernel
theorem iw_Table : ∀ w ∈ u_ws R_Table T_Table 5, w ∈ gT := gT_ws [496, 498, 500, 502, 504] (by decide +kernel) (by decide +kernel)
def R_Tokens : String := "QuarterBoards$Tokens"
def T_Tokens : u_T := fun k => match k with
  | 0 => ("QuarterBoards$Tokens", "kinds", "[I", true)
  | 1 => ("QuarterBoards$Tokens", "places", "[I", true)
  | 2 => ("QuarterBoards$Tokens", "values", "[J", true)
  | 3 => ("QuarterBoards$Tokens", "many", "I", false)
  | 4 => ("QuarterBoards$Tokens", "endPlace", "I", false)
  | 5 => ("QuarterBoards$Tokens", "fault", "I", false)
  | 6 => ("QuarterBoards$Tokens", "faultPlace", "I", false)
  | _ => ("QuarterBoards$Tokens", "wordCodes", "[J", true)
def ty_Tokens : Nat → FieldType := fun k => match k with
  | 0 => .array .int
  | 1 => .array .int
  | 2 => .array .long
  | 3 => .int
  | 4 => .int
  | 5 => .int
  | 6 => .int
  | _ => .array .long
theorem nm_Tokens : ∀ a, a < 8 → ∀ b, b < 8 → a ≠ b → (T_Tokens a).2.1 ≠ (T_Tokens b).2.1 := by decide +kernel
theorem tyok_Tokens : ∀ k, k < 8 → parseFieldDescriptor (T_Tokens k).2.2.1 = some (ty_Tokens k) := by decide +kernel
theorem iw_Tokens : ∀ w ∈ u_ws R_Tokens T_Tokens 8, w ∈ gT := gT_ws [260, 262, 264, 266, 268, 270, 272, 274] (by decide +kernel) (by decide +kernel)
def R_Q : String := "QuarterBoards"
def T_Q : u_T := fun k => match k with
  | 0 => ("QuarterBoards", "tape", "[B", true)
  | 1 => ("QuarterBoards", "tapeLength", "I", false)
  | 2 => ("QuarterBoards", "faultPlace", "I", false)
  | 3 => ("QuarterBoards", "boards", "[LQuarterBoards$Form;", true)
  | 4 => ("QuarterBoards", "outlines", "[LQuarterBoards$Form;", true)
  | 5 => ("QuarterBoards", "boardCount", "I", false)
  | 6 => ("QuarterBoards", "outlineCount", "I", false)
  | 7 => ("QuarterBoards", "tokens", "LQuarterBoards$Tokens;", true)
  | 8 => ("QuarterBoards", "syntax", "LQuarterBoards$Syntax;", true)
  | 9 => ("QuarterBoards", "meaning", "LQuarterBoards$Meaning;", true)
  | 10 => ("QuarterBoards", "builder", "LQuarterBoards$Builder;", true)
  | 11 => ("QuarterBoards", "measure", "LQuarterBoards$Measure;", true)
  | 12 => ("QuarterBoards", "filler", "LQuarterBoards$Filler;", true)
  | 13 => ("QuarterBoards", "cutter", "LQuarterBoards$Cutter;", true)
  | 14 => ("QuarterBoards", "table", "LQuarterBoards$Table;", true)
  | 15 => ("QuarterBoards", "book", "LQuarterBoards$Book;", true)
  | _ => ("QuarterBoards", "covered", "LQuarterBoards$Shape;", true)
def ty_Q : Nat → FieldType := fun k => match k with
  | 0 => .array .byte
  | 1 => .int
  | 2 => .int
  | 3 => .array (.object "QuarterBoards$Form")
  | 4 => .array (.object "QuarterBoards$Form")
  | 5 => .int
  | 6 => .int
  | 7 => .object "QuarterBoards$Tokens"
  | 8 => .object "QuarterBoards$Syntax"
  | 9 => .object "QuarterBoards$Meaning"
  | 10 => .object "QuarterBoards$Builder"
  | 11 => .object "QuarterBoards$Measure"
  | 12 => .object "QuarterBoards$Filler"
  | 13 => .object "QuarterBoards$Cutter"
  | 14 => .object "QuarterBoards$Table"
  | 15 => .object "QuarterBoards$Book"
  | _ => .object "QuarterBoards$Shape"
theorem nm_Q : ∀ a, a < 17 → ∀ b, b < 17 → a ≠ b → (T_Q a).2.1 ≠ (T_Q b).2.1 := by decide +kernel
theorem tyok_Q : ∀ k, k < 17 → parseFieldDescriptor (T_Q k).2.2.1 = some (ty_Q k) := by decide +kernel
theorem iw_Q : ∀ w ∈ u_ws R_Q T_Q 17, w ∈ gT := gT_ws [558, 560, 562, 574, 576, 578, 580, 570, 564, 566, 568, 582, 572, 584, 586, 588, 590] (by decide +kernel) (by decide +kernel)
def R_Mo : String := "QuarterBoardsModel"
def T_Mo : u_T := fun k => match k with
  | 0 => ("QuarterBoardsModel", "thrown", "I", false)
  | 1 => ("QuarterBoardsModel", "tape", "[B", true)
  | 2 => ("QuarterBoardsModel", "taped", "I", false)
  | 3 => ("QuarterBoardsModel", "text", "[B", true)
  | 4 => ("QuarterBoardsModel", "size", "I", false)
  | 5 => ("QuarterBoardsModel", "tKind", "[I", true)
  | 6 => ("QuarterBoardsModel", "tPlace", "[I", true)
  | 7 => ("QuarterBoardsModel", "tValue", "[I", true)
  | 8 => ("QuarterBoardsModel", "tName", "[J", true)
  | 9 => ("QuarterBoardsModel", "keys", "[J", true)
  | 10 => ("QuarterBoardsModel", "tokens", "I", false)
  | 11 => ("QuarterBoardsModel", "t", "I", false)
  | 12 => ("QuarterBoardsModel", "open", "I", false)
  | 13 => ("QuarterBoardsModel", "fault", "I", false)
  | 14 => ("QuarterBoardsModel", "faultPlace", "I", false)
  | 15 => ("QuarterBoardsModel", "worst", "I", false)
  | 16 => ("QuarterBoardsModel", "worstPlace", "I", false)
  | 17 => ("QuarterBoardsModel", "place", "I", false)
  | 18 => ("QuarterBoardsModel", "sh", "[Z", true)
  | 19 => ("QuarterBoardsModel", "live", "I", false)
  | 20 => ("QuarterBoardsModel", "side", "I", false)
  | 21 => ("QuarterBoardsModel", "boards", "[I", true)
  | 22 => ("QuarterBoardsModel", "outlines", "[I", true)
  | 23 => ("QuarterBoardsModel", "things", "I", false)
  | 24 => ("QuarterBoardsModel", "thingName", "[J", true)
  | 25 => ("QuarterBoardsModel", "thingToken", "[I", true)
  | 26 => ("QuarterBoardsModel", "isOutline", "[Z", true)
  | 27 => ("QuarterBoardsModel", "thingNumber", "[I", true)
  | 28 => ("QuarterBoardsModel", "thingFrom", "[I", true)
  | 29 => ("QuarterBoardsModel", "codes", "I", false)
  | 30 => ("QuarterBoardsModel", "code", "[I", true)
  | 31 => ("QuarterBoardsModel", "numA", "[I", true)
  | 32 => ("QuarterBoardsModel", "numB", "[I", true)
  | 33 => ("QuarterBoardsModel", "numC", "[I", true)
  | 34 => ("QuarterBoardsModel", "numD", "[I", true)
  | 35 => ("QuarterBoardsModel", "codePlace", "[I", true)
  | 36 => ("QuarterBoardsModel", "waits", "[I", true)
  | 37 => ("QuarterBoardsModel", "waitA", "[I", true)
  | 38 => ("QuarterBoardsModel", "waitB", "[I", true)
  | 39 => ("QuarterBoardsModel", "waitPlace", "[I", true)
  | 40 => ("QuarterBoardsModel", "waiting", "I", false)
  | 41 => ("QuarterBoardsModel", "trail", "[I", true)
  | 42 => ("QuarterBoardsModel", "isMet", "[Z", true)
  | 43 => ("QuarterBoardsModel", "trailed", "I", false)
  | 44 => ("QuarterBoardsModel", "round", "[Z", true)
  | 45 => ("QuarterBoardsModel", "imageMany", "[I", true)
  | 46 => ("QuarterBoardsModel", "imageRow", "[I", true)
  | 47 => ("QuarterBoardsModel", "isUsed", "[Z", true)
  | 48 => ("QuarterBoardsModel", "isReady", "Z", false)
  | 49 => ("QuarterBoardsModel", "left", "[Z", true)
  | 50 => ("QuarterBoardsModel", "steps", "I", false)
  | 51 => ("QuarterBoardsModel", "lookSteps", "I", false)
  | 52 => ("QuarterBoardsModel", "found", "I", false)
  | 53 => ("QuarterBoardsModel", "isFull", "Z", false)
  | 54 => ("QuarterBoardsModel", "atQuarter", "[I", true)
  | 55 => ("QuarterBoardsModel", "atBoard", "[I", true)
  | 56 => ("QuarterBoardsModel", "atImage", "[I", true)
  | 57 => ("QuarterBoardsModel", "atOff", "[I", true)
  | 58 => ("QuarterBoardsModel", "isRemembered", "Z", false)
  | 59 => ("QuarterBoardsModel", "fBoardImage", "[I", true)
  | 60 => ("QuarterBoardsModel", "fBoardA", "[I", true)
  | 61 => ("QuarterBoardsModel", "fBoardB", "[I", true)
  | 62 => ("QuarterBoardsModel", "rImage", "[I", true)
  | 63 => ("QuarterBoardsModel", "rA", "[I", true)
  | 64 => ("QuarterBoardsModel", "rB", "[I", true)
  | 65 => ("QuarterBoardsModel", "needs", "I", false)
  | 66 => ("QuarterBoardsModel", "setMany", "I", false)
  | 67 => ("QuarterBoardsModel", "cutParts", "I", false)
  | 68 => ("QuarterBoardsModel", "cutG", "I", false)
  | 69 => ("QuarterBoardsModel", "cutA", "I", false)
  | 70 => ("QuarterBoardsModel", "cutB", "I", false)
  | 71 => ("QuarterBoardsModel", "onTable", "[I", true)
  | 72 => ("QuarterBoardsModel", "lies", "[Z", true)
  | 73 => ("QuarterBoardsModel", "claims", "I", false)
  | 74 => ("QuarterBoardsModel", "player", "[I", true)
  | 75 => ("QuarterBoardsModel", "claimOutline", "[I", true)
  | 76 => ("QuarterBoardsModel", "claimSet", "[I", true)
  | 77 => ("QuarterBoardsModel", "verdicts", "[I", true)
  | 78 => ("QuarterBoardsModel", "voids", "[I", true)
  | _ => ("QuarterBoardsModel", "shown", "[Z", true)
def ty_Mo : Nat → FieldType := fun k => match k with
  | 0 => .int
  | 1 => .array .byte
  | 2 => .int
  | 3 => .array .byte
  | 4 => .int
  | 5 => .array .int
  | 6 => .array .int
  | 7 => .array .int
  | 8 => .array .long
  | 9 => .array .long
  | 10 => .int
  | 11 => .int
  | 12 => .int
  | 13 => .int
  | 14 => .int
  | 15 => .int
  | 16 => .int
  | 17 => .int
  | 18 => .array .boolean
  | 19 => .int
  | 20 => .int
  | 21 => .array .int
  | 22 => .array .int
  | 23 => .int
  | 24 => .array .long
  | 25 => .array .int
  | 26 => .array .boolean
  | 27 => .array .int
  | 28 => .array .int
  | 29 => .int
  | 30 => .array .int
  | 31 => .array .int
  | 32 => .array .int
  | 33 => .array .int
  | 34 => .array .int
  | 35 => .array .int
  | 36 => .array .int
  | 37 => .array .int
  | 38 => .array .int
  | 39 => .array .int
  | 40 => .int
  | 41 => .array .int
  | 42 => .array .boolean
  | 43 => .int
  | 44 => .array .boolean
  | 45 => .array .int
  | 46 => .array .int
  | 47 => .array .boolean
  | 48 => .boolean
  | 49 => .array .boolean
  | 50 => .int
  | 51 => .int
  | 52 => .int
  | 53 => .boolean
  | 54 => .array .int
  | 55 => .array .int
  | 56 => .array .int
  | 57 => .array .int
  | 58 => .boolean
  | 59 => .array .int
  | 60 => .array .int
  | 61 => .array .int
  | 62 => .array .int
  | 63 => .array .int
  | 64 => .array .int
  | 65 => .int
  | 66 => .int
  | 67 => .int
  | 68 => .int
  | 69 => .int
  | 70 => .int
  | 71 => .array .int
  | 72 => .array .boolean
  | 73 => .int
  | 74 => .array .int
  | 75 => .array .int
  | 76 => .array .int
  | 77 => .array .int
  | 78 => .array .int
  | _ => .array .boolean
theorem nm_Mo : ∀ a, a < 80 → ∀ b, b < 80 → a ≠ b → (T_Mo a).2.1 ≠ (T_Mo b).2.1 := by decide +kernel
theorem tyok_Mo : ∀ k, k < 80 → parseFieldDescriptor (T_Mo k).2.2.1 = some (ty_Mo k) := by decide +kernel
theorem iw_Mo : ∀ w ∈ u_ws R_Mo T_Mo 80, w ∈ gT := gT_ws [1484, 1486, 1488, 1490, 1492, 1494, 1496, 1498, 1500, 1502, 1504, 1506, 1508, 1510, 1512, 1514, 1516, 1518, 1520, 1522, 1524, 1526, 1528, 1530, 1532, 1534, 1536, 1538, 1540, 1542, 1544, 1546, 1548, 1550, 1552, 1554, 1556, 1558, 1560, 1562, 1564, 1566, 1568, 1570, 1572, 1574, 1576, 1578, 1580, 1582, 1584, 1586, 1588, 1590, 1592, 1594, 1596, 1598, 1600, 1602, 1604, 1606, 1608, 1610, 1612, 1614, 1616, 1618, 1620, 1622, 1624, 1626, 1628, 1630, 1632, 1634, 1636, 1638, 1640, 1642] (by decide +kernel) (by decide +kernel)
def classes : List vw_C := [(R_Book, T_Book, 7), (R_Builder, T_Builder, 11), (R_Cutter, T_Cutter, 10), (R_Filler, T_Filler, 12), (R_Form, T_Form, 7), (R_Meaning, T_Meaning, 7), (R_Measure, T_Measure, 3), (R_Shape, T_Shape, 1), (R_Syntax, T_Syntax, 5), (R_Table, T_Table, 5), (R_Tokens, T_Tokens, 8), (R_Q, T_Q, 17), (R_Mo, T_Mo, 80)]
def qty (ci : Nat) : Nat → FieldType := match ci with
  | 0 => ty_Book
  | 1 => ty_Builder
  | 2 => ty_Cutter
  | 3 => ty_Filler
  | 4 => ty_Form
  | 5 => ty_Meaning
  | 6 => ty_Measure
  | 7 => ty_Shape
  | 8 => ty_Syntax
  | 9 => ty_Table
  | 10 => ty_Tokens
  | 11 => ty_Q
  | _ => ty_Mo
def qnf (ci : Nat) : Nat := match ci with
  | 0 => 7
  | 1 => 11
  | 2 => 10
  | 3 => 12
  | 4 => 7
  | 5 => 7
  | 6 => 3
  | 7 => 1
  | 8 => 5
  | 9 => 5
  | 10 => 8
  | 11 => 17
  | _ => 80
