def xm_C0 : String := "ExchangeText"
def xm_T0 : u_T := fun k => match k with
  | 0 => ("ExchangeText", "text", "LExchangeText$Page;", true)
  | 1 => ("ExchangeText", "spareText", "LExchangeText$Page;", true)
  | 2 => ("ExchangeText", "kinds", "LExchangeText$Kinds;", true)
  | 3 => ("ExchangeText", "spareKinds", "LExchangeText$Kinds;", true)
  | 4 => ("ExchangeText", "model", "LExchangeText$Model;", true)
  | 5 => ("ExchangeText", "spareModel", "LExchangeText$Model;", true)
  | 6 => ("ExchangeText", "kept", "LExchangeText$Model;", true)
  | 7 => ("ExchangeText", "graph", "LExchangeText$Graph;", true)
  | 8 => ("ExchangeText", "byNumber", "LExchangeText$Leads;", true)
  | 9 => ("ExchangeText", "schemaReader", "LExchangeText$SchemaReader;", true)
  | _ => ("ExchangeText", "modelReader", "LExchangeText$ModelReader;", true)
def xm_ty0 : Nat → FieldType := fun k => match k with
  | 0 => .object "ExchangeText$Page"
  | 1 => .object "ExchangeText$Page"
  | 2 => .object "ExchangeText$Kinds"
  | 3 => .object "ExchangeText$Kinds"
  | 4 => .object "ExchangeText$Model"
  | 5 => .object "ExchangeText$Model"
  | 6 => .object "ExchangeText$Model"
  | 7 => .object "ExchangeText$Graph"
  | 8 => .object "ExchangeText$Leads"
  | 9 => .object "ExchangeText$SchemaReader"
  | _ => .object "ExchangeText$ModelReader"
theorem xm_tk0 : ∀ j, j < 11 → parseFieldDescriptor (xm_T0 j).2.2.1 = some (xm_ty0 j) := by decide +kernel
theorem xm_nm0 : ∀ i, i < 11 → ∀ j, j < 11 → i ≠ j → (xm_T0 i).2.1 ≠ (xm_T0 j).2.1 := by decide +kernel
theorem xm_u0 : ∀ w ∈ u_ws xm_C0 xm_T0 11, w ∈ xw_g := by
  have h : ∀ j, j < 11 → u_lay xm_C0 xm_T0 j ∈ xw_g := lt_s (lt_s (lt_s (lt_s (lt_s (lt_s (lt_s (lt_s (lt_s (lt_s (lt_s (lt_0) (show u_lay xm_C0 xm_T0 0 ∈ xw_g from xl_717)) (show u_lay xm_C0 xm_T0 1 ∈ xw_g from xl_718)) (show u_lay xm_C0 xm_T0 2 ∈ xw_g from xl_719)) (show u_lay xm_C0 xm_T0 3 ∈ xw_g from xl_720)) (show u_lay xm_C0 xm_T0 4 ∈ xw_g from xl_721)) (show u_lay xm_C0 xm_T0 5 ∈ xw_g from xl_722)) (show u_lay xm_C0 xm_T0 6 ∈ xw_g from xl_723)) (show u_lay xm_C0 xm_T0 7 ∈ xw_g from xl_724)) (show u_lay xm_C0 xm_T0 8 ∈ xw_g from xl_725)) (show u_lay xm_C0 xm_T0 9 ∈ xw_g from xl_726)) (show u_lay xm_C0 xm_T0 10 ∈ xw_g from xl_727)
  intro w hw
  obtain ⟨j, hj, rfl⟩ := List.mem_map.mp hw
  exact h j (List.mem_range.mp hj)
def xm_d0 : List Value := [.null, .null, .null, .null, .null, .null, .null, .null, .null, .null, .null]
theorem xm_df0 : ∀ j, j < 11 → defaultValue (xm_ty0 j) = vp_V xm_d0 j := by decide +kernel
def xm_C1 : String := "ExchangeText$Page"
def xm_T1 : u_T := fun k => match k with
  | 0 => ("ExchangeText$Page", "signs", "[C", true)
  | 1 => ("ExchangeText$Page", "length", "I", false)
  | _ => ("ExchangeText$Page", "full", "Z", false)
def xm_ty1 : Nat → FieldType := fun k => match k with
  | 0 => .array .char
  | 1 => .int
  | _ => .boolean
theorem xm_tk1 : ∀ j, j < 3 → parseFieldDescriptor (xm_T1 j).2.2.1 = some (xm_ty1 j) := by decide +kernel
theorem xm_nm1 : ∀ i, i < 3 → ∀ j, j < 3 → i ≠ j → (xm_T1 i).2.1 ≠ (xm_T1 j).2.1 := by decide +kernel
theorem xm_u1 : ∀ w ∈ u_ws xm_C1 xm_T1 3, w ∈ xw_g := by
  have h : ∀ j, j < 3 → u_lay xm_C1 xm_T1 j ∈ xw_g := lt_s (lt_s (lt_s (lt_0) (show u_lay xm_C1 xm_T1 0 ∈ xw_g from xl_728)) (show u_lay xm_C1 xm_T1 1 ∈ xw_g from xl_729)) (show u_lay xm_C1 xm_T1 2 ∈ xw_g from xl_730)
  intro w hw
  obtain ⟨j, hj, rfl⟩ := List.mem_map.mp hw
  exact h j (List.mem_range.mp hj)
def xm_d1 : List Value := [.null, .int 0, .int 0]
theorem xm_df1 : ∀ j, j < 3 → defaultValue (xm_ty1 j) = vp_V xm_d1 j := by decide +kernel
def xm_C2 : String := "ExchangeText$Kinds"
def xm_T2 : u_T := fun k => match k with
  | 0 => ("ExchangeText$Kinds", "total", "I", false)
  | 1 => ("ExchangeText$Kinds", "name", "[J", true)
  | 2 => ("ExchangeText$Kinds", "size", "[I", true)
  | 3 => ("ExchangeText$Kinds", "sort", "[I", true)
  | _ => ("ExchangeText$Kinds", "mayBeNothing", "[Z", true)
def xm_ty2 : Nat → FieldType := fun k => match k with
  | 0 => .int
  | 1 => .array .long
  | 2 => .array .int
  | 3 => .array .int
  | _ => .array .boolean
theorem xm_tk2 : ∀ j, j < 5 → parseFieldDescriptor (xm_T2 j).2.2.1 = some (xm_ty2 j) := by decide +kernel
theorem xm_nm2 : ∀ i, i < 5 → ∀ j, j < 5 → i ≠ j → (xm_T2 i).2.1 ≠ (xm_T2 j).2.1 := by decide +kernel
theorem xm_u2 : ∀ w ∈ u_ws xm_C2 xm_T2 5, w ∈ xw_g := by
  have h : ∀ j, j < 5 → u_lay xm_C2 xm_T2 j ∈ xw_g := lt_s (lt_s (lt_s (lt_s (lt_s (lt_0) (show u_lay xm_C2 xm_T2 0 ∈ xw_g from xl_731)) (show u_lay xm_C2 xm_T2 1 ∈ xw_g from xl_732)) (show u_lay xm_C2 xm_T2 2 ∈ xw_g from xl_733)) (show u_lay xm_C2 xm_T2 3 ∈ xw_g from xl_734)) (show u_lay xm_C2 xm_T2 4 ∈ xw_g from xl_735)
  intro w hw
  obtain ⟨j, hj, rfl⟩ := List.mem_map.mp hw
  exact h j (List.mem_range.mp hj)
def xm_d2 : List Value := [.int 0, .null, .null, .null, .null]
theorem xm_df2 : ∀ j, j < 5 → defaultValue (xm_ty2 j) = vp_V xm_d2 j := by decide +kernel
def xm_C3 : String := "ExchangeText$Model"
def xm_T3 : u_T := fun k => match k with
  | 0 => ("ExchangeText$Model", "rows", "I", false)
  | 1 => ("ExchangeText$Model", "lines", "I", false)
  | 2 => ("ExchangeText$Model", "used", "I", false)
  | 3 => ("ExchangeText$Model", "number", "[I", true)
  | 4 => ("ExchangeText$Model", "name", "[J", true)
  | 5 => ("ExchangeText$Model", "size", "[I", true)
  | 6 => ("ExchangeText$Model", "order", "[I", true)
  | 7 => ("ExchangeText$Model", "sort", "[I", true)
  | 8 => ("ExchangeText$Model", "value", "[I", true)
  | 9 => ("ExchangeText$Model", "start", "[I", true)
  | _ => ("ExchangeText$Model", "items", "[I", true)
def xm_ty3 : Nat → FieldType := fun k => match k with
  | 0 => .int
  | 1 => .int
  | 2 => .int
  | 3 => .array .int
  | 4 => .array .long
  | 5 => .array .int
  | 6 => .array .int
  | 7 => .array .int
  | 8 => .array .int
  | 9 => .array .int
  | _ => .array .int
theorem xm_tk3 : ∀ j, j < 11 → parseFieldDescriptor (xm_T3 j).2.2.1 = some (xm_ty3 j) := by decide +kernel
theorem xm_nm3 : ∀ i, i < 11 → ∀ j, j < 11 → i ≠ j → (xm_T3 i).2.1 ≠ (xm_T3 j).2.1 := by decide +kernel
theorem xm_u3 : ∀ w ∈ u_ws xm_C3 xm_T3 11, w ∈ xw_g := by
  have h : ∀ j, j < 11 → u_lay xm_C3 xm_T3 j ∈ xw_g := lt_s (lt_s (lt_s (lt_s (lt_s (lt_s (lt_s (lt_s (lt_s (lt_s (lt_s (lt_0) (show u_lay xm_C3 xm_T3 0 ∈ xw_g from xl_736)) (show u_lay xm_C3 xm_T3 1 ∈ xw_g from xl_737)) (show u_lay xm_C3 xm_T3 2 ∈ xw_g from xl_738)) (show u_lay xm_C3 xm_T3 3 ∈ xw_g from xl_739)) (show u_lay xm_C3 xm_T3 4 ∈ xw_g from xl_740)) (show u_lay xm_C3 xm_T3 5 ∈ xw_g from xl_741)) (show u_lay xm_C3 xm_T3 6 ∈ xw_g from xl_742)) (show u_lay xm_C3 xm_T3 7 ∈ xw_g from xl_743)) (show u_lay xm_C3 xm_T3 8 ∈ xw_g from xl_744)) (show u_lay xm_C3 xm_T3 9 ∈ xw_g from xl_745)) (show u_lay xm_C3 xm_T3 10 ∈ xw_g from xl_746)
  intro w hw
  obtain ⟨j, hj, rfl⟩ := List.mem_map.mp hw
  exact h j (List.mem_range.mp hj)
def xm_d3 : List Value := [.int 0, .int 0, .int 0, .null, .null, .null, .null, .null, .null, .null, .null]
theorem xm_df3 : ∀ j, j < 11 → defaultValue (xm_ty3 j) = vp_V xm_d3 j := by decide +kernel
def xm_C4 : String := "ExchangeText$Graph"
def xm_T4 : u_T := fun k => match k with
  | 0 => ("ExchangeText$Graph", "model", "LExchangeText$Model;", true)
  | 1 => ("ExchangeText$Graph", "direct", "[J", true)
  | 2 => ("ExchangeText$Graph", "reach", "[J", true)
  | 3 => ("ExchangeText$Graph", "depth", "[I", true)
  | 4 => ("ExchangeText$Graph", "leads", "LExchangeText$Leads;", true)
  | _ => ("ExchangeText$Graph", "grouped", "Z", false)
def xm_ty4 : Nat → FieldType := fun k => match k with
  | 0 => .object "ExchangeText$Model"
  | 1 => .array .long
  | 2 => .array .long
  | 3 => .array .int
  | 4 => .object "ExchangeText$Leads"
  | _ => .boolean
theorem xm_tk4 : ∀ j, j < 6 → parseFieldDescriptor (xm_T4 j).2.2.1 = some (xm_ty4 j) := by decide +kernel
theorem xm_nm4 : ∀ i, i < 6 → ∀ j, j < 6 → i ≠ j → (xm_T4 i).2.1 ≠ (xm_T4 j).2.1 := by decide +kernel
theorem xm_u4 : ∀ w ∈ u_ws xm_C4 xm_T4 6, w ∈ xw_g := by
  have h : ∀ j, j < 6 → u_lay xm_C4 xm_T4 j ∈ xw_g := lt_s (lt_s (lt_s (lt_s (lt_s (lt_s (lt_0) (show u_lay xm_C4 xm_T4 0 ∈ xw_g from xl_747)) (show u_lay xm_C4 xm_T4 1 ∈ xw_g from xl_748)) (show u_lay xm_C4 xm_T4 2 ∈ xw_g from xl_749)) (show u_lay xm_C4 xm_T4 3 ∈ xw_g from xl_750)) (show u_lay xm_C4 xm_T4 4 ∈ xw_g from xl_751)) (show u_lay xm_C4 xm_T4 5 ∈ xw_g from xl_752)
  intro w hw
  obtain ⟨j, hj, rfl⟩ := List.mem_map.mp hw
  exact h j (List.mem_range.mp hj)
def xm_d4 : List Value := [.null, .null, .null, .null, .null, .int 0]
theorem xm_df4 : ∀ j, j < 6 → defaultValue (xm_ty4 j) = vp_V xm_d4 j := by decide +kernel
def xm_C5 : String := "ExchangeText$Leads"
def xm_T5 : u_T := fun k => match k with
  | _ => ("ExchangeText$Leads", "to", "[I", true)
def xm_ty5 : Nat → FieldType := fun k => match k with
  | _ => .array .int
theorem xm_tk5 : ∀ j, j < 1 → parseFieldDescriptor (xm_T5 j).2.2.1 = some (xm_ty5 j) := by decide +kernel
theorem xm_nm5 : ∀ i, i < 1 → ∀ j, j < 1 → i ≠ j → (xm_T5 i).2.1 ≠ (xm_T5 j).2.1 := by decide +kernel
theorem xm_u5 : ∀ w ∈ u_ws xm_C5 xm_T5 1, w ∈ xw_g := by
  have h : ∀ j, j < 1 → u_lay xm_C5 xm_T5 j ∈ xw_g := lt_s (lt_0) (show u_lay xm_C5 xm_T5 0 ∈ xw_g from xl_753)
  intro w hw
  obtain ⟨j, hj, rfl⟩ := List.mem_map.mp hw
  exact h j (List.mem_range.mp hj)
def xm_d5 : List Value := [.null]
theorem xm_df5 : ∀ j, j < 1 → defaultValue (xm_ty5 j) = vp_V xm_d5 j := by decide +kernel
def xm_C6 : String := "ExchangeText$Words"
def xm_T6 : u_T := fun k => match k with
  | 0 => ("ExchangeText$Words", "page", "LExchangeText$Page;", true)
  | 1 => ("ExchangeText$Words", "begin", "[I", true)
  | 2 => ("ExchangeText$Words", "end", "[I", true)
  | 3 => ("ExchangeText$Words", "first", "[C", true)
  | 4 => ("ExchangeText$Words", "digits", "[I", true)
  | 5 => ("ExchangeText$Words", "total", "I", false)
  | _ => ("ExchangeText$Words", "now", "I", false)
def xm_ty6 : Nat → FieldType := fun k => match k with
  | 0 => .object "ExchangeText$Page"
  | 1 => .array .int
  | 2 => .array .int
  | 3 => .array .char
  | 4 => .array .int
  | 5 => .int
  | _ => .int
theorem xm_tk6 : ∀ j, j < 7 → parseFieldDescriptor (xm_T6 j).2.2.1 = some (xm_ty6 j) := by decide +kernel
theorem xm_nm6 : ∀ i, i < 7 → ∀ j, j < 7 → i ≠ j → (xm_T6 i).2.1 ≠ (xm_T6 j).2.1 := by decide +kernel
theorem xm_u6 : ∀ w ∈ u_ws xm_C6 xm_T6 7, w ∈ xw_g := by
  have h : ∀ j, j < 7 → u_lay xm_C6 xm_T6 j ∈ xw_g := lt_s (lt_s (lt_s (lt_s (lt_s (lt_s (lt_s (lt_0) (show u_lay xm_C6 xm_T6 0 ∈ xw_g from xl_754)) (show u_lay xm_C6 xm_T6 1 ∈ xw_g from xl_755)) (show u_lay xm_C6 xm_T6 2 ∈ xw_g from xl_756)) (show u_lay xm_C6 xm_T6 3 ∈ xw_g from xl_757)) (show u_lay xm_C6 xm_T6 4 ∈ xw_g from xl_758)) (show u_lay xm_C6 xm_T6 5 ∈ xw_g from xl_759)) (show u_lay xm_C6 xm_T6 6 ∈ xw_g from xl_760)
  intro w hw
  obtain ⟨j, hj, rfl⟩ := List.mem_map.mp hw
  exact h j (List.mem_range.mp hj)
def xm_d6 : List Value := [.null, .null, .null, .null, .null, .int 0, .int 0]
theorem xm_df6 : ∀ j, j < 7 → defaultValue (xm_ty6 j) = vp_V xm_d6 j := by decide +kernel
def xm_C7 : String := "ExchangeText$SchemaReader"
def xm_T7 : u_T := fun k => match k with
  | 0 => ("ExchangeText$SchemaReader", "words", "LExchangeText$Words;", true)
  | _ => ("ExchangeText$SchemaReader", "kinds", "LExchangeText$Kinds;", true)
def xm_ty7 : Nat → FieldType := fun k => match k with
  | 0 => .object "ExchangeText$Words"
  | _ => .object "ExchangeText$Kinds"
theorem xm_tk7 : ∀ j, j < 2 → parseFieldDescriptor (xm_T7 j).2.2.1 = some (xm_ty7 j) := by decide +kernel
theorem xm_nm7 : ∀ i, i < 2 → ∀ j, j < 2 → i ≠ j → (xm_T7 i).2.1 ≠ (xm_T7 j).2.1 := by decide +kernel
theorem xm_u7 : ∀ w ∈ u_ws xm_C7 xm_T7 2, w ∈ xw_g := by
  have h : ∀ j, j < 2 → u_lay xm_C7 xm_T7 j ∈ xw_g := lt_s (lt_s (lt_0) (show u_lay xm_C7 xm_T7 0 ∈ xw_g from xl_761)) (show u_lay xm_C7 xm_T7 1 ∈ xw_g from xl_762)
  intro w hw
  obtain ⟨j, hj, rfl⟩ := List.mem_map.mp hw
  exact h j (List.mem_range.mp hj)
def xm_d7 : List Value := [.null, .null]
theorem xm_df7 : ∀ j, j < 2 → defaultValue (xm_ty7 j) = vp_V xm_d7 j := by decide +kernel
def xm_C8 : String := "ExchangeText$ModelReader"
def xm_T8 : u_T := fun k => match k with
  | 0 => ("ExchangeText$ModelReader", "words", "LExchangeText$Words;", true)
  | _ => ("ExchangeText$ModelReader", "model", "LExchangeText$Model;", true)
def xm_ty8 : Nat → FieldType := fun k => match k with
  | 0 => .object "ExchangeText$Words"
  | _ => .object "ExchangeText$Model"
theorem xm_tk8 : ∀ j, j < 2 → parseFieldDescriptor (xm_T8 j).2.2.1 = some (xm_ty8 j) := by decide +kernel
theorem xm_nm8 : ∀ i, i < 2 → ∀ j, j < 2 → i ≠ j → (xm_T8 i).2.1 ≠ (xm_T8 j).2.1 := by decide +kernel
theorem xm_u8 : ∀ w ∈ u_ws xm_C8 xm_T8 2, w ∈ xw_g := by
  have h : ∀ j, j < 2 → u_lay xm_C8 xm_T8 j ∈ xw_g := lt_s (lt_s (lt_0) (show u_lay xm_C8 xm_T8 0 ∈ xw_g from xl_763)) (show u_lay xm_C8 xm_T8 1 ∈ xw_g from xl_764)
  intro w hw
  obtain ⟨j, hj, rfl⟩ := List.mem_map.mp hw
  exact h j (List.mem_range.mp hj)
def xm_d8 : List Value := [.null, .null]
theorem xm_df8 : ∀ j, j < 2 → defaultValue (xm_ty8 j) = vp_V xm_d8 j := by decide +kernel
def xm_C9 : String := "ExchangeTextModel"
def xm_T9 : u_T := fun k => match k with
  | 0 => ("ExchangeTextModel", "thrown", "I", false)
  | 1 => ("ExchangeTextModel", "size", "I", false)
  | 2 => ("ExchangeTextModel", "text", "[I", true)
  | 3 => ("ExchangeTextModel", "out", "[I", true)
  | 4 => ("ExchangeTextModel", "kinds", "[I", true)
  | 5 => ("ExchangeTextModel", "kindLetters", "[I", true)
  | 6 => ("ExchangeTextModel", "kindNames", "[I", true)
  | 7 => ("ExchangeTextModel", "kindParts", "[I", true)
  | 8 => ("ExchangeTextModel", "kindSorts", "[I", true)
  | 9 => ("ExchangeTextModel", "kindMay", "[Z", true)
  | 10 => ("ExchangeTextModel", "lines", "[I", true)
  | 11 => ("ExchangeTextModel", "numbers", "[I", true)
  | 12 => ("ExchangeTextModel", "letters", "[I", true)
  | 13 => ("ExchangeTextModel", "names", "[I", true)
  | 14 => ("ExchangeTextModel", "parts", "[I", true)
  | 15 => ("ExchangeTextModel", "sorts", "[I", true)
  | 16 => ("ExchangeTextModel", "values", "[I", true)
  | 17 => ("ExchangeTextModel", "items", "[I", true)
  | 18 => ("ExchangeTextModel", "at", "I", false)
  | 19 => ("ExchangeTextModel", "fault", "I", false)
  | 20 => ("ExchangeTextModel", "from", "I", false)
  | 21 => ("ExchangeTextModel", "depths", "[I", true)
  | 22 => ("ExchangeTextModel", "likes", "[I", true)
  | 23 => ("ExchangeTextModel", "ways", "[J", true)
  | _ => ("ExchangeTextModel", "written", "I", false)
def xm_ty9 : Nat → FieldType := fun k => match k with
  | 0 => .int
  | 1 => .int
  | 2 => .array .int
  | 3 => .array .int
  | 4 => .array .int
  | 5 => .array .int
  | 6 => .array .int
  | 7 => .array .int
  | 8 => .array .int
  | 9 => .array .boolean
  | 10 => .array .int
  | 11 => .array .int
  | 12 => .array .int
  | 13 => .array .int
  | 14 => .array .int
  | 15 => .array .int
  | 16 => .array .int
  | 17 => .array .int
  | 18 => .int
  | 19 => .int
  | 20 => .int
  | 21 => .array .int
  | 22 => .array .int
  | 23 => .array .long
  | _ => .int
theorem xm_tk9 : ∀ j, j < 25 → parseFieldDescriptor (xm_T9 j).2.2.1 = some (xm_ty9 j) := by decide +kernel
theorem xm_nm9 : ∀ i, i < 25 → ∀ j, j < 25 → i ≠ j → (xm_T9 i).2.1 ≠ (xm_T9 j).2.1 := by decide +kernel
theorem xm_u9 : ∀ w ∈ u_ws xm_C9 xm_T9 25, w ∈ xw_g := by
  have h : ∀ j, j < 25 → u_lay xm_C9 xm_T9 j ∈ xw_g := lt_s (lt_s (lt_s (lt_s (lt_s (lt_s (lt_s (lt_s (lt_s (lt_s (lt_s (lt_s (lt_s (lt_s (lt_s (lt_s (lt_s (lt_s (lt_s (lt_s (lt_s (lt_s (lt_s (lt_s (lt_s (lt_0) (show u_lay xm_C9 xm_T9 0 ∈ xw_g from xl_765)) (show u_lay xm_C9 xm_T9 1 ∈ xw_g from xl_766)) (show u_lay xm_C9 xm_T9 2 ∈ xw_g from xl_767)) (show u_lay xm_C9 xm_T9 3 ∈ xw_g from xl_768)) (show u_lay xm_C9 xm_T9 4 ∈ xw_g from xl_769)) (show u_lay xm_C9 xm_T9 5 ∈ xw_g from xl_770)) (show u_lay xm_C9 xm_T9 6 ∈ xw_g from xl_771)) (show u_lay xm_C9 xm_T9 7 ∈ xw_g from xl_772)) (show u_lay xm_C9 xm_T9 8 ∈ xw_g from xl_773)) (show u_lay xm_C9 xm_T9 9 ∈ xw_g from xl_774)) (show u_lay xm_C9 xm_T9 10 ∈ xw_g from xl_775)) (show u_lay xm_C9 xm_T9 11 ∈ xw_g from xl_776)) (show u_lay xm_C9 xm_T9 12 ∈ xw_g from xl_777)) (show u_lay xm_C9 xm_T9 13 ∈ xw_g from xl_778)) (show u_lay xm_C9 xm_T9 14 ∈ xw_g from xl_779)) (show u_lay xm_C9 xm_T9 15 ∈ xw_g from xl_780)) (show u_lay xm_C9 xm_T9 16 ∈ xw_g from xl_781)) (show u_lay xm_C9 xm_T9 17 ∈ xw_g from xl_782)) (show u_lay xm_C9 xm_T9 18 ∈ xw_g from xl_783)) (show u_lay xm_C9 xm_T9 19 ∈ xw_g from xl_784)) (show u_lay xm_C9 xm_T9 20 ∈ xw_g from xl_785)) (show u_lay xm_C9 xm_T9 21 ∈ xw_g from xl_786)) (show u_lay xm_C9 xm_T9 22 ∈ xw_g from xl_787)) (show u_lay xm_C9 xm_T9 23 ∈ xw_g from xl_788)) (show u_lay xm_C9 xm_T9 24 ∈ xw_g from xl_789)
  intro w hw
  obtain ⟨j, hj, rfl⟩ := List.mem_map.mp hw
  exact h j (List.mem_range.mp hj)
def xm_d9 : List Value := [.int 0, .int 0, .null, .null, .null, .null, .null, .null, .null, .null, .null, .null, .null, .null, .null, .null, .null, .null, .int 0, .int 0, .int 0, .null, .null, .null, .int 0]
theorem xm_df9 : ∀ j, j < 25 → defaultValue (xm_ty9 j) = vp_V xm_d9 j := by decide +kernel
def xm_cl : List vw_C := [(xm_C0, xm_T0, 11), (xm_C1, xm_T1, 3), (xm_C2, xm_T2, 5), (xm_C3, xm_T3, 11), (xm_C4, xm_T4, 6), (xm_C5, xm_T5, 1), (xm_C6, xm_T6, 7), (xm_C7, xm_T7, 2), (xm_C8, xm_T8, 2), (xm_C9, xm_T9, 25)]
def xm_t : xr_T := (fun a => match a with
  | 0 => xm_d0
  | 1 => xm_d1
  | 2 => xm_d2
  | 3 => xm_d3
  | 4 => xm_d4
  | 5 => xm_d5
  | 6 => xm_d6
  | 7 => xm_d7
  | 8 => xm_d8
  | _ => xm_d9,
  fun a => match a with
  | 0 => "java/lang/IllegalArgumentException"
  | _ => "java/lang/IllegalStateException",
  fun a b => match a with
  | 0 => xm_ty0 b
  | 1 => xm_ty1 b
  | 2 => xm_ty2 b
  | 3 => xm_ty3 b
  | 4 => xm_ty4 b
  | 5 => xm_ty5 b
  | 6 => xm_ty6 b
  | 7 => xm_ty7 b
  | 8 => xm_ty8 b
  | _ => xm_ty9 b)
