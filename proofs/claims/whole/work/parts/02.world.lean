-- printed by wip/whole/world.py
def og_R_OG : String := "OpenGraves"
def og_L_OG : List (String × String × String × Bool) := [("OpenGraves", "tape", "LOpenGraves$Tape;", true), ("OpenGraves", "tokens", "LOpenGraves$Tokens;", true), ("OpenGraves", "grammar", "LOpenGraves$Grammar;", true), ("OpenGraves", "reckoner", "LOpenGraves$Reckoner;", true), ("OpenGraves", "almanac", "LOpenGraves$Almanac;", true), ("OpenGraves", "outlook", "LOpenGraves$Outlook;", true), ("OpenGraves", "rows", "LOpenGraves$Rows;", true), ("OpenGraves", "past", "LOpenGraves$Past;", true), ("OpenGraves", "now", "LOpenGraves$Yard;", true), ("OpenGraves", "refused", "[I", true), ("OpenGraves", "picture", "[I", true), ("OpenGraves", "pictureSize", "I", false), ("OpenGraves", "luck", "I", false), ("OpenGraves", "faultKind", "I", false), ("OpenGraves", "faultPlace", "I", false), ("OpenGraves", "told", "LOpenGraves$Parish;", false), ("OpenGraves", "draft", "LOpenGraves$Parish;", false)]
def og_T_OG : u_T := fun k => og_L_OG.getD k ("", "", "", false)
def og_ty_OG : Nat → FieldType := fun k => ([.object "OpenGraves$Tape", .object "OpenGraves$Tokens", .object "OpenGraves$Grammar", .object "OpenGraves$Reckoner", .object "OpenGraves$Almanac", .object "OpenGraves$Outlook", .object "OpenGraves$Rows", .object "OpenGraves$Past", .object "OpenGraves$Yard", .array (.int), .array (.int), .int, .int, .int, .int, .object "OpenGraves$Parish", .object "OpenGraves$Parish"] : List FieldType).getD k .int
theorem og_in_OG : ∀ w ∈ u_ws og_R_OG og_T_OG 17, w ∈ og_tbl := by
  have h1 : u_ws og_R_OG og_T_OG 17 = ([406, 408, 410, 412, 414, 416, 418, 420, 422, 424, 426, 428, 430, 432, 434, 436, 438] : List Nat).filterMap (fun i => tables_1[i]?) := by decide +kernel
  have h2 : (u_ws og_R_OG og_T_OG 17).all goodWord = true := by decide +kernel
  intro w hw
  refine og_mem (List.mem_append_right _ ?_) (List.all_eq_true.mp h2 w hw)
  rw [h1] at hw
  obtain ⟨i, -, hi⟩ := List.mem_filterMap.mp hw
  exact List.mem_of_getElem? hi
theorem og_nm_OG : ∀ a, a < 17 → ∀ b, b < 17 → a ≠ b → (og_T_OG a).2.1 ≠ (og_T_OG b).2.1 := by decide +kernel
theorem og_tyok_OG : ∀ k, k < 17 → parseFieldDescriptor (og_T_OG k).2.2.1 = some (og_ty_OG k) := by decide +kernel
def og_R_Tape : String := "OpenGraves$Tape"
def og_L_Tape : List (String × String × String × Bool) := [("OpenGraves$Tape", "bytes", "[I", true), ("OpenGraves$Tape", "size", "I", false)]
def og_T_Tape : u_T := fun k => og_L_Tape.getD k ("", "", "", false)
def og_ty_Tape : Nat → FieldType := fun k => ([.array (.int), .int] : List FieldType).getD k .int
theorem og_in_Tape : ∀ w ∈ u_ws og_R_Tape og_T_Tape 2, w ∈ og_tbl := by
  have h1 : u_ws og_R_Tape og_T_Tape 2 = ([170, 172] : List Nat).filterMap (fun i => tables_1[i]?) := by decide +kernel
  have h2 : (u_ws og_R_Tape og_T_Tape 2).all goodWord = true := by decide +kernel
  intro w hw
  refine og_mem (List.mem_append_right _ ?_) (List.all_eq_true.mp h2 w hw)
  rw [h1] at hw
  obtain ⟨i, -, hi⟩ := List.mem_filterMap.mp hw
  exact List.mem_of_getElem? hi
theorem og_nm_Tape : ∀ a, a < 2 → ∀ b, b < 2 → a ≠ b → (og_T_Tape a).2.1 ≠ (og_T_Tape b).2.1 := by decide +kernel
theorem og_tyok_Tape : ∀ k, k < 2 → parseFieldDescriptor (og_T_Tape k).2.2.1 = some (og_ty_Tape k) := by decide +kernel
def og_R_Tokens : String := "OpenGraves$Tokens"
def og_L_Tokens : List (String × String × String × Bool) := [("OpenGraves$Tokens", "tape", "LOpenGraves$Tape;", true), ("OpenGraves$Tokens", "at", "I", false), ("OpenGraves$Tokens", "kind", "I", false), ("OpenGraves$Tokens", "start", "I", false), ("OpenGraves$Tokens", "size", "I", false), ("OpenGraves$Tokens", "value", "I", false), ("OpenGraves$Tokens", "spelling", "I", false), ("OpenGraves$Tokens", "faultKind", "I", false), ("OpenGraves$Tokens", "faultPlace", "I", false), ("OpenGraves$Tokens", "spellings", "[I", true)]
def og_T_Tokens : u_T := fun k => og_L_Tokens.getD k ("", "", "", false)
def og_ty_Tokens : Nat → FieldType := fun k => ([.object "OpenGraves$Tape", .int, .int, .int, .int, .int, .int, .int, .int, .array (.int)] : List FieldType).getD k .int
theorem og_in_Tokens : ∀ w ∈ u_ws og_R_Tokens og_T_Tokens 10, w ∈ og_tbl := by
  have h1 : u_ws og_R_Tokens og_T_Tokens 10 = ([248, 250, 252, 254, 256, 258, 260, 262, 264, 266] : List Nat).filterMap (fun i => tables_1[i]?) := by decide +kernel
  have h2 : (u_ws og_R_Tokens og_T_Tokens 10).all goodWord = true := by decide +kernel
  intro w hw
  refine og_mem (List.mem_append_right _ ?_) (List.all_eq_true.mp h2 w hw)
  rw [h1] at hw
  obtain ⟨i, -, hi⟩ := List.mem_filterMap.mp hw
  exact List.mem_of_getElem? hi
theorem og_nm_Tokens : ∀ a, a < 10 → ∀ b, b < 10 → a ≠ b → (og_T_Tokens a).2.1 ≠ (og_T_Tokens b).2.1 := by decide +kernel
theorem og_tyok_Tokens : ∀ k, k < 10 → parseFieldDescriptor (og_T_Tokens k).2.2.1 = some (og_ty_Tokens k) := by decide +kernel
def og_R_Grammar : String := "OpenGraves$Grammar"
def og_L_Grammar : List (String × String × String × Bool) := [("OpenGraves$Grammar", "tokens", "LOpenGraves$Tokens;", true), ("OpenGraves$Grammar", "script", "LOpenGraves$Script;", false), ("OpenGraves$Grammar", "purpose", "I", false)]
def og_T_Grammar : u_T := fun k => og_L_Grammar.getD k ("", "", "", false)
def og_ty_Grammar : Nat → FieldType := fun k => ([.object "OpenGraves$Tokens", .object "OpenGraves$Script", .int] : List FieldType).getD k .int
theorem og_in_Grammar : ∀ w ∈ u_ws og_R_Grammar og_T_Grammar 3, w ∈ og_tbl := by
  have h1 : u_ws og_R_Grammar og_T_Grammar 3 = ([279, 281, 283] : List Nat).filterMap (fun i => tables_1[i]?) := by decide +kernel
  have h2 : (u_ws og_R_Grammar og_T_Grammar 3).all goodWord = true := by decide +kernel
  intro w hw
  refine og_mem (List.mem_append_right _ ?_) (List.all_eq_true.mp h2 w hw)
  rw [h1] at hw
  obtain ⟨i, -, hi⟩ := List.mem_filterMap.mp hw
  exact List.mem_of_getElem? hi
theorem og_nm_Grammar : ∀ a, a < 3 → ∀ b, b < 3 → a ≠ b → (og_T_Grammar a).2.1 ≠ (og_T_Grammar b).2.1 := by decide +kernel
theorem og_tyok_Grammar : ∀ k, k < 3 → parseFieldDescriptor (og_T_Grammar k).2.2.1 = some (og_ty_Grammar k) := by decide +kernel
def og_R_Reckoner : String := "OpenGraves$Reckoner"
def og_L_Reckoner : List (String × String × String × Bool) := [("OpenGraves$Reckoner", "pile", "[I", true)]
def og_T_Reckoner : u_T := fun k => og_L_Reckoner.getD k ("", "", "", false)
def og_ty_Reckoner : Nat → FieldType := fun k => ([.array (.int)] : List FieldType).getD k .int
theorem og_in_Reckoner : ∀ w ∈ u_ws og_R_Reckoner og_T_Reckoner 1, w ∈ og_tbl := by
  have h1 : u_ws og_R_Reckoner og_T_Reckoner 1 = ([293] : List Nat).filterMap (fun i => tables_1[i]?) := by decide +kernel
  have h2 : (u_ws og_R_Reckoner og_T_Reckoner 1).all goodWord = true := by decide +kernel
  intro w hw
  refine og_mem (List.mem_append_right _ ?_) (List.all_eq_true.mp h2 w hw)
  rw [h1] at hw
  obtain ⟨i, -, hi⟩ := List.mem_filterMap.mp hw
  exact List.mem_of_getElem? hi
theorem og_nm_Reckoner : ∀ a, a < 1 → ∀ b, b < 1 → a ≠ b → (og_T_Reckoner a).2.1 ≠ (og_T_Reckoner b).2.1 := by decide +kernel
theorem og_tyok_Reckoner : ∀ k, k < 1 → parseFieldDescriptor (og_T_Reckoner k).2.2.1 = some (og_ty_Reckoner k) := by decide +kernel
def og_R_Almanac : String := "OpenGraves$Almanac"
def og_L_Almanac : List (String × String × String × Bool) := [("OpenGraves$Almanac", "reckoner", "LOpenGraves$Reckoner;", true), ("OpenGraves$Almanac", "weight", "[I", true)]
def og_T_Almanac : u_T := fun k => og_L_Almanac.getD k ("", "", "", false)
def og_ty_Almanac : Nat → FieldType := fun k => ([.object "OpenGraves$Reckoner", .array (.int)] : List FieldType).getD k .int
theorem og_in_Almanac : ∀ w ∈ u_ws og_R_Almanac og_T_Almanac 2, w ∈ og_tbl := by
  have h1 : u_ws og_R_Almanac og_T_Almanac 2 = ([304, 306] : List Nat).filterMap (fun i => tables_1[i]?) := by decide +kernel
  have h2 : (u_ws og_R_Almanac og_T_Almanac 2).all goodWord = true := by decide +kernel
  intro w hw
  refine og_mem (List.mem_append_right _ ?_) (List.all_eq_true.mp h2 w hw)
  rw [h1] at hw
  obtain ⟨i, -, hi⟩ := List.mem_filterMap.mp hw
  exact List.mem_of_getElem? hi
theorem og_nm_Almanac : ∀ a, a < 2 → ∀ b, b < 2 → a ≠ b → (og_T_Almanac a).2.1 ≠ (og_T_Almanac b).2.1 := by decide +kernel
theorem og_tyok_Almanac : ∀ k, k < 2 → parseFieldDescriptor (og_T_Almanac k).2.2.1 = some (og_ty_Almanac k) := by decide +kernel
def og_R_Outlook : String := "OpenGraves$Outlook"
def og_L_Outlook : List (String × String × String × Bool) := [("OpenGraves$Outlook", "almanac", "LOpenGraves$Almanac;", true), ("OpenGraves$Outlook", "reckoner", "LOpenGraves$Reckoner;", true), ("OpenGraves$Outlook", "trial", "LOpenGraves$Yard;", true), ("OpenGraves$Outlook", "seen", "[I", true), ("OpenGraves$Outlook", "seenRows", "I", false), ("OpenGraves$Outlook", "foot", "[I", true), ("OpenGraves$Outlook", "worst", "[I", true), ("OpenGraves$Outlook", "deaths", "[I", true), ("OpenGraves$Outlook", "fillings", "[I", true)]
def og_T_Outlook : u_T := fun k => og_L_Outlook.getD k ("", "", "", false)
def og_ty_Outlook : Nat → FieldType := fun k => ([.object "OpenGraves$Almanac", .object "OpenGraves$Reckoner", .object "OpenGraves$Yard", .array (.int), .int, .array (.int), .array (.int), .array (.int), .array (.int)] : List FieldType).getD k .int
theorem og_in_Outlook : ∀ w ∈ u_ws og_R_Outlook og_T_Outlook 9, w ∈ og_tbl := by
  have h1 : u_ws og_R_Outlook og_T_Outlook 9 = ([330, 332, 334, 336, 338, 340, 342, 344, 346] : List Nat).filterMap (fun i => tables_1[i]?) := by decide +kernel
  have h2 : (u_ws og_R_Outlook og_T_Outlook 9).all goodWord = true := by decide +kernel
  intro w hw
  refine og_mem (List.mem_append_right _ ?_) (List.all_eq_true.mp h2 w hw)
  rw [h1] at hw
  obtain ⟨i, -, hi⟩ := List.mem_filterMap.mp hw
  exact List.mem_of_getElem? hi
theorem og_nm_Outlook : ∀ a, a < 9 → ∀ b, b < 9 → a ≠ b → (og_T_Outlook a).2.1 ≠ (og_T_Outlook b).2.1 := by decide +kernel
theorem og_tyok_Outlook : ∀ k, k < 9 → parseFieldDescriptor (og_T_Outlook k).2.2.1 = some (og_ty_Outlook k) := by decide +kernel
def og_R_Rows : String := "OpenGraves$Rows"
def og_L_Rows : List (String × String × String × Bool) := [("OpenGraves$Rows", "harm", "[I", true), ("OpenGraves$Rows", "chosen", "[I", true), ("OpenGraves$Rows", "best", "[I", true)]
def og_T_Rows : u_T := fun k => og_L_Rows.getD k ("", "", "", false)
def og_ty_Rows : Nat → FieldType := fun k => ([.array (.int), .array (.int), .array (.int)] : List FieldType).getD k .int
theorem og_in_Rows : ∀ w ∈ u_ws og_R_Rows og_T_Rows 3, w ∈ og_tbl := by
  have h1 : u_ws og_R_Rows og_T_Rows 3 = ([360, 362, 364] : List Nat).filterMap (fun i => tables_1[i]?) := by decide +kernel
  have h2 : (u_ws og_R_Rows og_T_Rows 3).all goodWord = true := by decide +kernel
  intro w hw
  refine og_mem (List.mem_append_right _ ?_) (List.all_eq_true.mp h2 w hw)
  rw [h1] at hw
  obtain ⟨i, -, hi⟩ := List.mem_filterMap.mp hw
  exact List.mem_of_getElem? hi
theorem og_nm_Rows : ∀ a, a < 3 → ∀ b, b < 3 → a ≠ b → (og_T_Rows a).2.1 ≠ (og_T_Rows b).2.1 := by decide +kernel
theorem og_tyok_Rows : ∀ k, k < 3 → parseFieldDescriptor (og_T_Rows k).2.2.1 = some (og_ty_Rows k) := by decide +kernel
def og_R_Past : String := "OpenGraves$Past"
def og_L_Past : List (String × String × String × Bool) := [("OpenGraves$Past", "yards", "[LOpenGraves$Yard;", true), ("OpenGraves$Past", "count", "I", false), ("OpenGraves$Past", "oldest", "I", false)]
def og_T_Past : u_T := fun k => og_L_Past.getD k ("", "", "", false)
def og_ty_Past : Nat → FieldType := fun k => ([.array (.object "OpenGraves$Yard"), .int, .int] : List FieldType).getD k .int
theorem og_in_Past : ∀ w ∈ u_ws og_R_Past og_T_Past 3, w ∈ og_tbl := by
  have h1 : u_ws og_R_Past og_T_Past 3 = ([380, 382, 384] : List Nat).filterMap (fun i => tables_1[i]?) := by decide +kernel
  have h2 : (u_ws og_R_Past og_T_Past 3).all goodWord = true := by decide +kernel
  intro w hw
  refine og_mem (List.mem_append_right _ ?_) (List.all_eq_true.mp h2 w hw)
  rw [h1] at hw
  obtain ⟨i, -, hi⟩ := List.mem_filterMap.mp hw
  exact List.mem_of_getElem? hi
theorem og_nm_Past : ∀ a, a < 3 → ∀ b, b < 3 → a ≠ b → (og_T_Past a).2.1 ≠ (og_T_Past b).2.1 := by decide +kernel
theorem og_tyok_Past : ∀ k, k < 3 → parseFieldDescriptor (og_T_Past k).2.2.1 = some (og_ty_Past k) := by decide +kernel
def og_R_Parish : String := "OpenGraves$Parish"
def og_L_Parish : List (String × String × String × Bool) := [("OpenGraves$Parish", "beginning", "LOpenGraves$Yard;", true), ("OpenGraves$Parish", "rules", "LOpenGraves$Script;", true), ("OpenGraves$Parish", "names", "[I", true)]
def og_T_Parish : u_T := fun k => og_L_Parish.getD k ("", "", "", false)
def og_ty_Parish : Nat → FieldType := fun k => ([.object "OpenGraves$Yard", .object "OpenGraves$Script", .array (.int)] : List FieldType).getD k .int
theorem og_in_Parish : ∀ w ∈ u_ws og_R_Parish og_T_Parish 3, w ∈ og_tbl := by
  have h1 : u_ws og_R_Parish og_T_Parish 3 = ([152, 154, 156] : List Nat).filterMap (fun i => tables_1[i]?) := by decide +kernel
  have h2 : (u_ws og_R_Parish og_T_Parish 3).all goodWord = true := by decide +kernel
  intro w hw
  refine og_mem (List.mem_append_right _ ?_) (List.all_eq_true.mp h2 w hw)
  rw [h1] at hw
  obtain ⟨i, -, hi⟩ := List.mem_filterMap.mp hw
  exact List.mem_of_getElem? hi
theorem og_nm_Parish : ∀ a, a < 3 → ∀ b, b < 3 → a ≠ b → (og_T_Parish a).2.1 ≠ (og_T_Parish b).2.1 := by decide +kernel
theorem og_tyok_Parish : ∀ k, k < 3 → parseFieldDescriptor (og_T_Parish k).2.2.1 = some (og_ty_Parish k) := by decide +kernel
def og_R_Script : String := "OpenGraves$Script"
def og_L_Script : List (String × String × String × Bool) := [("OpenGraves$Script", "cells", "[I", true), ("OpenGraves$Script", "from", "[I", true), ("OpenGraves$Script", "to", "[I", true), ("OpenGraves$Script", "size", "I", false)]
def og_T_Script : u_T := fun k => og_L_Script.getD k ("", "", "", false)
def og_ty_Script : Nat → FieldType := fun k => ([.array (.int), .array (.int), .array (.int), .int] : List FieldType).getD k .int
theorem og_in_Script : ∀ w ∈ u_ws og_R_Script og_T_Script 4, w ∈ og_tbl := by
  have h1 : u_ws og_R_Script og_T_Script 4 = ([138, 140, 142, 144] : List Nat).filterMap (fun i => tables_1[i]?) := by decide +kernel
  have h2 : (u_ws og_R_Script og_T_Script 4).all goodWord = true := by decide +kernel
  intro w hw
  refine og_mem (List.mem_append_right _ ?_) (List.all_eq_true.mp h2 w hw)
  rw [h1] at hw
  obtain ⟨i, -, hi⟩ := List.mem_filterMap.mp hw
  exact List.mem_of_getElem? hi
theorem og_nm_Script : ∀ a, a < 4 → ∀ b, b < 4 → a ≠ b → (og_T_Script a).2.1 ≠ (og_T_Script b).2.1 := by decide +kernel
theorem og_tyok_Script : ∀ k, k < 4 → parseFieldDescriptor (og_T_Script k).2.2.1 = some (og_ty_Script k) := by decide +kernel
def og_R_Yard : String := "OpenGraves$Yard"
def og_L_Yard : List (String × String × String × Bool) := [("OpenGraves$Yard", "graves", "I", false), ("OpenGraves$Yard", "people", "I", false), ("OpenGraves$Yard", "month", "I", false), ("OpenGraves$Yard", "keptRows", "I", false), ("OpenGraves$Yard", "length", "[I", true), ("OpenGraves$Yard", "deep", "[I", true), ("OpenGraves$Yard", "due", "[I", true), ("OpenGraves$Yard", "who", "[I", true), ("OpenGraves$Yard", "tall", "[I", true), ("OpenGraves$Yard", "age", "[I", true), ("OpenGraves$Yard", "will", "[I", true), ("OpenGraves$Yard", "alive", "[I", true), ("OpenGraves$Yard", "kept", "[I", true)]
def og_T_Yard : u_T := fun k => og_L_Yard.getD k ("", "", "", false)
def og_ty_Yard : Nat → FieldType := fun k => ([.int, .int, .int, .int, .array (.int), .array (.int), .array (.int), .array (.int), .array (.int), .array (.int), .array (.int), .array (.int), .array (.int)] : List FieldType).getD k .int
theorem og_in_Yard : ∀ w ∈ u_ws og_R_Yard og_T_Yard 13, w ∈ og_tbl := by
  have h1 : u_ws og_R_Yard og_T_Yard 13 = ([97, 99, 101, 103, 105, 107, 109, 111, 113, 115, 117, 119, 121] : List Nat).filterMap (fun i => tables_1[i]?) := by decide +kernel
  have h2 : (u_ws og_R_Yard og_T_Yard 13).all goodWord = true := by decide +kernel
  intro w hw
  refine og_mem (List.mem_append_right _ ?_) (List.all_eq_true.mp h2 w hw)
  rw [h1] at hw
  obtain ⟨i, -, hi⟩ := List.mem_filterMap.mp hw
  exact List.mem_of_getElem? hi
theorem og_nm_Yard : ∀ a, a < 13 → ∀ b, b < 13 → a ≠ b → (og_T_Yard a).2.1 ≠ (og_T_Yard b).2.1 := by decide +kernel
theorem og_tyok_Yard : ∀ k, k < 13 → parseFieldDescriptor (og_T_Yard k).2.2.1 = some (og_ty_Yard k) := by decide +kernel
def og_R_Model : String := "OpenGravesModel"
def og_L_Model : List (String × String × String × Bool) := [("OpenGravesModel", "tape", "[I", true), ("OpenGravesModel", "taped", "I", false), ("OpenGravesModel", "at", "I", false), ("OpenGravesModel", "end", "I", false), ("OpenGravesModel", "ended", "I", false), ("OpenGravesModel", "bad", "I", false), ("OpenGravesModel", "badPlace", "I", false), ("OpenGravesModel", "fault", "I", false), ("OpenGravesModel", "faultPlace", "I", false), ("OpenGravesModel", "refused", "[I", true), ("OpenGravesModel", "numberPlace", "I", false), ("OpenGravesModel", "graveWord", "[C", true), ("OpenGravesModel", "longWord", "[C", true), ("OpenGravesModel", "deepWord", "[C", true), ("OpenGravesModel", "dueWord", "[C", true), ("OpenGravesModel", "personWord", "[C", true), ("OpenGravesModel", "tallWord", "[C", true), ("OpenGravesModel", "ageWord", "[C", true), ("OpenGravesModel", "willWord", "[C", true), ("OpenGravesModel", "diesWord", "[C", true), ("OpenGravesModel", "comesWord", "[C", true), ("OpenGravesModel", "takesWord", "[C", true), ("OpenGravesModel", "heartWord", "[C", true), ("OpenGravesModel", "harmWord", "[C", true), ("OpenGravesModel", "monthWord", "[C", true), ("OpenGravesModel", "askedWord", "[C", true), ("OpenGravesModel", "takenWord", "[C", true), ("OpenGravesModel", "numberWord", "[C", true), ("OpenGravesModel", "aliveWord", "[C", true), ("OpenGravesModel", "fitsWord", "[C", true), ("OpenGravesModel", "orWord", "[C", true), ("OpenGravesModel", "andWord", "[C", true), ("OpenGravesModel", "notWord", "[C", true), ("OpenGravesModel", "allWord", "[C", true), ("OpenGravesModel", "minWord", "[C", true), ("OpenGravesModel", "maxWord", "[C", true), ("OpenGravesModel", "namePlace", "I", false), ("OpenGravesModel", "many", "[I", true), ("OpenGravesModel", "names", "[J", true), ("OpenGravesModel", "longs", "[I", true), ("OpenGravesModel", "talls", "[I", true), ("OpenGravesModel", "graves0", "[I", true), ("OpenGravesModel", "people0", "[I", true), ("OpenGravesModel", "codeFrom", "[I", true), ("OpenGravesModel", "codeEnd", "[I", true), ("OpenGravesModel", "codes", "[I", true), ("OpenGravesModel", "coded", "I", false), ("OpenGravesModel", "statements", "I", false), ("OpenGravesModel", "textKind", "I", false), ("OpenGravesModel", "now", "[I", true), ("OpenGravesModel", "aside", "[I", true), ("OpenGravesModel", "askPerson", "I", false), ("OpenGravesModel", "takenNow", "I", false), ("OpenGravesModel", "isThought", "Z", false), ("OpenGravesModel", "takenMany", "I", false), ("OpenGravesModel", "rowMost", "[I", true), ("OpenGravesModel", "rowHarm", "[I", true), ("OpenGravesModel", "harms", "[I", true), ("OpenGravesModel", "digs", "[I", true), ("OpenGravesModel", "bestDigs", "[I", true), ("OpenGravesModel", "deaths", "[I", true), ("OpenGravesModel", "rowMany", "I", false), ("OpenGravesModel", "rows", "[I", true), ("OpenGravesModel", "fillings", "[I", true), ("OpenGravesModel", "kept0", "[I", true), ("OpenGravesModel", "undoable", "I", false), ("OpenGravesModel", "newest", "I", false), ("OpenGravesModel", "seeded", "J", false), ("OpenGravesModel", "firstAsked", "[C", true), ("OpenGravesModel", "lastAsked", "[C", true), ("OpenGravesModel", "oftenAsked", "[C", true), ("OpenGravesModel", "totalAsked", "[C", true), ("OpenGravesModel", "mostAsked", "[C", true), ("OpenGravesModel", "leastAsked", "[C", true), ("OpenGravesModel", "notAsked", "[C", true), ("OpenGravesModel", "andAsked", "[C", true), ("OpenGravesModel", "orAsked", "[C", true), ("OpenGravesModel", "allAsked", "[C", true), ("OpenGravesModel", "minAsked", "[C", true), ("OpenGravesModel", "maxAsked", "[C", true), ("OpenGravesModel", "ageAsked", "[C", true), ("OpenGravesModel", "tallAsked", "[C", true), ("OpenGravesModel", "willAsked", "[C", true), ("OpenGravesModel", "monthAsked", "[C", true), ("OpenGravesModel", "askedAsked", "[C", true), ("OpenGravesModel", "takenAsked", "[C", true), ("OpenGravesModel", "numberAsked", "[C", true), ("OpenGravesModel", "aliveAsked", "[C", true), ("OpenGravesModel", "fitsAsked", "[C", true), ("OpenGravesModel", "dueofAsked", "[C", true), ("OpenGravesModel", "qCodes", "[I", true), ("OpenGravesModel", "qCoded", "I", false), ("OpenGravesModel", "qWait", "[I", true), ("OpenGravesModel", "qWaits", "I", false), ("OpenGravesModel", "qOpened", "I", false), ("OpenGravesModel", "qBase", "I", false), ("OpenGravesModel", "qPile", "[J", true), ("OpenGravesModel", "qPiled", "I", false), ("OpenGravesModel", "qAnswer", "J", false), ("OpenGravesModel", "qIsNew", "Z", false), ("OpenGravesModel", "octet", "[I", true), ("OpenGravesModel", "octets", "I", false)]
def og_T_Model : u_T := fun k => og_L_Model.getD k ("", "", "", false)
def og_ty_Model : Nat → FieldType := fun k => ([.array (.int), .int, .int, .int, .int, .int, .int, .int, .int, .array (.int), .int, .array (.char), .array (.char), .array (.char), .array (.char), .array (.char), .array (.char), .array (.char), .array (.char), .array (.char), .array (.char), .array (.char), .array (.char), .array (.char), .array (.char), .array (.char), .array (.char), .array (.char), .array (.char), .array (.char), .array (.char), .array (.char), .array (.char), .array (.char), .array (.char), .array (.char), .int, .array (.int), .array (.long), .array (.int), .array (.int), .array (.int), .array (.int), .array (.int), .array (.int), .array (.int), .int, .int, .int, .array (.int), .array (.int), .int, .int, .boolean, .int, .array (.int), .array (.int), .array (.int), .array (.int), .array (.int), .array (.int), .int, .array (.int), .array (.int), .array (.int), .int, .int, .long, .array (.char), .array (.char), .array (.char), .array (.char), .array (.char), .array (.char), .array (.char), .array (.char), .array (.char), .array (.char), .array (.char), .array (.char), .array (.char), .array (.char), .array (.char), .array (.char), .array (.char), .array (.char), .array (.char), .array (.char), .array (.char), .array (.char), .array (.int), .int, .array (.int), .int, .int, .int, .array (.long), .int, .long, .boolean, .array (.int), .int] : List FieldType).getD k .int
theorem og_in_Model : ∀ w ∈ u_ws og_R_Model og_T_Model 102, w ∈ og_tbl := by
  have h1 : u_ws og_R_Model og_T_Model 102 = ([1245, 1247, 1249, 1251, 1253, 1255, 1257, 1259, 1261, 1263, 1265, 1267, 1269, 1271, 1273, 1275, 1277, 1279, 1281, 1283, 1285, 1287, 1289, 1291, 1293, 1295, 1297, 1299, 1301, 1303, 1305, 1307, 1309, 1311, 1313, 1315, 1317, 1319, 1321, 1323, 1325, 1327, 1329, 1331, 1333, 1335, 1337, 1339, 1341, 1343, 1345, 1347, 1349, 1351, 1353, 1355, 1357, 1359, 1361, 1363, 1365, 1367, 1369, 1371, 1373, 1375, 1377, 1379, 1381, 1383, 1385, 1387, 1389, 1391, 1393, 1395, 1397, 1399, 1401, 1403, 1405, 1407, 1409, 1411, 1413, 1415, 1417, 1419, 1421, 1423, 1425, 1427, 1429, 1431, 1433, 1435, 1437, 1439, 1441, 1443, 1445, 1447] : List Nat).filterMap (fun i => tables_1[i]?) := by decide +kernel
  have h2 : (u_ws og_R_Model og_T_Model 102).all goodWord = true := by decide +kernel
  intro w hw
  refine og_mem (List.mem_append_right _ ?_) (List.all_eq_true.mp h2 w hw)
  rw [h1] at hw
  obtain ⟨i, -, hi⟩ := List.mem_filterMap.mp hw
  exact List.mem_of_getElem? hi
theorem og_nm_Model : ∀ a, a < 102 → ∀ b, b < 102 → a ≠ b → (og_T_Model a).2.1 ≠ (og_T_Model b).2.1 := by decide +kernel
theorem og_tyok_Model : ∀ k, k < 102 → parseFieldDescriptor (og_T_Model k).2.2.1 = some (og_ty_Model k) := by decide +kernel
def og_cl : List vw_C := [(og_R_OG, og_T_OG, 17), (og_R_Tape, og_T_Tape, 2), (og_R_Tokens, og_T_Tokens, 10), (og_R_Grammar, og_T_Grammar, 3), (og_R_Reckoner, og_T_Reckoner, 1), (og_R_Almanac, og_T_Almanac, 2), (og_R_Outlook, og_T_Outlook, 9), (og_R_Rows, og_T_Rows, 3), (og_R_Past, og_T_Past, 3), (og_R_Parish, og_T_Parish, 3), (og_R_Script, og_T_Script, 4), (og_R_Yard, og_T_Yard, 13), (og_R_Model, og_T_Model, 102)]
abbrev og_KI : Type := (Nat × List (Nat × Option (Int → Int))) ⊕ (Nat × Nat)
def og_sl_OG : List (Nat × Option (Int → Int)) := [(6, some (fun _ => 1)), (7, some (fun _ => 3)), (8, some (fun _ => 5)), (9, some (fun _ => 6)), (10, some (fun _ => 8)), (11, some (fun _ => 10)), (12, some (fun _ => 16)), (13, some (fun _ => 20)), (16, some (fun _ => 100)), (24, some (fun _ => 22)), (25, some (fun _ => 23)), (0, none), (0, none), (0, none), (0, none), (14, none), (14, none)]
def og_sl_Tape : List (Nat × Option (Int → Int)) := [(26, some (fun _ => 2)), (0, none)]
def og_sl_Tokens : List (Nat × Option (Int → Int)) := [(6, some (fun _ => 1)), (0, none), (0, none), (0, none), (0, none), (0, none), (0, none), (0, none), (0, none), (27, some (fun _ => 4))]
def og_sl_Grammar : List (Nat × Option (Int → Int)) := [(7, some (fun _ => 3)), (15, none), (0, none)]
def og_sl_Reckoner : List (Nat × Option (Int → Int)) := [(28, some (fun _ => 7))]
def og_sl_Almanac : List (Nat × Option (Int → Int)) := [(9, some (fun _ => 6)), (29, some (fun _ => 9))]
def og_sl_Outlook : List (Nat × Option (Int → Int)) := [(10, some (fun _ => 8)), (9, some (fun _ => 6)), (16, some (fun _ => 110)), (30, some (fun _ => 11)), (0, none), (31, some (fun _ => 12)), (31, some (fun _ => 13)), (29, some (fun _ => 14)), (32, some (fun _ => 15))]
def og_sl_Rows : List (Nat × Option (Int → Int)) := [(29, some (fun _ => 17)), (24, some (fun _ => 18)), (33, some (fun _ => 19))]
def og_sl_Past : List (Nat × Option (Int → Int)) := [(34, some (fun _ => 21)), (0, none), (0, none)]
def og_sl_Parish : List (Nat × Option (Int → Int)) := [(16, some (fun i => i + 90)), (15, some (fun i => i + 2)), (35, some (fun i => i + 1))]
def og_sl_Script : List (Nat × Option (Int → Int)) := [(36, some (fun i => i + 1)), (35, some (fun i => i + 2)), (35, some (fun i => i + 3)), (0, none)]
def og_sl_Yard : List (Nat × Option (Int → Int)) := [(0, none), (0, none), (0, none), (0, none), (24, some (fun i => i + 1)), (24, some (fun i => i + 2)), (24, some (fun i => i + 3)), (24, some (fun i => i + 4)), (29, some (fun i => i + 5)), (29, some (fun i => i + 6)), (29, some (fun i => i + 7)), (29, some (fun i => i + 8)), (37, some (fun i => i + 9))]
def og_sl_Model : List (Nat × Option (Int → Int)) := [(26, some (fun _ => 1001)), (0, none), (0, none), (0, none), (0, none), (0, none), (0, none), (0, none), (0, none), (24, some (fun _ => 1002)), (0, none), (38, some (fun _ => 1003)), (39, some (fun _ => 1004)), (39, some (fun _ => 1005)), (40, some (fun _ => 1006)), (41, some (fun _ => 1007)), (39, some (fun _ => 1008)), (40, some (fun _ => 1009)), (39, some (fun _ => 1010)), (39, some (fun _ => 1011)), (38, some (fun _ => 1012)), (38, some (fun _ => 1013)), (38, some (fun _ => 1014)), (39, some (fun _ => 1015)), (38, some (fun _ => 1016)), (38, some (fun _ => 1017)), (38, some (fun _ => 1018)), (41, some (fun _ => 1019)), (38, some (fun _ => 1020)), (39, some (fun _ => 1021)), (42, some (fun _ => 1022)), (40, some (fun _ => 1023)), (40, some (fun _ => 1024)), (40, some (fun _ => 1025)), (40, some (fun _ => 1026)), (40, some (fun _ => 1027)), (0, none), (31, some (fun _ => 1028)), (43, some (fun _ => 1029)), (44, some (fun _ => 1030)), (45, some (fun _ => 1031)), (44, some (fun _ => 1032)), (45, some (fun _ => 1033)), (46, some (fun _ => 1034)), (46, some (fun _ => 1035)), (47, some (fun _ => 1036)), (0, none), (0, none), (0, none), (48, some (fun _ => 1037)), (49, some (fun _ => 1038)), (0, none), (0, none), (0, none), (0, none), (33, some (fun _ => 1039)), (33, some (fun _ => 1040)), (29, some (fun _ => 1041)), (31, some (fun _ => 1042)), (31, some (fun _ => 1043)), (29, some (fun _ => 1044)), (0, none), (30, some (fun _ => 1045)), (50, some (fun _ => 1046)), (51, some (fun _ => 1047)), (0, none), (0, none), (1, none), (38, some (fun _ => 1048)), (39, some (fun _ => 1049)), (38, some (fun _ => 1050)), (38, some (fun _ => 1051)), (39, some (fun _ => 1052)), (38, some (fun _ => 1053)), (40, some (fun _ => 1054)), (40, some (fun _ => 1055)), (42, some (fun _ => 1056)), (40, some (fun _ => 1057)), (40, some (fun _ => 1058)), (40, some (fun _ => 1059)), (40, some (fun _ => 1060)), (39, some (fun _ => 1061)), (39, some (fun _ => 1062)), (38, some (fun _ => 1063)), (38, some (fun _ => 1064)), (38, some (fun _ => 1065)), (41, some (fun _ => 1066)), (38, some (fun _ => 1067)), (39, some (fun _ => 1068)), (40, some (fun _ => 1069)), (52, some (fun _ => 1070)), (0, none), (52, some (fun _ => 1071)), (0, none), (0, none), (0, none), (53, some (fun _ => 1072)), (0, none), (1, none), (0, none), (25, some (fun _ => 1073)), (0, none)]
def og_ki (k : Nat) : og_KI := match k with
  | 1 => .inl (0, og_sl_OG)
  | 2 => .inl (1, og_sl_Tape)
  | 3 => .inl (2, og_sl_Tokens)
  | 4 => .inl (3, og_sl_Grammar)
  | 5 => .inl (4, og_sl_Reckoner)
  | 6 => .inl (5, og_sl_Almanac)
  | 7 => .inl (6, og_sl_Outlook)
  | 8 => .inl (7, og_sl_Rows)
  | 9 => .inl (8, og_sl_Past)
  | 10 => .inl (9, og_sl_Parish)
  | 11 => .inl (10, og_sl_Script)
  | 12 => .inl (11, og_sl_Yard)
  | 13 => .inl (12, og_sl_Model)
  | 20 => .inr (0, 6)
  | 21 => .inr (0, 45)
  | 22 => .inr (0, 1600)
  | 23 => .inr (0, 31)
  | 24 => .inr (0, 64)
  | 25 => .inr (0, 8)
  | 26 => .inr (0, 48)
  | 27 => .inr (0, 4)
  | 28 => .inr (0, 180)
  | 29 => .inr (0, 1792)
  | 30 => .inr (3, 20)
  | 31 => .inr (0, 14)
  | 32 => .inr (0, 1620)
  | 33 => .inr (0, 32)
  | 34 => .inr (2, 5)
  | 35 => .inr (2, 4)
  | 36 => .inr (2, 3)
  | 37 => .inr (2, 6)
  | 38 => .inr (2, 2)
  | 39 => .inr (1, 32)
  | 40 => .inr (0, 12)
  | 41 => .inr (0, 16)
  | 42 => .inr (0, 10)
  | 43 => .inr (0, 3200)
  | 44 => .inr (0, 204)
  | 45 => .inr (0, 43)
  | 46 => .inr (0, 310)
  | 47 => .inr (0, 4080)
  | 48 => .inr (0, 1700)
  | 49 => .inr (1, 1700)
  | _ => .inr (9, 0)
def og_kdY (r : Int) : Nat := if r = 0 then 12 else if r = 1 then 20 else if r = 2 then 20 else if r = 3 then 20 else if r = 4 then 20 else if r = 5 then 25 else if r = 6 then 25 else if r = 7 then 25 else if r = 8 then 25 else if r = 9 then 33 else 0
def og_kdX (i : Int) : Nat := if i = 0 then 1 else if i = 1 then 2 else if i = 2 then 22 else if i = 3 then 3 else if i = 4 then 23 else if i = 5 then 4 else if i = 6 then 5 else if i = 7 then 24 else if i = 8 then 6 else if i = 9 then 25 else if i = 10 then 7 else if i = 11 then 26 else if i = 12 then 27 else if i = 13 then 27 else if i = 14 then 25 else if i = 15 then 28 else if i = 16 then 8 else if i = 17 then 25 else if i = 18 then 20 else if i = 19 then 29 else if i = 20 then 9 else if i = 21 then 30 else if i = 22 then 20 else if i = 23 then 21 else if i = 30 then 10 else if i = 31 then 31 else if i = 32 then 11 else if i = 33 then 32 else if i = 34 then 31 else if i = 35 then 31 else if i = 40 then 10 else if i = 41 then 31 else if i = 42 then 11 else if i = 43 then 32 else if i = 44 then 31 else if i = 45 then 31 else 0
def og_kdM (i : Int) : Nat := ([13, 22, 20, 34, 35, 35, 36, 37, 35, 36, 35, 35, 34, 34, 34, 35, 34, 34, 34, 37, 34, 35, 38, 36, 36, 36, 36, 36, 27, 39, 40, 41, 40, 41, 42, 42, 43, 44, 45, 29, 29, 25, 27, 27, 25, 26, 46, 47, 34, 35, 34, 34, 35, 34, 36, 36, 38, 36, 36, 36, 36, 35, 35, 34, 34, 34, 37, 34, 35, 36, 48, 48, 49, 21] : List Nat).getD (i - 1000).toNat 0
def og_kd (i : Int) : Nat := if i < 100 then og_kdX i else if i < 340 then og_kdY ((i - 100) % 10) else if i < 1000 then 0 else og_kdM i
def og_yf (k : Nat) : Int := 140 + 10 * (k : Int)
def og_idsX : List Int := [0, 1, 2, 3, 4, 5, 6, 7, 8, 9, 10, 11, 12, 13, 14, 15, 16, 17, 18, 19, 20, 21, 22, 23, 30, 31, 32, 33, 34, 35, 40, 41, 42, 43, 44, 45] ++ (List.range 240).map (fun (k : Nat) => (100 : Int) + (k : Int))
def og_idsM : List Int := (List.range 74).map (fun (k : Nat) => (1000 : Int) + (k : Int))
