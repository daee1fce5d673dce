section
-- what makes the small objects
abbrev cn_y_Yard : MethodName := ⟨"OpenGraves$Yard", "<init>", "()V"⟩
abbrev cn_c_Yard : ByteArray := prog_12_method_1_code
theorem cn_l_Yard : cn_Cl og_R_Yard og_T_Yard 13 11 og_ty_Yard := ⟨rfl, og_in_Yard, og_tyok_Yard, og_nm_Yard⟩
def cn_0_Yard : List Value := [.int 0, .int 0, .int 0, .int 0, .null, .null, .null, .null, .null, .null, .null, .null, .null]
def cn_B_Yard : List (Nat × cn_B) := [(4, 0, 6, [], 9, 4), (12, 0, 6, [], 15, 5), (20, 0, 6, [], 18, 6), (28, 0, 6, [], 21, 7), (36, 0, 8, [], 24, 8), (44, 0, 8, [], 27, 9), (52, 0, 8, [], 30, 10), (60, 0, 8, [], 33, 11), (68, 0, 32, [], 36, 12)]
def cn_X_Yard (C : Nat → ClassId) (z : Nat) : List va_E := .inr (11, cn_fs z cn_B_Yard cn_0_Yard 1) :: cn_ds C cn_B_Yard
set_option maxRecDepth 100000 in
theorem cn_Yard {l : Launch} {D : va_G} {C : Nat → ClassId} {z : Nat} : cn_MOK cn_y_Yard cn_c_Yard 1 1 9 88 l D C z [] (.inr (11, cn_0_Yard)) (cn_X_Yard C z) := by
  refine cn_enter (y := cn_y_Yard) (cc := cn_c_Yard) (idx := 3) (by decide) (Nat.le_of_ble_eq_true rfl) rfl (og_mc1 40 rfl rfl) (by decide +kernel) (by decide +kernel) (by decide) (fun p e s m args below meth c ls X hm hr hlk hz hl hS => ?_)
  refine cn_bs X cn_l_Yard hm (lv_at hl 0 rfl) cn_B_Yard 4 cn_0_Yard [] _ _ 0 0 (by decide +kernel) (List.forall_mem_cons.mpr ⟨(og_mc1 61 rfl rfl), List.forall_mem_cons.mpr ⟨(og_mc1 65 rfl rfl), List.forall_mem_cons.mpr ⟨(og_mc1 69 rfl rfl), List.forall_mem_cons.mpr ⟨(og_mc1 74 rfl rfl), List.forall_mem_cons.mpr ⟨(og_mc1 77 rfl rfl), List.forall_mem_cons.mpr ⟨(og_mc1 81 rfl rfl), List.forall_mem_cons.mpr ⟨(og_mc1 86 rfl rfl), List.forall_mem_cons.mpr ⟨(og_mc1 92 rfl rfl), List.forall_mem_cons.mpr ⟨(og_mc1 96 rfl rfl), fun _ h => absurd h List.not_mem_nil⟩⟩⟩⟩⟩⟩⟩⟩⟩) (List.forall_mem_cons.mpr ⟨⟨by decide, rfl, fun _ => rfl, fun _ => rfl⟩, List.forall_mem_cons.mpr ⟨⟨by decide, rfl, fun _ => rfl, fun _ => rfl⟩, List.forall_mem_cons.mpr ⟨⟨by decide, rfl, fun _ => rfl, fun _ => rfl⟩, List.forall_mem_cons.mpr ⟨⟨by decide, rfl, fun _ => rfl, fun _ => rfl⟩, List.forall_mem_cons.mpr ⟨⟨by decide, rfl, fun _ => rfl, fun _ => rfl⟩, List.forall_mem_cons.mpr ⟨⟨by decide, rfl, fun _ => rfl, fun _ => rfl⟩, List.forall_mem_cons.mpr ⟨⟨by decide, rfl, fun _ => rfl, fun _ => rfl⟩, List.forall_mem_cons.mpr ⟨⟨by decide, rfl, fun _ => rfl, fun _ => rfl⟩, List.forall_mem_cons.mpr ⟨⟨by decide, rfl, fun _ => rfl, fun _ => rfl⟩, fun _ h => absurd h List.not_mem_nil⟩⟩⟩⟩⟩⟩⟩⟩⟩) rfl (by show s.heap.size + 0 = z + (0 + 1); omega) (by decide) (by decide) hS (fun H1 locs1 hS => ?_)
  exact cn_ret X hr hlk hS (by decide +kernel)
abbrev cn_y_Script : MethodName := ⟨"OpenGraves$Script", "<init>", "()V"⟩
abbrev cn_c_Script : ByteArray := prog_9_method_1_code
theorem cn_l_Script : cn_Cl og_R_Script og_T_Script 4 10 og_ty_Script := ⟨rfl, og_in_Script, og_tyok_Script, og_nm_Script⟩
def cn_0_Script : List Value := [.null, .null, .null, .int 0]
def cn_B_Script : List (Nat × cn_B) := [(4, 0, 1620, [], 11, 0), (13, 0, 14, [], 15, 1), (21, 0, 14, [], 18, 2)]
def cn_X_Script (C : Nat → ClassId) (z : Nat) : List va_E := .inr (10, cn_fs z cn_B_Script cn_0_Script 1) :: cn_ds C cn_B_Script
set_option maxRecDepth 100000 in
theorem cn_Script {l : Launch} {D : va_G} {C : Nat → ClassId} {z : Nat} : cn_MOK cn_y_Script cn_c_Script 1 1 3 1648 l D C z [] (.inr (10, cn_0_Script)) (cn_X_Script C z) := by
  refine cn_enter (y := cn_y_Script) (cc := cn_c_Script) (idx := 3) (by decide) (Nat.le_of_ble_eq_true rfl) rfl (og_mc1 130 rfl rfl) (by decide +kernel) (by decide +kernel) (by decide) (fun p e s m args below meth c ls X hm hr hlk hz hl hS => ?_)
  refine cn_bs X cn_l_Script hm (lv_at hl 0 rfl) cn_B_Script 4 cn_0_Script [] _ _ 0 0 (by decide +kernel) (List.forall_mem_cons.mpr ⟨(og_mc1 131 rfl rfl), List.forall_mem_cons.mpr ⟨(og_mc1 133 rfl rfl), List.forall_mem_cons.mpr ⟨(og_mc1 135 rfl rfl), fun _ h => absurd h List.not_mem_nil⟩⟩⟩) (List.forall_mem_cons.mpr ⟨⟨by decide, rfl, fun _ => rfl, fun _ => rfl⟩, List.forall_mem_cons.mpr ⟨⟨by decide, rfl, fun _ => rfl, fun _ => rfl⟩, List.forall_mem_cons.mpr ⟨⟨by decide, rfl, fun _ => rfl, fun _ => rfl⟩, fun _ h => absurd h List.not_mem_nil⟩⟩⟩) rfl (by show s.heap.size + 0 = z + (0 + 1); omega) (by decide) (by decide) hS (fun H1 locs1 hS => ?_)
  exact cn_ret X hr hlk hS (by decide +kernel)
abbrev cn_y_Tape : MethodName := ⟨"OpenGraves$Tape", "<init>", "()V"⟩
abbrev cn_c_Tape : ByteArray := prog_10_method_1_code
theorem cn_l_Tape : cn_Cl og_R_Tape og_T_Tape 2 1 og_ty_Tape := ⟨rfl, og_in_Tape, og_tyok_Tape, og_nm_Tape⟩
def cn_0_Tape : List Value := [.null, .int 0]
def cn_B_Tape : List (Nat × cn_B) := [(4, 0, 1600, [], 9, 0)]
def cn_X_Tape (C : Nat → ClassId) (z : Nat) : List va_E := .inr (1, cn_fs z cn_B_Tape cn_0_Tape 1) :: cn_ds C cn_B_Tape
set_option maxRecDepth 100000 in
theorem cn_Tape {l : Launch} {D : va_G} {C : Nat → ClassId} {z : Nat} : cn_MOK cn_y_Tape cn_c_Tape 1 1 1 1600 l D C z [] (.inr (1, cn_0_Tape)) (cn_X_Tape C z) := by
  refine cn_enter (y := cn_y_Tape) (cc := cn_c_Tape) (idx := 3) (by decide) (Nat.le_of_ble_eq_true rfl) rfl (og_mc1 164 rfl rfl) (by decide +kernel) (by decide +kernel) (by decide) (fun p e s m args below meth c ls X hm hr hlk hz hl hS => ?_)
  refine cn_bs X cn_l_Tape hm (lv_at hl 0 rfl) cn_B_Tape 4 cn_0_Tape [] _ _ 0 0 (by decide +kernel) (List.forall_mem_cons.mpr ⟨(og_mc1 165 rfl rfl), fun _ h => absurd h List.not_mem_nil⟩) (List.forall_mem_cons.mpr ⟨⟨by decide, rfl, fun _ => rfl, fun _ => rfl⟩, fun _ h => absurd h List.not_mem_nil⟩) rfl (by show s.heap.size + 0 = z + (0 + 1); omega) (by decide) (by decide) hS (fun H1 locs1 hS => ?_)
  exact cn_ret X hr hlk hS (by decide +kernel)
abbrev cn_y_Reckoner : MethodName := ⟨"OpenGraves$Reckoner", "<init>", "()V"⟩
abbrev cn_c_Reckoner : ByteArray := prog_7_method_1_code
theorem cn_l_Reckoner : cn_Cl og_R_Reckoner og_T_Reckoner 1 4 og_ty_Reckoner := ⟨rfl, og_in_Reckoner, og_tyok_Reckoner, og_nm_Reckoner⟩
def cn_0_Reckoner : List Value := [.null]
def cn_B_Reckoner : List (Nat × cn_B) := [(4, 0, 64, [], 11, 0)]
def cn_X_Reckoner (C : Nat → ClassId) (z : Nat) : List va_E := .inr (4, cn_fs z cn_B_Reckoner cn_0_Reckoner 1) :: cn_ds C cn_B_Reckoner
set_option maxRecDepth 100000 in
theorem cn_Reckoner {l : Launch} {D : va_G} {C : Nat → ClassId} {z : Nat} : cn_MOK cn_y_Reckoner cn_c_Reckoner 1 1 1 64 l D C z [] (.inr (4, cn_0_Reckoner)) (cn_X_Reckoner C z) := by
  refine cn_enter (y := cn_y_Reckoner) (cc := cn_c_Reckoner) (idx := 3) (by decide) (Nat.le_of_ble_eq_true rfl) rfl (og_mc2 51 rfl rfl) (by decide +kernel) (by decide +kernel) (by decide) (fun p e s m args below meth c ls X hm hr hlk hz hl hS => ?_)
  refine cn_bs X cn_l_Reckoner hm (lv_at hl 0 rfl) cn_B_Reckoner 4 cn_0_Reckoner [] _ _ 0 0 (by decide +kernel) (List.forall_mem_cons.mpr ⟨(og_mc2 52 rfl rfl), fun _ h => absurd h List.not_mem_nil⟩) (List.forall_mem_cons.mpr ⟨⟨by decide, rfl, fun _ => rfl, fun _ => rfl⟩, fun _ h => absurd h List.not_mem_nil⟩) rfl (by show s.heap.size + 0 = z + (0 + 1); omega) (by decide) (by decide) hS (fun H1 locs1 hS => ?_)
  exact cn_ret X hr hlk hS (by decide +kernel)
abbrev cn_y_Rows : MethodName := ⟨"OpenGraves$Rows", "<init>", "()V"⟩
abbrev cn_c_Rows : ByteArray := prog_8_method_1_code
theorem cn_l_Rows : cn_Cl og_R_Rows og_T_Rows 3 7 og_ty_Rows := ⟨rfl, og_in_Rows, og_tyok_Rows, og_nm_Rows⟩
def cn_0_Rows : List Value := [.null, .null, .null]
def cn_B_Rows : List (Nat × cn_B) := [(4, 0, 8, [], 9, 0), (12, 0, 6, [], 15, 1), (20, 0, 1792, [], 18, 2)]
def cn_X_Rows (C : Nat → ClassId) (z : Nat) : List va_E := .inr (7, cn_fs z cn_B_Rows cn_0_Rows 1) :: cn_ds C cn_B_Rows
set_option maxRecDepth 100000 in
theorem cn_Rows {l : Launch} {D : va_G} {C : Nat → ClassId} {z : Nat} : cn_MOK cn_y_Rows cn_c_Rows 1 1 3 1806 l D C z [] (.inr (7, cn_0_Rows)) (cn_X_Rows C z) := by
  refine cn_enter (y := cn_y_Rows) (cc := cn_c_Rows) (idx := 3) (by decide) (Nat.le_of_ble_eq_true rfl) rfl (og_mc2 114 rfl rfl) (by decide +kernel) (by decide +kernel) (by decide) (fun p e s m args below meth c ls X hm hr hlk hz hl hS => ?_)
  refine cn_bs X cn_l_Rows hm (lv_at hl 0 rfl) cn_B_Rows 4 cn_0_Rows [] _ _ 0 0 (by decide +kernel) (List.forall_mem_cons.mpr ⟨(og_mc2 115 rfl rfl), List.forall_mem_cons.mpr ⟨(og_mc2 117 rfl rfl), List.forall_mem_cons.mpr ⟨(og_mc2 119 rfl rfl), fun _ h => absurd h List.not_mem_nil⟩⟩⟩) (List.forall_mem_cons.mpr ⟨⟨by decide, rfl, fun _ => rfl, fun _ => rfl⟩, List.forall_mem_cons.mpr ⟨⟨by decide, rfl, fun _ => rfl, fun _ => rfl⟩, List.forall_mem_cons.mpr ⟨⟨by decide, rfl, fun _ => rfl, fun _ => rfl⟩, fun _ h => absurd h List.not_mem_nil⟩⟩⟩) rfl (by show s.heap.size + 0 = z + (0 + 1); omega) (by decide) (by decide) hS (fun H1 locs1 hS => ?_)
  exact cn_ret X hr hlk hS (by decide +kernel)
abbrev cn_y_Almanac : MethodName := ⟨"OpenGraves$Almanac", "<init>", "(LOpenGraves$Reckoner;)V"⟩
abbrev cn_c_Almanac : ByteArray := prog_2_method_1_code
theorem cn_l_Almanac : cn_Cl og_R_Almanac og_T_Almanac 2 5 og_ty_Almanac := ⟨rfl, og_in_Almanac, og_tyok_Almanac, og_nm_Almanac⟩
def cn_0_Almanac : List Value := [.null, .null]
def cn_B_Almanac : List (Nat × cn_B) := [(9, 0, 8, [], 15, 1)]
def cn_X_Almanac (C : Nat → ClassId) (z : Nat) (a1 : Nat) : List va_E := .inr (5, cn_fs z cn_B_Almanac (cn_0_Almanac.set 0 (.ref a1)) 1) :: cn_ds C cn_B_Almanac
set_option maxRecDepth 100000 in
theorem cn_Almanac {l : Launch} {D : va_G} {C : Nat → ClassId} {z : Nat} {a1 : Nat} : cn_MOK cn_y_Almanac cn_c_Almanac 2 1 1 8 l D C z [a1] (.inr (5, cn_0_Almanac)) (cn_X_Almanac C z a1) := by
  refine cn_enter (y := cn_y_Almanac) (cc := cn_c_Almanac) (idx := 3) (by decide) (Nat.le_of_ble_eq_true rfl) rfl (og_mc2 61 rfl rfl) (by decide +kernel) (by decide +kernel) (by decide) (fun p e s m args below meth c ls X hm hr hlk hz hl hS => ?_)
  refine lv_aload_n X.1 X.2.1 (pc := 4) (k := 0) (by decide +kernel) rfl (lv_at hl 0 rfl) ?_
  refine lv_aload_n X.1 X.2.1 (k := 1) (by decide +kernel) rfl (lv_at hl 1 rfl) ?_
  refine cn_put (q0 := 0) (k := 0) (index := 9) (fs := cn_0_Almanac) X cn_l_Almanac hm hS rfl ⟨by decide, (by decide : 0 < 2)⟩ (og_mc2 62 rfl rfl) rfl rfl rfl (by decide +kernel) (fun H1 locs1 hS => ?_)
  refine cn_bs X cn_l_Almanac hm (lv_at hl 0 rfl) cn_B_Almanac 9 (cn_0_Almanac.set 0 (.ref a1)) [] _ _ 0 0 (by decide +kernel) (List.forall_mem_cons.mpr ⟨(og_mc2 63 rfl rfl), fun _ h => absurd h List.not_mem_nil⟩) (List.forall_mem_cons.mpr ⟨⟨by decide, rfl, fun _ => rfl, fun _ => rfl⟩, fun _ h => absurd h List.not_mem_nil⟩) rfl (by show s.heap.size + 0 = z + (0 + 1); omega) (by decide) (by decide) hS (fun H1 locs1 hS => ?_)
  exact cn_ret X hr hlk hS (by decide +kernel)
abbrev cn_y_Grammar : MethodName := ⟨"OpenGraves$Grammar", "<init>", "(LOpenGraves$Tokens;LOpenGraves$Script;)V"⟩
abbrev cn_c_Grammar : ByteArray := prog_3_method_1_code
theorem cn_l_Grammar : cn_Cl og_R_Grammar og_T_Grammar 3 3 og_ty_Grammar := ⟨rfl, og_in_Grammar, og_tyok_Grammar, og_nm_Grammar⟩
def cn_0_Grammar : List Value := [.null, .null, .int 0]
def cn_B_Grammar : List (Nat × cn_B) := []
def cn_X_Grammar (C : Nat → ClassId) (z : Nat) (a1 : Nat) (a2 : Nat) : List va_E := .inr (3, cn_fs z cn_B_Grammar ((cn_0_Grammar.set 0 (.ref a1)).set 1 (.ref a2)) 1) :: cn_ds C cn_B_Grammar
set_option maxRecDepth 100000 in
theorem cn_Grammar {l : Launch} {D : va_G} {C : Nat → ClassId} {z : Nat} {a1 : Nat} {a2 : Nat} : cn_MOK cn_y_Grammar cn_c_Grammar 3 1 0 0 l D C z [a1, a2] (.inr (3, cn_0_Grammar)) (cn_X_Grammar C z a1 a2) := by
  refine cn_enter (y := cn_y_Grammar) (cc := cn_c_Grammar) (idx := 3) (by decide) (Nat.le_of_ble_eq_true rfl) rfl (og_mc2 35 rfl rfl) (by decide +kernel) (by decide +kernel) (by decide) (fun p e s m args below meth c ls X hm hr hlk hz hl hS => ?_)
  refine lv_aload_n X.1 X.2.1 (pc := 4) (k := 0) (by decide +kernel) rfl (lv_at hl 0 rfl) ?_
  refine lv_aload_n X.1 X.2.1 (k := 1) (by decide +kernel) rfl (lv_at hl 1 rfl) ?_
  refine cn_put (q0 := 0) (k := 0) (index := 9) (fs := cn_0_Grammar) X cn_l_Grammar hm hS rfl ⟨by decide, (by decide : 0 < 3)⟩ (og_mc2 36 rfl rfl) rfl rfl rfl (by decide +kernel) (fun H1 locs1 hS => ?_)
  refine lv_aload_n X.1 X.2.1 (pc := 9) (k := 0) (by decide +kernel) rfl (lv_at hl 0 rfl) ?_
  refine lv_aload_n X.1 X.2.1 (k := 2) (by decide +kernel) rfl (lv_at hl 2 rfl) ?_
  refine cn_put (q0 := 0) (k := 1) (index := 15) (fs := (cn_0_Grammar.set 0 (.ref a1))) X cn_l_Grammar hm hS rfl ⟨by decide, (by decide : 1 < 3)⟩ (og_mc2 37 rfl rfl) rfl rfl rfl (by decide +kernel) (fun H1 locs1 hS => ?_)
  refine cn_bs X cn_l_Grammar hm (lv_at hl 0 rfl) cn_B_Grammar 14 ((cn_0_Grammar.set 0 (.ref a1)).set 1 (.ref a2)) [] _ _ 0 0 (by decide +kernel) (fun _ h => absurd h List.not_mem_nil) (fun _ h => absurd h List.not_mem_nil) rfl (by show s.heap.size + 0 = z + (0 + 1); omega) (by decide) (by decide) hS (fun H1 locs1 hS => ?_)
  exact cn_ret X hr hlk hS (by decide +kernel)
end
