section
-- what makes the class's object
abbrev cn_y_OG : MethodName := ⟨"OpenGraves", "<init>", "()V"⟩
abbrev cn_c_OG : ByteArray := prog_1_method_1_code
theorem cn_l_OG : cn_Cl og_R_OG og_T_OG 17 0 og_ty_OG := ⟨rfl, og_in_OG, og_tyok_OG, og_nm_OG⟩
def cn_0_OG : List Value := [.null, .null, .null, .null, .null, .null, .null, .null, .null, .null, .null, .int 0, .int 0, .int 0, .int 0, .null, .null]
abbrev cn_nw : Cond := .fieldLinkNest "OpenGraves" 37 "OpenGraves$Parish" "rules" "LOpenGraves$Script;" "OpenGraves"
def cn_EO (a v z : Nat) (U : State) : Prop := va_AO "OpenGraves$Yard" U ∧ sg_E a v z U ∧ va_Nw cn_nw U
theorem cn_bEO {a v z : Nat} : cn_bE (cn_EO a v z) := fun a' U g mk h => ⟨cn_bAO a' U g mk h.1, sg_bE a' U g mk h.2.1, va_Nw.same (u := U) (U := U.calling g mk a') rfl rfl h.2.2⟩
theorem sg_nw {a v z z2 : Nat} {U : State} (hz : z ≤ z2) (h : sg_F a v (fun q => z ≤ q) U) : sg_F a v (fun q => z2 ≤ q) U := ⟨h.1.narrow (fun _ f => Nat.le_trans hz f), h.2.1.narrow (fun _ f => Nat.le_trans hz f), h.2.2.narrow (fun _ f => Nat.le_trans hz f)⟩
theorem cn_P_len {C : Nat → ClassId} {z : Nat} : (cn_X_Parish C z).length = 16 := by rw [cn_X_Parish, List.length_cons, List.length_append, cn_D_Parish3_len, cn_ds_len]; rfl
theorem cn_O_len {C : Nat → ClassId} {z a1 a2 : Nat} : (cn_X_Outlook C z a1 a2).length = 16 := by rw [cn_X_Outlook, List.length_cons, List.length_append, cn_D_Outlook4_len, cn_ds_len]; rfl
theorem cn_Pa_len {C : Nat → ClassId} {z : Nat} : (cn_X_Past C z).length = 202 := by rw [cn_X_Past, cn_pW, List.length_cons, List.length_cons, cn_pY_len]
def cn_F_OG1 (z : Nat) : List Value := [.null, .null, .null, .null, .null, .null, .null, .null, .null, .null, .null, .int 0, .int 0, .int 0, .int 0, .null, .null]
def cn_D_OG1 (C : Nat → ClassId) (z : Nat) : List va_E := []
theorem cn_F_OG1_len {z : Nat} : (cn_F_OG1 z).length = 17 := rfl
theorem cn_D_OG1_len {C : Nat → ClassId} {z : Nat} : (cn_D_OG1 C z).length = 0 := rfl
def cn_F_OG2 (z : Nat) : List Value := [.null, .null, .null, .null, .null, .null, .null, .null, .null, .null, .null, .int 0, .int 0, .int 0, .int 0, .ref (z + 1), .null]
def cn_D_OG2 (C : Nat → ClassId) (z : Nat) : List va_E := (cn_D_OG1 C z) ++ cn_X_Parish C (z + 1)
theorem cn_F_OG2_len {z : Nat} : (cn_F_OG2 z).length = 17 := rfl
theorem cn_D_OG2_len {C : Nat → ClassId} {z : Nat} : (cn_D_OG2 C z).length = 16 := by rw [cn_D_OG2, List.length_append, cn_D_OG1_len, show (cn_X_Parish C (z + 1)).length = 16 from cn_P_len]
def cn_F_OG3 (z : Nat) : List Value := [.null, .null, .null, .null, .null, .null, .null, .null, .null, .null, .null, .int 0, .int 0, .int 0, .int 0, .ref (z + 1), .ref (z + 17)]
def cn_D_OG3 (C : Nat → ClassId) (z : Nat) : List va_E := (cn_D_OG2 C z) ++ cn_X_Parish C (z + 17)
theorem cn_F_OG3_len {z : Nat} : (cn_F_OG3 z).length = 17 := rfl
theorem cn_D_OG3_len {C : Nat → ClassId} {z : Nat} : (cn_D_OG3 C z).length = 32 := by rw [cn_D_OG3, List.length_append, cn_D_OG2_len, show (cn_X_Parish C (z + 17)).length = 16 from cn_P_len]
def cn_F_OG4 (z : Nat) : List Value := [.ref (z + 33), .null, .null, .null, .null, .null, .null, .null, .null, .null, .null, .int 0, .int 0, .int 0, .int 0, .ref (z + 1), .ref (z + 17)]
def cn_D_OG4 (C : Nat → ClassId) (z : Nat) : List va_E := (cn_D_OG3 C z) ++ cn_X_Tape C (z + 33)
theorem cn_F_OG4_len {z : Nat} : (cn_F_OG4 z).length = 17 := rfl
theorem cn_D_OG4_len {C : Nat → ClassId} {z : Nat} : (cn_D_OG4 C z).length = 34 := by rw [cn_D_OG4, List.length_append, cn_D_OG3_len, show (cn_X_Tape C (z + 33)).length = 2 from rfl]
def cn_F_OG5 (z : Nat) : List Value := [.ref (z + 33), .ref (z + 35), .null, .null, .null, .null, .null, .null, .null, .null, .null, .int 0, .int 0, .int 0, .int 0, .ref (z + 1), .ref (z + 17)]
def cn_D_OG5 (C : Nat → ClassId) (z : Nat) : List va_E := (cn_D_OG4 C z) ++ cn_X_Tokens C (z + 35) (z + 33)
theorem cn_F_OG5_len {z : Nat} : (cn_F_OG5 z).length = 17 := rfl
theorem cn_D_OG5_len {C : Nat → ClassId} {z : Nat} : (cn_D_OG5 C z).length = 36 := by rw [cn_D_OG5, List.length_append, cn_D_OG4_len, show (cn_X_Tokens C (z + 35) (z + 33)).length = 2 from rfl]
def cn_F_OG6 (z : Nat) : List Value := [.ref (z + 33), .ref (z + 35), .ref (z + 37), .null, .null, .null, .null, .null, .null, .null, .null, .int 0, .int 0, .int 0, .int 0, .ref (z + 1), .ref (z + 17)]
def cn_D_OG6 (C : Nat → ClassId) (z : Nat) : List va_E := (cn_D_OG5 C z) ++ cn_X_Grammar C (z + 37) (z + 35) (z + 28)
theorem cn_F_OG6_len {z : Nat} : (cn_F_OG6 z).length = 17 := rfl
theorem cn_D_OG6_len {C : Nat → ClassId} {z : Nat} : (cn_D_OG6 C z).length = 37 := by rw [cn_D_OG6, List.length_append, cn_D_OG5_len, show (cn_X_Grammar C (z + 37) (z + 35) (z + 28)).length = 1 from rfl]
def cn_F_OG7 (z : Nat) : List Value := [.ref (z + 33), .ref (z + 35), .ref (z + 37), .ref (z + 38), .null, .null, .null, .null, .null, .null, .null, .int 0, .int 0, .int 0, .int 0, .ref (z + 1), .ref (z + 17)]
def cn_D_OG7 (C : Nat → ClassId) (z : Nat) : List va_E := (cn_D_OG6 C z) ++ cn_X_Reckoner C (z + 38)
theorem cn_F_OG7_len {z : Nat} : (cn_F_OG7 z).length = 17 := rfl
theorem cn_D_OG7_len {C : Nat → ClassId} {z : Nat} : (cn_D_OG7 C z).length = 39 := by rw [cn_D_OG7, List.length_append, cn_D_OG6_len, show (cn_X_Reckoner C (z + 38)).length = 2 from rfl]
def cn_F_OG8 (z : Nat) : List Value := [.ref (z + 33), .ref (z + 35), .ref (z + 37), .ref (z + 38), .ref (z + 40), .null, .null, .null, .null, .null, .null, .int 0, .int 0, .int 0, .int 0, .ref (z + 1), .ref (z + 17)]
def cn_D_OG8 (C : Nat → ClassId) (z : Nat) : List va_E := (cn_D_OG7 C z) ++ cn_X_Almanac C (z + 40) (z + 38)
theorem cn_F_OG8_len {z : Nat} : (cn_F_OG8 z).length = 17 := rfl
theorem cn_D_OG8_len {C : Nat → ClassId} {z : Nat} : (cn_D_OG8 C z).length = 41 := by rw [cn_D_OG8, List.length_append, cn_D_OG7_len, show (cn_X_Almanac C (z + 40) (z + 38)).length = 2 from rfl]
def cn_F_OG9 (z : Nat) : List Value := [.ref (z + 33), .ref (z + 35), .ref (z + 37), .ref (z + 38), .ref (z + 40), .ref (z + 42), .null, .null, .null, .null, .null, .int 0, .int 0, .int 0, .int 0, .ref (z + 1), .ref (z + 17)]
def cn_D_OG9 (C : Nat → ClassId) (z : Nat) : List va_E := (cn_D_OG8 C z) ++ cn_X_Outlook C (z + 42) (z + 40) (z + 38)
theorem cn_F_OG9_len {z : Nat} : (cn_F_OG9 z).length = 17 := rfl
theorem cn_D_OG9_len {C : Nat → ClassId} {z : Nat} : (cn_D_OG9 C z).length = 57 := by rw [cn_D_OG9, List.length_append, cn_D_OG8_len, show (cn_X_Outlook C (z + 42) (z + 40) (z + 38)).length = 16 from cn_O_len]
def cn_F_OG10 (z : Nat) : List Value := [.ref (z + 33), .ref (z + 35), .ref (z + 37), .ref (z + 38), .ref (z + 40), .ref (z + 42), .ref (z + 58), .null, .null, .null, .null, .int 0, .int 0, .int 0, .int 0, .ref (z + 1), .ref (z + 17)]
def cn_D_OG10 (C : Nat → ClassId) (z : Nat) : List va_E := (cn_D_OG9 C z) ++ cn_X_Rows C (z + 58)
theorem cn_F_OG10_len {z : Nat} : (cn_F_OG10 z).length = 17 := rfl
theorem cn_D_OG10_len {C : Nat → ClassId} {z : Nat} : (cn_D_OG10 C z).length = 61 := by rw [cn_D_OG10, List.length_append, cn_D_OG9_len, show (cn_X_Rows C (z + 58)).length = 4 from rfl]
def cn_F_OG11 (z : Nat) : List Value := [.ref (z + 33), .ref (z + 35), .ref (z + 37), .ref (z + 38), .ref (z + 40), .ref (z + 42), .ref (z + 58), .ref (z + 62), .null, .null, .null, .int 0, .int 0, .int 0, .int 0, .ref (z + 1), .ref (z + 17)]
def cn_D_OG11 (C : Nat → ClassId) (z : Nat) : List va_E := (cn_D_OG10 C z) ++ cn_X_Past C (z + 62)
theorem cn_F_OG11_len {z : Nat} : (cn_F_OG11 z).length = 17 := rfl
theorem cn_D_OG11_len {C : Nat → ClassId} {z : Nat} : (cn_D_OG11 C z).length = 263 := by rw [cn_D_OG11, List.length_append, cn_D_OG10_len, show (cn_X_Past C (z + 62)).length = 202 from cn_Pa_len]
def cn_F_OG12 (z : Nat) : List Value := [.ref (z + 33), .ref (z + 35), .ref (z + 37), .ref (z + 38), .ref (z + 40), .ref (z + 42), .ref (z + 58), .ref (z + 62), .ref (z + 264), .null, .null, .int 0, .int 0, .int 0, .int 0, .ref (z + 1), .ref (z + 17)]
def cn_D_OG12 (C : Nat → ClassId) (z : Nat) : List va_E := (cn_D_OG11 C z) ++ cn_X_Yard C (z + 264)
theorem cn_F_OG12_len {z : Nat} : (cn_F_OG12 z).length = 17 := rfl
theorem cn_D_OG12_len {C : Nat → ClassId} {z : Nat} : (cn_D_OG12 C z).length = 273 := by rw [cn_D_OG12, List.length_append, cn_D_OG11_len, show (cn_X_Yard C (z + 264)).length = 10 from rfl]
def cn_B_OG : List (Nat × cn_B) := [(152, 0, 6, [], 94, 9), (160, 0, 45, [], 98, 10)]
def cn_F_OG13 (z : Nat) : List Value := [.ref (z + 33), .ref (z + 35), .ref (z + 37), .ref (z + 38), .ref (z + 40), .ref (z + 42), .ref (z + 58), .ref (z + 62), .ref (z + 264), .ref (z + 274), .ref (z + 275), .int 0, .int 0, .int 0, .int 0, .ref (z + 1), .ref (z + 17)]
def cn_D_OG13 (C : Nat → ClassId) (z : Nat) : List va_E := (cn_D_OG12 C z) ++ cn_ds C cn_B_OG
theorem cn_F_OG13_len {z : Nat} : (cn_F_OG13 z).length = 17 := rfl
theorem cn_D_OG13_len {C : Nat → ClassId} {z : Nat} : (cn_D_OG13 C z).length = 275 := by rw [cn_D_OG13, List.length_append, cn_D_OG12_len, cn_ds_len, show cn_B_OG.length = 2 from rfl]
def cn_F_OG14 (z : Nat) : List Value := [.ref (z + 33), .ref (z + 35), .ref (z + 37), .ref (z + 38), .ref (z + 40), .ref (z + 42), .ref (z + 58), .ref (z + 62), .ref (z + 264), .ref (z + 274), .ref (z + 275), .int 0, .int (Int32.ofInt (1)), .int 0, .int 0, .ref (z + 1), .ref (z + 17)]
def cn_D_OG14 (C : Nat → ClassId) (z : Nat) : List va_E := (cn_D_OG13 C z)
theorem cn_F_OG14_len {z : Nat} : (cn_F_OG14 z).length = 17 := rfl
theorem cn_D_OG14_len {C : Nat → ClassId} {z : Nat} : (cn_D_OG14 C z).length = 275 := by rw [cn_D_OG14]; exact cn_D_OG13_len
def cn_F_OG (z : Nat) : List Value := [.ref (z + 33), .ref (z + 35), .ref (z + 37), .ref (z + 38), .ref (z + 40), .ref (z + 42), .ref (z + 58), .ref (z + 62), .ref (z + 264), .ref (z + 274), .ref (z + 275), .int 0, .int (Int32.ofInt (1)), .int 0, .int (Int32.ofInt (-1)), .ref (z + 1), .ref (z + 17)]
def cn_X_OG (C : Nat → ClassId) (z : Nat) : List va_E := .inr (0, cn_F_OG z) :: (cn_D_OG14 C z)
set_option maxRecDepth 100000 in
set_option maxHeartbeats 400000 in
theorem cn_OG {l : Launch} {D : va_G} {C : Nat → ClassId} {z a v : Nat} : cn_MOKe cn_y_OG cn_c_OG 1 6 275 9619 l D C z [] (.inr (0, cn_0_OG)) (cn_X_OG C z) (cn_EO a v z) := by
  refine cn_enterE (y := cn_y_OG) (cc := cn_c_OG) (idx := 1) (by decide) (Nat.le_of_ble_eq_true rfl) rfl (og_mc1 26 rfl rfl) (by decide +kernel) (by decide +kernel) (by decide) (fun p e s m args below meth c ls X hm hr hlk hz hl hS hE => ?_)
  have hS : cn_St D z (.inr (0, (cn_F_OG1 z)) :: (cn_D_OG1 C z)) s.heap _ _ := hS
  have hw : cn_wds "OpenGraves" 7 9 3 cn_y_Parish cn_c_Parish 1 := ⟨(og_mc1 29 rfl rfl), (og_mc1 30 rfl rfl), (og_mc1 2 rfl rfl), (og_mc1 33 rfl rfl), (og_mc1 31 rfl rfl), (og_mc1 32 rfl rfl)⟩
  refine cn_n1 (pc := 4) (f2 := cn_0_Parish) X cn_l_Parish (lv_at hl 0 rfl) hw (fun j hj => by have : j = 0 ∨ j = 1 ∨ j = 2 := (by omega); rcases this with  rfl | rfl | rfl  <;> rfl) hS (by rw [cn_D_OG1_len]; omega) (by decide) (by decide) (by decide +kernel) (by decide +kernel) (by decide +kernel) (fun H1 hS => ?_)
  refine cn_n2 (k := 15) (ix := 10) (as := []) (fs := (cn_F_OG1 z)) (ds := (cn_D_OG1 C z)) X cn_l_OG hm hw hl.1 hS (by rw [cn_D_OG1_len]; omega) cn_Parish rfl (by decide +kernel) (by decide) (by decide) ⟨by decide, by rw [cn_F_OG1_len]; decide⟩ (og_mc2 164 rfl rfl) rfl (fun _ => rfl) (fun _ => rfl) (by decide +kernel) (by decide +kernel) (fun H1 locs1 hS => ?_)
  rw [cn_D_OG1_len] at hS
  have hS : cn_St D z (.inr (0, (cn_F_OG2 z)) :: (cn_D_OG2 C z)) s.heap _ _ := hS
  have hw : cn_wds "OpenGraves" 7 9 3 cn_y_Parish cn_c_Parish 1 := ⟨(og_mc1 29 rfl rfl), (og_mc1 30 rfl rfl), (og_mc1 2 rfl rfl), (og_mc1 33 rfl rfl), (og_mc1 31 rfl rfl), (og_mc1 32 rfl rfl)⟩
  refine cn_n1 (pc := 15) (f2 := cn_0_Parish) X cn_l_Parish (lv_at hl 0 rfl) hw (fun j hj => by have : j = 0 ∨ j = 1 ∨ j = 2 := (by omega); rcases this with  rfl | rfl | rfl  <;> rfl) hS (by rw [cn_D_OG2_len]; omega) (by decide) (by decide) (by decide +kernel) (by decide +kernel) (by decide +kernel) (fun H1 hS => ?_)
  refine cn_n2 (k := 16) (ix := 16) (as := []) (fs := (cn_F_OG2 z)) (ds := (cn_D_OG2 C z)) X cn_l_OG hm hw hl.1 hS (by rw [cn_D_OG2_len]; omega) cn_Parish rfl (by decide +kernel) (by decide) (by decide) ⟨by decide, by rw [cn_F_OG2_len]; decide⟩ (og_mc2 165 rfl rfl) rfl (fun _ => rfl) (fun _ => rfl) (by decide +kernel) (by decide +kernel) (fun H1 locs1 hS => ?_)
  rw [cn_D_OG2_len] at hS
  have hS : cn_St D z (.inr (0, (cn_F_OG3 z)) :: (cn_D_OG3 C z)) s.heap _ _ := hS
  have hw : cn_wds "OpenGraves" 19 21 2 cn_y_Tape cn_c_Tape 1 := ⟨(og_mc1 159 rfl rfl), (og_mc1 160 rfl rfl), (og_mc1 5 rfl rfl), (og_mc1 163 rfl rfl), (og_mc1 161 rfl rfl), (og_mc1 162 rfl rfl)⟩
  refine cn_n1 (pc := 26) (f2 := cn_0_Tape) X cn_l_Tape (lv_at hl 0 rfl) hw (fun j hj => by have : j = 0 ∨ j = 1 := (by omega); rcases this with  rfl | rfl  <;> rfl) hS (by rw [cn_D_OG3_len]; omega) (by decide) (by decide) (by decide +kernel) (by decide +kernel) (by decide +kernel) (fun H1 hS => ?_)
  refine cn_n2 (k := 0) (ix := 22) (as := []) (fs := (cn_F_OG3 z)) (ds := (cn_D_OG3 C z)) X cn_l_OG hm hw hl.1 hS (by rw [cn_D_OG3_len]; omega) cn_Tape rfl (by decide +kernel) (by decide) (by decide) ⟨by decide, by rw [cn_F_OG3_len]; decide⟩ (og_mc2 149 rfl rfl) rfl (fun _ => rfl) (fun _ => rfl) (by decide +kernel) (by decide +kernel) (fun H1 locs1 hS => ?_)
  rw [cn_D_OG3_len] at hS
  have hS : cn_St D z (.inr (0, (cn_F_OG4 z)) :: (cn_D_OG4 C z)) s.heap _ _ := hS
  have hw : cn_wds "OpenGraves" 26 28 10 cn_y_Tokens cn_c_Tokens 5 := ⟨(og_mc1 175 rfl rfl), (og_mc1 176 rfl rfl), (og_mc1 6 rfl rfl), (og_mc1 179 rfl rfl), (og_mc1 177 rfl rfl), (og_mc1 178 rfl rfl)⟩
  refine cn_n1 (pc := 37) (f2 := cn_0_Tokens) X cn_l_Tokens (lv_at hl 0 rfl) hw (fun j hj => by have : j = 0 ∨ j = 1 ∨ j = 2 ∨ j = 3 ∨ j = 4 ∨ j = 5 ∨ j = 6 ∨ j = 7 ∨ j = 8 ∨ j = 9 := (by omega); rcases this with  rfl | rfl | rfl | rfl | rfl | rfl | rfl | rfl | rfl | rfl  <;> rfl) hS (by rw [cn_D_OG4_len]; omega) (by decide) (by decide) (by decide +kernel) (by decide +kernel) (by decide +kernel) (fun H1 hS => ?_)
  refine lv_aload_n X.1 X.2.1 (pc := 42) (k := 0) (by decide +kernel) rfl (lv_at hl 0 rfl) ?_
  refine cn_gf (q0 := 0) (k := 0) (ix := 22) (fs := (cn_F_OG4 z)) (w := .ref (z + 33)) X cn_l_OG hS rfl (by decide) (og_mc2 149 rfl rfl) rfl rfl (by decide +kernel) ?_
  refine cn_n2E sg_bE (fun U hU hW => ⟨vk_R.warm hW hE.2.1.1, sg_nw (by rw [cn_D_OG4_len]; omega) (sg_kp hS.2 hU hW.alike hE.2.1.2)⟩) (k := 1) (ix := 31) (as := [z + 33]) (fs := (cn_F_OG4 z)) (ds := (cn_D_OG4 C z)) X cn_l_OG hm hw hl.1 hS (by rw [cn_D_OG4_len]; omega) (cn_Tokens (a := a) (v := v)) rfl ⟨by decide, by decide, show (parseMethodDescriptor cn_y_Tokens.desc).map (fun d => d.parameters.length) = some 1 by decide +kernel⟩ (by decide) (by decide) ⟨by decide, by rw [cn_F_OG4_len]; decide⟩ (og_mc2 150 rfl rfl) rfl (fun _ => rfl) (fun _ => rfl) (by decide +kernel) (by decide +kernel) (fun H1 locs1 hS => ?_)
  rw [cn_D_OG4_len] at hS
  have hS : cn_St D z (.inr (0, (cn_F_OG5 z)) :: (cn_D_OG5 C z)) s.heap _ _ := hS
  have hw : cn_wds "OpenGraves" 35 41 3 cn_y_Grammar cn_c_Grammar 3 := ⟨(og_mc2 30 rfl rfl), (og_mc2 31 rfl rfl), (og_mc1 11 rfl rfl), (og_mc2 34 rfl rfl), (og_mc2 32 rfl rfl), (og_mc2 33 rfl rfl)⟩
  refine cn_n1 (pc := 52) (f2 := cn_0_Grammar) X cn_l_Grammar (lv_at hl 0 rfl) hw (fun j hj => by have : j = 0 ∨ j = 1 ∨ j = 2 := (by omega); rcases this with  rfl | rfl | rfl  <;> rfl) hS (by rw [cn_D_OG5_len]; omega) (by decide) (by decide) (by decide +kernel) (by decide +kernel) (by decide +kernel) (fun H1 hS => ?_)
  refine lv_aload_n X.1 X.2.1 (pc := 57) (k := 0) (by decide +kernel) rfl (lv_at hl 0 rfl) ?_
  refine cn_gf (q0 := 0) (k := 1) (ix := 31) (fs := (cn_F_OG5 z)) (w := .ref (z + 35)) X cn_l_OG hS rfl (by decide) (og_mc2 150 rfl rfl) rfl rfl (by decide +kernel) ?_
  refine lv_aload_n X.1 X.2.1 (pc := 61) (k := 0) (by decide +kernel) rfl (lv_at hl 0 rfl) ?_
  refine cn_gf (q0 := 0) (k := 16) (ix := 16) (fs := (cn_F_OG5 z)) (w := .ref (z + 17)) X cn_l_OG hS rfl (by decide) (og_mc2 165 rfl rfl) rfl rfl (by decide +kernel) ?_
  refine va_getN (own := "OpenGraves") (ref := "OpenGraves$Parish") (host := "OpenGraves") (index := 37) (fs := cn_fs (z + 17) cn_B_Parish3 (cn_F_Parish3 (z + 17)) 15) (v := .ref (z + 28)) X.1 X.2.1 X.2.2.2.2.1 cn_l_Parish.2.1 X.2.2.2.1 X.2.2.2.2.2 hS.1 17 (cn_at (k := 17) rfl) cn_l_Parish.1 1 (by decide) (va_Nw.use rfl hE.2.2) (fun _ h => h) rfl (by decide +kernel) ?_
  refine cn_n2 (k := 2) (ix := 44) (as := [z + 35, z + 28]) (fs := (cn_F_OG5 z)) (ds := (cn_D_OG5 C z)) X cn_l_OG hm hw hl.1 hS (by rw [cn_D_OG5_len]; omega) cn_Grammar rfl ⟨by decide, by decide, show (parseMethodDescriptor cn_y_Grammar.desc).map (fun d => d.parameters.length) = some 2 by decide +kernel⟩ (by decide) (by decide) ⟨by decide, by rw [cn_F_OG5_len]; decide⟩ (og_mc2 151 rfl rfl) rfl (fun _ => rfl) (fun _ => rfl) (by decide +kernel) (by decide +kernel) (fun H1 locs1 hS => ?_)
  rw [cn_D_OG5_len] at hS
  have hS : cn_St D z (.inr (0, (cn_F_OG6 z)) :: (cn_D_OG6 C z)) s.heap _ _ := hS
  have hw : cn_wds "OpenGraves" 48 50 1 cn_y_Reckoner cn_c_Reckoner 1 := ⟨(og_mc2 46 rfl rfl), (og_mc2 47 rfl rfl), (og_mc1 12 rfl rfl), (og_mc2 50 rfl rfl), (og_mc2 48 rfl rfl), (og_mc2 49 rfl rfl)⟩
  refine cn_n1 (pc := 74) (f2 := cn_0_Reckoner) X cn_l_Reckoner (lv_at hl 0 rfl) hw (fun j hj => by have : j = 0 := (by omega); rcases this with  rfl  <;> rfl) hS (by rw [cn_D_OG6_len]; omega) (by decide) (by decide) (by decide +kernel) (by decide +kernel) (by decide +kernel) (fun H1 hS => ?_)
  refine cn_n2 (k := 3) (ix := 51) (as := []) (fs := (cn_F_OG6 z)) (ds := (cn_D_OG6 C z)) X cn_l_OG hm hw hl.1 hS (by rw [cn_D_OG6_len]; omega) cn_Reckoner rfl (by decide +kernel) (by decide) (by decide) ⟨by decide, by rw [cn_F_OG6_len]; decide⟩ (og_mc2 152 rfl rfl) rfl (fun _ => rfl) (fun _ => rfl) (by decide +kernel) (by decide +kernel) (fun H1 locs1 hS => ?_)
  rw [cn_D_OG6_len] at hS
  have hS : cn_St D z (.inr (0, (cn_F_OG7 z)) :: (cn_D_OG7 C z)) s.heap _ _ := hS
  have hw : cn_wds "OpenGraves" 55 57 2 cn_y_Almanac cn_c_Almanac 2 := ⟨(og_mc2 56 rfl rfl), (og_mc2 57 rfl rfl), (og_mc1 13 rfl rfl), (og_mc2 60 rfl rfl), (og_mc2 58 rfl rfl), (og_mc2 59 rfl rfl)⟩
  refine cn_n1 (pc := 85) (f2 := cn_0_Almanac) X cn_l_Almanac (lv_at hl 0 rfl) hw (fun j hj => by have : j = 0 ∨ j = 1 := (by omega); rcases this with  rfl | rfl  <;> rfl) hS (by rw [cn_D_OG7_len]; omega) (by decide) (by decide) (by decide +kernel) (by decide +kernel) (by decide +kernel) (fun H1 hS => ?_)
  refine lv_aload_n X.1 X.2.1 (pc := 90) (k := 0) (by decide +kernel) rfl (lv_at hl 0 rfl) ?_
  refine cn_gf (q0 := 0) (k := 3) (ix := 51) (fs := (cn_F_OG7 z)) (w := .ref (z + 38)) X cn_l_OG hS rfl (by decide) (og_mc2 152 rfl rfl) rfl rfl (by decide +kernel) ?_
  refine cn_n2 (k := 4) (ix := 60) (as := [z + 38]) (fs := (cn_F_OG7 z)) (ds := (cn_D_OG7 C z)) X cn_l_OG hm hw hl.1 hS (by rw [cn_D_OG7_len]; omega) cn_Almanac rfl ⟨by decide, by decide, show (parseMethodDescriptor cn_y_Almanac.desc).map (fun d => d.parameters.length) = some 1 by decide +kernel⟩ (by decide) (by decide) ⟨by decide, by rw [cn_F_OG7_len]; decide⟩ (og_mc2 153 rfl rfl) rfl (fun _ => rfl) (fun _ => rfl) (by decide +kernel) (by decide +kernel) (fun H1 locs1 hS => ?_)
  rw [cn_D_OG7_len] at hS
  have hS : cn_St D z (.inr (0, (cn_F_OG8 z)) :: (cn_D_OG8 C z)) s.heap _ _ := hS
  have hw : cn_wds "OpenGraves" 64 66 9 cn_y_Outlook cn_c_Outlook 3 := ⟨(og_mc2 69 rfl rfl), (og_mc2 70 rfl rfl), (og_mc1 14 rfl rfl), (og_mc2 73 rfl rfl), (og_mc2 71 rfl rfl), (og_mc2 72 rfl rfl)⟩
  refine cn_n1 (pc := 100) (f2 := cn_0_Outlook) X cn_l_Outlook (lv_at hl 0 rfl) hw (fun j hj => by have : j = 0 ∨ j = 1 ∨ j = 2 ∨ j = 3 ∨ j = 4 ∨ j = 5 ∨ j = 6 ∨ j = 7 ∨ j = 8 := (by omega); rcases this with  rfl | rfl | rfl | rfl | rfl | rfl | rfl | rfl | rfl  <;> rfl) hS (by rw [cn_D_OG8_len]; omega) (by decide) (by decide) (by decide +kernel) (by decide +kernel) (by decide +kernel) (fun H1 hS => ?_)
  refine lv_aload_n X.1 X.2.1 (pc := 105) (k := 0) (by decide +kernel) rfl (lv_at hl 0 rfl) ?_
  refine cn_gf (q0 := 0) (k := 4) (ix := 60) (fs := (cn_F_OG8 z)) (w := .ref (z + 40)) X cn_l_OG hS rfl (by decide) (og_mc2 153 rfl rfl) rfl rfl (by decide +kernel) ?_
  refine lv_aload_n X.1 X.2.1 (pc := 109) (k := 0) (by decide +kernel) rfl (lv_at hl 0 rfl) ?_
  refine cn_gf (q0 := 0) (k := 3) (ix := 51) (fs := (cn_F_OG8 z)) (w := .ref (z + 38)) X cn_l_OG hS rfl (by decide) (og_mc2 152 rfl rfl) rfl rfl (by decide +kernel) ?_
  refine cn_n2 (k := 5) (ix := 69) (as := [z + 40, z + 38]) (fs := (cn_F_OG8 z)) (ds := (cn_D_OG8 C z)) X cn_l_OG hm hw hl.1 hS (by rw [cn_D_OG8_len]; omega) cn_Outlook rfl ⟨by decide, by decide, show (parseMethodDescriptor cn_y_Outlook.desc).map (fun d => d.parameters.length) = some 2 by decide +kernel⟩ (by decide) (by decide) ⟨by decide, by rw [cn_F_OG8_len]; decide⟩ (og_mc2 154 rfl rfl) rfl (fun _ => rfl) (fun _ => rfl) (by decide +kernel) (by decide +kernel) (fun H1 locs1 hS => ?_)
  rw [cn_D_OG8_len] at hS
  have hS : cn_St D z (.inr (0, (cn_F_OG9 z)) :: (cn_D_OG9 C z)) s.heap _ _ := hS
  have hw : cn_wds "OpenGraves" 73 75 3 cn_y_Rows cn_c_Rows 1 := ⟨(og_mc2 109 rfl rfl), (og_mc2 110 rfl rfl), (og_mc1 15 rfl rfl), (og_mc2 113 rfl rfl), (og_mc2 111 rfl rfl), (og_mc2 112 rfl rfl)⟩
  refine cn_n1 (pc := 119) (f2 := cn_0_Rows) X cn_l_Rows (lv_at hl 0 rfl) hw (fun j hj => by have : j = 0 ∨ j = 1 ∨ j = 2 := (by omega); rcases this with  rfl | rfl | rfl  <;> rfl) hS (by rw [cn_D_OG9_len]; omega) (by decide) (by decide) (by decide +kernel) (by decide +kernel) (by decide +kernel) (fun H1 hS => ?_)
  refine cn_n2 (k := 6) (ix := 76) (as := []) (fs := (cn_F_OG9 z)) (ds := (cn_D_OG9 C z)) X cn_l_OG hm hw hl.1 hS (by rw [cn_D_OG9_len]; omega) cn_Rows rfl (by decide +kernel) (by decide) (by decide) ⟨by decide, by rw [cn_F_OG9_len]; decide⟩ (og_mc2 155 rfl rfl) rfl (fun _ => rfl) (fun _ => rfl) (by decide +kernel) (by decide +kernel) (fun H1 locs1 hS => ?_)
  rw [cn_D_OG9_len] at hS
  have hS : cn_St D z (.inr (0, (cn_F_OG10 z)) :: (cn_D_OG10 C z)) s.heap _ _ := hS
  have hw : cn_wds "OpenGraves" 80 82 3 cn_y_Past cn_c_Past 2 := ⟨(og_mc2 127 rfl rfl), (og_mc2 128 rfl rfl), (og_mc1 16 rfl rfl), (og_mc2 131 rfl rfl), (og_mc2 129 rfl rfl), (og_mc2 130 rfl rfl)⟩
  refine cn_n1 (pc := 130) (f2 := cn_0_Past) X cn_l_Past (lv_at hl 0 rfl) hw (fun j hj => by have : j = 0 ∨ j = 1 ∨ j = 2 := (by omega); rcases this with  rfl | rfl | rfl  <;> rfl) hS (by rw [cn_D_OG10_len]; omega) (by decide) (by decide) (by decide +kernel) (by decide +kernel) (by decide +kernel) (fun H1 hS => ?_)
  refine cn_n2E cn_bAO (fun U hU hW => va_AO.moved hW.alike hE.1) (k := 7) (ix := 83) (as := []) (fs := (cn_F_OG10 z)) (ds := (cn_D_OG10 C z)) X cn_l_OG hm hw hl.1 hS (by rw [cn_D_OG10_len]; omega) cn_Past rfl (by decide +kernel) (by decide) (by decide) ⟨by decide, by rw [cn_F_OG10_len]; decide⟩ (og_mc2 156 rfl rfl) rfl (fun _ => rfl) (fun _ => rfl) (by decide +kernel) (by decide +kernel) (fun H1 locs1 hS => ?_)
  rw [cn_D_OG10_len] at hS
  have hS : cn_St D z (.inr (0, (cn_F_OG11 z)) :: (cn_D_OG11 C z)) s.heap _ _ := hS
  have hw : cn_wds "OpenGraves" 87 89 13 cn_y_Yard cn_c_Yard 1 := ⟨(og_mc2 147 rfl rfl), (og_mc1 36 rfl rfl), (og_mc1 3 rfl rfl), (og_mc1 39 rfl rfl), (og_mc2 148 rfl rfl), (og_mc1 38 rfl rfl)⟩
  refine cn_n1 (pc := 141) (f2 := cn_0_Yard) X cn_l_Yard (lv_at hl 0 rfl) hw (fun j hj => by have : j = 0 ∨ j = 1 ∨ j = 2 ∨ j = 3 ∨ j = 4 ∨ j = 5 ∨ j = 6 ∨ j = 7 ∨ j = 8 ∨ j = 9 ∨ j = 10 ∨ j = 11 ∨ j = 12 := (by omega); rcases this with  rfl | rfl | rfl | rfl | rfl | rfl | rfl | rfl | rfl | rfl | rfl | rfl | rfl  <;> rfl) hS (by rw [cn_D_OG11_len]; omega) (by decide) (by decide) (by decide +kernel) (by decide +kernel) (by decide +kernel) (fun H1 hS => ?_)
  refine cn_n2 (k := 8) (ix := 90) (as := []) (fs := (cn_F_OG11 z)) (ds := (cn_D_OG11 C z)) X cn_l_OG hm hw hl.1 hS (by rw [cn_D_OG11_len]; omega) cn_Yard rfl (by decide +kernel) (by decide) (by decide) ⟨by decide, by rw [cn_F_OG11_len]; decide⟩ (og_mc2 157 rfl rfl) rfl (fun _ => rfl) (fun _ => rfl) (by decide +kernel) (by decide +kernel) (fun H1 locs1 hS => ?_)
  rw [cn_D_OG11_len] at hS
  have hS : cn_St D z (.inr (0, (cn_F_OG12 z)) :: (cn_D_OG12 C z)) s.heap _ _ := hS
  refine cn_bs X cn_l_OG hm (lv_at hl 0 rfl) cn_B_OG 152 (cn_F_OG12 z) (cn_D_OG12 C z) _ _ 273 9568 (by decide +kernel) (List.forall_mem_cons.mpr ⟨(og_mc2 158 rfl rfl), List.forall_mem_cons.mpr ⟨(og_mc2 159 rfl rfl), fun _ h => absurd h List.not_mem_nil⟩⟩) (List.forall_mem_cons.mpr ⟨⟨by decide, rfl, fun _ => rfl, fun _ => rfl⟩, List.forall_mem_cons.mpr ⟨⟨by decide, rfl, fun _ => rfl, fun _ => rfl⟩, fun _ h => absurd h List.not_mem_nil⟩⟩) cn_F_OG12_len (by rw [cn_D_OG12_len]; omega) (by decide +kernel) (by decide +kernel) hS (fun H1 locs1 hS => ?_)
  refine W.widen (k := 275) (n := 9619) (by decide +kernel) (by decide +kernel) ?_
  refine W.eq (g2 := F0 m 168 ls []) (by rw [show cn_ends cn_B_OG 152 = 168 by decide +kernel]) ?_
  rw [cn_D_OG12_len] at hS
  have hS : cn_St D z (.inr (0, (cn_F_OG13 z)) :: (cn_D_OG13 C z)) s.heap _ _ := hS
  refine lv_aload_n X.1 X.2.1 (pc := 168) (k := 0) (by decide +kernel) rfl (lv_at hl 0 rfl) ?_
  refine cn_push (v := 1) X (by decide +kernel) ?_
  refine cn_put (q0 := 0) (k := 12) (index := 101) (fs := (cn_F_OG13 z)) X cn_l_OG hm hS rfl ⟨by decide, by rw [cn_F_OG13_len]; decide⟩ (og_mc2 161 rfl rfl) rfl rfl rfl (by decide +kernel) (fun H1 locs1 hS => ?_)
  have hS : cn_St D z (.inr (0, (cn_F_OG14 z)) :: (cn_D_OG14 C z)) s.heap _ _ := hS
  refine lv_aload_n X.1 X.2.1 (pc := 173) (k := 0) (by decide +kernel) rfl (lv_at hl 0 rfl) ?_
  refine cn_push (v := -1) X (by decide +kernel) ?_
  refine cn_put (q0 := 0) (k := 14) (index := 105) (fs := (cn_F_OG14 z)) X cn_l_OG hm hS rfl ⟨by decide, by rw [cn_F_OG14_len]; decide⟩ (og_mc2 163 rfl rfl) rfl rfl rfl (by decide +kernel) (fun H1 locs1 hS => ?_)
  exact cn_ret X hr hlk hS (by decide +kernel)
end
