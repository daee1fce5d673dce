section
-- what makes an object that has objects in it
def cn_wds (own : String) (in1 in2 N : Nat) (y : MethodName) (cy : ByteArray) (ny : Nat) : Prop := Cond.classLink own in1 y.cls ∈ og_tbl ∧ Cond.instantiable y.cls N ∈ og_tbl ∧ Cond.initialized y.cls ∈ og_tbl ∧ Cond.code y cy ny none ∈ og_tbl ∧ Cond.methodLink own in2 y ∈ og_tbl ∧ Cond.instanceMethod y ∈ og_tbl
section
variable {p : Program} {l : Launch} {e : Env} {R : Room} {s : State} {m : MethodId} {args : Array Value} {below : List Frame} {meth : Method} {c : Code} {H : Heap} {locs : List Loc} {cells slots : Nat} {Q : State → Prop}
variable {own : String} {cc : ByteArray} {nL pc : Nat} {ls : Array Slot} {D : va_G} {C : Nat → ClassId} {H0 : Heap} {b : Nat} {ds : List va_E} {T T2 : u_T} {N N2 ci ci2 in1 in2 ix k : Nat} {ty ty2 : Nat → FieldType} {fs f2 : List Value} {y : MethodName} {cy : ByteArray} {ny dy mc ms : Nat} {as : List Nat} {Y : List va_E}
theorem cn_n1 (X : cn_Cx own cc nL p s m args c D C) (hC2 : cn_Cl y.cls T2 N2 ci2 ty2) (hl0 : ls[0]? = some (.val (.ref b))) (hw : cn_wds own in1 in2 N2 y cy ny) (hf2 : ∀ j, j < N2 → defaultValue (ty2 j) = vp_V f2 j) (hS : cn_St D b (.inr (ci, fs) :: ds) H0 H locs) (hcs : s.heap.size + cells = b + (ds.length + 1)) (hc : cells + 1 ≤ R.cells) (hs : slots + N2 ≤ R.slots) (d0 : decode cc pc = .ok (.aload_n 0, 1)) (d1 : decode cc (pc + 1) = .ok (.new in1, 3)) (d2 : decode cc (pc + 1 + 3) = .ok (.dup, 1))
    (kk : ∀ H1, cn_St D b ((.inr (ci, fs) :: ds) ++ [.inr (ci2, f2)]) H0 H1 locs → W p l e R s m args below meth c H1 locs (cells + 1) (slots + N2) Q (F0 m (pc + 1 + 3 + 1) ls [.ref (b + (ds.length + 1)), .ref (b + (ds.length + 1)), .ref b])) : W p l e R s m args below meth c H locs cells slots Q (F0 m pc ls []) := by
  refine lv_aload_n X.1 X.2.1 d0 rfl hl0 ?_
  refine cn_new (fs := f2) X hC2 hS (Or.inl (by simp)) (by simpa using hcs) hw.1 hw.2.1 hw.2.2.1 hf2 hc hs d1 (fun H1 hS1 => ?_)
  exact lv_dup X.1 X.2.1 d2 rfl (kk H1 hS1)
theorem cn_n2 (X : cn_Cx own cc nL p s m args c D C) (hC : cn_Cl own T N ci ty) (hm : meth.name = "<init>") (hw : cn_wds own in1 in2 N2 y cy ny) (hsz : ls.size = nL) (hS : cn_St D b ((.inr (ci, fs) :: ds) ++ [.inr (ci2, f2)]) H0 H locs) (hcs : s.heap.size + cells = b + (ds.length + 2)) (hM : cn_MOK y cy ny dy mc ms l D C (b + (ds.length + 1)) as (.inr (ci2, f2)) Y) (hy : y.name = "<init>")
    (hd : y.cls ≠ "java/lang/invoke/MethodHandle" ∧ y.cls ≠ "java/lang/invoke/VarHandle" ∧ (parseMethodDescriptor y.desc).map (fun d => d.parameters.length) = some as.length) (hR : dy + 1 ≤ R.frames ∧ 8 + (ny + 11) + 60 * dy ≤ R.locals) (hf : cells + mc ≤ R.cells ∧ slots + ms ≤ R.slots) (hk : k < N ∧ k < fs.length) (hlink : Cond.fieldLink own ix own (T k).2.1 (T k).2.2.1 ∈ og_tbl) (hT : (T k).1 = own) (hn : ∀ r, narrow (ty k) (.ref r) = .ref r) (hfit : ∀ r, fits (ty k) (.ref r) = true) (d3 : decode cc pc = .ok (.invokespecial in2, 3)) (d4 : decode cc (pc + 3) = .ok (.putfield ix, 3))
    (kk : ∀ H1 locs1, cn_St D b (.inr (ci, fs.set k (.ref (b + (ds.length + 1)))) :: (ds ++ Y)) H0 H1 locs1 → W p l e R s m args below meth c H1 locs1 (cells + mc) (slots + ms) Q (F0 m (pc + 3 + 3) ls [])) : W p l e R s m args below meth c H locs cells slots Q (F0 m pc ls ((as.map Value.ref).reverse ++ [.ref (b + (ds.length + 1)), .ref (b + (ds.length + 1)), .ref b])) := by
  refine cn_call (cs := .inr (ci, fs) :: ds) (rest := [.ref (b + (ds.length + 1)), .ref b]) X hS (by simp only [List.length_cons]; omega) hM hw.2.2.2.1 hw.2.2.1 hw.2.2.2.2.1 hw.2.2.2.2.2 hy hd hR hf hsz (by show 1 + (1 + 0) ≤ 8; decide) d3 (fun H1 locs1 hS1 => ?_)
  exact cn_put (q0 := 0) (k := k) (fs := fs) X hC hm hS1 rfl hk hlink hT (hn _) (hfit _) d4 (fun H2 locs2 hS2 => kk H2 locs2 hS2)
end
abbrev cn_y_Parish : MethodName := ⟨"OpenGraves$Parish", "<init>", "()V"⟩
abbrev cn_c_Parish : ByteArray := prog_5_method_1_code
theorem cn_l_Parish : cn_Cl og_R_Parish og_T_Parish 3 9 og_ty_Parish := ⟨rfl, og_in_Parish, og_tyok_Parish, og_nm_Parish⟩
def cn_0_Parish : List Value := [.null, .null, .null]
def cn_F_Parish1 (z : Nat) : List Value := cn_0_Parish
def cn_D_Parish1 (C : Nat → ClassId) (z : Nat) : List va_E := []
theorem cn_F_Parish1_len {z : Nat} : (cn_F_Parish1 z).length = 3 := by simp only [cn_F_Parish1, List.length_set, cn_fs_len] <;> rfl
theorem cn_D_Parish1_len {C : Nat → ClassId} {z : Nat} : (cn_D_Parish1 C z).length = 0 := by simp only [cn_D_Parish1, List.length_append, cn_ds_len, List.length_nil] <;> rfl
def cn_F_Parish2 (z : Nat) : List Value := (cn_F_Parish1 z).set 0 (.ref (z + 1))
def cn_D_Parish2 (C : Nat → ClassId) (z : Nat) : List va_E := (cn_D_Parish1 C z) ++ cn_X_Yard C (z + 1)
theorem cn_F_Parish2_len {z : Nat} : (cn_F_Parish2 z).length = 3 := by simp only [cn_F_Parish2, List.length_set, cn_fs_len, cn_F_Parish1_len] <;> rfl
theorem cn_D_Parish2_len {C : Nat → ClassId} {z : Nat} : (cn_D_Parish2 C z).length = 10 := by simp only [cn_D_Parish2, List.length_append, cn_ds_len, List.length_nil, cn_D_Parish1_len] <;> rfl
def cn_F_Parish3 (z : Nat) : List Value := (cn_F_Parish2 z).set 1 (.ref (z + 11))
def cn_D_Parish3 (C : Nat → ClassId) (z : Nat) : List va_E := (cn_D_Parish2 C z) ++ cn_X_Script C (z + 11)
theorem cn_F_Parish3_len {z : Nat} : (cn_F_Parish3 z).length = 3 := by simp only [cn_F_Parish3, List.length_set, cn_fs_len, cn_F_Parish1_len, cn_F_Parish2_len] <;> rfl
theorem cn_D_Parish3_len {C : Nat → ClassId} {z : Nat} : (cn_D_Parish3 C z).length = 14 := by simp only [cn_D_Parish3, List.length_append, cn_ds_len, List.length_nil, cn_D_Parish1_len, cn_D_Parish2_len] <;> rfl
def cn_B_Parish3 : List (Nat × cn_B) := [(26, 0, 14, [], 25, 2)]
def cn_X_Parish (C : Nat → ClassId) (z : Nat) : List va_E := .inr (9, cn_fs z cn_B_Parish3 (cn_F_Parish3 z) 15) :: ((cn_D_Parish3 C z) ++ cn_ds C cn_B_Parish3)
set_option maxRecDepth 100000 in
set_option maxHeartbeats 400000 in
theorem cn_Parish {l : Launch} {D : va_G} {C : Nat → ClassId} {z : Nat} : cn_MOK cn_y_Parish cn_c_Parish 1 2 15 1767 l D C z [] (.inr (9, cn_0_Parish)) (cn_X_Parish C z) := by
  refine cn_enter (y := cn_y_Parish) (cc := cn_c_Parish) (idx := 3) (by decide) (Nat.le_of_ble_eq_true rfl) rfl (og_mc1 34 rfl rfl) (by decide +kernel) (by decide +kernel) (by decide) (fun p e s m args below meth c ls X hm hr hlk hz hl hS => ?_)
  have hS : cn_St D z (.inr (9, (cn_F_Parish1 z)) :: (cn_D_Parish1 C z)) s.heap _ _ := hS
  have hw : cn_wds "OpenGraves$Parish" 9 11 13 cn_y_Yard cn_c_Yard 1 := ⟨(og_mc1 35 rfl rfl), (og_mc1 36 rfl rfl), (og_mc1 3 rfl rfl), (og_mc1 39 rfl rfl), (og_mc1 37 rfl rfl), (og_mc1 38 rfl rfl)⟩
  refine cn_n1 (pc := 4) (f2 := cn_0_Yard) X cn_l_Yard (lv_at hl 0 rfl) hw (fun j hj => by have : j = 0 ∨ j = 1 ∨ j = 2 ∨ j = 3 ∨ j = 4 ∨ j = 5 ∨ j = 6 ∨ j = 7 ∨ j = 8 ∨ j = 9 ∨ j = 10 ∨ j = 11 ∨ j = 12 := (by omega); rcases this with  rfl | rfl | rfl | rfl | rfl | rfl | rfl | rfl | rfl | rfl | rfl | rfl | rfl  <;> rfl) hS (by rw [cn_D_Parish1_len]; omega) (by decide) (by decide) (by decide +kernel) (by decide +kernel) (by decide +kernel) (fun H1 hS => ?_)
  refine cn_n2 (k := 0) (ix := 12) (as := []) (fs := (cn_F_Parish1 z)) (ds := (cn_D_Parish1 C z)) X cn_l_Parish hm hw hl.1 hS (by rw [cn_D_Parish1_len]; omega) cn_Yard rfl (by decide +kernel) (by decide) (by decide) ⟨by decide, by rw [cn_F_Parish1_len]; decide⟩ (og_mc1 147 rfl rfl) rfl (fun _ => rfl) (fun _ => rfl) (by decide +kernel) (by decide +kernel) (fun H1 locs1 hS => ?_)
  rw [cn_D_Parish1_len] at hS
  have hS : cn_St D z (.inr (9, (cn_F_Parish2 z)) :: (cn_D_Parish2 C z)) s.heap _ _ := hS
  have hw : cn_wds "OpenGraves$Parish" 18 20 4 cn_y_Script cn_c_Script 1 := ⟨(og_mc1 125 rfl rfl), (og_mc1 126 rfl rfl), (og_mc1 4 rfl rfl), (og_mc1 129 rfl rfl), (og_mc1 127 rfl rfl), (og_mc1 128 rfl rfl)⟩
  refine cn_n1 (pc := 15) (f2 := cn_0_Script) X cn_l_Script (lv_at hl 0 rfl) hw (fun j hj => by have : j = 0 ∨ j = 1 ∨ j = 2 ∨ j = 3 := (by omega); rcases this with  rfl | rfl | rfl | rfl  <;> rfl) hS (by rw [cn_D_Parish2_len]; omega) (by decide) (by decide) (by decide +kernel) (by decide +kernel) (by decide +kernel) (fun H1 hS => ?_)
  refine cn_n2 (k := 1) (ix := 21) (as := []) (fs := (cn_F_Parish2 z)) (ds := (cn_D_Parish2 C z)) X cn_l_Parish hm hw hl.1 hS (by rw [cn_D_Parish2_len]; omega) cn_Script rfl (by decide +kernel) (by decide) (by decide) ⟨by decide, by rw [cn_F_Parish2_len]; decide⟩ (og_mc1 149 rfl rfl) rfl (fun _ => rfl) (fun _ => rfl) (by decide +kernel) (by decide +kernel) (fun H1 locs1 hS => ?_)
  rw [cn_D_Parish2_len] at hS
  have hS : cn_St D z (.inr (9, (cn_F_Parish3 z)) :: (cn_D_Parish3 C z)) s.heap _ _ := hS
  refine cn_bs X cn_l_Parish hm (lv_at hl 0 rfl) cn_B_Parish3 26 (cn_F_Parish3 z) (cn_D_Parish3 C z) _ _ 14 1753 (by decide +kernel) (List.forall_mem_cons.mpr ⟨(og_mc1 151 rfl rfl), fun _ h => absurd h List.not_mem_nil⟩) (List.forall_mem_cons.mpr ⟨⟨by decide, rfl, fun _ => rfl, fun _ => rfl⟩, fun _ h => absurd h List.not_mem_nil⟩) cn_F_Parish3_len (by rw [cn_D_Parish3_len]; omega) (by decide +kernel) (by decide +kernel) hS (fun H1 locs1 hS => ?_)
  refine W.widen (k := 15) (n := 1767) (by decide +kernel) (by decide +kernel) ?_
  refine W.eq (g2 := F0 m 34 ls []) (by rw [show cn_ends cn_B_Parish3 26 = 34 by decide +kernel]) ?_
  rw [cn_D_Parish3_len] at hS
  exact cn_ret X hr hlk hS (by decide +kernel)
abbrev cn_y_Outlook : MethodName := ⟨"OpenGraves$Outlook", "<init>", "(LOpenGraves$Almanac;LOpenGraves$Reckoner;)V"⟩
abbrev cn_c_Outlook : ByteArray := prog_4_method_1_code
theorem cn_l_Outlook : cn_Cl og_R_Outlook og_T_Outlook 9 6 og_ty_Outlook := ⟨rfl, og_in_Outlook, og_tyok_Outlook, og_nm_Outlook⟩
def cn_0_Outlook : List Value := [.null, .null, .null, .null, .int 0, .null, .null, .null, .null]
def cn_F_Outlook1 (z : Nat) (a1 : Nat) (a2 : Nat) : List Value := cn_0_Outlook
def cn_D_Outlook1 (C : Nat → ClassId) (z : Nat) (a1 : Nat) (a2 : Nat) : List va_E := []
theorem cn_F_Outlook1_len {z : Nat} {a1 : Nat} {a2 : Nat} : (cn_F_Outlook1 z a1 a2).length = 9 := by simp only [cn_F_Outlook1, List.length_set, cn_fs_len] <;> rfl
theorem cn_D_Outlook1_len {C : Nat → ClassId} {z : Nat} {a1 : Nat} {a2 : Nat} : (cn_D_Outlook1 C z a1 a2).length = 0 := by simp only [cn_D_Outlook1, List.length_append, cn_ds_len, List.length_nil] <;> rfl
def cn_F_Outlook2 (z : Nat) (a1 : Nat) (a2 : Nat) : List Value := (cn_F_Outlook1 z a1 a2).set 0 (.ref a1)
def cn_D_Outlook2 (C : Nat → ClassId) (z : Nat) (a1 : Nat) (a2 : Nat) : List va_E := (cn_D_Outlook1 C z a1 a2)
theorem cn_F_Outlook2_len {z : Nat} {a1 : Nat} {a2 : Nat} : (cn_F_Outlook2 z a1 a2).length = 9 := by simp only [cn_F_Outlook2, List.length_set, cn_fs_len, cn_F_Outlook1_len] <;> rfl
theorem cn_D_Outlook2_len {C : Nat → ClassId} {z : Nat} {a1 : Nat} {a2 : Nat} : (cn_D_Outlook2 C z a1 a2).length = 0 := by simp only [cn_D_Outlook2, List.length_append, cn_ds_len, List.length_nil, cn_D_Outlook1_len] <;> rfl
def cn_F_Outlook3 (z : Nat) (a1 : Nat) (a2 : Nat) : List Value := (cn_F_Outlook2 z a1 a2).set 1 (.ref a2)
def cn_D_Outlook3 (C : Nat → ClassId) (z : Nat) (a1 : Nat) (a2 : Nat) : List va_E := (cn_D_Outlook2 C z a1 a2)
theorem cn_F_Outlook3_len {z : Nat} {a1 : Nat} {a2 : Nat} : (cn_F_Outlook3 z a1 a2).length = 9 := by simp only [cn_F_Outlook3, List.length_set, cn_fs_len, cn_F_Outlook1_len, cn_F_Outlook2_len] <;> rfl
theorem cn_D_Outlook3_len {C : Nat → ClassId} {z : Nat} {a1 : Nat} {a2 : Nat} : (cn_D_Outlook3 C z a1 a2).length = 0 := by simp only [cn_D_Outlook3, List.length_append, cn_ds_len, List.length_nil, cn_D_Outlook1_len, cn_D_Outlook2_len] <;> rfl
def cn_F_Outlook4 (z : Nat) (a1 : Nat) (a2 : Nat) : List Value := (cn_F_Outlook3 z a1 a2).set 2 (.ref (z + 1))
def cn_D_Outlook4 (C : Nat → ClassId) (z : Nat) (a1 : Nat) (a2 : Nat) : List va_E := (cn_D_Outlook3 C z a1 a2) ++ cn_X_Yard C (z + 1)
theorem cn_F_Outlook4_len {z : Nat} {a1 : Nat} {a2 : Nat} : (cn_F_Outlook4 z a1 a2).length = 9 := by simp only [cn_F_Outlook4, List.length_set, cn_fs_len, cn_F_Outlook1_len, cn_F_Outlook2_len, cn_F_Outlook3_len] <;> rfl
theorem cn_D_Outlook4_len {C : Nat → ClassId} {z : Nat} {a1 : Nat} {a2 : Nat} : (cn_D_Outlook4 C z a1 a2).length = 10 := by simp only [cn_D_Outlook4, List.length_append, cn_ds_len, List.length_nil, cn_D_Outlook1_len, cn_D_Outlook2_len, cn_D_Outlook3_len] <;> rfl
def cn_B_Outlook4 : List (Nat × cn_B) := [(25, 0, 48, [], 26, 3), (33, 0, 4, [], 30, 5), (40, 0, 4, [], 33, 6), (47, 0, 8, [], 36, 7), (55, 0, 180, [], 39, 8)]
def cn_X_Outlook (C : Nat → ClassId) (z : Nat) (a1 : Nat) (a2 : Nat) : List va_E := .inr (6, cn_fs z cn_B_Outlook4 (cn_F_Outlook4 z a1 a2) 11) :: ((cn_D_Outlook4 C z a1 a2) ++ cn_ds C cn_B_Outlook4)
set_option maxRecDepth 100000 in
set_option maxHeartbeats 400000 in
theorem cn_Outlook {l : Launch} {D : va_G} {C : Nat → ClassId} {z : Nat} {a1 : Nat} {a2 : Nat} : cn_MOK cn_y_Outlook cn_c_Outlook 3 2 15 345 l D C z [a1, a2] (.inr (6, cn_0_Outlook)) (cn_X_Outlook C z a1 a2) := by
  refine cn_enter (y := cn_y_Outlook) (cc := cn_c_Outlook) (idx := 3) (by decide) (Nat.le_of_ble_eq_true rfl) rfl (og_mc2 74 rfl rfl) (by decide +kernel) (by decide +kernel) (by decide) (fun p e s m args below meth c ls X hm hr hlk hz hl hS => ?_)
  have hS : cn_St D z (.inr (6, (cn_F_Outlook1 z a1 a2)) :: (cn_D_Outlook1 C z a1 a2)) s.heap _ _ := hS
  refine lv_aload_n X.1 X.2.1 (pc := 4) (k := 0) (by decide +kernel) rfl (lv_at hl 0 rfl) ?_
  refine lv_aload_n X.1 X.2.1 (k := 1) (by decide +kernel) rfl (lv_at hl 1 rfl) ?_
  refine cn_put (q0 := 0) (k := 0) (index := 9) (fs := (cn_F_Outlook1 z a1 a2)) X cn_l_Outlook hm hS rfl ⟨by decide, by rw [cn_F_Outlook1_len]; decide⟩ (og_mc2 77 rfl rfl) rfl rfl rfl (by decide +kernel) (fun H1 locs1 hS => ?_)
  have hS : cn_St D z (.inr (6, (cn_F_Outlook2 z a1 a2)) :: (cn_D_Outlook2 C z a1 a2)) s.heap _ _ := hS
  refine lv_aload_n X.1 X.2.1 (pc := 9) (k := 0) (by decide +kernel) rfl (lv_at hl 0 rfl) ?_
  refine lv_aload_n X.1 X.2.1 (k := 2) (by decide +kernel) rfl (lv_at hl 2 rfl) ?_
  refine cn_put (q0 := 0) (k := 1) (index := 15) (fs := (cn_F_Outlook2 z a1 a2)) X cn_l_Outlook hm hS rfl ⟨by decide, by rw [cn_F_Outlook2_len]; decide⟩ (og_mc2 78 rfl rfl) rfl rfl rfl (by decide +kernel) (fun H1 locs1 hS => ?_)
  have hS : cn_St D z (.inr (6, (cn_F_Outlook3 z a1 a2)) :: (cn_D_Outlook3 C z a1 a2)) s.heap _ _ := hS
  have hw : cn_wds "OpenGraves$Outlook" 19 21 13 cn_y_Yard cn_c_Yard 1 := ⟨(og_mc2 75 rfl rfl), (og_mc1 36 rfl rfl), (og_mc1 3 rfl rfl), (og_mc1 39 rfl rfl), (og_mc2 76 rfl rfl), (og_mc1 38 rfl rfl)⟩
  refine cn_n1 (pc := 14) (f2 := cn_0_Yard) X cn_l_Yard (lv_at hl 0 rfl) hw (fun j hj => by have : j = 0 ∨ j = 1 ∨ j = 2 ∨ j = 3 ∨ j = 4 ∨ j = 5 ∨ j = 6 ∨ j = 7 ∨ j = 8 ∨ j = 9 ∨ j = 10 ∨ j = 11 ∨ j = 12 := (by omega); rcases this with  rfl | rfl | rfl | rfl | rfl | rfl | rfl | rfl | rfl | rfl | rfl | rfl | rfl  <;> rfl) hS (by rw [cn_D_Outlook3_len]; omega) (by decide) (by decide) (by decide +kernel) (by decide +kernel) (by decide +kernel) (fun H1 hS => ?_)
  refine cn_n2 (k := 2) (ix := 22) (as := []) (fs := (cn_F_Outlook3 z a1 a2)) (ds := (cn_D_Outlook3 C z a1 a2)) X cn_l_Outlook hm hw hl.1 hS (by rw [cn_D_Outlook3_len]; omega) cn_Yard rfl (by decide +kernel) (by decide) (by decide) ⟨by decide, by rw [cn_F_Outlook3_len]; decide⟩ (og_mc2 79 rfl rfl) rfl (fun _ => rfl) (fun _ => rfl) (by decide +kernel) (by decide +kernel) (fun H1 locs1 hS => ?_)
  rw [cn_D_Outlook3_len] at hS
  have hS : cn_St D z (.inr (6, (cn_F_Outlook4 z a1 a2)) :: (cn_D_Outlook4 C z a1 a2)) s.heap _ _ := hS
  refine cn_bs X cn_l_Outlook hm (lv_at hl 0 rfl) cn_B_Outlook4 25 (cn_F_Outlook4 z a1 a2) (cn_D_Outlook4 C z a1 a2) _ _ 10 101 (by decide +kernel) (List.forall_mem_cons.mpr ⟨(og_mc2 81 rfl rfl), List.forall_mem_cons.mpr ⟨(og_mc2 85 rfl rfl), List.forall_mem_cons.mpr ⟨(og_mc2 86 rfl rfl), List.forall_mem_cons.mpr ⟨(og_mc2 88 rfl rfl), List.forall_mem_cons.mpr ⟨(og_mc2 89 rfl rfl), fun _ h => absurd h List.not_mem_nil⟩⟩⟩⟩⟩) (List.forall_mem_cons.mpr ⟨⟨by decide, rfl, fun _ => rfl, fun _ => rfl⟩, List.forall_mem_cons.mpr ⟨⟨by decide, rfl, fun _ => rfl, fun _ => rfl⟩, List.forall_mem_cons.mpr ⟨⟨by decide, rfl, fun _ => rfl, fun _ => rfl⟩, List.forall_mem_cons.mpr ⟨⟨by decide, rfl, fun _ => rfl, fun _ => rfl⟩, List.forall_mem_cons.mpr ⟨⟨by decide, rfl, fun _ => rfl, fun _ => rfl⟩, fun _ h => absurd h List.not_mem_nil⟩⟩⟩⟩⟩) cn_F_Outlook4_len (by rw [cn_D_Outlook4_len]; omega) (by decide +kernel) (by decide +kernel) hS (fun H1 locs1 hS => ?_)
  refine W.widen (k := 15) (n := 345) (by decide +kernel) (by decide +kernel) ?_
  refine W.eq (g2 := F0 m 64 ls []) (by rw [show cn_ends cn_B_Outlook4 25 = 64 by decide +kernel]) ?_
  rw [cn_D_Outlook4_len] at hS
  exact cn_ret X hr hlk hS (by decide +kernel)
end
