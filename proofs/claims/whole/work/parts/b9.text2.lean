section
-- the library's methods on the text: length, a sign
theorem sg_mv {a v : Nat} {A : Nat → Prop} {s U : State} (hU : U.heap = s.heap) (hW : s.vm.Alike U.vm) (h : sg_F a v A s) : sg_F a v A U := by
  unfold sg_F
  rw [hU]
  exact ⟨vk_S.moved hW h.1, va_Z.moved hW h.2.1, va_Zq.moved hW h.2.2⟩
theorem sg_kp {a v : Nat} {A : Nat → Prop} {s U : State} {H : Heap} {locs : List Loc} (hS : va_S A s.heap H locs) (hU : U.heap = H) (hW : s.vm.Alike U.vm) (h : sg_F a v A s) : sg_F a v A U := by
  unfold sg_F
  rw [hU]
  exact ⟨(vk_S.moved hW h.1).kept hS.2.1, (va_Z.moved hW h.2.1).kept hS.2.1, (va_Zq.moved hW h.2.2).kept hS.2.1⟩
theorem sg_bl {a v : Nat} {A : Nat → Prop} {vs : List Value} : FrameBlind (va_Pc vs (sg_F a v A)) := by
  intro a' U g mk q
  exact ⟨q.1, sg_mv (s := U) (U := U.calling g mk a') rfl (Vm.Alike.refl U.vm) q.2⟩
def sg_wV (own : String) (idx : Nat) (y : MethodName) (cy : ByteArray) (ny : Nat) (ret : Option FieldType) : Prop := Cond.methodLink own idx y ∈ og_tbl ∧ Cond.instanceMethod y ∈ og_tbl ∧ Cond.selects y.cls y y ∈ og_tbl ∧ Cond.initialized y.cls ∈ og_tbl ∧ Cond.code y cy ny ret ∈ og_tbl
theorem sg_gV {own : String} {idx : Nat} {y : MethodName} {cy : ByteArray} {ny : Nat} {ret : Option FieldType} (h : sg_wV own idx y cy ny ret) : GoodIn og_tbl (wsV own idx y.cls y (.code y cy ny ret :: og_tbl)) := by
  intro q hq
  rcases List.mem_append.mp hq with hq | hq
  · simp only [List.mem_cons, List.not_mem_nil, or_false] at hq
    rcases hq with rfl | rfl | rfl | rfl
    · exact og_tbl_good _ h.1
    · exact og_tbl_good _ h.2.1
    · exact og_tbl_good _ h.2.2.1
    · exact og_tbl_good _ h.2.2.2.1
  · rcases List.mem_cons.mp hq with rfl | hq
    · exact og_tbl_good _ h.2.2.2.2
    · exact og_tbl_good _ hq
abbrev sg_y_len : MethodName := ⟨"java/lang/String", "length", "()I"⟩
theorem sg_len {l : Launch} {a v : Nat} : sg_M sg_y_len prog_17_method_54_code 1 2 (some .int) l [.ref a] (sg_F a v (fun _ => False)) (fun r => r = 186) := by
  have hw : sg_wV "java/lang/String" 335 sg_y_coder prog_17_method_152_code 1 (some .byte) := ⟨(og_mc1 186 rfl rfl), (og_mc1 187 rfl rfl), (og_mc1 188 rfl rfl), (og_mc1 7 rfl rfl), (og_mc1 189 rfl rfl)⟩
  refine sg_enter (by decide +kernel) (Nat.le_of_ble_eq_true rfl) (fun p e s m args below meth c ls X hr hlk hl hE => ?_)
  refine lv_aload_n X.1 X.2.1 (k := 0) (by decide +kernel) rfl (lv_at hl 0 rfl) ?_
  refine vk_getf (index := 9) (ref := "java/lang/String") X.1 X.2.1 (hE.1.1 0 (by decide)).2.2.1 va_S.rf X.2.2.2.1 (X.2.2.2.2 _ (og_mc9 87 rfl rfl)) (fun _ h => h) (by decide +kernel) ?_
  refine va_tlen (v := 186) X.1 X.2.1 (hE.1.1 0 (by decide)).2.2.2 va_S.rf rfl (by decide +kernel) ?_
  refine lv_aload_n X.1 X.2.1 (k := 0) (by decide +kernel) rfl (lv_at hl 0 rfl) ?_
  refine va_calli (va_runV (As := []) (rest := [.int 186]) X (sg_coder (a := a) (v := v) (A := fun _ => False)) (cwV 0 X.2.2.2.2 (sg_gV hw) rfl rfl rfl ⟨rfl, by decide +kernel⟩ (by decide)) ⟨sg_bl, vk_recv (i := 0) hE.1 (by decide) va_S.rf, fun U hU hW => ⟨rfl, sg_mv hU hW.alike hE⟩⟩ rfl rfl hl.1 rfl (lv_room (by decide)) (show decode prog_17_method_54_code 6 = .ok (.invokevirtual 335, 3) by decide +kernel) ⟨by decide, by decide⟩) (va_S.rf (A := fun _ => False)) (fun q _ h => h) (fun q h => h) (fun r u t H1 locs1 ht _ hp _ _ _ hS1 => ?_)
  subst hp
  refine lv_ishr X.1 X.2.1 (by decide +kernel) ?_
  exact sg_ret X hr hlk hS1 rfl (by decide) (by decide +kernel)
end
