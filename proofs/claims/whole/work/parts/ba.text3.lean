section
-- the library's methods on the text: the sign at a place
def sg_wS (own : String) (idx : Nat) (y : MethodName) (cy : ByteArray) (ny : Nat) (ret : Option FieldType) : Prop := Cond.methodLink own idx y ∈ og_tbl ∧ Cond.static y ∈ og_tbl ∧ Cond.initialized y.cls ∈ og_tbl ∧ Cond.code y cy ny ret ∈ og_tbl
theorem sg_gS {own : String} {idx : Nat} {y : MethodName} {cy : ByteArray} {ny : Nat} {ret : Option FieldType} (h : sg_wS own idx y cy ny ret) : GoodIn og_tbl (va_wsS own idx y (.code y cy ny ret :: og_tbl)) := by
  intro q hq
  rcases List.mem_append.mp hq with hq | hq
  · simp only [List.mem_cons, List.not_mem_nil, or_false] at hq
    rcases hq with rfl | rfl | rfl
    · exact og_tbl_good _ h.1
    · exact og_tbl_good _ h.2.1
    · exact og_tbl_good _ h.2.2.1
  · rcases List.mem_cons.mp hq with rfl | hq
    · exact og_tbl_good _ h.2.2.2
    · exact og_tbl_good _ hq
def sg_Qv : Array Value → State → Outcome → State → Prop := va_Qv (S := Unit) (fun _ => True) (fun _ _ => True) (fun _ => False)
theorem sg_blT {vs : List Value} : FrameBlind (va_Pc vs (fun _ => True)) := fun _ _ _ _ q => q
abbrev sg_y_cki : MethodName := ⟨"java/lang/String", "checkIndex", "(II)V"⟩
abbrev sg_y_lat : MethodName := ⟨"java/lang/StringLatin1", "charAt", "([BI)C"⟩
abbrev sg_y_chr : MethodName := ⟨"java/lang/String", "charAt", "(I)C"⟩
theorem sg_cki {l : Launch} {a v i n : Nat} (h : i < n) (hn : n ≤ 32767) : Met l sg_y_cki (.code sg_y_cki prog_17_method_155_code 2 none :: og_tbl) (og_rm 2) (va_Pc [.int (Int32.ofInt (i : Int)), .int (Int32.ofInt (n : Int))] (sg_F a v (fun _ => False))) sg_Qv 0 0 (fun _ => False) := by
  have hw : sg_wS "java/lang/String" 1059 sg_y_ck prog_21_method_11_code 3 (some .int) := ⟨(og_mc1 208 rfl rfl), (og_mc1 209 rfl rfl), (og_mc1 9 rfl rfl), (og_mc1 210 rfl rfl)⟩
  refine og_ofWF (cc := prog_17_method_155_code) (maxL := 2) (ret := none) (by decide +kernel) rfl ?_
  intro p e s m args below meth c s₁ B hml hv
  obtain ⟨rfl, hE⟩ := hv
  have hts := atoms_spec (ws := Cond.code sg_y_cki prog_17_method_155_code 2 none :: og_tbl) B.pre
  have hown : s.vm.findClass "java/lang/String" = some m.cls := findClass_of_methodNamed B.named
  have hl := lv_entry [.int (Int32.ofInt (i : Int)), .int (Int32.ofInt (n : Int))] (n := 2) (Nat.le_of_ble_eq_true rfl)
  rw [lg_entry_eq]
  generalize (lg_sl [.int (Int32.ofInt (i : Int)), .int (Int32.ofInt (n : Int))] ++ List.replicate (2 - (lg_sl [.int (Int32.ofInt (i : Int)), .int (Int32.ofInt (n : Int))]).length) Slot.unset).toArray = ls at hl ⊢
  have X : CallFix p m c prog_17_method_155_code 2 s [Value.int (Int32.ofInt (i : Int)), .int (Int32.ofInt (n : Int))].toArray og_tbl "java/lang/String" := ⟨B.exec, B.bytes, hml, hown, fun q hq => hts q (List.mem_cons_of_mem _ hq)⟩
  have go : ∀ f : Value, f.category = 1 → (∀ x y : Int32, (lg_sl [.int x, .int y, f]).length ≤ 3) → va_Z "jdk/internal/util/Preconditions" "SIOOBE_FORMATTER" "Ljava/util/function/BiFunction;" f (fun _ => False) s s.heap → W p l e (og_rm 2) s m _ below meth c s.heap [] 0 0 (MQ below sg_Qv _ s 0 0 (fun _ => False)) (F0 m 0 ls []) := fun f hf hfs hZ => by
    refine lv_iload_n X.1 X.2.1 (k := 0) (by decide +kernel) rfl (lv_at hl 0 rfl) ?_
    refine lv_iload_n X.1 X.2.1 (k := 1) (by decide +kernel) rfl (lv_at hl 1 rfl) ?_
    refine va_gets (index := 1053) (ref := "jdk/internal/util/Preconditions") X.1 X.2.1 hZ va_S.rf X.2.2.2.1 (X.2.2.2.2 _ (og_mc1 206 rfl rfl)) (fun _ h => h) (by decide +kernel) ?_
    refine va_calli (va_runS (As := [.int (Int32.ofInt (i : Int)), .int (Int32.ofInt (n : Int)), f]) (rest := []) X (sg_ck hfs h hn) (va_cwS 3 X.2.2.2.2 (sg_gS hw) rfl rfl rfl (by decide +kernel) (by decide)) ⟨sg_blT, fun U hU hW => ⟨rfl, trivial⟩⟩ rfl rfl hl.1 rfl (lv_room (by decide)) (show decode prog_17_method_155_code 5 = .ok (.invokestatic 1059, 3) by decide +kernel) ⟨by decide, by decide⟩) (va_S.rf (A := fun _ => False)) (fun q _ h => h) (fun q h => h) (fun r u t H1 locs1 ht _ hp _ _ _ hS1 => ?_)
    refine lv_pop X.1 X.2.1 (by decide +kernel) rfl ?_
    exact W.vret X.1 X.2.1 B.returns (fun t ht _ => ⟨⟨(), rfl, trivial, trivial⟩, hS1.F ht⟩) hS1.2.2 (by decide +kernel) B.notSynchronized
  rcases hE.2.2 with hZ | ⟨t, hZ⟩
  · exact go .null rfl (fun _ _ => Nat.le_of_ble_eq_true rfl) hZ
  · exact go (.ref t) rfl (fun _ _ => Nat.le_of_ble_eq_true rfl) hZ
theorem sg_c1 : ∀ i, i < 186 → ((sg_b.getD i 0 &&& 255).toUInt32 % 65536).toInt32 = sg_b.getD i 0 := by decide +kernel
theorem sg_lat {l : Launch} {a v i : Nat} (h : i < 186) : sg_M sg_y_lat prog_18_method_2_code 2 3 (some .char) l [.ref v, .int (Int32.ofInt (i : Int))] (sg_F a v (fun _ => False)) (fun r => r = sg_b.getD i 0) := by
  have hw : sg_wS "java/lang/StringLatin1" 9 sg_y_cki prog_17_method_155_code 2 none := ⟨(og_mc1 203 rfl rfl), (og_mc1 204 rfl rfl), (og_mc1 7 rfl rfl), (og_mc1 205 rfl rfl)⟩
  refine sg_enter (by decide +kernel) (Nat.le_of_ble_eq_true rfl) (fun p e s m args below meth c ls X hr hlk hl hE => ?_)
  refine lv_iload_n X.1 X.2.1 (k := 1) (by decide +kernel) rfl (lv_at hl 1 rfl) ?_
  refine lv_aload_n X.1 X.2.1 (k := 0) (by decide +kernel) rfl (lv_at hl 0 rfl) ?_
  refine va_tlen (v := Int32.ofInt ((186 : Nat) : Int)) X.1 X.2.1 (hE.1.1 0 (by decide)).2.2.2 va_S.rf rfl (by decide +kernel) ?_
  refine va_callv (va_runS (As := [.int (Int32.ofInt (i : Int)), .int (Int32.ofInt ((186 : Nat) : Int))]) (rest := []) X (sg_cki (a := a) (v := v) h (by decide)) (va_cwS 2 X.2.2.2.2 (sg_gS hw) rfl rfl rfl (by decide +kernel) (by decide)) ⟨sg_bl, fun U hU hW => ⟨rfl, sg_mv hU hW.alike hE⟩⟩ rfl rfl hl.1 rfl (lv_room (by decide)) (show decode prog_18_method_2_code 3 = .ok (.invokestatic 9, 3) by decide +kernel) ⟨by decide, by decide⟩) (va_S.rf (A := fun _ => False)) (fun q _ h => h) (fun q h => h) (fun u t H1 locs1 ht _ hp _ _ _ hS1 => ?_)
  refine lv_aload_n X.1 X.2.1 (k := 0) (by decide +kernel) rfl (lv_at hl 0 rfl) ?_
  refine lv_iload_n X.1 X.2.1 (k := 1) (by decide +kernel) rfl (lv_at hl 1 rfl) ?_
  refine va_tb (v := .int (sg_b.getD i 0)) X.1 X.2.1 (hE.1.1 0 (by decide)).2.2.2 hS1 (og_vpin (by omega) (by omega) (by show (i : Int) < 186; omega)) (by rw [og_clamp (by omega) (by omega), Int.toNat_natCast]; rfl) (by decide +kernel) ?_
  refine lv_sipush X.1 X.2.1 (n := 255) (v := 255) (by decide +kernel) rfl ?_
  refine lv_iand X.1 X.2.1 (by decide +kernel) ?_
  refine lv_i2c X.1 X.2.1 (by decide +kernel) (sg_c1 i h) ?_
  refine sg_ret X hr hlk hS1 ?_ rfl (by decide +kernel)
  have q : ∀ i, i < 186 → vp_nar .char (sg_b.getD i 0) = sg_b.getD i 0 := by decide +kernel
  exact congrArg Value.int (q i h)
theorem sg_chr {l : Launch} {a v i : Nat} (h : i < 186) : sg_M sg_y_chr prog_17_method_56_code 2 4 (some .char) l [.ref a, .int (Int32.ofInt (i : Int))] (sg_F a v (fun _ => False)) (fun r => r = sg_b.getD i 0) := by
  have hw : sg_wV "java/lang/String" 492 sg_y_isL prog_17_method_154_code 1 (some .boolean) := ⟨(og_mc1 196 rfl rfl), (og_mc1 197 rfl rfl), (og_mc1 198 rfl rfl), (og_mc1 7 rfl rfl), (og_mc1 199 rfl rfl)⟩
  have hw2 : sg_wS "java/lang/String" 495 sg_y_lat prog_18_method_2_code 2 (some .char) := ⟨(og_mc1 200 rfl rfl), (og_mc1 201 rfl rfl), (og_mc1 8 rfl rfl), (og_mc1 202 rfl rfl)⟩
  refine sg_enter (by decide +kernel) (Nat.le_of_ble_eq_true rfl) (fun p e s m args below meth c ls X hr hlk hl hE => ?_)
  refine lv_aload_n X.1 X.2.1 (k := 0) (by decide +kernel) rfl (lv_at hl 0 rfl) ?_
  refine va_calli (va_runV (As := []) (rest := []) X (sg_isL (a := a) (v := v) (A := fun _ => False)) (cwV 0 X.2.2.2.2 (sg_gV hw) rfl rfl rfl ⟨rfl, by decide +kernel⟩ (by decide)) ⟨sg_bl, vk_recv (i := 0) hE.1 (by decide) va_S.rf, fun U hU hW => ⟨rfl, sg_mv hU hW.alike hE⟩⟩ rfl rfl hl.1 rfl (lv_room (by decide)) (show decode prog_17_method_56_code 1 = .ok (.invokevirtual 492, 3) by decide +kernel) ⟨by decide, by decide⟩) (va_S.rf (A := fun _ => False)) (fun q _ h => h) (fun q h => h) (fun r u t H1 locs1 ht _ hp _ _ _ hS1 => ?_)
  subst hp
  refine lv_if_eq X.1 X.2.1 (off := 12) (tgt := 16) (by decide +kernel) rfl (fun h => absurd h (by decide)) (fun _ => ?_)
  refine lv_aload_n X.1 X.2.1 (k := 0) (by decide +kernel) rfl (lv_at hl 0 rfl) ?_
  refine vk_getf (index := 9) (ref := "java/lang/String") X.1 X.2.1 (hE.1.1 0 (by decide)).2.2.1 hS1 X.2.2.2.1 (X.2.2.2.2 _ (og_mc9 87 rfl rfl)) (fun _ h => h) (by decide +kernel) ?_
  refine lv_iload_n X.1 X.2.1 (k := 1) (by decide +kernel) rfl (lv_at hl 1 rfl) ?_
  refine va_calli (va_runS (As := [.ref v, .int (Int32.ofInt (i : Int))]) (rest := []) X (sg_lat (a := a) (v := v) h) (va_cwS 2 X.2.2.2.2 (sg_gS hw2) rfl rfl rfl (by decide +kernel) (by decide)) ⟨sg_bl, fun U hU hW => ⟨rfl, sg_kp hS1 hU hW.alike hE⟩⟩ rfl rfl hl.1 rfl (lv_room (by decide)) (show decode prog_17_method_56_code 12 = .ok (.invokestatic 495, 3) by decide +kernel) ⟨by decide, by decide⟩) hS1 (fun q _ h => h) (fun q h => h) (fun r u t H2 locs2 ht _ hp _ _ _ hS2 => ?_)
  subst hp
  refine sg_ret X hr hlk hS2 ?_ rfl (by decide +kernel)
  have q : ∀ i, i < 186 → vp_nar .char (sg_b.getD i 0) = sg_b.getD i 0 := by decide +kernel
  exact congrArg Value.int (q i h)
end
