section
-- the text constant of the class, and the library's own methods on it
def sg_tx : String := "grave long  deep  due   persontall  age   will  dies  comes takes heart harm  month asked taken numberalive fits  or    and   not   all   min   max   first last  often total most  least "
def sg_b : List Int32 := [103, 114, 97, 118, 101, 32, 108, 111, 110, 103, 32, 32, 100, 101, 101, 112, 32, 32, 100, 117, 101, 32, 32, 32, 112, 101, 114, 115, 111, 110, 116, 97, 108, 108, 32, 32, 97, 103, 101, 32, 32, 32, 119, 105, 108, 108, 32, 32, 100, 105, 101, 115, 32, 32, 99, 111, 109, 101, 115, 32, 116, 97, 107, 101, 115, 32, 104, 101, 97, 114, 116, 32, 104, 97, 114, 109, 32, 32, 109, 111, 110, 116, 104, 32, 97, 115, 107, 101, 100, 32, 116, 97, 107, 101, 110, 32, 110, 117, 109, 98, 101, 114, 97, 108, 105, 118, 101, 32, 102, 105, 116, 115, 32, 32, 111, 114, 32, 32, 32, 32, 97, 110, 100, 32, 32, 32, 110, 111, 116, 32, 32, 32, 97, 108, 108, 32, 32, 32, 109, 105, 110, 32, 32, 32, 109, 97, 120, 32, 32, 32, 102, 105, 114, 115, 116, 32, 108, 97, 115, 116, 32, 32, 111, 102, 116, 101, 110, 32, 116, 111, 116, 97, 108, 32, 109, 111, 115, 116, 32, 32, 108, 101, 97, 115, 116, 32]
def sg_F (a v : Nat) (A : Nat → Prop) (U : State) : Prop := vk_S 1 [186] [sg_b] (fun _ => a) (fun _ => v) A U U.heap ∧ va_Z "java/lang/String" "COMPACT_STRINGS" "Z" (.int 1) A U U.heap ∧ va_Zq "jdk/internal/util/Preconditions" "SIOOBE_FORMATTER" "Ljava/util/function/BiFunction;" A U U.heap
def sg_Q (post : Int32 → Prop) : Array Value → State → Outcome → State → Prop := va_Qi (S := Unit) (fun r _ => post r) (fun _ _ => True) (fun _ => False)
def sg_M (y : MethodName) (cc : ByteArray) (nL d : Nat) (ret : Option FieldType) (l : Launch) (vs : List Value) (E : State → Prop) (post : Int32 → Prop) : Prop := Met l y (.code y cc nL ret :: og_tbl) (og_rm d) (va_Pc vs E) (sg_Q post) 0 0 (fun _ => False)
theorem sg_enter {y : MethodName} {cc : ByteArray} {nL d : Nat} {ret : Option FieldType} {l : Launch} {vs : List Value} {E : State → Prop} {post : Int32 → Prop} (hy : plainFor y = true) (hnl : (lg_sl vs).length ≤ nL)
    (body : ∀ (p : Program) (e : Env) (s : State) (m : MethodId) (args : Array Value) (below : List Frame) (meth : Method) (c : Code) (ls : Array Slot), CallFix p m c cc nL s args og_tbl y.cls → meth.sig.returnType = ret → meth.locks = false → lv_has ls nL (lv_args 0 vs) → E s → W p l e (og_rm d) s m args below meth c s.heap [] 0 0 (MQ below (sg_Q post) args s 0 0 (fun _ => False)) (F0 m 0 ls [])) : sg_M y cc nL d ret l vs E post := by
  refine og_ofWF (cc := cc) (maxL := nL) (ret := ret) hy rfl ?_
  intro p e s m args below meth c s₁ B hml hv
  obtain ⟨rfl, hE⟩ := hv
  have hts := atoms_spec (ws := Cond.code y cc nL ret :: og_tbl) B.pre
  have hown : s.vm.findClass y.cls = some m.cls := findClass_of_methodNamed B.named
  have hl0 := lv_entry vs (n := nL) hnl
  rw [lg_entry_eq]
  generalize (lg_sl vs ++ List.replicate (nL - (lg_sl vs).length) Slot.unset).toArray = ls at hl0 ⊢
  exact body p e s m _ below meth c ls ⟨B.exec, B.bytes, hml, hown, fun q hq => hts q (List.mem_cons_of_mem _ hq)⟩ B.returns B.notSynchronized hl0 hE
theorem sg_ret {p : Program} {l : Launch} {e : Env} {R : Room} {s : State} {m : MethodId} {args : Array Value} {below : List Frame} {meth : Method} {c : Code} {locs : List Loc} {cc : ByteArray} {nL pc : Nat} {own : String} {ls : Array Slot} {H : Heap} {ty : FieldType} {x : Int32} {post : Int32 → Prop} (X : CallFix p m c cc nL s args og_tbl own) (hr : meth.sig.returnType = some ty) (hlk : meth.locks = false) (hS : va_S (fun _ => False) s.heap H locs) (hn : narrow ty (.int x) = .int x) (hx : post x) (hd : decode cc pc = .ok (.ireturn, 1)) : W p l e R s m args below meth c H locs 0 0 (MQ below (sg_Q post) args s 0 0 (fun _ => False)) (F0 m pc ls [.int x]) :=
  W.zret X.1 X.2.1 hr hn (fun t ht _ => ⟨⟨x, (), rfl, hx, trivial⟩, hS.F ht⟩) hS.2.2 hd hlk
abbrev sg_y_coder : MethodName := ⟨"java/lang/String", "coder", "()B"⟩
abbrev sg_y_isL : MethodName := ⟨"java/lang/String", "isLatin1", "()Z"⟩
abbrev sg_y_ck : MethodName := ⟨"jdk/internal/util/Preconditions", "checkIndex", "(IILjava/util/function/BiFunction;)I"⟩
theorem sg_coder {l : Launch} {a v : Nat} {A : Nat → Prop} : sg_M sg_y_coder prog_17_method_152_code 1 1 (some .byte) l [.ref a] (sg_F a v A) (fun r => r = 0) := by
  refine sg_enter (by decide +kernel) (Nat.le_of_ble_eq_true rfl) (fun p e s m args below meth c ls X hr hlk hl hE => ?_)
  refine va_gets (index := 38) (ref := "java/lang/String") X.1 X.2.1 hE.2.1 va_S.rf X.2.2.2.1 (X.2.2.2.2 _ (og_mc1 190 rfl rfl)) (fun _ h => h) (by decide +kernel) ?_
  refine lv_if_eq X.1 X.2.1 (off := 10) (tgt := 13) (by decide +kernel) rfl (fun h => absurd h (by decide)) (fun _ => ?_)
  refine lv_aload_n X.1 X.2.1 (k := 0) (by decide +kernel) rfl (lv_at hl 0 rfl) ?_
  refine vk_getf (index := 15) (ref := "java/lang/String") X.1 X.2.1 (hE.1.1 0 (by decide)).2.1 va_S.rf X.2.2.2.1 (X.2.2.2.2 _ (og_mc9 88 rfl rfl)) (fun _ h => h) (by decide +kernel) ?_
  refine lv_goto X.1 X.2.1 (off := 4) (tgt := 14) (by decide +kernel) rfl ?_
  exact sg_ret X hr hlk va_S.rf rfl rfl (by decide +kernel)
theorem sg_isL {l : Launch} {a v : Nat} {A : Nat → Prop} : sg_M sg_y_isL prog_17_method_154_code 1 1 (some .boolean) l [.ref a] (sg_F a v A) (fun r => r = 1) := by
  refine sg_enter (by decide +kernel) (Nat.le_of_ble_eq_true rfl) (fun p e s m args below meth c ls X hr hlk hl hE => ?_)
  refine va_gets (index := 38) (ref := "java/lang/String") X.1 X.2.1 hE.2.1 va_S.rf X.2.2.2.1 (X.2.2.2.2 _ (og_mc1 190 rfl rfl)) (fun _ h => h) (by decide +kernel) ?_
  refine lv_if_eq X.1 X.2.1 (off := 14) (tgt := 17) (by decide +kernel) rfl (fun h => absurd h (by decide)) (fun _ => ?_)
  refine lv_aload_n X.1 X.2.1 (k := 0) (by decide +kernel) rfl (lv_at hl 0 rfl) ?_
  refine vk_getf (index := 15) (ref := "java/lang/String") X.1 X.2.1 (hE.1.1 0 (by decide)).2.1 va_S.rf X.2.2.2.1 (X.2.2.2.2 _ (og_mc9 88 rfl rfl)) (fun _ h => h) (by decide +kernel) ?_
  refine lv_if_ne X.1 X.2.1 (off := 7) (tgt := 17) (by decide +kernel) rfl (fun h => absurd rfl h) (fun _ => ?_)
  refine lv_iconst X.1 X.2.1 (n := 1) (v := 1) (by decide +kernel) rfl ?_
  refine lv_goto X.1 X.2.1 (off := 4) (tgt := 18) (by decide +kernel) rfl ?_
  exact sg_ret X hr hlk va_S.rf rfl rfl (by decide +kernel)
theorem sg_ck {l : Launch} {f : Value} (hs : ∀ x y : Int32, (lg_sl [.int x, .int y, f]).length ≤ 3) {i n : Nat} (h : i < n) (hn : n ≤ 32767) : sg_M sg_y_ck prog_21_method_11_code 3 1 (some .int) l [.int (Int32.ofInt (i : Int)), .int (Int32.ofInt (n : Int)), f] (fun _ => True) (fun _ => True) := by
  refine sg_enter (by decide +kernel) (hs _ _) (fun p e s m args below meth c ls X hr hlk hl hE => ?_)
  have h0 : ls[0]? = some (.val (.int (Int32.ofInt (i : Int)))) := lv_at hl 0 rfl
  have h1 : ls[1]? = some (.val (.int (Int32.ofInt (n : Int)))) := lv_at hl 1 rfl
  refine lv_iload_n X.1 X.2.1 (k := 0) (by decide +kernel) rfl h0 ?_
  refine lv_if_lt X.1 X.2.1 (off := 8) (tgt := 9) (by decide +kernel) rfl (fun h => ?_) (fun _ => ?_)
  · have := Int32.lt_iff_toInt_lt.mp h
    rw [og_ti (by omega) (by omega)] at this
    simp at this
    omega
  refine lv_iload_n X.1 X.2.1 (k := 0) (by decide +kernel) rfl h0 ?_
  refine lv_iload_n X.1 X.2.1 (k := 1) (by decide +kernel) rfl h1 ?_
  refine lv_icmp_lt X.1 X.2.1 (off := 10) (tgt := 16) (by decide +kernel) rfl (fun _ => ?_) (fun h => ?_)
  · refine lv_iload_n X.1 X.2.1 (k := 0) (by decide +kernel) rfl h0 ?_
    exact sg_ret X hr hlk va_S.rf rfl trivial (by decide +kernel)
  · refine absurd (Int32.lt_iff_toInt_lt.mpr ?_) h
    rw [og_ti (by omega) (by omega), og_ti (by omega) (by omega)]
    omega
end
