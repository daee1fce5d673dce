section
-- the contract of what makes an object, its beginning, its call, its end
def cn_Pre (D : va_G) (C : Nat → ClassId) (z : Nat) (vs : List Value) (x : va_E) : Array Value → State → Prop := va_Pc vs (fun U => U.heap.size = z + 1 ∧ va_P D og_cl (cn_ws z [x]) U.heap ∧ va_K D og_cl (cn_ty C) U)
def cn_Post (D : va_G) (z : Nat) (cs : List va_E) : Array Value → State → Outcome → State → Prop := va_Qv (S := Unit) (fun _ => True) (fun _ t => va_P D og_cl (cn_ws z cs) t.heap) (fun q => z ≤ q)
def cn_rm (d mc ms : Nat) : Room := { frames := d, cells := mc, slots := ms, locals := 60 * d }
def cn_MOK (y : MethodName) (cc : ByteArray) (nL d mc ms : Nat) (l : Launch) (D : va_G) (C : Nat → ClassId) (z : Nat) (as : List Nat) (x : va_E) (cs : List va_E) : Prop :=
  Met l y (.code y cc nL none :: og_tbl) (cn_rm d mc ms) (cn_Pre D C z (.ref z :: as.map .ref) x) (cn_Post D z cs) mc ms (fun q => z ≤ q)
theorem cn_blind {D : va_G} {C : Nat → ClassId} {z : Nat} {vs : List Value} {x : va_E} : FrameBlind (cn_Pre D C z vs x) := by
  intro a U g mk q
  obtain ⟨q0, q1, qP, qK⟩ := q
  exact ⟨q0, q1, qP, va_K.moved (u := U) (U := U.calling g mk a) (Vm.Alike.refl U.vm) qK⟩
theorem cn_enter {y : MethodName} {cc : ByteArray} {nL d mc ms idx z : Nat} {as : List Nat} {x : va_E} {cs : List va_E} {l : Launch} {D : va_G} {C : Nat → ClassId} (hy : plainName y.cls = true) (hnl : (lg_sl (.ref z :: as.map .ref)).length ≤ nL) (hn : y.name = "<init>") (hl : Cond.methodLink y.cls idx Lib.objectInit ∈ og_tbl) (d0 : decode cc 0 = .ok (.aload_n 0, 1)) (d1 : decode cc 1 = .ok (.invokespecial idx, 3)) (hd : 1 ≤ d)
    (body : ∀ (p : Program) (e : Env) (s : State) (m : MethodId) (args : Array Value) (below : List Frame) (meth : Method) (c : Code) (ls : Array Slot), cn_Cx y.cls cc nL p s m args c D C → meth.name = "<init>" → meth.sig.returnType = none → meth.locks = false → s.heap.size = z + 1 → lv_has ls nL (lv_args 0 (.ref z :: as.map .ref)) → cn_St D z [x] s.heap s.heap [] → W p l e (cn_rm d mc ms) s m args below meth c s.heap [] 0 0 (MQ below (cn_Post D z cs) args s mc ms (fun q => z ≤ q)) (F0 m 4 ls [])) : cn_MOK y cc nL d mc ms l D C z as x cs := by
  refine Met.ofW (cc := cc) (maxL := nL) (ret := none) hy rfl ?_
  intro p e s m args below meth c s₁ B hml hv
  obtain ⟨rfl, hsz, hP, hK⟩ := hv
  have hts := atoms_spec (ws := Cond.code y cc nL none :: og_tbl) B.pre
  have hown : s.vm.findClass y.cls = some m.cls := findClass_of_methodNamed B.named
  have hin : meth.name = "<init>" := by rw [← hn]; exact (name_of_methodNamed B.named B.method).1
  have hl0 := lv_entry (.ref z :: as.map .ref) (n := nL) hnl
  have hat : (lv_args 0 (.ref z :: as.map Value.ref))[0]? = some (0, .ref z) := rfl
  rw [lg_entry_eq]
  generalize (lg_sl (.ref z :: as.map .ref) ++ List.replicate (nL - (lg_sl (.ref z :: as.map .ref)).length) Slot.unset).toArray = ls at hl0 ⊢
  refine lv_aload_n B.exec B.bytes d0 rfl (lv_at hl0 0 hat) ?_
  refine W.objInit B.exec B.bytes hown (hts _ (List.mem_cons_of_mem _ hl)) (hts _ (List.mem_cons_of_mem _ (og_mc1 27 rfl rfl))) (hts _ (List.mem_cons_of_mem _ (og_mc1 28 rfl rfl))) rfl (by rw [hml]; exact hl0.1) rfl d1 hd (by show 2 * 0 + 0 + 12 ≤ 60 * d; omega) ?_
  exact body p e s m _ below meth c ls ⟨B.exec, B.bytes, hml, hown, fun q hq => hts q (List.mem_cons_of_mem _ hq), hK⟩ hin B.returns B.notSynchronized hsz hl0 ⟨hP, va_S.rf⟩
section
variable {p : Program} {l : Launch} {e : Env} {R : Room} {s : State} {m : MethodId} {args : Array Value} {below : List Frame} {meth : Method} {c : Code} {H : Heap} {locs : List Loc} {cells slots : Nat} {Q : State → Prop}
variable {own : String} {cc : ByteArray} {nL pc : Nat} {ls : Array Slot} {rest : List Value} {D : va_G} {C : Nat → ClassId} {H0 : Heap} {b : Nat} {cs : List va_E}
theorem cn_ret {mc ms : Nat} (X : cn_Cx own cc nL p s m args c D C) (hr : meth.sig.returnType = none) (hlk : meth.locks = false) (hS : cn_St D b cs s.heap H locs) (hd : decode cc pc = .ok (.return_, 1)) : W p l e R s m args below meth c H locs mc ms (MQ below (cn_Post D b cs) args s mc ms (fun q => b ≤ q)) (F0 m pc ls []) :=
  W.vret X.1 X.2.1 hr (fun t ht _ => ⟨⟨(), rfl, trivial, by show va_P D og_cl (cn_ws b cs) t.heap; rw [ht]; exact hS.1⟩, hS.2.F ht⟩) hS.2.2.2 hd hlk
theorem cn_call {y : MethodName} {cy : ByteArray} {ny dy mc ms idx : Nat} {as : List Nat} {x : va_E} {Y : List va_E} (X : cn_Cx own cc nL p s m args c D C) (hS : cn_St D b (cs ++ [x]) H0 H locs) (hcs : s.heap.size + cells = b + (cs.length + 1)) (hM : cn_MOK y cy ny dy mc ms l D C (b + cs.length) as x Y) (hcd : Cond.code y cy ny none ∈ og_tbl) (hini : Cond.initialized y.cls ∈ og_tbl) (hlk : Cond.methodLink own idx y ∈ og_tbl) (him : Cond.instanceMethod y ∈ og_tbl) (hy : y.name = "<init>")
    (hd : y.cls ≠ "java/lang/invoke/MethodHandle" ∧ y.cls ≠ "java/lang/invoke/VarHandle" ∧ (parseMethodDescriptor y.desc).map (fun d => d.parameters.length) = some as.length) (hR : dy + 1 ≤ R.frames ∧ 8 + (ny + 11) + 60 * dy ≤ R.locals) (hf : cells + mc ≤ R.cells ∧ slots + ms ≤ R.slots) (hsz : ls.size = nL) (hrest : og_wd rest ≤ 8) (hdg : decode cc pc = .ok (.invokespecial idx, 3))
    (kk : ∀ H1 locs1, cn_St D b (cs ++ Y) H0 H1 locs1 → W p l e R s m args below meth c H1 locs1 (cells + mc) (slots + ms) Q (F0 m (pc + 3) ls rest)) : W p l e R s m args below meth c H locs cells slots Q (F0 m pc ls ((as.map Value.ref).reverse ++ .ref (b + cs.length) :: rest)) := by
  refine cn_size hS (Or.inl (by simp)) (by simpa using hcs) (fun hz => ?_)
  have hz : H.size = b + cs.length + 1 := by rw [hz]; simp; omega
  have hG : GoodIn og_tbl (Cond.code y cy ny none :: og_tbl) := fun q hq => by
    rcases List.mem_cons.mp hq with rfl | hq
    · exact og_tbl_good _ hcd
    · exact og_tbl_good _ hq
  have hPx : va_P D og_cl (cn_ws (b + cs.length) [x]) H := by
    have := hS.1
    rw [cn_app] at this
    intro k q hk
    refine this ((cn_ws b cs).length + k) q ?_
    rw [List.getElem?_append_right (by omega)]
    simpa using hk
  refine va_callv (va_runI (As := as.map Value.ref) (rest := rest) ⟨X.1, X.2.1, X.2.2.1, X.2.2.2.1, X.2.2.2.2.1⟩ hM (cwI as.length X.2.2.2.2.1 hG rfl rfl rfl (X.2.2.2.2.1 _ hini) (X.2.2.2.2.1 _ hlk) (X.2.2.2.2.1 _ him) hy hd hR) ⟨cn_blind, fun U hU hW => ⟨rfl, by rw [hU]; exact hz, by rw [hU]; exact hPx, va_K.moved hW.alike X.2.2.2.2.2⟩⟩ rfl (by simp) hsz rfl (lv_room hrest) hdg hf) hS.2 (fun q _ hq => by omega) (fun q hq => by omega) (fun u t H1 locs1 ht _ _ hB _ hk1 hS1 => ?_)
  rw [ht] at hB
  refine kk H1 locs1 ⟨?_, hS1⟩
  rw [cn_app]
  refine va_P.app (fun k q hk => ?_) hB
  have hP := hS.1
  rw [cn_app] at hP
  have h1 := hP k q (by rw [List.getElem?_append_left (List.getElem?_eq_some_iff.mp hk).1]; exact hk)
  refine h1.kept (hk1 q.1 h1.lt ?_)
  rw [cn_get] at hk
  cases hi : cs[k]? with
  | none => rw [hi] at hk; cases hk
  | some x0 =>
    rw [hi] at hk
    cases hk
    have := (List.getElem?_eq_some_iff.mp hi).1
    show ¬ b + cs.length ≤ b + k
    omega
end
end
