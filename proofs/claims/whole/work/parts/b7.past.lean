section
-- contracts with one more premise on the state
def cn_PreE (D : va_G) (C : Nat → ClassId) (z : Nat) (vs : List Value) (x : va_E) (E : State → Prop) : Array Value → State → Prop := va_Pc vs (fun U => U.heap.size = z + 1 ∧ va_P D og_cl (cn_ws z [x]) U.heap ∧ va_K D og_cl (cn_ty C) U ∧ E U)
def cn_MOKe (y : MethodName) (cc : ByteArray) (nL d mc ms : Nat) (l : Launch) (D : va_G) (C : Nat → ClassId) (z : Nat) (as : List Nat) (x : va_E) (cs : List va_E) (E : State → Prop) : Prop :=
  Met l y (.code y cc nL none :: og_tbl) (cn_rm d mc ms) (cn_PreE D C z (.ref z :: as.map .ref) x E) (cn_Post D z cs) mc ms (fun q => z ≤ q)
def cn_bE (E : State → Prop) : Prop := ∀ (a : Array Value) (U : State) (g : JFrame) (mk : MethodId), E U → E (U.calling g mk a)
theorem cn_blindE {E : State → Prop} (hE : cn_bE E) {D : va_G} {C : Nat → ClassId} {z : Nat} {vs : List Value} {x : va_E} : FrameBlind (cn_PreE D C z vs x E) := by
  intro a U g mk q
  obtain ⟨q0, q1, qP, qK, qE⟩ := q
  exact ⟨q0, q1, qP, va_K.moved (u := U) (U := U.calling g mk a) (Vm.Alike.refl U.vm) qK, hE a U g mk qE⟩
theorem cn_enterE {E : State → Prop} {y : MethodName} {cc : ByteArray} {nL d mc ms idx z : Nat} {as : List Nat} {x : va_E} {cs : List va_E} {l : Launch} {D : va_G} {C : Nat → ClassId} (hy : plainName y.cls = true) (hnl : (lg_sl (.ref z :: as.map .ref)).length ≤ nL) (hn : y.name = "<init>") (hl : Cond.methodLink y.cls idx Lib.objectInit ∈ og_tbl) (d0 : decode cc 0 = .ok (.aload_n 0, 1)) (d1 : decode cc 1 = .ok (.invokespecial idx, 3)) (hd : 1 ≤ d)
    (body : ∀ (p : Program) (e : Env) (s : State) (m : MethodId) (args : Array Value) (below : List Frame) (meth : Method) (c : Code) (ls : Array Slot), cn_Cx y.cls cc nL p s m args c D C → meth.name = "<init>" → meth.sig.returnType = none → meth.locks = false → s.heap.size = z + 1 → lv_has ls nL (lv_args 0 (.ref z :: as.map .ref)) → cn_St D z [x] s.heap s.heap [] → E s → W p l e (cn_rm d mc ms) s m args below meth c s.heap [] 0 0 (MQ below (cn_Post D z cs) args s mc ms (fun q => z ≤ q)) (F0 m 4 ls [])) : cn_MOKe y cc nL d mc ms l D C z as x cs E := by
  refine Met.ofW (cc := cc) (maxL := nL) (ret := none) hy rfl ?_
  intro p e s m args below meth c s₁ B hml hv
  obtain ⟨rfl, hsz, hP, hK, hE⟩ := hv
  have hts := atoms_spec (ws := Cond.code y cc nL none :: og_tbl) B.pre
  have hown : s.vm.findClass y.cls = some m.cls := findClass_of_methodNamed B.named
  have hin : meth.name = "<init>" := by rw [← hn]; exact (name_of_methodNamed B.named B.method).1
  have hl0 := lv_entry (.ref z :: as.map .ref) (n := nL) hnl
  have hat : (lv_args 0 (.ref z :: as.map Value.ref))[0]? = some (0, .ref z) := rfl
  rw [lg_entry_eq]
  generalize (lg_sl (.ref z :: as.map .ref) ++ List.replicate (nL - (lg_sl (.ref z :: as.map .ref)).length) Slot.unset).toArray = ls at hl0 ⊢
  refine lv_aload_n B.exec B.bytes d0 rfl (lv_at hl0 0 hat) ?_
  refine W.objInit B.exec B.bytes hown (hts _ (List.mem_cons_of_mem _ hl)) (hts _ (List.mem_cons_of_mem _ (og_mc1 27 rfl rfl))) (hts _ (List.mem_cons_of_mem _ (og_mc1 28 rfl rfl))) rfl (by rw [hml]; exact hl0.1) rfl d1 hd (by show 2 * 0 + 0 + 12 ≤ 60 * d; omega) ?_
  exact body p e s m _ below meth c ls ⟨B.exec, B.bytes, hml, hown, fun q hq => hts q (List.mem_cons_of_mem _ hq), hK⟩ hin B.returns B.notSynchronized hsz hl0 ⟨hP, va_S.rf⟩ hE
section
variable {p : Program} {l : Launch} {e : Env} {R : Room} {s : State} {m : MethodId} {args : Array Value} {below : List Frame} {meth : Method} {c : Code} {H : Heap} {locs : List Loc} {cells slots : Nat} {Q : State → Prop}
variable {own : String} {cc : ByteArray} {nL pc : Nat} {ls : Array Slot} {rest : List Value} {D : va_G} {C : Nat → ClassId} {H0 : Heap} {b : Nat} {cs : List va_E}
theorem cn_callE {E : State → Prop} (hE : cn_bE E) {y : MethodName} {cy : ByteArray} {ny dy mc ms idx : Nat} {as : List Nat} {x : va_E} {Y : List va_E} (X : cn_Cx own cc nL p s m args c D C) (hS : cn_St D b (cs ++ [x]) H0 H locs) (hcs : s.heap.size + cells = b + (cs.length + 1)) (hM : cn_MOKe y cy ny dy mc ms l D C (b + cs.length) as x Y E) (hE2 : ∀ U : State, U.heap = H → s.WarmedH U.vm → E U) (hcd : Cond.code y cy ny none ∈ og_tbl) (hini : Cond.initialized y.cls ∈ og_tbl) (hlk : Cond.methodLink own idx y ∈ og_tbl) (him : Cond.instanceMethod y ∈ og_tbl) (hy : y.name = "<init>")
    (hd : y.cls ≠ "java/lang/invoke/MethodHandle" ∧ y.cls ≠ "java/lang/invoke/VarHandle" ∧ (parseMethodDescriptor y.desc).map (fun d => d.parameters.length) = some as.length) (hR : dy + 1 ≤ R.frames ∧ 8 + (ny + 11) + 60 * dy ≤ R.locals) (hf : cells + mc ≤ R.cells ∧ slots + ms ≤ R.slots) (hsz : ls.size = nL) (hrest : og_wd rest ≤ 8) (hdg : decode cc pc = .ok (.invokespecial idx, 3))
    (kk : ∀ H1 locs1, cn_St D b (cs ++ Y) H0 H1 locs1 → W p l e R s m args below meth c H1 locs1 (cells + mc) (slots + ms) Q (F0 m (pc + 3) ls rest)) : W p l e R s m args below meth c H locs cells slots Q (F0 m pc ls ((as.map Value.ref).reverse ++ .ref (b + cs.length) :: rest)) := by
  refine cn_size hS (Or.inl (by simp)) (by simpa using hcs) (fun hz => ?_)
  have hz : H.size = b + cs.length + 1 := by rw [hz]; simp; omega
  have hG : GoodIn og_tbl (Cond.code y cy ny none :: og_tbl) := fun q hq => by
    rcases List.mem_cons.mp hq with rfl | hq
    · exact og_tbl_good _ hcd
    · exact og_tbl_good _ hq
  have hPx : va_P D og_cl (cn_ws (b + cs.length) [x]) H := by
    have := hS.1
    rw [cn_app] at this
    intro k q hk
    refine this ((cn_ws b cs).length + k) q ?_
    rw [List.getElem?_append_right (by omega)]
    simpa using hk
  refine va_callv (va_runI (As := as.map Value.ref) (rest := rest) ⟨X.1, X.2.1, X.2.2.1, X.2.2.2.1, X.2.2.2.2.1⟩ hM (cwI as.length X.2.2.2.2.1 hG rfl rfl rfl (X.2.2.2.2.1 _ hini) (X.2.2.2.2.1 _ hlk) (X.2.2.2.2.1 _ him) hy hd hR) ⟨cn_blindE hE, fun U hU hW => ⟨rfl, by rw [hU]; exact hz, by rw [hU]; exact hPx, va_K.moved hW.alike X.2.2.2.2.2, hE2 U hU hW⟩⟩ rfl (by simp) hsz rfl (lv_room hrest) hdg hf) hS.2 (fun q _ hq => by omega) (fun q hq => by omega) (fun u t H1 locs1 ht _ _ hB _ hk1 hS1 => ?_)
  rw [ht] at hB
  refine kk H1 locs1 ⟨?_, hS1⟩
  rw [cn_app]
  refine va_P.app (fun k q hk => ?_) hB
  have hP := hS.1
  rw [cn_app] at hP
  have h1 := hP k q (by rw [List.getElem?_append_left (List.getElem?_eq_some_iff.mp hk).1]; exact hk)
  refine h1.kept (hk1 q.1 h1.lt ?_)
  rw [cn_get] at hk
  cases hi : cs[k]? with
  | none => rw [hi] at hk; cases hk
  | some x0 =>
    rw [hi] at hk
    cases hk
    have := (List.getElem?_eq_some_iff.mp hi).1
    show ¬ b + cs.length ≤ b + k
    omega
theorem cn_newq {n index : Nat} (X : cn_Cx own cc nL p s m args c D C) (hS : cn_St D b cs H0 H locs) (h0 : cs ≠ [] ∨ b ≤ H0.size) (hcs : s.heap.size + cells = b + cs.length) (hAO : va_AO "OpenGraves$Yard" s) (hcl : Cond.classLink own index "OpenGraves$Yard" ∈ og_tbl) (hn : n ≤ 32767) (hcells : cells + 1 ≤ R.cells) (hslots : slots + n ≤ R.slots) (hdg : decode cc pc = .ok (.anewarray index, 3))
    (kk : ∀ H1, cn_St D b (cs ++ [.inl (C 3, n, .inr (.inr (.inr (.inr (fun _ => none)))))]) H0 H1 locs → W p l e R s m args below meth c H1 locs (cells + 1) (slots + n) Q (F0 m (pc + 3) ls (.ref (b + cs.length) :: rest))) : W p l e R s m args below meth c H locs cells slots Q (F0 m pc ls (.int (Int32.ofInt (n : Int)) :: rest)) := by
  refine cn_size hS h0 hcs (fun hz => ?_)
  have hN : (Int32.ofInt (n : Int)).toNatClampNeg = n := by rw [og_clamp (by omega) (by omega)]; omega
  have hneg : ¬ (Int32.ofInt (n : Int)) < 0 := by
    intro h
    have := Int32.lt_iff_toInt_lt.mp h
    rw [og_ti (by omega) (by omega)] at this
    simp at this
    omega
  refine W.anew X.1 X.2.1 X.2.2.2.1 (X.2.2.2.2.1 _ hcl) (va_AO.use hAO) rfl hdg rfl hneg (by rw [hN]; omega) hcells (by rw [hN]; exact hslots) (fun cA kA comp f1 f2 f3 f4 => ?_)
  obtain ⟨-, kA', comp', -, -, -, g4⟩ := X.2.2.2.2.2.2 3 (C 3, .object "OpenGraves$Yard") rfl
  have hc : cA = C 3 := Option.some.inj (f1.symm.trans g4)
  subst hc
  rw [hN, hz]
  refine kk _ (cn_grow hS hz ?_ (by simp) (fun q hq => by rw [Array.getElem?_push, if_neg (Nat.ne_of_lt hq)]))
  show (H.push _)[b + cs.length]? = some (vp_cell _ _)
  rw [← hz, Array.getElem?_push_size, arrV_new, vp_cell_q]
  rfl
end
abbrev cn_y_Past : MethodName := ⟨"OpenGraves$Past", "<init>", "()V"⟩
abbrev cn_c_Past : ByteArray := prog_6_method_1_code
theorem cn_l_Past : cn_Cl og_R_Past og_T_Past 3 8 og_ty_Past := ⟨rfl, og_in_Past, og_tyok_Past, og_nm_Past⟩
def cn_0_Past : List Value := [.null, .int 0, .int 0]
def cn_pf (z i : Nat) : Nat → Option Nat := fun k => if k < i then some (z + 2 + 10 * k) else none
def cn_pY (C : Nat → ClassId) (z : Nat) : Nat → List va_E
  | 0 => []
  | i + 1 => cn_pY C z i ++ cn_X_Yard C (z + 2 + 10 * i)
theorem cn_pY_len {C : Nat → ClassId} {z : Nat} : ∀ i, (cn_pY C z i).length = 10 * i
  | 0 => rfl
  | i + 1 => by
    rw [cn_pY, List.length_append, cn_pY_len i, show (cn_X_Yard C (z + 2 + 10 * i)).length = 10 from rfl]
    omega
def cn_pW (C : Nat → ClassId) (z i : Nat) : List va_E := .inr (8, [.ref (z + 1), .int 0, .int 0]) :: .inl (C 3, 20, .inr (.inr (.inr (.inr (cn_pf z i))))) :: cn_pY C z i
def cn_X_Past (C : Nat → ClassId) (z : Nat) : List va_E := cn_pW C z 20
theorem cn_pf_s {z i : Nat} : va_up (cn_pf z i) i (some (z + 2 + 10 * i)) = cn_pf z (i + 1) := by
  funext k
  unfold va_up cn_pf
  by_cases h : k = i
  · subst h
    rw [if_pos rfl, if_pos (by omega)]
  · rw [if_neg h]
    by_cases h2 : k < i
    · rw [if_pos h2, if_pos (by omega)]
    · rw [if_neg h2, if_neg (by omega)]
section
variable {p : Program} {l : Launch} {e : Env} {s : State} {m : MethodId} {args : Array Value} {below : List Frame} {meth : Method} {c : Code} {D : va_G} {C : Nat → ClassId} {z : Nat}
set_option maxHeartbeats 400000 in
theorem cn_pastL (X : cn_Cx "OpenGraves$Past" cn_c_Past 2 p s m args c D C) (hr : meth.sig.returnType = none) (hlk : meth.locks = false) (hz : s.heap.size = z + 1) : ∀ (k i : Nat) (H : Heap) (locs : List Loc) (ls : Array Slot), i + k = 20 → lv_has ls 2 [(1, .int (Int32.ofInt (i : Int))), (0, .ref z)] → cn_St D z (cn_pW C z i) s.heap H locs → W p l e (cn_rm 2 201 2040) s m args below meth c H locs (1 + 10 * i) (20 + 101 * i) (MQ below (cn_Post D z (cn_X_Past C z)) args s 201 2040 (fun q => z ≤ q)) (F0 m 15 ls []) := by
  have hw : cn_wds "OpenGraves$Past" 9 17 13 cn_y_Yard cn_c_Yard 1 := ⟨(og_mc2 133 rfl rfl), (og_mc1 36 rfl rfl), (og_mc1 3 rfl rfl), (og_mc1 39 rfl rfl), (og_mc2 135 rfl rfl), (og_mc1 38 rfl rfl)⟩
  intro k
  induction k with
  | zero =>
    intro i H locs ls hi hl hS
    have hi : i = 20 := by omega
    subst hi
    refine lv_iload_n X.1 X.2.1 (k := 1) (by decide +kernel) rfl (lv_at hl 0 rfl) ?_
    refine cn_push (v := 20) X (by decide +kernel) ?_
    refine lv_icmp_ge X.1 X.2.1 (off := 22) (tgt := 40) (by decide +kernel) rfl (fun _ => ?_) (fun h => absurd (by decide) h)
    exact cn_ret X hr hlk hS (by decide +kernel)
  | succ k ih =>
    intro i H locs ls hi hl hS
    refine lv_iload_n X.1 X.2.1 (k := 1) (by decide +kernel) rfl (lv_at hl 0 rfl) ?_
    refine cn_push (v := 20) X (by decide +kernel) ?_
    refine lv_icmp_ge X.1 X.2.1 (off := 22) (tgt := 40) (by decide +kernel) rfl (fun h => ?_) (fun _ => ?_)
    · have := Int32.le_iff_toInt_le.mp h
      rw [og_ti (by omega) (by omega), og_ti (by omega) (by omega)] at this
      omega
    refine lv_aload_n X.1 X.2.1 (k := 0) (by decide +kernel) rfl (lv_at hl 1 rfl) ?_
    refine va_get (own := "OpenGraves$Past") (ref := "OpenGraves$Past") (index := 11) (v := .ref (z + 1)) X.1 X.2.1 X.2.2.2.2.1 cn_l_Past.2.1 X.2.2.2.1 X.2.2.2.2.2 hS.1 0 (cn_at (k := 0) rfl) cn_l_Past.1 0 (by decide) (X.2.2.2.2.1 _ (og_mc2 136 rfl rfl)) (fun _ h => h) rfl (by decide +kernel) ?_
    refine lv_iload_n X.1 X.2.1 (k := 1) (by decide +kernel) rfl (lv_at hl 0 rfl) ?_
    have hlen : (cn_pW C z i).length = 10 * i + 2 := by simp only [cn_pW, List.length_cons, cn_pY_len]
    refine cn_new (fs := cn_0_Yard) X cn_l_Yard hS (Or.inl (by simp [cn_pW])) (by rw [hlen]; omega) hw.1 hw.2.1 hw.2.2.1 (fun j hj => by have : j = 0 ∨ j = 1 ∨ j = 2 ∨ j = 3 ∨ j = 4 ∨ j = 5 ∨ j = 6 ∨ j = 7 ∨ j = 8 ∨ j = 9 ∨ j = 10 ∨ j = 11 ∨ j = 12 := (by omega); rcases this with  rfl | rfl | rfl | rfl | rfl | rfl | rfl | rfl | rfl | rfl | rfl | rfl | rfl  <;> rfl) (by show 1 + 10 * i + 1 ≤ 201; omega) (by show 20 + 101 * i + 13 ≤ 2040; omega) (by decide +kernel) (fun H1 hS1 => ?_)
    refine lv_dup X.1 X.2.1 (by decide +kernel) rfl ?_
    refine cn_call (as := []) (rest := [.ref (z + (cn_pW C z i).length), .int (Int32.ofInt (i : Int)), .ref (z + 1)]) X hS1 (by rw [hlen]; omega) cn_Yard hw.2.2.2.1 hw.2.2.1 hw.2.2.2.2.1 hw.2.2.2.2.2 rfl (by decide +kernel) (by decide) (by show 1 + 10 * i + 1 + 9 ≤ 201 ∧ 20 + 101 * i + 13 + 88 ≤ 2040; omega) hl.1 (by show 1 + (1 + (1 + 0)) ≤ 8; decide) (by decide +kernel) (fun H2 locs2 hS2 => ?_)
    have hlt : (cn_pW C z i ++ cn_X_Yard C (z + (cn_pW C z i).length))[(cn_pW C z i).length]? = some (.inr (11, cn_fs (z + (cn_pW C z i).length) cn_B_Yard cn_0_Yard 1)) := by
      rw [List.getElem?_append_right (Nat.le_refl _), Nat.sub_self]
      rfl
    refine va_astq X.1 X.2.1 X.2.2.2.2.2 hS2.1 cn_D hS2.2 1 3 (cn_pW C z i).length 11 (n := 20) (f := cn_pf z i) (cn_at (k := 1) rfl) rfl (cn_at hlt) cn_l_Yard.1 (og_vpin (by omega) (by omega) (by omega)) (by decide +kernel) (fun H3 locs3 hP3 _ hS3 => ?_)
    rw [cn_set, og_clamp (by omega) (by omega), Int.toNat_natCast] at hP3
    refine lv_iinc (i := 1) (n := 1) (k := 0) X.1 X.2.1 (by decide +kernel) hl rfl (v := Int32.ofInt ((i + 1 : Nat) : Int)) (by rw [← Int32.ofInt_add]; congr 1) (by decide) rfl (fun ls1 hl1 => ?_)
    refine lv_goto X.1 X.2.1 (off := -22) (tgt := 15) (by decide +kernel) rfl ?_
    have e1 : z + (cn_pW C z i).length = z + 2 + 10 * i := by rw [hlen]; omega
    rw [e1, cn_pf_s] at hP3
    refine W.widen (k := 1 + 10 * (i + 1)) (n := 20 + 101 * (i + 1)) (by omega) (by omega) ?_
    exact ih (i + 1) H3 locs3 ls1 (by omega) hl1 ⟨hP3, hS3⟩
end
theorem cn_bAO {C : String} : cn_bE (va_AO C) := fun a U g mk h => va_AO.moved (u := U) (U := U.calling g mk a) (Vm.Alike.refl U.vm) h
theorem cn_Past {l : Launch} {D : va_G} {C : Nat → ClassId} {z : Nat} : cn_MOKe cn_y_Past cn_c_Past 2 2 201 2040 l D C z [] (.inr (8, cn_0_Past)) (cn_X_Past C z) (va_AO "OpenGraves$Yard") := by
  refine cn_enterE (y := cn_y_Past) (cc := cn_c_Past) (idx := 3) (by decide) (Nat.le_of_ble_eq_true rfl) rfl (og_mc2 132 rfl rfl) (by decide +kernel) (by decide +kernel) (by decide) (fun p e s m args below meth c ls X hm hr hlk hz hl hS hE => ?_)
  refine lv_aload_n X.1 X.2.1 (pc := 4) (k := 0) (by decide +kernel) rfl (lv_at hl 0 rfl) ?_
  refine cn_push (v := 20) X (by decide +kernel) ?_
  refine cn_newq (n := 20) (index := 9) X hS (Or.inl (by simp)) (by show s.heap.size + 0 = z + 1; omega) hE (og_mc2 133 rfl rfl) (by decide) (by decide) (by decide) (by decide +kernel) (fun H1 hS => ?_)
  refine cn_put (q0 := 0) (k := 0) (index := 11) (fs := cn_0_Past) X cn_l_Past hm hS rfl (by decide) (og_mc2 136 rfl rfl) rfl rfl rfl (by decide +kernel) (fun H1 locs1 hS => ?_)
  refine cn_push (v := 0) X (by decide +kernel) ?_
  refine lv_istore_n (k := 1) X.1 X.2.1 (by decide +kernel) rfl hl (by decide) rfl (fun ls1 hl1 => ?_)
  exact cn_pastL X hr hlk hz 20 0 H1 locs1 ls1 (by decide) hl1 hS
end
