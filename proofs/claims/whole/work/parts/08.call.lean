-- switches, calls, methods
def og_lk (cs : List (Int × Nat)) (d : Nat) (x : Int) : Nat := match cs with
  | [] => d
  | q :: r => if x = q.1 then q.2 else og_lk r d x
theorem og_lk_d {cs : List (Int × Nat)} {d : Nat} {x : Int} (h : ∀ q ∈ cs, q.1 ≠ x) : og_lk cs d x = d := by
  induction cs with
  | nil => rfl
  | cons q r ih =>
    unfold og_lk
    rw [if_neg (fun z => h q List.mem_cons_self z.symm)]
    exact ih (fun q hq => h q (List.mem_cons_of_mem _ hq))
def og_tabok (b : Nat) (lo hi : Int) (offs : Array Int) (cs : List (Int × Nat)) (d : Nat) : Bool :=
  ((List.range (hi - lo + 1).toNat).all fun k => match offs[k]? with
    | some o => decide ((b : Int) + o = (og_lk cs d (lo + (k : Int)) : Int))
    | none => false) && cs.all (fun q => decide (lo ≤ q.1) && decide (q.1 ≤ hi))
section
variable {own : String} {cc : ByteArray} {nL dep tr : Nat} {lt lt' lt2 : List (Nat × Nat)} {a b m0 bp cp : Nat} {bl ctl : List (Nat × Nat)} {f : og_Ex} {g : Int → og_St}
theorem og_stab {b1 d len : Nat} {lo hi dflt : Int} {offs : Array Int} {cs : List (Int × Nat)} (hf : og_OKe own cc nL dep 0 lt a b 0 f) (hd : decode cc b = .ok (.tableswitch dflt lo hi offs, len)) (hdf : (b : Int) + dflt = (d : Int)) (hck : og_tabok b lo hi offs cs d = true)
    (hg : ∀ x, og_OKs own cc nL dep tr lt (og_lk cs d x) b1 lt' b1 lt' cp ctl (g x)) : og_OKs own cc nL dep tr lt a b1 lt' bp bl cp ctl (og_sw f g) := by
  intro p l e R s m args below meth c Q w A H0 C env h K Rr B Cn hh hR hk hb hc
  refine hf p l e R s m args below meth c Q w A H0 C env [] h _ (Nat.le_refl 0) hh (fun x h1 hx h2 => ?_)
  have k1 := hg x p l e R s m args below meth c Q w A H0 C env h1 K Rr K Cn h2 hR hk hk hc
  intro H locs ls hw hP hS hl
  have k2 := k1 H locs ls hw hP hS hl
  have ex := og_ti hx.1 hx.2
  unfold og_tabok at hck
  rw [Bool.and_eq_true, List.all_eq_true, List.all_eq_true] at hck
  by_cases ho : x < lo ∨ hi < x
  · refine lv_tableOut C.1 C.2.1 hd (by rw [ex]; exact ho) hdf ?_
    have : og_lk cs d x = d := og_lk_d (fun q hq z => by
      have := hck.2 q hq
      simp only [Bool.and_eq_true, decide_eq_true_eq] at this
      omega)
    rw [this] at k2
    exact k2
  · have hr := hck.1 (x - lo).toNat (List.mem_range.mpr (by omega))
    have e1 : lo + (((x - lo).toNat : Nat) : Int) = x := by omega
    rw [e1] at hr
    cases hoff : offs[(x - lo).toNat]? with
    | none => rw [hoff] at hr; cases hr
    | some o =>
      rw [hoff] at hr
      exact lv_tableIn C.1 C.2.1 hd (by rw [ex]; omega) (by rw [ex]; omega) (by rw [ex]; exact hoff) (of_decide_eq_true hr) k2
theorem og_slook {b1 d len : Nat} {dflt : Int} {ps : Array (Int × Int)} {cs : List (Int × Nat)} (hf : og_OKe own cc nL dep 0 lt a b 0 f) (hd : decode cc b = .ok (.lookupswitch dflt ps, len)) (hdf : (b : Int) + dflt = (d : Int)) (hord : (ps.toList.zip (ps.toList.drop 1)).all (fun (a, next) => a.1 < next.1) = true) (hck : ∀ x, (b : Int) + Op.lookupswitch.offset ps.toList dflt x = (og_lk cs d x : Int))
    (hg : ∀ x, og_OKs own cc nL dep tr lt (og_lk cs d x) b1 lt' b1 lt' cp ctl (g x)) : og_OKs own cc nL dep tr lt a b1 lt' bp bl cp ctl (og_sw f g) := by
  intro p l e R s m args below meth c Q w A H0 C env h K Rr B Cn hh hR hk hb hc
  refine hf p l e R s m args below meth c Q w A H0 C env [] h _ (Nat.le_refl 0) hh (fun x h1 hx h2 => ?_)
  have k1 := hg x p l e R s m args below meth c Q w A H0 C env h1 K Rr K Cn h2 hR hk hk hc
  intro H locs ls hw hP hS hl
  exact lv_lookup C.1 C.2.1 hd hord rfl (by rw [og_ti hx.1 hx.2]; exact hck x) (k1 H locs ls hw hP hS hl)
theorem og_scs {x : Int} {ls : List Int} {s1 s2 : og_St} (h1 : x ∈ ls → og_OKs own cc nL dep tr lt a b lt' bp bl cp ctl s1) (h2 : x ∉ ls → og_OKs own cc nL dep tr lt a b lt' bp bl cp ctl s2) : og_OKs own cc nL dep tr lt a b lt' bp bl cp ctl (og_cs x ls s1 s2) := by
  intro p l e R s m args below meth c Q w A H0 C env h K Rr B Cn hh hR hk hb hc
  by_cases hx : x ∈ ls
  · exact h1 hx p l e R s m args below meth c Q w A H0 C env h K Rr B Cn (hh.1 hx) hR hk hb hc
  · exact h2 hx p l e R s m args below meth c Q w A H0 C env h K Rr B Cn (hh.2 hx) hR hk hb hc
theorem og_sat {a' : Nat} {s1 : og_St} (e : a = a') (h : og_OKs own cc nL dep tr lt a' b lt' bp bl cp ctl s1) : og_OKs own cc nL dep tr lt a b lt' bp bl cp ctl s1 := e ▸ h
end
-- calls
def og_args : List og_Ex → List Int → Hp → (List Int → Hp → Prop) → Prop
  | [], _, h, K => K [] h
  | f :: fs, env, h, K => f env h fun x h1 => og_args fs env h1 fun xs h2 => K (x :: xs) h2
def og_typed (ids : List Int) : List Nat → List Int → Prop
  | [], [] => True
  | t :: ts, x :: xs => og_rg ids t x ∧ og_typed ids ts xs
  | _, _ => False
def og_cvs (w : og_Wd) : List Nat → List Int → List Value
  | t :: ts, x :: xs => og_cv w t x :: og_cvs w ts xs
  | _, _ => []
abbrev og_Dn : Type := List Int → Hp → (Int → Hp → Prop) → Prop
def og_call (den : og_Dn) (fs : List og_Ex) : og_Ex := fun env h K => og_args fs env h fun xs h1 => den xs h1 K
def og_tw (t : Nat) : Nat := if t = 1 then 2 else 1
def og_post (tr : Nat) (w : og_Wd) (K : Int → Hp → Prop) (A : Nat → Prop) : Array Value → State → Outcome → State → Prop := match tr with
  | 1 => va_Ql (S := Hp) (fun r u => K r.toInt u ∧ og_wf w.1 u) (fun u t => va_P w.2.1 og_cl (og_wW w u) t.heap) A
  | 2 => va_Qv (S := Hp) (fun u => K 0 u ∧ og_wf w.1 u) (fun u t => va_P w.2.1 og_cl (og_wW w u) t.heap) A
  | _ => va_Qi (S := Hp) (fun r u => K r.toInt u ∧ og_wf w.1 u) (fun u t => va_P w.2.1 og_cl (og_wW w u) t.heap) A
def og_pre (w : og_Wd) (sz : Nat) (vs : List Value) (h : Hp) : Array Value → State → Prop := va_Pc vs (fun U => U.heap.size = sz ∧ va_P w.2.1 og_cl (og_wW w h) U.heap ∧ va_K w.2.1 og_cl (og_tyA w) U ∧ va_D (fun _ => True) (og_wW w h) ∧ ∀ q ∈ og_nest, va_Nw q U)
def og_MOK (y : MethodName) (cc : ByteArray) (nL tr dep : Nat) (ts : List Nat) (den : og_Dn) : Prop :=
  ∀ (l : Launch) (w : og_Wd) (sz : Nat) (xs : List Int) (h : Hp) (K : Int → Hp → Prop), og_ws w.1 → og_typed w.1 ts xs → og_wf w.1 h → den xs h K →
    Met l y (.code y cc nL (og_rt tr) :: og_tbl) (og_rm dep) (og_pre w sz (og_cvs w ts xs) h) (og_post tr w K (og_A w sz)) 0 0 (og_A w sz)
def og_OKa (own : String) (cc : ByteArray) (nL dep n : Nat) (lt : List (Nat × Nat)) (a b : Nat) (ts : List Nat) (fs : List og_Ex) : Prop :=
  ∀ (p : Program) (l : Launch) (e : Env) (R : Room) (s : State) (m : MethodId) (args : Array Value) (below : List Frame) (meth : Method) (c : Code) (Q : State → Prop) (w : og_Wd) (A : Nat → Prop) (H0 : Heap), og_Cx own cc nL dep p R s m args c w A H0 →
    ∀ (env : List Int) (st : List Value) (h : Hp) (K : List Int → Hp → Prop), og_wd st ≤ n → og_args fs env h K → (∀ xs h', og_typed w.1 ts xs → K xs h' → og_Wt p l e R s m args below meth c Q w A H0 nL lt b env ((og_cvs w ts xs).reverse ++ st) h') → og_Wt p l e R s m args below meth c Q w A H0 nL lt a env st h
theorem og_wdt {w : og_Wd} {st : List Value} {x : Int} {n t : Nat} (hn : og_wd st ≤ n) : og_wd (og_cv w t x :: st) ≤ n + og_tw t := by
  unfold og_tw
  split
  · exact og_wd2 hn
  · exact og_wd1 hn (by assumption)
theorem og_mem_of {w : og_Wd} {A : Nat → Prop} {h : Hp} (hD : va_D A (og_wW w h)) : ∀ i ∈ w.1, A (w.2.2.1 i) := by
  intro i hi
  obtain ⟨q0, -, hq⟩ := og_at (w := w) (h := h) hi
  exact hD.2 q0 _ hq
theorem og_pre_blind {w : og_Wd} {sz : Nat} {vs : List Value} {h : Hp} : FrameBlind (og_pre w sz vs h) := by
  intro a U g mk q
  obtain ⟨q0, q1, qP, qK, qD, qN⟩ := q
  exact ⟨q0, q1, qP, va_K.moved (u := U) (U := U.calling g mk a) (Vm.Alike.refl U.vm) qK, qD, fun r hr => va_Nw.same (og_nest_tab hr) (u := U) (U := U.calling g mk a) rfl (qN r hr)⟩
section
variable {own : String} {cc : ByteArray} {nL dep n : Nat} {lt : List (Nat × Nat)} {a b t : Nat} {ts : List Nat} {f : og_Ex} {fs : List og_Ex}
theorem og_anil : og_OKa own cc nL dep n lt a a [] [] := by
  intro p l e R s m args below meth c Q w A H0 C env st h K hn hh hk
  exact hk [] h trivial hh
theorem og_acons {m0 : Nat} (hf : og_OKe own cc nL dep n lt a m0 t f) (hg : og_OKa own cc nL dep (n + og_tw t) lt m0 b ts fs) : og_OKa own cc nL dep n lt a b (t :: ts) (f :: fs) := by
  intro p l e R s m args below meth c Q w A H0 C env st h K hn hh hk
  refine hf p l e R s m args below meth c Q w A H0 C env st h _ hn hh (fun x h1 hx h2 => ?_)
  refine hg p l e R s m args below meth c Q w A H0 C env _ h1 _ (og_wdt hn) h2 (fun xs h3 hxs h4 => ?_)
  have := hk (x :: xs) h3 ⟨hx, hxs⟩ h4
  simpa only [og_cvs, List.reverse_cons, List.append_assoc, List.singleton_append] using this
end
section
variable {p : Program} {l : Launch} {e : Env} {R : Room} {s : State} {m : MethodId} {args : Array Value} {below : List Frame} {meth : Method} {c : Code} {Q : State → Prop} {w : og_Wd} {A : Nat → Prop} {H0 H : Heap} {locs : List Loc}
variable {own : String} {cc : ByteArray} {nL dep n : Nat} {lt : List (Nat × Nat)} {pc t : Nat} {env : List Int} {st0 rest : List Value} {h : Hp} {K : Int → Hp → Prop} {av : Array Value} {ls : Array Slot}
theorem og_sub_A (C : og_Cx own cc nL dep p R s m args c w A H0) (hS : va_S A H0 H locs) : ∀ q, og_A w H.size q → A q := by
  intro q hq
  rw [C.2.2.2.2.2.2.2.2.2.1]
  rcases hq with hq | hq
  · exact Or.inl hq
  · exact Or.inr (Nat.le_trans hS.1 hq)
theorem og_aft0 (C : og_Cx own cc nL dep p R s m args c w A H0) (hS : va_S A H0 H locs) (hl : og_lr w ls nL lt env) (hr : va_Run p l e R s m args below meth c H locs 0 0 0 0 (F0 m pc ls st0) rest (va_Qi (S := Hp) (fun r u => K r.toInt u ∧ og_wf w.1 u) (fun u t => va_P w.2.1 og_cl (og_wW w u) t.heap) (og_A w H.size) av) (og_A w H.size))
    (kk : ∀ x h', og_i32 x → K x h' → og_Wt p l e R s m args below meth c Q w A H0 nL lt (pc + 3) env (og_cv w 0 x :: rest) h') : W p l e R s m args below meth c H locs 0 0 Q (F0 m pc ls st0) := by
  refine va_calli hr hS (fun q _ hq => og_sub_A C hS q hq) (og_sub_A C hS) (fun r u t H1 locs1 ht hvm hw hB hz hk hS1 => ?_)
  have := kk r.toInt u (og_ri r) hw.1 H1 locs1 ls hw.2 (by rw [← ht]; exact hB) hS1 hl
  simp only [og_cv, og_oi] at this
  exact this
theorem og_aft1 (C : og_Cx own cc nL dep p R s m args c w A H0) (hS : va_S A H0 H locs) (hl : og_lr w ls nL lt env) (hr : va_Run p l e R s m args below meth c H locs 0 0 0 0 (F0 m pc ls st0) rest (va_Ql (S := Hp) (fun r u => K r.toInt u ∧ og_wf w.1 u) (fun u t => va_P w.2.1 og_cl (og_wW w u) t.heap) (og_A w H.size) av) (og_A w H.size))
    (kk : ∀ x h', og_i64 x → K x h' → og_Wt p l e R s m args below meth c Q w A H0 nL lt (pc + 3) env (og_cv w 1 x :: rest) h') : W p l e R s m args below meth c H locs 0 0 Q (F0 m pc ls st0) := by
  refine va_calll hr hS (fun q _ hq => og_sub_A C hS q hq) (og_sub_A C hS) (fun r u t H1 locs1 ht hvm hw hB hz hk hS1 => ?_)
  have := kk r.toInt u (og_rl r) hw.1 H1 locs1 ls hw.2 (by rw [← ht]; exact hB) hS1 hl
  simp only [og_cv, og_ol] at this
  exact this
theorem og_aft2 (C : og_Cx own cc nL dep p R s m args c w A H0) (hS : va_S A H0 H locs) (hl : og_lr w ls nL lt env) (hr : va_Run p l e R s m args below meth c H locs 0 0 0 0 (F0 m pc ls st0) rest (va_Qv (S := Hp) (fun u => K 0 u ∧ og_wf w.1 u) (fun u t => va_P w.2.1 og_cl (og_wW w u) t.heap) (og_A w H.size) av) (og_A w H.size))
    (kk : ∀ h', K 0 h' → og_Wt p l e R s m args below meth c Q w A H0 nL lt (pc + 3) env rest h') : W p l e R s m args below meth c H locs 0 0 Q (F0 m pc ls st0) := by
  refine va_callv hr hS (fun q _ hq => og_sub_A C hS q hq) (og_sub_A C hS) (fun u t H1 locs1 ht hvm hw hB hz hk hS1 => ?_)
  exact kk u hw.1 H1 locs1 ls hw.2 (by rw [← ht]; exact hB) hS1 hl
end
-- what a caller knows of a callee, statically
def og_sV (own : String) (idx : Nat) (y : MethodName) (cy : ByteArray) (ny tr dy dep kn na : Nat) : Prop :=
  (∃ ci sl T N, og_ki kn = .inl (ci, sl) ∧ 0 < sl.length ∧ og_cl[ci]? = some (y.cls, T, N)) ∧ Cond.instanceMethod y ∈ og_tbl ∧ Cond.selects y.cls y y ∈ og_tbl ∧ Cond.initialized y.cls ∈ og_tbl ∧ Cond.code y cy ny (og_rt tr) ∈ og_tbl ∧
  (y.cls ≠ "java/lang/invoke/MethodHandle" ∧ y.cls ≠ "java/lang/invoke/VarHandle" ∧ (parseMethodDescriptor y.desc).map (fun d => d.parameters.length) = some na) ∧ dy + 1 ≤ dep ∧ ny ≤ 40
def og_sS (y : MethodName) (cy : ByteArray) (ny tr dy dep na : Nat) : Prop :=
  Cond.static y ∈ og_tbl ∧ Cond.initialized y.cls ∈ og_tbl ∧ Cond.code y cy ny (og_rt tr) ∈ og_tbl ∧
  (y.cls ≠ "java/lang/invoke/MethodHandle" ∧ y.cls ≠ "java/lang/invoke/VarHandle" ∧ (parseMethodDescriptor y.desc).map (fun d => d.parameters.length) = some na) ∧ dy + 1 ≤ dep ∧ ny ≤ 40
theorem og_goodC {y : MethodName} {cy : ByteArray} {ny tr : Nat} (h : Cond.code y cy ny (og_rt tr) ∈ og_tbl) : GoodIn og_tbl (Cond.code y cy ny (og_rt tr) :: og_tbl) := by
  intro q hq
  rcases List.mem_cons.mp hq with rfl | hq
  · exact og_tbl_good _ h
  · exact og_tbl_good _ hq
theorem og_typed_len {ids : List Int} : ∀ {ts : List Nat} {xs : List Int}, og_typed ids ts xs → ∀ w : og_Wd, (og_cvs w ts xs).length = ts.length
  | [], [], _, _ => rfl
  | _ :: _, _ :: _, h, w => by
    show (og_cvs w _ _).length + 1 = _ + 1
    rw [og_typed_len h.2 w]
  | [], _ :: _, h, _ => h.elim
  | _ :: _, [], h, _ => h.elim
