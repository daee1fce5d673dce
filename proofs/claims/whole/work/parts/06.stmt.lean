-- statements
abbrev og_St : Type := List Int → Hp → (List Int → Hp → Prop) → (Int → Hp → Prop) → (List Int → Hp → Prop) → (List Int → Hp → Prop) → Prop
def og_rt (tr : Nat) : Option FieldType := match tr with
  | 0 => some .int
  | 1 => some .long
  | 2 => none
  | _ => some .boolean
def og_rv (tr : Nat) (x : Int) : Option Value := match tr with
  | 0 => some (.int (Int32.ofInt x))
  | 1 => some (.long (Int64.ofInt x))
  | 2 => none
  | _ => some (.int (Int32.ofInt x))
def og_RT (s : State) (args : Array Value) (below : List Frame) (meth : Method) (Q : State → Prop) (w : og_Wd) (A : Nat → Prop) (H0 : Heap) (tr : Nat) (R : Int → Hp → Prop) : Prop :=
  meth.locks = false ∧ meth.sig.returnType = og_rt tr ∧ ∃ (Qc : Array Value → State → Outcome → State → Prop) (free : Addr → Prop), Q = MQ below Qc args s 0 0 free ∧ (∀ q, A q → free q) ∧
    ∀ (x : Int) (h' : Hp) (H : Heap) (locs : List Loc) (t : State), og_wf w.1 h' → va_P w.2.1 og_cl (og_wW w h') H → va_S A H0 H locs → (if tr = 1 then og_i64 x else if tr = 2 then x = 0 else og_i32 x) → R x h' → t.heap = H → s.WarmedH t.vm → Qc args s (.returned (og_rv tr x)) t
def og_OKs (own : String) (cc : ByteArray) (nL dep tr : Nat) (lt : List (Nat × Nat)) (a b : Nat) (lt' : List (Nat × Nat)) (bp : Nat) (bl : List (Nat × Nat)) (cp : Nat) (ctl : List (Nat × Nat)) (f : og_St) : Prop :=
  ∀ (p : Program) (l : Launch) (e : Env) (R : Room) (s : State) (m : MethodId) (args : Array Value) (below : List Frame) (meth : Method) (c : Code) (Q : State → Prop) (w : og_Wd) (A : Nat → Prop) (H0 : Heap), og_Cx own cc nL dep p R s m args c w A H0 →
    ∀ (env : List Int) (h : Hp) (K : List Int → Hp → Prop) (Rr : Int → Hp → Prop) (B Cn : List Int → Hp → Prop), f env h K Rr B Cn → og_RT s args below meth Q w A H0 tr Rr →
      (∀ e1 h1, K e1 h1 → og_Wt p l e R s m args below meth c Q w A H0 nL lt' b e1 [] h1) → (∀ e1 h1, B e1 h1 → og_Wt p l e R s m args below meth c Q w A H0 nL bl bp e1 [] h1) → (∀ e1 h1, Cn e1 h1 → og_Wt p l e R s m args below meth c Q w A H0 nL ctl cp e1 [] h1) →
      og_Wt p l e R s m args below meth c Q w A H0 nL lt a env [] h
def og_skip : og_St := fun env h K _ _ _ => K env h
def og_seq (s1 s2 : og_St) : og_St := fun env h K R B C => s1 env h (fun e1 h1 => s2 e1 h1 K R B C) R B C
def og_cut (s1 s2 : og_St) : og_St := fun env h K R B C => ∃ P : List Int → Hp → Prop, s1 env h P R B C ∧ ∀ e1 h1, P e1 h1 → s2 e1 h1 K R B C
def og_set (k : Nat) (f : og_Ex) : og_St := fun env h K _ _ _ => f env h fun x h1 => K (env.set k x) h1
def og_inc (k : Nat) (n : Int) : og_St := fun env h K _ _ _ => og_i32 (env.getD k 0 + n) ∧ K (env.set k (env.getD k 0 + n)) h
def og_putf (k : Nat) (fo fe : og_Ex) : og_St := fun env h K _ _ _ => fo env h fun o h1 => fe env h1 fun x h2 => K env (og_up h2 o (k : Int) x)
def og_putz (k : Nat) (fo fe : og_Ex) : og_St := fun env h K _ _ _ => fo env h fun o h1 => fe env h1 fun x h2 => (x = 0 ∨ x = 1) ∧ K env (og_up h2 o (k : Int) x)
def og_ast (n : Nat) (fa fi fe : og_Ex) : og_St := fun env h K _ _ _ => fa env h fun a h1 => fi env h1 fun j h2 => fe env h2 fun x h3 => 0 ≤ j ∧ j < (n : Int) ∧ K env (og_up h3 a j x)
-- f op= e on a field, on a cell: the value read, then the expression
def og_top (v : Int) : og_Ex := fun _ h K => K v h
def og_putop (k : Nat) (fo : og_Ex) (op : og_Ex → og_Ex) : og_St := fun env h K _ _ _ => fo env h fun o h1 => op (og_top (h1 o (k : Int))) env h1 fun x h2 => K env (og_up h2 o (k : Int) x)
def og_astop (n : Nat) (fa fi : og_Ex) (op : og_Ex → og_Ex) : og_St := fun env h K _ _ _ => fa env h fun a h1 => fi env h1 fun j h2 => 0 ≤ j ∧ j < (n : Int) ∧ op (og_top (h2 a j)) env h2 fun x h3 => K env (og_up h3 a j x)
def og_exp (f : og_Ex) : og_St := fun env h K _ _ _ => f env h fun _ h1 => K env h1
def og_if (c : og_Cd) (s1 s2 : og_St) : og_St := fun env h K R B C => c env h (fun h1 => s1 env h1 K R B C) (fun h1 => s2 env h1 K R B C)
def og_while (c : og_Cd) (s st : og_St) : og_St := fun env h K R _ _ => ∃ I : Nat → List Int → Hp → Prop, (∃ n, I n env h) ∧
  ∀ n e1 h1, I n e1 h1 → c e1 h1 (fun h2 => s e1 h2 (fun e3 h3 => st e3 h3 (fun e4 h4 => ∃ m, m < n ∧ I m e4 h4) R (fun _ _ => False) (fun _ _ => False)) R K (fun e3 h3 => st e3 h3 (fun e4 h4 => ∃ m, m < n ∧ I m e4 h4) R (fun _ _ => False) (fun _ _ => False))) (fun h2 => K e1 h2)
def og_ret (f : og_Ex) : og_St := fun env h _ R _ _ => f env h R
def og_retz (f : og_Ex) : og_St := fun env h _ R _ _ => f env h fun x h1 => (x = 0 ∨ x = 1) ∧ R x h1
def og_retv : og_St := fun _ h _ R _ _ => R 0 h
def og_brk : og_St := fun env h _ _ B _ => B env h
def og_cont : og_St := fun env h _ _ _ C => C env h
def og_cs (x : Int) (ls : List Int) (s t : og_St) : og_St := fun env h K R B C => (x ∈ ls → s env h K R B C) ∧ (x ∉ ls → t env h K R B C)
def og_sw (f : og_Ex) (g : Int → og_St) : og_St := fun env h K R _ C => f env h fun x h1 => g x env h1 K R K C
def og_stk (lt lt' : List (Nat × Nat)) (i t : Nat) : Bool := lt'.all fun q => q == (i, t) || (lt.contains q && !(q.1 == i) && !(q.1 + 1 == i && q.2 == 1) && !(t == 1 && q.1 == i + 1))
theorem og_lvmono {ls : Array Slot} {nL : Nat} {l l' : List (Nat × Value)} (h : lv_has ls nL l) (hs : ∀ q ∈ l', q ∈ l) : lv_has ls nL l' := ⟨h.1, h.2.1, fun q hq => h.2.2 q (hs q hq)⟩
theorem og_cat2 {w : og_Wd} {t : Nat} {x : Int} (h : (og_cv w t x).category = 2) : t = 1 := by
  match t with
  | 0 => cases h
  | 1 => rfl
  | t + 2 => cases h
theorem og_lr_set {w : og_Wd} {ls ls' : Array Slot} {nL i t : Nat} {lt lt' : List (Nat × Nat)} {env : List Int} {x : Int} (hl : og_lr w ls nL lt env) (hi : i < nL) (hst : og_stk lt lt' i t = true) (hx : og_rg w.1 t x)
    (hh : lv_has ls' nL ((i, og_cv w t x) :: (lt.map fun q => (q.1, og_cv w q.2 (env.getD q.1 0))).filter (fun q => !(q.1 == i) && (!(t == 1 && q.1 == i + 1) && !(q.1 + 1 == i && q.2.category == 2))))) : og_lr w ls' nL lt' (env.set i x) := by
  have hlen := hl.2.2
  have key : ∀ q ∈ lt', (q = (i, t)) ∨ (q ∈ lt ∧ q.1 ≠ i ∧ ¬ (q.1 + 1 = i ∧ q.2 = 1) ∧ ¬ (t = 1 ∧ q.1 = i + 1)) := by
    intro q hq
    have := List.all_eq_true.mp hst q hq
    simp only [Bool.or_eq_true, beq_iff_eq, Bool.and_eq_true, Bool.not_eq_true', Bool.and_eq_false_iff, beq_eq_false_iff_ne, List.contains_iff_mem] at this
    rcases this with h1 | ⟨⟨⟨h1, h2⟩, h3⟩, h4⟩
    · exact Or.inl h1
    · refine Or.inr ⟨h1, h2, fun z => ?_, fun z => ?_⟩
      · rcases h3 with h3 | h3
        · exact h3 z.1
        · exact h3 z.2
      · rcases h4 with h4 | h4
        · exact h4 z.1
        · exact h4 z.2
  refine ⟨og_lvmono hh (fun q hq => ?_), fun q hq => ?_, by rw [List.length_set]; exact hlen⟩
  · obtain ⟨q', h1, rfl⟩ := List.mem_map.mp hq
    rcases key q' h1 with rfl | ⟨h2, h3, h4, h5⟩
    · rw [List.getD_eq_getElem?_getD, List.getElem?_set_self (by omega)]
      exact List.mem_cons_self
    · refine List.mem_cons_of_mem _ (List.mem_filter.mpr ⟨List.mem_map.mpr ⟨q', h2, ?_⟩, ?_⟩)
      · rw [List.getD_eq_getElem?_getD, List.getD_eq_getElem?_getD, List.getElem?_set_ne (Ne.symm h3)]
      · simp only [Bool.and_eq_true, Bool.not_eq_true', beq_eq_false_iff_ne, Bool.and_eq_false_iff]
        refine ⟨h3, ?_, ?_⟩
        · by_cases e : t = 1
          · exact Or.inr (fun z => h5 ⟨e, z⟩)
          · exact Or.inl e
        · by_cases e : q'.1 + 1 = i
          · exact Or.inr (fun z => h4 ⟨e, og_cat2 z⟩)
          · exact Or.inl e
  · rcases key q hq with rfl | ⟨h2, h3, -, -⟩
    · rw [List.getD_eq_getElem?_getD, List.getElem?_set_self (by omega)]
      exact hx
    · have := hl.2.1 q h2
      rw [List.getD_eq_getElem?_getD] at this ⊢
      rw [List.getElem?_set_ne (Ne.symm h3)]
      exact this
theorem og_lr_sub {w : og_Wd} {ls : Array Slot} {nL : Nat} {lt lt' : List (Nat × Nat)} {env : List Int} (hl : og_lr w ls nL lt env) (hs : lt'.all (fun q => lt.contains q) = true) : og_lr w ls nL lt' env := by
  have key : ∀ q ∈ lt', q ∈ lt := fun q hq => by
    have := List.all_eq_true.mp hs q hq
    simpa using this
  refine ⟨og_lvmono hl.1 (fun q hq => ?_), fun q hq => hl.2.1 q (key q hq), hl.2.2⟩
  obtain ⟨q', h1, h2⟩ := List.mem_map.mp hq
  exact List.mem_map.mpr ⟨q', key q' h1, h2⟩
section
variable {own : String} {cc : ByteArray} {nL dep tr : Nat} {lt lt' lt2 : List (Nat × Nat)} {a b m0 bp cp : Nat} {bl ctl : List (Nat × Nat)} {f g : og_Ex} {c : og_Cd} {s1 s2 : og_St}
theorem og_sskip : og_OKs own cc nL dep tr lt a a lt bp bl cp ctl og_skip := by
  intro p l e R s m args below meth c Q w A H0 C env h K Rr B Cn hh hR hk hb hc
  exact hk env h hh
theorem og_sseq (h1 : og_OKs own cc nL dep tr lt a m0 lt' bp bl cp ctl s1) (h2 : og_OKs own cc nL dep tr lt' m0 b lt2 bp bl cp ctl s2) : og_OKs own cc nL dep tr lt a b lt2 bp bl cp ctl (og_seq s1 s2) := by
  intro p l e R s m args below meth c Q w A H0 C env h K Rr B Cn hh hR hk hb hc
  exact h1 p l e R s m args below meth c Q w A H0 C env h _ Rr B Cn hh hR (fun e1 g1 k1 => h2 p l e R s m args below meth c Q w A H0 C e1 g1 K Rr B Cn k1 hR hk hb hc) hb hc
theorem og_scut (h1 : og_OKs own cc nL dep tr lt a m0 lt' bp bl cp ctl s1) (h2 : og_OKs own cc nL dep tr lt' m0 b lt2 bp bl cp ctl s2) : og_OKs own cc nL dep tr lt a b lt2 bp bl cp ctl (og_cut s1 s2) := by
  intro p l e R s m args below meth c Q w A H0 C env h K Rr B Cn hh hR hk hb hc
  obtain ⟨P, q1, q2⟩ := hh
  exact h1 p l e R s m args below meth c Q w A H0 C env h P Rr B Cn q1 hR (fun e1 g1 k1 => h2 p l e R s m args below meth c Q w A H0 C e1 g1 K Rr B Cn (q2 e1 g1 k1) hR hk hb hc) hb hc
/-- fewer locals at the end -/
theorem og_sdrop (h1 : og_OKs own cc nL dep tr lt a b lt' bp bl cp ctl s1) (hs : lt2.all (fun q => lt'.contains q) = true) : og_OKs own cc nL dep tr lt a b lt2 bp bl cp ctl s1 := by
  intro p l e R s m args below meth c Q w A H0 C env h K Rr B Cn hh hR hk hb hc
  exact h1 p l e R s m args below meth c Q w A H0 C env h K Rr B Cn hh hR (fun e1 g1 k1 H locs ls hw hP hS hl => hk e1 g1 k1 H locs ls hw hP hS (og_lr_sub hl hs)) hb hc
theorem og_gS {b' : Nat} {off : Int} (h1 : og_OKs own cc nL dep tr lt a b lt' bp bl cp ctl s1) (hd : decode cc b = .ok (.goto off, 3)) (ho : (b : Int) + off = (b' : Int)) : og_OKs own cc nL dep tr lt a b' lt' bp bl cp ctl s1 := by
  intro p l e R s m args below meth c Q w A H0 C env h K Rr B Cn hh hR hk hb hc
  exact h1 p l e R s m args below meth c Q w A H0 C env h K Rr B Cn hh hR (fun e1 g1 k1 H locs ls hw hP hS hl => lv_goto C.1 C.2.1 hd ho (hk e1 g1 k1 H locs ls hw hP hS hl)) hb hc
theorem og_gE {a' : Nat} {off : Int} (h1 : og_OKs own cc nL dep tr lt a' b lt' bp bl cp ctl s1) (hd : decode cc a = .ok (.goto off, 3)) (ho : (a : Int) + off = (a' : Int)) : og_OKs own cc nL dep tr lt a b lt' bp bl cp ctl s1 := by
  intro p l e R s m args below meth c Q w A H0 C env h K Rr B Cn hh hR hk hb hc H locs ls hw hP hS hl
  exact lv_goto C.1 C.2.1 hd ho (h1 p l e R s m args below meth c Q w A H0 C env h K Rr B Cn hh hR hk hb hc H locs ls hw hP hS hl)
theorem og_sbrk (hs : bl.all (fun q => lt.contains q) = true) : og_OKs own cc nL dep tr lt bp b lt' bp bl cp ctl og_brk := by
  intro p l e R s m args below meth c Q w A H0 C env h K Rr B Cn hh hR hk hb hc H locs ls hw hP hS hl
  exact hb env h hh H locs ls hw hP hS (og_lr_sub hl hs)
theorem og_scont (hs : ctl.all (fun q => lt.contains q) = true) : og_OKs own cc nL dep tr lt cp b lt' bp bl cp ctl og_cont := by
  intro p l e R s m args below meth c Q w A H0 C env h K Rr B Cn hh hR hk hb hc H locs ls hw hP hS hl
  exact hc env h hh H locs ls hw hP hS (og_lr_sub hl hs)
theorem og_istore {i : Nat} (hf : og_OKe own cc nL dep 0 lt a b (0) f) (hi : i < nL) (hst : og_stk lt lt' i (0) = true) (hd : decode cc b = .ok (.istore i, 2)) : og_OKs own cc nL dep tr lt a (b + 2) lt' bp bl cp ctl (og_set i f) := by
  intro p l e R s m args below meth c Q w A H0 C env h K Rr B Cn hh hR hk hb hc
  refine hf p l e R s m args below meth c Q w A H0 C env [] h _ (Nat.le_refl 0) hh (fun x h1 hx h2 => ?_)
  intro H locs ls hw hP hS hl
  refine lv_istore C.1 C.2.1 hd hl.1 hi rfl (fun ls' hl' => ?_)
  exact hk _ _ h2 H locs ls' hw hP hS (og_lr_set hl (by omega) hst hx hl')
theorem og_istore_n {k : Fin 4} {i : Nat} (hf : og_OKe own cc nL dep 0 lt a b (0) f) (hk0 : (k : Nat) = i) (hi : i < nL) (hst : og_stk lt lt' i (0) = true) (hd : decode cc b = .ok (.istore_n k, 1)) : og_OKs own cc nL dep tr lt a (b + 1) lt' bp bl cp ctl (og_set i f) := by
  intro p l e R s m args below meth c Q w A H0 C env h K Rr B Cn hh hR hk hb hc
  refine hf p l e R s m args below meth c Q w A H0 C env [] h _ (Nat.le_refl 0) hh (fun x h1 hx h2 => ?_)
  intro H locs ls hw hP hS hl
  refine lv_istore_n C.1 C.2.1 hd hk0 hl.1 hi rfl (fun ls' hl' => ?_)
  exact hk _ _ h2 H locs ls' hw hP hS (og_lr_set hl (by omega) hst hx hl')
theorem og_lstore {i : Nat} (hf : og_OKe own cc nL dep 0 lt a b (1) f) (hi : i + 1 < nL) (hst : og_stk lt lt' i (1) = true) (hd : decode cc b = .ok (.lstore i, 2)) : og_OKs own cc nL dep tr lt a (b + 2) lt' bp bl cp ctl (og_set i f) := by
  intro p l e R s m args below meth c Q w A H0 C env h K Rr B Cn hh hR hk hb hc
  refine hf p l e R s m args below meth c Q w A H0 C env [] h _ (Nat.le_refl 0) hh (fun x h1 hx h2 => ?_)
  intro H locs ls hw hP hS hl
  refine lv_lstore C.1 C.2.1 hd hl.1 hi rfl (fun ls' hl' => ?_)
  exact hk _ _ h2 H locs ls' hw hP hS (og_lr_set hl (by omega) hst hx hl')
theorem og_lstore_n {k : Fin 4} {i : Nat} (hf : og_OKe own cc nL dep 0 lt a b (1) f) (hk0 : (k : Nat) = i) (hi : i + 1 < nL) (hst : og_stk lt lt' i (1) = true) (hd : decode cc b = .ok (.lstore_n k, 1)) : og_OKs own cc nL dep tr lt a (b + 1) lt' bp bl cp ctl (og_set i f) := by
  intro p l e R s m args below meth c Q w A H0 C env h K Rr B Cn hh hR hk hb hc
  refine hf p l e R s m args below meth c Q w A H0 C env [] h _ (Nat.le_refl 0) hh (fun x h1 hx h2 => ?_)
  intro H locs ls hw hP hS hl
  refine lv_lstore_n C.1 C.2.1 hd hk0 hl.1 hi rfl (fun ls' hl' => ?_)
  exact hk _ _ h2 H locs ls' hw hP hS (og_lr_set hl (by omega) hst hx hl')
theorem og_astore {i t : Nat} (hf : og_OKe own cc nL dep 0 lt a b (t + 2) f) (hi : i < nL) (hst : og_stk lt lt' i (t + 2) = true) (hd : decode cc b = .ok (.astore i, 2)) : og_OKs own cc nL dep tr lt a (b + 2) lt' bp bl cp ctl (og_set i f) := by
  intro p l e R s m args below meth c Q w A H0 C env h K Rr B Cn hh hR hk hb hc
  refine hf p l e R s m args below meth c Q w A H0 C env [] h _ (Nat.le_refl 0) hh (fun x h1 hx h2 => ?_)
  intro H locs ls hw hP hS hl
  refine lv_astore C.1 C.2.1 hd hl.1 hi rfl (fun ls' hl' => ?_)
  exact hk _ _ h2 H locs ls' hw hP hS (og_lr_set hl (by omega) hst hx hl')
theorem og_astore_n {k : Fin 4} {i t : Nat} (hf : og_OKe own cc nL dep 0 lt a b (t + 2) f) (hk0 : (k : Nat) = i) (hi : i < nL) (hst : og_stk lt lt' i (t + 2) = true) (hd : decode cc b = .ok (.astore_n k, 1)) : og_OKs own cc nL dep tr lt a (b + 1) lt' bp bl cp ctl (og_set i f) := by
  intro p l e R s m args below meth c Q w A H0 C env h K Rr B Cn hh hR hk hb hc
  refine hf p l e R s m args below meth c Q w A H0 C env [] h _ (Nat.le_refl 0) hh (fun x h1 hx h2 => ?_)
  intro H locs ls hw hP hS hl
  refine lv_astore_n C.1 C.2.1 hd hk0 hl.1 hi rfl (fun ls' hl' => ?_)
  exact hk _ _ h2 H locs ls' hw hP hS (og_lr_set hl (by omega) hst hx hl')
theorem og_iinc {i j : Nat} {x : Int} (hj : lt[j]? = some (i, 0)) (hi : i < nL) (hst : og_stk lt lt' i 0 = true) (hd : decode cc a = .ok (.iinc i x, 3)) : og_OKs own cc nL dep tr lt a (a + 3) lt' bp bl cp ctl (og_inc i x) := by
  intro p l e R s m args below meth c Q w A H0 C env h K Rr B Cn hh hR hk hb hc
  intro H locs ls hw hP hS hl
  have g : (lt.map fun q => (q.1, og_cv w q.2 (env.getD q.1 0)))[j]? = some (i, .int (Int32.ofInt (env.getD i 0))) := by rw [List.getElem?_map, hj]; rfl
  refine lv_iinc C.1 C.2.1 hd hl.1 g (Int32.ofInt_add _ _).symm hi rfl (fun ls' hl' => ?_)
  exact hk _ _ hh.2 H locs ls' hw hP hS (og_lr_set hl hi hst hh.1 hl')
theorem og_put_fin {w : og_Wd} {H1 : Heap} {h : Hp} {i x : Int} {kn ci k t q0 : Nat} {sl : List (Nat × Option (Int → Int))} (hn : w.1.Nodup) (hq : w.1[q0]? = some i) (hkd : og_kd i = kn) (hki : og_ki kn = .inl (ci, sl)) (hs : sl[k]? = some (t, none))
    (hP : va_P w.2.1 og_cl ((og_wW w h).set q0 (w.2.2.1 i, .inr (ci, (sl.mapIdx (og_ff w h i)).set k (og_cv w t x)))) H1) : va_P w.2.1 og_cl (og_wW w (og_up h i (k : Int) x)) H1 := by
  rw [← og_up_obj hs, ← og_ce_obj (w := w) (h := og_up h i (k : Int) x) hkd hki, og_setW hn hq (fun j hj => og_up_ne hj)] at hP
  exact hP
theorem og_fitv {w : og_Wd} {t : Nat} {x : Int} {ty : FieldType} (h : (t = 0 ∧ ty = .int) ∨ (t = 1 ∧ ty = .long) ∨ (∃ t', t = t' + 2) ∧ ∃ C, ty = .object C) : narrow ty (og_cv w t x) = og_cv w t x ∧ fits ty (og_cv w t x) = true := by
  rcases h with ⟨rfl, rfl⟩ | ⟨rfl, rfl⟩ | ⟨⟨t', rfl⟩, C, rfl⟩ <;> exact ⟨rfl, rfl⟩
theorem og_fitz {w : og_Wd} {x : Int} (h : x = 0 ∨ x = 1) : narrow .boolean (og_cv w 0 x) = og_cv w 0 x ∧ fits .boolean (og_cv w 0 x) = true := by
  rcases h with rfl | rfl <;> exact ⟨rfl, rfl⟩
theorem og_putf_ {kn ci k t ix N : Nat} {sl : List (Nat × Option (Int → Int))} {C : String} {T : u_T} {ty0 : Nat → FieldType} (hf : og_OKe own cc nL dep 0 lt a m0 (kn + 4) f) (hg : og_OKe own cc nL dep 1 lt m0 b t g) (hki : og_ki kn = .inl (ci, sl)) (hs : sl[k]? = some (t, none)) (hin : ∀ q ∈ u_ws C T N, q ∈ og_tbl) (hty0 : ∀ k, k < N → parseFieldDescriptor (T k).2.2.1 = some (ty0 k)) (hnm : ∀ a, a < N → ∀ b, b < N → a ≠ b → (T a).2.1 ≠ (T b).2.1) (hc0 : og_cl[ci]? = some (C, T, N)) (hk0 : k < N) (hfin : (T k).2.2.2 = false)
    {ty : FieldType} (hd0 : parseFieldDescriptor (T k).2.2.1 = some ty) (hty : (t = 0 ∧ ty = .int) ∨ (t = 1 ∧ ty = .long) ∨ (∃ t1, t = t1 + 2) ∧ ∃ C, ty = .object C) (hlink : Cond.fieldLink own ix (T k).1 (T k).2.1 (T k).2.2.1 ∈ og_tbl) (hd : decode cc b = .ok (.putfield ix, 3)) : og_OKs own cc nL dep tr lt a (b + 3) lt bp bl cp ctl (og_putf k f g) := by
  intro p l e R s m args below meth c Q w A H0 C env h K Rr B Cn hh hR hk hb hc
  refine hf p l e R s m args below meth c Q w A H0 C env [] h _ (Nat.le_refl 0) hh (fun x h1 hx h2 => ?_)
  refine hg p l e R s m args below meth c Q w A H0 C env _ h1 _ (og_wd1 (Nat.le_refl 0) (by omega)) h2 (fun y h3 hy h4 => ?_)
  intro H locs ls hw hP hS hl
  obtain ⟨q0, g0, g1, g2⟩ := og_obj (w := w) (h := h3) hx.1 hx.2 hki hs
  have hft := og_fitv (w := w) (x := y) hty
  refine va_put C.1 C.2.1 C.2.2.2.2.1 hin ty0 hty0 hnm C.2.2.2.1 C.2.2.2.2.2.1 hP (C.2.2.2.2.2.2.2.2.1 h3) hS q0 g1 hc0 k hk0 (C.2.2.2.2.1 _ hlink) (fun _ h => h) hfin hd0 hft.1 hft.2 (List.getElem?_eq_some_iff.mp g2).1 hd (fun H1 locs1 hP1 _ hS1 => ?_)
  refine hk _ _ h4 H1 locs1 ls (og_wf_up hw (by rw [og_sty_obj hx.2 hki hs]; exact hy)) (og_put_fin C.2.2.2.2.2.2.1.1 g0 hx.2 hki hs hP1) hS1 hl
theorem og_putfN {kn ci k t ix N : Nat} {sl : List (Nat × Option (Int → Int))} {C host : String} {T : u_T} {ty0 : Nat → FieldType} (hf : og_OKe own cc nL dep 0 lt a m0 (kn + 4) f) (hg : og_OKe own cc nL dep 1 lt m0 b t g) (hki : og_ki kn = .inl (ci, sl)) (hs : sl[k]? = some (t, none)) (hin : ∀ q ∈ u_ws C T N, q ∈ og_tbl) (hty0 : ∀ k, k < N → parseFieldDescriptor (T k).2.2.1 = some (ty0 k)) (hnm : ∀ a, a < N → ∀ b, b < N → a ≠ b → (T a).2.1 ≠ (T b).2.1) (hc0 : og_cl[ci]? = some (C, T, N)) (hk0 : k < N) (hfin : (T k).2.2.2 = false)
    {ty : FieldType} (hd0 : parseFieldDescriptor (T k).2.2.1 = some ty) (hty : (t = 0 ∧ ty = .int) ∨ (t = 1 ∧ ty = .long) ∨ (∃ t1, t = t1 + 2) ∧ ∃ C, ty = .object C) (hlink : Cond.fieldLinkNest own ix (T k).1 (T k).2.1 (T k).2.2.1 host ∈ og_nest) (hd : decode cc b = .ok (.putfield ix, 3)) : og_OKs own cc nL dep tr lt a (b + 3) lt bp bl cp ctl (og_putf k f g) := by
  intro p l e R s m args below meth c Q w A H0 C env h K Rr B Cn hh hR hk hb hc
  refine hf p l e R s m args below meth c Q w A H0 C env [] h _ (Nat.le_refl 0) hh (fun x h1 hx h2 => ?_)
  refine hg p l e R s m args below meth c Q w A H0 C env _ h1 _ (og_wd1 (Nat.le_refl 0) (by omega)) h2 (fun y h3 hy h4 => ?_)
  intro H locs ls hw hP hS hl
  obtain ⟨q0, g0, g1, g2⟩ := og_obj (w := w) (h := h3) hx.1 hx.2 hki hs
  have hft := og_fitv (w := w) (x := y) hty
  refine va_putN C.1 C.2.1 C.2.2.2.2.1 hin ty0 hty0 hnm C.2.2.2.1 C.2.2.2.2.2.1 hP (C.2.2.2.2.2.2.2.2.1 h3) hS q0 g1 hc0 k hk0 (C.2.2.2.2.2.2.2.2.2.2 _ hlink) (fun _ h => h) hfin hd0 hft.1 hft.2 (List.getElem?_eq_some_iff.mp g2).1 hd (fun H1 locs1 hP1 _ hS1 => ?_)
  refine hk _ _ h4 H1 locs1 ls (og_wf_up hw (by rw [og_sty_obj hx.2 hki hs]; exact hy)) (og_put_fin C.2.2.2.2.2.2.1.1 g0 hx.2 hki hs hP1) hS1 hl
theorem og_putz_ {kn ci k t ix N : Nat} {sl : List (Nat × Option (Int → Int))} {C : String} {T : u_T} {ty0 : Nat → FieldType} (hf : og_OKe own cc nL dep 0 lt a m0 (kn + 4) f) (hg : og_OKe own cc nL dep 1 lt m0 b 0 g) (hki : og_ki kn = .inl (ci, sl)) (hs : sl[k]? = some (0, none)) (hin : ∀ q ∈ u_ws C T N, q ∈ og_tbl) (hty0 : ∀ k, k < N → parseFieldDescriptor (T k).2.2.1 = some (ty0 k)) (hnm : ∀ a, a < N → ∀ b, b < N → a ≠ b → (T a).2.1 ≠ (T b).2.1) (hc0 : og_cl[ci]? = some (C, T, N)) (hk0 : k < N) (hfin : (T k).2.2.2 = false)
    (hd0 : parseFieldDescriptor (T k).2.2.1 = some .boolean) (hlink : Cond.fieldLink own ix (T k).1 (T k).2.1 (T k).2.2.1 ∈ og_tbl) (hd : decode cc b = .ok (.putfield ix, 3)) : og_OKs own cc nL dep tr lt a (b + 3) lt bp bl cp ctl (og_putz k f g) := by
  intro p l e R s m args below meth c Q w A H0 C env h K Rr B Cn hh hR hk hb hc
  refine hf p l e R s m args below meth c Q w A H0 C env [] h _ (Nat.le_refl 0) hh (fun x h1 hx h2 => ?_)
  refine hg p l e R s m args below meth c Q w A H0 C env _ h1 _ (og_wd1 (Nat.le_refl 0) (by omega)) h2 (fun y h3 hy h4 => ?_)
  intro H locs ls hw hP hS hl
  obtain ⟨q0, g0, g1, g2⟩ := og_obj (w := w) (h := h3) hx.1 hx.2 hki hs
  have hft := og_fitz (w := w) h4.1
  refine va_put C.1 C.2.1 C.2.2.2.2.1 hin ty0 hty0 hnm C.2.2.2.1 C.2.2.2.2.2.1 hP (C.2.2.2.2.2.2.2.2.1 h3) hS q0 g1 hc0 k hk0 (C.2.2.2.2.1 _ hlink) (fun _ h => h) hfin hd0 hft.1 hft.2 (List.getElem?_eq_some_iff.mp g2).1 hd (fun H1 locs1 hP1 _ hS1 => ?_)
  refine hk _ _ h4.2 H1 locs1 ls (og_wf_up hw (by rw [og_sty_obj hx.2 hki hs]; exact hy)) (og_put_fin C.2.2.2.2.2.2.1.1 g0 hx.2 hki hs hP1) hS1 hl
theorem og_ast_fin {w : og_Wd} {H1 : Heap} {h : Hp} {i j x : Int} {N q0 : Nat} (hn : w.1.Nodup) (hq : w.1[q0]? = some i) (hki : og_ki (og_kd i) = .inr (0, N)) (h0 : 0 ≤ j)
    (hP : va_P w.2.1 og_cl ((og_wW w h).set q0 (w.2.2.1 i, .inl (w.2.2.2 0, N, .inl (upd (fun k : Nat => Int32.ofInt (h i (k : Int))) j.toNat (Int32.ofInt x))))) H1) : va_P w.2.1 og_cl (og_wW w (og_up h i j x)) H1 := by
  have e : og_ce w (og_up h i j x) i = .inl (w.2.2.2 0, N, .inl (upd (fun k : Nat => Int32.ofInt (h i (k : Int))) j.toNat (Int32.ofInt x))) := by
    rw [og_ce_arr rfl hki, ← og_up_arr h0]
    rfl
  rw [← e, og_setW hn hq (fun j hj => og_up_ne hj)] at hP
  exact hP
theorem og_ast_finL {w : og_Wd} {H1 : Heap} {h : Hp} {i j x : Int} {N q0 : Nat} (hn : w.1.Nodup) (hq : w.1[q0]? = some i) (hki : og_ki (og_kd i) = .inr (1, N)) (h0 : 0 ≤ j)
    (hP : va_P w.2.1 og_cl ((og_wW w h).set q0 (w.2.2.1 i, .inl (w.2.2.2 1, N, .inr (.inl (vp_updL (fun k : Nat => Int64.ofInt (h i (k : Int))) j.toNat (Int64.ofInt x)))))) H1) : va_P w.2.1 og_cl (og_wW w (og_up h i j x)) H1 := by
  have e : og_ce w (og_up h i j x) i = .inl (w.2.2.2 1, N, .inr (.inl (vp_updL (fun k : Nat => Int64.ofInt (h i (k : Int))) j.toNat (Int64.ofInt x)))) := by
    rw [og_ce_arr rfl hki, ← og_up_arrL h0]
    rfl
  rw [← e, og_setW hn hq (fun j hj => og_up_ne hj)] at hP
  exact hP
theorem og_iastore {g2 : og_Ex} {kn N m1 m2 : Nat} (hf : og_OKe own cc nL dep 0 lt a m1 (kn + 4) f) (hki : og_ki kn = .inr (0, N)) (hg : og_OKe own cc nL dep 1 lt m1 m2 0 g) (hg2 : og_OKe own cc nL dep 2 lt m2 b 0 g2) (hd : decode cc b = .ok (.iastore, 1)) : og_OKs own cc nL dep tr lt a (b + 1) lt bp bl cp ctl (og_ast N f g g2) := by
  intro p l e R s m args below meth c Q w A H0 C env h K Rr B Cn hh hR hk hb hc
  refine hf p l e R s m args below meth c Q w A H0 C env [] h _ (Nat.le_refl 0) hh (fun x h1 hx h2 => ?_)
  refine hg p l e R s m args below meth c Q w A H0 C env _ h1 _ (og_wd1 (Nat.le_refl 0) (by omega)) h2 (fun y h3 hy h4 => ?_)
  refine hg2 p l e R s m args below meth c Q w A H0 C env _ h3 _ (og_wd1 (og_wd1 (Nat.le_refl 0) (by omega)) (by omega)) h4 (fun z h5 hz h6 => ?_)
  intro H locs ls hw hP hS hl
  have hki' : og_ki (og_kd x) = .inr (0, N) := by rw [hx.2]; exact hki
  obtain ⟨q0, g0, g1⟩ := og_arrat (w := w) (h := h5) hx.1 hki'
  refine va_iast C.1 C.2.1 C.2.2.2.2.2.1 hP (C.2.2.2.2.2.2.2.2.1 h5) hS q0 0 g1 rfl (og_vpin h6.1 hy.2 h6.2.1) hd (fun H1 locs1 hP1 _ hS1 => ?_)
  rw [og_clamp h6.1 hy.2] at hP1
  have e1 : ((y.toNat : Nat) : Int) = y := by have := h6.1; omega
  have hw1 := og_wf_up (k := y.toNat) (i := x) (x := z) hw (by rw [og_sty_arr hx.2 hki]; exact hz)
  rw [e1] at hw1
  exact hk _ _ h6.2.2 H1 locs1 ls hw1 (og_ast_fin C.2.2.2.2.2.2.1.1 g0 hki' h6.1 hP1) hS1 hl
theorem og_lastore {g2 : og_Ex} {kn N m1 m2 : Nat} (hf : og_OKe own cc nL dep 0 lt a m1 (kn + 4) f) (hki : og_ki kn = .inr (1, N)) (hg : og_OKe own cc nL dep 1 lt m1 m2 0 g) (hg2 : og_OKe own cc nL dep 2 lt m2 b 1 g2) (hd : decode cc b = .ok (.lastore, 1)) : og_OKs own cc nL dep tr lt a (b + 1) lt bp bl cp ctl (og_ast N f g g2) := by
  intro p l e R s m args below meth c Q w A H0 C env h K Rr B Cn hh hR hk hb hc
  refine hf p l e R s m args below meth c Q w A H0 C env [] h _ (Nat.le_refl 0) hh (fun x h1 hx h2 => ?_)
  refine hg p l e R s m args below meth c Q w A H0 C env _ h1 _ (og_wd1 (Nat.le_refl 0) (by omega)) h2 (fun y h3 hy h4 => ?_)
  refine hg2 p l e R s m args below meth c Q w A H0 C env _ h3 _ (og_wd1 (og_wd1 (Nat.le_refl 0) (by omega)) (by omega)) h4 (fun z h5 hz h6 => ?_)
  intro H locs ls hw hP hS hl
  have hki' : og_ki (og_kd x) = .inr (1, N) := by rw [hx.2]; exact hki
  obtain ⟨q0, g0, g1⟩ := og_arrat (w := w) (h := h5) hx.1 hki'
  refine va_last C.1 C.2.1 C.2.2.2.2.2.1 hP (C.2.2.2.2.2.2.2.2.1 h5) hS q0 1 g1 rfl (og_vpin h6.1 hy.2 h6.2.1) hd (fun H1 locs1 hP1 _ hS1 => ?_)
  rw [og_clamp h6.1 hy.2] at hP1
  have e1 : ((y.toNat : Nat) : Int) = y := by have := h6.1; omega
  have hw1 := og_wf_up (k := y.toNat) (i := x) (x := z) hw (by rw [og_sty_arr hx.2 hki]; exact hz)
  rw [e1] at hw1
  exact hk _ _ h6.2.2 H1 locs1 ls hw1 (og_ast_finL C.2.2.2.2.2.2.1.1 g0 hki' h6.1 hP1) hS1 hl
end
