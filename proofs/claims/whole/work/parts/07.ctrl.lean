-- steps at a place; compound assignments, control, returns
section
variable {p : Program} {l : Launch} {e : Env} {R : Room} {s : State} {m : MethodId} {args : Array Value} {below : List Frame} {meth : Method} {c : Code} {Q : State → Prop} {w : og_Wd} {A : Nat → Prop} {H0 : Heap}
variable {own : String} {cc : ByteArray} {nL dep n : Nat} {lt : List (Nat × Nat)} {a b t : Nat} {env : List Int} {st : List Value} {h : Hp} {x y : Int}
theorem og_getW {kn ci k t ix N : Nat} {sl : List (Nat × Option (Int → Int))} {C1 : String} {T : u_T} (C : og_Cx own cc nL dep p R s m args c w A H0) (hki : og_ki kn = .inl (ci, sl)) (hs : sl[k]? = some (t, none)) (hin : ∀ q ∈ u_ws C1 T N, q ∈ og_tbl) (hc : og_cl[ci]? = some (C1, T, N)) (hk0 : k < N)
    (hlink : Cond.fieldLink own ix (T k).1 (T k).2.1 (T k).2.2.1 ∈ og_tbl) (hd : decode cc b = .ok (.getfield ix, 3)) (hx : og_rg w.1 (kn + 4) x) (kk : og_rg w.1 t (h x (k : Int)) → og_Wt p l e R s m args below meth c Q w A H0 nL lt (b + 3) env (og_cv w t (h x (k : Int)) :: st) h) : og_Wt p l e R s m args below meth c Q w A H0 nL lt b env (.ref (w.2.2.1 x) :: st) h := by
  intro H locs ls hw hP hS hl
  obtain ⟨q0, g0, g1, g2⟩ := og_obj (w := w) (h := h) hx.1 hx.2 hki hs
  refine va_get C.1 C.2.1 C.2.2.2.2.1 hin C.2.2.2.1 C.2.2.2.2.2.1 hP q0 g1 hc k hk0 (C.2.2.2.2.1 _ hlink) (fun _ h => h) g2 hd ?_
  have r := hw x hx.1 k
  rw [og_sty_obj hx.2 hki hs] at r
  exact kk r H locs ls hw hP hS hl
theorem og_getWN {kn ci k t ix N : Nat} {sl : List (Nat × Option (Int → Int))} {C1 host : String} {T : u_T} (C : og_Cx own cc nL dep p R s m args c w A H0) (hki : og_ki kn = .inl (ci, sl)) (hs : sl[k]? = some (t, none)) (hin : ∀ q ∈ u_ws C1 T N, q ∈ og_tbl) (hc : og_cl[ci]? = some (C1, T, N)) (hk0 : k < N)
    (hlink : Cond.fieldLinkNest own ix (T k).1 (T k).2.1 (T k).2.2.1 host ∈ og_nest) (hd : decode cc b = .ok (.getfield ix, 3)) (hx : og_rg w.1 (kn + 4) x) (kk : og_rg w.1 t (h x (k : Int)) → og_Wt p l e R s m args below meth c Q w A H0 nL lt (b + 3) env (og_cv w t (h x (k : Int)) :: st) h) : og_Wt p l e R s m args below meth c Q w A H0 nL lt b env (.ref (w.2.2.1 x) :: st) h := by
  intro H locs ls hw hP hS hl
  obtain ⟨q0, g0, g1, g2⟩ := og_obj (w := w) (h := h) hx.1 hx.2 hki hs
  refine va_getN C.1 C.2.1 C.2.2.2.2.1 hin C.2.2.2.1 C.2.2.2.2.2.1 hP q0 g1 hc k hk0 (C.2.2.2.2.2.2.2.2.2.2 _ hlink) (fun _ h => h) g2 hd ?_
  have r := hw x hx.1 k
  rw [og_sty_obj hx.2 hki hs] at r
  exact kk r H locs ls hw hP hS hl
theorem og_putW {kn ci k t ix N : Nat} {sl : List (Nat × Option (Int → Int))} {C1 : String} {T : u_T} {ty0 : Nat → FieldType} {ty : FieldType} (C : og_Cx own cc nL dep p R s m args c w A H0) (hki : og_ki kn = .inl (ci, sl)) (hs : sl[k]? = some (t, none)) (hin : ∀ q ∈ u_ws C1 T N, q ∈ og_tbl) (hty0 : ∀ k, k < N → parseFieldDescriptor (T k).2.2.1 = some (ty0 k)) (hnm : ∀ a, a < N → ∀ b, b < N → a ≠ b → (T a).2.1 ≠ (T b).2.1) (hc0 : og_cl[ci]? = some (C1, T, N)) (hk0 : k < N) (hfin : (T k).2.2.2 = false)
    (hd0 : parseFieldDescriptor (T k).2.2.1 = some ty) (hft : narrow ty (og_cv w t y) = og_cv w t y ∧ fits ty (og_cv w t y) = true) (hlink : Cond.fieldLink own ix (T k).1 (T k).2.1 (T k).2.2.1 ∈ og_tbl) (hd : decode cc b = .ok (.putfield ix, 3)) (hx : og_rg w.1 (kn + 4) x) (hy : og_rg w.1 t y) (kk : og_Wt p l e R s m args below meth c Q w A H0 nL lt (b + 3) env st (og_up h x (k : Int) y)) : og_Wt p l e R s m args below meth c Q w A H0 nL lt b env (og_cv w t y :: .ref (w.2.2.1 x) :: st) h := by
  intro H locs ls hw hP hS hl
  obtain ⟨q0, g0, g1, g2⟩ := og_obj (w := w) (h := h) hx.1 hx.2 hki hs
  refine va_put C.1 C.2.1 C.2.2.2.2.1 hin ty0 hty0 hnm C.2.2.2.1 C.2.2.2.2.2.1 hP (C.2.2.2.2.2.2.2.2.1 h) hS q0 g1 hc0 k hk0 (C.2.2.2.2.1 _ hlink) (fun _ h => h) hfin hd0 hft.1 hft.2 (List.getElem?_eq_some_iff.mp g2).1 hd (fun H1 locs1 hP1 _ hS1 => ?_)
  exact kk H1 locs1 ls (og_wf_up hw (by rw [og_sty_obj hx.2 hki hs]; exact hy)) (og_put_fin C.2.2.2.2.2.2.1.1 g0 hx.2 hki hs hP1) hS1 hl
theorem og_putWN {kn ci k t ix N : Nat} {sl : List (Nat × Option (Int → Int))} {C1 host : String} {T : u_T} {ty0 : Nat → FieldType} {ty : FieldType} (C : og_Cx own cc nL dep p R s m args c w A H0) (hki : og_ki kn = .inl (ci, sl)) (hs : sl[k]? = some (t, none)) (hin : ∀ q ∈ u_ws C1 T N, q ∈ og_tbl) (hty0 : ∀ k, k < N → parseFieldDescriptor (T k).2.2.1 = some (ty0 k)) (hnm : ∀ a, a < N → ∀ b, b < N → a ≠ b → (T a).2.1 ≠ (T b).2.1) (hc0 : og_cl[ci]? = some (C1, T, N)) (hk0 : k < N) (hfin : (T k).2.2.2 = false)
    (hd0 : parseFieldDescriptor (T k).2.2.1 = some ty) (hft : narrow ty (og_cv w t y) = og_cv w t y ∧ fits ty (og_cv w t y) = true) (hlink : Cond.fieldLinkNest own ix (T k).1 (T k).2.1 (T k).2.2.1 host ∈ og_nest) (hd : decode cc b = .ok (.putfield ix, 3)) (hx : og_rg w.1 (kn + 4) x) (hy : og_rg w.1 t y) (kk : og_Wt p l e R s m args below meth c Q w A H0 nL lt (b + 3) env st (og_up h x (k : Int) y)) : og_Wt p l e R s m args below meth c Q w A H0 nL lt b env (og_cv w t y :: .ref (w.2.2.1 x) :: st) h := by
  intro H locs ls hw hP hS hl
  obtain ⟨q0, g0, g1, g2⟩ := og_obj (w := w) (h := h) hx.1 hx.2 hki hs
  refine va_putN C.1 C.2.1 C.2.2.2.2.1 hin ty0 hty0 hnm C.2.2.2.1 C.2.2.2.2.2.1 hP (C.2.2.2.2.2.2.2.2.1 h) hS q0 g1 hc0 k hk0 (C.2.2.2.2.2.2.2.2.2.2 _ hlink) (fun _ h => h) hfin hd0 hft.1 hft.2 (List.getElem?_eq_some_iff.mp g2).1 hd (fun H1 locs1 hP1 _ hS1 => ?_)
  exact kk H1 locs1 ls (og_wf_up hw (by rw [og_sty_obj hx.2 hki hs]; exact hy)) (og_put_fin C.2.2.2.2.2.2.1.1 g0 hx.2 hki hs hP1) hS1 hl
theorem og_ialdW {kn N : Nat} (C : og_Cx own cc nL dep p R s m args c w A H0) (hki : og_ki kn = .inr (0, N)) (hd : decode cc b = .ok (.iaload, 1)) (hx : og_rg w.1 (kn + 4) x) (hy : og_i32 y) (h0 : 0 ≤ y) (h1 : y < (N : Int)) (kk : og_i32 (h x y) → og_Wt p l e R s m args below meth c Q w A H0 nL lt (b + 1) env (og_cv w 0 (h x y) :: st) h) : og_Wt p l e R s m args below meth c Q w A H0 nL lt b env (og_cv w 0 y :: .ref (w.2.2.1 x) :: st) h := by
  intro H locs ls hw hP hS hl
  obtain ⟨q0, g0, g1⟩ := og_arrat (w := w) (h := h) hx.1 (by rw [hx.2]; exact hki)
  refine va_iald C.1 C.2.1 C.2.2.2.2.2.1 hP q0 0 g1 rfl (og_vpin h0 hy.2 h1) hd ?_
  rw [og_clamp h0 hy.2]
  have e1 : ((y.toNat : Nat) : Int) = y := by omega
  have r := hw x hx.1 y.toNat
  rw [og_sty_arr hx.2 hki, e1] at r
  rw [e1]
  exact kk r H locs ls hw hP hS hl
theorem og_iastW {z : Int} {kn N : Nat} (C : og_Cx own cc nL dep p R s m args c w A H0) (hki : og_ki kn = .inr (0, N)) (hd : decode cc b = .ok (.iastore, 1)) (hx : og_rg w.1 (kn + 4) x) (hy : og_i32 y) (h0 : 0 ≤ y) (h1 : y < (N : Int)) (hz : og_i32 z) (kk : og_Wt p l e R s m args below meth c Q w A H0 nL lt (b + 1) env st (og_up h x y z)) : og_Wt p l e R s m args below meth c Q w A H0 nL lt b env (og_cv w 0 z :: og_cv w 0 y :: .ref (w.2.2.1 x) :: st) h := by
  intro H locs ls hw hP hS hl
  have hki' : og_ki (og_kd x) = .inr (0, N) := by rw [hx.2]; exact hki
  obtain ⟨q0, g0, g1⟩ := og_arrat (w := w) (h := h) hx.1 hki'
  refine va_iast C.1 C.2.1 C.2.2.2.2.2.1 hP (C.2.2.2.2.2.2.2.2.1 h) hS q0 0 g1 rfl (og_vpin h0 hy.2 h1) hd (fun H1 locs1 hP1 _ hS1 => ?_)
  rw [og_clamp h0 hy.2] at hP1
  have e1 : ((y.toNat : Nat) : Int) = y := by omega
  have hw1 := og_wf_up (k := y.toNat) (i := x) (x := z) hw (by rw [og_sty_arr hx.2 hki]; exact hz)
  rw [e1] at hw1
  exact kk H1 locs1 ls hw1 (og_ast_fin C.2.2.2.2.2.2.1.1 g0 hki' h0 hP1) hS1 hl
end
def og_pop32 (op : Int → Int → Int) (k : Nat) (fo fe : og_Ex) : og_St := fun env h K _ _ _ => fo env h fun o h1 => fe env h1 fun y h2 => og_i32 (op (h1 o (k : Int)) y) ∧ K env (og_up h2 o (k : Int) (op (h1 o (k : Int)) y))
def og_pop64 (op : Int → Int → Int) (k : Nat) (fo fe : og_Ex) : og_St := fun env h K _ _ _ => fo env h fun o h1 => fe env h1 fun y h2 => og_i64 (op (h1 o (k : Int)) y) ∧ K env (og_up h2 o (k : Int) (op (h1 o (k : Int)) y))
def og_aop (op : Int → Int → Int) (n : Nat) (fa fi fe : og_Ex) : og_St := fun env h K _ _ _ => fa env h fun a h1 => fi env h1 fun j h2 => 0 ≤ j ∧ j < (n : Int) ∧ fe env h2 fun y h3 => og_i32 (op (h2 a j) y) ∧ K env (og_up h3 a j (op (h2 a j) y))
def og_padd (x y : Int) : Int := x + y
def og_psub (x y : Int) : Int := x - y
def og_pmul (x y : Int) : Int := x * y
section
variable {own : String} {cc : ByteArray} {nL dep tr : Nat} {lt lt' lt2 : List (Nat × Nat)} {a b m0 bp cp : Nat} {bl ctl : List (Nat × Nat)} {f g : og_Ex} {c : og_Cd} {s1 s2 : og_St}
theorem og_fadd {m1 kn ci k ix N : Nat} {sl : List (Nat × Option (Int → Int))} {C1 : String} {T : u_T} {ty0 : Nat → FieldType} (hf : og_OKe own cc nL dep 0 lt a m1 (kn + 4) f) (hd1 : decode cc m1 = .ok (.dup, 1)) (hd2 : decode cc (m1 + 1) = .ok (.getfield ix, 3)) (hg : og_OKe own cc nL dep 2 lt (m1 + 4) b 0 g) (hd3 : decode cc b = .ok (.iadd, 1)) (hki : og_ki kn = .inl (ci, sl)) (hs : sl[k]? = some (0, none)) (hin : ∀ q ∈ u_ws C1 T N, q ∈ og_tbl) (hty0 : ∀ k, k < N → parseFieldDescriptor (T k).2.2.1 = some (ty0 k)) (hnm : ∀ a, a < N → ∀ b, b < N → a ≠ b → (T a).2.1 ≠ (T b).2.1) (hc0 : og_cl[ci]? = some (C1, T, N)) (hk0 : k < N) (hfin : (T k).2.2.2 = false)
    (hd0 : parseFieldDescriptor (T k).2.2.1 = some .int) (hlink : Cond.fieldLink own ix (T k).1 (T k).2.1 (T k).2.2.1 ∈ og_tbl) (hd : decode cc (b + 1) = .ok (.putfield ix, 3)) : og_OKs own cc nL dep tr lt a (b + 1 + 3) lt bp bl cp ctl (og_pop32 og_padd k f g) := by
  intro p l e R s m args below meth c Q w A H0 C env h K Rr B Cn hh hR hk hb hc
  refine hf p l e R s m args below meth c Q w A H0 C env [] h _ (Nat.le_refl 0) hh (fun x h1 hx h2 => ?_)
  intro H locs ls hw hP hS hl
  refine lv_dup C.1 C.2.1 hd1 rfl ?_
  refine og_getW (own := own) C hki hs hin hc0 hk0 hlink hd2 hx (fun hv => ?_) H locs ls hw hP hS hl
  refine hg p l e R s m args below meth c Q w A H0 C env _ h1 _ (Nat.le_refl 2) h2 (fun y h3 hy h4 => ?_)
  intro H locs ls hw hP hS hl
  refine lv_iadd C.1 C.2.1 hd3 ?_
  rw [← Int32.ofInt_add]
  exact og_putW (own := own) C hki hs hin hty0 hnm hc0 hk0 hfin hd0 ⟨rfl, rfl⟩ hlink hd hx h4.1 (hk _ _ h4.2) H locs ls hw hP hS hl
theorem og_fsub {m1 kn ci k ix N : Nat} {sl : List (Nat × Option (Int → Int))} {C1 : String} {T : u_T} {ty0 : Nat → FieldType} (hf : og_OKe own cc nL dep 0 lt a m1 (kn + 4) f) (hd1 : decode cc m1 = .ok (.dup, 1)) (hd2 : decode cc (m1 + 1) = .ok (.getfield ix, 3)) (hg : og_OKe own cc nL dep 2 lt (m1 + 4) b 0 g) (hd3 : decode cc b = .ok (.isub, 1)) (hki : og_ki kn = .inl (ci, sl)) (hs : sl[k]? = some (0, none)) (hin : ∀ q ∈ u_ws C1 T N, q ∈ og_tbl) (hty0 : ∀ k, k < N → parseFieldDescriptor (T k).2.2.1 = some (ty0 k)) (hnm : ∀ a, a < N → ∀ b, b < N → a ≠ b → (T a).2.1 ≠ (T b).2.1) (hc0 : og_cl[ci]? = some (C1, T, N)) (hk0 : k < N) (hfin : (T k).2.2.2 = false)
    (hd0 : parseFieldDescriptor (T k).2.2.1 = some .int) (hlink : Cond.fieldLink own ix (T k).1 (T k).2.1 (T k).2.2.1 ∈ og_tbl) (hd : decode cc (b + 1) = .ok (.putfield ix, 3)) : og_OKs own cc nL dep tr lt a (b + 1 + 3) lt bp bl cp ctl (og_pop32 og_psub k f g) := by
  intro p l e R s m args below meth c Q w A H0 C env h K Rr B Cn hh hR hk hb hc
  refine hf p l e R s m args below meth c Q w A H0 C env [] h _ (Nat.le_refl 0) hh (fun x h1 hx h2 => ?_)
  intro H locs ls hw hP hS hl
  refine lv_dup C.1 C.2.1 hd1 rfl ?_
  refine og_getW (own := own) C hki hs hin hc0 hk0 hlink hd2 hx (fun hv => ?_) H locs ls hw hP hS hl
  refine hg p l e R s m args below meth c Q w A H0 C env _ h1 _ (Nat.le_refl 2) h2 (fun y h3 hy h4 => ?_)
  intro H locs ls hw hP hS hl
  refine lv_isub C.1 C.2.1 hd3 ?_
  rw [← Int32.ofInt_sub]
  exact og_putW (own := own) C hki hs hin hty0 hnm hc0 hk0 hfin hd0 ⟨rfl, rfl⟩ hlink hd hx h4.1 (hk _ _ h4.2) H locs ls hw hP hS hl
theorem og_fmul {m1 kn ci k ix N : Nat} {sl : List (Nat × Option (Int → Int))} {C1 : String} {T : u_T} {ty0 : Nat → FieldType} (hf : og_OKe own cc nL dep 0 lt a m1 (kn + 4) f) (hd1 : decode cc m1 = .ok (.dup, 1)) (hd2 : decode cc (m1 + 1) = .ok (.getfield ix, 3)) (hg : og_OKe own cc nL dep 2 lt (m1 + 4) b 0 g) (hd3 : decode cc b = .ok (.imul, 1)) (hki : og_ki kn = .inl (ci, sl)) (hs : sl[k]? = some (0, none)) (hin : ∀ q ∈ u_ws C1 T N, q ∈ og_tbl) (hty0 : ∀ k, k < N → parseFieldDescriptor (T k).2.2.1 = some (ty0 k)) (hnm : ∀ a, a < N → ∀ b, b < N → a ≠ b → (T a).2.1 ≠ (T b).2.1) (hc0 : og_cl[ci]? = some (C1, T, N)) (hk0 : k < N) (hfin : (T k).2.2.2 = false)
    (hd0 : parseFieldDescriptor (T k).2.2.1 = some .int) (hlink : Cond.fieldLink own ix (T k).1 (T k).2.1 (T k).2.2.1 ∈ og_tbl) (hd : decode cc (b + 1) = .ok (.putfield ix, 3)) : og_OKs own cc nL dep tr lt a (b + 1 + 3) lt bp bl cp ctl (og_pop32 og_pmul k f g) := by
  intro p l e R s m args below meth c Q w A H0 C env h K Rr B Cn hh hR hk hb hc
  refine hf p l e R s m args below meth c Q w A H0 C env [] h _ (Nat.le_refl 0) hh (fun x h1 hx h2 => ?_)
  intro H locs ls hw hP hS hl
  refine lv_dup C.1 C.2.1 hd1 rfl ?_
  refine og_getW (own := own) C hki hs hin hc0 hk0 hlink hd2 hx (fun hv => ?_) H locs ls hw hP hS hl
  refine hg p l e R s m args below meth c Q w A H0 C env _ h1 _ (Nat.le_refl 2) h2 (fun y h3 hy h4 => ?_)
  intro H locs ls hw hP hS hl
  refine lv_imul C.1 C.2.1 hd3 ?_
  rw [← Int32.ofInt_mul]
  exact og_putW (own := own) C hki hs hin hty0 hnm hc0 hk0 hfin hd0 ⟨rfl, rfl⟩ hlink hd hx h4.1 (hk _ _ h4.2) H locs ls hw hP hS hl
theorem og_fladd {m1 kn ci k ix N : Nat} {sl : List (Nat × Option (Int → Int))} {C1 : String} {T : u_T} {ty0 : Nat → FieldType} (hf : og_OKe own cc nL dep 0 lt a m1 (kn + 4) f) (hd1 : decode cc m1 = .ok (.dup, 1)) (hd2 : decode cc (m1 + 1) = .ok (.getfield ix, 3)) (hg : og_OKe own cc nL dep 3 lt (m1 + 4) b 1 g) (hd3 : decode cc b = .ok (.ladd, 1)) (hki : og_ki kn = .inl (ci, sl)) (hs : sl[k]? = some (1, none)) (hin : ∀ q ∈ u_ws C1 T N, q ∈ og_tbl) (hty0 : ∀ k, k < N → parseFieldDescriptor (T k).2.2.1 = some (ty0 k)) (hnm : ∀ a, a < N → ∀ b, b < N → a ≠ b → (T a).2.1 ≠ (T b).2.1) (hc0 : og_cl[ci]? = some (C1, T, N)) (hk0 : k < N) (hfin : (T k).2.2.2 = false)
    (hd0 : parseFieldDescriptor (T k).2.2.1 = some .long) (hlink : Cond.fieldLink own ix (T k).1 (T k).2.1 (T k).2.2.1 ∈ og_tbl) (hd : decode cc (b + 1) = .ok (.putfield ix, 3)) : og_OKs own cc nL dep tr lt a (b + 1 + 3) lt bp bl cp ctl (og_pop64 og_padd k f g) := by
  intro p l e R s m args below meth c Q w A H0 C env h K Rr B Cn hh hR hk hb hc
  refine hf p l e R s m args below meth c Q w A H0 C env [] h _ (Nat.le_refl 0) hh (fun x h1 hx h2 => ?_)
  intro H locs ls hw hP hS hl
  refine lv_dup C.1 C.2.1 hd1 rfl ?_
  refine og_getW (own := own) C hki hs hin hc0 hk0 hlink hd2 hx (fun hv => ?_) H locs ls hw hP hS hl
  refine hg p l e R s m args below meth c Q w A H0 C env _ h1 _ (Nat.le_refl 3) h2 (fun y h3 hy h4 => ?_)
  intro H locs ls hw hP hS hl
  refine lv_ladd C.1 C.2.1 hd3 ?_
  rw [← Int64.ofInt_add]
  exact og_putW (own := own) C hki hs hin hty0 hnm hc0 hk0 hfin hd0 ⟨rfl, rfl⟩ hlink hd hx h4.1 (hk _ _ h4.2) H locs ls hw hP hS hl
theorem og_faddN {m1 kn ci k ix N : Nat} {sl : List (Nat × Option (Int → Int))} {C1 host : String} {T : u_T} {ty0 : Nat → FieldType} (hf : og_OKe own cc nL dep 0 lt a m1 (kn + 4) f) (hd1 : decode cc m1 = .ok (.dup, 1)) (hd2 : decode cc (m1 + 1) = .ok (.getfield ix, 3)) (hg : og_OKe own cc nL dep 2 lt (m1 + 4) b 0 g) (hd3 : decode cc b = .ok (.iadd, 1)) (hki : og_ki kn = .inl (ci, sl)) (hs : sl[k]? = some (0, none)) (hin : ∀ q ∈ u_ws C1 T N, q ∈ og_tbl) (hty0 : ∀ k, k < N → parseFieldDescriptor (T k).2.2.1 = some (ty0 k)) (hnm : ∀ a, a < N → ∀ b, b < N → a ≠ b → (T a).2.1 ≠ (T b).2.1) (hc0 : og_cl[ci]? = some (C1, T, N)) (hk0 : k < N) (hfin : (T k).2.2.2 = false)
    (hd0 : parseFieldDescriptor (T k).2.2.1 = some .int) (hlink : Cond.fieldLinkNest own ix (T k).1 (T k).2.1 (T k).2.2.1 host ∈ og_nest) (hd : decode cc (b + 1) = .ok (.putfield ix, 3)) : og_OKs own cc nL dep tr lt a (b + 1 + 3) lt bp bl cp ctl (og_pop32 og_padd k f g) := by
  intro p l e R s m args below meth c Q w A H0 C env h K Rr B Cn hh hR hk hb hc
  refine hf p l e R s m args below meth c Q w A H0 C env [] h _ (Nat.le_refl 0) hh (fun x h1 hx h2 => ?_)
  intro H locs ls hw hP hS hl
  refine lv_dup C.1 C.2.1 hd1 rfl ?_
  refine og_getWN (own := own) C hki hs hin hc0 hk0 hlink hd2 hx (fun hv => ?_) H locs ls hw hP hS hl
  refine hg p l e R s m args below meth c Q w A H0 C env _ h1 _ (Nat.le_refl 2) h2 (fun y h3 hy h4 => ?_)
  intro H locs ls hw hP hS hl
  refine lv_iadd C.1 C.2.1 hd3 ?_
  rw [← Int32.ofInt_add]
  exact og_putWN (own := own) C hki hs hin hty0 hnm hc0 hk0 hfin hd0 ⟨rfl, rfl⟩ hlink hd hx h4.1 (hk _ _ h4.2) H locs ls hw hP hS hl
theorem og_fsubN {m1 kn ci k ix N : Nat} {sl : List (Nat × Option (Int → Int))} {C1 host : String} {T : u_T} {ty0 : Nat → FieldType} (hf : og_OKe own cc nL dep 0 lt a m1 (kn + 4) f) (hd1 : decode cc m1 = .ok (.dup, 1)) (hd2 : decode cc (m1 + 1) = .ok (.getfield ix, 3)) (hg : og_OKe own cc nL dep 2 lt (m1 + 4) b 0 g) (hd3 : decode cc b = .ok (.isub, 1)) (hki : og_ki kn = .inl (ci, sl)) (hs : sl[k]? = some (0, none)) (hin : ∀ q ∈ u_ws C1 T N, q ∈ og_tbl) (hty0 : ∀ k, k < N → parseFieldDescriptor (T k).2.2.1 = some (ty0 k)) (hnm : ∀ a, a < N → ∀ b, b < N → a ≠ b → (T a).2.1 ≠ (T b).2.1) (hc0 : og_cl[ci]? = some (C1, T, N)) (hk0 : k < N) (hfin : (T k).2.2.2 = false)
    (hd0 : parseFieldDescriptor (T k).2.2.1 = some .int) (hlink : Cond.fieldLinkNest own ix (T k).1 (T k).2.1 (T k).2.2.1 host ∈ og_nest) (hd : decode cc (b + 1) = .ok (.putfield ix, 3)) : og_OKs own cc nL dep tr lt a (b + 1 + 3) lt bp bl cp ctl (og_pop32 og_psub k f g) := by
  intro p l e R s m args below meth c Q w A H0 C env h K Rr B Cn hh hR hk hb hc
  refine hf p l e R s m args below meth c Q w A H0 C env [] h _ (Nat.le_refl 0) hh (fun x h1 hx h2 => ?_)
  intro H locs ls hw hP hS hl
  refine lv_dup C.1 C.2.1 hd1 rfl ?_
  refine og_getWN (own := own) C hki hs hin hc0 hk0 hlink hd2 hx (fun hv => ?_) H locs ls hw hP hS hl
  refine hg p l e R s m args below meth c Q w A H0 C env _ h1 _ (Nat.le_refl 2) h2 (fun y h3 hy h4 => ?_)
  intro H locs ls hw hP hS hl
  refine lv_isub C.1 C.2.1 hd3 ?_
  rw [← Int32.ofInt_sub]
  exact og_putWN (own := own) C hki hs hin hty0 hnm hc0 hk0 hfin hd0 ⟨rfl, rfl⟩ hlink hd hx h4.1 (hk _ _ h4.2) H locs ls hw hP hS hl
theorem og_aadd {m1 m2 kn N : Nat} {g2 : og_Ex} (hf : og_OKe own cc nL dep 0 lt a m1 (kn + 4) f) (hki : og_ki kn = .inr (0, N)) (hg : og_OKe own cc nL dep 1 lt m1 m2 0 g) (hd1 : decode cc m2 = .ok (.dup2, 1)) (hd2 : decode cc (m2 + 1) = .ok (.iaload, 1)) (hg2 : og_OKe own cc nL dep 3 lt (m2 + 2) b 0 g2) (hd3 : decode cc b = .ok (.iadd, 1)) (hd : decode cc (b + 1) = .ok (.iastore, 1)) : og_OKs own cc nL dep tr lt a (b + 1 + 1) lt bp bl cp ctl (og_aop og_padd N f g g2) := by
  intro p l e R s m args below meth c Q w A H0 C env h K Rr B Cn hh hR hk hb hc
  refine hf p l e R s m args below meth c Q w A H0 C env [] h _ (Nat.le_refl 0) hh (fun x h1 hx h2 => ?_)
  refine hg p l e R s m args below meth c Q w A H0 C env _ h1 _ (og_wd1 (Nat.le_refl 0) (by omega)) h2 (fun y h3 hy h4 => ?_)
  obtain ⟨i0, i1, h4⟩ := h4
  intro H locs ls hw hP hS hl
  refine lv_dup2_11 C.1 C.2.1 hd1 rfl rfl ?_
  refine og_ialdW (own := own) C hki hd2 hx hy i0 i1 (fun hv => ?_) H locs ls hw hP hS hl
  refine hg2 p l e R s m args below meth c Q w A H0 C env _ h3 _ (Nat.le_refl 3) h4 (fun z h5 hz h6 => ?_)
  intro H locs ls hw hP hS hl
  refine lv_iadd C.1 C.2.1 hd3 ?_
  rw [← Int32.ofInt_add]
  exact og_iastW (own := own) C hki hd hx hy i0 i1 h6.1 (hk _ _ h6.2) H locs ls hw hP hS hl
theorem og_asub {m1 m2 kn N : Nat} {g2 : og_Ex} (hf : og_OKe own cc nL dep 0 lt a m1 (kn + 4) f) (hki : og_ki kn = .inr (0, N)) (hg : og_OKe own cc nL dep 1 lt m1 m2 0 g) (hd1 : decode cc m2 = .ok (.dup2, 1)) (hd2 : decode cc (m2 + 1) = .ok (.iaload, 1)) (hg2 : og_OKe own cc nL dep 3 lt (m2 + 2) b 0 g2) (hd3 : decode cc b = .ok (.isub, 1)) (hd : decode cc (b + 1) = .ok (.iastore, 1)) : og_OKs own cc nL dep tr lt a (b + 1 + 1) lt bp bl cp ctl (og_aop og_psub N f g g2) := by
  intro p l e R s m args below meth c Q w A H0 C env h K Rr B Cn hh hR hk hb hc
  refine hf p l e R s m args below meth c Q w A H0 C env [] h _ (Nat.le_refl 0) hh (fun x h1 hx h2 => ?_)
  refine hg p l e R s m args below meth c Q w A H0 C env _ h1 _ (og_wd1 (Nat.le_refl 0) (by omega)) h2 (fun y h3 hy h4 => ?_)
  obtain ⟨i0, i1, h4⟩ := h4
  intro H locs ls hw hP hS hl
  refine lv_dup2_11 C.1 C.2.1 hd1 rfl rfl ?_
  refine og_ialdW (own := own) C hki hd2 hx hy i0 i1 (fun hv => ?_) H locs ls hw hP hS hl
  refine hg2 p l e R s m args below meth c Q w A H0 C env _ h3 _ (Nat.le_refl 3) h4 (fun z h5 hz h6 => ?_)
  intro H locs ls hw hP hS hl
  refine lv_isub C.1 C.2.1 hd3 ?_
  rw [← Int32.ofInt_sub]
  exact og_iastW (own := own) C hki hd hx hy i0 i1 h6.1 (hk _ _ h6.2) H locs ls hw hP hS hl
theorem og_spop (hf : og_OKe own cc nL dep 0 lt a b 0 f) (hd : decode cc b = .ok (.pop, 1)) : og_OKs own cc nL dep tr lt a (b + 1) lt bp bl cp ctl (og_exp f) := by
  intro p l e R s m args below meth c Q w A H0 C env h K Rr B Cn hh hR hk hb hc
  refine hf p l e R s m args below meth c Q w A H0 C env [] h _ (Nat.le_refl 0) hh (fun x h1 hx h2 => ?_)
  intro H locs ls hw hP hS hl
  exact lv_pop C.1 C.2.1 hd rfl (hk _ _ h2 H locs ls hw hP hS hl)
theorem og_sif {T F : Nat} (h0 : og_OKc own cc nL dep 0 lt a T F c) (h1 : og_OKs own cc nL dep tr lt T b lt' bp bl cp ctl s1) (h2 : og_OKs own cc nL dep tr lt F b lt' bp bl cp ctl s2) : og_OKs own cc nL dep tr lt a b lt' bp bl cp ctl (og_if c s1 s2) := by
  intro p l e R s m args below meth c Q w A H0 C env h K Rr B Cn hh hR hk hb hc
  exact h0 p l e R s m args below meth c Q w A H0 C env [] h _ _ (Nat.le_refl 0) hh (fun h' q => h1 p l e R s m args below meth c Q w A H0 C env h' K Rr B Cn q hR hk hb hc) (fun h' q => h2 p l e R s m args below meth c Q w A H0 C env h' K Rr B Cn q hR hk hb hc)
theorem og_swhile {T F cp0 : Nat} (h0 : og_OKc own cc nL dep 0 lt a T F c) (h1 : og_OKs own cc nL dep tr lt T cp0 lt F lt cp0 lt s1) (h2 : og_OKs own cc nL dep tr lt cp0 a lt F lt cp0 lt s2) : og_OKs own cc nL dep tr lt a F lt bp bl cp ctl (og_while c s1 s2) := by
  intro p l e R s m args below meth c Q w A H0 C env h K Rr B Cn hh hR hk hb hc
  obtain ⟨I, ⟨n, hI⟩, hst⟩ := hh
  revert env h
  induction n using Nat.strongRecOn with
  | ind n ih =>
    intro env h hI
    refine h0 p l e R s m args below meth c Q w A H0 C env [] h _ _ (Nat.le_refl 0) (hst n env h hI) (fun h' q => ?_) (fun h' q => hk env h' q)
    have stp : ∀ e3 h3, s2 e3 h3 (fun e4 h4 => ∃ m, m < n ∧ I m e4 h4) Rr (fun _ _ => False) (fun _ _ => False) → og_Wt p l e R s m args below meth c Q w A H0 nL lt cp0 e3 [] h3 := fun e3 h3 q3 =>
      h2 p l e R s m args below meth c Q w A H0 C e3 h3 _ Rr _ _ q3 hR (fun e4 h4 ⟨m', hm, hI'⟩ => ih m' hm e4 h4 hI') (fun _ _ z => z.elim) (fun _ _ z => z.elim)
    exact h1 p l e R s m args below meth c Q w A H0 C env h' _ Rr K _ q hR stp hk stp
theorem og_sreti (hf : og_OKe own cc nL dep 0 lt a b 0 f) (hd : decode cc b = .ok (.ireturn, 1)) {b1 : Nat} : og_OKs own cc nL dep 0 lt a b1 lt' bp bl cp ctl (og_ret f) := by
  intro p l e R s m args below meth c Q w A H0 C env h K Rr B Cn hh hR hk hb hc
  refine hf p l e R s m args below meth c Q w A H0 C env [] h _ (Nat.le_refl 0) hh (fun x h1 hx h2 => ?_)
  intro H locs ls hw hP hS hl
  obtain ⟨r1, r2, Qc, free, rfl, r3, r4⟩ := hR
  exact W.iret C.1 C.2.1 r2 (fun t ht hW => r4 x h1 H locs t hw hP hS hx h2 ht hW) (fun q hq => r3 _ (hS.2.2 q hq)) hd r1
theorem og_sretl (hf : og_OKe own cc nL dep 0 lt a b 1 f) (hd : decode cc b = .ok (.lreturn, 1)) {b1 : Nat} : og_OKs own cc nL dep 1 lt a b1 lt' bp bl cp ctl (og_ret f) := by
  intro p l e R s m args below meth c Q w A H0 C env h K Rr B Cn hh hR hk hb hc
  refine hf p l e R s m args below meth c Q w A H0 C env [] h _ (Nat.le_refl 0) hh (fun x h1 hx h2 => ?_)
  intro H locs ls hw hP hS hl
  obtain ⟨r1, r2, Qc, free, rfl, r3, r4⟩ := hR
  exact W.lret C.1 C.2.1 r2 (fun t ht hW => r4 x h1 H locs t hw hP hS hx h2 ht hW) (fun q hq => r3 _ (hS.2.2 q hq)) hd r1
theorem og_sretz (hf : og_OKe own cc nL dep 0 lt a b 0 f) (hd : decode cc b = .ok (.ireturn, 1)) {b1 : Nat} : og_OKs own cc nL dep 3 lt a b1 lt' bp bl cp ctl (og_retz f) := by
  intro p l e R s m args below meth c Q w A H0 C env h K Rr B Cn hh hR hk hb hc
  refine hf p l e R s m args below meth c Q w A H0 C env [] h _ (Nat.le_refl 0) hh (fun x h1 hx h2 => ?_)
  intro H locs ls hw hP hS hl
  obtain ⟨r1, r2, Qc, free, rfl, r3, r4⟩ := hR
  exact W.zret (ty := .boolean) C.1 C.2.1 r2 (og_fitz (w := w) h2.1).1 (fun t ht hW => r4 x h1 H locs t hw hP hS hx h2.2 ht hW) (fun q hq => r3 _ (hS.2.2 q hq)) hd r1
theorem og_sretv (hd : decode cc a = .ok (.return_, 1)) {b1 : Nat} : og_OKs own cc nL dep 2 lt a b1 lt' bp bl cp ctl og_retv := by
  intro p l e R s m args below meth c Q w A H0 C env h K Rr B Cn hh hR hk hb hc
  intro H locs ls hw hP hS hl
  obtain ⟨r1, r2, Qc, free, rfl, r3, r4⟩ := hR
  exact W.vret C.1 C.2.1 r2 (fun t ht hW => r4 0 h H locs t hw hP hS rfl hh ht hW) (fun q hq => r3 _ (hS.2.2 q hq)) hd r1
end
