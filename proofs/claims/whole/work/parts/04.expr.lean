-- what holds at a place of a method; expressions
def og_lr (w : og_Wd) (ls : Array Slot) (nL : Nat) (lt : List (Nat × Nat)) (env : List Int) : Prop :=
  lv_has ls nL (lt.map fun q => (q.1, og_cv w q.2 (env.getD q.1 0))) ∧ (∀ q ∈ lt, og_rg w.1 q.2 (env.getD q.1 0)) ∧ env.length = nL
def og_Cx (own : String) (cc : ByteArray) (nL dep : Nat) (p : Program) (R : Room) (s : State) (m : MethodId) (args : Array Value) (c : Code) (w : og_Wd) (A : Nat → Prop) (H0 : Heap) : Prop :=
  p.tables.exec = Jvm.exec ∧ c.code = cc ∧ c.maxLocals = nL ∧ s.vm.findClass own = some m.cls ∧ (∀ q ∈ og_tbl, q.before args s = true) ∧ va_K w.2.1 og_cl (og_tyA w) s ∧ og_ws w.1 ∧ R = og_rm dep ∧ (∀ h, va_D A (og_wW w h)) ∧ A = og_A w H0.size ∧ (∀ q ∈ og_nest, q.before args s = true)
def og_Wt (p : Program) (l : Launch) (e : Env) (R : Room) (s : State) (m : MethodId) (args : Array Value) (below : List Frame) (meth : Method) (c : Code) (Q : State → Prop) (w : og_Wd) (A : Nat → Prop) (H0 : Heap) (nL : Nat) (lt : List (Nat × Nat)) (pc : Nat) (env : List Int) (st : List Value) (h : Hp) : Prop :=
  ∀ (H : Heap) (locs : List Loc) (ls : Array Slot), og_wf w.1 h → va_P w.2.1 og_cl (og_wW w h) H → va_S A H0 H locs → og_lr w ls nL lt env → W p l e R s m args below meth c H locs 0 0 Q (F0 m pc ls st)
abbrev og_Ex : Type := List Int → Hp → (Int → Hp → Prop) → Prop
abbrev og_Cd : Type := List Int → Hp → (Hp → Prop) → (Hp → Prop) → Prop
def og_wd (st : List Value) : Nat := (st.map fun v => v.category).sum
def og_OKe (own : String) (cc : ByteArray) (nL dep n : Nat) (lt : List (Nat × Nat)) (a b t : Nat) (f : og_Ex) : Prop :=
  ∀ (p : Program) (l : Launch) (e : Env) (R : Room) (s : State) (m : MethodId) (args : Array Value) (below : List Frame) (meth : Method) (c : Code) (Q : State → Prop) (w : og_Wd) (A : Nat → Prop) (H0 : Heap), og_Cx own cc nL dep p R s m args c w A H0 →
    ∀ (env : List Int) (st : List Value) (h : Hp) (K : Int → Hp → Prop), og_wd st ≤ n → f env h K → (∀ x h', og_rg w.1 t x → K x h' → og_Wt p l e R s m args below meth c Q w A H0 nL lt b env (og_cv w t x :: st) h') → og_Wt p l e R s m args below meth c Q w A H0 nL lt a env st h
def og_OKc (own : String) (cc : ByteArray) (nL dep n : Nat) (lt : List (Nat × Nat)) (a T F : Nat) (f : og_Cd) : Prop :=
  ∀ (p : Program) (l : Launch) (e : Env) (R : Room) (s : State) (m : MethodId) (args : Array Value) (below : List Frame) (meth : Method) (c : Code) (Q : State → Prop) (w : og_Wd) (A : Nat → Prop) (H0 : Heap), og_Cx own cc nL dep p R s m args c w A H0 →
    ∀ (env : List Int) (st : List Value) (h : Hp) (Kt Kf : Hp → Prop), og_wd st ≤ n → f env h Kt Kf → (∀ h', Kt h' → og_Wt p l e R s m args below meth c Q w A H0 nL lt T env st h') → (∀ h', Kf h' → og_Wt p l e R s m args below meth c Q w A H0 nL lt F env st h') → og_Wt p l e R s m args below meth c Q w A H0 nL lt a env st h
-- denotations
def og_loc (k : Nat) : og_Ex := fun env h K => K (env.getD k 0) h
def og_k (x : Int) : og_Ex := fun _ h K => K x h
def og_i32 (x : Int) : Prop := -2147483648 ≤ x ∧ x ≤ 2147483647
def og_i64 (x : Int) : Prop := -9223372036854775808 ≤ x ∧ x ≤ 9223372036854775807
def og_add (f g : og_Ex) : og_Ex := fun env h K => f env h fun x h1 => g env h1 fun y h2 => og_i32 (x + y) ∧ K (x + y) h2
def og_sub (f g : og_Ex) : og_Ex := fun env h K => f env h fun x h1 => g env h1 fun y h2 => og_i32 (x - y) ∧ K (x - y) h2
def og_mul (f g : og_Ex) : og_Ex := fun env h K => f env h fun x h1 => g env h1 fun y h2 => og_i32 (x * y) ∧ K (x * y) h2
def og_div (f g : og_Ex) : og_Ex := fun env h K => f env h fun x h1 => g env h1 fun y h2 => y ≠ 0 ∧ og_i32 (x.tdiv y) ∧ K (x.tdiv y) h2
def og_rem (f g : og_Ex) : og_Ex := fun env h K => f env h fun x h1 => g env h1 fun y h2 => y ≠ 0 ∧ K (x.tmod y) h2
def og_bit (op : Int32 → Int32 → Int32) (x y : Int) : Int := (op (Int32.ofInt x) (Int32.ofInt y)).toInt
def og_bop (op : Int32 → Int32 → Int32) (f g : og_Ex) : og_Ex := fun env h K => f env h fun x h1 => g env h1 fun y h2 => K (og_bit op x y) h2
def og_oand (x y : Int32) : Int32 := x &&& y
def og_oor (x y : Int32) : Int32 := x ||| y
def og_oxor (x y : Int32) : Int32 := x ^^^ y
def og_oshl (x y : Int32) : Int32 := x <<< (y &&& 31)
def og_oshr (x y : Int32) : Int32 := x >>> (y &&& 31)
def og_oushr (x y : Int32) : Int32 := (x.toUInt32 >>> (y.toUInt32 &&& Int32.toUInt32 31)).toInt32
def og_ladd (f g : og_Ex) : og_Ex := fun env h K => f env h fun x h1 => g env h1 fun y h2 => og_i64 (x + y) ∧ K (x + y) h2
def og_lsub (f g : og_Ex) : og_Ex := fun env h K => f env h fun x h1 => g env h1 fun y h2 => og_i64 (x - y) ∧ K (x - y) h2
def og_lmul (f g : og_Ex) : og_Ex := fun env h K => f env h fun x h1 => g env h1 fun y h2 => og_i64 (x * y) ∧ K (x * y) h2
def og_ldiv (f g : og_Ex) : og_Ex := fun env h K => f env h fun x h1 => g env h1 fun y h2 => y ≠ 0 ∧ og_i64 (x.tdiv y) ∧ K (x.tdiv y) h2
def og_lrem (f g : og_Ex) : og_Ex := fun env h K => f env h fun x h1 => g env h1 fun y h2 => y ≠ 0 ∧ K (x.tmod y) h2
def og_lbit (x y : Int) : Int := (Int64.ofInt x &&& Int64.ofInt y).toInt
def og_land (f g : og_Ex) : og_Ex := fun env h K => f env h fun x h1 => g env h1 fun y h2 => K (og_lbit x y) h2
def og_i2l (f : og_Ex) : og_Ex := f
def og_l2i (f : og_Ex) : og_Ex := fun env h K => f env h fun x h1 => og_i32 x ∧ K x h1
def og_neg (f : og_Ex) : og_Ex := fun env h K => f env h fun x h1 => og_i32 (-x) ∧ K (-x) h1
def og_get (k : Nat) (f : og_Ex) : og_Ex := fun env h K => f env h fun o h1 => K (h1 o (k : Int)) h1
def og_fix (g : Int → Int) (f : og_Ex) : og_Ex := fun env h K => f env h fun o h1 => K (g o) h1
def og_ald (n : Nat) (f g : og_Ex) : og_Ex := fun env h K => f env h fun a h1 => g env h1 fun j h2 => 0 ≤ j ∧ j < (n : Int) ∧ K (h2 a j) h2
def og_siz (a : Int) : Nat := match og_ki (og_kd a) with
  | .inl _ => 0
  | .inr q => q.2
def og_gld (f g : og_Ex) : og_Ex := fun env h K => f env h fun a h1 => g env h1 fun j h2 => 0 ≤ j ∧ j < (og_siz a : Int) ∧ K (h2 a j) h2
def og_yld (f g : og_Ex) : og_Ex := fun env h K => f env h fun _ h1 => g env h1 fun j h2 => 0 ≤ j ∧ j < 20 ∧ K (140 + 10 * j) h2
def og_len (n : Nat) (f : og_Ex) : og_Ex := fun env h K => f env h fun _ h1 => K (n : Int) h1
def og_gln (f : og_Ex) : og_Ex := fun env h K => f env h fun a h1 => K (og_siz a : Int) h1
section
variable {own : String} {cc : ByteArray} {nL dep n : Nat} {lt : List (Nat × Nat)} {a b t : Nat} {f g : og_Ex}
theorem og_lrat {w : og_Wd} {ls : Array Slot} {env : List Int} {i t j : Nat} (hl : og_lr w ls nL lt env) (hj : lt[j]? = some (i, t)) : ls[i]? = some (.val (og_cv w t (env.getD i 0))) ∧ og_rg w.1 t (env.getD i 0) := by
  refine ⟨lv_at hl.1 j ?_, hl.2.1 _ (List.mem_of_getElem? hj)⟩
  rw [List.getElem?_map, hj]
  rfl
theorem og_iload_n {k : Fin 4} {i j : Nat} (hj : lt[j]? = some (i, 0)) (hi : (k : Nat) = i) (hd : decode cc a = .ok (.iload_n k, 1)) : og_OKe own cc nL dep n lt a (a + 1) 0 (og_loc i) := by
  intro p l e R s m args below meth c Q w A H0 C env st h K hn hf hk H locs ls hw hP hS hl
  obtain ⟨h1, h2⟩ := og_lrat hl hj
  exact lv_iload_n C.1 C.2.1 hd hi h1 (hk _ _ h2 hf H locs ls hw hP hS hl)
theorem og_iload {i j : Nat} (hj : lt[j]? = some (i, 0)) (hd : decode cc a = .ok (.iload i, 2)) : og_OKe own cc nL dep n lt a (a + 2) 0 (og_loc i) := by
  intro p l e R s m args below meth c Q w A H0 C env st h K hn hf hk H locs ls hw hP hS hl
  obtain ⟨h1, h2⟩ := og_lrat hl hj
  exact lv_iload C.1 C.2.1 hd h1 (hk _ _ h2 hf H locs ls hw hP hS hl)
theorem og_lload_n {k : Fin 4} {i j : Nat} (hj : lt[j]? = some (i, 1)) (hi : (k : Nat) = i) (hd : decode cc a = .ok (.lload_n k, 1)) : og_OKe own cc nL dep n lt a (a + 1) 1 (og_loc i) := by
  intro p l e R s m args below meth c Q w A H0 C env st h K hn hf hk H locs ls hw hP hS hl
  obtain ⟨h1, h2⟩ := og_lrat hl hj
  exact lv_lload_n C.1 C.2.1 hd hi h1 (hk _ _ h2 hf H locs ls hw hP hS hl)
theorem og_lload {i j : Nat} (hj : lt[j]? = some (i, 1)) (hd : decode cc a = .ok (.lload i, 2)) : og_OKe own cc nL dep n lt a (a + 2) 1 (og_loc i) := by
  intro p l e R s m args below meth c Q w A H0 C env st h K hn hf hk H locs ls hw hP hS hl
  obtain ⟨h1, h2⟩ := og_lrat hl hj
  exact lv_lload C.1 C.2.1 hd h1 (hk _ _ h2 hf H locs ls hw hP hS hl)
theorem og_aload_n {k : Fin 4} {i j t : Nat} (hj : lt[j]? = some (i, t + 2)) (hi : (k : Nat) = i) (hd : decode cc a = .ok (.aload_n k, 1)) : og_OKe own cc nL dep n lt a (a + 1) (t + 2) (og_loc i) := by
  intro p l e R s m args below meth c Q w A H0 C env st h K hn hf hk H locs ls hw hP hS hl
  obtain ⟨h1, h2⟩ := og_lrat hl hj
  exact lv_aload_n C.1 C.2.1 hd hi h1 (hk _ _ h2 hf H locs ls hw hP hS hl)
theorem og_aload {i j t : Nat} (hj : lt[j]? = some (i, t + 2)) (hd : decode cc a = .ok (.aload i, 2)) : og_OKe own cc nL dep n lt a (a + 2) (t + 2) (og_loc i) := by
  intro p l e R s m args below meth c Q w A H0 C env st h K hn hf hk H locs ls hw hP hS hl
  obtain ⟨h1, h2⟩ := og_lrat hl hj
  exact lv_aload C.1 C.2.1 hd h1 (hk _ _ h2 hf H locs ls hw hP hS hl)
theorem og_iconst {x : Int} (h0 : -100 ≤ x ∧ x ≤ 100) (hd : decode cc a = .ok (.iconst x, 1)) : og_OKe own cc nL dep n lt a (a + 1) 0 (og_k x) := by
  intro p l e R s m args below meth c Q w A H0 C env st h K hn hf hk H locs ls hw hP hS hl
  exact lv_iconst C.1 C.2.1 hd rfl (hk _ _ ⟨by omega, by omega⟩ hf H locs ls hw hP hS hl)
theorem og_bipush {x : Int} (h0 : -128 ≤ x ∧ x < 128) (hd : decode cc a = .ok (.bipush x, 2)) : og_OKe own cc nL dep n lt a (a + 2) 0 (og_k x) := by
  intro p l e R s m args below meth c Q w A H0 C env st h K hn hf hk H locs ls hw hP hS hl
  refine lv_bipush C.1 C.2.1 hd (v := Int32.ofInt x) ?_ (hk _ _ ⟨by omega, by omega⟩ hf H locs ls hw hP hS hl)
  apply Int32.toInt_inj.mp
  rw [og_ti (by omega) (by omega), Int8.toInt_toInt32, Int8.toInt_ofInt_of_le (by omega) (by omega)]
theorem og_sipush {x : Int} (h0 : -32768 ≤ x ∧ x < 32768) (hd : decode cc a = .ok (.sipush x, 3)) : og_OKe own cc nL dep n lt a (a + 3) 0 (og_k x) := by
  intro p l e R s m args below meth c Q w A H0 C env st h K hn hf hk H locs ls hw hP hS hl
  refine lv_sipush C.1 C.2.1 hd (v := Int32.ofInt x) ?_ (hk _ _ ⟨by omega, by omega⟩ hf H locs ls hw hP hS hl)
  apply Int32.toInt_inj.mp
  rw [og_ti (by omega) (by omega), Int16.toInt_toInt32, Int16.toInt_ofInt_of_le (by omega) (by omega)]
theorem og_ldc {x : Int} {ix : Nat} (h0 : -2147483648 ≤ x ∧ x ≤ 2147483647) (hw0 : Cond.constant own ix (Int32.ofInt x) ∈ og_tbl) (hd : decode cc a = .ok (.ldc ix, 2)) : og_OKe own cc nL dep n lt a (a + 2) 0 (og_k x) := by
  intro p l e R s m args below meth c Q w A H0 C env st h K hn hf hk H locs ls hw hP hS hl
  exact lv_ldc C.1 C.2.1 C.2.2.2.1 (C.2.2.2.2.1 _ hw0) hd (hk _ _ ⟨by omega, by omega⟩ hf H locs ls hw hP hS hl)
theorem og_ldc2 {x : Int} {ix : Nat} (h0 : -9223372036854775808 ≤ x ∧ x ≤ 9223372036854775807) (hw0 : Cond.constantLong own ix (Int64.ofInt x) ∈ og_tbl) (hd : decode cc a = .ok (.ldc2_w ix, 3)) : og_OKe own cc nL dep n lt a (a + 3) 1 (og_k x) := by
  intro p l e R s m args below meth c Q w A H0 C env st h K hn hf hk H locs ls hw hP hS hl
  exact lv_ldc2 C.1 C.2.1 C.2.2.2.1 (C.2.2.2.2.1 _ hw0) hd (hk _ _ ⟨by omega, by omega⟩ hf H locs ls hw hP hS hl)
theorem og_lconst {x : Fin 2} (hd : decode cc a = .ok (.lconst x, 1)) : og_OKe own cc nL dep n lt a (a + 1) 1 (og_k ((x : Nat) : Int)) := by
  intro p l e R s m args below meth c Q w A H0 C env st h K hn hf hk H locs ls hw hP hS hl
  refine lv_lconst C.1 C.2.1 hd (v := Int64.ofInt ((x : Nat) : Int)) ?_ (hk _ _ ⟨by omega, by omega⟩ hf H locs ls hw hP hS hl)
  exact (Int64.ofInt_eq_ofNat).symm
theorem og_wd1 {w : og_Wd} {st : List Value} {x : Int} (hn : og_wd st ≤ n) (ht : t ≠ 1) : og_wd (og_cv w t x :: st) ≤ n + 1 := by
  have : (og_cv w t x).category = 1 := by
    match t, ht with
    | 0, _ => rfl
    | t + 2, _ => rfl
  simp only [og_wd, List.map_cons, List.sum_cons, this] at hn ⊢
  omega
theorem og_wd2 {w : og_Wd} {st : List Value} {x : Int} (hn : og_wd st ≤ n) : og_wd (og_cv w t x :: st) ≤ n + 2 := by
  have := lv_cat (og_cv w t x)
  simp only [og_wd, List.map_cons, List.sum_cons] at hn ⊢
  omega
theorem og_iadd {m0 : Nat} (hf : og_OKe own cc nL dep n lt a m0 0 f) (hg : og_OKe own cc nL dep (n + 1) lt m0 b 0 g) (hd : decode cc b = .ok (.iadd, 1)) : og_OKe own cc nL dep n lt a (b + 1) 0 (og_add f g) := by
  intro p l e R s m args below meth c Q w A H0 C env st h K hn hh hk
  refine hf p l e R s m args below meth c Q w A H0 C env st h _ hn hh (fun x h1 hx h2 => ?_)
  refine hg p l e R s m args below meth c Q w A H0 C env _ h1 _ (og_wd1 hn (by decide)) h2 (fun y h3 hy h4 => ?_)
  intro H locs ls hw hP hS hl
  refine lv_iadd C.1 C.2.1 hd ?_
  rw [← Int32.ofInt_add]
  exact hk _ _ h4.1 h4.2 H locs ls hw hP hS hl
theorem og_isub {m0 : Nat} (hf : og_OKe own cc nL dep n lt a m0 0 f) (hg : og_OKe own cc nL dep (n + 1) lt m0 b 0 g) (hd : decode cc b = .ok (.isub, 1)) : og_OKe own cc nL dep n lt a (b + 1) 0 (og_sub f g) := by
  intro p l e R s m args below meth c Q w A H0 C env st h K hn hh hk
  refine hf p l e R s m args below meth c Q w A H0 C env st h _ hn hh (fun x h1 hx h2 => ?_)
  refine hg p l e R s m args below meth c Q w A H0 C env _ h1 _ (og_wd1 hn (by decide)) h2 (fun y h3 hy h4 => ?_)
  intro H locs ls hw hP hS hl
  refine lv_isub C.1 C.2.1 hd ?_
  rw [← Int32.ofInt_sub]
  exact hk _ _ h4.1 h4.2 H locs ls hw hP hS hl
theorem og_imul {m0 : Nat} (hf : og_OKe own cc nL dep n lt a m0 0 f) (hg : og_OKe own cc nL dep (n + 1) lt m0 b 0 g) (hd : decode cc b = .ok (.imul, 1)) : og_OKe own cc nL dep n lt a (b + 1) 0 (og_mul f g) := by
  intro p l e R s m args below meth c Q w A H0 C env st h K hn hh hk
  refine hf p l e R s m args below meth c Q w A H0 C env st h _ hn hh (fun x h1 hx h2 => ?_)
  refine hg p l e R s m args below meth c Q w A H0 C env _ h1 _ (og_wd1 hn (by decide)) h2 (fun y h3 hy h4 => ?_)
  intro H locs ls hw hP hS hl
  refine lv_imul C.1 C.2.1 hd ?_
  rw [← Int32.ofInt_mul]
  exact hk _ _ h4.1 h4.2 H locs ls hw hP hS hl
theorem og_i32ne {y : Int} (h : og_i32 y) (hy : y ≠ 0) : ¬ Int32.ofInt y = 0 := by
  intro q
  have := congrArg Int32.toInt q
  rw [og_ti h.1 h.2] at this
  exact hy this
theorem og_i64ne {y : Int} (h : og_i64 y) (hy : y ≠ 0) : ¬ Int64.ofInt y = 0 := by
  intro q
  have := congrArg Int64.toInt q
  rw [og_tl h.1 h.2] at this
  exact hy this
theorem og_i32div {x y : Int} (hx : og_i32 x) (hy : og_i32 y) (hq : og_i32 (x.tdiv y)) : Int32.ofInt x / Int32.ofInt y = Int32.ofInt (x.tdiv y) := by
  apply Int32.toInt_inj.mp
  rw [Int32.toInt_div, og_ti hx.1 hx.2, og_ti hy.1 hy.2, og_ti hq.1 hq.2]
  exact Int.bmod_eq_of_le (by have := hq.1; omega) (by have := hq.2; omega)
theorem og_i64div {x y : Int} (hx : og_i64 x) (hy : og_i64 y) (hq : og_i64 (x.tdiv y)) : Int64.ofInt x / Int64.ofInt y = Int64.ofInt (x.tdiv y) := by
  apply Int64.toInt_inj.mp
  rw [Int64.toInt_div, og_tl hx.1 hx.2, og_tl hy.1 hy.2, og_tl hq.1 hq.2]
  exact Int.bmod_eq_of_le (by have := hq.1; omega) (by have := hq.2; omega)
theorem og_idiv {m0 : Nat} (hf : og_OKe own cc nL dep n lt a m0 0 f) (hg : og_OKe own cc nL dep (n + 1) lt m0 b 0 g) (hd : decode cc b = .ok (.idiv, 1)) : og_OKe own cc nL dep n lt a (b + 1) 0 (og_div f g) := by
  intro p l e R s m args below meth c Q w A H0 C env st h K hn hh hk
  refine hf p l e R s m args below meth c Q w A H0 C env st h _ hn hh (fun x h1 hx h2 => ?_)
  refine hg p l e R s m args below meth c Q w A H0 C env _ h1 _ (og_wd1 hn (by decide)) h2 (fun y h3 hy h4 => ?_)
  intro H locs ls hw hP hS hl
  refine lv_idiv C.1 C.2.1 hd (og_i32ne hy h4.1) ?_
  rw [og_i32div hx hy h4.2.1]
  exact hk _ _ h4.2.1 h4.2.2 H locs ls hw hP hS hl
theorem og_i32dv {x y : Int} (hx : og_i32 x) (hy : og_i32 y) : Int32.ofInt x / Int32.ofInt y = Int32.ofInt (x.tdiv y) := by
  apply Int32.toInt_inj.mp
  rw [Int32.toInt_div, og_ti hx.1 hx.2, og_ti hy.1 hy.2, Int32.toInt_ofInt]
theorem og_i64dv {x y : Int} (hx : og_i64 x) (hy : og_i64 y) : Int64.ofInt x / Int64.ofInt y = Int64.ofInt (x.tdiv y) := by
  apply Int64.toInt_inj.mp
  rw [Int64.toInt_div, og_tl hx.1 hx.2, og_tl hy.1 hy.2, Int64.toInt_ofInt]
theorem og_i32rem {x y : Int} (hx : og_i32 x) (hy : og_i32 y) : og_i32 (x.tmod y) ∧ Int32.ofInt x - Int32.ofInt x / Int32.ofInt y * Int32.ofInt y = Int32.ofInt (x.tmod y) := by
  have e : (Int32.ofInt x % Int32.ofInt y).toInt = x.tmod y := by rw [Int32.toInt_mod, og_ti hx.1 hx.2, og_ti hy.1 hy.2]
  have r := og_ri (Int32.ofInt x % Int32.ofInt y)
  rw [e] at r
  refine ⟨r, ?_⟩
  rw [og_i32dv hx hy, ← Int32.ofInt_mul, ← Int32.ofInt_sub, Int.tmod_def, Int.mul_comm]
theorem og_i64rem {x y : Int} (hx : og_i64 x) (hy : og_i64 y) : og_i64 (x.tmod y) ∧ Int64.ofInt x - Int64.ofInt x / Int64.ofInt y * Int64.ofInt y = Int64.ofInt (x.tmod y) := by
  have e : (Int64.ofInt x % Int64.ofInt y).toInt = x.tmod y := by rw [Int64.toInt_mod, og_tl hx.1 hx.2, og_tl hy.1 hy.2]
  have r := og_rl (Int64.ofInt x % Int64.ofInt y)
  rw [e] at r
  refine ⟨r, ?_⟩
  rw [og_i64dv hx hy, ← Int64.ofInt_mul, ← Int64.ofInt_sub, Int.tmod_def, Int.mul_comm]
theorem og_irem {m0 : Nat} (hf : og_OKe own cc nL dep n lt a m0 0 f) (hg : og_OKe own cc nL dep (n + 1) lt m0 b 0 g) (hd : decode cc b = .ok (.irem, 1)) : og_OKe own cc nL dep n lt a (b + 1) 0 (og_rem f g) := by
  intro p l e R s m args below meth c Q w A H0 C env st h K hn hh hk
  refine hf p l e R s m args below meth c Q w A H0 C env st h _ hn hh (fun x h1 hx h2 => ?_)
  refine hg p l e R s m args below meth c Q w A H0 C env _ h1 _ (og_wd1 hn (by decide)) h2 (fun y h3 hy h4 => ?_)
  intro H locs ls hw hP hS hl
  refine lv_irem C.1 C.2.1 hd (og_i32ne hy h4.1) ?_
  rw [(og_i32rem hx hy).2]
  exact hk _ _ (og_i32rem hx hy).1 h4.2 H locs ls hw hP hS hl
theorem og_iand {m0 : Nat} (hf : og_OKe own cc nL dep n lt a m0 0 f) (hg : og_OKe own cc nL dep (n + 1) lt m0 b 0 g) (hd : decode cc b = .ok (.iand, 1)) : og_OKe own cc nL dep n lt a (b + 1) 0 (og_bop og_oand f g) := by
  intro p l e R s m args below meth c Q w A H0 C env st h K hn hh hk
  refine hf p l e R s m args below meth c Q w A H0 C env st h _ hn hh (fun x h1 hx h2 => ?_)
  refine hg p l e R s m args below meth c Q w A H0 C env _ h1 _ (og_wd1 hn (by decide)) h2 (fun y h3 hy h4 => ?_)
  intro H locs ls hw hP hS hl
  refine lv_iand C.1 C.2.1 hd ?_
  have := hk _ _ (og_ri _) h4 H locs ls hw hP hS hl
  simp only [og_cv, og_bit, og_oi] at this
  exact this
theorem og_ior {m0 : Nat} (hf : og_OKe own cc nL dep n lt a m0 0 f) (hg : og_OKe own cc nL dep (n + 1) lt m0 b 0 g) (hd : decode cc b = .ok (.ior, 1)) : og_OKe own cc nL dep n lt a (b + 1) 0 (og_bop og_oor f g) := by
  intro p l e R s m args below meth c Q w A H0 C env st h K hn hh hk
  refine hf p l e R s m args below meth c Q w A H0 C env st h _ hn hh (fun x h1 hx h2 => ?_)
  refine hg p l e R s m args below meth c Q w A H0 C env _ h1 _ (og_wd1 hn (by decide)) h2 (fun y h3 hy h4 => ?_)
  intro H locs ls hw hP hS hl
  refine lv_ior C.1 C.2.1 hd ?_
  have := hk _ _ (og_ri _) h4 H locs ls hw hP hS hl
  simp only [og_cv, og_bit, og_oi] at this
  exact this
theorem og_ixor {m0 : Nat} (hf : og_OKe own cc nL dep n lt a m0 0 f) (hg : og_OKe own cc nL dep (n + 1) lt m0 b 0 g) (hd : decode cc b = .ok (.ixor, 1)) : og_OKe own cc nL dep n lt a (b + 1) 0 (og_bop og_oxor f g) := by
  intro p l e R s m args below meth c Q w A H0 C env st h K hn hh hk
  refine hf p l e R s m args below meth c Q w A H0 C env st h _ hn hh (fun x h1 hx h2 => ?_)
  refine hg p l e R s m args below meth c Q w A H0 C env _ h1 _ (og_wd1 hn (by decide)) h2 (fun y h3 hy h4 => ?_)
  intro H locs ls hw hP hS hl
  refine lv_ixor C.1 C.2.1 hd ?_
  have := hk _ _ (og_ri _) h4 H locs ls hw hP hS hl
  simp only [og_cv, og_bit, og_oi] at this
  exact this
theorem og_ishl {m0 : Nat} (hf : og_OKe own cc nL dep n lt a m0 0 f) (hg : og_OKe own cc nL dep (n + 1) lt m0 b 0 g) (hd : decode cc b = .ok (.ishl, 1)) : og_OKe own cc nL dep n lt a (b + 1) 0 (og_bop og_oshl f g) := by
  intro p l e R s m args below meth c Q w A H0 C env st h K hn hh hk
  refine hf p l e R s m args below meth c Q w A H0 C env st h _ hn hh (fun x h1 hx h2 => ?_)
  refine hg p l e R s m args below meth c Q w A H0 C env _ h1 _ (og_wd1 hn (by decide)) h2 (fun y h3 hy h4 => ?_)
  intro H locs ls hw hP hS hl
  refine lv_ishl C.1 C.2.1 hd ?_
  have := hk _ _ (og_ri _) h4 H locs ls hw hP hS hl
  simp only [og_cv, og_bit, og_oi] at this
  exact this
theorem og_ishr {m0 : Nat} (hf : og_OKe own cc nL dep n lt a m0 0 f) (hg : og_OKe own cc nL dep (n + 1) lt m0 b 0 g) (hd : decode cc b = .ok (.ishr, 1)) : og_OKe own cc nL dep n lt a (b + 1) 0 (og_bop og_oshr f g) := by
  intro p l e R s m args below meth c Q w A H0 C env st h K hn hh hk
  refine hf p l e R s m args below meth c Q w A H0 C env st h _ hn hh (fun x h1 hx h2 => ?_)
  refine hg p l e R s m args below meth c Q w A H0 C env _ h1 _ (og_wd1 hn (by decide)) h2 (fun y h3 hy h4 => ?_)
  intro H locs ls hw hP hS hl
  refine lv_ishr C.1 C.2.1 hd ?_
  have := hk _ _ (og_ri _) h4 H locs ls hw hP hS hl
  simp only [og_cv, og_bit, og_oi] at this
  exact this
theorem og_iushr {m0 : Nat} (hf : og_OKe own cc nL dep n lt a m0 0 f) (hg : og_OKe own cc nL dep (n + 1) lt m0 b 0 g) (hd : decode cc b = .ok (.iushr, 1)) : og_OKe own cc nL dep n lt a (b + 1) 0 (og_bop og_oushr f g) := by
  intro p l e R s m args below meth c Q w A H0 C env st h K hn hh hk
  refine hf p l e R s m args below meth c Q w A H0 C env st h _ hn hh (fun x h1 hx h2 => ?_)
  refine hg p l e R s m args below meth c Q w A H0 C env _ h1 _ (og_wd1 hn (by decide)) h2 (fun y h3 hy h4 => ?_)
  intro H locs ls hw hP hS hl
  refine lv_iushr C.1 C.2.1 hd rfl ?_
  have := hk _ _ (og_ri _) h4 H locs ls hw hP hS hl
  simp only [og_cv, og_bit, og_oi] at this
  exact this
theorem og_ladd_ {m0 : Nat} (hf : og_OKe own cc nL dep n lt a m0 1 f) (hg : og_OKe own cc nL dep (n + 2) lt m0 b 1 g) (hd : decode cc b = .ok (.ladd, 1)) : og_OKe own cc nL dep n lt a (b + 1) 1 (og_ladd f g) := by
  intro p l e R s m args below meth c Q w A H0 C env st h K hn hh hk
  refine hf p l e R s m args below meth c Q w A H0 C env st h _ hn hh (fun x h1 hx h2 => ?_)
  refine hg p l e R s m args below meth c Q w A H0 C env _ h1 _ (og_wd2 hn) h2 (fun y h3 hy h4 => ?_)
  intro H locs ls hw hP hS hl
  refine lv_ladd C.1 C.2.1 hd ?_
  rw [← Int64.ofInt_add]
  exact hk _ _ h4.1 h4.2 H locs ls hw hP hS hl
theorem og_lsub_ {m0 : Nat} (hf : og_OKe own cc nL dep n lt a m0 1 f) (hg : og_OKe own cc nL dep (n + 2) lt m0 b 1 g) (hd : decode cc b = .ok (.lsub, 1)) : og_OKe own cc nL dep n lt a (b + 1) 1 (og_lsub f g) := by
  intro p l e R s m args below meth c Q w A H0 C env st h K hn hh hk
  refine hf p l e R s m args below meth c Q w A H0 C env st h _ hn hh (fun x h1 hx h2 => ?_)
  refine hg p l e R s m args below meth c Q w A H0 C env _ h1 _ (og_wd2 hn) h2 (fun y h3 hy h4 => ?_)
  intro H locs ls hw hP hS hl
  refine lv_lsub C.1 C.2.1 hd ?_
  rw [← Int64.ofInt_sub]
  exact hk _ _ h4.1 h4.2 H locs ls hw hP hS hl
theorem og_lmul_ {m0 : Nat} (hf : og_OKe own cc nL dep n lt a m0 1 f) (hg : og_OKe own cc nL dep (n + 2) lt m0 b 1 g) (hd : decode cc b = .ok (.lmul, 1)) : og_OKe own cc nL dep n lt a (b + 1) 1 (og_lmul f g) := by
  intro p l e R s m args below meth c Q w A H0 C env st h K hn hh hk
  refine hf p l e R s m args below meth c Q w A H0 C env st h _ hn hh (fun x h1 hx h2 => ?_)
  refine hg p l e R s m args below meth c Q w A H0 C env _ h1 _ (og_wd2 hn) h2 (fun y h3 hy h4 => ?_)
  intro H locs ls hw hP hS hl
  refine lv_lmul C.1 C.2.1 hd ?_
  rw [← Int64.ofInt_mul]
  exact hk _ _ h4.1 h4.2 H locs ls hw hP hS hl
theorem og_ldiv_ {m0 : Nat} (hf : og_OKe own cc nL dep n lt a m0 1 f) (hg : og_OKe own cc nL dep (n + 2) lt m0 b 1 g) (hd : decode cc b = .ok (.ldiv, 1)) : og_OKe own cc nL dep n lt a (b + 1) 1 (og_ldiv f g) := by
  intro p l e R s m args below meth c Q w A H0 C env st h K hn hh hk
  refine hf p l e R s m args below meth c Q w A H0 C env st h _ hn hh (fun x h1 hx h2 => ?_)
  refine hg p l e R s m args below meth c Q w A H0 C env _ h1 _ (og_wd2 hn) h2 (fun y h3 hy h4 => ?_)
  intro H locs ls hw hP hS hl
  refine lv_ldiv C.1 C.2.1 hd (og_i64ne hy h4.1) ?_
  rw [og_i64dv hx hy]
  exact hk _ _ h4.2.1 h4.2.2 H locs ls hw hP hS hl
theorem og_lrem_ {m0 : Nat} (hf : og_OKe own cc nL dep n lt a m0 1 f) (hg : og_OKe own cc nL dep (n + 2) lt m0 b 1 g) (hd : decode cc b = .ok (.lrem, 1)) : og_OKe own cc nL dep n lt a (b + 1) 1 (og_lrem f g) := by
  intro p l e R s m args below meth c Q w A H0 C env st h K hn hh hk
  refine hf p l e R s m args below meth c Q w A H0 C env st h _ hn hh (fun x h1 hx h2 => ?_)
  refine hg p l e R s m args below meth c Q w A H0 C env _ h1 _ (og_wd2 hn) h2 (fun y h3 hy h4 => ?_)
  intro H locs ls hw hP hS hl
  refine lv_lrem C.1 C.2.1 hd (og_i64ne hy h4.1) ?_
  rw [(og_i64rem hx hy).2]
  exact hk _ _ (og_i64rem hx hy).1 h4.2 H locs ls hw hP hS hl
theorem og_land_ {m0 : Nat} (hf : og_OKe own cc nL dep n lt a m0 1 f) (hg : og_OKe own cc nL dep (n + 2) lt m0 b 1 g) (hd : decode cc b = .ok (.land, 1)) : og_OKe own cc nL dep n lt a (b + 1) 1 (og_land f g) := by
  intro p l e R s m args below meth c Q w A H0 C env st h K hn hh hk
  refine hf p l e R s m args below meth c Q w A H0 C env st h _ hn hh (fun x h1 hx h2 => ?_)
  refine hg p l e R s m args below meth c Q w A H0 C env _ h1 _ (og_wd2 hn) h2 (fun y h3 hy h4 => ?_)
  intro H locs ls hw hP hS hl
  refine lv_land C.1 C.2.1 hd ?_
  have := hk _ _ (og_rl _) h4 H locs ls hw hP hS hl
  simp only [og_cv, og_lbit, og_ol] at this
  exact this
theorem og_i2l_ (hf : og_OKe own cc nL dep n lt a b 0 f) (hd : decode cc b = .ok (.i2l, 1)) : og_OKe own cc nL dep n lt a (b + 1) 1 (og_i2l f) := by
  intro p l e R s m args below meth c Q w A H0 C env st h K hn hh hk
  refine hf p l e R s m args below meth c Q w A H0 C env st h _ hn hh (fun x h1 hx h2 => ?_)
  intro H locs ls hw hP hS hl
  refine lv_i2l C.1 C.2.1 hd (v := Int64.ofInt x) ?_ (hk _ _ ⟨by have := hx.1; omega, by have := hx.2; omega⟩ h2 H locs ls hw hP hS hl)
  apply Int64.toInt_inj.mp
  rw [Int32.toInt_toInt64, og_ti hx.1 hx.2, og_tl (by have := hx.1; omega) (by have := hx.2; omega)]
theorem og_l2i_ (hf : og_OKe own cc nL dep n lt a b 1 f) (hd : decode cc b = .ok (.l2i, 1)) : og_OKe own cc nL dep n lt a (b + 1) 0 (og_l2i f) := by
  intro p l e R s m args below meth c Q w A H0 C env st h K hn hh hk
  refine hf p l e R s m args below meth c Q w A H0 C env st h _ hn hh (fun x h1 hx h2 => ?_)
  intro H locs ls hw hP hS hl
  refine lv_l2i C.1 C.2.1 hd (v := Int32.ofInt x) ?_ (hk _ _ h2.1 h2.2 H locs ls hw hP hS hl)
  apply Int32.toInt_inj.mp
  rw [Int64.toInt_toInt32, og_tl hx.1 hx.2, Int32.toInt_ofInt]
theorem og_ineg_ (hf : og_OKe own cc nL dep n lt a b 0 f) (hd : decode cc b = .ok (.ineg, 1)) : og_OKe own cc nL dep n lt a (b + 1) 0 (og_neg f) := by
  intro p l e R s m args below meth c Q w A H0 C env st h K hn hh hk
  refine hf p l e R s m args below meth c Q w A H0 C env st h _ hn hh (fun x h1 hx h2 => ?_)
  intro H locs ls hw hP hS hl
  refine lv_ineg C.1 C.2.1 hd ?_
  rw [← Int32.ofInt_neg]
  exact hk _ _ h2.1 h2.2 H locs ls hw hP hS hl
theorem og_obj {w : og_Wd} {h : Hp} {i : Int} {kn ci k t : Nat} {sl : List (Nat × Option (Int → Int))} {q : Option (Int → Int)} (hi : i ∈ w.1) (hkd : og_kd i = kn) (hki : og_ki kn = .inl (ci, sl)) (hs : sl[k]? = some (t, q)) :
    ∃ q0 : Nat, w.1[q0]? = some i ∧ (og_wW w h)[q0]? = some (w.2.2.1 i, .inr (ci, sl.mapIdx (og_ff w h i))) ∧ (sl.mapIdx (og_ff w h i))[k]? = some (og_ff w h i k (t, q)) := by
  obtain ⟨q0, h1, h2⟩ := og_at (w := w) (h := h) hi
  rw [og_ce_obj hkd hki] at h2
  exact ⟨q0, h1, h2, by rw [List.getElem?_mapIdx, hs]; rfl⟩
theorem og_getf {kn ci k t ix N : Nat} {sl : List (Nat × Option (Int → Int))} {C : String} {T : u_T} (hf : og_OKe own cc nL dep n lt a b (kn + 4) f) (hki : og_ki kn = .inl (ci, sl)) (hs : sl[k]? = some (t, none)) (hin : ∀ q ∈ u_ws C T N, q ∈ og_tbl) (hc : og_cl[ci]? = some (C, T, N)) (hk0 : k < N)
    (hlink : Cond.fieldLink own ix (T k).1 (T k).2.1 (T k).2.2.1 ∈ og_tbl) (hd : decode cc b = .ok (.getfield ix, 3)) : og_OKe own cc nL dep n lt a (b + 3) t (og_get k f) := by
  intro p l e R s m args below meth c Q w A H0 C env st h K hn hh hk
  refine hf p l e R s m args below meth c Q w A H0 C env st h _ hn hh (fun x h1 hx h2 => ?_)
  intro H locs ls hw hP hS hl
  obtain ⟨q0, g0, g1, g2⟩ := og_obj (w := w) (h := h1) hx.1 hx.2 hki hs
  refine va_get C.1 C.2.1 C.2.2.2.2.1 hin C.2.2.2.1 C.2.2.2.2.2.1 hP q0 g1 hc k hk0 (C.2.2.2.2.1 _ hlink) (fun _ h => h) g2 hd ?_
  have r := hw x hx.1 k
  rw [og_sty_obj hx.2 hki hs] at r
  exact hk _ _ r h2 H locs ls hw hP hS hl
theorem og_getfN {kn ci k t ix N : Nat} {sl : List (Nat × Option (Int → Int))} {C host : String} {T : u_T} (hf : og_OKe own cc nL dep n lt a b (kn + 4) f) (hki : og_ki kn = .inl (ci, sl)) (hs : sl[k]? = some (t, none)) (hin : ∀ q ∈ u_ws C T N, q ∈ og_tbl) (hc : og_cl[ci]? = some (C, T, N)) (hk0 : k < N)
    (hlink : Cond.fieldLinkNest own ix (T k).1 (T k).2.1 (T k).2.2.1 host ∈ og_nest) (hd : decode cc b = .ok (.getfield ix, 3)) : og_OKe own cc nL dep n lt a (b + 3) t (og_get k f) := by
  intro p l e R s m args below meth c Q w A H0 C env st h K hn hh hk
  refine hf p l e R s m args below meth c Q w A H0 C env st h _ hn hh (fun x h1 hx h2 => ?_)
  intro H locs ls hw hP hS hl
  obtain ⟨q0, g0, g1, g2⟩ := og_obj (w := w) (h := h1) hx.1 hx.2 hki hs
  refine va_getN C.1 C.2.1 C.2.2.2.2.1 hin C.2.2.2.1 C.2.2.2.2.2.1 hP q0 g1 hc k hk0 (C.2.2.2.2.2.2.2.2.2.2 _ hlink) (fun _ h => h) g2 hd ?_
  have r := hw x hx.1 k
  rw [og_sty_obj hx.2 hki hs] at r
  exact hk _ _ r h2 H locs ls hw hP hS hl
theorem og_getx {kn ci k t ix N : Nat} {sl : List (Nat × Option (Int → Int))} {C : String} {T : u_T} {fx : Int → Int} (hf : og_OKe own cc nL dep n lt a b (kn + 4) f) (hki : og_ki kn = .inl (ci, sl)) (hs : sl[k]? = some (t + 2, some fx)) (hin : ∀ q ∈ u_ws C T N, q ∈ og_tbl) (hc : og_cl[ci]? = some (C, T, N)) (hk0 : k < N)
    (hlink : Cond.fieldLink own ix (T k).1 (T k).2.1 (T k).2.2.1 ∈ og_tbl) (hd : decode cc b = .ok (.getfield ix, 3)) : og_OKe own cc nL dep n lt a (b + 3) (t + 2) (og_fix fx f) := by
  intro p l e R s m args below meth c Q w A H0 C env st h K hn hh hk
  refine hf p l e R s m args below meth c Q w A H0 C env st h _ hn hh (fun x h1 hx h2 => ?_)
  intro H locs ls hw hP hS hl
  obtain ⟨q0, g0, g1, g2⟩ := og_obj (w := w) (h := h1) hx.1 hx.2 hki hs
  refine va_get C.1 C.2.1 C.2.2.2.2.1 hin C.2.2.2.1 C.2.2.2.2.2.1 hP q0 g1 hc k hk0 (C.2.2.2.2.1 _ hlink) (fun _ h => h) g2 hd ?_
  exact hk _ _ (C.2.2.2.2.2.2.1.2.1 x hx.1 _ (by rw [hx.2]; exact hki) k _ _ hs) h2 H locs ls hw hP hS hl
theorem og_getxN {kn ci k t ix N : Nat} {sl : List (Nat × Option (Int → Int))} {C host : String} {T : u_T} {fx : Int → Int} (hf : og_OKe own cc nL dep n lt a b (kn + 4) f) (hki : og_ki kn = .inl (ci, sl)) (hs : sl[k]? = some (t + 2, some fx)) (hin : ∀ q ∈ u_ws C T N, q ∈ og_tbl) (hc : og_cl[ci]? = some (C, T, N)) (hk0 : k < N)
    (hlink : Cond.fieldLinkNest own ix (T k).1 (T k).2.1 (T k).2.2.1 host ∈ og_nest) (hd : decode cc b = .ok (.getfield ix, 3)) : og_OKe own cc nL dep n lt a (b + 3) (t + 2) (og_fix fx f) := by
  intro p l e R s m args below meth c Q w A H0 C env st h K hn hh hk
  refine hf p l e R s m args below meth c Q w A H0 C env st h _ hn hh (fun x h1 hx h2 => ?_)
  intro H locs ls hw hP hS hl
  obtain ⟨q0, g0, g1, g2⟩ := og_obj (w := w) (h := h1) hx.1 hx.2 hki hs
  refine va_getN C.1 C.2.1 C.2.2.2.2.1 hin C.2.2.2.1 C.2.2.2.2.2.1 hP q0 g1 hc k hk0 (C.2.2.2.2.2.2.2.2.2.2 _ hlink) (fun _ h => h) g2 hd ?_
  exact hk _ _ (C.2.2.2.2.2.2.1.2.1 x hx.1 _ (by rw [hx.2]; exact hki) k _ _ hs) h2 H locs ls hw hP hS hl
end
