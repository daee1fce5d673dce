section
-- the making of objects: cells side by side from a place on
def cn_ws (b : Nat) : List va_E → va_W
  | [] => []
  | x :: cs => (b, x) :: cn_ws (b + 1) cs
theorem cn_get : ∀ (cs : List va_E) (b k : Nat), (cn_ws b cs)[k]? = (cs[k]?).map (fun x => (b + k, x))
  | [], b, k => by simp [cn_ws]
  | x :: cs, b, 0 => by simp [cn_ws]
  | x :: cs, b, k + 1 => by
    simp only [cn_ws, List.getElem?_cons_succ]
    rw [cn_get cs (b + 1) k, show b + 1 + k = b + (k + 1) by omega]
theorem cn_app : ∀ (cs ds : List va_E) (b : Nat), cn_ws b (cs ++ ds) = cn_ws b cs ++ cn_ws (b + cs.length) ds
  | [], ds, b => by simp [cn_ws]
  | x :: cs, ds, b => by
    simp only [cn_ws, List.cons_append, List.length_cons]
    rw [cn_app cs ds (b + 1), show b + 1 + cs.length = b + (cs.length + 1) by omega]
theorem cn_set : ∀ (cs : List va_E) (b k : Nat) (x : va_E), (cn_ws b cs).set k (b + k, x) = cn_ws b (cs.set k x)
  | [], b, k, x => by simp [cn_ws]
  | y :: cs, b, 0, x => by simp [cn_ws]
  | y :: cs, b, k + 1, x => by
    simp only [cn_ws, List.set_cons_succ]
    rw [← cn_set cs (b + 1) k x, show b + 1 + k = b + (k + 1) by omega]
theorem cn_at {cs : List va_E} {b k : Nat} {x : va_E} (h : cs[k]? = some x) : (cn_ws b cs)[k]? = some (b + k, x) := by rw [cn_get, h]; rfl
theorem cn_D {cs : List va_E} {b : Nat} : va_D (fun q => b ≤ q) (cn_ws b cs) := by
  refine ⟨fun i j x y hx hy h => ?_, fun k x hx => ?_⟩
  · rw [cn_get] at hx hy
    cases hi : cs[i]? with
    | none => rw [hi] at hx; cases hx
    | some x0 =>
      cases hj : cs[j]? with
      | none => rw [hj] at hy; cases hy
      | some y0 =>
        rw [hi] at hx
        rw [hj] at hy
        cases hx
        cases hy
        simp only at h
        omega
  · rw [cn_get] at hx
    cases hi : cs[k]? with
    | none => rw [hi] at hx; cases hx
    | some x0 =>
      rw [hi] at hx
      cases hx
      show b ≤ b + k
      omega
def cn_ty (C : Nat → ClassId) : List (ClassId × FieldType) := [(C 0, .int), (C 1, .long), (C 2, .char), (C 3, .object "OpenGraves$Yard")]
def cn_a (t n : Nat) (l : List Int) : vp_A := (n, match t with
  | 1 => .inr (.inl fun k => Int64.ofInt (l.getD k 0))
  | _ => .inl fun k => Int32.ofInt (l.getD k 0))
def cn_Cl (C : String) (T : u_T) (N ci : Nat) (ty : Nat → FieldType) : Prop := og_cl[ci]? = some (C, T, N) ∧ (∀ w ∈ u_ws C T N, w ∈ og_tbl) ∧ (∀ k, k < N → parseFieldDescriptor (T k).2.2.1 = some (ty k)) ∧ ∀ a, a < N → ∀ b, b < N → a ≠ b → (T a).2.1 ≠ (T b).2.1
def cn_Cx (own : String) (cc : ByteArray) (nL : Nat) (p : Program) (s : State) (m : MethodId) (args : Array Value) (c : Code) (D : va_G) (C : Nat → ClassId) : Prop :=
  p.tables.exec = Jvm.exec ∧ c.code = cc ∧ c.maxLocals = nL ∧ s.vm.findClass own = some m.cls ∧ (∀ q ∈ og_tbl, q.before args s = true) ∧ va_K D og_cl (cn_ty C) s
def cn_St (D : va_G) (b : Nat) (cs : List va_E) (H0 H : Heap) (locs : List Loc) : Prop := va_P D og_cl (cn_ws b cs) H ∧ va_S (fun q => b ≤ q) H0 H locs
def cn_sz (v : Int) : Nat := if -1 ≤ v ∧ v ≤ 5 then 1 else if v ≤ 127 then 2 else 3
def cn_kb (cc : ByteArray) (pc : Nat) (v : Int) : Bool := if -1 ≤ v ∧ v ≤ 5 then decide (decode cc pc = .ok (.iconst v, 1)) else if v ≤ 127 then decide (-1 ≤ v ∧ decode cc pc = .ok (.bipush v, 2)) else decide (v ≤ 32767 ∧ decode cc pc = .ok (.sipush v, 3))
def cn_aty (t : Nat) : ArrayType := if t = 1 then .long else if t = 2 then .char else .int
section
variable {p : Program} {l : Launch} {e : Env} {R : Room} {s : State} {m : MethodId} {args : Array Value} {below : List Frame} {meth : Method} {c : Code} {H : Heap} {locs : List Loc} {cells slots : Nat} {Q : State → Prop}
variable {own : String} {cc : ByteArray} {nL pc : Nat} {ls : Array Slot} {rest : List Value} {D : va_G} {C : Nat → ClassId} {H0 : Heap} {b : Nat} {cs : List va_E}
theorem cn_push {v : Int} (X : cn_Cx own cc nL p s m args c D C) (h : cn_kb cc pc v = true) (kk : W p l e R s m args below meth c H locs cells slots Q (F0 m (pc + cn_sz v) ls (.int (Int32.ofInt v) :: rest))) : W p l e R s m args below meth c H locs cells slots Q (F0 m pc ls rest) := by
  unfold cn_kb at h
  unfold cn_sz at kk
  by_cases h1 : -1 ≤ v ∧ v ≤ 5
  · rw [if_pos h1] at h kk
    exact lv_iconst X.1 X.2.1 (of_decide_eq_true h) rfl kk
  · rw [if_neg h1] at h kk
    by_cases h2 : v ≤ 127
    · rw [if_pos h2] at h kk
      have h3 := of_decide_eq_true h
      refine lv_bipush X.1 X.2.1 h3.2 ?_ kk
      apply Int32.toInt_inj.mp
      rw [Int8.toInt_toInt32, Int8.toInt_ofInt_of_le (by omega) (by omega), og_ti (by omega) (by omega)]
    · rw [if_neg h2] at h kk
      have h3 := of_decide_eq_true h
      refine lv_sipush X.1 X.2.1 h3.2 ?_ kk
      apply Int32.toInt_inj.mp
      rw [Int16.toInt_toInt32, Int16.toInt_ofInt_of_le (by omega) (by omega), og_ti (by omega) (by omega)]
theorem cn_size {g : JFrame} (hS : cn_St D b cs H0 H locs) (h0 : cs ≠ [] ∨ b ≤ H0.size) (hcs : s.heap.size + cells = b + cs.length) (kk : H.size = b + cs.length → W p l e R s m args below meth c H locs cells slots Q g) : W p l e R s m args below meth c H locs cells slots Q g := by
  intro T hT X
  have h1 := X.heapSize
  rw [hT] at h1
  have h2 : b + cs.length ≤ H.size := by
    cases cs with
    | nil =>
      rcases h0 with h | h
      · exact absurd rfl h
      · exact Nat.le_trans h hS.2.1
    | cons x xs =>
      have hl : (x :: xs)[xs.length]? = some ((x :: xs)[xs.length]'(by simp)) := List.getElem?_eq_getElem _
      have := (hS.1 xs.length _ (cn_at (b := b) hl)).lt
      simp only [List.length_cons]
      simp only at this
      omega
  exact kk (by omega) T hT X
theorem cn_grow {x : va_E} {H1 : Heap} (hS : cn_St D b cs H0 H locs) (hz : H.size = b + cs.length) (h1 : va_at D og_cl (b + cs.length, x) H1) (z1 : H1.size = H.size + 1) (o1 : ∀ q, q < H.size → H1[q]? = H[q]?) : cn_St D b (cs ++ [x]) H0 H1 locs := by
  refine ⟨?_, ⟨Nat.le_trans hS.2.1 (by omega), fun q q1 q2 => (o1 q (Nat.lt_of_lt_of_le q1 hS.2.1)).trans (hS.2.2.1 q q1 q2), hS.2.2.2⟩⟩
  rw [cn_app]
  refine (hS.1.kept (fun k q hk => o1 q.1 ((hS.1 k q hk).lt))).app (fun k q hk => ?_)
  have hz : k < 1 := (List.getElem?_eq_some_iff.mp hk).1
  rw [show k = 0 by omega] at hk
  cases hk
  exact h1
theorem cn_newa {t n : Nat} (X : cn_Cx own cc nL p s m args c D C) (hS : cn_St D b cs H0 H locs) (h0 : cs ≠ [] ∨ b ≤ H0.size) (hcs : s.heap.size + cells = b + cs.length) (ht : t ≤ 2) (hn : n ≤ 32767) (hcells : cells + 1 ≤ R.cells) (hslots : slots + n ≤ R.slots) (hdg : decode cc pc = .ok (.newarray (cn_aty t), 2))
    (kk : ∀ H1, cn_St D b (cs ++ [.inl (C t, cn_a t n [])]) H0 H1 locs → W p l e R s m args below meth c H1 locs (cells + 1) (slots + n) Q (F0 m (pc + 2) ls (.ref (b + cs.length) :: rest))) : W p l e R s m args below meth c H locs cells slots Q (F0 m pc ls (.int (Int32.ofInt (n : Int)) :: rest)) := by
  refine cn_size hS h0 hcs (fun hz => ?_)
  have ht3 : t = 0 ∨ t = 1 ∨ t = 2 := by omega
  have hN : (Int32.ofInt (n : Int)).toNatClampNeg = n := by rw [og_clamp (by omega) (by omega)]; omega
  have hneg : ¬ (Int32.ofInt (n : Int)) < 0 := by
    intro h
    have := Int32.lt_iff_toInt_lt.mp h
    rw [og_ti (by omega) (by omega)] at this
    simp at this
    omega
  have harr : (Cond.arrayClass (newarray.typeOf (cn_aty t))) ∈ og_tbl := by
    rcases ht3 with rfl | rfl | rfl
    · exact (og_mc1 124 rfl rfl)
    · exact (og_mc7 11 rfl rfl)
    · exact (og_mc7 10 rfl rfl)
  have hK := X.2.2.2.2.2.2
  rcases ht3 with rfl | rfl | rfl
  · refine va_newaK (atype := .int) X.1 X.2.1 (X.2.2.2.2.1 _ harr) rfl hdg rfl hneg hN (by show n * 4 ≤ _; omega) hcells hslots hz (fun H1 cA e1 z1 o1 _ hNm => ?_)
    have hc : cA = C 0 := Option.some.inj (hNm.symm.trans (hK 0 _ rfl).2)
    subst hc
    exact kk H1 (cn_grow hS hz e1 (by omega) (fun q hq => o1 q (by omega)))
  · refine va_newaK (atype := .long) X.1 X.2.1 (X.2.2.2.2.1 _ harr) rfl hdg rfl hneg hN (by show n * 8 ≤ _; omega) hcells hslots hz (fun H1 cA e1 z1 o1 _ hNm => ?_)
    have hc : cA = C 1 := Option.some.inj (hNm.symm.trans (hK 1 _ rfl).2)
    subst hc
    exact kk H1 (cn_grow hS hz e1 (by omega) (fun q hq => o1 q (by omega)))
  · refine va_newaK (atype := .char) X.1 X.2.1 (X.2.2.2.2.1 _ harr) rfl hdg rfl hneg hN (by show n * 2 ≤ _; omega) hcells hslots hz (fun H1 cA e1 z1 o1 _ hNm => ?_)
    have hc : cA = C 2 := Option.some.inj (hNm.symm.trans (hK 2 _ rfl).2)
    subst hc
    exact kk H1 (cn_grow hS hz e1 (by omega) (fun q hq => o1 q (by omega)))
theorem cn_new {Cn : String} {T : u_T} {N ci index : Nat} {ty : Nat → FieldType} {fs : List Value} (X : cn_Cx own cc nL p s m args c D C) (hC : cn_Cl Cn T N ci ty) (hS : cn_St D b cs H0 H locs) (h0 : cs ≠ [] ∨ b ≤ H0.size) (hcs : s.heap.size + cells = b + cs.length) (hcl : Cond.classLink own index Cn ∈ og_tbl) (hinst : Cond.instantiable Cn N ∈ og_tbl) (hini : Cond.initialized Cn ∈ og_tbl) (hfs : ∀ j, j < N → defaultValue (ty j) = vp_V fs j) (hcells : cells + 1 ≤ R.cells) (hslots : slots + N ≤ R.slots) (hdg : decode cc pc = .ok (.new index, 3))
    (kk : ∀ H1, cn_St D b (cs ++ [.inr (ci, fs)]) H0 H1 locs → W p l e R s m args below meth c H1 locs (cells + 1) (slots + N) Q (F0 m (pc + 3) ls (.ref (b + cs.length) :: rest))) : W p l e R s m args below meth c H locs cells slots Q (F0 m pc ls rest) := by
  refine cn_size hS h0 hcs (fun hz => ?_)
  have hKn := X.2.2.2.2.2.1 ci _ hC.1
  refine W.newcK X.1 X.2.1 X.2.2.2.1 (X.2.2.2.2.1 _ hcl) (X.2.2.2.2.1 _ hinst) (X.2.2.2.2.1 _ hini) rfl hdg hcells hslots hKn.2.1 hz (fun H1 kC hkC e1 z1 o1 => ?_)
  exact kk H1 (cn_grow hS hz ⟨_, hC.1, (u_born ty X.2.2.2.2.1 hC.2.1 hKn hkC e1 hC.2.2.1).to hfs⟩ (by omega) (fun q hq => o1 q (by omega)))
end
end
