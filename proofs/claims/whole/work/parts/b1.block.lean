section
-- a block: a new array, its first entries, the field that it goes into
def cn_dE (cc : ByteArray) (t : Nat) : List Int → Nat → Nat → Bool
  | [], _, _ => true
  | v :: l, j, pc => decide (decode cc pc = .ok (.dup, 1)) && cn_kb cc (pc + 1) (j : Int) && cn_kb cc (pc + 1 + cn_sz (j : Int)) v && decide (decode cc (pc + 1 + cn_sz (j : Int) + cn_sz v) = .ok (if t = 2 then .castore else .iastore, 1)) && decide (-1 ≤ v ∧ v ≤ 32767 ∧ (t = 2 → 0 ≤ v ∧ v ≤ 127)) && cn_dE cc t l (j + 1) (pc + 1 + cn_sz (j : Int) + cn_sz v + 1)
def cn_pE : List Int → Nat → Nat → Nat
  | [], _, pc => pc
  | v :: l, j, pc => cn_pE l (j + 1) (pc + 1 + cn_sz (j : Int) + cn_sz v + 1)
theorem cn_upd {l : List Int} {v : Int} : upd (fun k => Int32.ofInt (l.getD k 0)) l.length (Int32.ofInt v) = fun k => Int32.ofInt ((l ++ [v]).getD k 0) := by
  funext k
  simp only [upd, List.getD_eq_getElem?_getD]
  by_cases h : k = l.length
  · subst h
    simp
  · rw [if_neg h]
    by_cases h2 : k < l.length
    · rw [List.getElem?_append_left h2]
    · rw [List.getElem?_eq_none (by omega), List.getElem?_eq_none (by simp; omega)]
theorem cn_nar {v : Int} (h0 : 0 ≤ v) (h1 : v ≤ 127) : vp_nar .char (Int32.ofInt v) = Int32.ofInt v := by
  obtain ⟨n, rfl⟩ := Int.eq_ofNat_of_zero_le h0
  have h : ∀ n : Nat, n < 128 → vp_nar .char (Int32.ofInt (n : Int)) = Int32.ofInt (n : Int) := by decide +kernel
  exact h n (by omega)
section
variable {p : Program} {l : Launch} {e : Env} {R : Room} {s : State} {m : MethodId} {args : Array Value} {below : List Frame} {meth : Method} {c : Code} {H : Heap} {locs : List Loc} {cells slots : Nat} {Q : State → Prop}
variable {own : String} {cc : ByteArray} {nL pc : Nat} {ls : Array Slot} {rest : List Value} {D : va_G} {C : Nat → ClassId} {H0 : Heap} {b : Nat} {cs : List va_E}
theorem cn_elems {t n : Nat} (X : cn_Cx own cc nL p s m args c D C) (ht : t = 0 ∨ t = 2) (hn : n ≤ 32767) : ∀ (l2 l1 : List Int) (pc : Nat) (H : Heap) (locs : List Loc), l1.length + l2.length ≤ n → cn_dE cc t l2 l1.length pc = true → cn_St D b (cs ++ [.inl (C t, cn_a t n l1)]) H0 H locs →
    (∀ H1 locs1, cn_St D b (cs ++ [.inl (C t, cn_a t n (l1 ++ l2))]) H0 H1 locs1 → W p l e R s m args below meth c H1 locs1 cells slots Q (F0 m (cn_pE l2 l1.length pc) ls (.ref (b + cs.length) :: rest))) → W p l e R s m args below meth c H locs cells slots Q (F0 m pc ls (.ref (b + cs.length) :: rest)) := by
  intro l2
  induction l2 with
  | nil =>
    intro l1 pc H locs hl hd hS kk
    rw [List.append_nil] at kk
    exact kk H locs hS
  | cons v l2 ih =>
    intro l1 pc H locs hl hd hS kk
    simp only [cn_dE, Bool.and_eq_true, decide_eq_true_eq] at hd
    simp only [List.length_cons] at hl
    obtain ⟨⟨⟨⟨⟨d1, d2⟩, d3⟩, d4⟩, d5⟩, d6⟩ := hd
    refine lv_dup X.1 X.2.1 d1 rfl ?_
    refine cn_push X d2 ?_
    refine cn_push X d3 ?_
    have hx : (cs ++ [.inl (C t, cn_a t n l1)])[cs.length]? = some (Sum.inl (C t, cn_a t n l1)) := by simp
    have hg := cn_at (b := b) hx
    have hu : ∀ x, (cn_ws b (cs ++ [.inl (C t, cn_a t n l1)])).set cs.length (b + cs.length, x) = cn_ws b (cs ++ [x]) := fun x => by
      rw [cn_set]
      congr 1
      simp
    have hcl : (Int32.ofInt (l1.length : Int)).toNatClampNeg = l1.length := by rw [og_clamp (by omega) (by omega)]; omega
    have fin : ∀ H1 locs1, va_P D og_cl (cn_ws b (cs ++ [.inl (C t, cn_a t n (l1 ++ [v]))])) H1 → va_S (fun q => b ≤ q) H0 H1 locs1 → W p l e R s m args below meth c H1 locs1 cells slots Q (F0 m (pc + 1 + cn_sz (l1.length : Int) + cn_sz v + 1) ls (.ref (b + cs.length) :: rest)) := fun H1 locs1 hP1 hS1 => by
      refine ih (l1 ++ [v]) _ H1 locs1 (by simp; omega) (by simpa using d6) ⟨hP1, hS1⟩ (fun H2 locs2 hS2 => ?_)
      have := kk H2 locs2 (by simpa using hS2)
      simpa [cn_pE] using this
    rcases ht with rfl | rfl
    · refine va_iast X.1 X.2.1 X.2.2.2.2.2 hS.1 cn_D hS.2 cs.length 0 (n := n) (f := fun k => Int32.ofInt (l1.getD k 0)) hg rfl (og_vpin (by omega) (by omega) (by omega)) d4 (fun H1 locs1 hP1 _ hS1 => ?_)
      rw [hu, hcl, cn_upd] at hP1
      exact fin H1 locs1 hP1 hS1
    · refine va_cast X.1 X.2.1 X.2.2.2.2.2 hS.1 cn_D hS.2 cs.length 2 (n := n) (f := fun k => Int32.ofInt (l1.getD k 0)) hg rfl (og_vpin (by omega) (by omega) (by omega)) d4 (fun H1 locs1 hP1 _ hS1 => ?_)
      rw [hu, hcl, cn_nar (d5.2.2 rfl).1 (d5.2.2 rfl).2, cn_upd] at hP1
      exact fin H1 locs1 hP1 hS1
/-- a value into a field of the object at q0 -/
theorem cn_put {T : u_T} {N ci index k q0 : Nat} {ty : Nat → FieldType} {fs : List Value} {v : Value} (X : cn_Cx own cc nL p s m args c D C) (hC : cn_Cl own T N ci ty) (hm : meth.name = "<init>") (hS : cn_St D b cs H0 H locs) (he : cs[q0]? = some (.inr (ci, fs))) (hk : k < N ∧ k < fs.length) (hlink : Cond.fieldLink own index own (T k).2.1 (T k).2.2.1 ∈ og_tbl) (hT : (T k).1 = own) (hn : narrow (ty k) v = v) (hfit : fits (ty k) v = true) (hdg : decode cc pc = .ok (.putfield index, 3))
    (kk : ∀ H1 locs1, cn_St D b (cs.set q0 (.inr (ci, fs.set k v))) H0 H1 locs1 → W p l e R s m args below meth c H1 locs1 cells slots Q (F0 m (pc + 3) ls rest)) : W p l e R s m args below meth c H locs cells slots Q (F0 m pc ls (v :: .ref (b + q0) :: rest)) := by
  have hs : ∀ x, s.fieldFound? (T k).1 (T k).2.1 (T k).2.2.1 = some x → s.fieldFound? own (T k).2.1 (T k).2.2.1 = some x := by rw [hT]; exact fun _ h => h
  cases hf : (T k).2.2.2 with
  | true => exact va_putF X.1 X.2.1 X.2.2.2.2.1 hC.2.1 ty hC.2.2.1 hC.2.2.2 X.2.2.2.1 X.2.2.2.2.2 hS.1 cn_D hS.2 q0 (cn_at he) hC.1 k hk.1 (X.2.2.2.2.1 _ hlink) hs hf hm hT (hC.2.2.1 k hk.1) hn hfit hk.2 hdg (fun H1 locs1 hP1 _ hS1 => kk H1 locs1 ⟨by rw [← cn_set]; exact hP1, hS1⟩)
  | false => exact va_put X.1 X.2.1 X.2.2.2.2.1 hC.2.1 ty hC.2.2.1 hC.2.2.2 X.2.2.2.1 X.2.2.2.2.2 hS.1 cn_D hS.2 q0 (cn_at he) hC.1 k hk.1 (X.2.2.2.2.1 _ hlink) hs hf (hC.2.2.1 k hk.1) hn hfit hk.2 hdg (fun H1 locs1 hP1 _ hS1 => kk H1 locs1 ⟨by rw [← cn_set]; exact hP1, hS1⟩)
end
-- a block's figures: kind, length, first entries, index, field
abbrev cn_B : Type := Nat × Nat × List Int × Nat × Nat
def cn_ckb (cc : ByteArray) (q : cn_B) (pc : Nat) : Bool := decide (decode cc pc = .ok (.aload_n 0, 1)) && cn_kb cc (pc + 1) (q.2.1 : Int) && decide (decode cc (pc + 1 + cn_sz (q.2.1 : Int)) = .ok (.newarray (cn_aty q.1), 2)) && cn_dE cc q.1 q.2.2.1 0 (pc + 1 + cn_sz (q.2.1 : Int) + 2) && decide (decode cc (cn_pE q.2.2.1 0 (pc + 1 + cn_sz (q.2.1 : Int) + 2)) = .ok (.putfield q.2.2.2.1, 3)) && decide (q.1 ≤ 2 ∧ q.2.1 ≤ 32767 ∧ q.2.2.1.length ≤ q.2.1 ∧ (q.2.2.1 = [] ∨ q.1 = 0 ∨ q.1 = 2))
def cn_end (q : cn_B) (pc : Nat) : Nat := cn_pE q.2.2.1 0 (pc + 1 + cn_sz (q.2.1 : Int) + 2) + 3
def cn_cks (cc : ByteArray) : List (Nat × cn_B) → Nat → Bool
  | [], _ => true
  | q :: B, pc => decide (pc = q.1) && cn_ckb cc q.2 q.1 && cn_cks cc B (cn_end q.2 q.1)
def cn_ends : List (Nat × cn_B) → Nat → Nat
  | [], pc => pc
  | q :: B, _ => cn_ends B (cn_end q.2 q.1)
def cn_fs (b : Nat) : List (Nat × cn_B) → List Value → Nat → List Value
  | [], fs, _ => fs
  | q :: B, fs, d => cn_fs b B (fs.set q.2.2.2.2.2 (.ref (b + d))) (d + 1)
theorem cn_fs_len {b : Nat} : ∀ (B : List (Nat × cn_B)) (fs : List Value) (d : Nat), (cn_fs b B fs d).length = fs.length
  | [], fs, d => rfl
  | q :: B, fs, d => by rw [cn_fs, cn_fs_len B]; simp
def cn_ds (C : Nat → ClassId) (B : List (Nat × cn_B)) : List va_E := B.map fun q => .inl (C q.2.1, cn_a q.2.1 q.2.2.1 q.2.2.2.1)
theorem cn_ds_len {C : Nat → ClassId} {B : List (Nat × cn_B)} : (cn_ds C B).length = B.length := by simp [cn_ds]
def cn_sl : List (Nat × cn_B) → Nat
  | [] => 0
  | q :: B => q.2.2.1 + cn_sl B
def cn_bok (own : String) (T : u_T) (q : Nat × cn_B) : Prop := Cond.fieldLink own q.2.2.2.2.1 own (T q.2.2.2.2.2).2.1 (T q.2.2.2.2.2).2.2.1 ∈ og_tbl
def cn_bty (own : String) (T : u_T) (N : Nat) (ty : Nat → FieldType) (q : Nat × cn_B) : Prop := q.2.2.2.2.2 < N ∧ (T q.2.2.2.2.2).1 = own ∧ (∀ r, narrow (ty q.2.2.2.2.2) (.ref r) = .ref r) ∧ ∀ r, fits (ty q.2.2.2.2.2) (.ref r) = true
section
variable {p : Program} {l : Launch} {e : Env} {R : Room} {s : State} {m : MethodId} {args : Array Value} {below : List Frame} {meth : Method} {c : Code} {Q : State → Prop}
variable {own : String} {cc : ByteArray} {nL : Nat} {ls : Array Slot} {rest : List Value} {D : va_G} {C : Nat → ClassId} {H0 : Heap} {b : Nat} {T : u_T} {N ci : Nat} {ty : Nat → FieldType}
theorem cn_bs (X : cn_Cx own cc nL p s m args c D C) (hC : cn_Cl own T N ci ty) (hm : meth.name = "<init>") (hl0 : ls[0]? = some (.val (.ref b))) : ∀ (B : List (Nat × cn_B)) (pc : Nat) (fs : List Value) (ds : List va_E) (H : Heap) (locs : List Loc) (cells slots : Nat), cn_cks cc B pc = true → (∀ q ∈ B, cn_bok own T q) → (∀ q ∈ B, cn_bty own T N ty q) → fs.length = N → s.heap.size + cells = b + (ds.length + 1) → cells + B.length ≤ R.cells → slots + cn_sl B ≤ R.slots → cn_St D b (.inr (ci, fs) :: ds) H0 H locs →
    (∀ H1 locs1, cn_St D b (.inr (ci, cn_fs b B fs (ds.length + 1)) :: (ds ++ cn_ds C B)) H0 H1 locs1 → W p l e R s m args below meth c H1 locs1 (cells + B.length) (slots + cn_sl B) Q (F0 m (cn_ends B pc) ls rest)) → W p l e R s m args below meth c H locs cells slots Q (F0 m pc ls rest) := by
  intro B
  induction B with
  | nil =>
    intro pc fs ds H locs cells slots _ _ _ _ _ _ _ hS kk
    simpa [cn_ds, cn_fs, cn_sl, cn_ends] using kk H locs (by simpa [cn_ds, cn_fs] using hS)
  | cons q B ih =>
    intro pc fs ds H locs cells slots hck hok hty hfl hcs hc hsl hS kk
    obtain ⟨pq, q⟩ := q
    simp only [cn_cks, cn_ckb, Bool.and_eq_true, decide_eq_true_eq] at hck
    obtain ⟨⟨hpq, hck⟩, d6⟩ := hck
    subst hpq
    obtain ⟨⟨⟨⟨⟨d1, d2⟩, d3⟩, d4⟩, d5⟩, g1, g2, g3, g4⟩ := hck
    simp only [List.length_cons] at hc
    simp only [cn_sl] at hsl
    obtain ⟨y1, y2, y3, y4⟩ := hty (pc, q) (List.mem_cons_self ..)
    have y1 : q.2.2.2.2 < N := y1
    have hk := hok (pc, q) (List.mem_cons_self ..)
    refine lv_aload_n X.1 X.2.1 d1 rfl hl0 ?_
    refine cn_push X d2 ?_
    refine cn_newa (t := q.1) (n := q.2.1) X hS (Or.inl (by simp)) (by simpa using hcs) g1 g2 (by omega) (by omega) d3 (fun H1 hS1 => ?_)
    have nx : ∀ H2 locs2, cn_St D b ((.inr (ci, fs) :: ds) ++ [.inl (C q.1, cn_a q.1 q.2.1 q.2.2.1)]) H0 H2 locs2 → W p l e R s m args below meth c H2 locs2 (cells + 1) (slots + q.2.1) Q (F0 m (cn_pE q.2.2.1 0 (pc + 1 + cn_sz (q.2.1 : Int) + 2)) ls (.ref (b + (ds.length + 1)) :: .ref b :: rest)) := fun H2 locs2 hS2 => by
      refine cn_put (q0 := 0) (k := q.2.2.2.2) (fs := fs) (rest := rest) X hC hm hS2 rfl ⟨y1, by omega⟩ hk y2 (y3 _) (y4 _) d5 (fun H3 locs3 hS3 => ?_)
      refine ih (cn_end q pc) (fs.set q.2.2.2.2 (.ref (b + (ds.length + 1)))) (ds ++ [.inl (C q.1, cn_a q.1 q.2.1 q.2.2.1)]) H3 locs3 (cells + 1) (slots + q.2.1) d6 (fun q' hq' => hok q' (List.mem_cons_of_mem _ hq')) (fun q' hq' => hty q' (List.mem_cons_of_mem _ hq')) (by simpa using hfl) (by simp; omega) (by omega) (by omega) (by simpa using hS3) (fun H4 locs4 hS4 => ?_)
      have := kk H4 locs4 (by simpa [cn_fs, cn_ds] using hS4)
      simp only [List.length_cons, cn_sl, cn_ends] at this
      rw [show cells + 1 + B.length = cells + (B.length + 1) by omega, show slots + q.2.1 + cn_sl B = slots + (q.2.1 + cn_sl B) by omega]
      exact this
    by_cases hnil : q.2.2.1 = []
    · rw [hnil] at nx
      exact nx H1 locs hS1
    · refine cn_elems (cs := .inr (ci, fs) :: ds) (t := q.1) (n := q.2.1) X (by rcases g4 with h | h | h; exact absurd h hnil; exact Or.inl h; exact Or.inr h) g2 q.2.2.1 [] _ H1 locs (by simpa using g3) d4 hS1 (fun H2 locs2 hS2 => nx H2 locs2 (by simpa using hS2))
end
end
