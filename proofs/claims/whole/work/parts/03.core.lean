-- the logical heap, its picture in the machine's heap, what holds at a place of a method
abbrev Hp : Type := Int → Int → Int
abbrev og_Wd : Type := List Int × va_G × (Int → Nat) × (Nat → ClassId)
def og_rg (ids : List Int) (t : Nat) (x : Int) : Prop := match t with
  | 0 => -2147483648 ≤ x ∧ x ≤ 2147483647
  | 1 => -9223372036854775808 ≤ x ∧ x ≤ 9223372036854775807
  | 2 => x ∈ ids ∧ ∃ n, og_ki (og_kd x) = .inr (0, n)
  | 3 => x ∈ ids ∧ ∃ n, og_ki (og_kd x) = .inr (2, n)
  | k + 4 => x ∈ ids ∧ og_kd x = k
def og_cv (w : og_Wd) (t : Nat) (x : Int) : Value := match t with
  | 0 => .int (Int32.ofInt x)
  | 1 => .long (Int64.ofInt x)
  | _ => .ref (w.2.2.1 x)
def og_ff (w : og_Wd) (h : Hp) (i : Int) (k : Nat) (sl : Nat × Option (Int → Int)) : Value := match sl.2 with
  | some f => .ref (w.2.2.1 (f i))
  | none => og_cv w sl.1 (h i (k : Int))
def og_arr (w : og_Wd) (h : Hp) (i : Int) (et n : Nat) : vp_A := (n, match et with
  | 1 => .inr (.inl fun k => Int64.ofInt (h i (k : Int)))
  | 3 => .inr (.inr (.inr (.inr fun k => some (w.2.2.1 (og_yf k)))))
  | _ => .inl fun k => Int32.ofInt (h i (k : Int)))
def og_ce (w : og_Wd) (h : Hp) (i : Int) : va_E := match og_ki (og_kd i) with
  | .inl o => .inr (o.1, o.2.mapIdx (og_ff w h i))
  | .inr a => .inl (w.2.2.2 a.1, og_arr w h i a.1 a.2)
def og_wW (w : og_Wd) (h : Hp) : va_W := w.1.map fun i => (w.2.2.1 i, og_ce w h i)
def og_sty (i : Int) (k : Nat) : Nat := match og_ki (og_kd i) with
  | .inl o => match o.2[k]? with
    | some (t, none) => t
    | _ => 0
  | .inr a => if a.1 = 1 then 1 else 0
def og_wf (ids : List Int) (h : Hp) : Prop := ∀ i ∈ ids, ∀ k : Nat, og_rg ids (og_sty i k) (h i (k : Int))
def og_ws (ids : List Int) : Prop := ids.Nodup ∧ (∀ i ∈ ids, ∀ o, og_ki (og_kd i) = .inl o → ∀ (k t : Nat) (f : Int → Int), o.2[k]? = some (t, some f) → og_rg ids t (f i)) ∧
  ∀ i ∈ ids, ∀ n : Nat, og_ki (og_kd i) = .inr (3, n) → ∀ k : Nat, k < n → og_rg ids 16 (og_yf k)
def og_up (h : Hp) (i k v : Int) : Hp := fun i' k' => if i' = i ∧ k' = k then v else h i' k'
def og_cp (h : Hp) (a sp b dp n : Int) : Hp := fun i' k' => if i' = b ∧ dp ≤ k' ∧ k' < dp + n then h a (sp + (k' - dp)) else h i' k'
def og_tyA (w : og_Wd) : List (ClassId × FieldType) := [(w.2.2.2 0, .int), (w.2.2.2 1, .long), (w.2.2.2 2, .char), (w.2.2.2 3, .object "OpenGraves$Yard")]
def og_A (w : og_Wd) (sz : Nat) : Nat → Prop := fun q => (∃ i ∈ w.1, q = w.2.2.1 i) ∨ sz ≤ q
def og_rm (d : Nat) : Room := { frames := d, cells := 0, slots := 0, locals := 60 * d }
theorem og_ti {x : Int} (h1 : -2147483648 ≤ x) (h2 : x ≤ 2147483647) : (Int32.ofInt x).toInt = x := Int32.toInt_ofInt_of_le (by omega) (by omega)
theorem og_tl {x : Int} (h1 : -9223372036854775808 ≤ x) (h2 : x ≤ 9223372036854775807) : (Int64.ofInt x).toInt = x := Int64.toInt_ofInt_of_le (by omega) (by omega)
theorem og_ri (z : Int32) : -2147483648 ≤ z.toInt ∧ z.toInt ≤ 2147483647 := by
  have h1 := Int32.le_toInt z
  have h2 := Int32.toInt_lt z
  omega
theorem og_rl (z : Int64) : -9223372036854775808 ≤ z.toInt ∧ z.toInt ≤ 9223372036854775807 := by
  have h1 := Int64.le_toInt z
  have h2 := Int64.toInt_lt z
  omega
theorem og_oi (z : Int32) : Int32.ofInt z.toInt = z := Int32.ofInt_toInt z
theorem og_ol (z : Int64) : Int64.ofInt z.toInt = z := Int64.ofInt_toInt z
theorem og_at {w : og_Wd} {h : Hp} {i : Int} (hi : i ∈ w.1) : ∃ q0 : Nat, w.1[q0]? = some i ∧ (og_wW w h)[q0]? = some (w.2.2.1 i, og_ce w h i) := by
  obtain ⟨q0, hq⟩ := List.getElem?_of_mem hi
  exact ⟨q0, hq, by rw [og_wW, List.getElem?_map, hq]; rfl⟩
theorem og_up_ne {h : Hp} {i k v j : Int} (hj : j ≠ i) : og_up h i k v j = h j := by
  funext k'
  simp [og_up, hj]
theorem og_ce_ne {w : og_Wd} {h h' : Hp} {j : Int} (hj : h' j = h j) : og_ce w h' j = og_ce w h j := by
  have hf : og_ff w h' j = og_ff w h j := by
    funext k sl
    simp only [og_ff, hj]
  unfold og_ce og_arr
  simp only [hf, hj]
theorem og_setW {w : og_Wd} {h h' : Hp} {i : Int} {q0 : Nat} (hn : w.1.Nodup) (hq : w.1[q0]? = some i) (hne : ∀ j, j ≠ i → h' j = h j) : (og_wW w h).set q0 (w.2.2.1 i, og_ce w h' i) = og_wW w h' := by
  have hlt := (List.getElem?_eq_some_iff.mp hq).1
  apply List.ext_getElem?
  intro n
  by_cases hnq : n = q0
  · subst hnq
    rw [List.getElem?_set_self (by rw [og_wW, List.length_map]; exact hlt), og_wW, List.getElem?_map, hq]
    rfl
  · rw [List.getElem?_set_ne (Ne.symm hnq), og_wW, og_wW, List.getElem?_map, List.getElem?_map]
    cases hj : w.1[n]? with
    | none => rfl
    | some j =>
      have hji : j ≠ i := by
        intro e
        subst e
        exact hnq ((List.getElem?_inj (List.getElem?_eq_some_iff.mp hj).1 hn).mp (hj.trans hq.symm))
      simp only [Option.map_some, og_ce_ne (w := w) (hne j hji)]
theorem og_ce_obj {w : og_Wd} {h : Hp} {i : Int} {kn : Nat} {o : Nat × List (Nat × Option (Int → Int))} (hk : og_kd i = kn) (ho : og_ki kn = .inl o) : og_ce w h i = .inr (o.1, o.2.mapIdx (og_ff w h i)) := by
  unfold og_ce
  rw [hk, ho]
theorem og_ce_arr {w : og_Wd} {h : Hp} {i : Int} {kn : Nat} {a : Nat × Nat} (hk : og_kd i = kn) (ha : og_ki kn = .inr a) : og_ce w h i = .inl (w.2.2.2 a.1, og_arr w h i a.1 a.2) := by
  unfold og_ce
  rw [hk, ha]
theorem og_up_obj {w : og_Wd} {h : Hp} {i : Int} {sl : List (Nat × Option (Int → Int))} {k t : Nat} {x : Int} (hk : sl[k]? = some (t, none)) : sl.mapIdx (og_ff w (og_up h i (k : Int) x) i) = (sl.mapIdx (og_ff w h i)).set k (og_cv w t x) := by
  apply List.ext_getElem?
  intro n
  have hlt := (List.getElem?_eq_some_iff.mp hk).1
  by_cases hn : n = k
  · subst hn
    rw [List.getElem?_set_self (by rw [List.length_mapIdx]; exact hlt), List.getElem?_mapIdx, hk]
    simp [og_ff, og_up]
  · rw [List.getElem?_set_ne (Ne.symm hn), List.getElem?_mapIdx, List.getElem?_mapIdx]
    cases hs : sl[n]? with
    | none => rfl
    | some q =>
      obtain ⟨t', f⟩ := q
      have hne : ¬ ((n : Int) = (k : Int)) := by omega
      cases f <;> simp [og_ff, og_up, hne]
theorem og_up_arr {h : Hp} {i j x : Int} (h0 : 0 ≤ j) : (fun k : Nat => Int32.ofInt (og_up h i j x i (k : Int))) = upd (fun k : Nat => Int32.ofInt (h i (k : Int))) j.toNat (Int32.ofInt x) := by
  funext k
  unfold upd og_up
  by_cases hk : k = j.toNat
  · rw [if_pos hk, if_pos ⟨rfl, by omega⟩]
  · rw [if_neg hk, if_neg (fun q => hk (by omega))]
theorem og_up_arrL {h : Hp} {i j x : Int} (h0 : 0 ≤ j) : (fun k : Nat => Int64.ofInt (og_up h i j x i (k : Int))) = vp_updL (fun k : Nat => Int64.ofInt (h i (k : Int))) j.toNat (Int64.ofInt x) := by
  funext k
  unfold vp_updL og_up
  by_cases hk : k = j.toNat
  · rw [if_pos hk, if_pos ⟨rfl, by omega⟩]
  · rw [if_neg hk, if_neg (fun q => hk (by omega))]
theorem og_cp_arr {h : Hp} {a sp b dp n : Int} (h0 : 0 ≤ sp) (h1 : 0 ≤ dp) (h2 : 0 ≤ n) : (fun k : Nat => Int32.ofInt (og_cp h a sp b dp n b (k : Int))) = va_cpy (fun k : Nat => Int32.ofInt (h a (k : Int))) (fun k : Nat => Int32.ofInt (h b (k : Int))) sp.toNat dp.toNat n.toNat := by
  funext k
  unfold va_cpy og_cp
  by_cases hk : dp.toNat ≤ k ∧ k < dp.toNat + n.toNat
  · rw [if_pos hk, if_pos ⟨rfl, by omega, by omega⟩]
    congr 2
    omega
  · rw [if_neg hk, if_neg (fun q => hk (by omega))]
theorem og_wf_up {ids : List Int} {h : Hp} {i x : Int} {k : Nat} (hw : og_wf ids h) (hx : og_rg ids (og_sty i k) x) : og_wf ids (og_up h i (k : Int) x) := by
  intro j hj n
  unfold og_up
  by_cases hc : j = i ∧ (n : Int) = (k : Int)
  · rw [if_pos hc]
    obtain ⟨rfl, hn⟩ := hc
    have : n = k := by omega
    subst this
    exact hx
  · rw [if_neg hc]
    exact hw j hj n
theorem og_sty_arr {i : Int} {kn et n : Nat} (hk : og_kd i = kn) (ha : og_ki kn = .inr (et, n)) (k : Nat) : og_sty i k = if et = 1 then 1 else 0 := by
  unfold og_sty
  rw [hk, ha]
theorem og_sty_obj {i : Int} {kn ci k t : Nat} {sl : List (Nat × Option (Int → Int))} (hk : og_kd i = kn) (ha : og_ki kn = .inl (ci, sl)) (hs : sl[k]? = some (t, none)) : og_sty i k = t := by
  unfold og_sty
  rw [hk, ha]
  simp [hs]
theorem og_D_any {A : Nat → Prop} {w : og_Wd} {h h' : Hp} (hD : va_D A (og_wW w h)) : va_D A (og_wW w h') := by
  have key : ∀ (n : Nat) (q : Nat × va_E), (og_wW w h')[n]? = some q → ∃ q', (og_wW w h)[n]? = some q' ∧ q'.1 = q.1 := by
    intro n q hq
    rw [og_wW, List.getElem?_map] at hq
    cases hj : w.1[n]? with
    | none => rw [hj] at hq; cases hq
    | some j =>
      rw [hj] at hq
      cases hq
      exact ⟨(w.2.2.1 j, og_ce w h j), by rw [og_wW, List.getElem?_map, hj]; rfl, rfl⟩
  refine ⟨fun i j x y hi hj hxy => ?_, fun k q hk => ?_⟩
  · obtain ⟨x', h1, h2⟩ := key i x hi
    obtain ⟨y', h3, h4⟩ := key j y hj
    exact hD.1 i j x' y' h1 h3 (h2.trans (hxy.trans h4.symm))
  · obtain ⟨q', h1, h2⟩ := key k q hk
    rw [← h2]
    exact hD.2 k q' h1
