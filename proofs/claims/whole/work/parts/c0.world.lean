section
-- the cells that were made, and the world of the calls with the first heap
def cn_ixX (i : Int) : Nat := ([0, 33, 34, 35, 36, 37, 38, 39, 40, 41, 42, 53, 54, 55, 56, 57, 58, 59, 60, 61, 62, 63, 274, 275, 0, 0, 0, 0, 0, 0, 1, 16, 12, 13, 14, 15, 0, 0, 0, 0, 17, 32, 28, 29, 30, 31] : List Nat).getD i.toNat 0
def cn_ix (i : Int) : Nat := if i < 100 then cn_ixX i else if i < 110 then 264 + (i - 100).toNat else if i < 120 then 43 + (i - 110).toNat else if i < 130 then 2 + (i - 120).toNat else if i < 140 then 18 + (i - 130).toNat else if i < 1000 then 64 + (i - 140).toNat else 276 + (i - 1000).toNat
def cn_rng (a : Int) (n : Nat) : List Int := (List.range n).map fun (k : Nat) => a + (k : Int)
def cn_L : List Int := [0, 30] ++ cn_rng 120 10 ++ [32, 33, 34, 35, 31, 40] ++ cn_rng 130 10 ++ [42, 43, 44, 45, 41, 1, 2, 3, 4, 5, 6, 7, 8, 9, 10] ++ cn_rng 110 10 ++ [11, 12, 13, 14, 15, 16, 17, 18, 19, 20, 21] ++ cn_rng 140 200 ++ cn_rng 100 10 ++ [22, 23] ++ cn_rng 1000 74
set_option maxRecDepth 100000 in
theorem cn_L_ix : cn_L.map cn_ix = List.range 350 := by decide +kernel
def cn_T1000 : List Int := [0, 0, 0, 0, 0, 0, 0, 0, -1] ++ List.replicate 58 0 ++ [1]
def cn_T (i : Int) : List Int := if i = 0 then [0, 0, 0, 0, 0, 0, 0, 0, 0, 0, 0, 0, 1, 0, -1, 30, 40] else if i = 3 then [0, 0, 0, 0, 0, 0, 0, 0, -1] else if i = 4 then spl else if i = 5 then [0, 42] else if i = 1000 then cn_T1000 else if i = 1034 then [-1, -1, -1, -1, -1, -1, -1, -1, -1, -1] else wdM i
def cn_h0 : Hp := fun i k => (cn_T i).getD k.toNat 0
abbrev cn_DV : Type := Nat × Int
abbrev cn_DE : Type := (Nat × Nat × List Int) ⊕ (Nat × List cn_DV) ⊕ Nat
def cn_ffD (i : Int) (k : Nat) (s : Nat × Option (Int → Int)) : cn_DV := match s.2 with
  | some f => (1, ((cn_ix (f i) : Nat) : Int))
  | none => match s.1 with
    | 0 => (2, cn_h0 i (k : Int))
    | 1 => (3, cn_h0 i (k : Int))
    | _ => (1, ((cn_ix (cn_h0 i (k : Int)) : Nat) : Int))
def cn_dC (i : Int) : cn_DE := match og_ki (og_kd i) with
  | .inl o => .inr (.inl (o.1, o.2.mapIdx (cn_ffD i)))
  | .inr a => if a.1 = 3 then .inr (.inr a.2) else .inl (a.1, a.2, cn_T i)
-- what was made, by numbers
def cn_fsD (q : Nat) : List (Nat × cn_B) → List cn_DV → Nat → List cn_DV
  | [], fs, _ => fs
  | b :: B, fs, d => cn_fsD q B (fs.set b.2.2.2.2.2 (1, ((q + d : Nat) : Int))) (d + 1)
def cn_dsD (B : List (Nat × cn_B)) : List cn_DE := B.map fun q => .inl (q.2.1, q.2.2.1, q.2.2.2.1)
def cn_oD (c : Nat) (F : List cn_DV) : cn_DE := .inr (.inl (c, F))
def cn_XD_Yard (q : Nat) : List cn_DE := cn_oD 11 (cn_fsD q cn_B_Yard [(2, 0), (2, 0), (2, 0), (2, 0), (0, 0), (0, 0), (0, 0), (0, 0), (0, 0), (0, 0), (0, 0), (0, 0), (0, 0)] 1) :: cn_dsD cn_B_Yard
def cn_XD_Script (q : Nat) : List cn_DE := cn_oD 10 (cn_fsD q cn_B_Script [(0, 0), (0, 0), (0, 0), (2, 0)] 1) :: cn_dsD cn_B_Script
def cn_XD_Tape (q : Nat) : List cn_DE := cn_oD 1 (cn_fsD q cn_B_Tape [(0, 0), (2, 0)] 1) :: cn_dsD cn_B_Tape
def cn_XD_Reckoner (q : Nat) : List cn_DE := cn_oD 4 (cn_fsD q cn_B_Reckoner [(0, 0)] 1) :: cn_dsD cn_B_Reckoner
def cn_XD_Rows (q : Nat) : List cn_DE := cn_oD 7 (cn_fsD q cn_B_Rows [(0, 0), (0, 0), (0, 0)] 1) :: cn_dsD cn_B_Rows
def cn_XD_Almanac (q a1 : Nat) : List cn_DE := cn_oD 5 (cn_fsD q cn_B_Almanac [(1, (a1 : Int)), (0, 0)] 1) :: cn_dsD cn_B_Almanac
def cn_XD_Grammar (q a1 a2 : Nat) : List cn_DE := cn_oD 3 (cn_fsD q cn_B_Grammar [(1, (a1 : Int)), (1, (a2 : Int)), (2, 0)] 1) :: cn_dsD cn_B_Grammar
def cn_XD_Tokens (q a1 : Nat) : List cn_DE := [cn_oD 2 [(1, (a1 : Int)), (2, 0), (2, 0), (2, 0), (2, 0), (2, 0), (2, 0), (2, 0), (2, -1), (1, ((q + 1 : Nat) : Int))], .inl (0, 31, spl)]
def cn_XD_Parish (q : Nat) : List cn_DE := cn_oD 9 (cn_fsD q cn_B_Parish3 [(1, ((q + 1 : Nat) : Int)), (1, ((q + 11 : Nat) : Int)), (0, 0)] 15) :: ((([] ++ cn_XD_Yard (q + 1)) ++ cn_XD_Script (q + 11)) ++ cn_dsD cn_B_Parish3)
def cn_XD_Outlook (q a1 a2 : Nat) : List cn_DE := cn_oD 6 (cn_fsD q cn_B_Outlook4 [(1, (a1 : Int)), (1, (a2 : Int)), (1, ((q + 1 : Nat) : Int)), (0, 0), (2, 0), (0, 0), (0, 0), (0, 0), (0, 0)] 11) :: (([] ++ cn_XD_Yard (q + 1)) ++ cn_dsD cn_B_Outlook4)
def cn_pYD (q : Nat) : Nat → List cn_DE
  | 0 => []
  | i + 1 => cn_pYD q i ++ cn_XD_Yard (q + 2 + 10 * i)
def cn_XD_Past (q : Nat) : List cn_DE := cn_oD 8 [(1, ((q + 1 : Nat) : Int)), (2, 0), (2, 0)] :: .inr (.inr 20) :: cn_pYD q 20
def cn_FD_OG : List cn_DV := [(1, 33), (1, 35), (1, 37), (1, 38), (1, 40), (1, 42), (1, 58), (1, 62), (1, 264), (1, 274), (1, 275), (2, 0), (2, 1), (2, 0), (2, -1), (1, 1), (1, 17)]
def cn_XD_OG : List cn_DE := cn_oD 0 cn_FD_OG :: ([] ++ cn_XD_Parish 1 ++ cn_XD_Parish 17 ++ cn_XD_Tape 33 ++ cn_XD_Tokens 35 33 ++ cn_XD_Grammar 37 35 28 ++ cn_XD_Reckoner 38 ++ cn_XD_Almanac 40 38 ++ cn_XD_Outlook 42 40 38 ++ cn_XD_Rows 58 ++ cn_XD_Past 62 ++ cn_XD_Yard 264 ++ cn_dsD cn_B_OG)
def cn_0D_Model : List cn_DV := og_sl_Model.map fun s => match s.2 with
  | some _ => (0, 0)
  | none => (if s.1 = 1 then 3 else 2, 0)
def cn_FD_Model (q : Nat) : List cn_DV := cn_fsD q cn_B_Model3 ((cn_fsD q cn_B_Model2 ((cn_fsD q cn_B_Model1 cn_0D_Model 1).set 8 (2, -1)) 2).set 67 (3, 1)) 48
def cn_XD_Model (q : Nat) : List cn_DE := cn_oD 12 (cn_FD_Model q) :: ((([] ++ cn_dsD cn_B_Model1) ++ cn_dsD cn_B_Model2) ++ cn_dsD cn_B_Model3)
set_option maxRecDepth 100000 in
theorem cn_XD : cn_XD_OG ++ cn_XD_Model 276 = cn_L.map cn_dC := by decide +kernel
-- the world's shape
theorem cn_nd : cn_L.Nodup := List.Pairwise.of_map (S := fun a b : Nat => a ≠ b) cn_ix (fun _ _ h e => h (congrArg cn_ix e)) (by rw [cn_L_ix]; exact List.nodup_range)
def cn_inB (i : Int) : Bool := decide (cn_L[cn_ix i]? = some i)
theorem cn_in {i : Int} (h : cn_inB i = true) : i ∈ cn_L := List.mem_of_getElem? (of_decide_eq_true h)
def cn_wsB (i : Int) : Bool := match og_ki (og_kd i) with
  | .inl o => o.2.all fun s => match s.2 with
    | some f => decide (4 ≤ s.1) && cn_inB (f i) && decide (og_kd (f i) = s.1 - 4)
    | none => true
  | .inr a => if a.1 = 3 then decide (a.2 ≤ 20) else true
set_option maxRecDepth 100000 in
theorem cn_wsA : cn_L.all cn_wsB = true := by decide +kernel
theorem cn_rg4 {t : Nat} {x : Int} (h4 : 4 ≤ t) (h1 : cn_inB x = true) (h2 : og_kd x = t - 4) : og_rg cn_L t x := by
  obtain ⟨k, rfl⟩ : ∃ k, t = k + 4 := ⟨t - 4, by omega⟩
  exact ⟨cn_in h1, by rw [h2]; omega⟩
set_option maxRecDepth 100000 in
theorem cn_yfA : ∀ k : Nat, k < 20 → cn_inB (og_yf k) = true ∧ og_kd (og_yf k) = 12 := by decide +kernel
theorem cn_wsO : og_ws cn_L := by
  refine ⟨cn_nd, fun i hi o ho k t f hk => ?_, fun i hi n hn k hk => ?_⟩
  · have h := List.all_eq_true.mp cn_wsA i hi
    unfold cn_wsB at h
    rw [ho] at h
    have h2 := List.all_eq_true.mp h _ (List.mem_of_getElem? hk)
    simp only [Bool.and_eq_true, decide_eq_true_eq] at h2
    exact cn_rg4 h2.1.1 h2.1.2 h2.2
  · have h := List.all_eq_true.mp cn_wsA i hi
    unfold cn_wsB at h
    rw [hn] at h
    have h2 : n ≤ 20 := of_decide_eq_true h
    have h3 := cn_yfA k (by omega)
    exact ⟨cn_in h3.1, h3.2⟩
-- the first heap keeps to the world
def cn_bd (l : List Int) : Bool := l.all fun x => decide (-2147483648 ≤ x ∧ x ≤ 2147483647)
theorem cn_bdk {l : List Int} (h : cn_bd l = true) (k : Nat) : -2147483648 ≤ l.getD k 0 ∧ l.getD k 0 ≤ 2147483647 := by
  rw [List.getD_eq_getElem?_getD]
  cases hk : l[k]? with
  | none => decide
  | some x =>
    have := List.all_eq_true.mp h x (List.mem_of_getElem? hk)
    simpa using this
theorem cn_bdi {c : Prop} [Decidable c] {a b : List Int} (ha : cn_bd a = true) (hb : cn_bd b = true) : cn_bd (if c then a else b) = true := by
  split
  · exact ha
  · exact hb
theorem cn_bdT (i : Int) : cn_bd (cn_T i) = true := by
  unfold cn_T
  iterate 6 refine cn_bdi (by decide +kernel) ?_
  unfold wdM
  repeat refine cn_bdi (by decide +kernel) ?_
  rfl
def cn_wfB (i : Int) : Bool := match og_ki (og_kd i) with
  | .inl o => (o.2.zipIdx).all fun s => match s.1.2 with
    | some _ => true
    | none => decide (s.1.1 ≤ 1) || (decide (4 ≤ s.1.1) && cn_inB (cn_h0 i (s.2 : Int)) && decide (og_kd (cn_h0 i (s.2 : Int)) = s.1.1 - 4))
  | .inr _ => true
set_option maxRecDepth 100000 in
theorem cn_wfA : cn_L.all cn_wfB = true := by decide +kernel
theorem cn_rg1 {t : Nat} {i : Int} {k : Nat} (h : t ≤ 1) : og_rg cn_L t (cn_h0 i (k : Int)) := by
  have h0 := cn_bdk (cn_bdT i) k
  have h1 : cn_h0 i (k : Int) = (cn_T i).getD k 0 := rfl
  rw [← h1] at h0
  match t, h with
  | 0, _ => exact h0
  | 1, _ => exact ⟨by omega, by omega⟩
theorem cn_wfO : og_wf cn_L cn_h0 := by
  intro i hi k
  have h := List.all_eq_true.mp cn_wfA i hi
  unfold cn_wfB at h
  unfold og_sty
  cases hq : og_ki (og_kd i) with
  | inr a => exact cn_rg1 (by show (if a.1 = 1 then 1 else 0) ≤ 1; split <;> omega)
  | inl o =>
    rw [hq] at h
    show og_rg cn_L (match o.2[k]? with | some (t, none) => t | _ => 0) _
    cases hk : o.2[k]? with
    | none => exact cn_rg1 (Nat.zero_le _)
    | some s =>
      obtain ⟨t, f⟩ := s
      cases f with
      | some f => exact cn_rg1 (Nat.zero_le _)
      | none =>
        have h2 := List.all_eq_true.mp h ((t, none), k) (by
          refine List.mem_of_getElem? (i := k) ?_
          rw [List.getElem?_zipIdx, hk]
          simp)
        simp only [Bool.or_eq_true, Bool.and_eq_true, decide_eq_true_eq] at h2
        rcases h2 with h2 | h2
        · exact cn_rg1 h2
        · exact cn_rg4 h2.1.1 h2.1.2 h2.2
theorem cn_h0k {i : Int} {k : Nat} : cn_h0 i (k : Int) = (cn_T i).getD k 0 := rfl
-- a cell, told by numbers
def cn_iv (z : Nat) (v : cn_DV) : Value := match v.1 with
  | 0 => .null
  | 1 => .ref (z + v.2.toNat)
  | 2 => .int (Int32.ofInt v.2)
  | _ => .long (Int64.ofInt v.2)
def cn_i0 (z : Nat) (C : Nat → ClassId) (e : cn_DE) : va_E := match e with
  | .inl a => .inl (C a.1, cn_a a.1 a.2.1 a.2.2)
  | .inr (.inl o) => .inr (o.1, o.2.map (cn_iv z))
  | .inr (.inr n) => .inl (C 3, n, .inr (.inr (.inr (.inr (cn_pf (z + 62) n)))))
def cn_i1 (z : Nat) (C : Nat → ClassId) (e : cn_DE) : va_E := match e with
  | .inl a => .inl (C a.1, cn_a a.1 a.2.1 a.2.2)
  | .inr (.inl o) => .inr (o.1, o.2.map (cn_iv z))
  | .inr (.inr n) => .inl (C 3, n, .inr (.inr (.inr (.inr (fun k => some (z + cn_ix (og_yf k)))))))
def cn_w (z : Nat) (D : va_G) (C : Nat → ClassId) : og_Wd := (cn_L, D, fun i => z + cn_ix i, C)
section
variable {z q : Nat} {D : va_G} {C : Nat → ClassId}
theorem cn_ffE {i : Int} {k : Nat} {s : Nat × Option (Int → Int)} : og_ff (cn_w z D C) cn_h0 i k s = cn_iv z (cn_ffD i k s) := by
  obtain ⟨t, f⟩ := s
  cases f with
  | some f => rfl
  | none =>
    match t with
    | 0 => rfl
    | 1 => rfl
    | t + 2 => rfl
theorem cn_arE {i : Int} {et n : Nat} (h : et ≠ 3) : og_arr (cn_w z D C) cn_h0 i et n = cn_a et n (cn_T i) := by
  match et, h with
  | 0, _ => rfl
  | 1, _ => rfl
  | 2, _ => rfl
  | 3, h => exact absurd rfl h
  | t + 4, _ => rfl
theorem cn_ceE {i : Int} : og_ce (cn_w z D C) cn_h0 i = cn_i1 z C (cn_dC i) := by
  unfold og_ce cn_dC
  cases og_ki (og_kd i) with
  | inl o =>
    show Sum.inr (o.1, o.2.mapIdx (og_ff (cn_w z D C) cn_h0 i)) = Sum.inr (o.1, (o.2.mapIdx (cn_ffD i)).map (cn_iv z))
    have e : o.2.mapIdx (og_ff (cn_w z D C) cn_h0 i) = (o.2.mapIdx (cn_ffD i)).map (cn_iv z) := by
      refine List.ext_getElem? (fun k => ?_)
      rw [List.getElem?_map, List.getElem?_mapIdx, List.getElem?_mapIdx]
      cases o.2[k]? with
      | none => rfl
      | some t => exact congrArg some cn_ffE
    rw [e]
  | inr a =>
    by_cases h : a.1 = 3
    · simp only [if_pos h]
      obtain ⟨et, n⟩ := a
      simp only at h
      subst h
      rfl
    · simp only [if_neg h]
      show Sum.inl (C a.1, og_arr (cn_w z D C) cn_h0 i a.1 a.2) = Sum.inl (C a.1, cn_a a.1 a.2 (cn_T i))
      rw [cn_arE h]
-- what was made, told so
theorem cn_fsE : ∀ (B : List (Nat × cn_B)) (F : List cn_DV) (d : Nat), (cn_fsD q B F d).map (cn_iv z) = cn_fs (z + q) B (F.map (cn_iv z)) d
  | [], F, d => rfl
  | b :: B, F, d => by
    rw [cn_fsD, cn_fs, cn_fsE B, List.map_set]
    congr 2
    show Value.ref (z + (q + d)) = Value.ref (z + q + d)
    rw [Nat.add_assoc]
theorem cn_dsE (B : List (Nat × cn_B)) : (cn_dsD B).map (cn_i0 z C) = cn_ds C B := by
  unfold cn_dsD cn_ds
  rw [List.map_map]
  rfl
theorem cn_oE (c : Nat) (F : List cn_DV) (l : List cn_DE) : (cn_oD c F :: l).map (cn_i0 z C) = .inr (c, F.map (cn_iv z)) :: l.map (cn_i0 z C) := rfl
theorem cn_XE_Yard : cn_X_Yard C (z + q) = (cn_XD_Yard q).map (cn_i0 z C) := by
  unfold cn_XD_Yard
  rw [cn_oE, cn_fsE, cn_dsE]
  rfl
theorem cn_XE_Script : cn_X_Script C (z + q) = (cn_XD_Script q).map (cn_i0 z C) := by
  unfold cn_XD_Script
  rw [cn_oE, cn_fsE, cn_dsE]
  rfl
theorem cn_XE_Tape : cn_X_Tape C (z + q) = (cn_XD_Tape q).map (cn_i0 z C) := by
  unfold cn_XD_Tape
  rw [cn_oE, cn_fsE, cn_dsE]
  rfl
theorem cn_XE_Reckoner : cn_X_Reckoner C (z + q) = (cn_XD_Reckoner q).map (cn_i0 z C) := by
  unfold cn_XD_Reckoner
  rw [cn_oE, cn_fsE, cn_dsE]
  rfl
theorem cn_XE_Rows : cn_X_Rows C (z + q) = (cn_XD_Rows q).map (cn_i0 z C) := by
  unfold cn_XD_Rows
  rw [cn_oE, cn_fsE, cn_dsE]
  rfl
theorem cn_XE_Almanac {a1 : Nat} : cn_X_Almanac C (z + q) (z + a1) = (cn_XD_Almanac q a1).map (cn_i0 z C) := by
  unfold cn_XD_Almanac
  rw [cn_oE, cn_fsE, cn_dsE]
  rfl
theorem cn_XE_Grammar {a1 a2 : Nat} : cn_X_Grammar C (z + q) (z + a1) (z + a2) = (cn_XD_Grammar q a1 a2).map (cn_i0 z C) := by
  unfold cn_XD_Grammar
  rw [cn_oE, cn_fsE, cn_dsE]
  rfl
theorem cn_XE_Tokens {a1 : Nat} : cn_X_Tokens C (z + q) (z + a1) = (cn_XD_Tokens q a1).map (cn_i0 z C) := rfl
theorem cn_XE_Parish : cn_X_Parish C (z + q) = (cn_XD_Parish q).map (cn_i0 z C) := by
  unfold cn_XD_Parish
  rw [cn_oE, cn_fsE, List.map_append, List.map_append, List.map_append, cn_dsE, ← cn_XE_Yard, ← cn_XE_Script]
  rfl
theorem cn_XE_Outlook {a1 a2 : Nat} : cn_X_Outlook C (z + q) (z + a1) (z + a2) = (cn_XD_Outlook q a1 a2).map (cn_i0 z C) := by
  unfold cn_XD_Outlook
  rw [cn_oE, cn_fsE, List.map_append, List.map_append, cn_dsE, ← cn_XE_Yard]
  rfl
theorem cn_pYE : ∀ i, cn_pY C (z + q) i = (cn_pYD q i).map (cn_i0 z C)
  | 0 => rfl
  | i + 1 => by
    rw [cn_pY, cn_pYD, List.map_append, cn_pYE i, ← cn_XE_Yard]
    congr 2
    omega
theorem cn_XE_Past : cn_X_Past C (z + 62) = (cn_XD_Past 62).map (cn_i0 z C) := by
  unfold cn_X_Past cn_pW
  rw [cn_pYE]
  rfl
theorem cn_XE_OG : cn_X_OG C z = cn_XD_OG.map (cn_i0 z C) := by
  unfold cn_XD_OG
  rw [cn_oE]
  simp only [List.map_append, ← cn_XE_Parish, ← cn_XE_Tape, ← cn_XE_Tokens, ← cn_XE_Grammar, ← cn_XE_Reckoner, ← cn_XE_Almanac, ← cn_XE_Outlook, ← cn_XE_Rows, ← cn_XE_Past, ← cn_XE_Yard, cn_dsE]
  rfl
theorem cn_0E_Model : cn_0_Model = cn_0D_Model.map (cn_iv z) := rfl
theorem cn_XE_Model : cn_X_Model C (z + q) = (cn_XD_Model q).map (cn_i0 z C) := by
  unfold cn_XD_Model cn_FD_Model
  rw [cn_oE, cn_fsE, List.map_set, cn_fsE, List.map_set, cn_fsE, List.map_append, List.map_append, List.map_append, cn_dsE, cn_dsE, cn_dsE, ← cn_0E_Model]
  rfl
theorem cn_XE : cn_X_OG C z ++ cn_X_Model C (z + 276) = (cn_L.map cn_dC).map (cn_i0 z C) := by
  rw [cn_XE_OG, cn_XE_Model, ← List.map_append, cn_XD]
-- the addresses
theorem cn_wsm {f : Int → va_E} : ∀ (L : List Int) (b : Nat), L.map cn_ix = List.range' b L.length → L.map (fun i => (z + cn_ix i, f i)) = cn_ws (z + b) (L.map f)
  | [], b, _ => rfl
  | i :: L, b, h => by
    rw [List.length_cons, List.range'_succ, List.map_cons] at h
    injection h with h1 h2
    rw [List.map_cons, List.map_cons, cn_ws, cn_wsm L (b + 1) h2, h1]
    rfl
theorem cn_L_len : cn_L.length = 350 := by
  have := congrArg List.length cn_L_ix
  rw [List.length_map, List.length_range] at this
  exact this
theorem cn_wWE {h : Hp} : og_wW (cn_w z D C) h = cn_ws z (cn_L.map (og_ce (cn_w z D C) h)) := by
  have := cn_wsm (z := z) (f := og_ce (cn_w z D C) h) cn_L 0 (by rw [cn_L_ix, cn_L_len, List.range_eq_range'])
  exact this
theorem cn_wD {h : Hp} : va_D (fun a => z ≤ a) (og_wW (cn_w z D C) h) := by
  rw [cn_wWE]
  exact cn_D
theorem cn_yix : ∀ k : Nat, k < 20 → cn_ix (og_yf k) = 64 + 10 * k := by decide +kernel
theorem cn_atE {a : Nat} {e : cn_DE} {H : Heap} (he : ∀ n, e = .inr (.inr n) → n = 20) (h : va_at D og_cl (a, cn_i0 z C e) H) : va_at D og_cl (a, cn_i1 z C e) H := by
  match e, he, h with
  | .inl _, _, h => exact h
  | .inr (.inl _), _, h => exact h
  | .inr (.inr n), he, h =>
    have hn := he n rfl
    subst hn
    have h : H[a]? = some (arrV (C 3) 20 (fun j => va_rf (cn_pf (z + 62) 20 j))) := h
    show H[a]? = some (arrV (C 3) 20 (fun j => va_rf (some (z + cn_ix (og_yf j)))))
    have e : arrV (C 3) 20 (fun j => va_rf (cn_pf (z + 62) 20 j)) = arrV (C 3) 20 (fun j => va_rf (some (z + cn_ix (og_yf j)))) := by
      have e2 : (fun j : Fin 20 => va_rf (cn_pf (z + 62) 20 j.val)) = (fun j : Fin 20 => va_rf (some (z + cn_ix (og_yf j.val)))) := by
        funext j
        have hj := j.isLt
        show va_rf (if j.val < 20 then some (z + 62 + 2 + 10 * j.val) else none) = va_rf (some (z + cn_ix (og_yf j.val)))
        rw [if_pos hj, cn_yix j.val hj, show z + 62 + 2 + 10 * j.val = z + (64 + 10 * j.val) by omega]
      unfold arrV
      rw [e2]
    rw [h, e]
def cn_q20 (e : cn_DE) : Bool := match e with
  | .inr (.inr n) => decide (n = 20)
  | _ => true
set_option maxRecDepth 100000 in
theorem cn_20A : (cn_L.map cn_dC).all cn_q20 = true := by decide +kernel
theorem cn_world {H : Heap} (h : va_P D og_cl (cn_ws z (cn_X_OG C z ++ cn_X_Model C (z + 276))) H) : va_P D og_cl (og_wW (cn_w z D C) cn_h0) H := by
  rw [cn_XE] at h
  rw [cn_wWE]
  intro k q hk
  have e1 : cn_L.map (og_ce (cn_w z D C) cn_h0) = (cn_L.map cn_dC).map (cn_i1 z C) := by
    rw [List.map_map]
    exact List.map_congr_left (fun i _ => cn_ceE)
  rw [e1, cn_get, List.getElem?_map] at hk
  cases hd : (cn_L.map cn_dC)[k]? with
  | none => rw [hd] at hk; cases hk
  | some e =>
    rw [hd] at hk
    cases hk
    refine cn_atE (fun n hn => ?_) (h k (z + k, cn_i0 z C e) (by rw [cn_get, List.getElem?_map, hd]; rfl))
    have := List.all_eq_true.mp cn_20A e (List.mem_of_getElem? hd)
    subst hn
    exact of_decide_eq_true this
end
end
