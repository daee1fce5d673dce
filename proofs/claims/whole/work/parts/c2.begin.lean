section
-- the law's beginning
theorem cn_lw {w : Cond} (i : Nat) (h : tables_1[i]? = some w) : w ∈ lw_tbl := List.mem_append_right _ (List.mem_of_getElem? h)
set_option maxRecDepth 100000 in
theorem cn_flat : ∀ j : Nat, j < 186 → (flatC (.and given_1 narrow_1))[13 + j]? = some (Cond.eq (.elem (.field (.string "OpenGraves$Tokens" 23) "java/lang/String" "value" "[B") (.int (Int32.ofNat j))) (.int (sg_b.getD j 0))) := by decide +kernel
theorem cn_known {s : State} {args : Array Value} (hts : ∀ q ∈ og_tbl, q.before args s = true) : ∃ D : va_G, ∀ (c : Nat) (q : vw_C), og_cl[c]? = some q → u_Kn s q.1 q.2.1 q.2.2 (D.1 c) (D.2 c) := by
  have h0 : ∀ c : Nat, ∃ r : ClassId × (Nat → Nat), ∀ q : vw_C, og_cl[c]? = some q → u_Kn s q.1 q.2.1 q.2.2 r.1 r.2 := by
    intro c
    match c with
    | 0 => obtain ⟨cC, iS, h⟩ := u_known (C := og_R_OG) (T := og_T_OG) (N := 17) (n := 17) hts og_in_OG (hts _ (show Cond.instantiable og_R_OG 17 ∈ og_tbl from (og_mc1 22 rfl rfl))); exact ⟨(cC, iS), fun q hq => by cases hq; exact h⟩
    | 1 => obtain ⟨cC, iS, h⟩ := u_known (C := og_R_Tape) (T := og_T_Tape) (N := 2) (n := 2) hts og_in_Tape (hts _ (show Cond.instantiable og_R_Tape 2 ∈ og_tbl from (og_mc1 160 rfl rfl))); exact ⟨(cC, iS), fun q hq => by cases hq; exact h⟩
    | 2 => obtain ⟨cC, iS, h⟩ := u_known (C := og_R_Tokens) (T := og_T_Tokens) (N := 10) (n := 10) hts og_in_Tokens (hts _ (show Cond.instantiable og_R_Tokens 10 ∈ og_tbl from (og_mc1 176 rfl rfl))); exact ⟨(cC, iS), fun q hq => by cases hq; exact h⟩
    | 3 => obtain ⟨cC, iS, h⟩ := u_known (C := og_R_Grammar) (T := og_T_Grammar) (N := 3) (n := 3) hts og_in_Grammar (hts _ (show Cond.instantiable og_R_Grammar 3 ∈ og_tbl from (og_mc2 31 rfl rfl))); exact ⟨(cC, iS), fun q hq => by cases hq; exact h⟩
    | 4 => obtain ⟨cC, iS, h⟩ := u_known (C := og_R_Reckoner) (T := og_T_Reckoner) (N := 1) (n := 1) hts og_in_Reckoner (hts _ (show Cond.instantiable og_R_Reckoner 1 ∈ og_tbl from (og_mc2 47 rfl rfl))); exact ⟨(cC, iS), fun q hq => by cases hq; exact h⟩
    | 5 => obtain ⟨cC, iS, h⟩ := u_known (C := og_R_Almanac) (T := og_T_Almanac) (N := 2) (n := 2) hts og_in_Almanac (hts _ (show Cond.instantiable og_R_Almanac 2 ∈ og_tbl from (og_mc2 57 rfl rfl))); exact ⟨(cC, iS), fun q hq => by cases hq; exact h⟩
    | 6 => obtain ⟨cC, iS, h⟩ := u_known (C := og_R_Outlook) (T := og_T_Outlook) (N := 9) (n := 9) hts og_in_Outlook (hts _ (show Cond.instantiable og_R_Outlook 9 ∈ og_tbl from (og_mc2 70 rfl rfl))); exact ⟨(cC, iS), fun q hq => by cases hq; exact h⟩
    | 7 => obtain ⟨cC, iS, h⟩ := u_known (C := og_R_Rows) (T := og_T_Rows) (N := 3) (n := 3) hts og_in_Rows (hts _ (show Cond.instantiable og_R_Rows 3 ∈ og_tbl from (og_mc2 110 rfl rfl))); exact ⟨(cC, iS), fun q hq => by cases hq; exact h⟩
    | 8 => obtain ⟨cC, iS, h⟩ := u_known (C := og_R_Past) (T := og_T_Past) (N := 3) (n := 3) hts og_in_Past (hts _ (show Cond.instantiable og_R_Past 3 ∈ og_tbl from (og_mc2 128 rfl rfl))); exact ⟨(cC, iS), fun q hq => by cases hq; exact h⟩
    | 9 => obtain ⟨cC, iS, h⟩ := u_known (C := og_R_Parish) (T := og_T_Parish) (N := 3) (n := 3) hts og_in_Parish (hts _ (show Cond.instantiable og_R_Parish 3 ∈ og_tbl from (og_mc1 30 rfl rfl))); exact ⟨(cC, iS), fun q hq => by cases hq; exact h⟩
    | 10 => obtain ⟨cC, iS, h⟩ := u_known (C := og_R_Script) (T := og_T_Script) (N := 4) (n := 4) hts og_in_Script (hts _ (show Cond.instantiable og_R_Script 4 ∈ og_tbl from (og_mc1 126 rfl rfl))); exact ⟨(cC, iS), fun q hq => by cases hq; exact h⟩
    | 11 => obtain ⟨cC, iS, h⟩ := u_known (C := og_R_Yard) (T := og_T_Yard) (N := 13) (n := 13) hts og_in_Yard (hts _ (show Cond.instantiable og_R_Yard 13 ∈ og_tbl from (og_mc1 36 rfl rfl))); exact ⟨(cC, iS), fun q hq => by cases hq; exact h⟩
    | 12 => obtain ⟨cC, iS, h⟩ := u_known (C := og_R_Model) (T := og_T_Model) (N := 102) (n := 102) hts og_in_Model (hts _ (show Cond.instantiable og_R_Model 102 ∈ og_tbl from (og_mc5 178 rfl rfl))); exact ⟨(cC, iS), fun q hq => by cases hq; exact h⟩
    | c + 13 => obtain ⟨cC, iS, h⟩ := u_known (C := og_R_Tape) (T := og_T_Tape) (N := 2) (n := 2) hts og_in_Tape (hts _ (show Cond.instantiable og_R_Tape 2 ∈ og_tbl from (og_mc1 160 rfl rfl))); exact ⟨(cC, iS), fun q hq => by simp [og_cl] at hq⟩
  obtain ⟨f, hf⟩ := Classical.axiomOfChoice h0
  exact ⟨(fun c => (f c).1, fun c => (f c).2), fun c q hq => hf c q hq⟩
theorem cn_tys {s : State} {args : Array Value} (hts : ∀ q ∈ og_tbl, q.before args s = true) (hAO : (Cond.arrayOver (.object "OpenGraves$Yard")).before args s = true) : ∃ C : Nat → ClassId, ∀ (k : Nat) (q : ClassId × FieldType), (cn_ty C)[k]? = some q → ArrOfT s q.1 q.2 ∧ va_RA s q.1 q.2 := by
  obtain ⟨c0, k0, m0, a0, b0, d0⟩ := Cond.arrayClass_spec (hts _ (og_mc1 124 rfl rfl : Cond.arrayClass .int ∈ og_tbl))
  obtain ⟨c1, k1, m1, a1, b1, d1⟩ := Cond.arrayClass_spec (hts _ (og_mc7 11 rfl rfl : Cond.arrayClass .long ∈ og_tbl))
  obtain ⟨c2, k2, m2, a2, b2, d2⟩ := Cond.arrayClass_spec (hts _ (og_mc7 10 rfl rfl : Cond.arrayClass .char ∈ og_tbl))
  obtain ⟨m3, c3, k3, a3, -, b3, d3, e3⟩ := Cond.arrayOver_spec hAO
  refine ⟨fun k => match k with | 0 => c0 | 1 => c1 | 2 => c2 | _ => c3, fun k q hq => ?_⟩
  match k, hq with
  | 0, hq => cases hq; exact ⟨fun n z => ⟨fun k h => (by cases h), k0, b0, m0, d0⟩, a0⟩
  | 1, hq => cases hq; exact ⟨fun n z => ⟨fun k h => (by cases h), k1, b1, m1, d1⟩, a1⟩
  | 2, hq => cases hq; exact ⟨fun n z => ⟨fun k h => (by cases h), k2, b2, m2, d2⟩, a2⟩
  | 3, hq => cases hq; exact ⟨fun n z => ⟨fun k h => (by cases h), k3, b3, m3, d3⟩, k3, m3, b3, d3, a3, e3⟩
  | k + 4, hq => simp [cn_ty] at hq
theorem cn_OG_len {C : Nat → ClassId} {z : Nat} : (cn_X_OG C z).length = 276 := by
  rw [cn_XE_OG, List.length_map]
  decide +kernel
/-- what the constant's text is, at the start -/
theorem cn_text {s : State} {args : Array Value} (hts : ∀ w ∈ lw_tbl, w.before args s = true) (hgv : (Jvm.Cond.and given_1 narrow_1).before args s = true) : ∃ a v : Nat, sg_E a v s.heap.size s := by
  have hs := flat_of_before _ hgv
  have hA : ∀ a : Nat, a < s.heap.size → ¬ (fun q : Nat => s.heap.size ≤ q) a := fun a h => Nat.not_le.mpr h
  obtain ⟨adK, adV, hS, hev⟩ := vk_Sof (args := args) (s := s) (N := 1) (tm := fun _ => .string "OpenGraves$Tokens" 23) (len := [186]) (byt := [sg_b]) (A := fun q : Nat => s.heap.size ≤ q)
    (fun i hi => by
      have e : i = 0 := by omega
      subst e
      decide)
    (fun i hi => by
      show (Cond.exactly (.string "OpenGraves$Tokens" 23) "java/lang/String").before args s = true
      exact hs _ (List.mem_of_getElem? (i := 9) (by decide +kernel)))
    (fun i hi => by
      show (Cond.eq (.field (.string "OpenGraves$Tokens" 23) "java/lang/String" "coder" "B") (.int 0)).before args s = true
      exact hs _ (List.mem_of_getElem? (i := 10) (by decide +kernel)))
    (fun i hi => by
      show (Cond.arrayOf (.field (.string "OpenGraves$Tokens" 23) "java/lang/String" "value" "[B") .byte).before args s = true
      exact hs _ (List.mem_of_getElem? (i := 11) (by decide +kernel)))
    (fun i hi => by
      have e : i = 0 := by omega
      subst e
      show (Cond.eq (.length (.field (.string "OpenGraves$Tokens" 23) "java/lang/String" "value" "[B")) (.int 186)).before args s = true
      exact hs _ (List.mem_of_getElem? (i := 12) (by decide +kernel)))
    (fun i hi j hj => by
      have e : i = 0 := by omega
      subst e
      show (Cond.eq (.elem (.field (.string "OpenGraves$Tokens" 23) "java/lang/String" "value" "[B") (.int (Int32.ofNat j))) (.int (sg_b.getD j 0))).before args s = true
      exact hs _ (List.mem_of_getElem? (cn_flat j hj)))
    (fun i j hi hj h => absurd (show i = j by omega) h) hA
  refine ⟨adK 0, adV 0, vk_R.of (hts _ (cn_lw 181 (by decide +kernel))) (hev 0 (by decide)), ?_, va_Zof (hts _ (cn_lw 191 (by decide +kernel))) (hts _ (cn_lw 7 (by decide +kernel))) (va_eqt (hs _ (List.mem_of_getElem? (i := 4) (by decide +kernel)))) hA, va_Zqof (hts _ (cn_lw 207 (by decide +kernel))) (hts _ (cn_lw 9 (by decide +kernel))) (hs _ (List.mem_of_getElem? (i := 5) (by decide +kernel))) hA⟩
  exact ⟨fun i hi => by
    have e : i = 0 := by omega
    subst e
    exact hS.1 0 hi, fun i j hi hj _ => by omega⟩
end
