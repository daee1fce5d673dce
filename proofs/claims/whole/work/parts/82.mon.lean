section
-- reading an image: the reference
section
variable {q h h0 h' : Hp} {A B : Yd} {P : Pr} {U : List Yd} {X : Yd} {n M : Int} {K : Int → Hp → Prop}
theorem r_isGraveTold {g : Nat} (hm : isM h A) (ho : okY A) (ht : ∀ j, 0 ≤ j → j < X 0 1 → h 1001 j = X 2 j) (hx : (0 ≤ X 0 1 ∧ X 0 1 ≤ 1600) ∧ ∀ j, 0 ≤ j → j < X 0 1 → 0 ≤ X 2 j ∧ X 2 j ≤ 255) (hs : X 0 1 = imS A + 1) (hp : sAll (sdP (onA A X)) (sNp A) = true) (hg : (g : Int) < A 0 0) (hK : K (if sdG (onA A X) g = true then 1 else 0) h) : m_Model_isGraveTold [1000, 2 + 3 * (g : Int), 2 + 3 * A 0 0] h K := by
  have h6 := ho.1
  have hnp : sNp A = (A 0 1).toNat := rfl
  have es : imS A = 2 + 3 * A 0 0 + 3 * A 0 1 := rfl
  have yes : sdG (onA A X) g = true → K 1 h := fun z => by rw [if_pos z] at hK; exact hK
  have no : sdG (onA A X) g = false → K 0 h := fun z => by rw [if_neg (by rw [z]; decide)] at hK; exact hK
  have ec := onA_c (A := A) (X := X) (k := (g : Int))
  have i3 : 2 + 3 * (g : Int) + 1 = 3 + 3 * (g : Int) := by omega
  have i4 : 2 + 3 * (g : Int) + 2 = 4 + 3 * (g : Int) := by omega
  have b4 := hx.2 (4 + 3 * (g : Int)) (by omega) (by omega)
  unfold m_Model_isGraveTold
  simp -implicitDefEqProofs only [↓dn_den, ↓dn_loc, ↓dn_k, ↓dn_add, ↓dn_sub, ↓dn_mul, ↓dn_div, ↓dn_rem, ↓dn_bop, ↓dn_ladd, ↓dn_lsub, ↓dn_lmul, ↓dn_ldiv, ↓dn_lrem, ↓dn_land, ↓dn_l2i, ↓dn_neg, ↓dn_get, ↓dn_fix, ↓dn_ald, ↓dn_gld, ↓dn_yld, ↓dn_len, ↓dn_gln, ↓dn_cc, ↓dn_cb, ↓dn_and, ↓dn_or, ↓dn_not, ↓dn_cite, ↓dn_ec, ↓dn_ei, ↓dn_skip, ↓dn_seq, ↓dn_set, ↓dn_inc, ↓dn_putf, ↓dn_putz, ↓dn_ast, ↓dn_exp, ↓dn_if, ↓dn_ret, ↓dn_retz, ↓dn_retv, ↓dn_brk, ↓dn_cont, ↓dn_cs, ↓dn_sw, ↓dn_pop32, ↓dn_pop64, ↓dn_aop, ↓dn_call, ↓dn_max, ↓dn_min, ↓dn_acp, ↓dn_i2l, ↓dn_args0, ↓dn_args1, og_pad, og_ent, og_rlt, og_rle, og_rgt, og_rge, og_req, og_rne, og_padd, og_psub, og_pmul, List.getD_cons_zero, List.getD_cons_succ, List.set_cons_zero, List.set_cons_succ, List.length_cons, List.length_nil, List.cons_append, List.nil_append, List.replicate, List.append_nil, Nat.reduceAdd, Nat.reduceSub, Nat.reduceEqDiff, if_true, if_false, reduceIte, Int.reduceAdd, Int.reduceSub, Int.reduceMul, Int.reduceNeg, Int.reduceLT, Int.reduceLE, Int.cast_ofNat_Int, true_or, or_true, true_and, and_true, false_and, List.mem_cons, List.not_mem_nil, or_false, false_or, ne_eq, og_i32]
  rw [i3, i4, ht (2 + 3 * (g : Int)) (by omega) (by omega), ht (3 + 3 * (g : Int)) (by omega) (by omega), ht (4 + 3 * (g : Int)) (by omega) (by omega)]
  repeat (refine And.intro (by omega) ?_)
  refine ⟨fun a => ?_, fun a => ?_⟩
  · have := no (by unfold sdG; rw [ec.2.1]; simp; omega)
    first | exact this | exact ⟨by decide, this⟩
  repeat (refine And.intro (by omega) ?_)
  refine ⟨fun b => ?_, fun b => ?_⟩
  · have := no (by unfold sdG; rw [ec.2.2.1]; simp; omega)
    first | exact this | exact ⟨by decide, this⟩
  have e0 : sdG (onA A X) g = inB (onA A X) g := by
    unfold sdG
    rw [ec.2.1, ec.2.2.1, decide_eq_true (by omega), decide_eq_true (by omega)]
    rfl
  rw [e0] at yes no
  refine ⟨fun c => ?_, fun c => ?_⟩
  · have := yes (by unfold inB; rw [ec.2.2.2.1, if_pos c]; rfl)
    first | exact this | exact ⟨by decide, this⟩
  have ew : onA A X 4 g = X 2 (4 + 3 * (g : Int)) := by rw [ec.2.2.2.1, if_neg c]
  have nm1 : ¬ onA A X 4 g = -1 := by rw [ew]; omega
  refine r_isPerson hm ho ⟨fun d => ?_, fun d => ?_⟩
  · have d := iteP1 d
    have ed : (2 + 3 * (g : Int) - 2).tdiv 3 = g := by
      have : 2 + 3 * (g : Int) - 2 = 3 * g := by omega
      rw [this, Int.tdiv_eq_ediv_of_nonneg (by omega)]
      omega
    rw [ed]
    repeat (refine And.intro (by omega) ?_)
    refine r_doesFit hm ho d.1 d.2 (by omega) hg ⟨fun e => ?_, fun e => ?_⟩
    · have e := ite10 e
      unfold sFit at e
      rw [decide_eq_true_eq] at e
      have ecp := onA_c (A := A) (X := X) (k := X 2 (4 + 3 * (g : Int)))
      have hp1 := (sAll_iff _).mp hp (X 2 (4 + 3 * (g : Int))).toNat (by omega)
      unfold sdP at hp1
      rw [Int.toNat_of_nonneg d.1] at hp1
      simp only [Bool.and_eq_true, decide_eq_true_eq] at hp1
      have bp := hx.2 (2 + 3 * A 0 0 + 3 * X 2 (4 + 3 * (g : Int))) (by omega) (by omega)
      rw [ecp.2.2.2.2.2.2.2] at hp1
      rw [ht (2 + 3 * A 0 0 + 3 * X 2 (4 + 3 * (g : Int))) (by omega) (by omega)]
      repeat (refine And.intro (by omega) ?_)
      refine ⟨fun f => ?_, fun f => ?_⟩
      · have := no (by
          have q1 : ¬ ¬ onA A X 8 (onA A X 4 g) = 1 := fun z => z (by rw [ew, ecp.2.2.2.2.2.2.2]; omega)
          unfold inB
          rw [decide_eq_false nm1, decide_eq_false q1]
          simp)
        first | exact this | exact ⟨by decide, this⟩
      have e1 : inB (onA A X) g = sAll (fun g' => decide (¬ onA A X 4 (g' : Int) = onA A X 4 g)) g := by
        unfold inB
        rw [decide_eq_false nm1, ew, onA_0.2.1, decide_eq_true d, ecp.2.2.2.2.2.2.2, ecp.2.2.2.2.1, ec.1, decide_eq_true e, decide_eq_true (by omega)]
        rfl
      rw [e1] at yes no
      refine ⟨fun e2 h2 => h2 = h ∧ sAll (fun g' => decide (¬ onA A X 4 (g' : Int) = onA A X 4 g)) g = true, ?_, ?_⟩
      · simp -implicitDefEqProofs only [↓dn_den, ↓dn_loc, ↓dn_k, ↓dn_add, ↓dn_sub, ↓dn_mul, ↓dn_div, ↓dn_rem, ↓dn_bop, ↓dn_ladd, ↓dn_lsub, ↓dn_lmul, ↓dn_ldiv, ↓dn_lrem, ↓dn_land, ↓dn_l2i, ↓dn_neg, ↓dn_get, ↓dn_fix, ↓dn_ald, ↓dn_gld, ↓dn_yld, ↓dn_len, ↓dn_gln, ↓dn_cc, ↓dn_cb, ↓dn_and, ↓dn_or, ↓dn_not, ↓dn_cite, ↓dn_ec, ↓dn_ei, ↓dn_skip, ↓dn_seq, ↓dn_set, ↓dn_inc, ↓dn_putf, ↓dn_putz, ↓dn_ast, ↓dn_exp, ↓dn_if, ↓dn_ret, ↓dn_retz, ↓dn_retv, ↓dn_brk, ↓dn_cont, ↓dn_cs, ↓dn_sw, ↓dn_pop32, ↓dn_pop64, ↓dn_aop, ↓dn_call, ↓dn_max, ↓dn_min, ↓dn_acp, ↓dn_i2l, ↓dn_args0, ↓dn_args1, og_pad, og_ent, og_rlt, og_rle, og_rgt, og_rge, og_req, og_rne, og_padd, og_psub, og_pmul, List.getD_cons_zero, List.getD_cons_succ, List.set_cons_zero, List.set_cons_succ, List.length_cons, List.length_nil, List.cons_append, List.nil_append, List.replicate, List.append_nil, Nat.reduceAdd, Nat.reduceSub, Nat.reduceEqDiff, if_true, if_false, reduceIte, Int.reduceAdd, Int.reduceSub, Int.reduceMul, Int.reduceNeg, Int.reduceLT, Int.reduceLE, Int.cast_ofNat_Int, true_or, or_true, true_and, and_true, false_and, List.mem_cons, List.not_mem_nil, or_false, false_or, ne_eq]
        refine og_loop g (fun i e2 h2 => h2 = h ∧ e2 = [1000, 2 + 3 * (g : Int), 2 + 3 * A 0 0, X 2 (4 + 3 * (g : Int)), 2 + 3 * (i : Int)] ∧ sAll (fun g' => decide (¬ onA A X 4 (g' : Int) = onA A X 4 g)) i = true) ⟨rfl, rfl, rfl⟩ ?_
        rintro i e2 h2 hi ⟨rfl, rfl, ha⟩
        simp -implicitDefEqProofs only [↓dn_den, ↓dn_loc, ↓dn_k, ↓dn_add, ↓dn_sub, ↓dn_mul, ↓dn_div, ↓dn_rem, ↓dn_bop, ↓dn_ladd, ↓dn_lsub, ↓dn_lmul, ↓dn_ldiv, ↓dn_lrem, ↓dn_land, ↓dn_l2i, ↓dn_neg, ↓dn_get, ↓dn_fix, ↓dn_ald, ↓dn_gld, ↓dn_yld, ↓dn_len, ↓dn_gln, ↓dn_cc, ↓dn_cb, ↓dn_and, ↓dn_or, ↓dn_not, ↓dn_cite, ↓dn_ec, ↓dn_ei, ↓dn_skip, ↓dn_seq, ↓dn_set, ↓dn_inc, ↓dn_putf, ↓dn_putz, ↓dn_ast, ↓dn_exp, ↓dn_if, ↓dn_ret, ↓dn_retz, ↓dn_retv, ↓dn_brk, ↓dn_cont, ↓dn_cs, ↓dn_sw, ↓dn_pop32, ↓dn_pop64, ↓dn_aop, ↓dn_call, ↓dn_max, ↓dn_min, ↓dn_acp, ↓dn_i2l, ↓dn_args0, ↓dn_args1, og_pad, og_ent, og_rlt, og_rle, og_rgt, og_rge, og_req, og_rne, og_padd, og_psub, og_pmul, List.getD_cons_zero, List.getD_cons_succ, List.set_cons_zero, List.set_cons_succ, List.length_cons, List.length_nil, List.cons_append, List.nil_append, List.replicate, List.append_nil, Nat.reduceAdd, Nat.reduceSub, Nat.reduceEqDiff, if_true, if_false, reduceIte, Int.reduceAdd, Int.reduceSub, Int.reduceMul, Int.reduceNeg, Int.reduceLT, Int.reduceLE, Int.cast_ofNat_Int, true_or, or_true, true_and, and_true, false_and, List.mem_cons, List.not_mem_nil, or_false, false_or, ne_eq, og_i32]
        refine ⟨fun hlt => ?_, fun hge => ?_⟩
        · have i5 : 2 + 3 * (i : Int) + 2 = 4 + 3 * (i : Int) := by omega
          have bi := hx.2 (4 + 3 * (i : Int)) (by omega) (by omega)
          have eci := (onA_c (A := A) (X := X) (k := (i : Int))).2.2.2.1
          rw [i5, ht (4 + 3 * (i : Int)) (by omega) (by omega)]
          repeat (refine And.intro (by omega) ?_)
          refine ⟨fun z => ?_, fun z => ?_⟩
          · have := no (sAll_f (k := i) (by omega) (decide_eq_false (fun q => q (by rw [eci, ew, if_neg (by omega)]; exact z))))
            first | exact this | exact ⟨by decide, this⟩
          · refine ⟨by omega, og_nx_mk (by omega) ⟨rfl, by simp; omega, ?_⟩⟩
            rw [sAll_s, ha, Bool.true_and]
            refine decide_eq_true (fun q => ?_)
            rw [eci, ew] at q
            split at q <;> omega
        · have e : i = g := by omega
          subst e
          first | exact ⟨rfl, ha⟩ | exact ha
      · rintro e2 h2 ⟨rfl, hz⟩
        simp -implicitDefEqProofs only [↓dn_den, ↓dn_loc, ↓dn_k, ↓dn_add, ↓dn_sub, ↓dn_mul, ↓dn_div, ↓dn_rem, ↓dn_bop, ↓dn_ladd, ↓dn_lsub, ↓dn_lmul, ↓dn_ldiv, ↓dn_lrem, ↓dn_land, ↓dn_l2i, ↓dn_neg, ↓dn_get, ↓dn_fix, ↓dn_ald, ↓dn_gld, ↓dn_yld, ↓dn_len, ↓dn_gln, ↓dn_cc, ↓dn_cb, ↓dn_and, ↓dn_or, ↓dn_not, ↓dn_cite, ↓dn_ec, ↓dn_ei, ↓dn_skip, ↓dn_seq, ↓dn_set, ↓dn_inc, ↓dn_putf, ↓dn_putz, ↓dn_ast, ↓dn_exp, ↓dn_if, ↓dn_ret, ↓dn_retz, ↓dn_retv, ↓dn_brk, ↓dn_cont, ↓dn_cs, ↓dn_sw, ↓dn_pop32, ↓dn_pop64, ↓dn_aop, ↓dn_call, ↓dn_max, ↓dn_min, ↓dn_acp, ↓dn_i2l, ↓dn_args0, ↓dn_args1, og_pad, og_ent, og_rlt, og_rle, og_rgt, og_rge, og_req, og_rne, og_padd, og_psub, og_pmul, List.getD_cons_zero, List.getD_cons_succ, List.set_cons_zero, List.set_cons_succ, List.length_cons, List.length_nil, List.cons_append, List.nil_append, List.replicate, List.append_nil, Nat.reduceAdd, Nat.reduceSub, Nat.reduceEqDiff, if_true, if_false, reduceIte, Int.reduceAdd, Int.reduceSub, Int.reduceMul, Int.reduceNeg, Int.reduceLT, Int.reduceLE, Int.cast_ofNat_Int, true_or, or_true, true_and, and_true, false_and, List.mem_cons, List.not_mem_nil, or_false, false_or, ne_eq]
        first | exact yes hz | exact ⟨by decide, yes hz⟩
    · have e := ite00 e
      unfold sFit at e
      rw [decide_eq_false_iff_not] at e
      have ecp := onA_c (A := A) (X := X) (k := X 2 (4 + 3 * (g : Int)))
      have := no (by
        unfold inB
        rw [ew, decide_eq_false (by omega), ecp.2.2.2.2.1, ec.1, decide_eq_false e]
        simp)
      first | exact this | exact ⟨by decide, this⟩
  · have d := iteP0 d
    have := no (by
      unfold inB
      rw [ew, decide_eq_false (by omega), onA_0.2.1, decide_eq_false d]
      simp)
    first | exact this | exact ⟨by decide, this⟩
theorem r_isImage (hm : isM h A) (ho : okY A) (ht : ∀ j, 0 ≤ j → j < X 0 1 → h 1001 j = X 2 j) (hx : (0 ≤ X 0 1 ∧ X 0 1 ≤ 1600) ∧ ∀ j, 0 ≤ j → j < X 0 1 → 0 ≤ X 2 j ∧ X 2 j ≤ 255) (hK : K (if onB A X = true then 1 else 0) h) : m_Model_isImage [1000, X 0 1] h K := by
  have h6 := ho.1
  have hng : sNg A = (A 0 0).toNat := rfl
  have hnp : sNp A = (A 0 1).toNat := rfl
  have es : imS A = 2 + 3 * A 0 0 + 3 * A 0 1 := rfl
  have yes : onB A X = true → K 1 h := fun z => by rw [if_pos z] at hK; exact hK
  have no : onB A X = false → K 0 h := fun z => by rw [if_neg (by rw [z]; decide)] at hK; exact hK
  have fal : ∀ {f : Nat → Bool} {i m : Nat}, i < m → f i = false → sAll f m = false := fun a b => sAll_f a b
  unfold m_Model_isImage
  simp -implicitDefEqProofs only [↓dn_den, ↓dn_loc, ↓dn_k, ↓dn_add, ↓dn_sub, ↓dn_mul, ↓dn_div, ↓dn_rem, ↓dn_bop, ↓dn_ladd, ↓dn_lsub, ↓dn_lmul, ↓dn_ldiv, ↓dn_lrem, ↓dn_land, ↓dn_l2i, ↓dn_neg, ↓dn_get, ↓dn_fix, ↓dn_ald, ↓dn_gld, ↓dn_yld, ↓dn_len, ↓dn_gln, ↓dn_cc, ↓dn_cb, ↓dn_and, ↓dn_or, ↓dn_not, ↓dn_cite, ↓dn_ec, ↓dn_ei, ↓dn_skip, ↓dn_seq, ↓dn_set, ↓dn_inc, ↓dn_putf, ↓dn_putz, ↓dn_ast, ↓dn_exp, ↓dn_if, ↓dn_ret, ↓dn_retz, ↓dn_retv, ↓dn_brk, ↓dn_cont, ↓dn_cs, ↓dn_sw, ↓dn_pop32, ↓dn_pop64, ↓dn_aop, ↓dn_call, ↓dn_max, ↓dn_min, ↓dn_acp, ↓dn_i2l, ↓dn_args0, ↓dn_args1, og_pad, og_ent, og_rlt, og_rle, og_rgt, og_rge, og_req, og_rne, og_padd, og_psub, og_pmul, List.getD_cons_zero, List.getD_cons_succ, List.set_cons_zero, List.set_cons_succ, List.length_cons, List.length_nil, List.cons_append, List.nil_append, List.replicate, List.append_nil, Nat.reduceAdd, Nat.reduceSub, Nat.reduceEqDiff, if_true, if_false, reduceIte, Int.reduceAdd, Int.reduceSub, Int.reduceMul, Int.reduceNeg, Int.reduceLT, Int.reduceLE, Int.cast_ofNat_Int, true_or, or_true, true_and, and_true, false_and, List.mem_cons, List.not_mem_nil, or_false, false_or, ne_eq, og_i32]
  refine r_graveMany hm ⟨by omega, by omega, ?_⟩
  refine r_personMany hm ⟨by omega, by omega, by omega, fun a => ?_, fun a => ?_⟩
  · have := no (by unfold onB; rw [decide_eq_false (by omega)]; rfl)
    first | exact this | exact ⟨by decide, this⟩
  have hs : X 0 1 = imS A + 1 := by omega
  have e1 : X 0 1 - 1 = imS A := by omega
  rw [e1, ht (imS A) (by omega) (by omega)]
  repeat (refine And.intro (by omega) ?_)
  have ec : imS A = ((imS A).toNat : Int) := by omega
  have hmx : ∀ {K : Int → Hp → Prop}, K (mxN (X 2) (imS A).toNat) h → m_Model_checked [1001, imS A] h K := by
    intro K hK
    have := r_checked (h := h) (a := 1001) (m := (imS A).toNat) (f := X 2) (K := K) (by rw [og_siz1001]; omega) (by omega) (fun j hj => ⟨ht j (by omega) (by omega), hx.2 j (by omega) (by omega)⟩) hK
    rw [← ec] at this
    exact this
  refine hmx ⟨fun b => ?_, fun b => ?_⟩
  · have := no (by unfold onB; rw [decide_eq_false b]; simp)
    first | exact this | exact ⟨by decide, this⟩
  have b : X 2 (imS A) = mxN (X 2) (imS A).toNat := by simpa using b
  have b0 := hx.2 0 (by omega) (by omega)
  have b1 := hx.2 1 (by omega) (by omega)
  rw [ht 0 (by omega) (by omega), ht 1 (by omega) (by omega)]
  have eB : onB A X = sSound (onA A X) := by unfold onB; rw [decide_eq_true hs, decide_eq_true b]; rfl
  repeat (refine And.intro (by omega) ?_)
  refine ⟨fun c => ?_, fun c => ?_⟩
  · have := no (by rw [eB]; unfold sSound; rw [onA_0.2.2.1, decide_eq_false (by omega)]; rfl)
    first | exact this | exact ⟨by decide, this⟩
  have eP : sNp (onA A X) = sNp A := rfl
  have eG : sNg (onA A X) = sNg A := rfl
  have eS : onB A X = (sAll (sdP (onA A X)) (sNp A) && sAll (sdG (onA A X)) (sNg A)) := by rw [eB]; unfold sSound; rw [onA_0.2.2.1, decide_eq_true (by omega), eP, eG]; rfl
  refine ⟨fun e2 h2 => h2 = h ∧ (∃ c3, e2 = [1000, X 0 1, 2 + 3 * A 0 0, c3]) ∧ sAll (sdP (onA A X)) (sNp A) = true, ?_, ?_⟩
  · simp -implicitDefEqProofs only [↓dn_den, ↓dn_loc, ↓dn_k, ↓dn_add, ↓dn_sub, ↓dn_mul, ↓dn_div, ↓dn_rem, ↓dn_bop, ↓dn_ladd, ↓dn_lsub, ↓dn_lmul, ↓dn_ldiv, ↓dn_lrem, ↓dn_land, ↓dn_l2i, ↓dn_neg, ↓dn_get, ↓dn_fix, ↓dn_ald, ↓dn_gld, ↓dn_yld, ↓dn_len, ↓dn_gln, ↓dn_cc, ↓dn_cb, ↓dn_and, ↓dn_or, ↓dn_not, ↓dn_cite, ↓dn_ec, ↓dn_ei, ↓dn_skip, ↓dn_seq, ↓dn_set, ↓dn_inc, ↓dn_putf, ↓dn_putz, ↓dn_ast, ↓dn_exp, ↓dn_if, ↓dn_ret, ↓dn_retz, ↓dn_retv, ↓dn_brk, ↓dn_cont, ↓dn_cs, ↓dn_sw, ↓dn_pop32, ↓dn_pop64, ↓dn_aop, ↓dn_call, ↓dn_max, ↓dn_min, ↓dn_acp, ↓dn_i2l, ↓dn_args0, ↓dn_args1, og_pad, og_ent, og_rlt, og_rle, og_rgt, og_rge, og_req, og_rne, og_padd, og_psub, og_pmul, List.getD_cons_zero, List.getD_cons_succ, List.set_cons_zero, List.set_cons_succ, List.length_cons, List.length_nil, List.cons_append, List.nil_append, List.replicate, List.append_nil, Nat.reduceAdd, Nat.reduceSub, Nat.reduceEqDiff, if_true, if_false, reduceIte, Int.reduceAdd, Int.reduceSub, Int.reduceMul, Int.reduceNeg, Int.reduceLT, Int.reduceLE, Int.cast_ofNat_Int, true_or, or_true, true_and, and_true, false_and, List.mem_cons, List.not_mem_nil, or_false, false_or, ne_eq]
    refine og_loop (sNp A) (fun i e2 h2 => h2 = h ∧ e2 = [1000, X 0 1, 2 + 3 * A 0 0, 2 + 3 * A 0 0 + 3 * (i : Int)] ∧ sAll (sdP (onA A X)) i = true) ⟨rfl, by simp, rfl⟩ ?_
    rintro i e2 h2 hi ⟨rfl, rfl, ha⟩
    simp -implicitDefEqProofs only [↓dn_den, ↓dn_loc, ↓dn_k, ↓dn_add, ↓dn_sub, ↓dn_mul, ↓dn_div, ↓dn_rem, ↓dn_bop, ↓dn_ladd, ↓dn_lsub, ↓dn_lmul, ↓dn_ldiv, ↓dn_lrem, ↓dn_land, ↓dn_l2i, ↓dn_neg, ↓dn_get, ↓dn_fix, ↓dn_ald, ↓dn_gld, ↓dn_yld, ↓dn_len, ↓dn_gln, ↓dn_cc, ↓dn_cb, ↓dn_and, ↓dn_or, ↓dn_not, ↓dn_cite, ↓dn_ec, ↓dn_ei, ↓dn_skip, ↓dn_seq, ↓dn_set, ↓dn_inc, ↓dn_putf, ↓dn_putz, ↓dn_ast, ↓dn_exp, ↓dn_if, ↓dn_ret, ↓dn_retz, ↓dn_retv, ↓dn_brk, ↓dn_cont, ↓dn_cs, ↓dn_sw, ↓dn_pop32, ↓dn_pop64, ↓dn_aop, ↓dn_call, ↓dn_max, ↓dn_min, ↓dn_acp, ↓dn_i2l, ↓dn_args0, ↓dn_args1, og_pad, og_ent, og_rlt, og_rle, og_rgt, og_rge, og_req, og_rne, og_padd, og_psub, og_pmul, List.getD_cons_zero, List.getD_cons_succ, List.set_cons_zero, List.set_cons_succ, List.length_cons, List.length_nil, List.cons_append, List.nil_append, List.replicate, List.append_nil, Nat.reduceAdd, Nat.reduceSub, Nat.reduceEqDiff, if_true, if_false, reduceIte, Int.reduceAdd, Int.reduceSub, Int.reduceMul, Int.reduceNeg, Int.reduceLT, Int.reduceLE, Int.cast_ofNat_Int, true_or, or_true, true_and, and_true, false_and, List.mem_cons, List.not_mem_nil, or_false, false_or, ne_eq, og_i32]
    rw [e1]
    refine ⟨by omega, fun hlt => ?_, fun hge => ?_⟩
    · have ecp := onA_c (A := A) (X := X) (k := (i : Int))
      have i3 : 2 + 3 * A 0 0 + 3 * (i : Int) + 1 = 3 + 3 * A 0 0 + 3 * (i : Int) := by omega
      have i4 : 2 + 3 * A 0 0 + 3 * (i : Int) + 2 = 4 + 3 * A 0 0 + 3 * (i : Int) := by omega
      rw [i3, i4, ht (2 + 3 * A 0 0 + 3 * (i : Int)) (by omega) (by omega), ht (3 + 3 * A 0 0 + 3 * (i : Int)) (by omega) (by omega), ht (4 + 3 * A 0 0 + 3 * (i : Int)) (by omega) (by omega)]
      have bad : sdP (onA A X) i = false → K 0 h2 := fun z => no (by rw [eS, fal (i := i) (by omega) z]; rfl)
      repeat (refine And.intro (by omega) ?_)
      refine ⟨fun z => ?_, fun z1 => ?_⟩
      · have := bad (by unfold sdP; rw [ecp.2.2.2.2.2.2.2, decide_eq_false (by omega)]; rfl)
        first | exact this | exact ⟨by decide, this⟩
      repeat (refine And.intro (by omega) ?_)
      refine ⟨fun z => ?_, fun z2 => ?_⟩
      · have := bad (by
          have q1 : ¬ onA A X 6 i ≤ 99 := by rw [ecp.2.2.2.2.2.1]; omega
          unfold sdP
          rw [decide_eq_false q1]
          simp)
        first | exact this | exact ⟨by decide, this⟩
      repeat (refine And.intro (by omega) ?_)
      refine ⟨fun z => ?_, fun z3 => ?_⟩
      · have := bad (by
          have q1 : ¬ onA A X 7 i ≤ 9 := by rw [ecp.2.2.2.2.2.2.1]; omega
          unfold sdP
          rw [decide_eq_false q1]
          simp)
        first | exact this | exact ⟨by decide, this⟩
      refine ⟨by omega, og_nx_mk (by omega) ⟨rfl, by simp; omega, ?_⟩⟩
      rw [sAll_s, ha]
      unfold sdP
      rw [ecp.2.2.2.2.2.1, ecp.2.2.2.2.2.2.1, ecp.2.2.2.2.2.2.2, decide_eq_true (by omega), decide_eq_true (by omega), decide_eq_true (by omega)]
      rfl
    · have e : i = sNp A := by omega
      subst e
      first | exact ⟨rfl, ⟨_, rfl⟩, ha⟩ | exact ⟨⟨_, rfl⟩, ha⟩
  · rintro e2 h2 ⟨rfl, ⟨c3, rfl⟩, hp⟩
    refine ⟨fun e3 h3 => h3 = h2 ∧ sAll (sdG (onA A X)) (sNg A) = true, ?_, ?_⟩
    · simp -implicitDefEqProofs only [↓dn_den, ↓dn_loc, ↓dn_k, ↓dn_add, ↓dn_sub, ↓dn_mul, ↓dn_div, ↓dn_rem, ↓dn_bop, ↓dn_ladd, ↓dn_lsub, ↓dn_lmul, ↓dn_ldiv, ↓dn_lrem, ↓dn_land, ↓dn_l2i, ↓dn_neg, ↓dn_get, ↓dn_fix, ↓dn_ald, ↓dn_gld, ↓dn_yld, ↓dn_len, ↓dn_gln, ↓dn_cc, ↓dn_cb, ↓dn_and, ↓dn_or, ↓dn_not, ↓dn_cite, ↓dn_ec, ↓dn_ei, ↓dn_skip, ↓dn_seq, ↓dn_set, ↓dn_inc, ↓dn_putf, ↓dn_putz, ↓dn_ast, ↓dn_exp, ↓dn_if, ↓dn_ret, ↓dn_retz, ↓dn_retv, ↓dn_brk, ↓dn_cont, ↓dn_cs, ↓dn_sw, ↓dn_pop32, ↓dn_pop64, ↓dn_aop, ↓dn_call, ↓dn_max, ↓dn_min, ↓dn_acp, ↓dn_i2l, ↓dn_args0, ↓dn_args1, og_pad, og_ent, og_rlt, og_rle, og_rgt, og_rge, og_req, og_rne, og_padd, og_psub, og_pmul, List.getD_cons_zero, List.getD_cons_succ, List.set_cons_zero, List.set_cons_succ, List.length_cons, List.length_nil, List.cons_append, List.nil_append, List.replicate, List.append_nil, Nat.reduceAdd, Nat.reduceSub, Nat.reduceEqDiff, if_true, if_false, reduceIte, Int.reduceAdd, Int.reduceSub, Int.reduceMul, Int.reduceNeg, Int.reduceLT, Int.reduceLE, Int.cast_ofNat_Int, true_or, or_true, true_and, and_true, false_and, List.mem_cons, List.not_mem_nil, or_false, false_or, ne_eq]
      refine og_loop (sNg A) (fun i e3 h3 => h3 = h2 ∧ e3 = [1000, X 0 1, 2 + 3 * A 0 0, 2 + 3 * (i : Int)] ∧ sAll (sdG (onA A X)) i = true) ⟨rfl, by simp, rfl⟩ ?_
      rintro i e3 h3 hi ⟨rfl, rfl, ha⟩
      simp -implicitDefEqProofs only [↓dn_den, ↓dn_loc, ↓dn_k, ↓dn_add, ↓dn_sub, ↓dn_mul, ↓dn_div, ↓dn_rem, ↓dn_bop, ↓dn_ladd, ↓dn_lsub, ↓dn_lmul, ↓dn_ldiv, ↓dn_lrem, ↓dn_land, ↓dn_l2i, ↓dn_neg, ↓dn_get, ↓dn_fix, ↓dn_ald, ↓dn_gld, ↓dn_yld, ↓dn_len, ↓dn_gln, ↓dn_cc, ↓dn_cb, ↓dn_and, ↓dn_or, ↓dn_not, ↓dn_cite, ↓dn_ec, ↓dn_ei, ↓dn_skip, ↓dn_seq, ↓dn_set, ↓dn_inc, ↓dn_putf, ↓dn_putz, ↓dn_ast, ↓dn_exp, ↓dn_if, ↓dn_ret, ↓dn_retz, ↓dn_retv, ↓dn_brk, ↓dn_cont, ↓dn_cs, ↓dn_sw, ↓dn_pop32, ↓dn_pop64, ↓dn_aop, ↓dn_call, ↓dn_max, ↓dn_min, ↓dn_acp, ↓dn_i2l, ↓dn_args0, ↓dn_args1, og_pad, og_ent, og_rlt, og_rle, og_rgt, og_rge, og_req, og_rne, og_padd, og_psub, og_pmul, List.getD_cons_zero, List.getD_cons_succ, List.set_cons_zero, List.set_cons_succ, List.length_cons, List.length_nil, List.cons_append, List.nil_append, List.replicate, List.append_nil, Nat.reduceAdd, Nat.reduceSub, Nat.reduceEqDiff, if_true, if_false, reduceIte, Int.reduceAdd, Int.reduceSub, Int.reduceMul, Int.reduceNeg, Int.reduceLT, Int.reduceLE, Int.cast_ofNat_Int, true_or, or_true, true_and, and_true, false_and, List.mem_cons, List.not_mem_nil, or_false, false_or, ne_eq, og_i32]
      refine ⟨fun hlt => ?_, fun hge => ?_⟩
      · refine r_isGraveTold hm ho ht hx hs hp (by omega) ⟨fun z => ?_, fun z => ?_⟩
        · exact ⟨by omega, og_nx_mk (by omega) ⟨rfl, by simp; omega, by rw [sAll_s, ha, ite10 z]; rfl⟩⟩
        · have := no (by rw [eS, fal (f := sdG (onA A X)) (i := i) (m := sNg A) (by omega) (ite00 z)]; simp)
          first | exact this | exact ⟨by decide, this⟩
      · have e : i = sNg A := by omega
        subst e
        first | exact ⟨rfl, ha⟩ | exact ha
    · rintro e3 h3 ⟨rfl, hz⟩
      simp -implicitDefEqProofs only [↓dn_den, ↓dn_loc, ↓dn_k, ↓dn_add, ↓dn_sub, ↓dn_mul, ↓dn_div, ↓dn_rem, ↓dn_bop, ↓dn_ladd, ↓dn_lsub, ↓dn_lmul, ↓dn_ldiv, ↓dn_lrem, ↓dn_land, ↓dn_l2i, ↓dn_neg, ↓dn_get, ↓dn_fix, ↓dn_ald, ↓dn_gld, ↓dn_yld, ↓dn_len, ↓dn_gln, ↓dn_cc, ↓dn_cb, ↓dn_and, ↓dn_or, ↓dn_not, ↓dn_cite, ↓dn_ec, ↓dn_ei, ↓dn_skip, ↓dn_seq, ↓dn_set, ↓dn_inc, ↓dn_putf, ↓dn_putz, ↓dn_ast, ↓dn_exp, ↓dn_if, ↓dn_ret, ↓dn_retz, ↓dn_retv, ↓dn_brk, ↓dn_cont, ↓dn_cs, ↓dn_sw, ↓dn_pop32, ↓dn_pop64, ↓dn_aop, ↓dn_call, ↓dn_max, ↓dn_min, ↓dn_acp, ↓dn_i2l, ↓dn_args0, ↓dn_args1, og_pad, og_ent, og_rlt, og_rle, og_rgt, og_rge, og_req, og_rne, og_padd, og_psub, og_pmul, List.getD_cons_zero, List.getD_cons_succ, List.set_cons_zero, List.set_cons_succ, List.length_cons, List.length_nil, List.cons_append, List.nil_append, List.replicate, List.append_nil, Nat.reduceAdd, Nat.reduceSub, Nat.reduceEqDiff, if_true, if_false, reduceIte, Int.reduceAdd, Int.reduceSub, Int.reduceMul, Int.reduceNeg, Int.reduceLT, Int.reduceLE, Int.cast_ofNat_Int, true_or, or_true, true_and, and_true, false_and, List.mem_cons, List.not_mem_nil, or_false, false_or, ne_eq]
      have := yes (by rw [eS, hp, hz]; rfl)
      first | exact this | exact ⟨by decide, this⟩
theorem m_on (hn : n ≤ 1000000) (hr : relM q h M A P U X) (hx : okX n A P U X) (hK0 : onB A X = false → ∀ h', relM q h' M A P U (sRf (sUp X 0 1 0) 5) → K 0 h') (hK1 : onB A X = true → ∀ h', relM q h' M (onA A X) P [] (sUp X 0 1 0) → K 1 h') : m_Model_on [1000] h K := by
  have ho := hx.1.1
  have h6 := ho.1
  have ht := hr.2.2.1.2.2.1
  have xb := hx.2.2.2.2.1
  have hng : sNg A = (A 0 0).toNat := rfl
  have hnp : sNp A = (A 0 1).toNat := rfl
  have es : imS A = 2 + 3 * A 0 0 + 3 * A 0 1 := rfl
  have hr2 := relM_tape (v := 0) ho xb.1.1 hr
  have hx2 := okX_tape0 hx
  have e5 := m_rfE (j := 5) (by decide) hn hr2 hx2
  unfold m_Model_on
  simp -implicitDefEqProofs only [↓dn_den, ↓dn_loc, ↓dn_k, ↓dn_add, ↓dn_sub, ↓dn_mul, ↓dn_div, ↓dn_rem, ↓dn_bop, ↓dn_ladd, ↓dn_lsub, ↓dn_lmul, ↓dn_ldiv, ↓dn_lrem, ↓dn_land, ↓dn_l2i, ↓dn_neg, ↓dn_get, ↓dn_fix, ↓dn_ald, ↓dn_gld, ↓dn_yld, ↓dn_len, ↓dn_gln, ↓dn_cc, ↓dn_cb, ↓dn_and, ↓dn_or, ↓dn_not, ↓dn_cite, ↓dn_ec, ↓dn_ei, ↓dn_skip, ↓dn_seq, ↓dn_set, ↓dn_inc, ↓dn_putf, ↓dn_putz, ↓dn_ast, ↓dn_exp, ↓dn_if, ↓dn_ret, ↓dn_retz, ↓dn_retv, ↓dn_brk, ↓dn_cont, ↓dn_cs, ↓dn_sw, ↓dn_pop32, ↓dn_pop64, ↓dn_aop, ↓dn_call, ↓dn_max, ↓dn_min, ↓dn_acp, ↓dn_i2l, ↓dn_args0, ↓dn_args1, og_pad, og_ent, og_rlt, og_rle, og_rgt, og_rge, og_req, og_rne, og_padd, og_psub, og_pmul, List.getD_cons_zero, List.getD_cons_succ, List.set_cons_zero, List.set_cons_succ, List.length_cons, List.length_nil, List.cons_append, List.nil_append, List.replicate, List.append_nil, Nat.reduceAdd, Nat.reduceSub, Nat.reduceEqDiff, if_true, if_false, reduceIte, Int.reduceAdd, Int.reduceSub, Int.reduceMul, Int.reduceNeg, Int.reduceLT, Int.reduceLE, Int.cast_ofNat_Int, true_or, or_true, true_and, and_true, false_and, List.mem_cons, List.not_mem_nil, or_false, false_or, ne_eq, og_i32]
  rw [ht.1]
  generalize hh1 : og_up h 1000 1 0 = h1 at *
  have ht1 : ∀ j, 0 ≤ j → j < X 0 1 → h1 1001 j = X 2 j := fun j a b => by rw [← hh1, og_up_i (by decide)]; exact ht.2 j a b
  have hm1 := hr2.1.1.1
  refine r_isImage hm1 ho ht1 xb ⟨fun a => ?_, fun a => ?_⟩
  · have hb := ite10 a
    have hb' := hb
    unfold onB at hb'
    simp only [Bool.and_eq_true, decide_eq_true_eq] at hb'
    have hs := hb'.1.1
    have hk := on_ok ho xb.2 hb
    have b0 := xb.2 0 (by omega) (by omega)
    have b1 := xb.2 1 (by omega) (by omega)
    rw [ht1 0 (by omega) (by omega), ht1 1 (by omega) (by omega)]
    repeat (refine And.intro (by omega) ?_)
    generalize hh2 : og_up h1 1037 0 (256 * X 2 0 + X 2 1) = h2
    have f2 : ∀ i k, i ≠ 1037 → h2 i k = h1 i k := fun i k hi => by rw [← hh2, og_up_i hi]
    have v2 : h2 1037 0 = 256 * X 2 0 + X 2 1 := by rw [← hh2, og_up_eq]
    have mf : ∀ {h3 : Hp}, (∀ i k, i ≠ 1037 → h3 i k = h2 i k) → h3 1028 2 = A 0 0 ∧ h3 1028 3 = A 0 1 := fun hf => ⟨by rw [hf _ _ (by decide), f2 _ _ (by decide)]; exact hm1.1.1, by rw [hf _ _ (by decide), f2 _ _ (by decide)]; exact hm1.1.2.1⟩
    have gm : ∀ {h3 : Hp} {K : Int → Hp → Prop}, (∀ i k, i ≠ 1037 → h3 i k = h2 i k) → K (A 0 0) h3 → m_Model_graveMany [1000] h3 K := by
      intro h3 K hf hK
      unfold m_Model_graveMany
      simp -implicitDefEqProofs only [↓dn_den, ↓dn_loc, ↓dn_k, ↓dn_add, ↓dn_sub, ↓dn_mul, ↓dn_div, ↓dn_rem, ↓dn_bop, ↓dn_ladd, ↓dn_lsub, ↓dn_lmul, ↓dn_ldiv, ↓dn_lrem, ↓dn_land, ↓dn_l2i, ↓dn_neg, ↓dn_get, ↓dn_fix, ↓dn_ald, ↓dn_gld, ↓dn_yld, ↓dn_len, ↓dn_gln, ↓dn_cc, ↓dn_cb, ↓dn_and, ↓dn_or, ↓dn_not, ↓dn_cite, ↓dn_ec, ↓dn_ei, ↓dn_skip, ↓dn_seq, ↓dn_set, ↓dn_inc, ↓dn_putf, ↓dn_putz, ↓dn_ast, ↓dn_exp, ↓dn_if, ↓dn_ret, ↓dn_retz, ↓dn_retv, ↓dn_brk, ↓dn_cont, ↓dn_cs, ↓dn_sw, ↓dn_pop32, ↓dn_pop64, ↓dn_aop, ↓dn_call, ↓dn_max, ↓dn_min, ↓dn_acp, ↓dn_i2l, ↓dn_args0, ↓dn_args1, og_pad, og_ent, og_rlt, og_rle, og_rgt, og_rge, og_req, og_rne, og_padd, og_psub, og_pmul, List.getD_cons_zero, List.getD_cons_succ, List.set_cons_zero, List.set_cons_succ, List.length_cons, List.length_nil, List.cons_append, List.nil_append, List.replicate, List.append_nil, Nat.reduceAdd, Nat.reduceSub, Nat.reduceEqDiff, if_true, if_false, reduceIte, Int.reduceAdd, Int.reduceSub, Int.reduceMul, Int.reduceNeg, Int.reduceLT, Int.reduceLE, Int.cast_ofNat_Int, true_or, or_true, true_and, and_true, false_and, List.mem_cons, List.not_mem_nil, or_false, false_or, ne_eq]
      rw [(mf hf).1]
      first | exact hK | exact ⟨by decide, by decide, hK⟩
    have pm : ∀ {h3 : Hp} {K : Int → Hp → Prop}, (∀ i k, i ≠ 1037 → h3 i k = h2 i k) → K (A 0 1) h3 → m_Model_personMany [1000] h3 K := by
      intro h3 K hf hK
      unfold m_Model_personMany
      simp -implicitDefEqProofs only [↓dn_den, ↓dn_loc, ↓dn_k, ↓dn_add, ↓dn_sub, ↓dn_mul, ↓dn_div, ↓dn_rem, ↓dn_bop, ↓dn_ladd, ↓dn_lsub, ↓dn_lmul, ↓dn_ldiv, ↓dn_lrem, ↓dn_land, ↓dn_l2i, ↓dn_neg, ↓dn_get, ↓dn_fix, ↓dn_ald, ↓dn_gld, ↓dn_yld, ↓dn_len, ↓dn_gln, ↓dn_cc, ↓dn_cb, ↓dn_and, ↓dn_or, ↓dn_not, ↓dn_cite, ↓dn_ec, ↓dn_ei, ↓dn_skip, ↓dn_seq, ↓dn_set, ↓dn_inc, ↓dn_putf, ↓dn_putz, ↓dn_ast, ↓dn_exp, ↓dn_if, ↓dn_ret, ↓dn_retz, ↓dn_retv, ↓dn_brk, ↓dn_cont, ↓dn_cs, ↓dn_sw, ↓dn_pop32, ↓dn_pop64, ↓dn_aop, ↓dn_call, ↓dn_max, ↓dn_min, ↓dn_acp, ↓dn_i2l, ↓dn_args0, ↓dn_args1, og_pad, og_ent, og_rlt, og_rle, og_rgt, og_rge, og_req, og_rne, og_padd, og_psub, og_pmul, List.getD_cons_zero, List.getD_cons_succ, List.set_cons_zero, List.set_cons_succ, List.length_cons, List.length_nil, List.cons_append, List.nil_append, List.replicate, List.append_nil, Nat.reduceAdd, Nat.reduceSub, Nat.reduceEqDiff, if_true, if_false, reduceIte, Int.reduceAdd, Int.reduceSub, Int.reduceMul, Int.reduceNeg, Int.reduceLT, Int.reduceLE, Int.cast_ofNat_Int, true_or, or_true, true_and, and_true, false_and, List.mem_cons, List.not_mem_nil, or_false, false_or, ne_eq]
      rw [(mf hf).2]
      first | exact hK | exact ⟨by decide, by decide, hK⟩
    have tp : ∀ {h3 : Hp}, (∀ i k, i ≠ 1037 → h3 i k = h2 i k) → ∀ j, 0 ≤ j → j < X 0 1 → h3 1001 j = X 2 j := fun hf j a b => by rw [hf _ _ (by decide), f2 _ _ (by decide)]; exact ht1 j a b
    refine ⟨fun e3 h3 => (∃ c2, e3 = [1000, X 0 1, c2]) ∧ (∀ k : Int, 0 ≤ k → k < 3 * A 0 0 → h3 1037 (1 + k) = if k % 3 = 2 ∧ X 2 (2 + k) = 255 then -1 else X 2 (2 + k)) ∧ h3 1037 0 = h2 1037 0 ∧ (∀ i k, i ≠ 1037 → h3 i k = h2 i k), ?_, ?_⟩
    · simp -implicitDefEqProofs only [↓dn_den, ↓dn_loc, ↓dn_k, ↓dn_add, ↓dn_sub, ↓dn_mul, ↓dn_div, ↓dn_rem, ↓dn_bop, ↓dn_ladd, ↓dn_lsub, ↓dn_lmul, ↓dn_ldiv, ↓dn_lrem, ↓dn_land, ↓dn_l2i, ↓dn_neg, ↓dn_get, ↓dn_fix, ↓dn_ald, ↓dn_gld, ↓dn_yld, ↓dn_len, ↓dn_gln, ↓dn_cc, ↓dn_cb, ↓dn_and, ↓dn_or, ↓dn_not, ↓dn_cite, ↓dn_ec, ↓dn_ei, ↓dn_skip, ↓dn_seq, ↓dn_set, ↓dn_inc, ↓dn_putf, ↓dn_putz, ↓dn_ast, ↓dn_exp, ↓dn_if, ↓dn_ret, ↓dn_retz, ↓dn_retv, ↓dn_brk, ↓dn_cont, ↓dn_cs, ↓dn_sw, ↓dn_pop32, ↓dn_pop64, ↓dn_aop, ↓dn_call, ↓dn_max, ↓dn_min, ↓dn_acp, ↓dn_i2l, ↓dn_args0, ↓dn_args1, og_pad, og_ent, og_rlt, og_rle, og_rgt, og_rge, og_req, og_rne, og_padd, og_psub, og_pmul, List.getD_cons_zero, List.getD_cons_succ, List.set_cons_zero, List.set_cons_succ, List.length_cons, List.length_nil, List.cons_append, List.nil_append, List.replicate, List.append_nil, Nat.reduceAdd, Nat.reduceSub, Nat.reduceEqDiff, if_true, if_false, reduceIte, Int.reduceAdd, Int.reduceSub, Int.reduceMul, Int.reduceNeg, Int.reduceLT, Int.reduceLE, Int.cast_ofNat_Int, true_or, or_true, true_and, and_true, false_and, List.mem_cons, List.not_mem_nil, or_false, false_or, ne_eq]
      refine og_loop (3 * sNg A) (fun i e3 h3 => e3 = [1000, X 0 1, (i : Int)] ∧ (∀ k : Int, 0 ≤ k → k < i → h3 1037 (1 + k) = if k % 3 = 2 ∧ X 2 (2 + k) = 255 then -1 else X 2 (2 + k)) ∧ h3 1037 0 = h2 1037 0 ∧ (∀ i k, i ≠ 1037 → h3 i k = h2 i k)) ⟨rfl, fun k a b => by omega, rfl, fun _ _ _ => rfl⟩ ?_
      rintro i e3 h3 hi ⟨rfl, hv, hz, hf3⟩
      simp -implicitDefEqProofs only [↓dn_den, ↓dn_loc, ↓dn_k, ↓dn_add, ↓dn_sub, ↓dn_mul, ↓dn_div, ↓dn_rem, ↓dn_bop, ↓dn_ladd, ↓dn_lsub, ↓dn_lmul, ↓dn_ldiv, ↓dn_lrem, ↓dn_land, ↓dn_l2i, ↓dn_neg, ↓dn_get, ↓dn_fix, ↓dn_ald, ↓dn_gld, ↓dn_yld, ↓dn_len, ↓dn_gln, ↓dn_cc, ↓dn_cb, ↓dn_and, ↓dn_or, ↓dn_not, ↓dn_cite, ↓dn_ec, ↓dn_ei, ↓dn_skip, ↓dn_seq, ↓dn_set, ↓dn_inc, ↓dn_putf, ↓dn_putz, ↓dn_ast, ↓dn_exp, ↓dn_if, ↓dn_ret, ↓dn_retz, ↓dn_retv, ↓dn_brk, ↓dn_cont, ↓dn_cs, ↓dn_sw, ↓dn_pop32, ↓dn_pop64, ↓dn_aop, ↓dn_call, ↓dn_max, ↓dn_min, ↓dn_acp, ↓dn_i2l, ↓dn_args0, ↓dn_args1, og_pad, og_ent, og_rlt, og_rle, og_rgt, og_rge, og_req, og_rne, og_padd, og_psub, og_pmul, List.getD_cons_zero, List.getD_cons_succ, List.set_cons_zero, List.set_cons_succ, List.length_cons, List.length_nil, List.cons_append, List.nil_append, List.replicate, List.append_nil, Nat.reduceAdd, Nat.reduceSub, Nat.reduceEqDiff, if_true, if_false, reduceIte, Int.reduceAdd, Int.reduceSub, Int.reduceMul, Int.reduceNeg, Int.reduceLT, Int.reduceLE, Int.cast_ofNat_Int, true_or, or_true, true_and, and_true, false_and, List.mem_cons, List.not_mem_nil, or_false, false_or, ne_eq, og_i32]
      refine gm hf3 ⟨by omega, fun hlt => ?_, fun hge => ?_⟩
      · have em : (i : Int).tmod 3 = (i : Int) % 3 := Int.tmod_eq_emod_of_nonneg (by omega)
        rw [em, tp hf3 (2 + i) (by omega) (by omega)]
        have fin : ∀ v : Int, v = (if (i : Int) % 3 = 2 ∧ X 2 (2 + i) = 255 then -1 else X 2 (2 + i)) → og_nx (3 * sNg A) (fun i e3 h3 => e3 = [1000, X 0 1, (i : Int)] ∧ (∀ k : Int, 0 ≤ k → k < i → h3 1037 (1 + k) = if k % 3 = 2 ∧ X 2 (2 + k) = 255 then -1 else X 2 (2 + k)) ∧ h3 1037 0 = h2 1037 0 ∧ (∀ i k, i ≠ 1037 → h3 i k = h2 i k)) i [1000, X 0 1, (i : Int) + 1] (og_up h3 1037 (1 + (i : Int)) v) := by
          intro v hv'
          refine og_nx_mk (by omega) ⟨by simp, fun k a b => ?_, by rw [og_up_k (by omega)]; exact hz, fun j k hj => by rw [og_up_i hj]; exact hf3 j k hj⟩
          by_cases e : k = i
          · subst e; rw [og_up_eq, hv']
          · rw [og_up_k (by omega)]; exact hv k a (by omega)
        repeat (refine And.intro (by omega) ?_)
        refine ⟨fun c1 => ⟨by omega, by omega, by omega, fun c2 => ⟨by omega, by omega, by omega, fin _ (by rw [if_pos ⟨c1, c2⟩])⟩, fun c2 => ⟨by omega, by omega, by omega, by omega, by omega, by omega, fin _ (by rw [if_neg (fun z => c2 z.2)])⟩⟩, fun c1 => ⟨by omega, by omega, by omega, by omega, by omega, by omega, fin _ (by rw [if_neg (fun z => c1 z.1)])⟩⟩
      · exact ⟨⟨_, rfl⟩, fun k a b => hv k a (by omega), hz, hf3⟩
    · rintro e3 h3 ⟨⟨c2, rfl⟩, hv3, hz3, hf3⟩
      refine ⟨fun e4 h4 => (∃ c2, e4 = [1000, X 0 1, c2]) ∧ (∀ k : Int, 0 ≤ k → k < 3 * A 0 1 → h4 1037 (19 + k) = X 2 (2 + 3 * A 0 0 + k)) ∧ (∀ k, k < 19 → h4 1037 k = h3 1037 k) ∧ (∀ i k, i ≠ 1037 → h4 i k = h2 i k), ?_, ?_⟩
      · simp -implicitDefEqProofs only [↓dn_den, ↓dn_loc, ↓dn_k, ↓dn_add, ↓dn_sub, ↓dn_mul, ↓dn_div, ↓dn_rem, ↓dn_bop, ↓dn_ladd, ↓dn_lsub, ↓dn_lmul, ↓dn_ldiv, ↓dn_lrem, ↓dn_land, ↓dn_l2i, ↓dn_neg, ↓dn_get, ↓dn_fix, ↓dn_ald, ↓dn_gld, ↓dn_yld, ↓dn_len, ↓dn_gln, ↓dn_cc, ↓dn_cb, ↓dn_and, ↓dn_or, ↓dn_not, ↓dn_cite, ↓dn_ec, ↓dn_ei, ↓dn_skip, ↓dn_seq, ↓dn_set, ↓dn_inc, ↓dn_putf, ↓dn_putz, ↓dn_ast, ↓dn_exp, ↓dn_if, ↓dn_ret, ↓dn_retz, ↓dn_retv, ↓dn_brk, ↓dn_cont, ↓dn_cs, ↓dn_sw, ↓dn_pop32, ↓dn_pop64, ↓dn_aop, ↓dn_call, ↓dn_max, ↓dn_min, ↓dn_acp, ↓dn_i2l, ↓dn_args0, ↓dn_args1, og_pad, og_ent, og_rlt, og_rle, og_rgt, og_rge, og_req, og_rne, og_padd, og_psub, og_pmul, List.getD_cons_zero, List.getD_cons_succ, List.set_cons_zero, List.set_cons_succ, List.length_cons, List.length_nil, List.cons_append, List.nil_append, List.replicate, List.append_nil, Nat.reduceAdd, Nat.reduceSub, Nat.reduceEqDiff, if_true, if_false, reduceIte, Int.reduceAdd, Int.reduceSub, Int.reduceMul, Int.reduceNeg, Int.reduceLT, Int.reduceLE, Int.cast_ofNat_Int, true_or, or_true, true_and, and_true, false_and, List.mem_cons, List.not_mem_nil, or_false, false_or, ne_eq]
        refine og_loop (3 * sNp A) (fun i e4 h4 => e4 = [1000, X 0 1, (i : Int)] ∧ (∀ k : Int, 0 ≤ k → k < i → h4 1037 (19 + k) = X 2 (2 + 3 * A 0 0 + k)) ∧ (∀ k, k < 19 → h4 1037 k = h3 1037 k) ∧ (∀ i k, i ≠ 1037 → h4 i k = h2 i k)) ⟨rfl, fun k a b => by omega, fun _ _ => rfl, hf3⟩ ?_
        rintro i e4 h4 hi ⟨rfl, hv, hz, hf4⟩
        simp -implicitDefEqProofs only [↓dn_den, ↓dn_loc, ↓dn_k, ↓dn_add, ↓dn_sub, ↓dn_mul, ↓dn_div, ↓dn_rem, ↓dn_bop, ↓dn_ladd, ↓dn_lsub, ↓dn_lmul, ↓dn_ldiv, ↓dn_lrem, ↓dn_land, ↓dn_l2i, ↓dn_neg, ↓dn_get, ↓dn_fix, ↓dn_ald, ↓dn_gld, ↓dn_yld, ↓dn_len, ↓dn_gln, ↓dn_cc, ↓dn_cb, ↓dn_and, ↓dn_or, ↓dn_not, ↓dn_cite, ↓dn_ec, ↓dn_ei, ↓dn_skip, ↓dn_seq, ↓dn_set, ↓dn_inc, ↓dn_putf, ↓dn_putz, ↓dn_ast, ↓dn_exp, ↓dn_if, ↓dn_ret, ↓dn_retz, ↓dn_retv, ↓dn_brk, ↓dn_cont, ↓dn_cs, ↓dn_sw, ↓dn_pop32, ↓dn_pop64, ↓dn_aop, ↓dn_call, ↓dn_max, ↓dn_min, ↓dn_acp, ↓dn_i2l, ↓dn_args0, ↓dn_args1, og_pad, og_ent, og_rlt, og_rle, og_rgt, og_rge, og_req, og_rne, og_padd, og_psub, og_pmul, List.getD_cons_zero, List.getD_cons_succ, List.set_cons_zero, List.set_cons_succ, List.length_cons, List.length_nil, List.cons_append, List.nil_append, List.replicate, List.append_nil, Nat.reduceAdd, Nat.reduceSub, Nat.reduceEqDiff, if_true, if_false, reduceIte, Int.reduceAdd, Int.reduceSub, Int.reduceMul, Int.reduceNeg, Int.reduceLT, Int.reduceLE, Int.cast_ofNat_Int, true_or, or_true, true_and, and_true, false_and, List.mem_cons, List.not_mem_nil, or_false, false_or, ne_eq, og_i32]
        refine pm hf4 ⟨by omega, fun hlt => ?_, fun hge => ?_⟩
        · refine ⟨by omega, gm hf4 ?_⟩
          rw [tp hf4 (2 + 3 * A 0 0 + i) (by omega) (by omega)]
          repeat (refine And.intro (by omega) ?_)
          refine og_nx_mk (by omega) ⟨by simp, fun k a b => ?_, fun k hk => by rw [og_up_k (by omega)]; exact hz k hk, fun j k hj => by rw [og_up_i hj]; exact hf4 j k hj⟩
          by_cases e : k = i
          · subst e; rw [og_up_eq]
          · rw [og_up_k (by omega)]; exact hv k a (by omega)
        · exact ⟨⟨_, rfl⟩, fun k a b => hv k a (by omega), hz, hf4⟩
      · rintro e4 h4 ⟨⟨c2', rfl⟩, hv4, hz4, hf4⟩
        simp -implicitDefEqProofs only [↓dn_den, ↓dn_loc, ↓dn_k, ↓dn_add, ↓dn_sub, ↓dn_mul, ↓dn_div, ↓dn_rem, ↓dn_bop, ↓dn_ladd, ↓dn_lsub, ↓dn_lmul, ↓dn_ldiv, ↓dn_lrem, ↓dn_land, ↓dn_l2i, ↓dn_neg, ↓dn_get, ↓dn_fix, ↓dn_ald, ↓dn_gld, ↓dn_yld, ↓dn_len, ↓dn_gln, ↓dn_cc, ↓dn_cb, ↓dn_and, ↓dn_or, ↓dn_not, ↓dn_cite, ↓dn_ec, ↓dn_ei, ↓dn_skip, ↓dn_seq, ↓dn_set, ↓dn_inc, ↓dn_putf, ↓dn_putz, ↓dn_ast, ↓dn_exp, ↓dn_if, ↓dn_ret, ↓dn_retz, ↓dn_retv, ↓dn_brk, ↓dn_cont, ↓dn_cs, ↓dn_sw, ↓dn_pop32, ↓dn_pop64, ↓dn_aop, ↓dn_call, ↓dn_max, ↓dn_min, ↓dn_acp, ↓dn_i2l, ↓dn_args0, ↓dn_args1, og_pad, og_ent, og_rlt, og_rle, og_rgt, og_rge, og_req, og_rne, og_padd, og_psub, og_pmul, List.getD_cons_zero, List.getD_cons_succ, List.set_cons_zero, List.set_cons_succ, List.length_cons, List.length_nil, List.cons_append, List.nil_append, List.replicate, List.append_nil, Nat.reduceAdd, Nat.reduceSub, Nat.reduceEqDiff, if_true, if_false, reduceIte, Int.reduceAdd, Int.reduceSub, Int.reduceMul, Int.reduceNeg, Int.reduceLT, Int.reduceLE, Int.cast_ofNat_Int, true_or, or_true, true_and, and_true, false_and, List.mem_cons, List.not_mem_nil, or_false, false_or, ne_eq]
        generalize hh5 : og_up (og_up h4 1037 43 0) 1000 65 0 = h5
        have f5 : ∀ i k, i ≠ 1037 → ¬ (i = 1000 ∧ k = 65) → h5 i k = h1 i k := fun i k a b => by
          have : h5 i k = h4 i k := by
            rw [← hh5]
            unfold og_up
            rw [if_neg b, if_neg (fun z => a z.1)]
          rw [this, hf4 i k a, f2 i k a]
        have c5 : ∀ k, k ≠ 43 → h5 1037 k = h4 1037 k := fun k hk => by rw [← hh5, og_up_i (by decide), og_up_k hk]
        have row : isRow (h5 1037) (onA A X) := by
          refine ⟨?_, fun k k0 k1 => ?_, fun k k0 k1 => ?_, ?_, fun k k0 k1 => ?_⟩
          · rw [c5 _ (by decide), hz4 _ (by decide), hz3, v2]; rfl
          · rw [onA_0.1] at k1
            have ec := onA_c (A := A) (X := X) (k := k)
            have t1 := hv3 (3 * k) (by omega) (by omega)
            have t2 := hv3 (3 * k + 1) (by omega) (by omega)
            have t3 := hv3 (3 * k + 2) (by omega) (by omega)
            rw [if_neg (by omega)] at t1 t2
            have a1 : 1 + (3 * k + 1) = 2 + 3 * k := by omega
            have a2 : 1 + (3 * k + 2) = 3 + 3 * k := by omega
            have a3 : 2 + (3 * k + 1) = 3 + 3 * k := by omega
            have a4 : 2 + (3 * k + 2) = 4 + 3 * k := by omega
            rw [a1, a3] at t2
            rw [a2, a4] at t3
            rw [c5 _ (by omega), c5 _ (by omega), c5 _ (by omega), hz4 _ (by omega), hz4 _ (by omega), hz4 _ (by omega), t1, t2, t3, ec.2.1, ec.2.2.1, ec.2.2.2.1]
            refine ⟨rfl, rfl, ?_⟩
            by_cases z : X 2 (4 + 3 * k) = 255
            · rw [if_pos ⟨by omega, z⟩, if_pos z]
            · rw [if_neg (fun y => z y.2), if_neg z]
          · rw [onA_0.2.1] at k1
            have ec := onA_c (A := A) (X := X) (k := k)
            have t1 := hv4 (3 * k) (by omega) (by omega)
            have t2 := hv4 (3 * k + 1) (by omega) (by omega)
            have t3 := hv4 (3 * k + 2) (by omega) (by omega)
            have a1 : 19 + (3 * k + 1) = 20 + 3 * k := by omega
            have a2 : 19 + (3 * k + 2) = 21 + 3 * k := by omega
            have a3 : 2 + 3 * A 0 0 + (3 * k + 1) = 3 + 3 * A 0 0 + 3 * k := by omega
            have a4 : 2 + 3 * A 0 0 + (3 * k + 2) = 4 + 3 * A 0 0 + 3 * k := by omega
            rw [a1, a3] at t2
            rw [a2, a4] at t3
            rw [c5 _ (by omega), c5 _ (by omega), c5 _ (by omega), t1, t2, t3, ec.2.2.2.2.2.1, ec.2.2.2.2.2.2.1, ec.2.2.2.2.2.2.2]
            exact ⟨rfl, rfl, rfl⟩
          · rw [← hh5, og_up_i (by decide), og_up_eq]; rfl
          · rw [onA_0.2.2.2] at k1; omega
        have pr := (isN_row hr2.1.1 hr2.1.2.1).2
        have par : parM h5 (onA A X) := by
          refine ⟨?_, ?_, fun k k0 k1 => ?_, fun k k0 k1 => ?_⟩
          · rw [f5 _ _ (by decide) (by omega)]; exact pr.1
          · rw [f5 _ _ (by decide) (by omega)]; exact pr.2.1
          · rw [f5 _ _ (by decide) (by omega)]; exact pr.2.2.1 k k0 k1
          · rw [f5 _ _ (by decide) (by omega)]; exact pr.2.2.2 k k0 k1
        have h66 := hr2.2.1.1
        have res := hK1 hb h5 ⟨⟨row_isN row par, by rw [f5 _ _ (by decide) (by omega)]; exact hr2.1.2.1, by unfold tmB; rw [f5 _ _ (by decide) (by omega)]; exact hr2.1.2.2⟩, ⟨⟨by rw [← hh5, og_up_eq]; rfl, by simp, by rw [f5 _ _ (by decide) (by omega)]; exact h66.2.2.1, by rw [f5 _ _ (by decide) (by omega)]; exact h66.2.2.2⟩, fun j hj => by simp at hj⟩, by rw [onA_0.1, onA_0.2.1]; exact restM_fr hr2.2.2.1 (fun i k hi => f5 i k (by omega) (by omega)), fun i k hi => (f5 i k (by omega) (by omega)).trans (hr2.2.2.2 i k hi)⟩
        first | exact res | exact ⟨by decide, by decide, res⟩
  · have hb := ite00 a
    rw [e5.1]
    repeat (refine And.intro (by omega) ?_)
    exact hK0 hb _ (relM_rf ho hr2)
end
end
