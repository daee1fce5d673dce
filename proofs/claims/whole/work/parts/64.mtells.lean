section
-- what would tell most: the reference
section
variable {h h0 : Hp} {A B : Yd} {P : Pr} {Sn : Int → Int} {R : Int} {K : Int → Hp → Prop}
theorem r_mostAlike {p : Int} {b m g : Nat} (hf : flOK h P A p 10) (hb : b < 1024) (hm : m < 30) (hg : g < sNg A) (hg6 : sNg A ≤ 6) (hK : K (max (sCnt (tFw P A p b m g) 10) (sBc b - sCnt (tFw P A p b m g) 10)) h) : m_Model_mostAlike [1000, (b : Int), (m : Int) + 1, (g : Int)] h K := by
  unfold m_Model_mostAlike
  simp -implicitDefEqProofs only [↓dn_den, ↓dn_loc, ↓dn_k, ↓dn_add, ↓dn_sub, ↓dn_mul, ↓dn_div, ↓dn_rem, ↓dn_bop, ↓dn_ladd, ↓dn_lsub, ↓dn_lmul, ↓dn_ldiv, ↓dn_lrem, ↓dn_land, ↓dn_l2i, ↓dn_neg, ↓dn_get, ↓dn_fix, ↓dn_ald, ↓dn_gld, ↓dn_yld, ↓dn_len, ↓dn_gln, ↓dn_cc, ↓dn_cb, ↓dn_and, ↓dn_or, ↓dn_not, ↓dn_cite, ↓dn_ec, ↓dn_ei, ↓dn_skip, ↓dn_seq, ↓dn_set, ↓dn_inc, ↓dn_putf, ↓dn_putz, ↓dn_ast, ↓dn_exp, ↓dn_if, ↓dn_ret, ↓dn_retz, ↓dn_retv, ↓dn_brk, ↓dn_cont, ↓dn_cs, ↓dn_sw, ↓dn_pop32, ↓dn_pop64, ↓dn_aop, ↓dn_call, ↓dn_max, ↓dn_min, ↓dn_acp, ↓dn_i2l, ↓dn_args0, ↓dn_args1, og_pad, og_ent, og_rlt, og_rle, og_rgt, og_rge, og_req, og_rne, og_padd, og_psub, og_pmul, List.getD_cons_zero, List.getD_cons_succ, List.set_cons_zero, List.set_cons_succ, List.length_cons, List.length_nil, List.cons_append, List.nil_append, List.replicate, List.append_nil, Nat.reduceAdd, Nat.reduceSub, Nat.reduceEqDiff, if_true, if_false, reduceIte, Int.reduceAdd, Int.reduceSub, Int.reduceMul, Int.reduceNeg, Int.reduceLT, Int.reduceLE, Int.cast_ofNat_Int, true_or, or_true, true_and, and_true, false_and, List.mem_cons, List.not_mem_nil, or_false, false_or, ne_eq]
  have bc := sCnt_le (fun k => b.testBit k.toNat) 10
  have fc := sCnt_le (tFw P A p b m g) 10
  refine ⟨fun e1 h1 => h1 = h ∧ ∃ c6, e1 = [1000, (b : Int), (m : Int) + 1, (g : Int), sCnt (tFw P A p b m g) 10, sBc b, c6], ?_, ?_⟩
  · simp -implicitDefEqProofs only [↓dn_den, ↓dn_loc, ↓dn_k, ↓dn_add, ↓dn_sub, ↓dn_mul, ↓dn_div, ↓dn_rem, ↓dn_bop, ↓dn_ladd, ↓dn_lsub, ↓dn_lmul, ↓dn_ldiv, ↓dn_lrem, ↓dn_land, ↓dn_l2i, ↓dn_neg, ↓dn_get, ↓dn_fix, ↓dn_ald, ↓dn_gld, ↓dn_yld, ↓dn_len, ↓dn_gln, ↓dn_cc, ↓dn_cb, ↓dn_and, ↓dn_or, ↓dn_not, ↓dn_cite, ↓dn_ec, ↓dn_ei, ↓dn_skip, ↓dn_seq, ↓dn_set, ↓dn_inc, ↓dn_putf, ↓dn_putz, ↓dn_ast, ↓dn_exp, ↓dn_if, ↓dn_ret, ↓dn_retz, ↓dn_retv, ↓dn_brk, ↓dn_cont, ↓dn_cs, ↓dn_sw, ↓dn_pop32, ↓dn_pop64, ↓dn_aop, ↓dn_call, ↓dn_max, ↓dn_min, ↓dn_acp, ↓dn_i2l, ↓dn_args0, ↓dn_args1, og_pad, og_ent, og_rlt, og_rle, og_rgt, og_rge, og_req, og_rne, og_padd, og_psub, og_pmul, List.getD_cons_zero, List.getD_cons_succ, List.set_cons_zero, List.set_cons_succ, List.length_cons, List.length_nil, List.cons_append, List.nil_append, List.replicate, List.append_nil, Nat.reduceAdd, Nat.reduceSub, Nat.reduceEqDiff, if_true, if_false, reduceIte, Int.reduceAdd, Int.reduceSub, Int.reduceMul, Int.reduceNeg, Int.reduceLT, Int.reduceLE, Int.cast_ofNat_Int, true_or, or_true, true_and, and_true, false_and, List.mem_cons, List.not_mem_nil, or_false, false_or, ne_eq]
    refine og_loop 10 (fun i e1 h1 => h1 = h ∧ e1 = [1000, (b : Int), (m : Int) + 1, (g : Int), sCnt (tFw P A p b m g) i, sCnt (fun k => b.testBit k.toNat) i, (i : Int)]) ⟨rfl, rfl⟩ ?_
    rintro i e1 h1 hi ⟨rfl, rfl⟩
    simp -implicitDefEqProofs only [↓dn_den, ↓dn_loc, ↓dn_k, ↓dn_add, ↓dn_sub, ↓dn_mul, ↓dn_div, ↓dn_rem, ↓dn_bop, ↓dn_ladd, ↓dn_lsub, ↓dn_lmul, ↓dn_ldiv, ↓dn_lrem, ↓dn_land, ↓dn_l2i, ↓dn_neg, ↓dn_get, ↓dn_fix, ↓dn_ald, ↓dn_gld, ↓dn_yld, ↓dn_len, ↓dn_gln, ↓dn_cc, ↓dn_cb, ↓dn_and, ↓dn_or, ↓dn_not, ↓dn_cite, ↓dn_ec, ↓dn_ei, ↓dn_skip, ↓dn_seq, ↓dn_set, ↓dn_inc, ↓dn_putf, ↓dn_putz, ↓dn_ast, ↓dn_exp, ↓dn_if, ↓dn_ret, ↓dn_retz, ↓dn_retv, ↓dn_brk, ↓dn_cont, ↓dn_cs, ↓dn_sw, ↓dn_pop32, ↓dn_pop64, ↓dn_aop, ↓dn_call, ↓dn_max, ↓dn_min, ↓dn_acp, ↓dn_i2l, ↓dn_args0, ↓dn_args1, og_pad, og_ent, og_rlt, og_rle, og_rgt, og_rge, og_req, og_rne, og_padd, og_psub, og_pmul, List.getD_cons_zero, List.getD_cons_succ, List.set_cons_zero, List.set_cons_succ, List.length_cons, List.length_nil, List.cons_append, List.nil_append, List.replicate, List.append_nil, Nat.reduceAdd, Nat.reduceSub, Nat.reduceEqDiff, if_true, if_false, reduceIte, Int.reduceAdd, Int.reduceSub, Int.reduceMul, Int.reduceNeg, Int.reduceLT, Int.reduceLE, Int.cast_ofNat_Int, true_or, or_true, true_and, and_true, false_and, List.mem_cons, List.not_mem_nil, or_false, false_or, ne_eq, og_i32]
    have bi := sCnt_le (fun k => b.testBit k.toNat) i
    have fi := sCnt_le (tFw P A p b m g) i
    refine ⟨fun hle => ?_, fun hgt => ?_⟩
    · have hfl := hf i (m + 1) (by omega) (by omega)
      have ec : 31 * (i : Int) + ((m + 1 : Nat) : Int) = 31 * (i : Int) + ((m : Int) + 1) := by omega
      rw [ec] at hfl
      rw [hfl, bt_and b hb i (by omega), bt_and _ (sSet_le (f := sFill (sIt P (sUp A 7 p (i : Int)) (m + 1))) (n := sNg A) (m := 10) (by omega) (by omega)) g (by omega), sSet_tb]
      have e1 : sCnt (tFw P A p b m g) (i + 1) = sCnt (tFw P A p b m g) i + (if b.testBit i = true ∧ sFill (sIt P (sUp A 7 p (i : Int)) (m + 1)) (g : Int) = true then 1 else 0) := by
        rw [sCnt_s]
        congr 1
        unfold tFw
        rw [Int.toNat_natCast]
        simp only [Bool.and_eq_true]
      have e2 : sCnt (fun k => b.testBit k.toNat) (i + 1) = sCnt (fun k => b.testBit k.toNat) i + (if b.testBit i = true then 1 else 0) := by
        rw [sCnt_s, Int.toNat_natCast]
      by_cases hbt : b.testBit i = true
      · rw [if_pos hbt]
        rw [if_pos hbt] at e2
        refine ⟨fun z => absurd z (by decide), fun _ => ⟨by omega, ?_⟩⟩
        repeat (refine And.intro (by omega) ?_)
        by_cases hff : sFill (sIt P (sUp A 7 p (i : Int)) (m + 1)) (g : Int) = true
        · rw [if_pos (by simp [hff, hg])]
          rw [if_pos ⟨hbt, hff⟩] at e1
          exact ⟨fun _ => ⟨by omega, by omega, og_nx_mk (by omega) ⟨rfl, by rw [e1, e2]; simp⟩⟩, fun z => absurd (by trivial) z⟩
        · rw [if_neg (by simp [hff])]
          rw [if_neg (fun z => hff z.2)] at e1
          exact ⟨fun z => absurd z (by decide), fun _ => ⟨by omega, og_nx_mk (by omega) ⟨rfl, by rw [e1, e2]; simp⟩⟩⟩
      · rw [if_neg hbt]
        rw [if_neg hbt] at e2
        rw [if_neg (fun z => hbt z.1)] at e1
        exact ⟨fun _ => ⟨by omega, og_nx_mk (by omega) ⟨rfl, by rw [e1, e2]; simp⟩⟩, fun z => absurd (by trivial) z⟩
    · have e : i = 10 := by omega
      subst e
      exact ⟨_, rfl⟩
  · rintro e1 h1 ⟨rfl, c6, rfl⟩
    simp -implicitDefEqProofs only [↓dn_den, ↓dn_loc, ↓dn_k, ↓dn_add, ↓dn_sub, ↓dn_mul, ↓dn_div, ↓dn_rem, ↓dn_bop, ↓dn_ladd, ↓dn_lsub, ↓dn_lmul, ↓dn_ldiv, ↓dn_lrem, ↓dn_land, ↓dn_l2i, ↓dn_neg, ↓dn_get, ↓dn_fix, ↓dn_ald, ↓dn_gld, ↓dn_yld, ↓dn_len, ↓dn_gln, ↓dn_cc, ↓dn_cb, ↓dn_and, ↓dn_or, ↓dn_not, ↓dn_cite, ↓dn_ec, ↓dn_ei, ↓dn_skip, ↓dn_seq, ↓dn_set, ↓dn_inc, ↓dn_putf, ↓dn_putz, ↓dn_ast, ↓dn_exp, ↓dn_if, ↓dn_ret, ↓dn_retz, ↓dn_retv, ↓dn_brk, ↓dn_cont, ↓dn_cs, ↓dn_sw, ↓dn_pop32, ↓dn_pop64, ↓dn_aop, ↓dn_call, ↓dn_max, ↓dn_min, ↓dn_acp, ↓dn_i2l, ↓dn_args0, ↓dn_args1, og_pad, og_ent, og_rlt, og_rle, og_rgt, og_rge, og_req, og_rne, og_padd, og_psub, og_pmul, List.getD_cons_zero, List.getD_cons_succ, List.set_cons_zero, List.set_cons_succ, List.length_cons, List.length_nil, List.cons_append, List.nil_append, List.replicate, List.append_nil, Nat.reduceAdd, Nat.reduceSub, Nat.reduceEqDiff, if_true, if_false, reduceIte, Int.reduceAdd, Int.reduceSub, Int.reduceMul, Int.reduceNeg, Int.reduceLT, Int.reduceLE, Int.cast_ofNat_Int, true_or, or_true, true_and, and_true, false_and, List.mem_cons, List.not_mem_nil, or_false, false_or, ne_eq, og_i32]
    have eb : sBc b = sCnt (fun k => b.testBit k.toNat) 10 := rfl
    rw [← eb] at bc
    refine ⟨by omega, fun z => ?_, fun z => ⟨by omega, ?_⟩⟩
    · rw [Int.max_eq_left (by omega)] at hK; exact hK
    · rw [Int.max_eq_right (by omega)] at hK; exact hK
theorem r_tells {p w M : Int} (hR : hasM h P) (hP : okQ P) (hn : isN h A) (ho : okY A) (hk : okK A) (h53 : h 1000 53 = 0) (hm0 : A 0 2 ≤ 999) (hM : M ≤ 10000000) (hb : tmB M h) (hS : isSm h Sn R) (hkS : okS A Sn R)
    (hK : ∀ h', frQ h h' → tmB (M + 2000) h' → K (sTells P A Sn R p w) h') : m_Model_tells [1000, p, w] h K := by
  have h6 := ho.1
  have hng : sNg A = (A 0 0).toNat := rfl
  have hll : sLst A = (min 30 (999 - A 0 2)).toNat := rfl
  have hb0 : tmB (M + 2000) h := ⟨hb.1, by have := hb.2; omega⟩
  unfold m_Model_tells
  simp -implicitDefEqProofs only [↓dn_den, ↓dn_loc, ↓dn_k, ↓dn_add, ↓dn_sub, ↓dn_mul, ↓dn_div, ↓dn_rem, ↓dn_bop, ↓dn_ladd, ↓dn_lsub, ↓dn_lmul, ↓dn_ldiv, ↓dn_lrem, ↓dn_land, ↓dn_l2i, ↓dn_neg, ↓dn_get, ↓dn_fix, ↓dn_ald, ↓dn_gld, ↓dn_yld, ↓dn_len, ↓dn_gln, ↓dn_cc, ↓dn_cb, ↓dn_and, ↓dn_or, ↓dn_not, ↓dn_cite, ↓dn_ec, ↓dn_ei, ↓dn_skip, ↓dn_seq, ↓dn_set, ↓dn_inc, ↓dn_putf, ↓dn_putz, ↓dn_ast, ↓dn_exp, ↓dn_if, ↓dn_ret, ↓dn_retz, ↓dn_retv, ↓dn_brk, ↓dn_cont, ↓dn_cs, ↓dn_sw, ↓dn_pop32, ↓dn_pop64, ↓dn_aop, ↓dn_call, ↓dn_max, ↓dn_min, ↓dn_acp, ↓dn_i2l, ↓dn_args0, ↓dn_args1, og_pad, og_ent, og_rlt, og_rle, og_rgt, og_rge, og_req, og_rne, og_padd, og_psub, og_pmul, List.getD_cons_zero, List.getD_cons_succ, List.set_cons_zero, List.set_cons_succ, List.length_cons, List.length_nil, List.cons_append, List.nil_append, List.replicate, List.append_nil, Nat.reduceAdd, Nat.reduceSub, Nat.reduceEqDiff, if_true, if_false, reduceIte, Int.reduceAdd, Int.reduceSub, Int.reduceMul, Int.reduceNeg, Int.reduceLT, Int.reduceLE, Int.cast_ofNat_Int, true_or, or_true, true_and, and_true, false_and, List.mem_cons, List.not_mem_nil, or_false, false_or, ne_eq, og_i32]
  unfold sTells at hK
  have no : ¬ (((0 ≤ p ∧ p < A 0 1) ∧ sLive A p = true) ∧ (0 ≤ w ∧ w ≤ 2) ∧ A 0 0 ≠ 0 ∧ A 0 2 < 999 ∧ sWl P A Sn R p ≠ 0) → ∀ h', frQ h h' → tmB (M + 2000) h' → K (-1) h' := fun z h' hQ hB => by rw [if_neg z] at hK; exact hK h' hQ hB
  refine r_isLiving hn.1 ho ⟨fun a => ?_, fun a => no (fun z => iteP0 a z.1) h frQ_rf hb0⟩
  have hl := iteP1 a
  refine r_isIn ⟨fun a2 => ?_, fun a2 => no (fun z => iteP0 a2 z.2.1) h frQ_rf hb0⟩
  have hw := iteP1 a2
  refine r_willSet hR hP hn ho hk h53 hm0 hM hb hS hkS hl.1 (fun h1 hQ1 hb1 hf1 => ?_)
  have hm1 : isM h1 A := isM_fr2 ho hn.1 (fun i k hi => hQ1 i k (by omega) (fun z => by omega) (fun z => by omega)) (fun k k0 k1 => hQ1 _ _ (by decide) (fun z => absurd z (by decide)) (fun _ => k0))
  have hbl : sWl P A Sn R p < 1024 := sSet_le (f := fun w => sAgr P A Sn R p w) (n := 10) (m := 10) (by omega) (by omega)
  generalize sWl P A Sn R p = b at *
  have hfin : ∀ (bm bg few : Int), (bm = -1 ∧ (sLst A = 0 ∨ sNg A = 0 ∨ b = 0)) ∨ (b ≠ 0 ∧ 0 < sLst A ∧ 0 < sNg A ∧ bm = ((tAll (sTv P A p b) (sNg A) (sLst A) / 6 + 1 : Nat) : Int) ∧ bg = ((tAll (sTv P A p b) (sNg A) (sLst A) % 6 : Nat) : Int) ∧ few = sTv P A p b (tAll (sTv P A p b) (sNg A) (sLst A))) → (bm = -1 → K (-1) h1) ∧ (¬ bm = -1 → (w = 0 → K bm h1) ∧ (¬ w = 0 → (w = 1 → K bg h1) ∧ (¬ w = 1 → K few h1))) := by
    rintro bm bg few (⟨e, hz⟩ | ⟨z1, z2, z3, rfl, rfl, rfl⟩)
    · exact ⟨fun _ => no (by omega) h1 hQ1 hb1, fun z => absurd e z⟩
    · rw [if_pos ⟨hl, hw, by omega, by omega, z1⟩] at hK
      have hK1 := hK h1 hQ1 hb1
      refine ⟨fun z => by omega, fun _ => ⟨fun e => ?_, fun n1 => ⟨fun e => ?_, fun n2 => ?_⟩⟩⟩
      · rw [if_pos e] at hK1; exact hK1
      · rw [if_neg n1, if_pos e] at hK1; exact hK1
      · rw [if_neg n1, if_neg n2] at hK1; exact hK1
  refine ⟨fun e2 h2 => h2 = h1 ∧ ∃ bm bg few c7 c8 c9, e2 = [1000, p, w, (b : Int), bm, bg, few, c7, c8, c9] ∧ ((bm = -1 ∧ (sLst A = 0 ∨ sNg A = 0 ∨ b = 0)) ∨ (b ≠ 0 ∧ 0 < sLst A ∧ 0 < sNg A ∧ bm = ((tAll (sTv P A p b) (sNg A) (sLst A) / 6 + 1 : Nat) : Int) ∧ bg = ((tAll (sTv P A p b) (sNg A) (sLst A) % 6 : Nat) : Int) ∧ few = sTv P A p b (tAll (sTv P A p b) (sNg A) (sLst A)))), ?_, ?_⟩
  · simp -implicitDefEqProofs only [↓dn_den, ↓dn_loc, ↓dn_k, ↓dn_add, ↓dn_sub, ↓dn_mul, ↓dn_div, ↓dn_rem, ↓dn_bop, ↓dn_ladd, ↓dn_lsub, ↓dn_lmul, ↓dn_ldiv, ↓dn_lrem, ↓dn_land, ↓dn_l2i, ↓dn_neg, ↓dn_get, ↓dn_fix, ↓dn_ald, ↓dn_gld, ↓dn_yld, ↓dn_len, ↓dn_gln, ↓dn_cc, ↓dn_cb, ↓dn_and, ↓dn_or, ↓dn_not, ↓dn_cite, ↓dn_ec, ↓dn_ei, ↓dn_skip, ↓dn_seq, ↓dn_set, ↓dn_inc, ↓dn_putf, ↓dn_putz, ↓dn_ast, ↓dn_exp, ↓dn_if, ↓dn_ret, ↓dn_retz, ↓dn_retv, ↓dn_brk, ↓dn_cont, ↓dn_cs, ↓dn_sw, ↓dn_pop32, ↓dn_pop64, ↓dn_aop, ↓dn_call, ↓dn_max, ↓dn_min, ↓dn_acp, ↓dn_i2l, ↓dn_args0, ↓dn_args1, og_pad, og_ent, og_rlt, og_rle, og_rgt, og_rge, og_req, og_rne, og_padd, og_psub, og_pmul, List.getD_cons_zero, List.getD_cons_succ, List.set_cons_zero, List.set_cons_succ, List.length_cons, List.length_nil, List.cons_append, List.nil_append, List.replicate, List.append_nil, Nat.reduceAdd, Nat.reduceSub, Nat.reduceEqDiff, if_true, if_false, reduceIte, Int.reduceAdd, Int.reduceSub, Int.reduceMul, Int.reduceNeg, Int.reduceLT, Int.reduceLE, Int.cast_ofNat_Int, true_or, or_true, true_and, and_true, false_and, List.mem_cons, List.not_mem_nil, or_false, false_or, ne_eq]
    refine og_loop (sLst A) (fun i e2 h2 => h2 = h1 ∧ ∃ bm bg few c8 c9, e2 = [1000, p, w, (b : Int), bm, bg, few, (i : Int) + 1, c8, c9] ∧ ((bm = -1 ∧ (i = 0 ∨ sNg A = 0)) ∨ (b ≠ 0 ∧ 0 < i ∧ 0 < sNg A ∧ bm = ((tAll (sTv P A p b) (sNg A) i / 6 + 1 : Nat) : Int) ∧ bg = ((tAll (sTv P A p b) (sNg A) i % 6 : Nat) : Int) ∧ few = sTv P A p b (tAll (sTv P A p b) (sNg A) i)))) ⟨rfl, -1, -1, 0, 0, 0, rfl, Or.inl ⟨rfl, Or.inl rfl⟩⟩ ?_
    rintro i e2 h2 hi ⟨rfl, bm, bg, few, c8, c9, rfl, hor⟩
    simp -implicitDefEqProofs only [↓dn_den, ↓dn_loc, ↓dn_k, ↓dn_add, ↓dn_sub, ↓dn_mul, ↓dn_div, ↓dn_rem, ↓dn_bop, ↓dn_ladd, ↓dn_lsub, ↓dn_lmul, ↓dn_ldiv, ↓dn_lrem, ↓dn_land, ↓dn_l2i, ↓dn_neg, ↓dn_get, ↓dn_fix, ↓dn_ald, ↓dn_gld, ↓dn_yld, ↓dn_len, ↓dn_gln, ↓dn_cc, ↓dn_cb, ↓dn_and, ↓dn_or, ↓dn_not, ↓dn_cite, ↓dn_ec, ↓dn_ei, ↓dn_skip, ↓dn_seq, ↓dn_set, ↓dn_inc, ↓dn_putf, ↓dn_putz, ↓dn_ast, ↓dn_exp, ↓dn_if, ↓dn_ret, ↓dn_retz, ↓dn_retv, ↓dn_brk, ↓dn_cont, ↓dn_cs, ↓dn_sw, ↓dn_pop32, ↓dn_pop64, ↓dn_aop, ↓dn_call, ↓dn_max, ↓dn_min, ↓dn_acp, ↓dn_i2l, ↓dn_args0, ↓dn_args1, og_pad, og_ent, og_rlt, og_rle, og_rgt, og_rge, og_req, og_rne, og_padd, og_psub, og_pmul, List.getD_cons_zero, List.getD_cons_succ, List.set_cons_zero, List.set_cons_succ, List.length_cons, List.length_nil, List.cons_append, List.nil_append, List.replicate, List.append_nil, Nat.reduceAdd, Nat.reduceSub, Nat.reduceEqDiff, if_true, if_false, reduceIte, Int.reduceAdd, Int.reduceSub, Int.reduceMul, Int.reduceNeg, Int.reduceLT, Int.reduceLE, Int.cast_ofNat_Int, true_or, or_true, true_and, and_true, false_and, List.mem_cons, List.not_mem_nil, or_false, false_or, ne_eq, og_i32]
    refine ⟨fun hbz => ?_, fun hbz => ?_⟩
    · refine r_isAhead hm1 (by omega) (by decide) (by decide) ⟨fun hx => ?_, fun hx => ?_⟩
      · have hx := iteP1 hx
        have hil : i < sLst A := by omega
        by_cases hG0 : sNg A = 0
        · refine og_loop 0 (fun q e3 h3 => h3 = h2 ∧ ∃ c9, e3 = [1000, p, w, (b : Int), bm, bg, few, (i : Int) + 1, (q : Int), c9]) ⟨rfl, c9, rfl⟩ ?_
          rintro q e3 h3 hq ⟨rfl, c9', rfl⟩
          simp -implicitDefEqProofs only [↓dn_den, ↓dn_loc, ↓dn_k, ↓dn_add, ↓dn_sub, ↓dn_mul, ↓dn_div, ↓dn_rem, ↓dn_bop, ↓dn_ladd, ↓dn_lsub, ↓dn_lmul, ↓dn_ldiv, ↓dn_lrem, ↓dn_land, ↓dn_l2i, ↓dn_neg, ↓dn_get, ↓dn_fix, ↓dn_ald, ↓dn_gld, ↓dn_yld, ↓dn_len, ↓dn_gln, ↓dn_cc, ↓dn_cb, ↓dn_and, ↓dn_or, ↓dn_not, ↓dn_cite, ↓dn_ec, ↓dn_ei, ↓dn_skip, ↓dn_seq, ↓dn_set, ↓dn_inc, ↓dn_putf, ↓dn_putz, ↓dn_ast, ↓dn_exp, ↓dn_if, ↓dn_ret, ↓dn_retz, ↓dn_retv, ↓dn_brk, ↓dn_cont, ↓dn_cs, ↓dn_sw, ↓dn_pop32, ↓dn_pop64, ↓dn_aop, ↓dn_call, ↓dn_max, ↓dn_min, ↓dn_acp, ↓dn_i2l, ↓dn_args0, ↓dn_args1, og_pad, og_ent, og_rlt, og_rle, og_rgt, og_rge, og_req, og_rne, og_padd, og_psub, og_pmul, List.getD_cons_zero, List.getD_cons_succ, List.set_cons_zero, List.set_cons_succ, List.length_cons, List.length_nil, List.cons_append, List.nil_append, List.replicate, List.append_nil, Nat.reduceAdd, Nat.reduceSub, Nat.reduceEqDiff, if_true, if_false, reduceIte, Int.reduceAdd, Int.reduceSub, Int.reduceMul, Int.reduceNeg, Int.reduceLT, Int.reduceLE, Int.cast_ofNat_Int, true_or, or_true, true_and, and_true, false_and, List.mem_cons, List.not_mem_nil, or_false, false_or, ne_eq, og_i32]
          refine r_graveMany hm1 ⟨fun hlt => by omega, fun _ => ⟨by omega, og_nx_mk hil ⟨rfl, bm, bg, few, _, _, by simp; exact ⟨rfl, rfl⟩, ?_⟩⟩⟩
          rcases hor with ⟨z1, z2⟩ | ⟨z0, z1, z2, -⟩
          · exact Or.inl ⟨z1, Or.inr hG0⟩
          · omega
        · refine og_loop (sNg A) (fun q e3 h3 => h3 = h2 ∧ ∃ bm bg few c9, e3 = [1000, p, w, (b : Int), bm, bg, few, (i : Int) + 1, (q : Int), c9] ∧ ((bm = -1 ∧ i = 0 ∧ q = 0) ∨ (¬ bm = -1 ∧ bm = ((tRow (sTv P A p b) i (tAll (sTv P A p b) (sNg A) i) q / 6 + 1 : Nat) : Int) ∧ bg = ((tRow (sTv P A p b) i (tAll (sTv P A p b) (sNg A) i) q % 6 : Nat) : Int) ∧ few = sTv P A p b (tRow (sTv P A p b) i (tAll (sTv P A p b) (sNg A) i) q)))) ⟨rfl, bm, bg, few, c9, rfl, ?_⟩ ?_
          · rcases hor with ⟨z1, z2⟩ | ⟨z0, z1, z2, z3, z4, z5⟩
            · exact Or.inl ⟨z1, by omega, rfl⟩
            · exact Or.inr ⟨by omega, z3, z4, z5⟩
          rintro q e3 h3 hq ⟨rfl, bm', bg', few', c9', rfl, hor3⟩
          simp -implicitDefEqProofs only [↓dn_den, ↓dn_loc, ↓dn_k, ↓dn_add, ↓dn_sub, ↓dn_mul, ↓dn_div, ↓dn_rem, ↓dn_bop, ↓dn_ladd, ↓dn_lsub, ↓dn_lmul, ↓dn_ldiv, ↓dn_lrem, ↓dn_land, ↓dn_l2i, ↓dn_neg, ↓dn_get, ↓dn_fix, ↓dn_ald, ↓dn_gld, ↓dn_yld, ↓dn_len, ↓dn_gln, ↓dn_cc, ↓dn_cb, ↓dn_and, ↓dn_or, ↓dn_not, ↓dn_cite, ↓dn_ec, ↓dn_ei, ↓dn_skip, ↓dn_seq, ↓dn_set, ↓dn_inc, ↓dn_putf, ↓dn_putz, ↓dn_ast, ↓dn_exp, ↓dn_if, ↓dn_ret, ↓dn_retz, ↓dn_retv, ↓dn_brk, ↓dn_cont, ↓dn_cs, ↓dn_sw, ↓dn_pop32, ↓dn_pop64, ↓dn_aop, ↓dn_call, ↓dn_max, ↓dn_min, ↓dn_acp, ↓dn_i2l, ↓dn_args0, ↓dn_args1, og_pad, og_ent, og_rlt, og_rle, og_rgt, og_rge, og_req, og_rne, og_padd, og_psub, og_pmul, List.getD_cons_zero, List.getD_cons_succ, List.set_cons_zero, List.set_cons_succ, List.length_cons, List.length_nil, List.cons_append, List.nil_append, List.replicate, List.append_nil, Nat.reduceAdd, Nat.reduceSub, Nat.reduceEqDiff, if_true, if_false, reduceIte, Int.reduceAdd, Int.reduceSub, Int.reduceMul, Int.reduceNeg, Int.reduceLT, Int.reduceLE, Int.cast_ofNat_Int, true_or, or_true, true_and, and_true, false_and, List.mem_cons, List.not_mem_nil, or_false, false_or, ne_eq, og_i32]
          refine r_graveMany hm1 ⟨fun hlt => ?_, fun hge => ?_⟩
          · refine r_mostAlike (m := i) (g := q) hf1 hbl (by omega) (by omega) (by omega) ?_
            have eV : max (sCnt (tFw P A p b i q) 10) (sBc b - sCnt (tFw P A p b i q) 10) = sTv P A p b (6 * i + q) := by
              unfold sTv tV
              have d1 : (6 * i + q) / 6 = i := by omega
              have d2 : (6 * i + q) % 6 = q := by omega
              rw [d1, d2]
            rw [eV]
            have d1 : (6 * i + q) / 6 = i := by omega
            have d2 : (6 * i + q) % 6 = q := by omega
            have fin : ∀ x y z t : Int, (¬ x = -1 ∧ x = ((tRow (sTv P A p b) i (tAll (sTv P A p b) (sNg A) i) (q + 1) / 6 + 1 : Nat) : Int) ∧ y = ((tRow (sTv P A p b) i (tAll (sTv P A p b) (sNg A) i) (q + 1) % 6 : Nat) : Int) ∧ z = sTv P A p b (tRow (sTv P A p b) i (tAll (sTv P A p b) (sNg A) i) (q + 1))) → og_nx (sNg A) (fun q e3 h4 => h4 = h3 ∧ ∃ bm bg few c9, e3 = [1000, p, w, (b : Int), bm, bg, few, (i : Int) + 1, (q : Int), c9] ∧ ((bm = -1 ∧ i = 0 ∧ q = 0) ∨ (¬ bm = -1 ∧ bm = ((tRow (sTv P A p b) i (tAll (sTv P A p b) (sNg A) i) q / 6 + 1 : Nat) : Int) ∧ bg = ((tRow (sTv P A p b) i (tAll (sTv P A p b) (sNg A) i) q % 6 : Nat) : Int) ∧ few = sTv P A p b (tRow (sTv P A p b) i (tAll (sTv P A p b) (sNg A) i) q)))) q [1000, p, w, (b : Int), x, y, z, (i : Int) + 1, (q : Int) + 1, t] h3 := by
              intro x y z t hh
              exact og_nx_mk (by omega) ⟨rfl, x, y, z, t, by simp, Or.inr hh⟩
            rcases hor3 with ⟨z1, z2, z3⟩ | ⟨z1, z2, z3, z4⟩
            · subst z1 z2 z3
              have e0 : tRow (sTv P A p b) 0 (tAll (sTv P A p b) (sNg A) 0) (0 + 1) = 0 := by
                rw [tRow_s]
                exact if_neg (by
                  show ¬ sTv P A p b (6 * 0 + 0) < sTv P A p b 0
                  exact Int.lt_irrefl _)
              refine ⟨fun z => absurd (by trivial) z, fun _ => ⟨by omega, fin _ _ _ _ ?_⟩⟩
              rw [e0]
              exact ⟨by omega, by simp, by simp, rfl⟩
            · refine ⟨fun _ => ⟨fun hge1 => ⟨by omega, fin _ _ _ _ ?_⟩, fun hlt1 => ⟨by omega, fin _ _ _ _ ?_⟩⟩, fun z => absurd z (by simpa using z1)⟩
              · rw [tRow_s, if_neg (by omega)]
                exact ⟨z1, z2, z3, z4⟩
              · rw [tRow_s, if_pos (by omega), d1, d2]
                exact ⟨by omega, by omega, rfl, rfl⟩
          · have e : q = sNg A := by omega
            subst e
            refine ⟨by omega, og_nx_mk hil ⟨rfl, bm', bg', few', _, _, by simp; exact ⟨rfl, rfl⟩, ?_⟩⟩
            rcases hor3 with ⟨z1, z2, z3⟩ | ⟨z1, z2, z3, z4⟩
            · omega
            · rw [tAll_s]
              exact Or.inr ⟨by omega, by omega, by omega, z2, z3, z4⟩
      · have hx := iteP0 hx
        refine ⟨rfl, bm, bg, few, _, _, _, rfl, ?_⟩
        have e : i = sLst A := by omega
        subst e
        rcases hor with ⟨z1, z2⟩ | ⟨z0, z1, z2, z3, z4, z5⟩
        · exact Or.inl ⟨z1, by omega⟩
        · exact Or.inr ⟨z0, z1, z2, z3, z4, z5⟩
    · have hb0' : b = 0 := by omega
      refine ⟨bm, bg, few, _, _, _, rfl, ?_⟩
      rcases hor with ⟨z1, z2⟩ | ⟨z0, z1, z2, z3, z4, z5⟩
      · exact Or.inl ⟨z1, Or.inr (Or.inr hb0')⟩
      · exact absurd hb0' z0
  · rintro e2 h2 ⟨rfl, bm, bg, few, c7, c8, c9, rfl, hor⟩
    simp -implicitDefEqProofs only [↓dn_den, ↓dn_loc, ↓dn_k, ↓dn_add, ↓dn_sub, ↓dn_mul, ↓dn_div, ↓dn_rem, ↓dn_bop, ↓dn_ladd, ↓dn_lsub, ↓dn_lmul, ↓dn_ldiv, ↓dn_lrem, ↓dn_land, ↓dn_l2i, ↓dn_neg, ↓dn_get, ↓dn_fix, ↓dn_ald, ↓dn_gld, ↓dn_yld, ↓dn_len, ↓dn_gln, ↓dn_cc, ↓dn_cb, ↓dn_and, ↓dn_or, ↓dn_not, ↓dn_cite, ↓dn_ec, ↓dn_ei, ↓dn_skip, ↓dn_seq, ↓dn_set, ↓dn_inc, ↓dn_putf, ↓dn_putz, ↓dn_ast, ↓dn_exp, ↓dn_if, ↓dn_ret, ↓dn_retz, ↓dn_retv, ↓dn_brk, ↓dn_cont, ↓dn_cs, ↓dn_sw, ↓dn_pop32, ↓dn_pop64, ↓dn_aop, ↓dn_call, ↓dn_max, ↓dn_min, ↓dn_acp, ↓dn_i2l, ↓dn_args0, ↓dn_args1, og_pad, og_ent, og_rlt, og_rle, og_rgt, og_rge, og_req, og_rne, og_padd, og_psub, og_pmul, List.getD_cons_zero, List.getD_cons_succ, List.set_cons_zero, List.set_cons_succ, List.length_cons, List.length_nil, List.cons_append, List.nil_append, List.replicate, List.append_nil, Nat.reduceAdd, Nat.reduceSub, Nat.reduceEqDiff, if_true, if_false, reduceIte, Int.reduceAdd, Int.reduceSub, Int.reduceMul, Int.reduceNeg, Int.reduceLT, Int.reduceLE, Int.cast_ofNat_Int, true_or, or_true, true_and, and_true, false_and, List.mem_cons, List.not_mem_nil, or_false, false_or, ne_eq]
    exact hfin bm bg few hor
end
end
