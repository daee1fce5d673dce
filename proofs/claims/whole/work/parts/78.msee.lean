section
-- what is seen, letters: the reference; letters of the class
section
variable {q h h0 h' : Hp} {A : Yd} {P : Pr} {U : List Yd} {X : Yd} {n M : Int} {K : Int → Hp → Prop}
theorem okX_tape0 (hx : okX n A P U X) : okX n A P U (sUp X 0 1 0) := by
  obtain ⟨a, b, c, d, e, g, i, j, k⟩ := hx
  refine ⟨a, b, c, ?_, ?_, ?_, ?_, ?_, ?_⟩
  · simp (disch := decide) only [sUp_row, sUp_c, sUp_k, sUp_eq]; exact d
  · simp (disch := decide) only [sUp_row, sUp_c, sUp_k, sUp_eq]; exact ⟨by omega, fun j a b => by omega⟩
  · simp (disch := decide) only [sUp_row, sUp_c, sUp_k, sUp_eq]; exact g
  · simp (disch := decide) only [sUp_row, sUp_c, sUp_k, sUp_eq]; exact i
  · simp (disch := decide) only [sUp_row, sUp_c, sUp_k, sUp_eq]; exact j
  · simp (disch := decide) only [sUp_row, sUp_c, sUp_k, sUp_eq]; exact k
theorem m_see (hn : n ≤ 1000000) (hr : relM q h M A P U X) (hx : okX n A P U X) (hK0 : sSeeB A X = false → ∀ h', relM q h' M A P U (sRf (sUp X 0 1 0) 1) → K (-1) h') (hK1 : sSeeB A X = true → ∀ h', relM q h' M A P U (sSee X) → K (X 0 1 / 3) h') : m_Model_see [1000] h K := by
  have h6 := hx.1.1.1
  have e0 := hr.2.2.1.2.2.1
  have x1 := hx.2.2.2.2.1
  have hr2 := relM_tape (v := 0) hx.1.1 x1.1.1 hr
  have hx2 := okX_tape0 hx
  have hm2 := hr2.1.1.1
  unfold m_Model_see
  simp -implicitDefEqProofs only [↓dn_den, ↓dn_loc, ↓dn_k, ↓dn_add, ↓dn_sub, ↓dn_mul, ↓dn_div, ↓dn_rem, ↓dn_bop, ↓dn_ladd, ↓dn_lsub, ↓dn_lmul, ↓dn_ldiv, ↓dn_lrem, ↓dn_land, ↓dn_l2i, ↓dn_neg, ↓dn_get, ↓dn_fix, ↓dn_ald, ↓dn_gld, ↓dn_yld, ↓dn_len, ↓dn_gln, ↓dn_cc, ↓dn_cb, ↓dn_and, ↓dn_or, ↓dn_not, ↓dn_cite, ↓dn_ec, ↓dn_ei, ↓dn_skip, ↓dn_seq, ↓dn_set, ↓dn_inc, ↓dn_putf, ↓dn_putz, ↓dn_ast, ↓dn_exp, ↓dn_if, ↓dn_ret, ↓dn_retz, ↓dn_retv, ↓dn_brk, ↓dn_cont, ↓dn_cs, ↓dn_sw, ↓dn_pop32, ↓dn_pop64, ↓dn_aop, ↓dn_call, ↓dn_max, ↓dn_min, ↓dn_acp, ↓dn_i2l, ↓dn_args0, ↓dn_args1, og_pad, og_ent, og_rlt, og_rle, og_rgt, og_rge, og_req, og_rne, og_padd, og_psub, og_pmul, List.getD_cons_zero, List.getD_cons_succ, List.set_cons_zero, List.set_cons_succ, List.length_cons, List.length_nil, List.cons_append, List.nil_append, List.replicate, List.append_nil, Nat.reduceAdd, Nat.reduceSub, Nat.reduceEqDiff, if_true, if_false, reduceIte, Int.reduceAdd, Int.reduceSub, Int.reduceMul, Int.reduceNeg, Int.reduceLT, Int.reduceLE, Int.cast_ofNat_Int, true_or, or_true, true_and, and_true, false_and, List.mem_cons, List.not_mem_nil, or_false, false_or, ne_eq, og_i32]
  rw [e0.1]
  have ed : (X 0 1).tdiv 3 = X 0 1 / 3 := Int.tdiv_eq_ediv_of_nonneg x1.1.1
  have em : (X 0 1).tmod 3 = X 0 1 % 3 := Int.tmod_eq_emod_of_nonneg x1.1.1
  rw [ed, em]
  generalize hcn : X 0 1 / 3 = cn
  have tp : ∀ k, 0 ≤ k → k < X 0 1 → og_up h 1000 1 0 1001 k = X 2 k := fun k a b => by rw [og_up_i (by decide)]; exact e0.2 k a b
  have hb0 : see0 X = decide (1 ≤ cn ∧ cn ≤ 16 ∧ X 0 1 % 3 = 0) := by
    unfold see0
    rw [hcn]
    simp only [Bool.decide_and, Bool.and_assoc]
  have hsb : sSeeB A X = (see0 X && sAll (seeF A X) cn.toNat) := by unfold sSeeB; rw [hcn]
  repeat (refine And.intro (by omega) ?_)
  refine (fun (tail : ∀ (e1 : List Int) (h1 : Hp), (h1 = og_up h 1000 1 0 ∧ ∃ c3, e1 = [1000, X 0 1, (if sSeeB A X = true then 1 else 0), c3]) → _) (y1 : see0 X = true → _) (y0 : see0 X = false → _) => ⟨fun a => ⟨by decide, fun c => ⟨by decide, by omega, fun b => ⟨_, y1 (by rw [hb0]; exact decide_eq_true ⟨by omega, b, c⟩), tail⟩, fun b => ⟨_, y0 (by rw [hb0]; exact decide_eq_false (fun z => b z.2.1)), tail⟩⟩, fun c => ⟨_, y0 (by rw [hb0]; exact decide_eq_false (fun z => c z.2.2)), tail⟩⟩, fun a => ⟨_, y0 (by rw [hb0]; exact decide_eq_false (fun z => by omega)), tail⟩⟩) ?_ ?_ ?_
  · rintro e1 h1 ⟨rfl, c3, rfl⟩
    simp -implicitDefEqProofs only [↓dn_den, ↓dn_loc, ↓dn_k, ↓dn_add, ↓dn_sub, ↓dn_mul, ↓dn_div, ↓dn_rem, ↓dn_bop, ↓dn_ladd, ↓dn_lsub, ↓dn_lmul, ↓dn_ldiv, ↓dn_lrem, ↓dn_land, ↓dn_l2i, ↓dn_neg, ↓dn_get, ↓dn_fix, ↓dn_ald, ↓dn_gld, ↓dn_yld, ↓dn_len, ↓dn_gln, ↓dn_cc, ↓dn_cb, ↓dn_and, ↓dn_or, ↓dn_not, ↓dn_cite, ↓dn_ec, ↓dn_ei, ↓dn_skip, ↓dn_seq, ↓dn_set, ↓dn_inc, ↓dn_putf, ↓dn_putz, ↓dn_ast, ↓dn_exp, ↓dn_if, ↓dn_ret, ↓dn_retz, ↓dn_retv, ↓dn_brk, ↓dn_cont, ↓dn_cs, ↓dn_sw, ↓dn_pop32, ↓dn_pop64, ↓dn_aop, ↓dn_call, ↓dn_max, ↓dn_min, ↓dn_acp, ↓dn_i2l, ↓dn_args0, ↓dn_args1, og_pad, og_ent, og_rlt, og_rle, og_rgt, og_rge, og_req, og_rne, og_padd, og_psub, og_pmul, List.getD_cons_zero, List.getD_cons_succ, List.set_cons_zero, List.set_cons_succ, List.length_cons, List.length_nil, List.cons_append, List.nil_append, List.replicate, List.append_nil, Nat.reduceAdd, Nat.reduceSub, Nat.reduceEqDiff, if_true, if_false, reduceIte, Int.reduceAdd, Int.reduceSub, Int.reduceMul, Int.reduceNeg, Int.reduceLT, Int.reduceLE, Int.cast_ofNat_Int, true_or, or_true, true_and, and_true, false_and, List.mem_cons, List.not_mem_nil, or_false, false_or, ne_eq, og_i32]
    by_cases hs : sSeeB A X = true
    · rw [if_pos hs]
      have hs' := hs
      rw [hsb, Bool.and_eq_true, hb0, decide_eq_true_eq] at hs'
      have e3 : 3 * cn = X 0 1 := by omega
      refine ⟨fun _ => ?_, fun z => absurd z (by decide)⟩
      refine ⟨fun e2 h2 => (∃ c2 c3, e2 = [1000, X 0 1, c2, c3]) ∧ (∀ j, 0 ≤ j → j < X 0 1 → h2 1045 j = X 2 j) ∧ (∀ i k, i ≠ 1045 → h2 i k = og_up h 1000 1 0 i k), ?_, ?_⟩
      · simp -implicitDefEqProofs only [↓dn_den, ↓dn_loc, ↓dn_k, ↓dn_add, ↓dn_sub, ↓dn_mul, ↓dn_div, ↓dn_rem, ↓dn_bop, ↓dn_ladd, ↓dn_lsub, ↓dn_lmul, ↓dn_ldiv, ↓dn_lrem, ↓dn_land, ↓dn_l2i, ↓dn_neg, ↓dn_get, ↓dn_fix, ↓dn_ald, ↓dn_gld, ↓dn_yld, ↓dn_len, ↓dn_gln, ↓dn_cc, ↓dn_cb, ↓dn_and, ↓dn_or, ↓dn_not, ↓dn_cite, ↓dn_ec, ↓dn_ei, ↓dn_skip, ↓dn_seq, ↓dn_set, ↓dn_inc, ↓dn_putf, ↓dn_putz, ↓dn_ast, ↓dn_exp, ↓dn_if, ↓dn_ret, ↓dn_retz, ↓dn_retv, ↓dn_brk, ↓dn_cont, ↓dn_cs, ↓dn_sw, ↓dn_pop32, ↓dn_pop64, ↓dn_aop, ↓dn_call, ↓dn_max, ↓dn_min, ↓dn_acp, ↓dn_i2l, ↓dn_args0, ↓dn_args1, og_pad, og_ent, og_rlt, og_rle, og_rgt, og_rge, og_req, og_rne, og_padd, og_psub, og_pmul, List.getD_cons_zero, List.getD_cons_succ, List.set_cons_zero, List.set_cons_succ, List.length_cons, List.length_nil, List.cons_append, List.nil_append, List.replicate, List.append_nil, Nat.reduceAdd, Nat.reduceSub, Nat.reduceEqDiff, if_true, if_false, reduceIte, Int.reduceAdd, Int.reduceSub, Int.reduceMul, Int.reduceNeg, Int.reduceLT, Int.reduceLE, Int.cast_ofNat_Int, true_or, or_true, true_and, and_true, false_and, List.mem_cons, List.not_mem_nil, or_false, false_or, ne_eq]
        refine og_loop (X 0 1).toNat (fun i e2 h2 => (∃ c2, e2 = [1000, X 0 1, c2, (i : Int)]) ∧ (∀ j : Int, 0 ≤ j → j < i → h2 1045 j = X 2 j) ∧ (∀ i k, i ≠ 1045 → h2 i k = og_up h 1000 1 0 i k)) ⟨⟨_, rfl⟩, fun j a b => by omega, fun _ _ _ => rfl⟩ ?_
        rintro i e2 h2 hi ⟨⟨c2, rfl⟩, hv, hf⟩
        simp -implicitDefEqProofs only [↓dn_den, ↓dn_loc, ↓dn_k, ↓dn_add, ↓dn_sub, ↓dn_mul, ↓dn_div, ↓dn_rem, ↓dn_bop, ↓dn_ladd, ↓dn_lsub, ↓dn_lmul, ↓dn_ldiv, ↓dn_lrem, ↓dn_land, ↓dn_l2i, ↓dn_neg, ↓dn_get, ↓dn_fix, ↓dn_ald, ↓dn_gld, ↓dn_yld, ↓dn_len, ↓dn_gln, ↓dn_cc, ↓dn_cb, ↓dn_and, ↓dn_or, ↓dn_not, ↓dn_cite, ↓dn_ec, ↓dn_ei, ↓dn_skip, ↓dn_seq, ↓dn_set, ↓dn_inc, ↓dn_putf, ↓dn_putz, ↓dn_ast, ↓dn_exp, ↓dn_if, ↓dn_ret, ↓dn_retz, ↓dn_retv, ↓dn_brk, ↓dn_cont, ↓dn_cs, ↓dn_sw, ↓dn_pop32, ↓dn_pop64, ↓dn_aop, ↓dn_call, ↓dn_max, ↓dn_min, ↓dn_acp, ↓dn_i2l, ↓dn_args0, ↓dn_args1, og_pad, og_ent, og_rlt, og_rle, og_rgt, og_rge, og_req, og_rne, og_padd, og_psub, og_pmul, List.getD_cons_zero, List.getD_cons_succ, List.set_cons_zero, List.set_cons_succ, List.length_cons, List.length_nil, List.cons_append, List.nil_append, List.replicate, List.append_nil, Nat.reduceAdd, Nat.reduceSub, Nat.reduceEqDiff, if_true, if_false, reduceIte, Int.reduceAdd, Int.reduceSub, Int.reduceMul, Int.reduceNeg, Int.reduceLT, Int.reduceLE, Int.cast_ofNat_Int, true_or, or_true, true_and, and_true, false_and, List.mem_cons, List.not_mem_nil, or_false, false_or, ne_eq, og_i32]
        refine ⟨fun hlt => ?_, fun hge => ?_⟩
        · rw [hf 1001 i (by decide), tp i (by omega) hlt]
          repeat (refine And.intro (by omega) ?_)
          refine og_nx_mk (by omega) ⟨⟨c2, by simp⟩, fun j a b => ?_, fun j k hj => by rw [og_up_i hj]; exact hf j k hj⟩
          by_cases e : j = i
          · subst e; rw [og_up_eq]
          · rw [og_up_k e]; exact hv j a (by omega)
        · exact ⟨⟨_, _, rfl⟩, fun j a b => hv j a (by omega), hf⟩
      · rintro e2 h2 ⟨⟨c2, c3', rfl⟩, hv, hf⟩
        simp -implicitDefEqProofs only [↓dn_den, ↓dn_loc, ↓dn_k, ↓dn_add, ↓dn_sub, ↓dn_mul, ↓dn_div, ↓dn_rem, ↓dn_bop, ↓dn_ladd, ↓dn_lsub, ↓dn_lmul, ↓dn_ldiv, ↓dn_lrem, ↓dn_land, ↓dn_l2i, ↓dn_neg, ↓dn_get, ↓dn_fix, ↓dn_ald, ↓dn_gld, ↓dn_yld, ↓dn_len, ↓dn_gln, ↓dn_cc, ↓dn_cb, ↓dn_and, ↓dn_or, ↓dn_not, ↓dn_cite, ↓dn_ec, ↓dn_ei, ↓dn_skip, ↓dn_seq, ↓dn_set, ↓dn_inc, ↓dn_putf, ↓dn_putz, ↓dn_ast, ↓dn_exp, ↓dn_if, ↓dn_ret, ↓dn_retz, ↓dn_retv, ↓dn_brk, ↓dn_cont, ↓dn_cs, ↓dn_sw, ↓dn_pop32, ↓dn_pop64, ↓dn_aop, ↓dn_call, ↓dn_max, ↓dn_min, ↓dn_acp, ↓dn_i2l, ↓dn_args0, ↓dn_args1, og_pad, og_ent, og_rlt, og_rle, og_rgt, og_rge, og_req, og_rne, og_padd, og_psub, og_pmul, List.getD_cons_zero, List.getD_cons_succ, List.set_cons_zero, List.set_cons_succ, List.length_cons, List.length_nil, List.cons_append, List.nil_append, List.replicate, List.append_nil, Nat.reduceAdd, Nat.reduceSub, Nat.reduceEqDiff, if_true, if_false, reduceIte, Int.reduceAdd, Int.reduceSub, Int.reduceMul, Int.reduceNeg, Int.reduceLT, Int.reduceLE, Int.cast_ofNat_Int, true_or, or_true, true_and, and_true, false_and, List.mem_cons, List.not_mem_nil, or_false, false_or, ne_eq, og_i32]
        rw [ed, hcn, og_up_eq]
        repeat (refine And.intro (by omega) ?_)
        rw [hcn] at hK1
        obtain ⟨⟨y, z1, t⟩, p, r, f⟩ := hr
        have hf2 : ∀ i k, ¬ (i = 1045 ∨ (i = 1000 ∧ (k = 1 ∨ k = 61))) → og_up h2 1000 61 cn i k = h i k := fun i k hi => by
          have e5 : og_up h2 1000 61 cn i k = h2 i k := by unfold og_up; exact if_neg (by omega)
          have e6 : og_up h 1000 1 0 i k = h i k := by unfold og_up; exact if_neg (by omega)
          rw [e5, hf i k (by omega), e6]
        have z' : og_up h2 1000 61 cn 1000 53 = 0 := (hf2 _ _ (by omega)).trans z1
        refine hK1 hs _ ⟨⟨isN_fr y hx.1.1 z1 z' (fun i k hi => hf2 i k (by omega)), z', by unfold tmB; rw [hf2 _ _ (by omega)]; exact t⟩, pastM_fr p (fun i k hi => hf2 i k (by omega)), ?_, fun i k hi => (hf2 i k (by omega)).trans (f i k hi)⟩
        refine restM_new r (fun i k hi => hf2 i k (by omega)) (fun j => by rw [sSee_row (by decide) (by decide)]) ?_ ?_ ?_ ?_ ?_
        · rw [sSee_1, sSee_00, hcn]
          refine ⟨by rw [og_up_eq], fun j a b => ?_⟩
          rw [og_up_i (by decide)]
          exact hv j a (by omega)
        · rw [sSee_01, og_up_k (by decide), hf _ _ (by decide), og_up_eq]
          exact ⟨rfl, fun j a b => by omega⟩
        · intro k a b; rw [sSee_row (by decide) (by decide), hf2 _ _ (by omega)]; exact r.2.2.2.1 k a b
        · rw [sSee_0 (by decide) (by decide), sSee_0 (by decide) (by decide), sSee_0 (by decide) (by decide), hf2 _ _ (by omega), hf2 _ _ (by omega), hf2 _ _ (by omega)]; exact r.2.2.2.2.1
        · rw [sSee_row (c := 4) (by decide) (by decide), sSee_0 (by decide) (by decide)]; exact ⟨by rw [hf2 _ _ (by omega)]; exact r.2.2.2.2.2.1.1, fun j a b => by rw [hf2 _ _ (by omega)]; exact r.2.2.2.2.2.1.2 j a b⟩
    · rw [if_neg hs]
      exact ⟨fun z => absurd (by trivial) z, fun _ => m_refuses (by decide) hn hr2 hx2 (hK0 (by simpa using hs))⟩
  · intro h0
    have h0' := h0
    rw [hb0, decide_eq_true_eq] at h0'
    simp -implicitDefEqProofs only [↓dn_den, ↓dn_loc, ↓dn_k, ↓dn_add, ↓dn_sub, ↓dn_mul, ↓dn_div, ↓dn_rem, ↓dn_bop, ↓dn_ladd, ↓dn_lsub, ↓dn_lmul, ↓dn_ldiv, ↓dn_lrem, ↓dn_land, ↓dn_l2i, ↓dn_neg, ↓dn_get, ↓dn_fix, ↓dn_ald, ↓dn_gld, ↓dn_yld, ↓dn_len, ↓dn_gln, ↓dn_cc, ↓dn_cb, ↓dn_and, ↓dn_or, ↓dn_not, ↓dn_cite, ↓dn_ec, ↓dn_ei, ↓dn_skip, ↓dn_seq, ↓dn_set, ↓dn_inc, ↓dn_putf, ↓dn_putz, ↓dn_ast, ↓dn_exp, ↓dn_if, ↓dn_ret, ↓dn_retz, ↓dn_retv, ↓dn_brk, ↓dn_cont, ↓dn_cs, ↓dn_sw, ↓dn_pop32, ↓dn_pop64, ↓dn_aop, ↓dn_call, ↓dn_max, ↓dn_min, ↓dn_acp, ↓dn_i2l, ↓dn_args0, ↓dn_args1, og_pad, og_ent, og_rlt, og_rle, og_rgt, og_rge, og_req, og_rne, og_padd, og_psub, og_pmul, List.getD_cons_zero, List.getD_cons_succ, List.set_cons_zero, List.set_cons_succ, List.length_cons, List.length_nil, List.cons_append, List.nil_append, List.replicate, List.append_nil, Nat.reduceAdd, Nat.reduceSub, Nat.reduceEqDiff, if_true, if_false, reduceIte, Int.reduceAdd, Int.reduceSub, Int.reduceMul, Int.reduceNeg, Int.reduceLT, Int.reduceLE, Int.cast_ofNat_Int, true_or, or_true, true_and, and_true, false_and, List.mem_cons, List.not_mem_nil, or_false, false_or, ne_eq]
    refine og_loop cn.toNat (fun i e1 h1 => h1 = og_up h 1000 1 0 ∧ e1 = [1000, X 0 1, (if sAll (seeF A X) i = true then 1 else 0), 3 * (i : Int)]) ⟨rfl, rfl⟩ ?_
    rintro i e1 h1 hi ⟨rfl, rfl⟩
    simp -implicitDefEqProofs only [↓dn_den, ↓dn_loc, ↓dn_k, ↓dn_add, ↓dn_sub, ↓dn_mul, ↓dn_div, ↓dn_rem, ↓dn_bop, ↓dn_ladd, ↓dn_lsub, ↓dn_lmul, ↓dn_ldiv, ↓dn_lrem, ↓dn_land, ↓dn_l2i, ↓dn_neg, ↓dn_get, ↓dn_fix, ↓dn_ald, ↓dn_gld, ↓dn_yld, ↓dn_len, ↓dn_gln, ↓dn_cc, ↓dn_cb, ↓dn_and, ↓dn_or, ↓dn_not, ↓dn_cite, ↓dn_ec, ↓dn_ei, ↓dn_skip, ↓dn_seq, ↓dn_set, ↓dn_inc, ↓dn_putf, ↓dn_putz, ↓dn_ast, ↓dn_exp, ↓dn_if, ↓dn_ret, ↓dn_retz, ↓dn_retv, ↓dn_brk, ↓dn_cont, ↓dn_cs, ↓dn_sw, ↓dn_pop32, ↓dn_pop64, ↓dn_aop, ↓dn_call, ↓dn_max, ↓dn_min, ↓dn_acp, ↓dn_i2l, ↓dn_args0, ↓dn_args1, og_pad, og_ent, og_rlt, og_rle, og_rgt, og_rge, og_req, og_rne, og_padd, og_psub, og_pmul, List.getD_cons_zero, List.getD_cons_succ, List.set_cons_zero, List.set_cons_succ, List.length_cons, List.length_nil, List.cons_append, List.nil_append, List.replicate, List.append_nil, Nat.reduceAdd, Nat.reduceSub, Nat.reduceEqDiff, if_true, if_false, reduceIte, Int.reduceAdd, Int.reduceSub, Int.reduceMul, Int.reduceNeg, Int.reduceLT, Int.reduceLE, Int.cast_ofNat_Int, true_or, or_true, true_and, and_true, false_and, List.mem_cons, List.not_mem_nil, or_false, false_or, ne_eq, og_i32]
    have fall : ∀ i : Nat, i ≤ cn.toNat → sAll (seeF A X) i = false → sSeeB A X = false := by
      intro i hi hf
      rw [hsb]
      by_cases hq : sAll (seeF A X) cn.toNat = true
      · have : sAll (seeF A X) i = true := (sAll_iff _).mpr (fun m hm => (sAll_iff _).mp hq m (by omega))
        rw [hf] at this; exact absurd this (by decide)
      · simp [hq]
    refine ⟨fun hlt => ?_, fun hge => ?_⟩
    · by_cases hq : sAll (seeF A X) i = true
      · rw [if_pos hq]
        refine ⟨fun _ => ?_, fun z => absurd z (by decide)⟩
        have fin : ∀ v : Int, v = (if sAll (seeF A X) (i + 1) = true then 1 else 0) → (-2147483648 ≤ 3 * (i : Int) + 3 ∧ 3 * (i : Int) + 3 ≤ 2147483647) ∧ og_nx cn.toNat (fun i e1 h2 => h2 = og_up h 1000 1 0 ∧ e1 = [1000, X 0 1, (if sAll (seeF A X) i = true then 1 else 0), 3 * (i : Int)]) i [1000, X 0 1, v, 3 * (i : Int) + 3] (og_up h 1000 1 0) := fun v hv => ⟨by omega, og_nx_mk (by omega) ⟨rfl, by rw [hv]; simp; omega⟩⟩
        have sf : seeF A X i = true → (1 : Int) = (if sAll (seeF A X) (i + 1) = true then 1 else 0) := fun z => by rw [sAll_s, hq, z]; rfl
        have nf : seeF A X i = false → (0 : Int) = (if sAll (seeF A X) (i + 1) = true then 1 else 0) := fun z => by rw [sAll_s, hq, z]; rfl
        rw [tp (3 * i) (by omega) (by omega), tp (3 * i + 1) (by omega) (by omega)]
        repeat (refine And.intro (by omega) ?_)
        refine ⟨fun a1 => ?_, fun a1 => fin _ (nf (by unfold seeF; simp [a1]))⟩
        refine ⟨by omega, by omega, by omega, ?_⟩
        refine r_isGrave hm2 hx.1.1 ⟨fun a2 => ?_, fun a2 => fin _ (nf (by unfold seeF; simp only [decide_eq_false (iteP0 a2)]; simp))⟩
        have a2 := iteP1 a2
        rw [tp (3 * i + 2) (by omega) (by omega)]
        repeat (refine And.intro (by omega) ?_)
        refine ⟨fun a3 => fin _ (sf (by unfold seeF; simp [a1, a2, a3])), fun a3 => fin _ (nf (by unfold seeF; simp [a3]))⟩
      · rw [if_neg hq]
        exact ⟨fun z => absurd (by trivial) z, fun _ => ⟨_, by rw [if_neg (by rw [fall i hi (by simpa using hq)]; decide)]⟩⟩
    · have e : i = cn.toNat := by omega
      subst e
      exact ⟨3 * (cn.toNat : Int), by rw [hsb, h0, Bool.true_and]⟩
  · intro h0
    simp -implicitDefEqProofs only [↓dn_den, ↓dn_loc, ↓dn_k, ↓dn_add, ↓dn_sub, ↓dn_mul, ↓dn_div, ↓dn_rem, ↓dn_bop, ↓dn_ladd, ↓dn_lsub, ↓dn_lmul, ↓dn_ldiv, ↓dn_lrem, ↓dn_land, ↓dn_l2i, ↓dn_neg, ↓dn_get, ↓dn_fix, ↓dn_ald, ↓dn_gld, ↓dn_yld, ↓dn_len, ↓dn_gln, ↓dn_cc, ↓dn_cb, ↓dn_and, ↓dn_or, ↓dn_not, ↓dn_cite, ↓dn_ec, ↓dn_ei, ↓dn_skip, ↓dn_seq, ↓dn_set, ↓dn_inc, ↓dn_putf, ↓dn_putz, ↓dn_ast, ↓dn_exp, ↓dn_if, ↓dn_ret, ↓dn_retz, ↓dn_retv, ↓dn_brk, ↓dn_cont, ↓dn_cs, ↓dn_sw, ↓dn_pop32, ↓dn_pop64, ↓dn_aop, ↓dn_call, ↓dn_max, ↓dn_min, ↓dn_acp, ↓dn_i2l, ↓dn_args0, ↓dn_args1, og_pad, og_ent, og_rlt, og_rle, og_rgt, og_rge, og_req, og_rne, og_padd, og_psub, og_pmul, List.getD_cons_zero, List.getD_cons_succ, List.set_cons_zero, List.set_cons_succ, List.length_cons, List.length_nil, List.cons_append, List.nil_append, List.replicate, List.append_nil, Nat.reduceAdd, Nat.reduceSub, Nat.reduceEqDiff, if_true, if_false, reduceIte, Int.reduceAdd, Int.reduceSub, Int.reduceMul, Int.reduceNeg, Int.reduceLT, Int.reduceLE, Int.cast_ofNat_Int, true_or, or_true, true_and, and_true, false_and, List.mem_cons, List.not_mem_nil, or_false, false_or, ne_eq]
    refine og_loop 0 (fun i e1 h1 => h1 = og_up h 1000 1 0 ∧ e1 = [1000, X 0 1, 0, 0]) ⟨rfl, rfl⟩ ?_
    rintro i e1 h1 hi ⟨rfl, rfl⟩
    simp -implicitDefEqProofs only [↓dn_den, ↓dn_loc, ↓dn_k, ↓dn_add, ↓dn_sub, ↓dn_mul, ↓dn_div, ↓dn_rem, ↓dn_bop, ↓dn_ladd, ↓dn_lsub, ↓dn_lmul, ↓dn_ldiv, ↓dn_lrem, ↓dn_land, ↓dn_l2i, ↓dn_neg, ↓dn_get, ↓dn_fix, ↓dn_ald, ↓dn_gld, ↓dn_yld, ↓dn_len, ↓dn_gln, ↓dn_cc, ↓dn_cb, ↓dn_and, ↓dn_or, ↓dn_not, ↓dn_cite, ↓dn_ec, ↓dn_ei, ↓dn_skip, ↓dn_seq, ↓dn_set, ↓dn_inc, ↓dn_putf, ↓dn_putz, ↓dn_ast, ↓dn_exp, ↓dn_if, ↓dn_ret, ↓dn_retz, ↓dn_retv, ↓dn_brk, ↓dn_cont, ↓dn_cs, ↓dn_sw, ↓dn_pop32, ↓dn_pop64, ↓dn_aop, ↓dn_call, ↓dn_max, ↓dn_min, ↓dn_acp, ↓dn_i2l, ↓dn_args0, ↓dn_args1, og_pad, og_ent, og_rlt, og_rle, og_rgt, og_rge, og_req, og_rne, og_padd, og_psub, og_pmul, List.getD_cons_zero, List.getD_cons_succ, List.set_cons_zero, List.set_cons_succ, List.length_cons, List.length_nil, List.cons_append, List.nil_append, List.replicate, List.append_nil, Nat.reduceAdd, Nat.reduceSub, Nat.reduceEqDiff, if_true, if_false, reduceIte, Int.reduceAdd, Int.reduceSub, Int.reduceMul, Int.reduceNeg, Int.reduceLT, Int.reduceLE, Int.cast_ofNat_Int, true_or, or_true, true_and, and_true, false_and, List.mem_cons, List.not_mem_nil, or_false, false_or, ne_eq]
    exact ⟨fun _ => ⟨fun z => absurd (by trivial) z, fun _ => ⟨_, by rw [if_neg (by rw [hsb, h0, Bool.false_and]; decide)]⟩⟩, fun _ => ⟨_, by rw [if_neg (by rw [hsb, h0, Bool.false_and]; decide)]⟩⟩
theorem c_letterOf {s j k : Int} {v : Int} (hv : 0 ≤ v ∧ v < 387420489) (hj : 0 ≤ j ∧ j < 14) (he : h (s + 1) j = v) (hk : 0 ≤ k ∧ k ≤ 5) (hK : K (dvN (5 - k.toNat) v % 27) h) : m_Parish_letterOf [s, j, k] h K := by
  unfold m_Parish_letterOf
  simp -implicitDefEqProofs only [↓dn_den, ↓dn_loc, ↓dn_k, ↓dn_add, ↓dn_sub, ↓dn_mul, ↓dn_div, ↓dn_rem, ↓dn_bop, ↓dn_ladd, ↓dn_lsub, ↓dn_lmul, ↓dn_ldiv, ↓dn_lrem, ↓dn_land, ↓dn_l2i, ↓dn_neg, ↓dn_get, ↓dn_fix, ↓dn_ald, ↓dn_gld, ↓dn_yld, ↓dn_len, ↓dn_gln, ↓dn_cc, ↓dn_cb, ↓dn_and, ↓dn_or, ↓dn_not, ↓dn_cite, ↓dn_ec, ↓dn_ei, ↓dn_skip, ↓dn_seq, ↓dn_set, ↓dn_inc, ↓dn_putf, ↓dn_putz, ↓dn_ast, ↓dn_exp, ↓dn_if, ↓dn_ret, ↓dn_retz, ↓dn_retv, ↓dn_brk, ↓dn_cont, ↓dn_cs, ↓dn_sw, ↓dn_pop32, ↓dn_pop64, ↓dn_aop, ↓dn_call, ↓dn_max, ↓dn_min, ↓dn_acp, ↓dn_i2l, ↓dn_args0, ↓dn_args1, og_pad, og_ent, og_rlt, og_rle, og_rgt, og_rge, og_req, og_rne, og_padd, og_psub, og_pmul, List.getD_cons_zero, List.getD_cons_succ, List.set_cons_zero, List.set_cons_succ, List.length_cons, List.length_nil, List.cons_append, List.nil_append, List.replicate, List.append_nil, Nat.reduceAdd, Nat.reduceSub, Nat.reduceEqDiff, if_true, if_false, reduceIte, Int.reduceAdd, Int.reduceSub, Int.reduceMul, Int.reduceNeg, Int.reduceLT, Int.reduceLE, Int.cast_ofNat_Int, true_or, or_true, true_and, and_true, false_and, List.mem_cons, List.not_mem_nil, or_false, false_or, ne_eq]
  rw [he]
  refine ⟨hj.1, hj.2, ?_⟩
  refine ⟨fun e1 h1 => h1 = h ∧ ∃ c4, e1 = [s, j, k, dvN (5 - k.toNat) v, c4], ?_, ?_⟩
  · simp -implicitDefEqProofs only [↓dn_den, ↓dn_loc, ↓dn_k, ↓dn_add, ↓dn_sub, ↓dn_mul, ↓dn_div, ↓dn_rem, ↓dn_bop, ↓dn_ladd, ↓dn_lsub, ↓dn_lmul, ↓dn_ldiv, ↓dn_lrem, ↓dn_land, ↓dn_l2i, ↓dn_neg, ↓dn_get, ↓dn_fix, ↓dn_ald, ↓dn_gld, ↓dn_yld, ↓dn_len, ↓dn_gln, ↓dn_cc, ↓dn_cb, ↓dn_and, ↓dn_or, ↓dn_not, ↓dn_cite, ↓dn_ec, ↓dn_ei, ↓dn_skip, ↓dn_seq, ↓dn_set, ↓dn_inc, ↓dn_putf, ↓dn_putz, ↓dn_ast, ↓dn_exp, ↓dn_if, ↓dn_ret, ↓dn_retz, ↓dn_retv, ↓dn_brk, ↓dn_cont, ↓dn_cs, ↓dn_sw, ↓dn_pop32, ↓dn_pop64, ↓dn_aop, ↓dn_call, ↓dn_max, ↓dn_min, ↓dn_acp, ↓dn_i2l, ↓dn_args0, ↓dn_args1, og_pad, og_ent, og_rlt, og_rle, og_rgt, og_rge, og_req, og_rne, og_padd, og_psub, og_pmul, List.getD_cons_zero, List.getD_cons_succ, List.set_cons_zero, List.set_cons_succ, List.length_cons, List.length_nil, List.cons_append, List.nil_append, List.replicate, List.append_nil, Nat.reduceAdd, Nat.reduceSub, Nat.reduceEqDiff, if_true, if_false, reduceIte, Int.reduceAdd, Int.reduceSub, Int.reduceMul, Int.reduceNeg, Int.reduceLT, Int.reduceLE, Int.cast_ofNat_Int, true_or, or_true, true_and, and_true, false_and, List.mem_cons, List.not_mem_nil, or_false, false_or, ne_eq]
    refine og_loop (5 - k.toNat) (fun i e1 h1 => h1 = h ∧ e1 = [s, j, k, dvN i v, 5 - (i : Int)]) ⟨rfl, rfl⟩ ?_
    rintro i e1 h1 hi ⟨rfl, rfl⟩
    simp -implicitDefEqProofs only [↓dn_den, ↓dn_loc, ↓dn_k, ↓dn_add, ↓dn_sub, ↓dn_mul, ↓dn_div, ↓dn_rem, ↓dn_bop, ↓dn_ladd, ↓dn_lsub, ↓dn_lmul, ↓dn_ldiv, ↓dn_lrem, ↓dn_land, ↓dn_l2i, ↓dn_neg, ↓dn_get, ↓dn_fix, ↓dn_ald, ↓dn_gld, ↓dn_yld, ↓dn_len, ↓dn_gln, ↓dn_cc, ↓dn_cb, ↓dn_and, ↓dn_or, ↓dn_not, ↓dn_cite, ↓dn_ec, ↓dn_ei, ↓dn_skip, ↓dn_seq, ↓dn_set, ↓dn_inc, ↓dn_putf, ↓dn_putz, ↓dn_ast, ↓dn_exp, ↓dn_if, ↓dn_ret, ↓dn_retz, ↓dn_retv, ↓dn_brk, ↓dn_cont, ↓dn_cs, ↓dn_sw, ↓dn_pop32, ↓dn_pop64, ↓dn_aop, ↓dn_call, ↓dn_max, ↓dn_min, ↓dn_acp, ↓dn_i2l, ↓dn_args0, ↓dn_args1, og_pad, og_ent, og_rlt, og_rle, og_rgt, og_rge, og_req, og_rne, og_padd, og_psub, og_pmul, List.getD_cons_zero, List.getD_cons_succ, List.set_cons_zero, List.set_cons_succ, List.length_cons, List.length_nil, List.cons_append, List.nil_append, List.replicate, List.append_nil, Nat.reduceAdd, Nat.reduceSub, Nat.reduceEqDiff, if_true, if_false, reduceIte, Int.reduceAdd, Int.reduceSub, Int.reduceMul, Int.reduceNeg, Int.reduceLT, Int.reduceLE, Int.cast_ofNat_Int, true_or, or_true, true_and, and_true, false_and, List.mem_cons, List.not_mem_nil, or_false, false_or, ne_eq, og_i32]
    have rg := dvN_rg hv i
    have et : (dvN i v).tdiv 27 = dvN (i + 1) v := Int.tdiv_eq_ediv_of_nonneg rg.1
    have rg1 := dvN_rg hv (i + 1)
    rw [et]
    refine ⟨fun hgt => ?_, fun hle => ?_⟩
    · repeat (refine And.intro (by omega) ?_)
      first | exact og_nx_mk (by omega) ⟨rfl, by simp; omega⟩ | exact ⟨by decide, by omega, by omega, og_nx_mk (by omega) ⟨rfl, by simp; omega⟩⟩
    · have e : i = 5 - k.toNat := by omega
      subst e
      first | exact ⟨rfl, _, rfl⟩ | exact ⟨_, rfl⟩
  · rintro e1 h1 ⟨rfl, c4, rfl⟩
    simp -implicitDefEqProofs only [↓dn_den, ↓dn_loc, ↓dn_k, ↓dn_add, ↓dn_sub, ↓dn_mul, ↓dn_div, ↓dn_rem, ↓dn_bop, ↓dn_ladd, ↓dn_lsub, ↓dn_lmul, ↓dn_ldiv, ↓dn_lrem, ↓dn_land, ↓dn_l2i, ↓dn_neg, ↓dn_get, ↓dn_fix, ↓dn_ald, ↓dn_gld, ↓dn_yld, ↓dn_len, ↓dn_gln, ↓dn_cc, ↓dn_cb, ↓dn_and, ↓dn_or, ↓dn_not, ↓dn_cite, ↓dn_ec, ↓dn_ei, ↓dn_skip, ↓dn_seq, ↓dn_set, ↓dn_inc, ↓dn_putf, ↓dn_putz, ↓dn_ast, ↓dn_exp, ↓dn_if, ↓dn_ret, ↓dn_retz, ↓dn_retv, ↓dn_brk, ↓dn_cont, ↓dn_cs, ↓dn_sw, ↓dn_pop32, ↓dn_pop64, ↓dn_aop, ↓dn_call, ↓dn_max, ↓dn_min, ↓dn_acp, ↓dn_i2l, ↓dn_args0, ↓dn_args1, og_pad, og_ent, og_rlt, og_rle, og_rgt, og_rge, og_req, og_rne, og_padd, og_psub, og_pmul, List.getD_cons_zero, List.getD_cons_succ, List.set_cons_zero, List.set_cons_succ, List.length_cons, List.length_nil, List.cons_append, List.nil_append, List.replicate, List.append_nil, Nat.reduceAdd, Nat.reduceSub, Nat.reduceEqDiff, if_true, if_false, reduceIte, Int.reduceAdd, Int.reduceSub, Int.reduceMul, Int.reduceNeg, Int.reduceLT, Int.reduceLE, Int.cast_ofNat_Int, true_or, or_true, true_and, and_true, false_and, List.mem_cons, List.not_mem_nil, or_false, false_or, ne_eq]
    have rg := dvN_rg hv (5 - k.toNat)
    rw [Int.tmod_eq_emod_of_nonneg rg.1]
    first | exact hK | exact ⟨by decide, hK⟩
theorem c_letter {kind w k : Int} (hr : relC q h A P U X) (hx : okX n A P U X) (hK : K (sLetter A X kind w k) h) : m_OG_letter [0, kind, w, k] h K := by
  have h6 := hx.1.1.1
  have nm := hr.2.2.1.2.2.2.2.2.2.1
  have xn := hx.2.2.2.2.2.2.2.2
  unfold m_OG_letter
  simp -implicitDefEqProofs only [↓dn_den, ↓dn_loc, ↓dn_k, ↓dn_add, ↓dn_sub, ↓dn_mul, ↓dn_div, ↓dn_rem, ↓dn_bop, ↓dn_ladd, ↓dn_lsub, ↓dn_lmul, ↓dn_ldiv, ↓dn_lrem, ↓dn_land, ↓dn_l2i, ↓dn_neg, ↓dn_get, ↓dn_fix, ↓dn_ald, ↓dn_gld, ↓dn_yld, ↓dn_len, ↓dn_gln, ↓dn_cc, ↓dn_cb, ↓dn_and, ↓dn_or, ↓dn_not, ↓dn_cite, ↓dn_ec, ↓dn_ei, ↓dn_skip, ↓dn_seq, ↓dn_set, ↓dn_inc, ↓dn_putf, ↓dn_putz, ↓dn_ast, ↓dn_exp, ↓dn_if, ↓dn_ret, ↓dn_retz, ↓dn_retv, ↓dn_brk, ↓dn_cont, ↓dn_cs, ↓dn_sw, ↓dn_pop32, ↓dn_pop64, ↓dn_aop, ↓dn_call, ↓dn_max, ↓dn_min, ↓dn_acp, ↓dn_i2l, ↓dn_args0, ↓dn_args1, og_pad, og_ent, og_rlt, og_rle, og_rgt, og_rge, og_req, og_rne, og_padd, og_psub, og_pmul, List.getD_cons_zero, List.getD_cons_succ, List.set_cons_zero, List.set_cons_succ, List.length_cons, List.length_nil, List.cons_append, List.nil_append, List.replicate, List.append_nil, Nat.reduceAdd, Nat.reduceSub, Nat.reduceEqDiff, if_true, if_false, reduceIte, Int.reduceAdd, Int.reduceSub, Int.reduceMul, Int.reduceNeg, Int.reduceLT, Int.reduceLE, Int.cast_ofNat_Int, true_or, or_true, true_and, and_true, false_and, List.mem_cons, List.not_mem_nil, or_false, false_or, ne_eq, og_i32]
  unfold sLetter at hK
  have no : ¬ ((0 ≤ k ∧ k ≤ 5) ∧ ((kind = 0 ∧ 0 ≤ w ∧ w < A 0 0) ∨ (kind = 1 ∧ 0 ≤ w ∧ w < A 0 1))) → K (-1) h := fun z => by rw [if_neg z] at hK; exact hK
  refine ⟨fun a => no (by omega), fun a => ⟨fun b => no (by omega), fun b => ?_⟩⟩
  refine ⟨fun k0 => ?_, fun k0 => ?_⟩
  · refine s_Yard_isGrave ?_
    rw [hr.1.1.1]
    refine ⟨fun g => ?_, fun g => ?_⟩
    · have g := iteP1 g
      rw [if_pos ⟨by omega, Or.inl ⟨k0, g⟩⟩, k0] at hK
      have e : 6 * (0 : Int) + w = w := by omega
      rw [e] at hK
      exact c_letterOf (nPad_rg (xn w (Or.inl g))) (by omega) (nm w (Or.inl g)) (by omega) hK
    · have g := iteP0 g
      refine ⟨fun k1 => by omega, fun k1 => no (by omega)⟩
  · refine ⟨fun k1 => ?_, fun k1 => no (by omega)⟩
    refine s_Yard_isPerson ?_
    rw [hr.1.1.2.1]
    refine ⟨fun g => ?_, fun g => no (fun z => by have := iteP0 g; omega)⟩
    have g := iteP1 g
    rw [if_pos ⟨by omega, Or.inr ⟨k1, g⟩⟩, k1] at hK
    have e : 6 * (1 : Int) + w = 6 + w := by omega
    rw [e] at hK
    repeat (refine And.intro (by omega) ?_)
    exact c_letterOf (nPad_rg (xn (6 + w) (Or.inr (by omega)))) (by omega) (nm (6 + w) (Or.inr (by omega))) (by omega) hK
theorem m_letter {kind w k : Int} (hr : relM q h M A P U X) (hx : okX n A P U X) (hK : K (sLetter A X kind w k) h) : m_Model_letter [1000, kind, w, k] h K := by
  have h6 := hx.1.1.1
  have nm := hr.2.2.1.2.2.2.2.2.2.1
  have xn := hx.2.2.2.2.2.2.2.2
  have hm := hr.1.1.1
  unfold m_Model_letter
  simp -implicitDefEqProofs only [↓dn_den, ↓dn_loc, ↓dn_k, ↓dn_add, ↓dn_sub, ↓dn_mul, ↓dn_div, ↓dn_rem, ↓dn_bop, ↓dn_ladd, ↓dn_lsub, ↓dn_lmul, ↓dn_ldiv, ↓dn_lrem, ↓dn_land, ↓dn_l2i, ↓dn_neg, ↓dn_get, ↓dn_fix, ↓dn_ald, ↓dn_gld, ↓dn_yld, ↓dn_len, ↓dn_gln, ↓dn_cc, ↓dn_cb, ↓dn_and, ↓dn_or, ↓dn_not, ↓dn_cite, ↓dn_ec, ↓dn_ei, ↓dn_skip, ↓dn_seq, ↓dn_set, ↓dn_inc, ↓dn_putf, ↓dn_putz, ↓dn_ast, ↓dn_exp, ↓dn_if, ↓dn_ret, ↓dn_retz, ↓dn_retv, ↓dn_brk, ↓dn_cont, ↓dn_cs, ↓dn_sw, ↓dn_pop32, ↓dn_pop64, ↓dn_aop, ↓dn_call, ↓dn_max, ↓dn_min, ↓dn_acp, ↓dn_i2l, ↓dn_args0, ↓dn_args1, og_pad, og_ent, og_rlt, og_rle, og_rgt, og_rge, og_req, og_rne, og_padd, og_psub, og_pmul, List.getD_cons_zero, List.getD_cons_succ, List.set_cons_zero, List.set_cons_succ, List.length_cons, List.length_nil, List.cons_append, List.nil_append, List.replicate, List.append_nil, Nat.reduceAdd, Nat.reduceSub, Nat.reduceEqDiff, if_true, if_false, reduceIte, Int.reduceAdd, Int.reduceSub, Int.reduceMul, Int.reduceNeg, Int.reduceLT, Int.reduceLE, Int.cast_ofNat_Int, true_or, or_true, true_and, and_true, false_and, List.mem_cons, List.not_mem_nil, or_false, false_or, ne_eq, og_i32, og_i64]
  unfold sLetter at hK
  have no : ¬ ((0 ≤ k ∧ k ≤ 5) ∧ ((kind = 0 ∧ 0 ≤ w ∧ w < A 0 0) ∨ (kind = 1 ∧ 0 ≤ w ∧ w < A 0 1))) → K (-1) h := fun z => by rw [if_neg z] at hK; exact hK
  refine r_isIn ⟨fun a => ?_, fun a => no (fun z => by have := iteP0 a; omega)⟩
  have a := iteP1 a
  have em : h 1028 (2 + kind) = if kind = 0 then A 0 0 else A 0 1 := by
    by_cases k0 : kind = 0
    · rw [if_pos k0, k0]; exact hm.1.1
    · have : kind = 1 := by omega
      rw [if_neg k0, this]; exact hm.1.2.1
  rw [em]
  have erg : 0 ≤ (if kind = 0 then A 0 0 else A 0 1) ∧ (if kind = 0 then A 0 0 else A 0 1) ≤ 8 := by split <;> omega
  repeat (refine And.intro (by omega) ?_)
  refine r_isIn ⟨fun b => ?_, fun b => no (fun z => by have := iteP0 b; split at this <;> omega)⟩
  have b := iteP1 b
  refine r_isIn ⟨fun c => ?_, fun c => no (fun z => by have := iteP0 c; omega)⟩
  have c := iteP1 c
  have hgood : (kind = 0 ∧ 0 ≤ w ∧ w < A 0 0) ∨ (kind = 1 ∧ 0 ≤ w ∧ w < A 0 1) := by split at b <;> omega
  rw [if_pos ⟨c, hgood⟩] at hK
  have ev : h 1029 (16 + 8 * kind + w) = X 5 (6 * kind + w) := by
    rcases hgood with ⟨e, g⟩ | ⟨e, g⟩
    · subst e
      have e1 : 16 + 8 * (0 : Int) + w = 16 + w := by omega
      have e2 : 6 * (0 : Int) + w = w := by omega
      rw [e1, e2]; exact nm.1 w g.1 g.2
    · subst e
      have e1 : 16 + 8 * (1 : Int) + w = 24 + w := by omega
      have e2 : 6 * (1 : Int) + w = 6 + w := by omega
      rw [e1, e2]; exact nm.2 w g.1 g.2
  have hv := xn (6 * kind + w) (by omega)
  rw [ev]
  generalize X 5 (6 * kind + w) = v at *
  have le := letEq hv k.toNat (by omega)
  rw [le] at hK
  have nz := nLen_z hv
  have nr := nLen_rg v
  have hv0 : 0 ≤ v ∧ v < 387420489 := by omega
  repeat (refine And.intro (by omega) ?_)
  refine ⟨fun e1 h1 => h1 = h ∧ ∃ c7, e1 = [1000, kind, w, k, v, 0, (nLen v : Int), c7, 0], ?_, ?_⟩
  · simp -implicitDefEqProofs only [↓dn_den, ↓dn_loc, ↓dn_k, ↓dn_add, ↓dn_sub, ↓dn_mul, ↓dn_div, ↓dn_rem, ↓dn_bop, ↓dn_ladd, ↓dn_lsub, ↓dn_lmul, ↓dn_ldiv, ↓dn_lrem, ↓dn_land, ↓dn_l2i, ↓dn_neg, ↓dn_get, ↓dn_fix, ↓dn_ald, ↓dn_gld, ↓dn_yld, ↓dn_len, ↓dn_gln, ↓dn_cc, ↓dn_cb, ↓dn_and, ↓dn_or, ↓dn_not, ↓dn_cite, ↓dn_ec, ↓dn_ei, ↓dn_skip, ↓dn_seq, ↓dn_set, ↓dn_inc, ↓dn_putf, ↓dn_putz, ↓dn_ast, ↓dn_exp, ↓dn_if, ↓dn_ret, ↓dn_retz, ↓dn_retv, ↓dn_brk, ↓dn_cont, ↓dn_cs, ↓dn_sw, ↓dn_pop32, ↓dn_pop64, ↓dn_aop, ↓dn_call, ↓dn_max, ↓dn_min, ↓dn_acp, ↓dn_i2l, ↓dn_args0, ↓dn_args1, og_pad, og_ent, og_rlt, og_rle, og_rgt, og_rge, og_req, og_rne, og_padd, og_psub, og_pmul, List.getD_cons_zero, List.getD_cons_succ, List.set_cons_zero, List.set_cons_succ, List.length_cons, List.length_nil, List.cons_append, List.nil_append, List.replicate, List.append_nil, Nat.reduceAdd, Nat.reduceSub, Nat.reduceEqDiff, if_true, if_false, reduceIte, Int.reduceAdd, Int.reduceSub, Int.reduceMul, Int.reduceNeg, Int.reduceLT, Int.reduceLE, Int.cast_ofNat_Int, true_or, or_true, true_and, and_true, false_and, List.mem_cons, List.not_mem_nil, or_false, false_or, ne_eq]
    refine og_loop (nLen v) (fun i e1 h1 => h1 = h ∧ e1 = [1000, kind, w, k, v, 0, (i : Int), dvN i v, 0]) ⟨rfl, rfl⟩ ?_
    rintro i e1 h1 hi ⟨rfl, rfl⟩
    simp -implicitDefEqProofs only [↓dn_den, ↓dn_loc, ↓dn_k, ↓dn_add, ↓dn_sub, ↓dn_mul, ↓dn_div, ↓dn_rem, ↓dn_bop, ↓dn_ladd, ↓dn_lsub, ↓dn_lmul, ↓dn_ldiv, ↓dn_lrem, ↓dn_land, ↓dn_l2i, ↓dn_neg, ↓dn_get, ↓dn_fix, ↓dn_ald, ↓dn_gld, ↓dn_yld, ↓dn_len, ↓dn_gln, ↓dn_cc, ↓dn_cb, ↓dn_and, ↓dn_or, ↓dn_not, ↓dn_cite, ↓dn_ec, ↓dn_ei, ↓dn_skip, ↓dn_seq, ↓dn_set, ↓dn_inc, ↓dn_putf, ↓dn_putz, ↓dn_ast, ↓dn_exp, ↓dn_if, ↓dn_ret, ↓dn_retz, ↓dn_retv, ↓dn_brk, ↓dn_cont, ↓dn_cs, ↓dn_sw, ↓dn_pop32, ↓dn_pop64, ↓dn_aop, ↓dn_call, ↓dn_max, ↓dn_min, ↓dn_acp, ↓dn_i2l, ↓dn_args0, ↓dn_args1, og_pad, og_ent, og_rlt, og_rle, og_rgt, og_rge, og_req, og_rne, og_padd, og_psub, og_pmul, List.getD_cons_zero, List.getD_cons_succ, List.set_cons_zero, List.set_cons_succ, List.length_cons, List.length_nil, List.cons_append, List.nil_append, List.replicate, List.append_nil, Nat.reduceAdd, Nat.reduceSub, Nat.reduceEqDiff, if_true, if_false, reduceIte, Int.reduceAdd, Int.reduceSub, Int.reduceMul, Int.reduceNeg, Int.reduceLT, Int.reduceLE, Int.cast_ofNat_Int, true_or, or_true, true_and, and_true, false_and, List.mem_cons, List.not_mem_nil, or_false, false_or, ne_eq, og_i32, og_i64]
    have rg := dvN_rg hv0 i
    have et : (dvN i v).tdiv 27 = dvN (i + 1) v := Int.tdiv_eq_ediv_of_nonneg rg.1
    have rg1 := dvN_rg hv0 (i + 1)
    rw [et]
    refine ⟨fun hgt => ?_, fun hle => ?_⟩
    · have hlt : i < nLen v := by
        by_cases e : i = nLen v
        · subst e; omega
        · omega
      repeat (refine And.intro (by omega) ?_)
      first | exact og_nx_mk hlt ⟨rfl, by simp⟩ | exact ⟨by decide, by omega, og_nx_mk hlt ⟨rfl, by simp⟩⟩
    · have e : i = nLen v := by
        by_cases e : i < nLen v
        · have := nz.2 i e; omega
        · omega
      subst e
      first | exact ⟨rfl, _, rfl⟩ | exact ⟨_, rfl⟩
  · rintro e1 h1 ⟨rfl, c7, rfl⟩
    simp -implicitDefEqProofs only [↓dn_den, ↓dn_loc, ↓dn_k, ↓dn_add, ↓dn_sub, ↓dn_mul, ↓dn_div, ↓dn_rem, ↓dn_bop, ↓dn_ladd, ↓dn_lsub, ↓dn_lmul, ↓dn_ldiv, ↓dn_lrem, ↓dn_land, ↓dn_l2i, ↓dn_neg, ↓dn_get, ↓dn_fix, ↓dn_ald, ↓dn_gld, ↓dn_yld, ↓dn_len, ↓dn_gln, ↓dn_cc, ↓dn_cb, ↓dn_and, ↓dn_or, ↓dn_not, ↓dn_cite, ↓dn_ec, ↓dn_ei, ↓dn_skip, ↓dn_seq, ↓dn_set, ↓dn_inc, ↓dn_putf, ↓dn_putz, ↓dn_ast, ↓dn_exp, ↓dn_if, ↓dn_ret, ↓dn_retz, ↓dn_retv, ↓dn_brk, ↓dn_cont, ↓dn_cs, ↓dn_sw, ↓dn_pop32, ↓dn_pop64, ↓dn_aop, ↓dn_call, ↓dn_max, ↓dn_min, ↓dn_acp, ↓dn_i2l, ↓dn_args0, ↓dn_args1, og_pad, og_ent, og_rlt, og_rle, og_rgt, og_rge, og_req, og_rne, og_padd, og_psub, og_pmul, List.getD_cons_zero, List.getD_cons_succ, List.set_cons_zero, List.set_cons_succ, List.length_cons, List.length_nil, List.cons_append, List.nil_append, List.replicate, List.append_nil, Nat.reduceAdd, Nat.reduceSub, Nat.reduceEqDiff, if_true, if_false, reduceIte, Int.reduceAdd, Int.reduceSub, Int.reduceMul, Int.reduceNeg, Int.reduceLT, Int.reduceLE, Int.cast_ofNat_Int, true_or, or_true, true_and, and_true, false_and, List.mem_cons, List.not_mem_nil, or_false, false_or, ne_eq, og_i32, og_i64]
    refine ⟨fun hge => ?_, fun hlt => ?_⟩
    · rw [if_pos (by omega)] at hK; exact hK
    rw [if_neg (by omega)] at hK
    refine ⟨fun e1 h2 => h2 = h1 ∧ ∃ c6 c7, e1 = [1000, kind, w, k, dvN (nLen v - 1 - k.toNat) v, 0, c6, c7, 0], ?_, ?_⟩
    · simp -implicitDefEqProofs only [↓dn_den, ↓dn_loc, ↓dn_k, ↓dn_add, ↓dn_sub, ↓dn_mul, ↓dn_div, ↓dn_rem, ↓dn_bop, ↓dn_ladd, ↓dn_lsub, ↓dn_lmul, ↓dn_ldiv, ↓dn_lrem, ↓dn_land, ↓dn_l2i, ↓dn_neg, ↓dn_get, ↓dn_fix, ↓dn_ald, ↓dn_gld, ↓dn_yld, ↓dn_len, ↓dn_gln, ↓dn_cc, ↓dn_cb, ↓dn_and, ↓dn_or, ↓dn_not, ↓dn_cite, ↓dn_ec, ↓dn_ei, ↓dn_skip, ↓dn_seq, ↓dn_set, ↓dn_inc, ↓dn_putf, ↓dn_putz, ↓dn_ast, ↓dn_exp, ↓dn_if, ↓dn_ret, ↓dn_retz, ↓dn_retv, ↓dn_brk, ↓dn_cont, ↓dn_cs, ↓dn_sw, ↓dn_pop32, ↓dn_pop64, ↓dn_aop, ↓dn_call, ↓dn_max, ↓dn_min, ↓dn_acp, ↓dn_i2l, ↓dn_args0, ↓dn_args1, og_pad, og_ent, og_rlt, og_rle, og_rgt, og_rge, og_req, og_rne, og_padd, og_psub, og_pmul, List.getD_cons_zero, List.getD_cons_succ, List.set_cons_zero, List.set_cons_succ, List.length_cons, List.length_nil, List.cons_append, List.nil_append, List.replicate, List.append_nil, Nat.reduceAdd, Nat.reduceSub, Nat.reduceEqDiff, if_true, if_false, reduceIte, Int.reduceAdd, Int.reduceSub, Int.reduceMul, Int.reduceNeg, Int.reduceLT, Int.reduceLE, Int.cast_ofNat_Int, true_or, or_true, true_and, and_true, false_and, List.mem_cons, List.not_mem_nil, or_false, false_or, ne_eq, og_i32]
      refine ⟨by omega, ?_⟩
      refine og_loop (nLen v - 1 - k.toNat) (fun i e1 h2 => h2 = h1 ∧ e1 = [1000, kind, w, k, dvN i v, 0, (nLen v : Int), (nLen v : Int) - 1 - i, 0]) ⟨rfl, by simp [dvN]⟩ ?_
      rintro i e1 h2 hi ⟨rfl, rfl⟩
      simp -implicitDefEqProofs only [↓dn_den, ↓dn_loc, ↓dn_k, ↓dn_add, ↓dn_sub, ↓dn_mul, ↓dn_div, ↓dn_rem, ↓dn_bop, ↓dn_ladd, ↓dn_lsub, ↓dn_lmul, ↓dn_ldiv, ↓dn_lrem, ↓dn_land, ↓dn_l2i, ↓dn_neg, ↓dn_get, ↓dn_fix, ↓dn_ald, ↓dn_gld, ↓dn_yld, ↓dn_len, ↓dn_gln, ↓dn_cc, ↓dn_cb, ↓dn_and, ↓dn_or, ↓dn_not, ↓dn_cite, ↓dn_ec, ↓dn_ei, ↓dn_skip, ↓dn_seq, ↓dn_set, ↓dn_inc, ↓dn_putf, ↓dn_putz, ↓dn_ast, ↓dn_exp, ↓dn_if, ↓dn_ret, ↓dn_retz, ↓dn_retv, ↓dn_brk, ↓dn_cont, ↓dn_cs, ↓dn_sw, ↓dn_pop32, ↓dn_pop64, ↓dn_aop, ↓dn_call, ↓dn_max, ↓dn_min, ↓dn_acp, ↓dn_i2l, ↓dn_args0, ↓dn_args1, og_pad, og_ent, og_rlt, og_rle, og_rgt, og_rge, og_req, og_rne, og_padd, og_psub, og_pmul, List.getD_cons_zero, List.getD_cons_succ, List.set_cons_zero, List.set_cons_succ, List.length_cons, List.length_nil, List.cons_append, List.nil_append, List.replicate, List.append_nil, Nat.reduceAdd, Nat.reduceSub, Nat.reduceEqDiff, if_true, if_false, reduceIte, Int.reduceAdd, Int.reduceSub, Int.reduceMul, Int.reduceNeg, Int.reduceLT, Int.reduceLE, Int.cast_ofNat_Int, true_or, or_true, true_and, and_true, false_and, List.mem_cons, List.not_mem_nil, or_false, false_or, ne_eq, og_i32, og_i64]
      have rg := dvN_rg hv0 i
      have et : (dvN i v).tdiv 27 = dvN (i + 1) v := Int.tdiv_eq_ediv_of_nonneg rg.1
      have rg1 := dvN_rg hv0 (i + 1)
      rw [et]
      refine ⟨fun hgt => ?_, fun hle => ?_⟩
      · repeat (refine And.intro (by omega) ?_)
        first | exact og_nx_mk (by omega) ⟨rfl, by simp; omega⟩ | exact ⟨by decide, by omega, by omega, og_nx_mk (by omega) ⟨rfl, by simp; omega⟩⟩
      · have e : i = nLen v - 1 - k.toNat := by omega
        subst e
        first | exact ⟨rfl, _, _, rfl⟩ | exact ⟨_, _, rfl⟩
    · rintro e1 h2 ⟨rfl, c6, c7, rfl⟩
      simp -implicitDefEqProofs only [↓dn_den, ↓dn_loc, ↓dn_k, ↓dn_add, ↓dn_sub, ↓dn_mul, ↓dn_div, ↓dn_rem, ↓dn_bop, ↓dn_ladd, ↓dn_lsub, ↓dn_lmul, ↓dn_ldiv, ↓dn_lrem, ↓dn_land, ↓dn_l2i, ↓dn_neg, ↓dn_get, ↓dn_fix, ↓dn_ald, ↓dn_gld, ↓dn_yld, ↓dn_len, ↓dn_gln, ↓dn_cc, ↓dn_cb, ↓dn_and, ↓dn_or, ↓dn_not, ↓dn_cite, ↓dn_ec, ↓dn_ei, ↓dn_skip, ↓dn_seq, ↓dn_set, ↓dn_inc, ↓dn_putf, ↓dn_putz, ↓dn_ast, ↓dn_exp, ↓dn_if, ↓dn_ret, ↓dn_retz, ↓dn_retv, ↓dn_brk, ↓dn_cont, ↓dn_cs, ↓dn_sw, ↓dn_pop32, ↓dn_pop64, ↓dn_aop, ↓dn_call, ↓dn_max, ↓dn_min, ↓dn_acp, ↓dn_i2l, ↓dn_args0, ↓dn_args1, og_pad, og_ent, og_rlt, og_rle, og_rgt, og_rge, og_req, og_rne, og_padd, og_psub, og_pmul, List.getD_cons_zero, List.getD_cons_succ, List.set_cons_zero, List.set_cons_succ, List.length_cons, List.length_nil, List.cons_append, List.nil_append, List.replicate, List.append_nil, Nat.reduceAdd, Nat.reduceSub, Nat.reduceEqDiff, if_true, if_false, reduceIte, Int.reduceAdd, Int.reduceSub, Int.reduceMul, Int.reduceNeg, Int.reduceLT, Int.reduceLE, Int.cast_ofNat_Int, true_or, or_true, true_and, and_true, false_and, List.mem_cons, List.not_mem_nil, or_false, false_or, ne_eq, og_i32]
      have rg := dvN_rg hv0 (nLen v - 1 - k.toNat)
      rw [Int.tmod_eq_emod_of_nonneg rg.1]
      repeat (refine And.intro (by omega) ?_)
      first | exact hK | exact ⟨by decide, by omega, hK⟩
end
end
