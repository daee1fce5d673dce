section
-- odds: the reference
section
variable {h h0 : Hp} {A : Yd} {P : Pr} {D : Nat → Int} {K : Int → Hp → Prop}
theorem r_putsAside' (ho : okY A) (hn : isN h A) (hK : ∀ h', inTh h h' → isN h' A → h' 1000 54 = h 1000 54 → (∀ j k, j ≠ 1038 → ¬ (j = 1000 ∧ k = 53) → h' j k = h j k) → K 0 h') : m_Model_putsAside [1000] h K := by
  unfold m_Model_putsAside
  simp -implicitDefEqProofs only [↓dn_den, ↓dn_loc, ↓dn_k, ↓dn_add, ↓dn_sub, ↓dn_mul, ↓dn_div, ↓dn_rem, ↓dn_bop, ↓dn_ladd, ↓dn_lsub, ↓dn_lmul, ↓dn_ldiv, ↓dn_lrem, ↓dn_land, ↓dn_l2i, ↓dn_neg, ↓dn_get, ↓dn_fix, ↓dn_ald, ↓dn_gld, ↓dn_yld, ↓dn_len, ↓dn_gln, ↓dn_cc, ↓dn_cb, ↓dn_and, ↓dn_or, ↓dn_not, ↓dn_cite, ↓dn_ec, ↓dn_ei, ↓dn_skip, ↓dn_seq, ↓dn_set, ↓dn_inc, ↓dn_putf, ↓dn_putz, ↓dn_ast, ↓dn_exp, ↓dn_if, ↓dn_ret, ↓dn_retz, ↓dn_retv, ↓dn_brk, ↓dn_cont, ↓dn_cs, ↓dn_sw, ↓dn_pop32, ↓dn_pop64, ↓dn_aop, ↓dn_call, ↓dn_max, ↓dn_min, ↓dn_acp, ↓dn_i2l, ↓dn_args0, ↓dn_args1, og_pad, og_ent, og_rlt, og_rle, og_rgt, og_rge, og_req, og_rne, og_padd, og_psub, og_pmul, List.getD_cons_zero, List.getD_cons_succ, List.set_cons_zero, List.set_cons_succ, List.length_cons, List.length_nil, List.cons_append, List.nil_append, List.replicate, List.append_nil, Nat.reduceAdd, Nat.reduceSub, Nat.reduceEqDiff, if_true, if_false, reduceIte, Int.reduceAdd, Int.reduceSub, Int.reduceMul, Int.reduceNeg, Int.reduceLT, Int.reduceLE, Int.cast_ofNat_Int, true_or, or_true, true_and, and_true, false_and, List.mem_cons, List.not_mem_nil, or_false, false_or, ne_eq]
  refine og_loop 43 (fun i e1 h1 => e1 = [1000, (i : Int)] ∧ h1 1000 53 = 1 ∧ (∀ k : Int, 0 ≤ k → k < i → h1 1038 k = h 1037 k) ∧ ∀ j k, j ≠ 1038 → ¬ (j = 1000 ∧ k = 53) → h1 j k = h j k) ⟨rfl, og_up_eq, fun k a b => by omega, fun j k a b => ?_⟩ ?_
  · unfold og_up; rw [if_neg b]
  rintro i e1 h1 hi ⟨rfl, q1, q2, q3⟩
  simp -implicitDefEqProofs only [↓dn_den, ↓dn_loc, ↓dn_k, ↓dn_add, ↓dn_sub, ↓dn_mul, ↓dn_div, ↓dn_rem, ↓dn_bop, ↓dn_ladd, ↓dn_lsub, ↓dn_lmul, ↓dn_ldiv, ↓dn_lrem, ↓dn_land, ↓dn_l2i, ↓dn_neg, ↓dn_get, ↓dn_fix, ↓dn_ald, ↓dn_gld, ↓dn_yld, ↓dn_len, ↓dn_gln, ↓dn_cc, ↓dn_cb, ↓dn_and, ↓dn_or, ↓dn_not, ↓dn_cite, ↓dn_ec, ↓dn_ei, ↓dn_skip, ↓dn_seq, ↓dn_set, ↓dn_inc, ↓dn_putf, ↓dn_putz, ↓dn_ast, ↓dn_exp, ↓dn_if, ↓dn_ret, ↓dn_retz, ↓dn_retv, ↓dn_brk, ↓dn_cont, ↓dn_cs, ↓dn_sw, ↓dn_pop32, ↓dn_pop64, ↓dn_aop, ↓dn_call, ↓dn_max, ↓dn_min, ↓dn_acp, ↓dn_i2l, ↓dn_args0, ↓dn_args1, og_pad, og_ent, og_rlt, og_rle, og_rgt, og_rge, og_req, og_rne, og_padd, og_psub, og_pmul, List.getD_cons_zero, List.getD_cons_succ, List.set_cons_zero, List.set_cons_succ, List.length_cons, List.length_nil, List.cons_append, List.nil_append, List.replicate, List.append_nil, Nat.reduceAdd, Nat.reduceSub, Nat.reduceEqDiff, if_true, if_false, reduceIte, Int.reduceAdd, Int.reduceSub, Int.reduceMul, Int.reduceNeg, Int.reduceLT, Int.reduceLE, Int.cast_ofNat_Int, true_or, or_true, true_and, and_true, false_and, List.mem_cons, List.not_mem_nil, or_false, false_or, ne_eq, og_i32]
  refine ⟨fun hlt => ?_, fun hge => ?_⟩
  · rw [q3 1037 i (by decide) (by omega)]
    refine ⟨by omega, by omega, by omega, by omega, by omega, og_nx_mk (by omega) ⟨by simp, ?_, fun k k0 k1 => ?_, fun j k a b => ?_⟩⟩
    · rw [og_up_i (by decide)]; exact q1
    · by_cases e : k = i
      · subst e; rw [og_up_eq]
      · rw [og_up_k e]; exact q2 k k0 (by omega)
    · rw [og_up_i a]; exact q3 j k a b
  · have : i = 43 := by omega
    subst this
    refine hK h1 ⟨q1, q2, fun k hk => q3 _ _ (by decide) (by omega), fun j k a b => q3 j k (by omega) (fun z => by have := b z.1; omega)⟩ ⟨isM_fr2 ho hn.1 (fun j k hj => q3 j k (by omega) (by omega)) (fun k _ _ => q3 _ _ (by decide) (by omega)), fun z => ?_⟩ (q3 _ _ (by decide) (by omega)) q3
    rw [q1] at z; cases z
theorem r_die {s : Nat} (hN : isN h A) (ho : okY A) (hk : okK A) (hs : s < 256) (hsub : ∀ p : Nat, p < sNp A → s.testBit p = true → sLive A (p : Int) = true)
    (hK : ∀ h', isN h' (sDie A s (sNp A)) → frM h h' → (∀ i k, i ≠ 1037 → h' i k = h i k) → K 0 h') : m_Model_die [1000, (s : Int)] h K := by
  have h6 := ho.1
  have hnp : sNp A = (A 0 1).toNat := rfl
  have hng : sNg A = (A 0 0).toNat := rfl
  unfold m_Model_die
  simp -implicitDefEqProofs only [↓dn_den, ↓dn_loc, ↓dn_k, ↓dn_add, ↓dn_sub, ↓dn_mul, ↓dn_div, ↓dn_rem, ↓dn_bop, ↓dn_ladd, ↓dn_lsub, ↓dn_lmul, ↓dn_ldiv, ↓dn_lrem, ↓dn_land, ↓dn_l2i, ↓dn_neg, ↓dn_get, ↓dn_fix, ↓dn_ald, ↓dn_gld, ↓dn_yld, ↓dn_len, ↓dn_gln, ↓dn_cc, ↓dn_cb, ↓dn_and, ↓dn_or, ↓dn_not, ↓dn_cite, ↓dn_ec, ↓dn_ei, ↓dn_skip, ↓dn_seq, ↓dn_set, ↓dn_inc, ↓dn_putf, ↓dn_putz, ↓dn_ast, ↓dn_exp, ↓dn_if, ↓dn_ret, ↓dn_retz, ↓dn_retv, ↓dn_brk, ↓dn_cont, ↓dn_cs, ↓dn_sw, ↓dn_pop32, ↓dn_pop64, ↓dn_aop, ↓dn_call, ↓dn_max, ↓dn_min, ↓dn_acp, ↓dn_i2l, ↓dn_args0, ↓dn_args1, og_pad, og_ent, og_rlt, og_rle, og_rgt, og_rge, og_req, og_rne, og_padd, og_psub, og_pmul, List.getD_cons_zero, List.getD_cons_succ, List.set_cons_zero, List.set_cons_succ, List.length_cons, List.length_nil, List.cons_append, List.nil_append, List.replicate, List.append_nil, Nat.reduceAdd, Nat.reduceSub, Nat.reduceEqDiff, if_true, if_false, reduceIte, Int.reduceAdd, Int.reduceSub, Int.reduceMul, Int.reduceNeg, Int.reduceLT, Int.reduceLE, Int.cast_ofNat_Int, true_or, or_true, true_and, and_true, false_and, List.mem_cons, List.not_mem_nil, or_false, false_or, ne_eq]
  refine og_loop (sNp A) (fun i e1 h1 => e1 = [1000, (s : Int), (i : Int)] ∧ isN h1 (sDie A s i) ∧ frM h h1 ∧ (∀ i k, i ≠ 1037 → h1 i k = h i k)) ⟨rfl, hN, frM_rf, fun _ _ _ => rfl⟩ ?_
  rintro i e1 h1 hi ⟨rfl, hN1, hF1, hf1⟩
  simp -implicitDefEqProofs only [↓dn_den, ↓dn_loc, ↓dn_k, ↓dn_add, ↓dn_sub, ↓dn_mul, ↓dn_div, ↓dn_rem, ↓dn_bop, ↓dn_ladd, ↓dn_lsub, ↓dn_lmul, ↓dn_ldiv, ↓dn_lrem, ↓dn_land, ↓dn_l2i, ↓dn_neg, ↓dn_get, ↓dn_fix, ↓dn_ald, ↓dn_gld, ↓dn_yld, ↓dn_len, ↓dn_gln, ↓dn_cc, ↓dn_cb, ↓dn_and, ↓dn_or, ↓dn_not, ↓dn_cite, ↓dn_ec, ↓dn_ei, ↓dn_skip, ↓dn_seq, ↓dn_set, ↓dn_inc, ↓dn_putf, ↓dn_putz, ↓dn_ast, ↓dn_exp, ↓dn_if, ↓dn_ret, ↓dn_retz, ↓dn_retv, ↓dn_brk, ↓dn_cont, ↓dn_cs, ↓dn_sw, ↓dn_pop32, ↓dn_pop64, ↓dn_aop, ↓dn_call, ↓dn_max, ↓dn_min, ↓dn_acp, ↓dn_i2l, ↓dn_args0, ↓dn_args1, og_pad, og_ent, og_rlt, og_rle, og_rgt, og_rge, og_req, og_rne, og_padd, og_psub, og_pmul, List.getD_cons_zero, List.getD_cons_succ, List.set_cons_zero, List.set_cons_succ, List.length_cons, List.length_nil, List.cons_append, List.nil_append, List.replicate, List.append_nil, Nat.reduceAdd, Nat.reduceSub, Nat.reduceEqDiff, if_true, if_false, reduceIte, Int.reduceAdd, Int.reduceSub, Int.reduceMul, Int.reduceNeg, Int.reduceLT, Int.reduceLE, Int.cast_ofNat_Int, true_or, or_true, true_and, and_true, false_and, List.mem_cons, List.not_mem_nil, or_false, false_or, ne_eq, og_i32]
  have sb := sameB_die (A := A) (s := s) i
  have oi := okY_die (s := s) ho i (by omega)
  have ki := okK_die (s := s) ho hk i (by omega) (fun p hp => hsub p (by omega))
  refine r_personMany hN1.1 ?_
  rw [sb.2.1]
  refine ⟨fun hlt => ?_, fun hge => ?_⟩
  · rw [bt_and s (by omega) i (by omega)]
    by_cases hb : s.testBit i = true
    · rw [if_pos hb]
      refine ⟨fun _ => ?_, fun z => absurd (by trivial) z⟩
      refine r_nextFor hN1.1 oi (by omega) (by rw [sb.2.1]; omega) ?_
      have eng : sNg (sDie A s i) = sNg A := by unfold sNg; rw [sb.1]
      rw [eng]
      have rg := sNext_rg (sDie A s i) i (sNg A)
      refine r_goesInto hN1 oi ki (by omega) (by rw [sb.2.1]; omega) (by rw [sDie_live i (by omega)]; exact hsub i (by omega) hb) (by rw [sb.1]; omega) (fun h3 hN3 hF3 hf3 => ?_)
      exact ⟨by omega, og_nx_mk (by omega) ⟨by simp, by rw [sDie_s, if_pos hb]; exact hN3, frM_tr hF1 hF3, fun j k hj => (hf3 j k hj).trans (hf1 j k hj)⟩⟩
    · rw [if_neg hb]
      exact ⟨fun z => absurd z (by decide), fun _ => ⟨by omega, og_nx_mk (by omega) ⟨by simp, by rw [sDie_s, if_neg hb]; exact hN1, hF1, hf1⟩⟩⟩
  · have e : i = sNp A := by omega
    subst e
    exact hK h1 hN1 hF1 hf1
theorem r_rowsBy {s : Nat} (hm : isM h A) (ho : okY A) (hs : s < 256) (hD : ∀ p, 0 ≤ D p ∧ D p ≤ 100) (hd : ∀ p : Nat, p < sNp A → h 1044 p = D p) (hK : K (oW A D s (sNp A)) h) : m_Model_rowsBy [1000, (s : Int), (sSet (sLive A) (sNp A) : Int)] h K := by
  have h6 := ho.1
  have hnp : sNp A = (A 0 1).toNat := rfl
  have hsl := sSet_le (f := sLive A) (n := sNp A) (m := 10) (by omega) (by omega)
  unfold m_Model_rowsBy
  simp -implicitDefEqProofs only [↓dn_den, ↓dn_loc, ↓dn_k, ↓dn_add, ↓dn_sub, ↓dn_mul, ↓dn_div, ↓dn_rem, ↓dn_bop, ↓dn_ladd, ↓dn_lsub, ↓dn_lmul, ↓dn_ldiv, ↓dn_lrem, ↓dn_land, ↓dn_l2i, ↓dn_neg, ↓dn_get, ↓dn_fix, ↓dn_ald, ↓dn_gld, ↓dn_yld, ↓dn_len, ↓dn_gln, ↓dn_cc, ↓dn_cb, ↓dn_and, ↓dn_or, ↓dn_not, ↓dn_cite, ↓dn_ec, ↓dn_ei, ↓dn_skip, ↓dn_seq, ↓dn_set, ↓dn_inc, ↓dn_putf, ↓dn_putz, ↓dn_ast, ↓dn_exp, ↓dn_if, ↓dn_ret, ↓dn_retz, ↓dn_retv, ↓dn_brk, ↓dn_cont, ↓dn_cs, ↓dn_sw, ↓dn_pop32, ↓dn_pop64, ↓dn_aop, ↓dn_call, ↓dn_max, ↓dn_min, ↓dn_acp, ↓dn_i2l, ↓dn_args0, ↓dn_args1, og_pad, og_ent, og_rlt, og_rle, og_rgt, og_rge, og_req, og_rne, og_padd, og_psub, og_pmul, List.getD_cons_zero, List.getD_cons_succ, List.set_cons_zero, List.set_cons_succ, List.length_cons, List.length_nil, List.cons_append, List.nil_append, List.replicate, List.append_nil, Nat.reduceAdd, Nat.reduceSub, Nat.reduceEqDiff, if_true, if_false, reduceIte, Int.reduceAdd, Int.reduceSub, Int.reduceMul, Int.reduceNeg, Int.reduceLT, Int.reduceLE, Int.cast_ofNat_Int, true_or, or_true, true_and, and_true, false_and, List.mem_cons, List.not_mem_nil, or_false, false_or, ne_eq]
  refine ⟨fun e1 h1 => h1 = h ∧ ∃ c5, e1 = [1000, (s : Int), (sSet (sLive A) (sNp A) : Int), oW A D s (sNp A), 0, c5], ?_, ?_⟩
  · simp -implicitDefEqProofs only [↓dn_den, ↓dn_loc, ↓dn_k, ↓dn_add, ↓dn_sub, ↓dn_mul, ↓dn_div, ↓dn_rem, ↓dn_bop, ↓dn_ladd, ↓dn_lsub, ↓dn_lmul, ↓dn_ldiv, ↓dn_lrem, ↓dn_land, ↓dn_l2i, ↓dn_neg, ↓dn_get, ↓dn_fix, ↓dn_ald, ↓dn_gld, ↓dn_yld, ↓dn_len, ↓dn_gln, ↓dn_cc, ↓dn_cb, ↓dn_and, ↓dn_or, ↓dn_not, ↓dn_cite, ↓dn_ec, ↓dn_ei, ↓dn_skip, ↓dn_seq, ↓dn_set, ↓dn_inc, ↓dn_putf, ↓dn_putz, ↓dn_ast, ↓dn_exp, ↓dn_if, ↓dn_ret, ↓dn_retz, ↓dn_retv, ↓dn_brk, ↓dn_cont, ↓dn_cs, ↓dn_sw, ↓dn_pop32, ↓dn_pop64, ↓dn_aop, ↓dn_call, ↓dn_max, ↓dn_min, ↓dn_acp, ↓dn_i2l, ↓dn_args0, ↓dn_args1, og_pad, og_ent, og_rlt, og_rle, og_rgt, og_rge, og_req, og_rne, og_padd, og_psub, og_pmul, List.getD_cons_zero, List.getD_cons_succ, List.set_cons_zero, List.set_cons_succ, List.length_cons, List.length_nil, List.cons_append, List.nil_append, List.replicate, List.append_nil, Nat.reduceAdd, Nat.reduceSub, Nat.reduceEqDiff, if_true, if_false, reduceIte, Int.reduceAdd, Int.reduceSub, Int.reduceMul, Int.reduceNeg, Int.reduceLT, Int.reduceLE, Int.cast_ofNat_Int, true_or, or_true, true_and, and_true, false_and, List.mem_cons, List.not_mem_nil, or_false, false_or, ne_eq]
    refine og_loop (sNp A) (fun i e1 h1 => h1 = h ∧ e1 = [1000, (s : Int), (sSet (sLive A) (sNp A) : Int), oW A D s i, 0, (i : Int)]) ⟨rfl, rfl⟩ ?_
    rintro i e1 h1 hi ⟨rfl, rfl⟩
    simp -implicitDefEqProofs only [↓dn_den, ↓dn_loc, ↓dn_k, ↓dn_add, ↓dn_sub, ↓dn_mul, ↓dn_div, ↓dn_rem, ↓dn_bop, ↓dn_ladd, ↓dn_lsub, ↓dn_lmul, ↓dn_ldiv, ↓dn_lrem, ↓dn_land, ↓dn_l2i, ↓dn_neg, ↓dn_get, ↓dn_fix, ↓dn_ald, ↓dn_gld, ↓dn_yld, ↓dn_len, ↓dn_gln, ↓dn_cc, ↓dn_cb, ↓dn_and, ↓dn_or, ↓dn_not, ↓dn_cite, ↓dn_ec, ↓dn_ei, ↓dn_skip, ↓dn_seq, ↓dn_set, ↓dn_inc, ↓dn_putf, ↓dn_putz, ↓dn_ast, ↓dn_exp, ↓dn_if, ↓dn_ret, ↓dn_retz, ↓dn_retv, ↓dn_brk, ↓dn_cont, ↓dn_cs, ↓dn_sw, ↓dn_pop32, ↓dn_pop64, ↓dn_aop, ↓dn_call, ↓dn_max, ↓dn_min, ↓dn_acp, ↓dn_i2l, ↓dn_args0, ↓dn_args1, og_pad, og_ent, og_rlt, og_rle, og_rgt, og_rge, og_req, og_rne, og_padd, og_psub, og_pmul, List.getD_cons_zero, List.getD_cons_succ, List.set_cons_zero, List.set_cons_succ, List.length_cons, List.length_nil, List.cons_append, List.nil_append, List.replicate, List.append_nil, Nat.reduceAdd, Nat.reduceSub, Nat.reduceEqDiff, if_true, if_false, reduceIte, Int.reduceAdd, Int.reduceSub, Int.reduceMul, Int.reduceNeg, Int.reduceLT, Int.reduceLE, Int.cast_ofNat_Int, true_or, or_true, true_and, and_true, false_and, List.mem_cons, List.not_mem_nil, or_false, false_or, ne_eq, og_i32, og_i64]
    refine r_personMany hm ⟨fun hlt => ?_, fun hge => ?_⟩
    · rw [bt_and _ hsl i (by omega), sSet_tb]
      have hdi := hD i
      have w1 := oW_bd (A := A) (D := D) (s := s) (n := i + 1) hD (by omega)
      rw [hd i (by omega), bt_and s (by omega) i (by omega)]
      by_cases hl : sLive A i = true
      · rw [if_pos (by simp [hl]; omega)]
        refine ⟨fun _ => ?_, fun z => absurd (by trivial) z⟩
        by_cases hb : s.testBit i = true
        · rw [oW_s, if_pos hl, if_pos hb] at w1
          rw [if_pos hb]
          exact ⟨fun _ => ⟨by omega, by omega, by omega, by omega, og_nx_mk (by omega) ⟨rfl, by rw [oW_s, if_pos hl, if_pos hb]; simp⟩⟩, fun z => absurd (by trivial) z⟩
        · rw [oW_s, if_pos hl, if_neg hb] at w1
          rw [if_neg hb]
          exact ⟨fun z => absurd z (by decide), fun _ => ⟨by omega, by omega, by omega, by omega, by omega, og_nx_mk (by omega) ⟨rfl, by rw [oW_s, if_pos hl, if_neg hb]; simp⟩⟩⟩
      · rw [if_neg (by simp [hl])]
        exact ⟨fun z => absurd z (by decide), fun _ => ⟨by omega, og_nx_mk (by omega) ⟨rfl, by rw [oW_s, if_neg hl]; simp⟩⟩⟩
    · have e : i = sNp A := by omega
      subst e
      exact ⟨rfl, _, rfl⟩
  · rintro e1 h1 ⟨rfl, c5, rfl⟩
    simp -implicitDefEqProofs only [↓dn_den, ↓dn_loc, ↓dn_k, ↓dn_add, ↓dn_sub, ↓dn_mul, ↓dn_div, ↓dn_rem, ↓dn_bop, ↓dn_ladd, ↓dn_lsub, ↓dn_lmul, ↓dn_ldiv, ↓dn_lrem, ↓dn_land, ↓dn_l2i, ↓dn_neg, ↓dn_get, ↓dn_fix, ↓dn_ald, ↓dn_gld, ↓dn_yld, ↓dn_len, ↓dn_gln, ↓dn_cc, ↓dn_cb, ↓dn_and, ↓dn_or, ↓dn_not, ↓dn_cite, ↓dn_ec, ↓dn_ei, ↓dn_skip, ↓dn_seq, ↓dn_set, ↓dn_inc, ↓dn_putf, ↓dn_putz, ↓dn_ast, ↓dn_exp, ↓dn_if, ↓dn_ret, ↓dn_retz, ↓dn_retv, ↓dn_brk, ↓dn_cont, ↓dn_cs, ↓dn_sw, ↓dn_pop32, ↓dn_pop64, ↓dn_aop, ↓dn_call, ↓dn_max, ↓dn_min, ↓dn_acp, ↓dn_i2l, ↓dn_args0, ↓dn_args1, og_pad, og_ent, og_rlt, og_rle, og_rgt, og_rge, og_req, og_rne, og_padd, og_psub, og_pmul, List.getD_cons_zero, List.getD_cons_succ, List.set_cons_zero, List.set_cons_succ, List.length_cons, List.length_nil, List.cons_append, List.nil_append, List.replicate, List.append_nil, Nat.reduceAdd, Nat.reduceSub, Nat.reduceEqDiff, if_true, if_false, reduceIte, Int.reduceAdd, Int.reduceSub, Int.reduceMul, Int.reduceNeg, Int.reduceLT, Int.reduceLE, Int.cast_ofNat_Int, true_or, or_true, true_and, and_true, false_and, List.mem_cons, List.not_mem_nil, or_false, false_or, ne_eq]
    exact hK
theorem r_odds {g M : Int} (hR : hasM h P) (hP : okQ P) (hn : isN h A) (ho : okY A) (hk : okK A) (h53 : h 1000 53 = 0) (hm0 : A 0 2 ≤ 999) (hM : M ≤ 10000000) (hb : tmB M h) (hK : ∀ h', frQ h h' → tmB (M + 2000) h' → K (sOdds P A g) h') : m_Model_odds [1000, g] h K := by
  have h6 := ho.1
  have hnp : sNp A = (A 0 1).toNat := rfl
  have hb0 : tmB (M + 2000) h := ⟨hb.1, by have := hb.2; omega⟩
  have hl := sSet_lt (sLive A) (sNp A)
  have h2p := two_np ho
  unfold m_Model_odds
  simp -implicitDefEqProofs only [↓dn_den, ↓dn_loc, ↓dn_k, ↓dn_add, ↓dn_sub, ↓dn_mul, ↓dn_div, ↓dn_rem, ↓dn_bop, ↓dn_ladd, ↓dn_lsub, ↓dn_lmul, ↓dn_ldiv, ↓dn_lrem, ↓dn_land, ↓dn_l2i, ↓dn_neg, ↓dn_get, ↓dn_fix, ↓dn_ald, ↓dn_gld, ↓dn_yld, ↓dn_len, ↓dn_gln, ↓dn_cc, ↓dn_cb, ↓dn_and, ↓dn_or, ↓dn_not, ↓dn_cite, ↓dn_ec, ↓dn_ei, ↓dn_skip, ↓dn_seq, ↓dn_set, ↓dn_inc, ↓dn_putf, ↓dn_putz, ↓dn_ast, ↓dn_exp, ↓dn_if, ↓dn_ret, ↓dn_retz, ↓dn_retv, ↓dn_brk, ↓dn_cont, ↓dn_cs, ↓dn_sw, ↓dn_pop32, ↓dn_pop64, ↓dn_aop, ↓dn_call, ↓dn_max, ↓dn_min, ↓dn_acp, ↓dn_i2l, ↓dn_args0, ↓dn_args1, og_pad, og_ent, og_rlt, og_rle, og_rgt, og_rge, og_req, og_rne, og_padd, og_psub, og_pmul, List.getD_cons_zero, List.getD_cons_succ, List.set_cons_zero, List.set_cons_succ, List.length_cons, List.length_nil, List.cons_append, List.nil_append, List.replicate, List.append_nil, Nat.reduceAdd, Nat.reduceSub, Nat.reduceEqDiff, if_true, if_false, reduceIte, Int.reduceAdd, Int.reduceSub, Int.reduceMul, Int.reduceNeg, Int.reduceLT, Int.reduceLE, Int.cast_ofNat_Int, true_or, or_true, true_and, and_true, false_and, List.mem_cons, List.not_mem_nil, or_false, false_or, ne_eq, og_i32, og_i64]
  unfold sOdds at hK
  have no : ¬ (A 0 2 < 999 ∧ (g = -1 ∨ (0 ≤ g ∧ g < A 0 0))) → K (-1000000000000000) h := fun z => by rw [if_neg z] at hK; exact hK h frQ_rf hb0
  refine (fun (y : (g = -1 ∨ (0 ≤ g ∧ g < A 0 0)) → _) => ⟨fun z => r_isGrave hn.1 ho ⟨fun a => y (Or.inr (iteP1 a)), fun a => no (fun q => q.2.elim z (iteP0 a))⟩, fun z => y (Or.inl (by simpa using z))⟩) ?_
  · intro hg
    refine r_isAhead hn.1 (by omega) (by decide) (by decide) ⟨fun hq => ?_, fun hq => no (fun z => iteP0 hq ⟨by decide, by omega⟩)⟩
    have hq := iteP1 hq
    have hlt9 : A 0 2 < 999 := by omega
    rw [if_pos ⟨hlt9, hg⟩] at hK
    refine ⟨fun e1 h1 => (∃ c5, e1 = [1000, g, (sSet (sLive A) (sNp A) : Int), oAll A (sNp A), 0, c5, 0, 0, 0, 0]) ∧ (∀ p : Nat, p < sNp A → h1 1044 p = sDs P A p) ∧ (∀ i k, i ≠ 1044 → i ≠ 1072 → (i = 1000 → k ≠ 48 ∧ k ≠ 51 ∧ k ≠ 97) → h1 i k = h i k), ?_, ?_⟩
    · simp -implicitDefEqProofs only [↓dn_den, ↓dn_loc, ↓dn_k, ↓dn_add, ↓dn_sub, ↓dn_mul, ↓dn_div, ↓dn_rem, ↓dn_bop, ↓dn_ladd, ↓dn_lsub, ↓dn_lmul, ↓dn_ldiv, ↓dn_lrem, ↓dn_land, ↓dn_l2i, ↓dn_neg, ↓dn_get, ↓dn_fix, ↓dn_ald, ↓dn_gld, ↓dn_yld, ↓dn_len, ↓dn_gln, ↓dn_cc, ↓dn_cb, ↓dn_and, ↓dn_or, ↓dn_not, ↓dn_cite, ↓dn_ec, ↓dn_ei, ↓dn_skip, ↓dn_seq, ↓dn_set, ↓dn_inc, ↓dn_putf, ↓dn_putz, ↓dn_ast, ↓dn_exp, ↓dn_if, ↓dn_ret, ↓dn_retz, ↓dn_retv, ↓dn_brk, ↓dn_cont, ↓dn_cs, ↓dn_sw, ↓dn_pop32, ↓dn_pop64, ↓dn_aop, ↓dn_call, ↓dn_max, ↓dn_min, ↓dn_acp, ↓dn_i2l, ↓dn_args0, ↓dn_args1, og_pad, og_ent, og_rlt, og_rle, og_rgt, og_rge, og_req, og_rne, og_padd, og_psub, og_pmul, List.getD_cons_zero, List.getD_cons_succ, List.set_cons_zero, List.set_cons_succ, List.length_cons, List.length_nil, List.cons_append, List.nil_append, List.replicate, List.append_nil, Nat.reduceAdd, Nat.reduceSub, Nat.reduceEqDiff, if_true, if_false, reduceIte, Int.reduceAdd, Int.reduceSub, Int.reduceMul, Int.reduceNeg, Int.reduceLT, Int.reduceLE, Int.cast_ofNat_Int, true_or, or_true, true_and, and_true, false_and, List.mem_cons, List.not_mem_nil, or_false, false_or, ne_eq]
      refine og_loop (sNp A) (fun i e1 h1 => e1 = [1000, g, (sSet (sLive A) i : Int), oAll A i, 0, (i : Int), 0, 0, 0, 0] ∧ (∀ p : Nat, p < i → h1 1044 p = sDs P A p) ∧ (∀ i k, i ≠ 1044 → i ≠ 1072 → (i = 1000 → k ≠ 48 ∧ k ≠ 51 ∧ k ≠ 97) → h1 i k = h i k)) ⟨rfl, fun p hp => by omega, fun _ _ _ _ _ => rfl⟩ ?_
      rintro i e1 h1 hi ⟨rfl, hz, hf⟩
      have hm1 : isM h1 A := isM_fr hn.1 (fun i k hi => hf i k (by omega) (by omega) (fun z => by omega))
      have hR1 : hasM h1 P := hasM_fr hR (fun i k hi => hf i k (by omega) (by omega) (fun z => by omega))
      simp -implicitDefEqProofs only [↓dn_den, ↓dn_loc, ↓dn_k, ↓dn_add, ↓dn_sub, ↓dn_mul, ↓dn_div, ↓dn_rem, ↓dn_bop, ↓dn_ladd, ↓dn_lsub, ↓dn_lmul, ↓dn_ldiv, ↓dn_lrem, ↓dn_land, ↓dn_l2i, ↓dn_neg, ↓dn_get, ↓dn_fix, ↓dn_ald, ↓dn_gld, ↓dn_yld, ↓dn_len, ↓dn_gln, ↓dn_cc, ↓dn_cb, ↓dn_and, ↓dn_or, ↓dn_not, ↓dn_cite, ↓dn_ec, ↓dn_ei, ↓dn_skip, ↓dn_seq, ↓dn_set, ↓dn_inc, ↓dn_putf, ↓dn_putz, ↓dn_ast, ↓dn_exp, ↓dn_if, ↓dn_ret, ↓dn_retz, ↓dn_retv, ↓dn_brk, ↓dn_cont, ↓dn_cs, ↓dn_sw, ↓dn_pop32, ↓dn_pop64, ↓dn_aop, ↓dn_call, ↓dn_max, ↓dn_min, ↓dn_acp, ↓dn_i2l, ↓dn_args0, ↓dn_args1, og_pad, og_ent, og_rlt, og_rle, og_rgt, og_rge, og_req, og_rne, og_padd, og_psub, og_pmul, List.getD_cons_zero, List.getD_cons_succ, List.set_cons_zero, List.set_cons_succ, List.length_cons, List.length_nil, List.cons_append, List.nil_append, List.replicate, List.append_nil, Nat.reduceAdd, Nat.reduceSub, Nat.reduceEqDiff, if_true, if_false, reduceIte, Int.reduceAdd, Int.reduceSub, Int.reduceMul, Int.reduceNeg, Int.reduceLT, Int.reduceLE, Int.cast_ofNat_Int, true_or, or_true, true_and, and_true, false_and, List.mem_cons, List.not_mem_nil, or_false, false_or, ne_eq, og_i32, og_i64]
      refine r_personMany hm1 ⟨fun hlt => ?_, fun hge => ?_⟩
      · refine r_diesOf hR1 hP hm1 ⟨ho, by omega, hlt⟩ (fun h2 hE => ?_)
        have hf3 : ∀ j k, j ≠ 1044 → j ≠ 1072 → (j = 1000 → k ≠ 48 ∧ k ≠ 51 ∧ k ≠ 97) → og_up h2 1044 (i : Int) (sCut (sVal (P 8) A i 0) 100) j k = h j k := fun j k a b c => by rw [og_up_i a, hE j k b c]; exact hf j k a b c
        have hm3 : isM (og_up h2 1044 (i : Int) (sCut (sVal (P 8) A i 0) 100)) A := isM_fr hn.1 (fun i k hi => hf3 i k (by omega) (by omega) (fun z => by omega))
        have hz3 : ∀ p : Nat, p < i + 1 → og_up h2 1044 (i : Int) (sCut (sVal (P 8) A i 0) 100) 1044 p = sDs P A p := by
          intro p hp
          by_cases e : p = i
          · subst e; rw [og_up_eq]; rfl
          · rw [og_up_k (by omega), hE _ _ (by decide) (fun z => absurd z (by decide))]; exact hz p (by omega)
        have al := oAll_bd (A := A) (n := i) (by omega)
        refine ⟨by omega, by omega, r_isAlive hm3 ho (by omega) hlt ⟨fun a => ?_, fun a => ?_⟩⟩
        · have hlv := ite10 a
          have hsl := sSet_le (f := sLive A) (n := i) (m := 10) (by omega) (by omega)
          rw [bt_or _ hsl i (by omega)]
          exact ⟨by omega, by omega, og_nx_mk (by omega) ⟨by rw [sSet_s, if_pos hlv, oAll_s, if_pos hlv]; simp, hz3, hf3⟩⟩
        · have hlv := ite00 a
          exact ⟨by omega, og_nx_mk (by omega) ⟨by rw [sSet_s, hlv, oAll_s, hlv]; simp, hz3, hf3⟩⟩
      · have e : i = sNp A := by omega
        subst e
        exact ⟨⟨_, rfl⟩, hz, hf⟩
    · rintro e1 h1 ⟨⟨c5, rfl⟩, hz, hf⟩
      simp -implicitDefEqProofs only [↓dn_den, ↓dn_loc, ↓dn_k, ↓dn_add, ↓dn_sub, ↓dn_mul, ↓dn_div, ↓dn_rem, ↓dn_bop, ↓dn_ladd, ↓dn_lsub, ↓dn_lmul, ↓dn_ldiv, ↓dn_lrem, ↓dn_land, ↓dn_l2i, ↓dn_neg, ↓dn_get, ↓dn_fix, ↓dn_ald, ↓dn_gld, ↓dn_yld, ↓dn_len, ↓dn_gln, ↓dn_cc, ↓dn_cb, ↓dn_and, ↓dn_or, ↓dn_not, ↓dn_cite, ↓dn_ec, ↓dn_ei, ↓dn_skip, ↓dn_seq, ↓dn_set, ↓dn_inc, ↓dn_putf, ↓dn_putz, ↓dn_ast, ↓dn_exp, ↓dn_if, ↓dn_ret, ↓dn_retz, ↓dn_retv, ↓dn_brk, ↓dn_cont, ↓dn_cs, ↓dn_sw, ↓dn_pop32, ↓dn_pop64, ↓dn_aop, ↓dn_call, ↓dn_max, ↓dn_min, ↓dn_acp, ↓dn_i2l, ↓dn_args0, ↓dn_args1, og_pad, og_ent, og_rlt, og_rle, og_rgt, og_rge, og_req, og_rne, og_padd, og_psub, og_pmul, List.getD_cons_zero, List.getD_cons_succ, List.set_cons_zero, List.set_cons_succ, List.length_cons, List.length_nil, List.cons_append, List.nil_append, List.replicate, List.append_nil, Nat.reduceAdd, Nat.reduceSub, Nat.reduceEqDiff, if_true, if_false, reduceIte, Int.reduceAdd, Int.reduceSub, Int.reduceMul, Int.reduceNeg, Int.reduceLT, Int.reduceLE, Int.cast_ofNat_Int, true_or, or_true, true_and, and_true, false_and, List.mem_cons, List.not_mem_nil, or_false, false_or, ne_eq]
      have hfQ : frQ h h1 := fun i k a b c => hf i k (by omega) (by omega) (fun z => by have := b z; omega)
      have e54 : h1 1000 54 = h 1000 54 := hf _ _ (by decide) (by decide) (fun _ => by decide)
      have e53 : h1 1000 53 = 0 := (hf _ _ (by decide) (by decide) (fun _ => by decide)).trans h53
      refine ⟨fun eg => ?_, fun eg => ?_⟩
      · have e1 : oSum (sOf P A g) (2 ^ sNp A) = oAll A (sNp A) := by
          rw [← oTot (A := A) (D := sDs P A) (sNp A)]
          apply oSum_congr
          intro s _
          unfold sOf
          by_cases hs : oSub A s (sNp A) = true
          · rw [if_pos ⟨hs, Or.inl eg⟩, if_pos hs]
          · rw [if_neg (fun z => hs z.1), if_neg hs]
        rw [e1] at hK
        exact hK h1 hfQ (by unfold tmB; rw [e54]; exact hb0)
      have hg' : 0 ≤ g ∧ g < A 0 0 := hg.elim (fun z => absurd z eg) id
      have hm1 : isM h1 A := isM_fr hn.1 (fun i k hi => hf i k (by omega) (by omega) (fun z => by omega))
      have hR1 : hasM h1 P := hasM_fr hR (fun i k hi => hf i k (by omega) (by omega) (fun z => by omega))
      have hN1 : isN h1 A := ⟨hm1, fun z => by
        have m := hn.2 h53
        exact ⟨by rw [hf _ _ (by decide) (by decide) (fun z => absurd z (by decide))]; exact m.1, fun k k0 k1 => by rw [hf _ _ (by decide) (by decide) (fun z => absurd z (by decide))]; exact m.2 k k0 k1⟩⟩
      refine r_putsAside' ho hN1 (fun h2 hT2 hN2 e2 q2 => ?_)
      have hz2 : ∀ p : Nat, p < sNp A → h2 1044 p = sDs P A p := fun p hp => by rw [q2 _ _ (by decide) (by omega)]; exact hz p hp
      refine ⟨fun e3 h3 => (∃ c7 c8 c9, e3 = [1000, g, (sSet (sLive A) (sNp A) : Int), oAll A (sNp A), 0, oSum (sOf P A g) (2 ^ sNp A), 0, c7, c8, c9]) ∧ inTh h1 h3 ∧ tmB (M + 2000) h3, ?_, ?_⟩
      · simp -implicitDefEqProofs only [↓dn_den, ↓dn_loc, ↓dn_k, ↓dn_add, ↓dn_sub, ↓dn_mul, ↓dn_div, ↓dn_rem, ↓dn_bop, ↓dn_ladd, ↓dn_lsub, ↓dn_lmul, ↓dn_ldiv, ↓dn_lrem, ↓dn_land, ↓dn_l2i, ↓dn_neg, ↓dn_get, ↓dn_fix, ↓dn_ald, ↓dn_gld, ↓dn_yld, ↓dn_len, ↓dn_gln, ↓dn_cc, ↓dn_cb, ↓dn_and, ↓dn_or, ↓dn_not, ↓dn_cite, ↓dn_ec, ↓dn_ei, ↓dn_skip, ↓dn_seq, ↓dn_set, ↓dn_inc, ↓dn_putf, ↓dn_putz, ↓dn_ast, ↓dn_exp, ↓dn_if, ↓dn_ret, ↓dn_retz, ↓dn_retv, ↓dn_brk, ↓dn_cont, ↓dn_cs, ↓dn_sw, ↓dn_pop32, ↓dn_pop64, ↓dn_aop, ↓dn_call, ↓dn_max, ↓dn_min, ↓dn_acp, ↓dn_i2l, ↓dn_args0, ↓dn_args1, og_pad, og_ent, og_rlt, og_rle, og_rgt, og_rge, og_req, og_rne, og_padd, og_psub, og_pmul, List.getD_cons_zero, List.getD_cons_succ, List.set_cons_zero, List.set_cons_succ, List.length_cons, List.length_nil, List.cons_append, List.nil_append, List.replicate, List.append_nil, Nat.reduceAdd, Nat.reduceSub, Nat.reduceEqDiff, if_true, if_false, reduceIte, Int.reduceAdd, Int.reduceSub, Int.reduceMul, Int.reduceNeg, Int.reduceLT, Int.reduceLE, Int.cast_ofNat_Int, true_or, or_true, true_and, and_true, false_and, List.mem_cons, List.not_mem_nil, or_false, false_or, ne_eq]
        refine og_loop (2 ^ sNp A) (fun i e3 h3 => (∃ c8 c9, e3 = [1000, g, (sSet (sLive A) (sNp A) : Int), oAll A (sNp A), 0, oSum (sOf P A g) i, 0, (i : Int), c8, c9]) ∧ inTh h1 h3 ∧ isN h3 A ∧ tmB (M + 6 * i) h3 ∧ ∀ p : Nat, p < sNp A → h3 1044 p = sDs P A p) ⟨⟨0, 0, rfl⟩, hT2, hN2, by unfold tmB; rw [e2, e54]; exact ⟨hb.1, by have := hb.2; omega⟩, hz2⟩ ?_
        rintro i e3 h3 hi ⟨⟨c8, c9, rfl⟩, hT3, hN3, hb3, hz3⟩
        simp -implicitDefEqProofs only [↓dn_den, ↓dn_loc, ↓dn_k, ↓dn_add, ↓dn_sub, ↓dn_mul, ↓dn_div, ↓dn_rem, ↓dn_bop, ↓dn_ladd, ↓dn_lsub, ↓dn_lmul, ↓dn_ldiv, ↓dn_lrem, ↓dn_land, ↓dn_l2i, ↓dn_neg, ↓dn_get, ↓dn_fix, ↓dn_ald, ↓dn_gld, ↓dn_yld, ↓dn_len, ↓dn_gln, ↓dn_cc, ↓dn_cb, ↓dn_and, ↓dn_or, ↓dn_not, ↓dn_cite, ↓dn_ec, ↓dn_ei, ↓dn_skip, ↓dn_seq, ↓dn_set, ↓dn_inc, ↓dn_putf, ↓dn_putz, ↓dn_ast, ↓dn_exp, ↓dn_if, ↓dn_ret, ↓dn_retz, ↓dn_retv, ↓dn_brk, ↓dn_cont, ↓dn_cs, ↓dn_sw, ↓dn_pop32, ↓dn_pop64, ↓dn_aop, ↓dn_call, ↓dn_max, ↓dn_min, ↓dn_acp, ↓dn_i2l, ↓dn_args0, ↓dn_args1, og_pad, og_ent, og_rlt, og_rle, og_rgt, og_rge, og_req, og_rne, og_padd, og_psub, og_pmul, List.getD_cons_zero, List.getD_cons_succ, List.set_cons_zero, List.set_cons_succ, List.length_cons, List.length_nil, List.cons_append, List.nil_append, List.replicate, List.append_nil, Nat.reduceAdd, Nat.reduceSub, Nat.reduceEqDiff, if_true, if_false, reduceIte, Int.reduceAdd, Int.reduceSub, Int.reduceMul, Int.reduceNeg, Int.reduceLT, Int.reduceLE, Int.cast_ofNat_Int, true_or, or_true, true_and, and_true, false_and, List.mem_cons, List.not_mem_nil, or_false, false_or, ne_eq, og_i32, og_i64]
        refine r_personMany hN3.1 ?_
        have eshl : og_bit og_oshl 1 (A 0 1) = ((2 ^ sNp A : Nat) : Int) := by
          have := bt_shl (sNp A) (by omega)
          rw [hnp, Int.toNat_of_nonneg (by omega)] at this
          exact this
        rw [eshl]
        refine ⟨fun hlt => ?_, fun hge => ?_⟩
        · have hi2 : i < 2 ^ sNp A := by omega
          have sm := sOf_sum (P := P) (A := A) (g := g) ho i
          have srg := sOf_rg (P := P) (A := A) (g := g) ho i
          have iff1 := oSub_and (A := A) hi2
          have iff2 := bt_sub (s := i) (L := sSet (sLive A) (sNp A)) (by omega) (by omega)
          have w1 := oW_bd (A := A) (D := sDs P A) (s := i) (n := sNp A) sDs_rg (by omega)
          have fin : ∀ (v c8 c9 : Int) (h4 : Hp), v = oSum (sOf P A g) i + sOf P A g i → inTh h1 h4 → isN h4 A → tmB (M + 6 * i + 6) h4 → (∀ k, h4 1044 k = h3 1044 k) → og_nx (2 ^ sNp A) (fun i e3 h3 => (∃ c8 c9, e3 = [1000, g, (sSet (sLive A) (sNp A) : Int), oAll A (sNp A), 0, oSum (sOf P A g) i, 0, (i : Int), c8, c9]) ∧ inTh h1 h3 ∧ isN h3 A ∧ tmB (M + 6 * i) h3 ∧ ∀ p : Nat, p < sNp A → h3 1044 p = sDs P A p) i [1000, g, (sSet (sLive A) (sNp A) : Int), oAll A (sNp A), 0, v, 0, (i : Int) + 1, c8, c9] h4 := by
            intro v c8 c9 h4 hv a1 a2 a3 a4
            exact og_nx_mk hi2 ⟨⟨c8, c9, by rw [hv, oSum_s]; simp⟩, a1, a2, ⟨a3.1, by have := a3.2; omega⟩, fun p hp => by rw [a4]; exact hz3 p hp⟩
          have hb3' : tmB (M + 6 * i + 6) h3 := ⟨hb3.1, by have := hb3.2; omega⟩
          refine ⟨fun hns => ?_, fun hsub => ?_⟩
          · have ef : sOf P A g i = 0 := by unfold sOf; exact if_neg (fun z => hns (iff2.mpr (iff1.mp z.1)))
            exact ⟨fun _ => ⟨by omega, fin _ _ _ _ (by rw [ef]; omega) hT3 hN3 hb3' (fun _ => rfl)⟩, fun z => absurd (by trivial) z⟩
          · have hsub' := iff1.mpr (iff2.mp (by simpa using hsub))
            have hsb := (oSub_at (sNp A)).mp hsub'
            refine r_rowsBy hN3.1 ho (by omega) sDs_rg hz3 ?_
            refine ⟨fun hz0 => ?_, fun hnz => ?_⟩
            · have ef : sOf P A g i = 0 := by unfold sOf; rw [hz0]; split <;> rfl
              exact ⟨by omega, fin _ _ _ _ (by rw [ef]; omega) hT3 hN3 hb3' (fun _ => rfl)⟩
            · refine r_die hN3 ho hk (by omega) hsb (fun h4 hN4 hF4 hf4 => ?_)
              have sb := sameB_die (A := A) (s := i) (sNp A)
              have oi := okY_die (s := i) ho (sNp A) (by omega)
              have ki := okK_die (s := i) ho hk (sNp A) (by omega) hsb
              have hT4 := inTh_M hT3 hF4
              have e54' : h4 1000 54 = h3 1000 54 := hf4 _ _ (by decide)
              refine r_monthGoes (hasM_T hR1 hT4) hP hN4 oi ki (by rw [sb.2.2.1]; omega) (by rw [e54']; exact ⟨hb3.1, by have := hb3.2; omega⟩) (fun h5 hN5 hF5 e5 => ?_)
              have hT5 := inTh_M hT4 hF5
              have tg := sTk_rg (P := P) oi
              have hb5 : tmB (M + 6 * i + 6) h5 := by unfold tmB; rw [e5, e54']; exact ⟨by have := hb3.1; omega, by have := hb3.2; omega⟩
              have e1044 : ∀ k, h5 1044 k = h3 1044 k := fun k => by rw [hF5.1 _ _ (by decide) (by decide) (fun z => absurd z (by decide)), hf4 _ _ (by decide)]
              have op := okY_pass (P := P) oi (by rw [sb.2.2.1]; omega)
              have e00 := (sPass_0 (P := P) (A := sDie A i (sNp A))).1
              refine ⟨fun e6 h6 => h6 = h5 ∧ ∃ c8 c9, e6 = [1000, g, (sSet (sLive A) (sNp A) : Int), oAll A (sNp A), 0, oSum (sOf P A g) i + sOf P A g i, 0, (i : Int), c8, c9], ?_, ?_⟩
              · simp -implicitDefEqProofs only [↓dn_den, ↓dn_loc, ↓dn_k, ↓dn_add, ↓dn_sub, ↓dn_mul, ↓dn_div, ↓dn_rem, ↓dn_bop, ↓dn_ladd, ↓dn_lsub, ↓dn_lmul, ↓dn_ldiv, ↓dn_lrem, ↓dn_land, ↓dn_l2i, ↓dn_neg, ↓dn_get, ↓dn_fix, ↓dn_ald, ↓dn_gld, ↓dn_yld, ↓dn_len, ↓dn_gln, ↓dn_cc, ↓dn_cb, ↓dn_and, ↓dn_or, ↓dn_not, ↓dn_cite, ↓dn_ec, ↓dn_ei, ↓dn_skip, ↓dn_seq, ↓dn_set, ↓dn_inc, ↓dn_putf, ↓dn_putz, ↓dn_ast, ↓dn_exp, ↓dn_if, ↓dn_ret, ↓dn_retz, ↓dn_retv, ↓dn_brk, ↓dn_cont, ↓dn_cs, ↓dn_sw, ↓dn_pop32, ↓dn_pop64, ↓dn_aop, ↓dn_call, ↓dn_max, ↓dn_min, ↓dn_acp, ↓dn_i2l, ↓dn_args0, ↓dn_args1, og_pad, og_ent, og_rlt, og_rle, og_rgt, og_rge, og_req, og_rne, og_padd, og_psub, og_pmul, List.getD_cons_zero, List.getD_cons_succ, List.set_cons_zero, List.set_cons_succ, List.length_cons, List.length_nil, List.cons_append, List.nil_append, List.replicate, List.append_nil, Nat.reduceAdd, Nat.reduceSub, Nat.reduceEqDiff, if_true, if_false, reduceIte, Int.reduceAdd, Int.reduceSub, Int.reduceMul, Int.reduceNeg, Int.reduceLT, Int.reduceLE, Int.cast_ofNat_Int, true_or, or_true, true_and, and_true, false_and, List.mem_cons, List.not_mem_nil, or_false, false_or, ne_eq, og_i64]
                refine r_inGrave hN5.1 op hg'.1 (by rw [e00, sb.1]; exact hg'.2) ⟨fun hf => ?_, fun hf => ?_⟩
                · have ef : sOf P A g i = oW A (sDs P A) i (sNp A) := by unfold sOf; exact if_pos ⟨hsub', Or.inr (by unfold sFill; simpa using hf)⟩
                  exact ⟨by omega, rfl, _, _, by rw [ef]⟩
                · have ef : sOf P A g i = 0 := by unfold sOf; exact if_neg (fun z => z.2.elim eg (fun q => by unfold sFill at q; rw [decide_eq_true_eq] at q; exact hf q))
                  exact ⟨rfl, _, _, by rw [ef, Int.add_zero]⟩
              · rintro e6 h7 ⟨rfl, c8', c9', rfl⟩
                simp -implicitDefEqProofs only [↓dn_den, ↓dn_loc, ↓dn_k, ↓dn_add, ↓dn_sub, ↓dn_mul, ↓dn_div, ↓dn_rem, ↓dn_bop, ↓dn_ladd, ↓dn_lsub, ↓dn_lmul, ↓dn_ldiv, ↓dn_lrem, ↓dn_land, ↓dn_l2i, ↓dn_neg, ↓dn_get, ↓dn_fix, ↓dn_ald, ↓dn_gld, ↓dn_yld, ↓dn_len, ↓dn_gln, ↓dn_cc, ↓dn_cb, ↓dn_and, ↓dn_or, ↓dn_not, ↓dn_cite, ↓dn_ec, ↓dn_ei, ↓dn_skip, ↓dn_seq, ↓dn_set, ↓dn_inc, ↓dn_putf, ↓dn_putz, ↓dn_ast, ↓dn_exp, ↓dn_if, ↓dn_ret, ↓dn_retz, ↓dn_retv, ↓dn_brk, ↓dn_cont, ↓dn_cs, ↓dn_sw, ↓dn_pop32, ↓dn_pop64, ↓dn_aop, ↓dn_call, ↓dn_max, ↓dn_min, ↓dn_acp, ↓dn_i2l, ↓dn_args0, ↓dn_args1, og_pad, og_ent, og_rlt, og_rle, og_rgt, og_rge, og_req, og_rne, og_padd, og_psub, og_pmul, List.getD_cons_zero, List.getD_cons_succ, List.set_cons_zero, List.set_cons_succ, List.length_cons, List.length_nil, List.cons_append, List.nil_append, List.replicate, List.append_nil, Nat.reduceAdd, Nat.reduceSub, Nat.reduceEqDiff, if_true, if_false, reduceIte, Int.reduceAdd, Int.reduceSub, Int.reduceMul, Int.reduceNeg, Int.reduceLT, Int.reduceLE, Int.cast_ofNat_Int, true_or, or_true, true_and, and_true, false_and, List.mem_cons, List.not_mem_nil, or_false, false_or, ne_eq, og_i32]
                refine r_triesAnew ho hT5 hm1 (fun h8 hT8 hN8 e8 _ hfr8 => ?_)
                exact ⟨by omega, fin _ _ _ _ rfl hT8 hN8 (by unfold tmB; rw [e8]; exact hb5) (fun k => by rw [hfr8 _ _ (by decide)]; exact e1044 k)⟩
        · have e : i = 2 ^ sNp A := by omega
          subst e
          exact ⟨⟨_, _, _, rfl⟩, hT3, hb3.1, by have := hb3.2; omega⟩
      · rintro e3 h3 ⟨⟨c7, c8, c9, rfl⟩, hT3, hb3⟩
        simp -implicitDefEqProofs only [↓dn_den, ↓dn_loc, ↓dn_k, ↓dn_add, ↓dn_sub, ↓dn_mul, ↓dn_div, ↓dn_rem, ↓dn_bop, ↓dn_ladd, ↓dn_lsub, ↓dn_lmul, ↓dn_ldiv, ↓dn_lrem, ↓dn_land, ↓dn_l2i, ↓dn_neg, ↓dn_get, ↓dn_fix, ↓dn_ald, ↓dn_gld, ↓dn_yld, ↓dn_len, ↓dn_gln, ↓dn_cc, ↓dn_cb, ↓dn_and, ↓dn_or, ↓dn_not, ↓dn_cite, ↓dn_ec, ↓dn_ei, ↓dn_skip, ↓dn_seq, ↓dn_set, ↓dn_inc, ↓dn_putf, ↓dn_putz, ↓dn_ast, ↓dn_exp, ↓dn_if, ↓dn_ret, ↓dn_retz, ↓dn_retv, ↓dn_brk, ↓dn_cont, ↓dn_cs, ↓dn_sw, ↓dn_pop32, ↓dn_pop64, ↓dn_aop, ↓dn_call, ↓dn_max, ↓dn_min, ↓dn_acp, ↓dn_i2l, ↓dn_args0, ↓dn_args1, og_pad, og_ent, og_rlt, og_rle, og_rgt, og_rge, og_req, og_rne, og_padd, og_psub, og_pmul, List.getD_cons_zero, List.getD_cons_succ, List.set_cons_zero, List.set_cons_succ, List.length_cons, List.length_nil, List.cons_append, List.nil_append, List.replicate, List.append_nil, Nat.reduceAdd, Nat.reduceSub, Nat.reduceEqDiff, if_true, if_false, reduceIte, Int.reduceAdd, Int.reduceSub, Int.reduceMul, Int.reduceNeg, Int.reduceLT, Int.reduceLE, Int.cast_ofNat_Int, true_or, or_true, true_and, and_true, false_and, List.mem_cons, List.not_mem_nil, or_false, false_or, ne_eq]
        refine r_takesBack ho hT3 hm1 e53 (fun h4 hQ4 e4 _ => ?_)
        exact hK h4 (frQ_tr hfQ hQ4) (by unfold tmB; rw [e4]; exact hb3)
end
end
