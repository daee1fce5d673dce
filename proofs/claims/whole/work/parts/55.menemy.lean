-- enemies: the reference
theorem inTh_sc {h0 h h' : Hp} (hT : inTh h0 h) (hf : ∀ j k, ¬ ((1039 ≤ j ∧ j ≤ 1044) ∨ j = 1046) → h' j k = h j k) : inTh h0 h' :=
  ⟨(hf _ _ (by decide)).trans hT.1, fun k a b => (hf _ _ (by decide)).trans (hT.2.1 k a b), fun k hk => (hf _ _ (by decide)).trans (hT.2.2.1 k hk), fun j k a b => (hf j k (by omega)).trans (hT.2.2.2 j k a b)⟩
theorem isN_sc {h h' : Hp} {A : Yd} (hn : isN h A) (hf : ∀ j k, ¬ ((1039 ≤ j ∧ j ≤ 1044) ∨ j = 1046) → h' j k = h j k) : isN h' A := by
  refine ⟨isM_fr hn.1 (fun i k hi => hf i k (by omega)), fun z => ?_⟩
  rw [hf _ _ (by decide)] at z
  have m := hn.2 z
  exact ⟨by rw [hf _ _ (by decide)]; exact m.1, fun k k0 k1 => by rw [hf _ _ (by decide)]; exact m.2 k k0 k1⟩
section
variable {h h0 : Hp} {A : Yd} {P : Pr} {K : Int → Hp → Prop}
theorem r_canDig {n : Int} {d : List Int} (hn : 1 ≤ n ∧ n ≤ 4) (hl : (d.length : Int) = n) (hd : dOK (A 0 0) d) (hf : footIs h 1042 d) (hN : isN h A) (ho : okY A)
    (hK0 : sDig A d = none → ∀ h', frM h h' → (∀ i k, i ≠ 1037 → h' i k = h i k) → K 0 h') (hK1 : ∀ B, sDig A d = some B → sameG A B → ∀ h', isN h' B → frM h h' → (∀ i k, i ≠ 1037 → h' i k = h i k) → K 1 h') : m_Model_canDig [1000, n] h K := by
  have h6 := ho.1
  unfold m_Model_canDig
  simp -implicitDefEqProofs only [↓dn_den, ↓dn_loc, ↓dn_k, ↓dn_add, ↓dn_sub, ↓dn_mul, ↓dn_div, ↓dn_rem, ↓dn_bop, ↓dn_ladd, ↓dn_lsub, ↓dn_lmul, ↓dn_ldiv, ↓dn_lrem, ↓dn_land, ↓dn_l2i, ↓dn_neg, ↓dn_get, ↓dn_fix, ↓dn_ald, ↓dn_gld, ↓dn_yld, ↓dn_len, ↓dn_gln, ↓dn_cc, ↓dn_cb, ↓dn_and, ↓dn_or, ↓dn_not, ↓dn_cite, ↓dn_ec, ↓dn_ei, ↓dn_skip, ↓dn_seq, ↓dn_set, ↓dn_inc, ↓dn_putf, ↓dn_putz, ↓dn_ast, ↓dn_exp, ↓dn_if, ↓dn_ret, ↓dn_retz, ↓dn_retv, ↓dn_brk, ↓dn_cont, ↓dn_cs, ↓dn_sw, ↓dn_pop32, ↓dn_pop64, ↓dn_aop, ↓dn_call, ↓dn_max, ↓dn_min, ↓dn_acp, ↓dn_i2l, ↓dn_args0, ↓dn_args1, og_pad, og_ent, og_rlt, og_rle, og_rgt, og_rge, og_req, og_rne, og_padd, og_psub, og_pmul, List.getD_cons_zero, List.getD_cons_succ, List.set_cons_zero, List.set_cons_succ, List.length_cons, List.length_nil, List.cons_append, List.nil_append, List.replicate, List.append_nil, Nat.reduceAdd, Nat.reduceSub, Nat.reduceEqDiff, if_true, if_false, reduceIte, Int.reduceAdd, Int.reduceSub, Int.reduceMul, Int.reduceNeg, Int.reduceLT, Int.reduceLE, Int.cast_ofNat_Int, true_or, or_true, true_and, and_true, false_and, List.mem_cons, List.not_mem_nil, or_false, false_or, ne_eq, og_i32]
  refine ⟨fun e1 h1 => frM h h1 ∧ (∀ i k, i ≠ 1037 → h1 i k = h i k) ∧ ((e1.getD 2 0 = 1 ∧ ∃ B, sDig A d = some B ∧ sameG A B ∧ isN h1 B) ∨ (e1.getD 2 0 = 0 ∧ sDig A d = none)), ?_, ?_⟩
  · simp -implicitDefEqProofs only [↓dn_den, ↓dn_loc, ↓dn_k, ↓dn_add, ↓dn_sub, ↓dn_mul, ↓dn_div, ↓dn_rem, ↓dn_bop, ↓dn_ladd, ↓dn_lsub, ↓dn_lmul, ↓dn_ldiv, ↓dn_lrem, ↓dn_land, ↓dn_l2i, ↓dn_neg, ↓dn_get, ↓dn_fix, ↓dn_ald, ↓dn_gld, ↓dn_yld, ↓dn_len, ↓dn_gln, ↓dn_cc, ↓dn_cb, ↓dn_and, ↓dn_or, ↓dn_not, ↓dn_cite, ↓dn_ec, ↓dn_ei, ↓dn_skip, ↓dn_seq, ↓dn_set, ↓dn_inc, ↓dn_putf, ↓dn_putz, ↓dn_ast, ↓dn_exp, ↓dn_if, ↓dn_ret, ↓dn_retz, ↓dn_retv, ↓dn_brk, ↓dn_cont, ↓dn_cs, ↓dn_sw, ↓dn_pop32, ↓dn_pop64, ↓dn_aop, ↓dn_call, ↓dn_max, ↓dn_min, ↓dn_acp, ↓dn_i2l, ↓dn_args0, ↓dn_args1, og_pad, og_ent, og_rlt, og_rle, og_rgt, og_rge, og_req, og_rne, og_padd, og_psub, og_pmul, List.getD_cons_zero, List.getD_cons_succ, List.set_cons_zero, List.set_cons_succ, List.length_cons, List.length_nil, List.cons_append, List.nil_append, List.replicate, List.append_nil, Nat.reduceAdd, Nat.reduceSub, Nat.reduceEqDiff, if_true, if_false, reduceIte, Int.reduceAdd, Int.reduceSub, Int.reduceMul, Int.reduceNeg, Int.reduceLT, Int.reduceLE, Int.cast_ofNat_Int, true_or, or_true, true_and, and_true, false_and, List.mem_cons, List.not_mem_nil, or_false, false_or, ne_eq]
    refine og_loop d.length (fun i e1 h1 => frM h h1 ∧ (∀ i k, i ≠ 1037 → h1 i k = h i k) ∧ ((e1 = [1000, n, 1, (i : Int)] ∧ ∃ B, sDig A d = sDig B (d.drop i) ∧ sameG A B ∧ isN h1 B) ∨ (e1 = [1000, n, 0, (i : Int)] ∧ sDig A d = none))) ⟨frM_rf, fun _ _ _ => rfl, Or.inl ⟨rfl, A, rfl, ⟨ho, fun _ _ _ => rfl⟩, hN⟩⟩ ?_
    rintro i e1 h1 hi ⟨hF, hfr, hor⟩
    rcases hor with ⟨rfl, B, hB, hsB, hNB⟩ | ⟨rfl, hnone⟩
    · simp -implicitDefEqProofs only [↓dn_den, ↓dn_loc, ↓dn_k, ↓dn_add, ↓dn_sub, ↓dn_mul, ↓dn_div, ↓dn_rem, ↓dn_bop, ↓dn_ladd, ↓dn_lsub, ↓dn_lmul, ↓dn_ldiv, ↓dn_lrem, ↓dn_land, ↓dn_l2i, ↓dn_neg, ↓dn_get, ↓dn_fix, ↓dn_ald, ↓dn_gld, ↓dn_yld, ↓dn_len, ↓dn_gln, ↓dn_cc, ↓dn_cb, ↓dn_and, ↓dn_or, ↓dn_not, ↓dn_cite, ↓dn_ec, ↓dn_ei, ↓dn_skip, ↓dn_seq, ↓dn_set, ↓dn_inc, ↓dn_putf, ↓dn_putz, ↓dn_ast, ↓dn_exp, ↓dn_if, ↓dn_ret, ↓dn_retz, ↓dn_retv, ↓dn_brk, ↓dn_cont, ↓dn_cs, ↓dn_sw, ↓dn_pop32, ↓dn_pop64, ↓dn_aop, ↓dn_call, ↓dn_max, ↓dn_min, ↓dn_acp, ↓dn_i2l, ↓dn_args0, ↓dn_args1, og_pad, og_ent, og_rlt, og_rle, og_rgt, og_rge, og_req, og_rne, og_padd, og_psub, og_pmul, List.getD_cons_zero, List.getD_cons_succ, List.set_cons_zero, List.set_cons_succ, List.length_cons, List.length_nil, List.cons_append, List.nil_append, List.replicate, List.append_nil, Nat.reduceAdd, Nat.reduceSub, Nat.reduceEqDiff, if_true, if_false, reduceIte, Int.reduceAdd, Int.reduceSub, Int.reduceMul, Int.reduceNeg, Int.reduceLT, Int.reduceLE, Int.cast_ofNat_Int, true_or, or_true, true_and, and_true, false_and, List.mem_cons, List.not_mem_nil, or_false, false_or, ne_eq, og_i32]
      refine ⟨fun hlt => ⟨fun _ => ?_, fun z => absurd z (by decide)⟩, fun hge => ?_⟩
      · have hi' : i < d.length := by omega
        have hdi := hd i hi'
        have e12 : h1 1042 i = d.getD i 0 := by rw [hfr 1042 i (by decide)]; exact hf i hi'
        have hb0 : B 0 0 = A 0 0 := hsB.2 0 0 (by decide)
        have hg1 : d.getD i 0 < B 0 0 := by rw [hb0]; exact hdi.2
        have hw := hNB.1.2.1 (d.getD i 0) hdi.1 hg1
        have o2 := hsB.1.2.1 (d.getD i 0) hdi.1 hg1
        rw [sDig_s hi'] at hB
        rw [e12]
        refine ⟨by omega, by omega, r_inGrave hNB.1 hsB.1 hdi.1 hg1 ⟨fun hz => ?_, fun hz => ?_⟩⟩
        · rw [e12]
          refine ⟨by omega, by omega, r_deepOf hNB.1 hsB.1 hdi.1 hg1 ⟨fun h9 => ⟨fun _ => ?_, fun z => absurd z (by decide)⟩, fun h9 => ⟨fun z => absurd (by trivial) z, fun _ => ?_⟩⟩⟩
          · rw [if_pos ⟨hz, h9⟩] at hB
            rw [e12, hw.2.1]
            refine ⟨by omega, by omega, by omega, by omega, by omega, by omega, by omega, by omega, og_nx_mk hi' ⟨frM_up hF (by omega), fun j k hj => by rw [og_up_i hj]; exact hfr j k hj, Or.inl ⟨by simp, _, hB, sameG_up hsB hdi h9, ?_⟩⟩⟩
            exact isN_upG (c := 2) (by omega) hsB.1 hdi.1 hg1 hNB
          · rw [if_neg (fun z => h9 z.2)] at hB
            exact ⟨by omega, og_nx_mk hi' ⟨hF, hfr, Or.inr ⟨by simp, hB⟩⟩⟩
        · rw [if_neg (fun z => hz z.1)] at hB
          exact ⟨fun z => absurd (by trivial) z, fun _ => ⟨by omega, og_nx_mk hi' ⟨hF, hfr, Or.inr ⟨by simp, hB⟩⟩⟩⟩
      · have e : i = d.length := by omega
        subst e
        rw [List.drop_length] at hB
        exact ⟨hF, hfr, Or.inl ⟨B, hB, hsB, hNB⟩⟩
    · simp -implicitDefEqProofs only [↓dn_den, ↓dn_loc, ↓dn_k, ↓dn_add, ↓dn_sub, ↓dn_mul, ↓dn_div, ↓dn_rem, ↓dn_bop, ↓dn_ladd, ↓dn_lsub, ↓dn_lmul, ↓dn_ldiv, ↓dn_lrem, ↓dn_land, ↓dn_l2i, ↓dn_neg, ↓dn_get, ↓dn_fix, ↓dn_ald, ↓dn_gld, ↓dn_yld, ↓dn_len, ↓dn_gln, ↓dn_cc, ↓dn_cb, ↓dn_and, ↓dn_or, ↓dn_not, ↓dn_cite, ↓dn_ec, ↓dn_ei, ↓dn_skip, ↓dn_seq, ↓dn_set, ↓dn_inc, ↓dn_putf, ↓dn_putz, ↓dn_ast, ↓dn_exp, ↓dn_if, ↓dn_ret, ↓dn_retz, ↓dn_retv, ↓dn_brk, ↓dn_cont, ↓dn_cs, ↓dn_sw, ↓dn_pop32, ↓dn_pop64, ↓dn_aop, ↓dn_call, ↓dn_max, ↓dn_min, ↓dn_acp, ↓dn_i2l, ↓dn_args0, ↓dn_args1, og_pad, og_ent, og_rlt, og_rle, og_rgt, og_rge, og_req, og_rne, og_padd, og_psub, og_pmul, List.getD_cons_zero, List.getD_cons_succ, List.set_cons_zero, List.set_cons_succ, List.length_cons, List.length_nil, List.cons_append, List.nil_append, List.replicate, List.append_nil, Nat.reduceAdd, Nat.reduceSub, Nat.reduceEqDiff, if_true, if_false, reduceIte, Int.reduceAdd, Int.reduceSub, Int.reduceMul, Int.reduceNeg, Int.reduceLT, Int.reduceLE, Int.cast_ofNat_Int, true_or, or_true, true_and, and_true, false_and, List.mem_cons, List.not_mem_nil, or_false, false_or, ne_eq, og_i32]
      exact ⟨fun _ => ⟨fun z => absurd (by trivial) z, fun _ => ⟨hF, hfr, Or.inr hnone⟩⟩, fun _ => ⟨hF, hfr, Or.inr hnone⟩⟩
  · rintro e1 h1 ⟨hF, hfr, ⟨e, B, hB, hsB, hNB⟩ | ⟨e, hnone⟩⟩
    · simp -implicitDefEqProofs only [↓dn_den, ↓dn_loc, ↓dn_k, ↓dn_add, ↓dn_sub, ↓dn_mul, ↓dn_div, ↓dn_rem, ↓dn_bop, ↓dn_ladd, ↓dn_lsub, ↓dn_lmul, ↓dn_ldiv, ↓dn_lrem, ↓dn_land, ↓dn_l2i, ↓dn_neg, ↓dn_get, ↓dn_fix, ↓dn_ald, ↓dn_gld, ↓dn_yld, ↓dn_len, ↓dn_gln, ↓dn_cc, ↓dn_cb, ↓dn_and, ↓dn_or, ↓dn_not, ↓dn_cite, ↓dn_ec, ↓dn_ei, ↓dn_skip, ↓dn_seq, ↓dn_set, ↓dn_inc, ↓dn_putf, ↓dn_putz, ↓dn_ast, ↓dn_exp, ↓dn_if, ↓dn_ret, ↓dn_retz, ↓dn_retv, ↓dn_brk, ↓dn_cont, ↓dn_cs, ↓dn_sw, ↓dn_pop32, ↓dn_pop64, ↓dn_aop, ↓dn_call, ↓dn_max, ↓dn_min, ↓dn_acp, ↓dn_i2l, ↓dn_args0, ↓dn_args1, og_pad, og_ent, og_rlt, og_rle, og_rgt, og_rge, og_req, og_rne, og_padd, og_psub, og_pmul, List.getD_cons_zero, List.getD_cons_succ, List.set_cons_zero, List.set_cons_succ, List.length_cons, List.length_nil, List.cons_append, List.nil_append, List.replicate, List.append_nil, Nat.reduceAdd, Nat.reduceSub, Nat.reduceEqDiff, if_true, if_false, reduceIte, Int.reduceAdd, Int.reduceSub, Int.reduceMul, Int.reduceNeg, Int.reduceLT, Int.reduceLE, Int.cast_ofNat_Int, true_or, or_true, true_and, and_true, false_and, List.mem_cons, List.not_mem_nil, or_false, false_or, ne_eq]
      rw [e]
      exact ⟨Or.inr rfl, hK1 B hB hsB h1 hNB hF hfr⟩
    · simp -implicitDefEqProofs only [↓dn_den, ↓dn_loc, ↓dn_k, ↓dn_add, ↓dn_sub, ↓dn_mul, ↓dn_div, ↓dn_rem, ↓dn_bop, ↓dn_ladd, ↓dn_lsub, ↓dn_lmul, ↓dn_ldiv, ↓dn_lrem, ↓dn_land, ↓dn_l2i, ↓dn_neg, ↓dn_get, ↓dn_fix, ↓dn_ald, ↓dn_gld, ↓dn_yld, ↓dn_len, ↓dn_gln, ↓dn_cc, ↓dn_cb, ↓dn_and, ↓dn_or, ↓dn_not, ↓dn_cite, ↓dn_ec, ↓dn_ei, ↓dn_skip, ↓dn_seq, ↓dn_set, ↓dn_inc, ↓dn_putf, ↓dn_putz, ↓dn_ast, ↓dn_exp, ↓dn_if, ↓dn_ret, ↓dn_retz, ↓dn_retv, ↓dn_brk, ↓dn_cont, ↓dn_cs, ↓dn_sw, ↓dn_pop32, ↓dn_pop64, ↓dn_aop, ↓dn_call, ↓dn_max, ↓dn_min, ↓dn_acp, ↓dn_i2l, ↓dn_args0, ↓dn_args1, og_pad, og_ent, og_rlt, og_rle, og_rgt, og_rge, og_req, og_rne, og_padd, og_psub, og_pmul, List.getD_cons_zero, List.getD_cons_succ, List.set_cons_zero, List.set_cons_succ, List.length_cons, List.length_nil, List.cons_append, List.nil_append, List.replicate, List.append_nil, Nat.reduceAdd, Nat.reduceSub, Nat.reduceEqDiff, if_true, if_false, reduceIte, Int.reduceAdd, Int.reduceSub, Int.reduceMul, Int.reduceNeg, Int.reduceLT, Int.reduceLE, Int.cast_ofNat_Int, true_or, or_true, true_and, and_true, false_and, List.mem_cons, List.not_mem_nil, or_false, false_or, ne_eq]
      rw [e]
      exact ⟨Or.inl rfl, hK0 hnone h1 hF hfr⟩
theorem r_goesOn {n : Int} {d : List Int} (hn : 1 ≤ n ∧ n ≤ 4) (hl : (d.length : Int) = n) (hm : isM h A) (ho : okY A) (hd : dOK (A 0 0) d) (hf : footIs h 1042 d)
    (hK0 : nxF (A 0 0) d = none → K 0 h) (hK1 : ∀ d', nxF (A 0 0) d = some d' → d'.length = d.length → dOK (A 0 0) d' → ∀ h', footIs h' 1042 d' → (∀ i k, i ≠ 1042 → h' i k = h i k) → K 1 h') : m_Model_goesOn [1000, n] h K := by
  have h6 := ho.1
  unfold m_Model_goesOn
  simp -implicitDefEqProofs only [↓dn_den, ↓dn_loc, ↓dn_k, ↓dn_add, ↓dn_sub, ↓dn_mul, ↓dn_div, ↓dn_rem, ↓dn_bop, ↓dn_ladd, ↓dn_lsub, ↓dn_lmul, ↓dn_ldiv, ↓dn_lrem, ↓dn_land, ↓dn_l2i, ↓dn_neg, ↓dn_get, ↓dn_fix, ↓dn_ald, ↓dn_gld, ↓dn_yld, ↓dn_len, ↓dn_gln, ↓dn_cc, ↓dn_cb, ↓dn_and, ↓dn_or, ↓dn_not, ↓dn_cite, ↓dn_ec, ↓dn_ei, ↓dn_skip, ↓dn_seq, ↓dn_set, ↓dn_inc, ↓dn_putf, ↓dn_putz, ↓dn_ast, ↓dn_exp, ↓dn_if, ↓dn_ret, ↓dn_retz, ↓dn_retv, ↓dn_brk, ↓dn_cont, ↓dn_cs, ↓dn_sw, ↓dn_pop32, ↓dn_pop64, ↓dn_aop, ↓dn_call, ↓dn_max, ↓dn_min, ↓dn_acp, ↓dn_i2l, ↓dn_args0, ↓dn_args1, og_pad, og_ent, og_rlt, og_rle, og_rgt, og_rge, og_req, og_rne, og_padd, og_psub, og_pmul, List.getD_cons_zero, List.getD_cons_succ, List.set_cons_zero, List.set_cons_succ, List.length_cons, List.length_nil, List.cons_append, List.nil_append, List.replicate, List.append_nil, Nat.reduceAdd, Nat.reduceSub, Nat.reduceEqDiff, if_true, if_false, reduceIte, Int.reduceAdd, Int.reduceSub, Int.reduceMul, Int.reduceNeg, Int.reduceLT, Int.reduceLE, Int.cast_ofNat_Int, true_or, or_true, true_and, and_true, false_and, List.mem_cons, List.not_mem_nil, or_false, false_or, ne_eq, og_i32]
  refine ⟨by omega, ?_⟩
  refine ⟨fun e1 h1 => h1 = h ∧ ∃ t : Nat, e1 = [1000, n, n - 1 - t, 0] ∧ t ≤ d.length ∧ (∀ j : Nat, n - 1 - t < j → j < d.length → ¬ d.getD j 0 + 1 < A 0 0) ∧ (0 ≤ n - 1 - t → d.getD (n - 1 - t).toNat 0 + 1 < A 0 0), ?_, ?_⟩
  · refine og_loop d.length (fun t e1 h1 => h1 = h ∧ e1 = [1000, n, n - 1 - t, 0] ∧ ∀ j : Nat, n - 1 - t < j → j < d.length → ¬ d.getD j 0 + 1 < A 0 0) ⟨rfl, by simp, fun j a b => by omega⟩ ?_
    rintro t e1 h1 ht ⟨rfl, rfl, hno⟩
    simp -implicitDefEqProofs only [↓dn_den, ↓dn_loc, ↓dn_k, ↓dn_add, ↓dn_sub, ↓dn_mul, ↓dn_div, ↓dn_rem, ↓dn_bop, ↓dn_ladd, ↓dn_lsub, ↓dn_lmul, ↓dn_ldiv, ↓dn_lrem, ↓dn_land, ↓dn_l2i, ↓dn_neg, ↓dn_get, ↓dn_fix, ↓dn_ald, ↓dn_gld, ↓dn_yld, ↓dn_len, ↓dn_gln, ↓dn_cc, ↓dn_cb, ↓dn_and, ↓dn_or, ↓dn_not, ↓dn_cite, ↓dn_ec, ↓dn_ei, ↓dn_skip, ↓dn_seq, ↓dn_set, ↓dn_inc, ↓dn_putf, ↓dn_putz, ↓dn_ast, ↓dn_exp, ↓dn_if, ↓dn_ret, ↓dn_retz, ↓dn_retv, ↓dn_brk, ↓dn_cont, ↓dn_cs, ↓dn_sw, ↓dn_pop32, ↓dn_pop64, ↓dn_aop, ↓dn_call, ↓dn_max, ↓dn_min, ↓dn_acp, ↓dn_i2l, ↓dn_args0, ↓dn_args1, og_pad, og_ent, og_rlt, og_rle, og_rgt, og_rge, og_req, og_rne, og_padd, og_psub, og_pmul, List.getD_cons_zero, List.getD_cons_succ, List.set_cons_zero, List.set_cons_succ, List.length_cons, List.length_nil, List.cons_append, List.nil_append, List.replicate, List.append_nil, Nat.reduceAdd, Nat.reduceSub, Nat.reduceEqDiff, if_true, if_false, reduceIte, Int.reduceAdd, Int.reduceSub, Int.reduceMul, Int.reduceNeg, Int.reduceLT, Int.reduceLE, Int.cast_ofNat_Int, true_or, or_true, true_and, and_true, false_and, List.mem_cons, List.not_mem_nil, or_false, false_or, ne_eq, og_i32]
    refine ⟨fun hge => ?_, fun hlt => ?_⟩
    · have hi' : (n - 1 - t).toNat < d.length := by omega
      have hdi := hd _ hi'
      have e12 := hf _ hi'
      have ei : (((n - 1 - t).toNat : Nat) : Int) = n - 1 - t := by omega
      rw [ei] at e12
      rw [e12]
      refine ⟨by omega, by omega, r_graveMany hm ⟨by omega, fun hz => ?_, fun hz => ?_⟩⟩
      · refine ⟨by omega, og_nx_mk (by omega) ⟨rfl, by simp; omega, fun j a b => ?_⟩⟩
        by_cases e : (j : Int) = n - 1 - t
        · have : j = (n - 1 - t).toNat := by omega
          rw [this]; omega
        · exact hno j (by omega) b
      · exact ⟨by trivial, t, rfl, ht, hno, fun _ => by omega⟩
    · exact ⟨t, rfl, ht, hno, fun z => absurd z (by omega)⟩
  · rintro e1 h1 ⟨rfl, t, rfl, ht, hno, hyes⟩
    simp -implicitDefEqProofs only [↓dn_den, ↓dn_loc, ↓dn_k, ↓dn_add, ↓dn_sub, ↓dn_mul, ↓dn_div, ↓dn_rem, ↓dn_bop, ↓dn_ladd, ↓dn_lsub, ↓dn_lmul, ↓dn_ldiv, ↓dn_lrem, ↓dn_land, ↓dn_l2i, ↓dn_neg, ↓dn_get, ↓dn_fix, ↓dn_ald, ↓dn_gld, ↓dn_yld, ↓dn_len, ↓dn_gln, ↓dn_cc, ↓dn_cb, ↓dn_and, ↓dn_or, ↓dn_not, ↓dn_cite, ↓dn_ec, ↓dn_ei, ↓dn_skip, ↓dn_seq, ↓dn_set, ↓dn_inc, ↓dn_putf, ↓dn_putz, ↓dn_ast, ↓dn_exp, ↓dn_if, ↓dn_ret, ↓dn_retz, ↓dn_retv, ↓dn_brk, ↓dn_cont, ↓dn_cs, ↓dn_sw, ↓dn_pop32, ↓dn_pop64, ↓dn_aop, ↓dn_call, ↓dn_max, ↓dn_min, ↓dn_acp, ↓dn_i2l, ↓dn_args0, ↓dn_args1, og_pad, og_ent, og_rlt, og_rle, og_rgt, og_rge, og_req, og_rne, og_padd, og_psub, og_pmul, List.getD_cons_zero, List.getD_cons_succ, List.set_cons_zero, List.set_cons_succ, List.length_cons, List.length_nil, List.cons_append, List.nil_append, List.replicate, List.append_nil, Nat.reduceAdd, Nat.reduceSub, Nat.reduceEqDiff, if_true, if_false, reduceIte, Int.reduceAdd, Int.reduceSub, Int.reduceMul, Int.reduceNeg, Int.reduceLT, Int.reduceLE, Int.cast_ofNat_Int, true_or, or_true, true_and, and_true, false_and, List.mem_cons, List.not_mem_nil, or_false, false_or, ne_eq, og_i32]
    refine ⟨fun hlt => ?_, fun hge => ?_⟩
    · exact hK0 (nxF_no d (fun j hj => hno j (by omega) hj))
    · have hi' : (n - 1 - t).toNat < d.length := by omega
      have hdi := hd _ hi'
      have e12 := hf _ hi'
      have ei : (((n - 1 - t).toNat : Nat) : Int) = n - 1 - t := by omega
      have hx1 := hyes (by omega)
      rw [ei] at e12
      obtain ⟨d', a, b, c⟩ := nxF_at (G := A 0 0) d (n - 1 - t).toNat hi' hx1 (fun j a b => hno j (by omega) b)
      generalize hx : d.getD (n - 1 - t).toNat 0 = x at *
      rw [e12]
      refine ⟨by omega, by omega, by omega, ?_⟩
      refine ⟨fun e3 h3 => footIs h3 1042 d' ∧ ∀ i k, i ≠ 1042 → h3 i k = h1 i k, ?_, ?_⟩
      · simp -implicitDefEqProofs only [↓dn_den, ↓dn_loc, ↓dn_k, ↓dn_add, ↓dn_sub, ↓dn_mul, ↓dn_div, ↓dn_rem, ↓dn_bop, ↓dn_ladd, ↓dn_lsub, ↓dn_lmul, ↓dn_ldiv, ↓dn_lrem, ↓dn_land, ↓dn_l2i, ↓dn_neg, ↓dn_get, ↓dn_fix, ↓dn_ald, ↓dn_gld, ↓dn_yld, ↓dn_len, ↓dn_gln, ↓dn_cc, ↓dn_cb, ↓dn_and, ↓dn_or, ↓dn_not, ↓dn_cite, ↓dn_ec, ↓dn_ei, ↓dn_skip, ↓dn_seq, ↓dn_set, ↓dn_inc, ↓dn_putf, ↓dn_putz, ↓dn_ast, ↓dn_exp, ↓dn_if, ↓dn_ret, ↓dn_retz, ↓dn_retv, ↓dn_brk, ↓dn_cont, ↓dn_cs, ↓dn_sw, ↓dn_pop32, ↓dn_pop64, ↓dn_aop, ↓dn_call, ↓dn_max, ↓dn_min, ↓dn_acp, ↓dn_i2l, ↓dn_args0, ↓dn_args1, og_pad, og_ent, og_rlt, og_rle, og_rgt, og_rge, og_req, og_rne, og_padd, og_psub, og_pmul, List.getD_cons_zero, List.getD_cons_succ, List.set_cons_zero, List.set_cons_succ, List.length_cons, List.length_nil, List.cons_append, List.nil_append, List.replicate, List.append_nil, Nat.reduceAdd, Nat.reduceSub, Nat.reduceEqDiff, if_true, if_false, reduceIte, Int.reduceAdd, Int.reduceSub, Int.reduceMul, Int.reduceNeg, Int.reduceLT, Int.reduceLE, Int.cast_ofNat_Int, true_or, or_true, true_and, and_true, false_and, List.mem_cons, List.not_mem_nil, or_false, false_or, ne_eq, og_i32]
        refine ⟨by omega, ?_⟩
        refine og_loop (d.length - (n - 1 - t).toNat - 1) (fun q e3 h3 => e3 = [1000, n, n - 1 - t, n - 1 - t + 1 + q] ∧ (∀ i k, i ≠ 1042 → h3 i k = h1 i k) ∧ ∀ k : Nat, k < d.length → h3 1042 k = if (n - 1 - t).toNat ≤ k ∧ (k : Int) < n - 1 - t + 1 + q then x + 1 else d.getD k 0) ⟨by simp, fun i k hi => og_up_i hi, fun k hk => ?_⟩ ?_
        · by_cases e : (k : Int) = n - 1 - t
          · rw [e, og_up_eq, if_pos (by omega)]
          · rw [og_up_k e, if_neg (by omega)]; exact hf k hk
        rintro q e3 h3 hq ⟨rfl, hfr, hv⟩
        simp -implicitDefEqProofs only [↓dn_den, ↓dn_loc, ↓dn_k, ↓dn_add, ↓dn_sub, ↓dn_mul, ↓dn_div, ↓dn_rem, ↓dn_bop, ↓dn_ladd, ↓dn_lsub, ↓dn_lmul, ↓dn_ldiv, ↓dn_lrem, ↓dn_land, ↓dn_l2i, ↓dn_neg, ↓dn_get, ↓dn_fix, ↓dn_ald, ↓dn_gld, ↓dn_yld, ↓dn_len, ↓dn_gln, ↓dn_cc, ↓dn_cb, ↓dn_and, ↓dn_or, ↓dn_not, ↓dn_cite, ↓dn_ec, ↓dn_ei, ↓dn_skip, ↓dn_seq, ↓dn_set, ↓dn_inc, ↓dn_putf, ↓dn_putz, ↓dn_ast, ↓dn_exp, ↓dn_if, ↓dn_ret, ↓dn_retz, ↓dn_retv, ↓dn_brk, ↓dn_cont, ↓dn_cs, ↓dn_sw, ↓dn_pop32, ↓dn_pop64, ↓dn_aop, ↓dn_call, ↓dn_max, ↓dn_min, ↓dn_acp, ↓dn_i2l, ↓dn_args0, ↓dn_args1, og_pad, og_ent, og_rlt, og_rle, og_rgt, og_rge, og_req, og_rne, og_padd, og_psub, og_pmul, List.getD_cons_zero, List.getD_cons_succ, List.set_cons_zero, List.set_cons_succ, List.length_cons, List.length_nil, List.cons_append, List.nil_append, List.replicate, List.append_nil, Nat.reduceAdd, Nat.reduceSub, Nat.reduceEqDiff, if_true, if_false, reduceIte, Int.reduceAdd, Int.reduceSub, Int.reduceMul, Int.reduceNeg, Int.reduceLT, Int.reduceLE, Int.cast_ofNat_Int, true_or, or_true, true_and, and_true, false_and, List.mem_cons, List.not_mem_nil, or_false, false_or, ne_eq, og_i32]
        have ex : h3 1042 (n - 1 - t) = x + 1 := by
          have := hv (n - 1 - t).toNat hi'
          rw [ei, if_pos (by omega)] at this
          exact this
        rw [ex]
        refine ⟨fun hlt => ?_, fun hge => ?_⟩
        · refine ⟨by omega, by omega, by omega, by omega, by omega, og_nx_mk (by omega) ⟨by simp; omega, fun i k hi => by rw [og_up_i hi]; exact hfr i k hi, fun k hk => ?_⟩⟩
          by_cases e : (k : Int) = n - 1 - t + 1 + q
          · rw [e, og_up_eq, if_pos (by omega)]
          · rw [og_up_k e, hv k hk]
            by_cases z : (n - 1 - t).toNat ≤ k ∧ (k : Int) < n - 1 - t + 1 + q
            · rw [if_pos z, if_pos (by omega)]
            · rw [if_neg z, if_neg (by omega)]
        · refine ⟨fun k hk => ?_, hfr⟩
          rw [b] at hk
          rw [hv k hk, c k hk]
          by_cases z : k < (n - 1 - t).toNat
          · rw [if_neg (by omega), if_pos z]
          · rw [if_pos (by omega), if_neg z]
      · rintro e3 h3 ⟨q1, q2⟩
        simp -implicitDefEqProofs only [↓dn_den, ↓dn_loc, ↓dn_k, ↓dn_add, ↓dn_sub, ↓dn_mul, ↓dn_div, ↓dn_rem, ↓dn_bop, ↓dn_ladd, ↓dn_lsub, ↓dn_lmul, ↓dn_ldiv, ↓dn_lrem, ↓dn_land, ↓dn_l2i, ↓dn_neg, ↓dn_get, ↓dn_fix, ↓dn_ald, ↓dn_gld, ↓dn_yld, ↓dn_len, ↓dn_gln, ↓dn_cc, ↓dn_cb, ↓dn_and, ↓dn_or, ↓dn_not, ↓dn_cite, ↓dn_ec, ↓dn_ei, ↓dn_skip, ↓dn_seq, ↓dn_set, ↓dn_inc, ↓dn_putf, ↓dn_putz, ↓dn_ast, ↓dn_exp, ↓dn_if, ↓dn_ret, ↓dn_retz, ↓dn_retv, ↓dn_brk, ↓dn_cont, ↓dn_cs, ↓dn_sw, ↓dn_pop32, ↓dn_pop64, ↓dn_aop, ↓dn_call, ↓dn_max, ↓dn_min, ↓dn_acp, ↓dn_i2l, ↓dn_args0, ↓dn_args1, og_pad, og_ent, og_rlt, og_rle, og_rgt, og_rge, og_req, og_rne, og_padd, og_psub, og_pmul, List.getD_cons_zero, List.getD_cons_succ, List.set_cons_zero, List.set_cons_succ, List.length_cons, List.length_nil, List.cons_append, List.nil_append, List.replicate, List.append_nil, Nat.reduceAdd, Nat.reduceSub, Nat.reduceEqDiff, if_true, if_false, reduceIte, Int.reduceAdd, Int.reduceSub, Int.reduceMul, Int.reduceNeg, Int.reduceLT, Int.reduceLE, Int.cast_ofNat_Int, true_or, or_true, true_and, and_true, false_and, List.mem_cons, List.not_mem_nil, or_false, false_or, ne_eq]
        refine hK1 d' a b (fun k hk => ?_) h3 q1 q2
        rw [b] at hk
        rw [c k hk]
        have := hd k hk
        split <;> omega
def emJ (h0 h : Hp) (P : Pr) (A : Yd) (M n : Int) (i : Nat) (e1 : List Int) (h1 : Hp) : Prop := ∃ (m : (Int × List Int) × Int) (c4 : Int), e1 = [1000, n, m.1.1, m.2, c4] ∧ inTh h0 h1 ∧ isN h1 A ∧ tmB (M + 2000) h1 ∧ -1 ≤ m.1.1 ∧ (m.1.1 ≠ -1 → footIs h1 1043 m.1.2 ∧ (m.1.2.length : Int) = n) ∧ ((m.2 = (1 : Int) ∧ ∃ d, (d.length : Int) = n ∧ dOK (A 0 0) d ∧ footIs h1 1042 d ∧ nxI (A 0 0) (126 - i) d = true ∧ sEn (sEf P A) (A 0 0) (126 - i) d m.1 = sEn (sEf P A) (A 0 0) 126 (List.replicate n.toNat 0) (-1, [])) ∨ (m.2 = 0 ∧ (0 < A 0 0 → m.1 = sEn (sEf P A) (A 0 0) 126 (List.replicate n.toNat 0) (-1, [])) ∧ (¬ 0 < A 0 0 → m.1.1 = -1)))
theorem sDig_neg {A : Yd} (P : Pr) (d : List Int) (h : sDig A d = none) : sEf P A d = -1 := by unfold sEf; rw [h]
theorem r_enemyMost {n M : Int} (hT : inTh h0 h) (hM0 : isM h0 A) (hN : isN h A) (hR : hasM h0 P) (hP : okQ P) (ho : okY A) (hk : okK A) (hm : A 0 2 + 12 ≤ 999) (hn : 1 ≤ n ∧ n ≤ 4) (hM : M ≤ 10000000) (hb : tmB M h)
    (hK : ∀ m : Int × List Int, (0 < A 0 0 → m = sEn (sEf P A) (A 0 0) 126 (List.replicate n.toNat 0) (-1, [])) → (¬ 0 < A 0 0 → m.1 = -1) → ∀ h', inTh h0 h' → tmB (M + 2000) h' → (m.1 ≠ -1 → footIs h' 1043 m.2 ∧ (m.2.length : Int) = n) → K m.1 h') : m_Model_enemyMost [1000, n] h K := by
  have h6 := ho.1
  have hb1 := hb.1
  have hb2 := hb.2
  unfold m_Model_enemyMost
  simp -implicitDefEqProofs only [↓dn_den, ↓dn_loc, ↓dn_k, ↓dn_add, ↓dn_sub, ↓dn_mul, ↓dn_div, ↓dn_rem, ↓dn_bop, ↓dn_ladd, ↓dn_lsub, ↓dn_lmul, ↓dn_ldiv, ↓dn_lrem, ↓dn_land, ↓dn_l2i, ↓dn_neg, ↓dn_get, ↓dn_fix, ↓dn_ald, ↓dn_gld, ↓dn_yld, ↓dn_len, ↓dn_gln, ↓dn_cc, ↓dn_cb, ↓dn_and, ↓dn_or, ↓dn_not, ↓dn_cite, ↓dn_ec, ↓dn_ei, ↓dn_skip, ↓dn_seq, ↓dn_set, ↓dn_inc, ↓dn_putf, ↓dn_putz, ↓dn_ast, ↓dn_exp, ↓dn_if, ↓dn_ret, ↓dn_retz, ↓dn_retv, ↓dn_brk, ↓dn_cont, ↓dn_cs, ↓dn_sw, ↓dn_pop32, ↓dn_pop64, ↓dn_aop, ↓dn_call, ↓dn_max, ↓dn_min, ↓dn_acp, ↓dn_i2l, ↓dn_args0, ↓dn_args1, og_pad, og_ent, og_rlt, og_rle, og_rgt, og_rge, og_req, og_rne, og_padd, og_psub, og_pmul, List.getD_cons_zero, List.getD_cons_succ, List.set_cons_zero, List.set_cons_succ, List.length_cons, List.length_nil, List.cons_append, List.nil_append, List.replicate, List.append_nil, Nat.reduceAdd, Nat.reduceSub, Nat.reduceEqDiff, if_true, if_false, reduceIte, Int.reduceAdd, Int.reduceSub, Int.reduceMul, Int.reduceNeg, Int.reduceLT, Int.reduceLE, Int.cast_ofNat_Int, true_or, or_true, true_and, and_true, false_and, List.mem_cons, List.not_mem_nil, or_false, false_or, ne_eq, og_i32]
  refine ⟨fun e1 h1 => e1 = [1000, n, -1, n, 0] ∧ (∀ i k, i ≠ 1042 → h1 i k = h i k) ∧ ∀ k : Nat, (k : Int) < n → h1 1042 k = 0, ?_, ?_⟩
  · simp -implicitDefEqProofs only [↓dn_den, ↓dn_loc, ↓dn_k, ↓dn_add, ↓dn_sub, ↓dn_mul, ↓dn_div, ↓dn_rem, ↓dn_bop, ↓dn_ladd, ↓dn_lsub, ↓dn_lmul, ↓dn_ldiv, ↓dn_lrem, ↓dn_land, ↓dn_l2i, ↓dn_neg, ↓dn_get, ↓dn_fix, ↓dn_ald, ↓dn_gld, ↓dn_yld, ↓dn_len, ↓dn_gln, ↓dn_cc, ↓dn_cb, ↓dn_and, ↓dn_or, ↓dn_not, ↓dn_cite, ↓dn_ec, ↓dn_ei, ↓dn_skip, ↓dn_seq, ↓dn_set, ↓dn_inc, ↓dn_putf, ↓dn_putz, ↓dn_ast, ↓dn_exp, ↓dn_if, ↓dn_ret, ↓dn_retz, ↓dn_retv, ↓dn_brk, ↓dn_cont, ↓dn_cs, ↓dn_sw, ↓dn_pop32, ↓dn_pop64, ↓dn_aop, ↓dn_call, ↓dn_max, ↓dn_min, ↓dn_acp, ↓dn_i2l, ↓dn_args0, ↓dn_args1, og_pad, og_ent, og_rlt, og_rle, og_rgt, og_rge, og_req, og_rne, og_padd, og_psub, og_pmul, List.getD_cons_zero, List.getD_cons_succ, List.set_cons_zero, List.set_cons_succ, List.length_cons, List.length_nil, List.cons_append, List.nil_append, List.replicate, List.append_nil, Nat.reduceAdd, Nat.reduceSub, Nat.reduceEqDiff, if_true, if_false, reduceIte, Int.reduceAdd, Int.reduceSub, Int.reduceMul, Int.reduceNeg, Int.reduceLT, Int.reduceLE, Int.cast_ofNat_Int, true_or, or_true, true_and, and_true, false_and, List.mem_cons, List.not_mem_nil, or_false, false_or, ne_eq]
    refine og_loop n.toNat (fun i e1 h1 => e1 = [1000, n, -1, (i : Int), 0] ∧ (∀ i k, i ≠ 1042 → h1 i k = h i k) ∧ ∀ k : Nat, k < i → h1 1042 k = 0) ⟨rfl, fun _ _ _ => rfl, fun k hk => by omega⟩ ?_
    rintro i e1 h1 hi ⟨rfl, hfr, hz⟩
    simp -implicitDefEqProofs only [↓dn_den, ↓dn_loc, ↓dn_k, ↓dn_add, ↓dn_sub, ↓dn_mul, ↓dn_div, ↓dn_rem, ↓dn_bop, ↓dn_ladd, ↓dn_lsub, ↓dn_lmul, ↓dn_ldiv, ↓dn_lrem, ↓dn_land, ↓dn_l2i, ↓dn_neg, ↓dn_get, ↓dn_fix, ↓dn_ald, ↓dn_gld, ↓dn_yld, ↓dn_len, ↓dn_gln, ↓dn_cc, ↓dn_cb, ↓dn_and, ↓dn_or, ↓dn_not, ↓dn_cite, ↓dn_ec, ↓dn_ei, ↓dn_skip, ↓dn_seq, ↓dn_set, ↓dn_inc, ↓dn_putf, ↓dn_putz, ↓dn_ast, ↓dn_exp, ↓dn_if, ↓dn_ret, ↓dn_retz, ↓dn_retv, ↓dn_brk, ↓dn_cont, ↓dn_cs, ↓dn_sw, ↓dn_pop32, ↓dn_pop64, ↓dn_aop, ↓dn_call, ↓dn_max, ↓dn_min, ↓dn_acp, ↓dn_i2l, ↓dn_args0, ↓dn_args1, og_pad, og_ent, og_rlt, og_rle, og_rgt, og_rge, og_req, og_rne, og_padd, og_psub, og_pmul, List.getD_cons_zero, List.getD_cons_succ, List.set_cons_zero, List.set_cons_succ, List.length_cons, List.length_nil, List.cons_append, List.nil_append, List.replicate, List.append_nil, Nat.reduceAdd, Nat.reduceSub, Nat.reduceEqDiff, if_true, if_false, reduceIte, Int.reduceAdd, Int.reduceSub, Int.reduceMul, Int.reduceNeg, Int.reduceLT, Int.reduceLE, Int.cast_ofNat_Int, true_or, or_true, true_and, and_true, false_and, List.mem_cons, List.not_mem_nil, or_false, false_or, ne_eq, og_i32]
    refine ⟨fun hlt => ?_, fun hge => ?_⟩
    · refine ⟨by omega, by omega, by omega, og_nx_mk (by omega) ⟨by simp, fun j k hj => by rw [og_up_i hj]; exact hfr j k hj, fun k hk => ?_⟩⟩
      by_cases e : k = i
      · subst e; rw [og_up_eq]
      · rw [og_up_k (by omega)]; exact hz k (by omega)
    · have e : (i : Int) = n := by omega
      rw [e]
      exact ⟨rfl, hfr, fun k hk => hz k (by omega)⟩
  · rintro e1 h1 ⟨rfl, hfr, hz⟩
    simp -implicitDefEqProofs only [↓dn_den, ↓dn_loc, ↓dn_k, ↓dn_add, ↓dn_sub, ↓dn_mul, ↓dn_div, ↓dn_rem, ↓dn_bop, ↓dn_ladd, ↓dn_lsub, ↓dn_lmul, ↓dn_ldiv, ↓dn_lrem, ↓dn_land, ↓dn_l2i, ↓dn_neg, ↓dn_get, ↓dn_fix, ↓dn_ald, ↓dn_gld, ↓dn_yld, ↓dn_len, ↓dn_gln, ↓dn_cc, ↓dn_cb, ↓dn_and, ↓dn_or, ↓dn_not, ↓dn_cite, ↓dn_ec, ↓dn_ei, ↓dn_skip, ↓dn_seq, ↓dn_set, ↓dn_inc, ↓dn_putf, ↓dn_putz, ↓dn_ast, ↓dn_exp, ↓dn_if, ↓dn_ret, ↓dn_retz, ↓dn_retv, ↓dn_brk, ↓dn_cont, ↓dn_cs, ↓dn_sw, ↓dn_pop32, ↓dn_pop64, ↓dn_aop, ↓dn_call, ↓dn_max, ↓dn_min, ↓dn_acp, ↓dn_i2l, ↓dn_args0, ↓dn_args1, og_pad, og_ent, og_rlt, og_rle, og_rgt, og_rge, og_req, og_rne, og_padd, og_psub, og_pmul, List.getD_cons_zero, List.getD_cons_succ, List.set_cons_zero, List.set_cons_succ, List.length_cons, List.length_nil, List.cons_append, List.nil_append, List.replicate, List.append_nil, Nat.reduceAdd, Nat.reduceSub, Nat.reduceEqDiff, if_true, if_false, reduceIte, Int.reduceAdd, Int.reduceSub, Int.reduceMul, Int.reduceNeg, Int.reduceLT, Int.reduceLE, Int.cast_ofNat_Int, true_or, or_true, true_and, and_true, false_and, List.mem_cons, List.not_mem_nil, or_false, false_or, ne_eq]
    have hsc : ∀ j k, ¬ ((1039 ≤ j ∧ j ≤ 1044) ∨ j = 1046) → h1 j k = h j k := fun j k z => hfr j k (by omega)
    have hT1 := inTh_sc hT hsc
    have hN1 := isN_sc hN hsc
    have hb3 : tmB (M + 2000) h1 := by unfold tmB; rw [hfr _ _ (by decide)]; omega
    apply r_graveMany hN1.1
    have body : ∀ more : Int, (more = 1 ∧ 0 < A 0 0 ∨ more = 0 ∧ ¬ 0 < A 0 0) → og_cut (og_while (og_cb (og_loc 3)) (og_cut (og_if (og_cb (og_call m_Model_canDig [og_loc 0, og_loc 1])) (og_seq (og_exp (og_call m_Model_monthsGo [og_loc 0, og_k 12])) (og_if (og_cc og_rgt (og_get 54 (og_loc 0)) (og_loc 2)) (og_seq (og_set 2 (og_get 54 (og_loc 0))) (og_seq (og_set 4 (og_k 0)) (og_while (og_cc og_rlt (og_loc 4) (og_loc 1)) (og_ast 4 (og_fix (fun _ => 1043) (og_loc 0)) (og_loc 4) (og_ald 4 (og_fix (fun _ => 1042) (og_loc 0)) (og_loc 4))) (og_inc 4 1)))) (og_skip))) (og_skip)) (og_seq (og_exp (og_call m_Model_triesAnew [og_loc 0])) (og_set 3 (og_call m_Model_goesOn [og_loc 0, og_loc 1])))) (og_skip)) (og_ret (og_loc 2)) [1000, n, -1, more, 0] h1 (fun _ h' => 0 = 2 ∧ K 0 h') K (fun _ _ => False) (fun _ _ => False) := by
      intro more hmore
      refine ⟨fun e2 h2 => ∃ i, emJ h0 h P A M n i e2 h2 ∧ e2.getD 3 0 = 0, ?_, ?_⟩
      · have hnx : nxI (A 0 0) 126 (List.replicate n.toNat 0) = true := by
          have := nxI_all n.toNat (by omega) (A 0 0).toNat (by omega)
          rwa [Int.toNat_of_nonneg (by omega)] at this
        refine og_loop 126 (emJ h0 h P A M n) ⟨((-1, []), more), 0, rfl, hT1, hN1, hb3, Int.le_refl (-1), fun z => absurd (by trivial) z, ?_⟩ ?_
        · rcases hmore with ⟨e, hg⟩ | ⟨e, hg⟩
          · refine Or.inl ⟨e, List.replicate n.toNat 0, by simp; omega, fun k hk => ?_, fun k hk => ?_, hnx, rfl⟩
            · simp only [List.length_replicate] at hk
              rw [List.getD_eq_getElem?_getD, List.getElem?_replicate, if_pos hk]; exact ⟨by decide, hg⟩
            · simp only [List.length_replicate] at hk
              rw [hz k (by omega), List.getD_eq_getElem?_getD, List.getElem?_replicate, if_pos hk]; rfl
          · exact Or.inr ⟨e, fun z => absurd z hg, fun _ => rfl⟩
        rintro i e2 h2 hi ⟨⟨acc, more⟩, c4, rfl, hT2, hN2, hb4, hge, hw, hor⟩
        rcases hor with ⟨hm1, d, hdl, hdo, hdf, hdn, hde⟩ | ⟨hm0, hacc, hacc0⟩
        · dsimp only at hm1
          subst hm1
          have hi126 : i < 126 := by
            cases q : 126 - i with
            | zero => rw [q] at hdn; cases hdn
            | succ k => omega
          have eq126 : 126 - i = (126 - (i + 1)) + 1 := by omega
          rw [eq126] at hdn hde
          simp -implicitDefEqProofs only [↓dn_den, ↓dn_loc, ↓dn_k, ↓dn_add, ↓dn_sub, ↓dn_mul, ↓dn_div, ↓dn_rem, ↓dn_bop, ↓dn_ladd, ↓dn_lsub, ↓dn_lmul, ↓dn_ldiv, ↓dn_lrem, ↓dn_land, ↓dn_l2i, ↓dn_neg, ↓dn_get, ↓dn_fix, ↓dn_ald, ↓dn_gld, ↓dn_yld, ↓dn_len, ↓dn_gln, ↓dn_cc, ↓dn_cb, ↓dn_and, ↓dn_or, ↓dn_not, ↓dn_cite, ↓dn_ec, ↓dn_ei, ↓dn_skip, ↓dn_seq, ↓dn_set, ↓dn_inc, ↓dn_putf, ↓dn_putz, ↓dn_ast, ↓dn_exp, ↓dn_if, ↓dn_ret, ↓dn_retz, ↓dn_retv, ↓dn_brk, ↓dn_cont, ↓dn_cs, ↓dn_sw, ↓dn_pop32, ↓dn_pop64, ↓dn_aop, ↓dn_call, ↓dn_max, ↓dn_min, ↓dn_acp, ↓dn_i2l, ↓dn_args0, ↓dn_args1, og_pad, og_ent, og_rlt, og_rle, og_rgt, og_rge, og_req, og_rne, og_padd, og_psub, og_pmul, List.getD_cons_zero, List.getD_cons_succ, List.set_cons_zero, List.set_cons_succ, List.length_cons, List.length_nil, List.cons_append, List.nil_append, List.replicate, List.append_nil, Nat.reduceAdd, Nat.reduceSub, Nat.reduceEqDiff, if_true, if_false, reduceIte, Int.reduceAdd, Int.reduceSub, Int.reduceMul, Int.reduceNeg, Int.reduceLT, Int.reduceLE, Int.cast_ofNat_Int, true_or, or_true, true_and, and_true, false_and, List.mem_cons, List.not_mem_nil, or_false, false_or, ne_eq, og_i32]
          refine ⟨fun _ => ?_, fun z => absurd z (by decide)⟩
          have hge : -1 ≤ acc.1 := hge
          have hw : acc.1 ≠ -1 → footIs h2 1043 acc.2 ∧ (acc.2.length : Int) = n := hw
          have ge5 := enU_ge (f := sEf P A) (d := d) hge (fun z => by have := (hw z).2; omega)
          refine ⟨fun e3 h3 => (∃ c4, e3 = [1000, n, (enU (sEf P A) d acc).1, 1, c4]) ∧ inTh h0 h3 ∧ tmB (M + 2000) h3 ∧ footIs h3 1042 d ∧ ((enU (sEf P A) d acc).1 ≠ -1 → footIs h3 1043 (enU (sEf P A) d acc).2 ∧ ((enU (sEf P A) d acc).2.length : Int) = n), ?_, ?_⟩
          · simp -implicitDefEqProofs only [↓dn_den, ↓dn_loc, ↓dn_k, ↓dn_add, ↓dn_sub, ↓dn_mul, ↓dn_div, ↓dn_rem, ↓dn_bop, ↓dn_ladd, ↓dn_lsub, ↓dn_lmul, ↓dn_ldiv, ↓dn_lrem, ↓dn_land, ↓dn_l2i, ↓dn_neg, ↓dn_get, ↓dn_fix, ↓dn_ald, ↓dn_gld, ↓dn_yld, ↓dn_len, ↓dn_gln, ↓dn_cc, ↓dn_cb, ↓dn_and, ↓dn_or, ↓dn_not, ↓dn_cite, ↓dn_ec, ↓dn_ei, ↓dn_skip, ↓dn_seq, ↓dn_set, ↓dn_inc, ↓dn_putf, ↓dn_putz, ↓dn_ast, ↓dn_exp, ↓dn_if, ↓dn_ret, ↓dn_retz, ↓dn_retv, ↓dn_brk, ↓dn_cont, ↓dn_cs, ↓dn_sw, ↓dn_pop32, ↓dn_pop64, ↓dn_aop, ↓dn_call, ↓dn_max, ↓dn_min, ↓dn_acp, ↓dn_i2l, ↓dn_args0, ↓dn_args1, og_pad, og_ent, og_rlt, og_rle, og_rgt, og_rge, og_req, og_rne, og_padd, og_psub, og_pmul, List.getD_cons_zero, List.getD_cons_succ, List.set_cons_zero, List.set_cons_succ, List.length_cons, List.length_nil, List.cons_append, List.nil_append, List.replicate, List.append_nil, Nat.reduceAdd, Nat.reduceSub, Nat.reduceEqDiff, if_true, if_false, reduceIte, Int.reduceAdd, Int.reduceSub, Int.reduceMul, Int.reduceNeg, Int.reduceLT, Int.reduceLE, Int.cast_ofNat_Int, true_or, or_true, true_and, and_true, false_and, List.mem_cons, List.not_mem_nil, or_false, false_or, ne_eq, og_i32]
            refine r_canDig hn hdl hdo hdf hN2 ho (fun hnone h3 hF3 hfr3 => ?_) (fun B hsome hsB h3 hN3 hF3 hfr3 => ?_)
            · refine ⟨fun z => absurd (by trivial) z, fun _ => ?_⟩
              have e : enU (sEf P A) d acc = acc := by unfold enU; rw [sDig_neg P d hnone]; exact if_neg (by omega)
              rw [e]
              exact ⟨⟨c4, rfl⟩, inTh_M hT2 hF3, by unfold tmB; rw [hfr3 _ _ (by decide)]; exact hb4, fun k hk => by rw [hfr3 _ _ (by decide)]; exact hdf k hk, fun z => ⟨fun k hk => by rw [hfr3 _ _ (by decide)]; exact (hw z).1 k hk, (hw z).2⟩⟩
            · refine ⟨fun _ => ?_, fun z => absurd z (by decide)⟩
              have e2 : B 0 2 = A 0 2 := hsB.2 0 2 (by decide)
              have kB : okK B := okK_same hk (fun c k hc => hsB.2 c k (by omega))
              have hT3 := inTh_M hT2 hF3
              refine r_monthsGo (hasM_T hR hT3) hP hN3 hsB.1 kB (by decide) (by omega) (by omega) (fun h4 hN4 hF4 e54 => ?_)
              have hT4 := inTh_M hT3 hF4
              have tg := sTot_rg (P := P) hsB.1 12 (by omega)
              have e54 : h4 1000 54 = sEf P A d := by rw [e54]; unfold sEf; rw [hsome]; rfl
              have eE : sEf P A d = sTot P B 12 := by unfold sEf; rw [hsome]
              have tg : 0 ≤ sEf P A d ∧ sEf P A d ≤ 72 := by rw [eE]; exact ⟨tg.1, by have := tg.2; omega⟩
              have hdf4 : footIs h4 1042 d := fun k hk => by rw [hF4.1 _ _ (by decide) (by decide) (fun z => absurd z (by decide)), hfr3 _ _ (by decide)]; exact hdf k hk
              rw [e54]
              refine ⟨fun hgt => ?_, fun hgt => ?_⟩
              · have e : enU (sEf P A) d acc = (sEf P A d, d) := by unfold enU; exact if_pos hgt
                rw [e]
                refine og_loop n.toNat (fun q e5 h5 => e5 = [1000, n, sEf P A d, 1, (q : Int)] ∧ (∀ j k, j ≠ 1043 → h5 j k = h4 j k) ∧ ∀ k : Nat, k < q → h5 1043 k = d.getD k 0) ⟨rfl, fun _ _ _ => rfl, fun k hk => by omega⟩ ?_
                rintro q e5 h5 hq ⟨rfl, hfr5, hz5⟩
                simp -implicitDefEqProofs only [↓dn_den, ↓dn_loc, ↓dn_k, ↓dn_add, ↓dn_sub, ↓dn_mul, ↓dn_div, ↓dn_rem, ↓dn_bop, ↓dn_ladd, ↓dn_lsub, ↓dn_lmul, ↓dn_ldiv, ↓dn_lrem, ↓dn_land, ↓dn_l2i, ↓dn_neg, ↓dn_get, ↓dn_fix, ↓dn_ald, ↓dn_gld, ↓dn_yld, ↓dn_len, ↓dn_gln, ↓dn_cc, ↓dn_cb, ↓dn_and, ↓dn_or, ↓dn_not, ↓dn_cite, ↓dn_ec, ↓dn_ei, ↓dn_skip, ↓dn_seq, ↓dn_set, ↓dn_inc, ↓dn_putf, ↓dn_putz, ↓dn_ast, ↓dn_exp, ↓dn_if, ↓dn_ret, ↓dn_retz, ↓dn_retv, ↓dn_brk, ↓dn_cont, ↓dn_cs, ↓dn_sw, ↓dn_pop32, ↓dn_pop64, ↓dn_aop, ↓dn_call, ↓dn_max, ↓dn_min, ↓dn_acp, ↓dn_i2l, ↓dn_args0, ↓dn_args1, og_pad, og_ent, og_rlt, og_rle, og_rgt, og_rge, og_req, og_rne, og_padd, og_psub, og_pmul, List.getD_cons_zero, List.getD_cons_succ, List.set_cons_zero, List.set_cons_succ, List.length_cons, List.length_nil, List.cons_append, List.nil_append, List.replicate, List.append_nil, Nat.reduceAdd, Nat.reduceSub, Nat.reduceEqDiff, if_true, if_false, reduceIte, Int.reduceAdd, Int.reduceSub, Int.reduceMul, Int.reduceNeg, Int.reduceLT, Int.reduceLE, Int.cast_ofNat_Int, true_or, or_true, true_and, and_true, false_and, List.mem_cons, List.not_mem_nil, or_false, false_or, ne_eq, og_i32]
                refine ⟨fun hlt => ?_, fun hge => ?_⟩
                · have hql : q < d.length := by omega
                  rw [hfr5 1042 q (by decide), hdf4 q hql]
                  refine ⟨by omega, by omega, by omega, by omega, by omega, og_nx_mk (by omega) ⟨by simp, fun j k hj => by rw [og_up_i hj]; exact hfr5 j k hj, fun k hk => ?_⟩⟩
                  by_cases e : k = q
                  · subst e; rw [og_up_eq]
                  · rw [og_up_k (by omega)]; exact hz5 k (by omega)
                · refine ⟨⟨_, rfl⟩, inTh_sc hT4 (fun j k z => hfr5 j k (by omega)), ?_, fun k hk => ?_, fun _ => ⟨fun k hk => hz5 k (by have hk : k < d.length := hk; omega), hdl⟩⟩
                  · unfold tmB; rw [hfr5 _ _ (by decide), e54]; omega
                  · rw [hfr5 _ _ (by decide)]; exact hdf4 k hk
              · have e : enU (sEf P A) d acc = acc := by unfold enU; exact if_neg hgt
                rw [e]
                exact ⟨⟨c4, rfl⟩, hT4, by unfold tmB; rw [e54]; omega, hdf4, fun z => ⟨fun k hk => by rw [hF4.1 _ _ (by decide) (by decide) (fun z => absurd z (by decide)), hfr3 _ _ (by decide)]; exact (hw z).1 k hk, (hw z).2⟩⟩
          · rintro e3 h3 ⟨⟨c4', rfl⟩, hT3, hb5, hdf3, hw3⟩
            simp -implicitDefEqProofs only [↓dn_den, ↓dn_loc, ↓dn_k, ↓dn_add, ↓dn_sub, ↓dn_mul, ↓dn_div, ↓dn_rem, ↓dn_bop, ↓dn_ladd, ↓dn_lsub, ↓dn_lmul, ↓dn_ldiv, ↓dn_lrem, ↓dn_land, ↓dn_l2i, ↓dn_neg, ↓dn_get, ↓dn_fix, ↓dn_ald, ↓dn_gld, ↓dn_yld, ↓dn_len, ↓dn_gln, ↓dn_cc, ↓dn_cb, ↓dn_and, ↓dn_or, ↓dn_not, ↓dn_cite, ↓dn_ec, ↓dn_ei, ↓dn_skip, ↓dn_seq, ↓dn_set, ↓dn_inc, ↓dn_putf, ↓dn_putz, ↓dn_ast, ↓dn_exp, ↓dn_if, ↓dn_ret, ↓dn_retz, ↓dn_retv, ↓dn_brk, ↓dn_cont, ↓dn_cs, ↓dn_sw, ↓dn_pop32, ↓dn_pop64, ↓dn_aop, ↓dn_call, ↓dn_max, ↓dn_min, ↓dn_acp, ↓dn_i2l, ↓dn_args0, ↓dn_args1, og_pad, og_ent, og_rlt, og_rle, og_rgt, og_rge, og_req, og_rne, og_padd, og_psub, og_pmul, List.getD_cons_zero, List.getD_cons_succ, List.set_cons_zero, List.set_cons_succ, List.length_cons, List.length_nil, List.cons_append, List.nil_append, List.replicate, List.append_nil, Nat.reduceAdd, Nat.reduceSub, Nat.reduceEqDiff, if_true, if_false, reduceIte, Int.reduceAdd, Int.reduceSub, Int.reduceMul, Int.reduceNeg, Int.reduceLT, Int.reduceLE, Int.cast_ofNat_Int, true_or, or_true, true_and, and_true, false_and, List.mem_cons, List.not_mem_nil, or_false, false_or, ne_eq, og_i32]
            refine r_triesAnew ho hT3 hM0 (fun h4 hT4 hN4 e54 _ hfr4 => ?_)
            have hdf4 : footIs h4 1042 d := fun k hk => by rw [hfr4 _ _ (by decide)]; exact hdf3 k hk
            have hw4 : (enU (sEf P A) d acc).1 ≠ -1 → footIs h4 1043 (enU (sEf P A) d acc).2 ∧ ((enU (sEf P A) d acc).2.length : Int) = n := fun z => ⟨fun k hk => by rw [hfr4 _ _ (by decide)]; exact (hw3 z).1 k hk, (hw3 z).2⟩
            have hb6 : tmB (M + 2000) h4 := by unfold tmB; rw [e54]; exact hb5
            refine r_goesOn hn hdl hN4.1 ho hdo hdf4 (fun hnone => ?_) (fun d' hsome hl' hdo' h5 hdf5 hfr5 => ?_)
            · refine og_nx_mk hi126 ⟨(enU (sEf P A) d acc, 0), c4', rfl, hT4, hN4, hb6, ge5.1, hw4, Or.inr ⟨rfl, fun _ => ?_, fun z => ?_⟩⟩
              · rw [← hde]
                unfold sEn
                rw [hnone]
              · have := hdo 0 (by omega); omega
            · have hsc5 : ∀ j k, ¬ ((1039 ≤ j ∧ j ≤ 1044) ∨ j = 1046) → h5 j k = h4 j k := fun j k z => hfr5 j k (by omega)
              refine og_nx_mk hi126 ⟨(enU (sEf P A) d acc, 1), c4', rfl, inTh_sc hT4 hsc5, isN_sc hN4 hsc5, by unfold tmB; rw [hfr5 _ _ (by decide)]; exact hb6, ge5.1, fun z => ⟨fun k hk => ?_, (hw4 z).2⟩, Or.inl ⟨rfl, d', by omega, hdo', hdf5, ?_, ?_⟩⟩
              · rw [hfr5 _ _ (by decide)]; exact (hw4 z).1 k hk
              · unfold nxI at hdn; rw [hsome] at hdn; exact hdn
              · rw [← hde]
                conv => rhs; unfold sEn
                rw [hsome]
        · dsimp only at hm0
          subst hm0
          simp -implicitDefEqProofs only [↓dn_den, ↓dn_loc, ↓dn_k, ↓dn_add, ↓dn_sub, ↓dn_mul, ↓dn_div, ↓dn_rem, ↓dn_bop, ↓dn_ladd, ↓dn_lsub, ↓dn_lmul, ↓dn_ldiv, ↓dn_lrem, ↓dn_land, ↓dn_l2i, ↓dn_neg, ↓dn_get, ↓dn_fix, ↓dn_ald, ↓dn_gld, ↓dn_yld, ↓dn_len, ↓dn_gln, ↓dn_cc, ↓dn_cb, ↓dn_and, ↓dn_or, ↓dn_not, ↓dn_cite, ↓dn_ec, ↓dn_ei, ↓dn_skip, ↓dn_seq, ↓dn_set, ↓dn_inc, ↓dn_putf, ↓dn_putz, ↓dn_ast, ↓dn_exp, ↓dn_if, ↓dn_ret, ↓dn_retz, ↓dn_retv, ↓dn_brk, ↓dn_cont, ↓dn_cs, ↓dn_sw, ↓dn_pop32, ↓dn_pop64, ↓dn_aop, ↓dn_call, ↓dn_max, ↓dn_min, ↓dn_acp, ↓dn_i2l, ↓dn_args0, ↓dn_args1, og_pad, og_ent, og_rlt, og_rle, og_rgt, og_rge, og_req, og_rne, og_padd, og_psub, og_pmul, List.getD_cons_zero, List.getD_cons_succ, List.set_cons_zero, List.set_cons_succ, List.length_cons, List.length_nil, List.cons_append, List.nil_append, List.replicate, List.append_nil, Nat.reduceAdd, Nat.reduceSub, Nat.reduceEqDiff, if_true, if_false, reduceIte, Int.reduceAdd, Int.reduceSub, Int.reduceMul, Int.reduceNeg, Int.reduceLT, Int.reduceLE, Int.cast_ofNat_Int, true_or, or_true, true_and, and_true, false_and, List.mem_cons, List.not_mem_nil, or_false, false_or, ne_eq]
          exact ⟨fun z => absurd (by trivial) z, fun _ => ⟨i, (acc, 0), c4, rfl, hT2, hN2, hb4, hge, hw, Or.inr ⟨rfl, hacc, hacc0⟩⟩⟩
      · rintro e2 h2 ⟨i, ⟨⟨acc, more⟩, c4, rfl, hT2, hN2, hb4, hge, hw, hor⟩, h5⟩
        simp -implicitDefEqProofs only [↓dn_den, ↓dn_loc, ↓dn_k, ↓dn_add, ↓dn_sub, ↓dn_mul, ↓dn_div, ↓dn_rem, ↓dn_bop, ↓dn_ladd, ↓dn_lsub, ↓dn_lmul, ↓dn_ldiv, ↓dn_lrem, ↓dn_land, ↓dn_l2i, ↓dn_neg, ↓dn_get, ↓dn_fix, ↓dn_ald, ↓dn_gld, ↓dn_yld, ↓dn_len, ↓dn_gln, ↓dn_cc, ↓dn_cb, ↓dn_and, ↓dn_or, ↓dn_not, ↓dn_cite, ↓dn_ec, ↓dn_ei, ↓dn_skip, ↓dn_seq, ↓dn_set, ↓dn_inc, ↓dn_putf, ↓dn_putz, ↓dn_ast, ↓dn_exp, ↓dn_if, ↓dn_ret, ↓dn_retz, ↓dn_retv, ↓dn_brk, ↓dn_cont, ↓dn_cs, ↓dn_sw, ↓dn_pop32, ↓dn_pop64, ↓dn_aop, ↓dn_call, ↓dn_max, ↓dn_min, ↓dn_acp, ↓dn_i2l, ↓dn_args0, ↓dn_args1, og_pad, og_ent, og_rlt, og_rle, og_rgt, og_rge, og_req, og_rne, og_padd, og_psub, og_pmul, List.getD_cons_zero, List.getD_cons_succ, List.set_cons_zero, List.set_cons_succ, List.length_cons, List.length_nil, List.cons_append, List.nil_append, List.replicate, List.append_nil, Nat.reduceAdd, Nat.reduceSub, Nat.reduceEqDiff, if_true, if_false, reduceIte, Int.reduceAdd, Int.reduceSub, Int.reduceMul, Int.reduceNeg, Int.reduceLT, Int.reduceLE, Int.cast_ofNat_Int, true_or, or_true, true_and, and_true, false_and, List.mem_cons, List.not_mem_nil, or_false, false_or, ne_eq] at h5 ⊢
        rcases hor with ⟨hm1, -⟩ | ⟨hm0, hacc, hacc0⟩
        · dsimp only at hm1; omega
        · exact hK acc hacc hacc0 h2 hT2 hb4 hw
    exact ⟨fun hg => body 1 (Or.inl ⟨rfl, hg⟩), fun hg => body 0 (Or.inr ⟨rfl, hg⟩)⟩
theorem r_enemy {n k M : Int} (hR : hasM h P) (hP : okQ P) (hn : isN h A) (ho : okY A) (hk : okK A) (h53 : h 1000 53 = 0) (hm0 : A 0 2 ≤ 999) (hM : M ≤ 10000000) (hb : tmB M h) (hK : ∀ h', frQ h h' → tmB (M + 2000) h' → K (sEnemy P A n k) h') : m_Model_enemy [1000, n, k] h K := by
  have h6 := ho.1
  have hb0 : tmB (M + 2000) h := ⟨hb.1, by have := hb.2; omega⟩
  unfold m_Model_enemy
  simp -implicitDefEqProofs only [↓dn_den, ↓dn_loc, ↓dn_k, ↓dn_add, ↓dn_sub, ↓dn_mul, ↓dn_div, ↓dn_rem, ↓dn_bop, ↓dn_ladd, ↓dn_lsub, ↓dn_lmul, ↓dn_ldiv, ↓dn_lrem, ↓dn_land, ↓dn_l2i, ↓dn_neg, ↓dn_get, ↓dn_fix, ↓dn_ald, ↓dn_gld, ↓dn_yld, ↓dn_len, ↓dn_gln, ↓dn_cc, ↓dn_cb, ↓dn_and, ↓dn_or, ↓dn_not, ↓dn_cite, ↓dn_ec, ↓dn_ei, ↓dn_skip, ↓dn_seq, ↓dn_set, ↓dn_inc, ↓dn_putf, ↓dn_putz, ↓dn_ast, ↓dn_exp, ↓dn_if, ↓dn_ret, ↓dn_retz, ↓dn_retv, ↓dn_brk, ↓dn_cont, ↓dn_cs, ↓dn_sw, ↓dn_pop32, ↓dn_pop64, ↓dn_aop, ↓dn_call, ↓dn_max, ↓dn_min, ↓dn_acp, ↓dn_i2l, ↓dn_args0, ↓dn_args1, og_pad, og_ent, og_rlt, og_rle, og_rgt, og_rge, og_req, og_rne, og_padd, og_psub, og_pmul, List.getD_cons_zero, List.getD_cons_succ, List.set_cons_zero, List.set_cons_succ, List.length_cons, List.length_nil, List.cons_append, List.nil_append, List.replicate, List.append_nil, Nat.reduceAdd, Nat.reduceSub, Nat.reduceEqDiff, if_true, if_false, reduceIte, Int.reduceAdd, Int.reduceSub, Int.reduceMul, Int.reduceNeg, Int.reduceLT, Int.reduceLE, Int.cast_ofNat_Int, true_or, or_true, true_and, and_true, false_and, List.mem_cons, List.not_mem_nil, or_false, false_or, ne_eq, og_i32]
  unfold sEnemy at hK
  refine r_isIn ⟨fun hx => ?_, fun hx => ?_⟩
  · have hx := iteP1 hx
    refine ⟨by omega, r_isIn ⟨fun hz => ?_, fun hz => ?_⟩⟩
    · have hz := iteP1 hz
      refine r_isAhead hn.1 (by omega) (by decide) (by decide) ⟨fun hq => ?_, fun hq => ?_⟩
      · have hq := iteP1 hq
        rw [if_pos ⟨hx, ⟨hz.1, by omega⟩, hq.2⟩] at hK
        refine r_putsAside ho hn (fun h1 hT1 hN1 e541 => ?_)
        refine r_enemyMost hT1 hn.1 hN1 hR hP ho hk hq.2 hx hM (by unfold tmB; rw [e541]; exact hb) (fun m hm1 hm2 h2 hT2 hb2 hw2 => ?_)
        refine r_takesBack ho hT2 hn.1 h53 (fun h3 hF3 e3 hfr3 => ?_)
        have hb3 : tmB (M + 2000) h3 := by unfold tmB; rw [e3]; exact hb2
        have hK3 := hK h3 hF3 hb3
        by_cases hg : 0 < A 0 0
        · rw [if_pos hg, ← hm1 hg] at hK3
          refine ⟨fun e => ?_, fun e => ⟨fun e4 => ?_, fun e4 => ?_⟩⟩
          · rw [if_pos (Or.inl e)] at hK3; exact hK3
          · rw [if_pos (Or.inr e4)] at hK3; exact hK3
          · rw [if_neg (fun z => z.elim e e4)] at hK3
            have hw := hw2 e4
            have hkk := hw.1 k.toNat (by omega)
            rw [Int.toNat_of_nonneg (by omega)] at hkk
            rw [hfr3 _ _ (by decide) (by decide), hkk]
            exact ⟨by omega, by omega, hK3⟩
        · rw [if_neg hg] at hK3
          have e5 := hm2 hg
          rw [e5]
          exact ⟨fun _ => hK3, fun _ => ⟨fun _ => hK3, fun z => absurd (by trivial) z⟩⟩
      · rw [if_neg (fun z => iteP0 hq ⟨by decide, z.2.2⟩)] at hK
        exact hK h frQ_rf hb0
    · rw [if_neg (fun z => iteP0 hz ⟨z.2.1.1, by omega⟩)] at hK
      exact hK h frQ_rf hb0
  · rw [if_neg (fun z => iteP0 hx z.1)] at hK
    exact hK h frQ_rf hb0
theorem c_enemy {n k : Int} (hc : isC h A P) (hP : okP P) (ho : okY A) (hm0 : A 0 2 ≤ 999) (hK : ∀ h', frS h h' → K (sEnemy P A n k) h') : m_OG_enemy [0, n, k] h K := by
  have h6 := ho.1
  have ht := hc.2.1
  unfold toldOK at ht
  unfold m_OG_enemy
  simp -implicitDefEqProofs only [↓dn_den, ↓dn_loc, ↓dn_k, ↓dn_add, ↓dn_sub, ↓dn_mul, ↓dn_div, ↓dn_rem, ↓dn_bop, ↓dn_ladd, ↓dn_lsub, ↓dn_lmul, ↓dn_ldiv, ↓dn_lrem, ↓dn_land, ↓dn_l2i, ↓dn_neg, ↓dn_get, ↓dn_fix, ↓dn_ald, ↓dn_gld, ↓dn_yld, ↓dn_len, ↓dn_gln, ↓dn_cc, ↓dn_cb, ↓dn_and, ↓dn_or, ↓dn_not, ↓dn_cite, ↓dn_ec, ↓dn_ei, ↓dn_skip, ↓dn_seq, ↓dn_set, ↓dn_inc, ↓dn_putf, ↓dn_putz, ↓dn_ast, ↓dn_exp, ↓dn_if, ↓dn_ret, ↓dn_retz, ↓dn_retv, ↓dn_brk, ↓dn_cont, ↓dn_cs, ↓dn_sw, ↓dn_pop32, ↓dn_pop64, ↓dn_aop, ↓dn_call, ↓dn_max, ↓dn_min, ↓dn_acp, ↓dn_i2l, ↓dn_args0, ↓dn_args1, og_pad, og_ent, og_rlt, og_rle, og_rgt, og_rge, og_req, og_rne, og_padd, og_psub, og_pmul, List.getD_cons_zero, List.getD_cons_succ, List.set_cons_zero, List.set_cons_succ, List.length_cons, List.length_nil, List.cons_append, List.nil_append, List.replicate, List.append_nil, Nat.reduceAdd, Nat.reduceSub, Nat.reduceEqDiff, if_true, if_false, reduceIte, Int.reduceAdd, Int.reduceSub, Int.reduceMul, Int.reduceNeg, Int.reduceLT, Int.reduceLE, Int.cast_ofNat_Int, true_or, or_true, true_and, and_true, false_and, List.mem_cons, List.not_mem_nil, or_false, false_or, ne_eq, og_i32]
  unfold sEnemy at hK
  have em := hc.1.1.2.2.1
  rw [em]
  refine ⟨fun z => ?_, fun n1 => ⟨fun z => ?_, fun n2 => ⟨fun z => ?_, fun n3 => ⟨fun z => ?_, fun n4 => ⟨by omega, fun z => ?_, fun n5 => ?_⟩⟩⟩⟩⟩
  · rw [if_neg (by omega)] at hK; exact hK h frS_rf
  · rw [if_neg (by omega)] at hK; exact hK h frS_rf
  · rw [if_neg (by omega)] at hK; exact hK h frS_rf
  · rw [if_neg (by omega)] at hK; exact hK h frS_rf
  · rw [if_neg (by omega)] at hK; exact hK h frS_rf
  · rw [if_pos (by omega)] at hK
    refine s_Out_mostTaken hc.2.2 hP (by omega) (by omega) (by omega) hc.1 ho (by omega) (by omega) (fun hg h1 hS => ?_) (fun m hg hm h1 hS hw => ?_)
    · have hK1 := hK h1 hS
      rw [if_neg hg] at hK1
      exact ⟨fun _ => hK1, fun z => absurd (by trivial) z⟩
    · have hK1 := hK h1 hS
      rw [if_pos hg, ← hm] at hK1
      refine ⟨fun e => ?_, fun e => ⟨fun e4 => ?_, fun e4 => ?_⟩⟩
      · rw [if_pos (Or.inr e)] at hK1; exact hK1
      · rw [if_pos (Or.inl e4)] at hK1; exact hK1
      · rw [if_neg (fun z => z.elim e4 e)] at hK1
        have hw := hw e
        have hkk := hw.1 k.toNat (by omega)
        rw [Int.toNat_of_nonneg (by omega)] at hkk
        rw [hkk]
        exact ⟨by omega, by omega, hK1⟩
end
