section
-- the reference: what is read stands
section
variable {h h0 h' : Hp} {K : Int → Hp → Prop}
theorem r_copy {a d N : Int} {m : Nat} {KK : List Int → Hp → Prop} {R : Int → Hp → Prop} {Bk Ct : List Int → Hp → Prop} (hN : 0 ≤ N ∧ N ≤ d ∧ d + N ≤ m ∧ (m : Int) ≤ 10000) (hK : ∀ x h', (∀ k, 0 ≤ k → k < N → h' a (d + k) = h a k) → (∀ i k, ¬ (i = a ∧ d ≤ k ∧ k < d + N) → h' i k = h i k) → KK [1000, x] h') :
    og_while (og_cc og_rlt (og_loc 1) (og_k N)) (og_ast m (og_fix (fun _ => a) (og_loc 0)) (og_add (og_k d) (og_loc 1)) (og_ald m (og_fix (fun _ => a) (og_loc 0)) (og_loc 1))) (og_inc 1 1) [1000, 0] h KK R Bk Ct := by
  refine og_loop N.toNat (fun i e1 h1 => e1 = [1000, (i : Int)] ∧ (∀ k, 0 ≤ k → k < (i : Int) → h1 a (d + k) = h a k) ∧ (∀ j k, ¬ (j = a ∧ d ≤ k ∧ k < d + (i : Int)) → h1 j k = h j k)) ⟨rfl, fun k a b => by omega, fun _ _ _ => rfl⟩ ?_
  rintro i e1 h1 hi ⟨rfl, j1, j2⟩
  simp -implicitDefEqProofs only [↓dn_den, ↓dn_loc, ↓dn_k, ↓dn_add, ↓dn_sub, ↓dn_mul, ↓dn_div, ↓dn_rem, ↓dn_bop, ↓dn_ladd, ↓dn_lsub, ↓dn_lmul, ↓dn_ldiv, ↓dn_lrem, ↓dn_land, ↓dn_l2i, ↓dn_neg, ↓dn_get, ↓dn_fix, ↓dn_ald, ↓dn_gld, ↓dn_yld, ↓dn_len, ↓dn_gln, ↓dn_cc, ↓dn_cb, ↓dn_and, ↓dn_or, ↓dn_not, ↓dn_cite, ↓dn_ec, ↓dn_ei, ↓dn_skip, ↓dn_seq, ↓dn_set, ↓dn_inc, ↓dn_putf, ↓dn_putz, ↓dn_ast, ↓dn_exp, ↓dn_if, ↓dn_ret, ↓dn_retz, ↓dn_retv, ↓dn_brk, ↓dn_cont, ↓dn_cs, ↓dn_sw, ↓dn_pop32, ↓dn_pop64, ↓dn_aop, ↓dn_call, ↓dn_max, ↓dn_min, ↓dn_acp, ↓dn_i2l, ↓dn_args0, ↓dn_args1, og_pad, og_ent, og_rlt, og_rle, og_rgt, og_rge, og_req, og_rne, og_padd, og_psub, og_pmul, List.getD_cons_zero, List.getD_cons_succ, List.set_cons_zero, List.set_cons_succ, List.length_cons, List.length_nil, List.cons_append, List.nil_append, List.replicate, List.append_nil, Nat.reduceAdd, Nat.reduceSub, Nat.reduceEqDiff, if_true, if_false, reduceIte, Int.reduceAdd, Int.reduceSub, Int.reduceMul, Int.reduceNeg, Int.reduceLT, Int.reduceLE, Int.cast_ofNat_Int, true_or, or_true, true_and, and_true, false_and, List.mem_cons, List.not_mem_nil, or_false, false_or, ne_eq, og_i32]
  refine ⟨fun hlt => ?_, fun hge => hK _ h1 (fun k k0 k1 => j1 k k0 (by omega)) (fun j k hp => j2 j k (by omega))⟩
  rw [j2 a i (by omega)]
  refine ⟨by omega, by omega, by omega, by omega, by omega, by omega, og_nx_mk (by omega) ⟨by simp, fun k k0 k1 => ?_, fun j k hp => ?_⟩⟩
  · by_cases e : k = i
    · subst e; rw [og_up_eq]
    · rw [og_up_k (by omega)]; exact j1 k k0 (by omega)
  · have : og_up h1 a (d + (i : Int)) (h a (i : Int)) j k = h1 j k := by unfold og_up; exact if_neg (by omega)
    rw [this]
    exact j2 j k (by omega)
set_option maxHeartbeats 400000 in
theorem r_stands (hG : 0 ≤ h 1028 0 ∧ h 1028 0 ≤ 6) (hN : 0 ≤ h 1028 1 ∧ h 1028 1 ≤ 8) (hc : 0 ≤ h 1000 46 ∧ h 1000 46 ≤ 1600)
    (hK : ∀ h', (h' 1028 2 = h 1028 0 ∧ h' 1028 3 = h 1028 1) → (∀ w, 0 ≤ w → w < 5 → h' 1034 (5 + w) = h 1034 w ∧ h' 1035 (5 + w) = h 1035 w) → (∀ j, 0 ≤ j → j < 16 → h' 1029 (16 + j) = h 1029 j) → (∀ j, 0 ≤ j → j < 6 → h' 1030 (6 + j) = h 1030 j) → (∀ j, 0 ≤ j → j < 8 → h' 1031 (8 + j) = h 1031 j) → (∀ j, 0 ≤ j → j < h 1000 46 → h' 1036 (1600 + j) = h 1036 j) → (h' 1037 0 = 0 ∧ h' 1037 43 = 0) → (∀ g, 0 ≤ g → g < h 1028 0 → h' 1037 (1 + 3 * g) = h 1032 (2 * g) ∧ h' 1037 (2 + 3 * g) = h 1032 (2 * g + 1) ∧ h' 1037 (3 + 3 * g) = -1) → (∀ p, 0 ≤ p → p < h 1028 1 → h' 1037 (19 + 3 * p) = 1 ∧ h' 1037 (20 + 3 * p) = h 1033 (2 * p) ∧ h' 1037 (21 + 3 * p) = h 1033 (2 * p + 1)) → (h' 1000 65 = 0 ∧ h' 1000 61 = 0) →
      (∀ i k, ¬ ((i = 1028 ∧ 2 ≤ k) ∨ ((i = 1034 ∨ i = 1035) ∧ 5 ≤ k) ∨ (i = 1029 ∧ 16 ≤ k) ∨ (i = 1030 ∧ 6 ≤ k) ∨ (i = 1031 ∧ 8 ≤ k) ∨ (i = 1036 ∧ 1600 ≤ k) ∨ i = 1037 ∨ (i = 1000 ∧ (k = 65 ∨ k = 61))) → h' i k = h i k) → K 0 h') : m_Model_stands [1000] h K := by
  unfold m_Model_stands
  simp -implicitDefEqProofs only [↓dn_den, ↓dn_loc, ↓dn_k, ↓dn_add, ↓dn_sub, ↓dn_mul, ↓dn_div, ↓dn_rem, ↓dn_bop, ↓dn_ladd, ↓dn_lsub, ↓dn_lmul, ↓dn_ldiv, ↓dn_lrem, ↓dn_land, ↓dn_l2i, ↓dn_neg, ↓dn_get, ↓dn_fix, ↓dn_ald, ↓dn_gld, ↓dn_yld, ↓dn_len, ↓dn_gln, ↓dn_cc, ↓dn_cb, ↓dn_and, ↓dn_or, ↓dn_not, ↓dn_cite, ↓dn_ec, ↓dn_ei, ↓dn_skip, ↓dn_seq, ↓dn_set, ↓dn_inc, ↓dn_putf, ↓dn_putz, ↓dn_ast, ↓dn_exp, ↓dn_ret, ↓dn_retz, ↓dn_retv, ↓dn_brk, ↓dn_cont, ↓dn_cs, ↓dn_sw, ↓dn_pop32, ↓dn_pop64, ↓dn_aop, ↓dn_call, ↓dn_max, ↓dn_min, ↓dn_acp, ↓dn_i2l, ↓dn_args0, ↓dn_args1, og_pad, og_ent, og_rlt, og_rle, og_rgt, og_rge, og_req, og_rne, og_padd, og_psub, og_pmul, List.getD_cons_zero, List.getD_cons_succ, List.set_cons_zero, List.set_cons_succ, List.length_cons, List.length_nil, List.cons_append, List.nil_append, List.replicate, List.append_nil, Nat.reduceAdd, Nat.reduceSub, Nat.reduceEqDiff, if_true, if_false, reduceIte, Int.reduceAdd, Int.reduceSub, Int.reduceMul, Int.reduceNeg, Int.reduceLT, Int.reduceLE, Int.cast_ofNat_Int, true_or, or_true, true_and, and_true, false_and, List.mem_cons, List.not_mem_nil, or_false, false_or, ne_eq]
  refine ⟨fun e1 h1 => (∃ x, e1 = [1000, x]) ∧ (∀ k, 0 ≤ k → k < 2 → h1 1028 (2 + k) = h 1028 k) ∧ (∀ i k, ¬ (i = 1028 ∧ 2 ≤ k ∧ k < 2 + 2) → h1 i k = h i k), ?_, ?_⟩
  · simp -implicitDefEqProofs only [↓dn_den, ↓dn_loc, ↓dn_k, ↓dn_add, ↓dn_sub, ↓dn_mul, ↓dn_div, ↓dn_rem, ↓dn_bop, ↓dn_ladd, ↓dn_lsub, ↓dn_lmul, ↓dn_ldiv, ↓dn_lrem, ↓dn_land, ↓dn_l2i, ↓dn_neg, ↓dn_get, ↓dn_fix, ↓dn_ald, ↓dn_gld, ↓dn_yld, ↓dn_len, ↓dn_gln, ↓dn_cc, ↓dn_cb, ↓dn_and, ↓dn_or, ↓dn_not, ↓dn_cite, ↓dn_ec, ↓dn_ei, ↓dn_skip, ↓dn_seq, ↓dn_set, ↓dn_inc, ↓dn_putf, ↓dn_putz, ↓dn_ast, ↓dn_exp, ↓dn_if, ↓dn_ret, ↓dn_retz, ↓dn_retv, ↓dn_brk, ↓dn_cont, ↓dn_cs, ↓dn_sw, ↓dn_pop32, ↓dn_pop64, ↓dn_aop, ↓dn_call, ↓dn_max, ↓dn_min, ↓dn_acp, ↓dn_i2l, ↓dn_args0, ↓dn_args1, og_pad, og_ent, og_rlt, og_rle, og_rgt, og_rge, og_req, og_rne, og_padd, og_psub, og_pmul, List.getD_cons_zero, List.getD_cons_succ, List.set_cons_zero, List.set_cons_succ, List.length_cons, List.length_nil, List.cons_append, List.nil_append, List.replicate, List.append_nil, Nat.reduceAdd, Nat.reduceSub, Nat.reduceEqDiff, if_true, if_false, reduceIte, Int.reduceAdd, Int.reduceSub, Int.reduceMul, Int.reduceNeg, Int.reduceLT, Int.reduceLE, Int.cast_ofNat_Int, true_or, or_true, true_and, and_true, false_and, List.mem_cons, List.not_mem_nil, or_false, false_or, ne_eq]
    exact r_copy (by decide) (fun x h1 a1 f1 => ⟨⟨x, rfl⟩, a1, f1⟩)
  rintro e1 h1 ⟨⟨x, rfl⟩, a1, f1⟩
  refine ⟨fun e2 h2 => (∃ x, e2 = [1000, x]) ∧ (∀ k, 0 ≤ k → k < 5 → h2 1034 (5 + k) = h1 1034 k ∧ h2 1035 (5 + k) = h1 1035 k) ∧ (∀ i k, ¬ ((i = 1034 ∨ i = 1035) ∧ 5 ≤ k) → h2 i k = h1 i k), ?_, ?_⟩
  · simp -implicitDefEqProofs only [↓dn_den, ↓dn_loc, ↓dn_k, ↓dn_add, ↓dn_sub, ↓dn_mul, ↓dn_div, ↓dn_rem, ↓dn_bop, ↓dn_ladd, ↓dn_lsub, ↓dn_lmul, ↓dn_ldiv, ↓dn_lrem, ↓dn_land, ↓dn_l2i, ↓dn_neg, ↓dn_get, ↓dn_fix, ↓dn_ald, ↓dn_gld, ↓dn_yld, ↓dn_len, ↓dn_gln, ↓dn_cc, ↓dn_cb, ↓dn_and, ↓dn_or, ↓dn_not, ↓dn_cite, ↓dn_ec, ↓dn_ei, ↓dn_skip, ↓dn_seq, ↓dn_set, ↓dn_inc, ↓dn_putf, ↓dn_putz, ↓dn_ast, ↓dn_exp, ↓dn_if, ↓dn_ret, ↓dn_retz, ↓dn_retv, ↓dn_brk, ↓dn_cont, ↓dn_cs, ↓dn_sw, ↓dn_pop32, ↓dn_pop64, ↓dn_aop, ↓dn_call, ↓dn_max, ↓dn_min, ↓dn_acp, ↓dn_i2l, ↓dn_args0, ↓dn_args1, og_pad, og_ent, og_rlt, og_rle, og_rgt, og_rge, og_req, og_rne, og_padd, og_psub, og_pmul, List.getD_cons_zero, List.getD_cons_succ, List.set_cons_zero, List.set_cons_succ, List.length_cons, List.length_nil, List.cons_append, List.nil_append, List.replicate, List.append_nil, Nat.reduceAdd, Nat.reduceSub, Nat.reduceEqDiff, if_true, if_false, reduceIte, Int.reduceAdd, Int.reduceSub, Int.reduceMul, Int.reduceNeg, Int.reduceLT, Int.reduceLE, Int.cast_ofNat_Int, true_or, or_true, true_and, and_true, false_and, List.mem_cons, List.not_mem_nil, or_false, false_or, ne_eq]
    refine og_loop 5 (fun i e2 h2 => e2 = [1000, (i : Int)] ∧ (∀ k, 0 ≤ k → k < (i : Int) → h2 1034 (5 + k) = h1 1034 k ∧ h2 1035 (5 + k) = h1 1035 k) ∧ (∀ j k, ¬ ((j = 1034 ∨ j = 1035) ∧ 5 ≤ k) → h2 j k = h1 j k)) ⟨rfl, fun k a b => by omega, fun _ _ _ => rfl⟩ ?_
    rintro i e2 h2 hi ⟨rfl, j1, j2⟩
    simp -implicitDefEqProofs only [↓dn_den, ↓dn_loc, ↓dn_k, ↓dn_add, ↓dn_sub, ↓dn_mul, ↓dn_div, ↓dn_rem, ↓dn_bop, ↓dn_ladd, ↓dn_lsub, ↓dn_lmul, ↓dn_ldiv, ↓dn_lrem, ↓dn_land, ↓dn_l2i, ↓dn_neg, ↓dn_get, ↓dn_fix, ↓dn_ald, ↓dn_gld, ↓dn_yld, ↓dn_len, ↓dn_gln, ↓dn_cc, ↓dn_cb, ↓dn_and, ↓dn_or, ↓dn_not, ↓dn_cite, ↓dn_ec, ↓dn_ei, ↓dn_skip, ↓dn_seq, ↓dn_set, ↓dn_inc, ↓dn_putf, ↓dn_putz, ↓dn_ast, ↓dn_exp, ↓dn_if, ↓dn_ret, ↓dn_retz, ↓dn_retv, ↓dn_brk, ↓dn_cont, ↓dn_cs, ↓dn_sw, ↓dn_pop32, ↓dn_pop64, ↓dn_aop, ↓dn_call, ↓dn_max, ↓dn_min, ↓dn_acp, ↓dn_i2l, ↓dn_args0, ↓dn_args1, og_pad, og_ent, og_rlt, og_rle, og_rgt, og_rge, og_req, og_rne, og_padd, og_psub, og_pmul, List.getD_cons_zero, List.getD_cons_succ, List.set_cons_zero, List.set_cons_succ, List.length_cons, List.length_nil, List.cons_append, List.nil_append, List.replicate, List.append_nil, Nat.reduceAdd, Nat.reduceSub, Nat.reduceEqDiff, if_true, if_false, reduceIte, Int.reduceAdd, Int.reduceSub, Int.reduceMul, Int.reduceNeg, Int.reduceLT, Int.reduceLE, Int.cast_ofNat_Int, true_or, or_true, true_and, and_true, false_and, List.mem_cons, List.not_mem_nil, or_false, false_or, ne_eq, og_i32]
    refine ⟨fun hlt => ?_, fun hge => ⟨⟨_, rfl⟩, fun k k0 k1 => j1 k k0 (by omega), j2⟩⟩
    rw [og_up_i (by decide), j2 1034 _ (by omega), j2 1035 _ (by omega)]
    refine ⟨by omega, by omega, by omega, by omega, by omega, by omega, by omega, by omega, by omega, by omega, by omega, og_nx_mk (by omega) ⟨by simp, fun k k0 k1 => ?_, fun j k hp => ?_⟩⟩
    · by_cases e : k = i
      · subst e
        exact ⟨by rw [og_up_i (by decide), og_up_eq], og_up_eq⟩
      · rw [og_up_i (by decide), og_up_k (by omega), og_up_k (by omega), og_up_i (by decide)]
        exact j1 k k0 (by omega)
    · have : og_up (og_up h2 1034 (5 + (i : Int)) (h1 1034 (i : Int))) 1035 (5 + (i : Int)) (h1 1035 (i : Int)) j k = h2 j k := by
        unfold og_up
        rw [if_neg (by omega), if_neg (by omega)]
      rw [this]; exact j2 j k hp
  rintro e2 h2 ⟨⟨x, rfl⟩, a2, f2⟩
  refine ⟨fun e3 h3 => (∃ x, e3 = [1000, x]) ∧ (∀ k, 0 ≤ k → k < 16 → h3 1029 (16 + k) = h2 1029 k) ∧ (∀ i k, ¬ (i = 1029 ∧ 16 ≤ k ∧ k < 16 + 16) → h3 i k = h2 i k), ?_, ?_⟩
  · simp -implicitDefEqProofs only [↓dn_den, ↓dn_loc, ↓dn_k, ↓dn_add, ↓dn_sub, ↓dn_mul, ↓dn_div, ↓dn_rem, ↓dn_bop, ↓dn_ladd, ↓dn_lsub, ↓dn_lmul, ↓dn_ldiv, ↓dn_lrem, ↓dn_land, ↓dn_l2i, ↓dn_neg, ↓dn_get, ↓dn_fix, ↓dn_ald, ↓dn_gld, ↓dn_yld, ↓dn_len, ↓dn_gln, ↓dn_cc, ↓dn_cb, ↓dn_and, ↓dn_or, ↓dn_not, ↓dn_cite, ↓dn_ec, ↓dn_ei, ↓dn_skip, ↓dn_seq, ↓dn_set, ↓dn_inc, ↓dn_putf, ↓dn_putz, ↓dn_ast, ↓dn_exp, ↓dn_if, ↓dn_ret, ↓dn_retz, ↓dn_retv, ↓dn_brk, ↓dn_cont, ↓dn_cs, ↓dn_sw, ↓dn_pop32, ↓dn_pop64, ↓dn_aop, ↓dn_call, ↓dn_max, ↓dn_min, ↓dn_acp, ↓dn_i2l, ↓dn_args0, ↓dn_args1, og_pad, og_ent, og_rlt, og_rle, og_rgt, og_rge, og_req, og_rne, og_padd, og_psub, og_pmul, List.getD_cons_zero, List.getD_cons_succ, List.set_cons_zero, List.set_cons_succ, List.length_cons, List.length_nil, List.cons_append, List.nil_append, List.replicate, List.append_nil, Nat.reduceAdd, Nat.reduceSub, Nat.reduceEqDiff, if_true, if_false, reduceIte, Int.reduceAdd, Int.reduceSub, Int.reduceMul, Int.reduceNeg, Int.reduceLT, Int.reduceLE, Int.cast_ofNat_Int, true_or, or_true, true_and, and_true, false_and, List.mem_cons, List.not_mem_nil, or_false, false_or, ne_eq]
    exact r_copy (by decide) (fun x h1 a1 f1 => ⟨⟨x, rfl⟩, a1, f1⟩)
  rintro e3 h3 ⟨⟨x, rfl⟩, a3, f3⟩
  refine ⟨fun e4 h4 => (∃ x, e4 = [1000, x]) ∧ (∀ k, 0 ≤ k → k < 6 → h4 1030 (6 + k) = h3 1030 k) ∧ (∀ i k, ¬ (i = 1030 ∧ 6 ≤ k ∧ k < 6 + 6) → h4 i k = h3 i k), ?_, ?_⟩
  · simp -implicitDefEqProofs only [↓dn_den, ↓dn_loc, ↓dn_k, ↓dn_add, ↓dn_sub, ↓dn_mul, ↓dn_div, ↓dn_rem, ↓dn_bop, ↓dn_ladd, ↓dn_lsub, ↓dn_lmul, ↓dn_ldiv, ↓dn_lrem, ↓dn_land, ↓dn_l2i, ↓dn_neg, ↓dn_get, ↓dn_fix, ↓dn_ald, ↓dn_gld, ↓dn_yld, ↓dn_len, ↓dn_gln, ↓dn_cc, ↓dn_cb, ↓dn_and, ↓dn_or, ↓dn_not, ↓dn_cite, ↓dn_ec, ↓dn_ei, ↓dn_skip, ↓dn_seq, ↓dn_set, ↓dn_inc, ↓dn_putf, ↓dn_putz, ↓dn_ast, ↓dn_exp, ↓dn_if, ↓dn_ret, ↓dn_retz, ↓dn_retv, ↓dn_brk, ↓dn_cont, ↓dn_cs, ↓dn_sw, ↓dn_pop32, ↓dn_pop64, ↓dn_aop, ↓dn_call, ↓dn_max, ↓dn_min, ↓dn_acp, ↓dn_i2l, ↓dn_args0, ↓dn_args1, og_pad, og_ent, og_rlt, og_rle, og_rgt, og_rge, og_req, og_rne, og_padd, og_psub, og_pmul, List.getD_cons_zero, List.getD_cons_succ, List.set_cons_zero, List.set_cons_succ, List.length_cons, List.length_nil, List.cons_append, List.nil_append, List.replicate, List.append_nil, Nat.reduceAdd, Nat.reduceSub, Nat.reduceEqDiff, if_true, if_false, reduceIte, Int.reduceAdd, Int.reduceSub, Int.reduceMul, Int.reduceNeg, Int.reduceLT, Int.reduceLE, Int.cast_ofNat_Int, true_or, or_true, true_and, and_true, false_and, List.mem_cons, List.not_mem_nil, or_false, false_or, ne_eq]
    exact r_copy (by decide) (fun x h1 a1 f1 => ⟨⟨x, rfl⟩, a1, f1⟩)
  rintro e4 h4 ⟨⟨x, rfl⟩, a4, f4⟩
  refine ⟨fun e5 h5 => (∃ x, e5 = [1000, x]) ∧ (∀ k, 0 ≤ k → k < 8 → h5 1031 (8 + k) = h4 1031 k) ∧ (∀ i k, ¬ (i = 1031 ∧ 8 ≤ k ∧ k < 8 + 8) → h5 i k = h4 i k), ?_, ?_⟩
  · simp -implicitDefEqProofs only [↓dn_den, ↓dn_loc, ↓dn_k, ↓dn_add, ↓dn_sub, ↓dn_mul, ↓dn_div, ↓dn_rem, ↓dn_bop, ↓dn_ladd, ↓dn_lsub, ↓dn_lmul, ↓dn_ldiv, ↓dn_lrem, ↓dn_land, ↓dn_l2i, ↓dn_neg, ↓dn_get, ↓dn_fix, ↓dn_ald, ↓dn_gld, ↓dn_yld, ↓dn_len, ↓dn_gln, ↓dn_cc, ↓dn_cb, ↓dn_and, ↓dn_or, ↓dn_not, ↓dn_cite, ↓dn_ec, ↓dn_ei, ↓dn_skip, ↓dn_seq, ↓dn_set, ↓dn_inc, ↓dn_putf, ↓dn_putz, ↓dn_ast, ↓dn_exp, ↓dn_if, ↓dn_ret, ↓dn_retz, ↓dn_retv, ↓dn_brk, ↓dn_cont, ↓dn_cs, ↓dn_sw, ↓dn_pop32, ↓dn_pop64, ↓dn_aop, ↓dn_call, ↓dn_max, ↓dn_min, ↓dn_acp, ↓dn_i2l, ↓dn_args0, ↓dn_args1, og_pad, og_ent, og_rlt, og_rle, og_rgt, og_rge, og_req, og_rne, og_padd, og_psub, og_pmul, List.getD_cons_zero, List.getD_cons_succ, List.set_cons_zero, List.set_cons_succ, List.length_cons, List.length_nil, List.cons_append, List.nil_append, List.replicate, List.append_nil, Nat.reduceAdd, Nat.reduceSub, Nat.reduceEqDiff, if_true, if_false, reduceIte, Int.reduceAdd, Int.reduceSub, Int.reduceMul, Int.reduceNeg, Int.reduceLT, Int.reduceLE, Int.cast_ofNat_Int, true_or, or_true, true_and, and_true, false_and, List.mem_cons, List.not_mem_nil, or_false, false_or, ne_eq]
    exact r_copy (by decide) (fun x h1 a1 f1 => ⟨⟨x, rfl⟩, a1, f1⟩)
  rintro e5 h5 ⟨⟨x, rfl⟩, a5, f5⟩
  have F5 : ∀ i k, ¬ ((i = 1028 ∧ 2 ≤ k) ∨ ((i = 1034 ∨ i = 1035) ∧ 5 ≤ k) ∨ (i = 1029 ∧ 16 ≤ k) ∨ (i = 1030 ∧ 6 ≤ k) ∨ (i = 1031 ∧ 8 ≤ k)) → h5 i k = h i k := fun i k hp => by rw [f5 i k (by omega), f4 i k (by omega), f3 i k (by omega), f2 i k (by omega), f1 i k (by omega)]
  have c46 : h5 1000 46 = h 1000 46 := F5 _ _ (by omega)
  refine ⟨fun e6 h6 => (∃ x, e6 = [1000, x]) ∧ (∀ k, 0 ≤ k → k < h 1000 46 → h6 1036 (1600 + k) = h5 1036 k) ∧ (∀ i k, ¬ (i = 1036 ∧ 1600 ≤ k) → h6 i k = h5 i k), ?_, ?_⟩
  · simp -implicitDefEqProofs only [↓dn_den, ↓dn_loc, ↓dn_k, ↓dn_add, ↓dn_sub, ↓dn_mul, ↓dn_div, ↓dn_rem, ↓dn_bop, ↓dn_ladd, ↓dn_lsub, ↓dn_lmul, ↓dn_ldiv, ↓dn_lrem, ↓dn_land, ↓dn_l2i, ↓dn_neg, ↓dn_get, ↓dn_fix, ↓dn_ald, ↓dn_gld, ↓dn_yld, ↓dn_len, ↓dn_gln, ↓dn_cc, ↓dn_cb, ↓dn_and, ↓dn_or, ↓dn_not, ↓dn_cite, ↓dn_ec, ↓dn_ei, ↓dn_skip, ↓dn_seq, ↓dn_set, ↓dn_inc, ↓dn_putf, ↓dn_putz, ↓dn_ast, ↓dn_exp, ↓dn_if, ↓dn_ret, ↓dn_retz, ↓dn_retv, ↓dn_brk, ↓dn_cont, ↓dn_cs, ↓dn_sw, ↓dn_pop32, ↓dn_pop64, ↓dn_aop, ↓dn_call, ↓dn_max, ↓dn_min, ↓dn_acp, ↓dn_i2l, ↓dn_args0, ↓dn_args1, og_pad, og_ent, og_rlt, og_rle, og_rgt, og_rge, og_req, og_rne, og_padd, og_psub, og_pmul, List.getD_cons_zero, List.getD_cons_succ, List.set_cons_zero, List.set_cons_succ, List.length_cons, List.length_nil, List.cons_append, List.nil_append, List.replicate, List.append_nil, Nat.reduceAdd, Nat.reduceSub, Nat.reduceEqDiff, if_true, if_false, reduceIte, Int.reduceAdd, Int.reduceSub, Int.reduceMul, Int.reduceNeg, Int.reduceLT, Int.reduceLE, Int.cast_ofNat_Int, true_or, or_true, true_and, and_true, false_and, List.mem_cons, List.not_mem_nil, or_false, false_or, ne_eq]
    refine og_loop (h 1000 46).toNat (fun i e2 h2 => e2 = [1000, (i : Int)] ∧ (∀ k, 0 ≤ k → k < (i : Int) → h2 1036 (1600 + k) = h5 1036 k) ∧ (∀ j k, ¬ (j = 1036 ∧ 1600 ≤ k) → h2 j k = h5 j k)) ⟨rfl, fun k a b => by omega, fun _ _ _ => rfl⟩ ?_
    rintro i e2 h2 hi ⟨rfl, j1, j2⟩
    simp -implicitDefEqProofs only [↓dn_den, ↓dn_loc, ↓dn_k, ↓dn_add, ↓dn_sub, ↓dn_mul, ↓dn_div, ↓dn_rem, ↓dn_bop, ↓dn_ladd, ↓dn_lsub, ↓dn_lmul, ↓dn_ldiv, ↓dn_lrem, ↓dn_land, ↓dn_l2i, ↓dn_neg, ↓dn_get, ↓dn_fix, ↓dn_ald, ↓dn_gld, ↓dn_yld, ↓dn_len, ↓dn_gln, ↓dn_cc, ↓dn_cb, ↓dn_and, ↓dn_or, ↓dn_not, ↓dn_cite, ↓dn_ec, ↓dn_ei, ↓dn_skip, ↓dn_seq, ↓dn_set, ↓dn_inc, ↓dn_putf, ↓dn_putz, ↓dn_ast, ↓dn_exp, ↓dn_if, ↓dn_ret, ↓dn_retz, ↓dn_retv, ↓dn_brk, ↓dn_cont, ↓dn_cs, ↓dn_sw, ↓dn_pop32, ↓dn_pop64, ↓dn_aop, ↓dn_call, ↓dn_max, ↓dn_min, ↓dn_acp, ↓dn_i2l, ↓dn_args0, ↓dn_args1, og_pad, og_ent, og_rlt, og_rle, og_rgt, og_rge, og_req, og_rne, og_padd, og_psub, og_pmul, List.getD_cons_zero, List.getD_cons_succ, List.set_cons_zero, List.set_cons_succ, List.length_cons, List.length_nil, List.cons_append, List.nil_append, List.replicate, List.append_nil, Nat.reduceAdd, Nat.reduceSub, Nat.reduceEqDiff, if_true, if_false, reduceIte, Int.reduceAdd, Int.reduceSub, Int.reduceMul, Int.reduceNeg, Int.reduceLT, Int.reduceLE, Int.cast_ofNat_Int, true_or, or_true, true_and, and_true, false_and, List.mem_cons, List.not_mem_nil, or_false, false_or, ne_eq, og_i32]
    rw [j2 1000 46 (by omega), c46]
    refine ⟨fun hlt => ?_, fun hge => ⟨⟨_, rfl⟩, fun k k0 k1 => j1 k k0 (by omega), j2⟩⟩
    rw [j2 1036 _ (by omega)]
    refine ⟨by omega, by omega, by omega, by omega, by omega, by omega, og_nx_mk (by omega) ⟨by simp, fun k k0 k1 => ?_, fun j k hp => ?_⟩⟩
    · by_cases e : k = i
      · subst e
        exact og_up_eq
      · rw [og_up_k (by omega)]
        exact j1 k k0 (by omega)
    · have : og_up h2 1036 (1600 + (i : Int)) (h5 1036 (i : Int)) j k = h2 j k := by
        unfold og_up
        exact if_neg (by omega)
      rw [this]; exact j2 j k hp
  rintro e6 h6 ⟨⟨x, rfl⟩, a6, f6⟩
  refine ⟨fun e7 h7 => (∃ x, e7 = [1000, x]) ∧ (∀ k, 0 ≤ k → k < 204 → h7 1037 k = 0) ∧ (∀ i k, ¬ i = 1037 → h7 i k = h6 i k), ?_, ?_⟩
  · simp -implicitDefEqProofs only [↓dn_den, ↓dn_loc, ↓dn_k, ↓dn_add, ↓dn_sub, ↓dn_mul, ↓dn_div, ↓dn_rem, ↓dn_bop, ↓dn_ladd, ↓dn_lsub, ↓dn_lmul, ↓dn_ldiv, ↓dn_lrem, ↓dn_land, ↓dn_l2i, ↓dn_neg, ↓dn_get, ↓dn_fix, ↓dn_ald, ↓dn_gld, ↓dn_yld, ↓dn_len, ↓dn_gln, ↓dn_cc, ↓dn_cb, ↓dn_and, ↓dn_or, ↓dn_not, ↓dn_cite, ↓dn_ec, ↓dn_ei, ↓dn_skip, ↓dn_seq, ↓dn_set, ↓dn_inc, ↓dn_putf, ↓dn_putz, ↓dn_ast, ↓dn_exp, ↓dn_if, ↓dn_ret, ↓dn_retz, ↓dn_retv, ↓dn_brk, ↓dn_cont, ↓dn_cs, ↓dn_sw, ↓dn_pop32, ↓dn_pop64, ↓dn_aop, ↓dn_call, ↓dn_max, ↓dn_min, ↓dn_acp, ↓dn_i2l, ↓dn_args0, ↓dn_args1, og_pad, og_ent, og_rlt, og_rle, og_rgt, og_rge, og_req, og_rne, og_padd, og_psub, og_pmul, List.getD_cons_zero, List.getD_cons_succ, List.set_cons_zero, List.set_cons_succ, List.length_cons, List.length_nil, List.cons_append, List.nil_append, List.replicate, List.append_nil, Nat.reduceAdd, Nat.reduceSub, Nat.reduceEqDiff, if_true, if_false, reduceIte, Int.reduceAdd, Int.reduceSub, Int.reduceMul, Int.reduceNeg, Int.reduceLT, Int.reduceLE, Int.cast_ofNat_Int, true_or, or_true, true_and, and_true, false_and, List.mem_cons, List.not_mem_nil, or_false, false_or, ne_eq]
    refine og_loop 204 (fun i e2 h2 => e2 = [1000, (i : Int)] ∧ (∀ k, 0 ≤ k → k < (i : Int) → h2 1037 k = 0) ∧ (∀ j k, ¬ j = 1037 → h2 j k = h6 j k)) ⟨rfl, fun k a b => by omega, fun _ _ _ => rfl⟩ ?_
    rintro i e2 h2 hi ⟨rfl, j1, j2⟩
    simp -implicitDefEqProofs only [↓dn_den, ↓dn_loc, ↓dn_k, ↓dn_add, ↓dn_sub, ↓dn_mul, ↓dn_div, ↓dn_rem, ↓dn_bop, ↓dn_ladd, ↓dn_lsub, ↓dn_lmul, ↓dn_ldiv, ↓dn_lrem, ↓dn_land, ↓dn_l2i, ↓dn_neg, ↓dn_get, ↓dn_fix, ↓dn_ald, ↓dn_gld, ↓dn_yld, ↓dn_len, ↓dn_gln, ↓dn_cc, ↓dn_cb, ↓dn_and, ↓dn_or, ↓dn_not, ↓dn_cite, ↓dn_ec, ↓dn_ei, ↓dn_skip, ↓dn_seq, ↓dn_set, ↓dn_inc, ↓dn_putf, ↓dn_putz, ↓dn_ast, ↓dn_exp, ↓dn_if, ↓dn_ret, ↓dn_retz, ↓dn_retv, ↓dn_brk, ↓dn_cont, ↓dn_cs, ↓dn_sw, ↓dn_pop32, ↓dn_pop64, ↓dn_aop, ↓dn_call, ↓dn_max, ↓dn_min, ↓dn_acp, ↓dn_i2l, ↓dn_args0, ↓dn_args1, og_pad, og_ent, og_rlt, og_rle, og_rgt, og_rge, og_req, og_rne, og_padd, og_psub, og_pmul, List.getD_cons_zero, List.getD_cons_succ, List.set_cons_zero, List.set_cons_succ, List.length_cons, List.length_nil, List.cons_append, List.nil_append, List.replicate, List.append_nil, Nat.reduceAdd, Nat.reduceSub, Nat.reduceEqDiff, if_true, if_false, reduceIte, Int.reduceAdd, Int.reduceSub, Int.reduceMul, Int.reduceNeg, Int.reduceLT, Int.reduceLE, Int.cast_ofNat_Int, true_or, or_true, true_and, and_true, false_and, List.mem_cons, List.not_mem_nil, or_false, false_or, ne_eq, og_i32]
    refine ⟨fun hlt => ?_, fun hge => ⟨⟨_, rfl⟩, fun k k0 k1 => j1 k k0 (by omega), j2⟩⟩
    refine ⟨by omega, by omega, by omega, og_nx_mk (by omega) ⟨by simp, fun k k0 k1 => ?_, fun j k hp => ?_⟩⟩
    · by_cases e : k = i
      · subst e
        exact og_up_eq
      · rw [og_up_k (by omega)]
        exact j1 k k0 (by omega)
    · rw [og_up_i hp]; exact j2 j k hp
  rintro e7 h7 ⟨⟨x, rfl⟩, a7, f7⟩
  refine ⟨fun e8 h8 => (∃ x, e8 = [1000, x]) ∧ (∀ k, 0 ≤ k → k < 6 → h8 1037 (3 + 3 * k) = -1) ∧ (h8 1037 0 = 0 ∧ h8 1037 43 = 0) ∧ (∀ i k, ¬ i = 1037 → h8 i k = h6 i k), ?_, ?_⟩
  · simp -implicitDefEqProofs only [↓dn_den, ↓dn_loc, ↓dn_k, ↓dn_add, ↓dn_sub, ↓dn_mul, ↓dn_div, ↓dn_rem, ↓dn_bop, ↓dn_ladd, ↓dn_lsub, ↓dn_lmul, ↓dn_ldiv, ↓dn_lrem, ↓dn_land, ↓dn_l2i, ↓dn_neg, ↓dn_get, ↓dn_fix, ↓dn_ald, ↓dn_gld, ↓dn_yld, ↓dn_len, ↓dn_gln, ↓dn_cc, ↓dn_cb, ↓dn_and, ↓dn_or, ↓dn_not, ↓dn_cite, ↓dn_ec, ↓dn_ei, ↓dn_skip, ↓dn_seq, ↓dn_set, ↓dn_inc, ↓dn_putf, ↓dn_putz, ↓dn_ast, ↓dn_exp, ↓dn_if, ↓dn_ret, ↓dn_retz, ↓dn_retv, ↓dn_brk, ↓dn_cont, ↓dn_cs, ↓dn_sw, ↓dn_pop32, ↓dn_pop64, ↓dn_aop, ↓dn_call, ↓dn_max, ↓dn_min, ↓dn_acp, ↓dn_i2l, ↓dn_args0, ↓dn_args1, og_pad, og_ent, og_rlt, og_rle, og_rgt, og_rge, og_req, og_rne, og_padd, og_psub, og_pmul, List.getD_cons_zero, List.getD_cons_succ, List.set_cons_zero, List.set_cons_succ, List.length_cons, List.length_nil, List.cons_append, List.nil_append, List.replicate, List.append_nil, Nat.reduceAdd, Nat.reduceSub, Nat.reduceEqDiff, if_true, if_false, reduceIte, Int.reduceAdd, Int.reduceSub, Int.reduceMul, Int.reduceNeg, Int.reduceLT, Int.reduceLE, Int.cast_ofNat_Int, true_or, or_true, true_and, and_true, false_and, List.mem_cons, List.not_mem_nil, or_false, false_or, ne_eq]
    refine og_loop 6 (fun i e2 h2 => e2 = [1000, (i : Int)] ∧ (∀ k, 0 ≤ k → k < (i : Int) → h2 1037 (3 + 3 * k) = -1) ∧ (h2 1037 0 = 0 ∧ h2 1037 43 = 0) ∧ (∀ j k, ¬ j = 1037 → h2 j k = h6 j k)) ⟨rfl, fun k a b => by omega, ⟨a7 _ (by decide) (by decide), a7 _ (by decide) (by decide)⟩, f7⟩ ?_
    rintro i e2 h2 hi ⟨rfl, j1, j3, j2⟩
    simp -implicitDefEqProofs only [↓dn_den, ↓dn_loc, ↓dn_k, ↓dn_add, ↓dn_sub, ↓dn_mul, ↓dn_div, ↓dn_rem, ↓dn_bop, ↓dn_ladd, ↓dn_lsub, ↓dn_lmul, ↓dn_ldiv, ↓dn_lrem, ↓dn_land, ↓dn_l2i, ↓dn_neg, ↓dn_get, ↓dn_fix, ↓dn_ald, ↓dn_gld, ↓dn_yld, ↓dn_len, ↓dn_gln, ↓dn_cc, ↓dn_cb, ↓dn_and, ↓dn_or, ↓dn_not, ↓dn_cite, ↓dn_ec, ↓dn_ei, ↓dn_skip, ↓dn_seq, ↓dn_set, ↓dn_inc, ↓dn_putf, ↓dn_putz, ↓dn_ast, ↓dn_exp, ↓dn_if, ↓dn_ret, ↓dn_retz, ↓dn_retv, ↓dn_brk, ↓dn_cont, ↓dn_cs, ↓dn_sw, ↓dn_pop32, ↓dn_pop64, ↓dn_aop, ↓dn_call, ↓dn_max, ↓dn_min, ↓dn_acp, ↓dn_i2l, ↓dn_args0, ↓dn_args1, og_pad, og_ent, og_rlt, og_rle, og_rgt, og_rge, og_req, og_rne, og_padd, og_psub, og_pmul, List.getD_cons_zero, List.getD_cons_succ, List.set_cons_zero, List.set_cons_succ, List.length_cons, List.length_nil, List.cons_append, List.nil_append, List.replicate, List.append_nil, Nat.reduceAdd, Nat.reduceSub, Nat.reduceEqDiff, if_true, if_false, reduceIte, Int.reduceAdd, Int.reduceSub, Int.reduceMul, Int.reduceNeg, Int.reduceLT, Int.reduceLE, Int.cast_ofNat_Int, true_or, or_true, true_and, and_true, false_and, List.mem_cons, List.not_mem_nil, or_false, false_or, ne_eq, og_i32]
    refine ⟨fun hlt => ?_, fun hge => ⟨⟨_, rfl⟩, fun k k0 k1 => j1 k k0 (by omega), j3, j2⟩⟩
    refine ⟨by omega, by omega, by omega, by omega, by omega, og_nx_mk (by omega) ⟨by simp, fun k k0 k1 => ?_, ?_, fun j k hp => ?_⟩⟩
    · by_cases e : k = i
      · subst e
        exact og_up_eq
      · rw [og_up_k (by omega)]
        exact j1 k k0 (by omega)
    · rw [og_up_k (by omega), og_up_k (by omega)]; exact j3
    · rw [og_up_i hp]; exact j2 j k hp
  rintro e8 h8 ⟨⟨x, rfl⟩, a8, b8, f8⟩
  have F8 : ∀ i k, ¬ i = 1037 → ¬ (i = 1036 ∧ 1600 ≤ k) → h8 i k = h5 i k := fun i k p1 p2 => by rw [f8 i k p1, f6 i k p2]
  have m0 : h8 1028 0 = h 1028 0 := by rw [F8 _ _ (by omega) (by omega), F5 _ _ (by omega)]
  have m1 : h8 1028 1 = h 1028 1 := by rw [F8 _ _ (by omega) (by omega), F5 _ _ (by omega)]
  have r2 : ∀ k, h8 1032 k = h 1032 k := fun k => by rw [F8 _ _ (by omega) (by omega), F5 _ _ (by omega)]
  have r3 : ∀ k, h8 1033 k = h 1033 k := fun k => by rw [F8 _ _ (by omega) (by omega), F5 _ _ (by omega)]
  refine ⟨fun e9 h9 => (∃ x, e9 = [1000, x]) ∧ (∀ g, 0 ≤ g → g < h 1028 0 → h9 1037 (1 + 3 * g) = h 1032 (2 * g) ∧ h9 1037 (2 + 3 * g) = h 1032 (2 * g + 1) ∧ h9 1037 (3 + 3 * g) = -1) ∧ (h9 1037 0 = 0 ∧ h9 1037 43 = 0) ∧ (∀ i k, ¬ i = 1037 → h9 i k = h8 i k), ?_, ?_⟩
  · simp -implicitDefEqProofs only [↓dn_den, ↓dn_loc, ↓dn_k, ↓dn_add, ↓dn_sub, ↓dn_mul, ↓dn_div, ↓dn_rem, ↓dn_bop, ↓dn_ladd, ↓dn_lsub, ↓dn_lmul, ↓dn_ldiv, ↓dn_lrem, ↓dn_land, ↓dn_l2i, ↓dn_neg, ↓dn_get, ↓dn_fix, ↓dn_ald, ↓dn_gld, ↓dn_yld, ↓dn_len, ↓dn_gln, ↓dn_cc, ↓dn_cb, ↓dn_and, ↓dn_or, ↓dn_not, ↓dn_cite, ↓dn_ec, ↓dn_ei, ↓dn_skip, ↓dn_seq, ↓dn_set, ↓dn_inc, ↓dn_putf, ↓dn_putz, ↓dn_ast, ↓dn_exp, ↓dn_if, ↓dn_ret, ↓dn_retz, ↓dn_retv, ↓dn_brk, ↓dn_cont, ↓dn_cs, ↓dn_sw, ↓dn_pop32, ↓dn_pop64, ↓dn_aop, ↓dn_call, ↓dn_max, ↓dn_min, ↓dn_acp, ↓dn_i2l, ↓dn_args0, ↓dn_args1, og_pad, og_ent, og_rlt, og_rle, og_rgt, og_rge, og_req, og_rne, og_padd, og_psub, og_pmul, List.getD_cons_zero, List.getD_cons_succ, List.set_cons_zero, List.set_cons_succ, List.length_cons, List.length_nil, List.cons_append, List.nil_append, List.replicate, List.append_nil, Nat.reduceAdd, Nat.reduceSub, Nat.reduceEqDiff, if_true, if_false, reduceIte, Int.reduceAdd, Int.reduceSub, Int.reduceMul, Int.reduceNeg, Int.reduceLT, Int.reduceLE, Int.cast_ofNat_Int, true_or, or_true, true_and, and_true, false_and, List.mem_cons, List.not_mem_nil, or_false, false_or, ne_eq]
    refine og_loop (h 1028 0).toNat (fun i e2 h2 => e2 = [1000, (i : Int)] ∧ (∀ g, 0 ≤ g → g < (i : Int) → h2 1037 (1 + 3 * g) = h 1032 (2 * g) ∧ h2 1037 (2 + 3 * g) = h 1032 (2 * g + 1)) ∧ (∀ g, 0 ≤ g → g < 6 → h2 1037 (3 + 3 * g) = -1) ∧ (h2 1037 0 = 0 ∧ h2 1037 43 = 0) ∧ (∀ j k, ¬ j = 1037 → h2 j k = h8 j k)) ⟨rfl, fun k a b => by omega, a8, b8, fun _ _ _ => rfl⟩ ?_
    rintro i e2 h2 hi ⟨rfl, j1, j4, j3, j2⟩
    simp -implicitDefEqProofs only [↓dn_den, ↓dn_loc, ↓dn_k, ↓dn_add, ↓dn_sub, ↓dn_mul, ↓dn_div, ↓dn_rem, ↓dn_bop, ↓dn_ladd, ↓dn_lsub, ↓dn_lmul, ↓dn_ldiv, ↓dn_lrem, ↓dn_land, ↓dn_l2i, ↓dn_neg, ↓dn_get, ↓dn_fix, ↓dn_ald, ↓dn_gld, ↓dn_yld, ↓dn_len, ↓dn_gln, ↓dn_cc, ↓dn_cb, ↓dn_and, ↓dn_or, ↓dn_not, ↓dn_cite, ↓dn_ec, ↓dn_ei, ↓dn_skip, ↓dn_seq, ↓dn_set, ↓dn_inc, ↓dn_putf, ↓dn_putz, ↓dn_ast, ↓dn_exp, ↓dn_if, ↓dn_ret, ↓dn_retz, ↓dn_retv, ↓dn_brk, ↓dn_cont, ↓dn_cs, ↓dn_sw, ↓dn_pop32, ↓dn_pop64, ↓dn_aop, ↓dn_call, ↓dn_max, ↓dn_min, ↓dn_acp, ↓dn_i2l, ↓dn_args0, ↓dn_args1, og_pad, og_ent, og_rlt, og_rle, og_rgt, og_rge, og_req, og_rne, og_padd, og_psub, og_pmul, List.getD_cons_zero, List.getD_cons_succ, List.set_cons_zero, List.set_cons_succ, List.length_cons, List.length_nil, List.cons_append, List.nil_append, List.replicate, List.append_nil, Nat.reduceAdd, Nat.reduceSub, Nat.reduceEqDiff, if_true, if_false, reduceIte, Int.reduceAdd, Int.reduceSub, Int.reduceMul, Int.reduceNeg, Int.reduceLT, Int.reduceLE, Int.cast_ofNat_Int, true_or, or_true, true_and, and_true, false_and, List.mem_cons, List.not_mem_nil, or_false, false_or, ne_eq, og_i32]
    rw [j2 1028 0 (by decide), m0, og_up_i (by decide), j2 1032 _ (by decide), j2 1032 _ (by decide), r2, r2]
    refine ⟨fun hlt => ?_, fun hge => ⟨⟨_, rfl⟩, fun k k0 k1 => ⟨(j1 k k0 (by omega)).1, (j1 k k0 (by omega)).2, j4 k k0 (by omega)⟩, j3, j2⟩⟩
    repeat (refine And.intro (by omega) ?_)
    refine og_nx_mk (by omega) ⟨by simp, fun k k0 k1 => ?_, fun g g0 g1 => ?_, ?_, fun j k hp => ?_⟩
    · by_cases e : k = i
      · subst e
        exact ⟨by rw [og_up_k (by omega), og_up_eq], og_up_eq⟩
      · rw [og_up_k (by omega), og_up_k (by omega), og_up_k (by omega), og_up_k (by omega)]
        exact j1 k k0 (by omega)
    · rw [og_up_k (by omega), og_up_k (by omega)]; exact j4 g g0 g1
    · rw [og_up_k (by omega), og_up_k (by omega), og_up_k (by omega), og_up_k (by omega)]; exact j3
    · rw [og_up_i hp, og_up_i hp]; exact j2 j k hp
  rintro e9 h9 ⟨⟨x, rfl⟩, a9, b9, f9⟩
  refine ⟨fun e10 h10 => (∃ x, e10 = [1000, x]) ∧ (∀ p, 0 ≤ p → p < h 1028 1 → h10 1037 (19 + 3 * p) = 1 ∧ h10 1037 (20 + 3 * p) = h 1033 (2 * p) ∧ h10 1037 (21 + 3 * p) = h 1033 (2 * p + 1)) ∧ (∀ k, (k ≤ 18 ∨ k = 43) → h10 1037 k = h9 1037 k) ∧ (∀ i k, ¬ i = 1037 → h10 i k = h8 i k), ?_, ?_⟩
  · simp -implicitDefEqProofs only [↓dn_den, ↓dn_loc, ↓dn_k, ↓dn_add, ↓dn_sub, ↓dn_mul, ↓dn_div, ↓dn_rem, ↓dn_bop, ↓dn_ladd, ↓dn_lsub, ↓dn_lmul, ↓dn_ldiv, ↓dn_lrem, ↓dn_land, ↓dn_l2i, ↓dn_neg, ↓dn_get, ↓dn_fix, ↓dn_ald, ↓dn_gld, ↓dn_yld, ↓dn_len, ↓dn_gln, ↓dn_cc, ↓dn_cb, ↓dn_and, ↓dn_or, ↓dn_not, ↓dn_cite, ↓dn_ec, ↓dn_ei, ↓dn_skip, ↓dn_seq, ↓dn_set, ↓dn_inc, ↓dn_putf, ↓dn_putz, ↓dn_ast, ↓dn_exp, ↓dn_if, ↓dn_ret, ↓dn_retz, ↓dn_retv, ↓dn_brk, ↓dn_cont, ↓dn_cs, ↓dn_sw, ↓dn_pop32, ↓dn_pop64, ↓dn_aop, ↓dn_call, ↓dn_max, ↓dn_min, ↓dn_acp, ↓dn_i2l, ↓dn_args0, ↓dn_args1, og_pad, og_ent, og_rlt, og_rle, og_rgt, og_rge, og_req, og_rne, og_padd, og_psub, og_pmul, List.getD_cons_zero, List.getD_cons_succ, List.set_cons_zero, List.set_cons_succ, List.length_cons, List.length_nil, List.cons_append, List.nil_append, List.replicate, List.append_nil, Nat.reduceAdd, Nat.reduceSub, Nat.reduceEqDiff, if_true, if_false, reduceIte, Int.reduceAdd, Int.reduceSub, Int.reduceMul, Int.reduceNeg, Int.reduceLT, Int.reduceLE, Int.cast_ofNat_Int, true_or, or_true, true_and, and_true, false_and, List.mem_cons, List.not_mem_nil, or_false, false_or, ne_eq]
    refine og_loop (h 1028 1).toNat (fun i e2 h2 => e2 = [1000, (i : Int)] ∧ (∀ p, 0 ≤ p → p < (i : Int) → h2 1037 (19 + 3 * p) = 1 ∧ h2 1037 (20 + 3 * p) = h 1033 (2 * p) ∧ h2 1037 (21 + 3 * p) = h 1033 (2 * p + 1)) ∧ (∀ k, (k ≤ 18 ∨ k = 43) → h2 1037 k = h9 1037 k) ∧ (∀ j k, ¬ j = 1037 → h2 j k = h8 j k)) ⟨rfl, fun k a b => by omega, fun _ _ => rfl, f9⟩ ?_
    rintro i e2 h2 hi ⟨rfl, j1, j3, j2⟩
    simp -implicitDefEqProofs only [↓dn_den, ↓dn_loc, ↓dn_k, ↓dn_add, ↓dn_sub, ↓dn_mul, ↓dn_div, ↓dn_rem, ↓dn_bop, ↓dn_ladd, ↓dn_lsub, ↓dn_lmul, ↓dn_ldiv, ↓dn_lrem, ↓dn_land, ↓dn_l2i, ↓dn_neg, ↓dn_get, ↓dn_fix, ↓dn_ald, ↓dn_gld, ↓dn_yld, ↓dn_len, ↓dn_gln, ↓dn_cc, ↓dn_cb, ↓dn_and, ↓dn_or, ↓dn_not, ↓dn_cite, ↓dn_ec, ↓dn_ei, ↓dn_skip, ↓dn_seq, ↓dn_set, ↓dn_inc, ↓dn_putf, ↓dn_putz, ↓dn_ast, ↓dn_exp, ↓dn_if, ↓dn_ret, ↓dn_retz, ↓dn_retv, ↓dn_brk, ↓dn_cont, ↓dn_cs, ↓dn_sw, ↓dn_pop32, ↓dn_pop64, ↓dn_aop, ↓dn_call, ↓dn_max, ↓dn_min, ↓dn_acp, ↓dn_i2l, ↓dn_args0, ↓dn_args1, og_pad, og_ent, og_rlt, og_rle, og_rgt, og_rge, og_req, og_rne, og_padd, og_psub, og_pmul, List.getD_cons_zero, List.getD_cons_succ, List.set_cons_zero, List.set_cons_succ, List.length_cons, List.length_nil, List.cons_append, List.nil_append, List.replicate, List.append_nil, Nat.reduceAdd, Nat.reduceSub, Nat.reduceEqDiff, if_true, if_false, reduceIte, Int.reduceAdd, Int.reduceSub, Int.reduceMul, Int.reduceNeg, Int.reduceLT, Int.reduceLE, Int.cast_ofNat_Int, true_or, or_true, true_and, and_true, false_and, List.mem_cons, List.not_mem_nil, or_false, false_or, ne_eq, og_i32]
    rw [j2 1028 1 (by decide), m1, og_up_i (by decide), og_up_i (by decide), og_up_i (by decide), j2 1033 _ (by decide), j2 1033 _ (by decide), r3, r3]
    refine ⟨fun hlt => ?_, fun hge => ⟨⟨_, rfl⟩, fun k k0 k1 => j1 k k0 (by omega), j3, j2⟩⟩
    repeat (refine And.intro (by omega) ?_)
    refine og_nx_mk (by omega) ⟨by simp, fun k k0 k1 => ?_, fun k hk => ?_, fun j k hp => ?_⟩
    · by_cases e : k = i
      · subst e
        exact ⟨by rw [og_up_k (by omega), og_up_k (by omega), og_up_eq], by rw [og_up_k (by omega), og_up_eq], og_up_eq⟩
      · rw [og_up_k (by omega), og_up_k (by omega), og_up_k (by omega), og_up_k (by omega), og_up_k (by omega), og_up_k (by omega), og_up_k (by omega), og_up_k (by omega), og_up_k (by omega)]
        exact j1 k k0 (by omega)
    · rw [og_up_k (by omega), og_up_k (by omega), og_up_k (by omega)]; exact j3 k hk
    · rw [og_up_i hp, og_up_i hp, og_up_i hp]; exact j2 j k hp
  rintro e10 h10 ⟨⟨x, rfl⟩, a10, b10, f10⟩
  simp -implicitDefEqProofs only [↓dn_den, ↓dn_loc, ↓dn_k, ↓dn_add, ↓dn_sub, ↓dn_mul, ↓dn_div, ↓dn_rem, ↓dn_bop, ↓dn_ladd, ↓dn_lsub, ↓dn_lmul, ↓dn_ldiv, ↓dn_lrem, ↓dn_land, ↓dn_l2i, ↓dn_neg, ↓dn_get, ↓dn_fix, ↓dn_ald, ↓dn_gld, ↓dn_yld, ↓dn_len, ↓dn_gln, ↓dn_cc, ↓dn_cb, ↓dn_and, ↓dn_or, ↓dn_not, ↓dn_cite, ↓dn_ec, ↓dn_ei, ↓dn_skip, ↓dn_seq, ↓dn_set, ↓dn_inc, ↓dn_putf, ↓dn_putz, ↓dn_ast, ↓dn_exp, ↓dn_if, ↓dn_ret, ↓dn_retz, ↓dn_retv, ↓dn_brk, ↓dn_cont, ↓dn_cs, ↓dn_sw, ↓dn_pop32, ↓dn_pop64, ↓dn_aop, ↓dn_call, ↓dn_max, ↓dn_min, ↓dn_acp, ↓dn_i2l, ↓dn_args0, ↓dn_args1, og_pad, og_ent, og_rlt, og_rle, og_rgt, og_rge, og_req, og_rne, og_padd, og_psub, og_pmul, List.getD_cons_zero, List.getD_cons_succ, List.set_cons_zero, List.set_cons_succ, List.length_cons, List.length_nil, List.cons_append, List.nil_append, List.replicate, List.append_nil, Nat.reduceAdd, Nat.reduceSub, Nat.reduceEqDiff, if_true, if_false, reduceIte, Int.reduceAdd, Int.reduceSub, Int.reduceMul, Int.reduceNeg, Int.reduceLT, Int.reduceLE, Int.cast_ofNat_Int, true_or, or_true, true_and, and_true, false_and, List.mem_cons, List.not_mem_nil, or_false, false_or, ne_eq]
  have U : ∀ i k, ¬ (i = 1000 ∧ (k = 65 ∨ k = 61)) → og_up (og_up h10 1000 65 0) 1000 61 0 i k = h10 i k := fun i k hp => by
    unfold og_up
    rw [if_neg (by omega), if_neg (by omega)]
  have U5 : og_up (og_up h10 1000 65 0) 1000 61 0 1000 65 = 0 ∧ og_up (og_up h10 1000 65 0) 1000 61 0 1000 61 = 0 := ⟨by rw [og_up_k (by decide), og_up_eq], og_up_eq⟩
  generalize og_up (og_up h10 1000 65 0) 1000 61 0 = h11 at U U5
  have F : ∀ i k, ¬ (i = 1000 ∧ (k = 65 ∨ k = 61)) → ¬ i = 1037 → ¬ (i = 1036 ∧ 1600 ≤ k) → h11 i k = h5 i k := fun i k p1 p2 p3 => by rw [U i k p1, f10 i k p2, F8 i k p2 p3]
  refine hK h11 ⟨?_, ?_⟩ (fun w w0 w1 => ?_) (fun j j0 j1 => ?_) (fun j j0 j1 => ?_) (fun j j0 j1 => ?_) (fun j j0 j1 => ?_) ⟨?_, ?_⟩ (fun g g0 g1 => ?_) (fun p p0 p1 => ?_) U5 (fun i k hp => by rw [F i k (by omega) (by omega) (by omega), F5 i k (by omega)])
  · rw [F _ _ (by omega) (by omega) (by omega), f5 _ _ (by omega), f4 _ _ (by omega), f3 _ _ (by omega), f2 _ _ (by omega)]; exact a1 0 (by decide) (by decide)
  · rw [F _ _ (by omega) (by omega) (by omega), f5 _ _ (by omega), f4 _ _ (by omega), f3 _ _ (by omega), f2 _ _ (by omega)]; exact a1 1 (by decide) (by decide)
  · have := a2 w w0 w1
    rw [f1 _ _ (by omega), f1 _ _ (by omega)] at this
    rw [F _ _ (by omega) (by omega) (by omega), F _ _ (by omega) (by omega) (by omega), f5 _ _ (by omega), f5 _ _ (by omega), f4 _ _ (by omega), f4 _ _ (by omega), f3 _ _ (by omega), f3 _ _ (by omega)]
    exact this
  · have := a3 j j0 j1
    rw [f2 _ _ (by omega), f1 _ _ (by omega)] at this
    rw [F _ _ (by omega) (by omega) (by omega), f5 _ _ (by omega), f4 _ _ (by omega)]
    exact this
  · have := a4 j j0 j1
    rw [f3 _ _ (by omega), f2 _ _ (by omega), f1 _ _ (by omega)] at this
    rw [F _ _ (by omega) (by omega) (by omega), f5 _ _ (by omega)]
    exact this
  · have := a5 j j0 j1
    rw [f4 _ _ (by omega), f3 _ _ (by omega), f2 _ _ (by omega), f1 _ _ (by omega)] at this
    rw [F _ _ (by omega) (by omega) (by omega)]
    exact this
  · have := a6 j j0 j1
    rw [F5 _ _ (by omega)] at this
    rw [U _ _ (by omega), f10 _ _ (by omega), f8 _ _ (by omega)]
    exact this
  · rw [U _ _ (by omega), b10 _ (by omega)]; exact b9.1
  · rw [U _ _ (by omega), b10 _ (by omega)]; exact b9.2
  · rw [U _ _ (by omega), U _ _ (by omega), U _ _ (by omega), b10 _ (by omega), b10 _ (by omega), b10 _ (by omega)]
    exact a9 g g0 g1
  · rw [U _ _ (by omega), U _ _ (by omega), U _ _ (by omega)]
    exact a10 p p0 p1
end
end
