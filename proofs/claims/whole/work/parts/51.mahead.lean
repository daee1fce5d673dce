-- the reference: ahead
/-- queries change these alone -/
def frQ (h h' : Hp) : Prop := ∀ i k, ¬ ((1038 ≤ i ∧ i ≤ 1044) ∨ i = 1046 ∨ (1070 ≤ i ∧ i ≤ 1072)) → (i = 1000 → k = 1 ∨ k = 7 ∨ k = 8 ∨ k = 53 ∨ k = 61 ∨ k = 65 ∨ k = 66 ∨ k = 67 ∨ k = 101) → (i = 1037 → 0 ≤ k) → h' i k = h i k
/-- how many were taken in all, as the reference counts on -/
def tmB (M : Int) (h : Hp) : Prop := 0 ≤ h 1000 54 ∧ h 1000 54 ≤ M
theorem frQ_rf {h : Hp} : frQ h h := fun _ _ _ _ _ => rfl
theorem frQ_tr {h h1 h2 : Hp} (a : frQ h h1) (b : frQ h1 h2) : frQ h h2 := fun i k p q r => (b i k p q r).trans (a i k p q r)
theorem frQ_E {h h' : Hp} (a : frE h h') : frQ h h' := fun i k p q _ => a i k (by omega) (fun z => by have := q z; omega)
/-- a time that is only thought: what was so lies aside -/
def frT (h0 h : Hp) : Prop := ∀ i k, ¬ ((1037 ≤ i ∧ i ≤ 1044) ∨ i = 1046 ∨ (1070 ≤ i ∧ i ≤ 1072)) → (i = 1000 → k = 1 ∨ k = 7 ∨ k = 8 ∨ k = 61 ∨ k = 65 ∨ k = 66 ∨ k = 67 ∨ k = 101) → h i k = h0 i k
def inTh (h0 h : Hp) : Prop := h 1000 53 = 1 ∧ (∀ k, 0 ≤ k → k < 43 → h 1038 k = h0 1037 k) ∧ (∀ k, 43 ≤ k → h 1037 k = h0 1037 k) ∧ frT h0 h
theorem frT_M {h0 h h' : Hp} (a : frT h0 h) (b : frM h h') : frT h0 h' := fun i k p q => (b.1 i k (by omega) (by omega) (fun z => by have := q z; omega)).trans (a i k p q)
theorem inTh_M {h0 h h' : Hp} (a : inTh h0 h) (b : frM h h') : inTh h0 h' :=
  ⟨(frM_53 b).trans a.1, fun k k0 k1 => (b.1 _ _ (by decide) (by decide) (fun z => absurd z (by decide))).trans (a.2.1 k k0 k1), fun k hk => (b.2 (by rw [a.1]; decide) k hk).trans (a.2.2.1 k hk), frT_M a.2.2.2 b⟩
theorem isM_fr2 {h h' : Hp} {A : Yd} (ho : okY A) (hm : isM h A) (hf : ∀ i k, (i = 1028 ∨ i = 1030 ∨ i = 1031) → h' i k = h i k) (hg : ∀ k, 0 ≤ k → k < 43 → h' 1037 k = h 1037 k) : isM h' A := by
  have h6 := ho.1
  obtain ⟨a1, a2, a3⟩ := hm
  refine ⟨⟨?_, ?_, ?_⟩, fun k k0 k1 => ⟨?_, ?_, ?_, ?_⟩, fun k k0 k1 => ⟨?_, ?_, ?_, ?_⟩⟩
  · rw [hf _ _ (by decide)]; exact a1.1
  · rw [hf _ _ (by decide)]; exact a1.2.1
  · rw [hg _ (by decide) (by decide)]; exact a1.2.2
  · rw [hf _ _ (by decide)]; exact (a2 k k0 k1).1
  · rw [hg _ (by omega) (by omega)]; exact (a2 k k0 k1).2.1
  · rw [hg _ (by omega) (by omega)]; exact (a2 k k0 k1).2.2.1
  · rw [hg _ (by omega) (by omega)]; exact (a2 k k0 k1).2.2.2
  · rw [hf _ _ (by decide)]; exact (a3 k k0 k1).1
  · rw [hg _ (by omega) (by omega)]; exact (a3 k k0 k1).2.1
  · rw [hg _ (by omega) (by omega)]; exact (a3 k k0 k1).2.2.1
  · rw [hg _ (by omega) (by omega)]; exact (a3 k k0 k1).2.2.2
theorem hasM_T {h0 h : Hp} {P : Pr} (hR : hasM h0 P) (a : inTh h0 h) : hasM h P := hasM_fr hR (fun i k hi => a.2.2.2 i k (by omega) (fun z => by omega))
section
variable {h h0 : Hp} {A : Yd} {P : Pr} {K : Int → Hp → Prop}
theorem r_isAhead {n a b : Int} (hm : isM h A) (hA : 0 ≤ A 0 2 ∧ A 0 2 ≤ 999) (ha : 0 ≤ a) (hb : b ≤ 1000) (hK : K (if (a ≤ n ∧ n ≤ b) ∧ A 0 2 + n ≤ 999 then 1 else 0) h) : m_Model_isAhead [1000, n, a, b] h K := by
  unfold m_Model_isAhead
  simp -implicitDefEqProofs only [↓dn_den, ↓dn_loc, ↓dn_k, ↓dn_add, ↓dn_sub, ↓dn_mul, ↓dn_div, ↓dn_rem, ↓dn_bop, ↓dn_ladd, ↓dn_lsub, ↓dn_lmul, ↓dn_ldiv, ↓dn_lrem, ↓dn_land, ↓dn_l2i, ↓dn_neg, ↓dn_get, ↓dn_fix, ↓dn_ald, ↓dn_gld, ↓dn_yld, ↓dn_len, ↓dn_gln, ↓dn_cc, ↓dn_cb, ↓dn_and, ↓dn_or, ↓dn_not, ↓dn_cite, ↓dn_ec, ↓dn_ei, ↓dn_skip, ↓dn_seq, ↓dn_set, ↓dn_inc, ↓dn_putf, ↓dn_putz, ↓dn_ast, ↓dn_exp, ↓dn_if, ↓dn_ret, ↓dn_retz, ↓dn_retv, ↓dn_brk, ↓dn_cont, ↓dn_cs, ↓dn_sw, ↓dn_pop32, ↓dn_pop64, ↓dn_aop, ↓dn_call, ↓dn_max, ↓dn_min, ↓dn_acp, ↓dn_i2l, ↓dn_args0, ↓dn_args1, og_pad, og_ent, og_rlt, og_rle, og_rgt, og_rge, og_req, og_rne, og_padd, og_psub, og_pmul, List.getD_cons_zero, List.getD_cons_succ, List.set_cons_zero, List.set_cons_succ, List.length_cons, List.length_nil, List.cons_append, List.nil_append, List.replicate, List.append_nil, Nat.reduceAdd, Nat.reduceSub, Nat.reduceEqDiff, if_true, if_false, reduceIte, Int.reduceAdd, Int.reduceSub, Int.reduceMul, Int.reduceNeg, Int.reduceLT, Int.reduceLE, Int.cast_ofNat_Int, true_or, or_true, true_and, and_true, false_and, List.mem_cons, List.not_mem_nil, or_false, false_or, ne_eq, og_i32]
  apply r_isIn
  rw [hm.1.2.2]
  grind
theorem r_putsAside (ho : okY A) (hn : isN h A) (hK : ∀ h', inTh h h' → isN h' A → h' 1000 54 = h 1000 54 → K 0 h') : m_Model_putsAside [1000] h K := by
  unfold m_Model_putsAside
  simp -implicitDefEqProofs only [↓dn_den, ↓dn_loc, ↓dn_k, ↓dn_add, ↓dn_sub, ↓dn_mul, ↓dn_div, ↓dn_rem, ↓dn_bop, ↓dn_ladd, ↓dn_lsub, ↓dn_lmul, ↓dn_ldiv, ↓dn_lrem, ↓dn_land, ↓dn_l2i, ↓dn_neg, ↓dn_get, ↓dn_fix, ↓dn_ald, ↓dn_gld, ↓dn_yld, ↓dn_len, ↓dn_gln, ↓dn_cc, ↓dn_cb, ↓dn_and, ↓dn_or, ↓dn_not, ↓dn_cite, ↓dn_ec, ↓dn_ei, ↓dn_skip, ↓dn_seq, ↓dn_set, ↓dn_inc, ↓dn_putf, ↓dn_putz, ↓dn_ast, ↓dn_exp, ↓dn_if, ↓dn_ret, ↓dn_retz, ↓dn_retv, ↓dn_brk, ↓dn_cont, ↓dn_cs, ↓dn_sw, ↓dn_pop32, ↓dn_pop64, ↓dn_aop, ↓dn_call, ↓dn_max, ↓dn_min, ↓dn_acp, ↓dn_i2l, ↓dn_args0, ↓dn_args1, og_pad, og_ent, og_rlt, og_rle, og_rgt, og_rge, og_req, og_rne, og_padd, og_psub, og_pmul, List.getD_cons_zero, List.getD_cons_succ, List.set_cons_zero, List.set_cons_succ, List.length_cons, List.length_nil, List.cons_append, List.nil_append, List.replicate, List.append_nil, Nat.reduceAdd, Nat.reduceSub, Nat.reduceEqDiff, if_true, if_false, reduceIte, Int.reduceAdd, Int.reduceSub, Int.reduceMul, Int.reduceNeg, Int.reduceLT, Int.reduceLE, Int.cast_ofNat_Int, true_or, or_true, true_and, and_true, false_and, List.mem_cons, List.not_mem_nil, or_false, false_or, ne_eq]
  refine og_loop 43 (fun i e1 h1 => e1 = [1000, (i : Int)] ∧ h1 1000 53 = 1 ∧ (∀ k : Int, 0 ≤ k → k < i → h1 1038 k = h 1037 k) ∧ ∀ j k, j ≠ 1038 → ¬ (j = 1000 ∧ k = 53) → h1 j k = h j k) ⟨rfl, og_up_eq, fun k a b => by omega, fun j k a b => ?_⟩ ?_
  · unfold og_up; rw [if_neg b]
  rintro i e1 h1 hi ⟨rfl, q1, q2, q3⟩
  simp -implicitDefEqProofs only [↓dn_den, ↓dn_loc, ↓dn_k, ↓dn_add, ↓dn_sub, ↓dn_mul, ↓dn_div, ↓dn_rem, ↓dn_bop, ↓dn_ladd, ↓dn_lsub, ↓dn_lmul, ↓dn_ldiv, ↓dn_lrem, ↓dn_land, ↓dn_l2i, ↓dn_neg, ↓dn_get, ↓dn_fix, ↓dn_ald, ↓dn_gld, ↓dn_yld, ↓dn_len, ↓dn_gln, ↓dn_cc, ↓dn_cb, ↓dn_and, ↓dn_or, ↓dn_not, ↓dn_cite, ↓dn_ec, ↓dn_ei, ↓dn_skip, ↓dn_seq, ↓dn_set, ↓dn_inc, ↓dn_putf, ↓dn_putz, ↓dn_ast, ↓dn_exp, ↓dn_if, ↓dn_ret, ↓dn_retz, ↓dn_retv, ↓dn_brk, ↓dn_cont, ↓dn_cs, ↓dn_sw, ↓dn_pop32, ↓dn_pop64, ↓dn_aop, ↓dn_call, ↓dn_max, ↓dn_min, ↓dn_acp, ↓dn_i2l, ↓dn_args0, ↓dn_args1, og_pad, og_ent, og_rlt, og_rle, og_rgt, og_rge, og_req, og_rne, og_padd, og_psub, og_pmul, List.getD_cons_zero, List.getD_cons_succ, List.set_cons_zero, List.set_cons_succ, List.length_cons, List.length_nil, List.cons_append, List.nil_append, List.replicate, List.append_nil, Nat.reduceAdd, Nat.reduceSub, Nat.reduceEqDiff, if_true, if_false, reduceIte, Int.reduceAdd, Int.reduceSub, Int.reduceMul, Int.reduceNeg, Int.reduceLT, Int.reduceLE, Int.cast_ofNat_Int, true_or, or_true, true_and, and_true, false_and, List.mem_cons, List.not_mem_nil, or_false, false_or, ne_eq, og_i32]
  refine ⟨fun hlt => ?_, fun hge => ?_⟩
  · rw [q3 1037 i (by decide) (by omega)]
    refine ⟨by omega, by omega, by omega, by omega, by omega, og_nx_mk (by omega) ⟨by simp, ?_, fun k k0 k1 => ?_, fun j k a b => ?_⟩⟩
    · rw [og_up_i (by decide)]; exact q1
    · by_cases e : k = i
      · subst e; rw [og_up_eq]
      · rw [og_up_k e]; exact q2 k k0 (by omega)
    · rw [og_up_i a]; exact q3 j k a b
  · have : i = 43 := by omega
    subst this
    refine hK h1 ⟨q1, q2, fun k hk => q3 _ _ (by decide) (by omega), fun j k a b => q3 j k (by omega) (fun z => by have := b z.1; omega)⟩ ⟨isM_fr2 ho hn.1 (fun j k hj => q3 j k (by omega) (by omega)) (fun k _ _ => q3 _ _ (by decide) (by omega)), fun z => ?_⟩ (q3 _ _ (by decide) (by omega))
    rw [q1] at z; cases z
theorem r_triesAnew (ho : okY A) (hT : inTh h0 h) (hn0 : isM h0 A) (hK : ∀ h', inTh h0 h' → isN h' A → h' 1000 54 = h 1000 54 → (∀ k, 0 ≤ k → k < 43 → h' 1037 k = h0 1037 k) → (∀ i k, i ≠ 1037 → h' i k = h i k) → K 0 h') : m_Model_triesAnew [1000] h K := by
  unfold m_Model_triesAnew
  simp -implicitDefEqProofs only [↓dn_den, ↓dn_loc, ↓dn_k, ↓dn_add, ↓dn_sub, ↓dn_mul, ↓dn_div, ↓dn_rem, ↓dn_bop, ↓dn_ladd, ↓dn_lsub, ↓dn_lmul, ↓dn_ldiv, ↓dn_lrem, ↓dn_land, ↓dn_l2i, ↓dn_neg, ↓dn_get, ↓dn_fix, ↓dn_ald, ↓dn_gld, ↓dn_yld, ↓dn_len, ↓dn_gln, ↓dn_cc, ↓dn_cb, ↓dn_and, ↓dn_or, ↓dn_not, ↓dn_cite, ↓dn_ec, ↓dn_ei, ↓dn_skip, ↓dn_seq, ↓dn_set, ↓dn_inc, ↓dn_putf, ↓dn_putz, ↓dn_ast, ↓dn_exp, ↓dn_if, ↓dn_ret, ↓dn_retz, ↓dn_retv, ↓dn_brk, ↓dn_cont, ↓dn_cs, ↓dn_sw, ↓dn_pop32, ↓dn_pop64, ↓dn_aop, ↓dn_call, ↓dn_max, ↓dn_min, ↓dn_acp, ↓dn_i2l, ↓dn_args0, ↓dn_args1, og_pad, og_ent, og_rlt, og_rle, og_rgt, og_rge, og_req, og_rne, og_padd, og_psub, og_pmul, List.getD_cons_zero, List.getD_cons_succ, List.set_cons_zero, List.set_cons_succ, List.length_cons, List.length_nil, List.cons_append, List.nil_append, List.replicate, List.append_nil, Nat.reduceAdd, Nat.reduceSub, Nat.reduceEqDiff, if_true, if_false, reduceIte, Int.reduceAdd, Int.reduceSub, Int.reduceMul, Int.reduceNeg, Int.reduceLT, Int.reduceLE, Int.cast_ofNat_Int, true_or, or_true, true_and, and_true, false_and, List.mem_cons, List.not_mem_nil, or_false, false_or, ne_eq]
  refine og_loop 43 (fun i e1 h1 => e1 = [1000, (i : Int)] ∧ (∀ k : Int, 0 ≤ k → k < i → h1 1037 k = h0 1037 k) ∧ (∀ k, 43 ≤ k → h1 1037 k = h 1037 k) ∧ ∀ j k, j ≠ 1037 → h1 j k = h j k) ⟨rfl, fun k a b => by omega, fun _ _ => rfl, fun _ _ _ => rfl⟩ ?_
  rintro i e1 h1 hi ⟨rfl, q2, q4, q3⟩
  simp -implicitDefEqProofs only [↓dn_den, ↓dn_loc, ↓dn_k, ↓dn_add, ↓dn_sub, ↓dn_mul, ↓dn_div, ↓dn_rem, ↓dn_bop, ↓dn_ladd, ↓dn_lsub, ↓dn_lmul, ↓dn_ldiv, ↓dn_lrem, ↓dn_land, ↓dn_l2i, ↓dn_neg, ↓dn_get, ↓dn_fix, ↓dn_ald, ↓dn_gld, ↓dn_yld, ↓dn_len, ↓dn_gln, ↓dn_cc, ↓dn_cb, ↓dn_and, ↓dn_or, ↓dn_not, ↓dn_cite, ↓dn_ec, ↓dn_ei, ↓dn_skip, ↓dn_seq, ↓dn_set, ↓dn_inc, ↓dn_putf, ↓dn_putz, ↓dn_ast, ↓dn_exp, ↓dn_if, ↓dn_ret, ↓dn_retz, ↓dn_retv, ↓dn_brk, ↓dn_cont, ↓dn_cs, ↓dn_sw, ↓dn_pop32, ↓dn_pop64, ↓dn_aop, ↓dn_call, ↓dn_max, ↓dn_min, ↓dn_acp, ↓dn_i2l, ↓dn_args0, ↓dn_args1, og_pad, og_ent, og_rlt, og_rle, og_rgt, og_rge, og_req, og_rne, og_padd, og_psub, og_pmul, List.getD_cons_zero, List.getD_cons_succ, List.set_cons_zero, List.set_cons_succ, List.length_cons, List.length_nil, List.cons_append, List.nil_append, List.replicate, List.append_nil, Nat.reduceAdd, Nat.reduceSub, Nat.reduceEqDiff, if_true, if_false, reduceIte, Int.reduceAdd, Int.reduceSub, Int.reduceMul, Int.reduceNeg, Int.reduceLT, Int.reduceLE, Int.cast_ofNat_Int, true_or, or_true, true_and, and_true, false_and, List.mem_cons, List.not_mem_nil, or_false, false_or, ne_eq, og_i32]
  refine ⟨fun hlt => ?_, fun hge => ?_⟩
  · rw [q3 1038 i (by decide), hT.2.1 i (by omega) (by omega)]
    refine ⟨by omega, by omega, by omega, by omega, by omega, og_nx_mk (by omega) ⟨by simp, fun k k0 k1 => ?_, fun k hk => ?_, fun j k a => ?_⟩⟩
    · by_cases e : k = i
      · subst e; rw [og_up_eq]
      · rw [og_up_k e]; exact q2 k k0 (by omega)
    · rw [og_up_k (by omega)]; exact q4 k hk
    · rw [og_up_i a]; exact q3 j k a
  · have : i = 43 := by omega
    subst this
    have t1 : h1 1000 53 = 1 := (q3 _ _ (by decide)).trans hT.1
    refine hK h1 ⟨t1, fun k a b => (q3 _ _ (by decide)).trans (hT.2.1 k a b), fun k hk => (q4 k hk).trans (hT.2.2.1 k hk), fun j k a b => (q3 j k (by omega)).trans (hT.2.2.2 j k a b)⟩ ⟨isM_fr2 ho hn0 (fun j k hj => (q3 j k (by omega)).trans (hT.2.2.2 j k (by omega) (fun z => by omega))) q2, fun z => ?_⟩ (q3 _ _ (by decide)) q2 q3
    rw [t1] at z; cases z
theorem r_takesBack (ho : okY A) (hT : inTh h0 h) (hn0 : isM h0 A) (h53 : h0 1000 53 = 0) (hK : ∀ h', frQ h0 h' → h' 1000 54 = h 1000 54 → (∀ i k, i ≠ 1037 → i ≠ 1000 → h' i k = h i k) → K 0 h') : m_Model_takesBack [1000] h K := by
  unfold m_Model_takesBack
  simp -implicitDefEqProofs only [↓dn_den, ↓dn_loc, ↓dn_k, ↓dn_add, ↓dn_sub, ↓dn_mul, ↓dn_div, ↓dn_rem, ↓dn_bop, ↓dn_ladd, ↓dn_lsub, ↓dn_lmul, ↓dn_ldiv, ↓dn_lrem, ↓dn_land, ↓dn_l2i, ↓dn_neg, ↓dn_get, ↓dn_fix, ↓dn_ald, ↓dn_gld, ↓dn_yld, ↓dn_len, ↓dn_gln, ↓dn_cc, ↓dn_cb, ↓dn_and, ↓dn_or, ↓dn_not, ↓dn_cite, ↓dn_ec, ↓dn_ei, ↓dn_skip, ↓dn_seq, ↓dn_set, ↓dn_inc, ↓dn_putf, ↓dn_putz, ↓dn_ast, ↓dn_exp, ↓dn_if, ↓dn_ret, ↓dn_retz, ↓dn_retv, ↓dn_brk, ↓dn_cont, ↓dn_cs, ↓dn_sw, ↓dn_pop32, ↓dn_pop64, ↓dn_aop, ↓dn_call, ↓dn_max, ↓dn_min, ↓dn_acp, ↓dn_i2l, ↓dn_args0, ↓dn_args1, og_pad, og_ent, og_rlt, og_rle, og_rgt, og_rge, og_req, og_rne, og_padd, og_psub, og_pmul, List.getD_cons_zero, List.getD_cons_succ, List.set_cons_zero, List.set_cons_succ, List.length_cons, List.length_nil, List.cons_append, List.nil_append, List.replicate, List.append_nil, Nat.reduceAdd, Nat.reduceSub, Nat.reduceEqDiff, if_true, if_false, reduceIte, Int.reduceAdd, Int.reduceSub, Int.reduceMul, Int.reduceNeg, Int.reduceLT, Int.reduceLE, Int.cast_ofNat_Int, true_or, or_true, true_and, and_true, false_and, List.mem_cons, List.not_mem_nil, or_false, false_or, ne_eq]
  refine r_triesAnew ho hT hn0 (fun h1 hT1 hN1 e54 q2 q3 => ?_)
  refine hK _ (fun i k a b c => ?_) ?_ (fun i k a b => ?_)
  · by_cases e : i = 1000
    · subst e
      by_cases e2 : k = 53
      · subst e2; rw [og_up_eq]; exact h53.symm
      · rw [og_up_k e2]; exact hT1.2.2.2 _ _ (by decide) (fun z => by have := b z; omega)
    · rw [og_up_i e]
      by_cases e2 : i = 1037
      · subst e2
        by_cases e3 : k < 43
        · exact q2 k (c rfl) e3
        · exact hT1.2.2.1 k (by omega)
      · exact hT1.2.2.2 _ _ (by omega) (fun z => absurd z e)
  · rw [og_up_k (by decide)]; exact e54
  · rw [og_up_i b]; exact q3 i k a
theorem r_monthsGo {n : Int} (hR : hasM h P) (hP : okQ P) (hn : isN h A) (ho : okY A) (hk : okK A) (hn0 : n ≤ 100) (hm : A 0 2 + n ≤ 2000)  (hm0 : A 0 2 ≤ 999)
    (hK : ∀ h', isN h' (sIt P A n.toNat) → frM h h' → h' 1000 54 = sTot P A n.toNat → K 0 h') : m_Model_monthsGo [1000, n] h K := by
  have h6 := ho.1
  unfold m_Model_monthsGo
  simp -implicitDefEqProofs only [↓dn_den, ↓dn_loc, ↓dn_k, ↓dn_add, ↓dn_sub, ↓dn_mul, ↓dn_div, ↓dn_rem, ↓dn_bop, ↓dn_ladd, ↓dn_lsub, ↓dn_lmul, ↓dn_ldiv, ↓dn_lrem, ↓dn_land, ↓dn_l2i, ↓dn_neg, ↓dn_get, ↓dn_fix, ↓dn_ald, ↓dn_gld, ↓dn_yld, ↓dn_len, ↓dn_gln, ↓dn_cc, ↓dn_cb, ↓dn_and, ↓dn_or, ↓dn_not, ↓dn_cite, ↓dn_ec, ↓dn_ei, ↓dn_skip, ↓dn_seq, ↓dn_set, ↓dn_inc, ↓dn_putf, ↓dn_putz, ↓dn_ast, ↓dn_exp, ↓dn_if, ↓dn_ret, ↓dn_retz, ↓dn_retv, ↓dn_brk, ↓dn_cont, ↓dn_cs, ↓dn_sw, ↓dn_pop32, ↓dn_pop64, ↓dn_aop, ↓dn_call, ↓dn_max, ↓dn_min, ↓dn_acp, ↓dn_i2l, ↓dn_args0, ↓dn_args1, og_pad, og_ent, og_rlt, og_rle, og_rgt, og_rge, og_req, og_rne, og_padd, og_psub, og_pmul, List.getD_cons_zero, List.getD_cons_succ, List.set_cons_zero, List.set_cons_succ, List.length_cons, List.length_nil, List.cons_append, List.nil_append, List.replicate, List.append_nil, Nat.reduceAdd, Nat.reduceSub, Nat.reduceEqDiff, if_true, if_false, reduceIte, Int.reduceAdd, Int.reduceSub, Int.reduceMul, Int.reduceNeg, Int.reduceLT, Int.reduceLE, Int.cast_ofNat_Int, true_or, or_true, true_and, and_true, false_and, List.mem_cons, List.not_mem_nil, or_false, false_or, ne_eq]
  refine og_loop n.toNat (fun i e1 h1 => e1 = [1000, n, (i : Int)] ∧ isN h1 (sIt P A i) ∧ frM h h1 ∧ h1 1000 54 = sTot P A i) ⟨rfl, isN_O hn (by decide), frM_O frM_rf (by decide), og_up_eq⟩ ?_
  rintro i e1 h1 hi ⟨rfl, hN, hF, q54⟩
  simp -implicitDefEqProofs only [↓dn_den, ↓dn_loc, ↓dn_k, ↓dn_add, ↓dn_sub, ↓dn_mul, ↓dn_div, ↓dn_rem, ↓dn_bop, ↓dn_ladd, ↓dn_lsub, ↓dn_lmul, ↓dn_ldiv, ↓dn_lrem, ↓dn_land, ↓dn_l2i, ↓dn_neg, ↓dn_get, ↓dn_fix, ↓dn_ald, ↓dn_gld, ↓dn_yld, ↓dn_len, ↓dn_gln, ↓dn_cc, ↓dn_cb, ↓dn_and, ↓dn_or, ↓dn_not, ↓dn_cite, ↓dn_ec, ↓dn_ei, ↓dn_skip, ↓dn_seq, ↓dn_set, ↓dn_inc, ↓dn_putf, ↓dn_putz, ↓dn_ast, ↓dn_exp, ↓dn_if, ↓dn_ret, ↓dn_retz, ↓dn_retv, ↓dn_brk, ↓dn_cont, ↓dn_cs, ↓dn_sw, ↓dn_pop32, ↓dn_pop64, ↓dn_aop, ↓dn_call, ↓dn_max, ↓dn_min, ↓dn_acp, ↓dn_i2l, ↓dn_args0, ↓dn_args1, og_pad, og_ent, og_rlt, og_rle, og_rgt, og_rge, og_req, og_rne, og_padd, og_psub, og_pmul, List.getD_cons_zero, List.getD_cons_succ, List.set_cons_zero, List.set_cons_succ, List.length_cons, List.length_nil, List.cons_append, List.nil_append, List.replicate, List.append_nil, Nat.reduceAdd, Nat.reduceSub, Nat.reduceEqDiff, if_true, if_false, reduceIte, Int.reduceAdd, Int.reduceSub, Int.reduceMul, Int.reduceNeg, Int.reduceLT, Int.reduceLE, Int.cast_ofNat_Int, true_or, or_true, true_and, and_true, false_and, List.mem_cons, List.not_mem_nil, or_false, false_or, ne_eq, og_i32]
  refine ⟨fun hlt => ?_, fun hge => ?_⟩
  · have s0 := sIt_0 (P := P) (A := A) i
    have tg := sTot_rg (P := P) ho i (by omega)
    refine r_monthGoes (hasM_M hR hF) hP hN (okY_it ho i (by omega)) (okK_it ho hk i (by omega)) (by rw [s0.2.2]; omega) (by rw [q54]; omega) (fun h2 hN2 hF2 e => ?_)
    refine ⟨by omega, og_nx_mk (by omega) ⟨by simp, hN2, frM_tr hF hF2, ?_⟩⟩
    rw [e, q54, sTot_s]
  · have e : i = n.toNat := by omega
    subst e
    exact hK h1 hN hF q54
def sLater (P : Pr) (A : Yd) (g n : Int) : Int := if (0 ≤ g ∧ g < A 0 0) ∧ (0 ≤ n ∧ n ≤ 60) ∧ A 0 2 + n ≤ 999 then sIt P A n.toNat 4 g else -1
def sTaken (P : Pr) (A : Yd) (n : Int) : Int := if (0 ≤ n ∧ n ≤ 60) ∧ A 0 2 + n ≤ 999 then sTot P A n.toNat else -1
def sFld (P : Pr) (A : Yd) (g : Int) : Int := if 0 ≤ g ∧ g < A 0 0 then sFilled P A g else -1
theorem r_later {g n : Int} (hR : hasM h P) (hP : okQ P) (hn : isN h A) (ho : okY A) (hk : okK A) (h53 : h 1000 53 = 0) (hm0 : A 0 2 ≤ 999) {M : Int} (hM : M ≤ 10000000) (hb : tmB M h) (hK : ∀ h', frQ h h' → tmB (M + 2000) h' → K (sLater P A g n) h') : m_Model_later [1000, g, n] h K := by
  have h6 := ho.1
  unfold m_Model_later
  simp -implicitDefEqProofs only [↓dn_den, ↓dn_loc, ↓dn_k, ↓dn_add, ↓dn_sub, ↓dn_mul, ↓dn_div, ↓dn_rem, ↓dn_bop, ↓dn_ladd, ↓dn_lsub, ↓dn_lmul, ↓dn_ldiv, ↓dn_lrem, ↓dn_land, ↓dn_l2i, ↓dn_neg, ↓dn_get, ↓dn_fix, ↓dn_ald, ↓dn_gld, ↓dn_yld, ↓dn_len, ↓dn_gln, ↓dn_cc, ↓dn_cb, ↓dn_and, ↓dn_or, ↓dn_not, ↓dn_cite, ↓dn_ec, ↓dn_ei, ↓dn_skip, ↓dn_seq, ↓dn_set, ↓dn_inc, ↓dn_putf, ↓dn_putz, ↓dn_ast, ↓dn_exp, ↓dn_if, ↓dn_ret, ↓dn_retz, ↓dn_retv, ↓dn_brk, ↓dn_cont, ↓dn_cs, ↓dn_sw, ↓dn_pop32, ↓dn_pop64, ↓dn_aop, ↓dn_call, ↓dn_max, ↓dn_min, ↓dn_acp, ↓dn_i2l, ↓dn_args0, ↓dn_args1, og_pad, og_ent, og_rlt, og_rle, og_rgt, og_rge, og_req, og_rne, og_padd, og_psub, og_pmul, List.getD_cons_zero, List.getD_cons_succ, List.set_cons_zero, List.set_cons_succ, List.length_cons, List.length_nil, List.cons_append, List.nil_append, List.replicate, List.append_nil, Nat.reduceAdd, Nat.reduceSub, Nat.reduceEqDiff, if_true, if_false, reduceIte, Int.reduceAdd, Int.reduceSub, Int.reduceMul, Int.reduceNeg, Int.reduceLT, Int.reduceLE, Int.cast_ofNat_Int, true_or, or_true, true_and, and_true, false_and, List.mem_cons, List.not_mem_nil, or_false, false_or, ne_eq]
  apply r_isGrave hn.1 ho
  unfold sLater at hK
  refine ⟨fun hx => ?_, fun hx => ?_⟩
  · have hg := iteP1 hx
    refine r_isAhead hn.1 (by omega) (by decide) (by decide) ?_
    refine ⟨fun hy => ?_, fun hy => ?_⟩
    · have hnn := iteP1 hy
      rw [if_pos ⟨hg, hnn⟩] at hK
      refine r_putsAside ho hn (fun h1 hT1 hN1 e541 => ?_)
      refine r_monthsGo (hasM_T hR hT1) hP hN1 ho hk (by omega) (by omega) hm0 (fun h2 hN2 hF2 e2 => ?_)
      have hT2 := inTh_M hT1 hF2
      have s0 := sIt_0 (P := P) (A := A) n.toNat
      refine r_inGrave hN2.1 (okY_it ho _ (by omega)) hg.1 (by rw [s0.1]; exact hg.2) ?_
      have tg := sTot_rg (P := P) ho n.toNat (by omega)
      have hb1 := hb.1
      have hb2 := hb.2
      refine r_takesBack ho hT2 hn.1 h53 (fun h3 hF3 e3 _ => hK h3 hF3 ⟨by rw [e3, e2]; omega, by rw [e3, e2]; omega⟩)
    · rw [if_neg (fun z => iteP0 hy z.2)] at hK
      exact hK h frQ_rf ⟨hb.1, by have := hb.2; omega⟩
  · rw [if_neg (fun z => iteP0 hx z.1)] at hK
    exact hK h frQ_rf ⟨hb.1, by have := hb.2; omega⟩
theorem r_taken {n : Int} (hR : hasM h P) (hP : okQ P) (hn : isN h A) (ho : okY A) (hk : okK A) (h53 : h 1000 53 = 0) (hm0 : A 0 2 ≤ 999) {M : Int} (hM : M ≤ 10000000) (hb : tmB M h) (hK : ∀ h', frQ h h' → tmB (M + 2000) h' → K (sTaken P A n) h') : m_Model_taken [1000, n] h K := by
  have h6 := ho.1
  unfold m_Model_taken
  simp -implicitDefEqProofs only [↓dn_den, ↓dn_loc, ↓dn_k, ↓dn_add, ↓dn_sub, ↓dn_mul, ↓dn_div, ↓dn_rem, ↓dn_bop, ↓dn_ladd, ↓dn_lsub, ↓dn_lmul, ↓dn_ldiv, ↓dn_lrem, ↓dn_land, ↓dn_l2i, ↓dn_neg, ↓dn_get, ↓dn_fix, ↓dn_ald, ↓dn_gld, ↓dn_yld, ↓dn_len, ↓dn_gln, ↓dn_cc, ↓dn_cb, ↓dn_and, ↓dn_or, ↓dn_not, ↓dn_cite, ↓dn_ec, ↓dn_ei, ↓dn_skip, ↓dn_seq, ↓dn_set, ↓dn_inc, ↓dn_putf, ↓dn_putz, ↓dn_ast, ↓dn_exp, ↓dn_if, ↓dn_ret, ↓dn_retz, ↓dn_retv, ↓dn_brk, ↓dn_cont, ↓dn_cs, ↓dn_sw, ↓dn_pop32, ↓dn_pop64, ↓dn_aop, ↓dn_call, ↓dn_max, ↓dn_min, ↓dn_acp, ↓dn_i2l, ↓dn_args0, ↓dn_args1, og_pad, og_ent, og_rlt, og_rle, og_rgt, og_rge, og_req, og_rne, og_padd, og_psub, og_pmul, List.getD_cons_zero, List.getD_cons_succ, List.set_cons_zero, List.set_cons_succ, List.length_cons, List.length_nil, List.cons_append, List.nil_append, List.replicate, List.append_nil, Nat.reduceAdd, Nat.reduceSub, Nat.reduceEqDiff, if_true, if_false, reduceIte, Int.reduceAdd, Int.reduceSub, Int.reduceMul, Int.reduceNeg, Int.reduceLT, Int.reduceLE, Int.cast_ofNat_Int, true_or, or_true, true_and, and_true, false_and, List.mem_cons, List.not_mem_nil, or_false, false_or, ne_eq]
  unfold sTaken at hK
  refine r_isAhead hn.1 (by omega) (by decide) (by decide) ?_
  refine ⟨fun hy => ?_, fun hy => ?_⟩
  · have hnn := iteP1 hy
    rw [if_pos hnn] at hK
    refine r_putsAside ho hn (fun h1 hT1 hN1 e541 => ?_)
    refine r_monthsGo (hasM_T hR hT1) hP hN1 ho hk (by omega) (by omega) hm0 (fun h2 hN2 hF2 e2 => ?_)
    refine r_takesBack ho (inTh_M hT1 hF2) hn.1 h53 (fun h3 hF3 e3 _ => ?_)
    have tg := sTot_rg (P := P) ho n.toNat (by omega)
    have hb1 := hb.1
    have hb2 := hb.2
    rw [e2] at e3
    rw [e3]
    exact hK h3 hF3 ⟨by rw [e3]; omega, by rw [e3]; omega⟩
  · rw [if_neg (iteP0 hy)] at hK
    exact hK h frQ_rf ⟨hb.1, by have := hb.2; omega⟩
theorem r_filled {g : Int} (hR : hasM h P) (hP : okQ P) (hn : isN h A) (ho : okY A) (hk : okK A) (h53 : h 1000 53 = 0) (hm0 : A 0 2 ≤ 999) {M : Int} (hM : M ≤ 10000000) (hb : tmB M h) (hK : ∀ h', frQ h h' → tmB (M + 2000) h' → K (sFld P A g) h') : m_Model_filled [1000, g] h K := by
  have h6 := ho.1
  unfold m_Model_filled
  simp -implicitDefEqProofs only [↓dn_den, ↓dn_loc, ↓dn_k, ↓dn_add, ↓dn_sub, ↓dn_mul, ↓dn_div, ↓dn_rem, ↓dn_bop, ↓dn_ladd, ↓dn_lsub, ↓dn_lmul, ↓dn_ldiv, ↓dn_lrem, ↓dn_land, ↓dn_l2i, ↓dn_neg, ↓dn_get, ↓dn_fix, ↓dn_ald, ↓dn_gld, ↓dn_yld, ↓dn_len, ↓dn_gln, ↓dn_cc, ↓dn_cb, ↓dn_and, ↓dn_or, ↓dn_not, ↓dn_cite, ↓dn_ec, ↓dn_ei, ↓dn_skip, ↓dn_seq, ↓dn_set, ↓dn_inc, ↓dn_putf, ↓dn_putz, ↓dn_ast, ↓dn_exp, ↓dn_if, ↓dn_ret, ↓dn_retz, ↓dn_retv, ↓dn_brk, ↓dn_cont, ↓dn_cs, ↓dn_sw, ↓dn_pop32, ↓dn_pop64, ↓dn_aop, ↓dn_call, ↓dn_max, ↓dn_min, ↓dn_acp, ↓dn_i2l, ↓dn_args0, ↓dn_args1, og_pad, og_ent, og_rlt, og_rle, og_rgt, og_rge, og_req, og_rne, og_padd, og_psub, og_pmul, List.getD_cons_zero, List.getD_cons_succ, List.set_cons_zero, List.set_cons_succ, List.length_cons, List.length_nil, List.cons_append, List.nil_append, List.replicate, List.append_nil, Nat.reduceAdd, Nat.reduceSub, Nat.reduceEqDiff, if_true, if_false, reduceIte, Int.reduceAdd, Int.reduceSub, Int.reduceMul, Int.reduceNeg, Int.reduceLT, Int.reduceLE, Int.cast_ofNat_Int, true_or, or_true, true_and, and_true, false_and, List.mem_cons, List.not_mem_nil, or_false, false_or, ne_eq]
  apply r_isGrave hn.1 ho
  unfold sFld at hK
  refine ⟨fun hx => ?_, fun hx => ?_⟩
  · have hg := iteP1 hx
    rw [if_pos hg] at hK
    refine r_putsAside ho hn (fun h1 hT1 hN1 e541 => ?_)
    refine ⟨fun e2 h2 => ∃ n : Nat, (∃ c3, e2 = [1000, g, (n : Int), c3]) ∧ isN h2 (sIt P A n) ∧ inTh h h2 ∧ tmB (M + 2000) h2 ∧ n ≤ (min 60 (999 - A 0 2)).toNat ∧ (∀ m, m < n → sFill (sIt P A m) g = false) ∧ (sFill (sIt P A n) g = true ∨ n = (min 60 (999 - A 0 2)).toNat), ?_, ?_⟩
    · refine og_loop (min 60 (999 - A 0 2)).toNat (fun i e1 h1 => e1 = [1000, g, (i : Int), 0] ∧ isN h1 (sIt P A i) ∧ inTh h h1 ∧ (∀ m, m < i → sFill (sIt P A m) g = false) ∧ 0 ≤ h1 1000 54 ∧ h1 1000 54 ≤ M + 6 * i) ⟨rfl, hN1, hT1, fun m hm => absurd hm (by omega), ?_⟩ ?_
      · rw [e541]; exact ⟨hb.1, by have := hb.2; omega⟩
      rintro i e1 h2 hi ⟨rfl, hN, hT, hno, q54⟩
      simp -implicitDefEqProofs only [↓dn_den, ↓dn_loc, ↓dn_k, ↓dn_add, ↓dn_sub, ↓dn_mul, ↓dn_div, ↓dn_rem, ↓dn_bop, ↓dn_ladd, ↓dn_lsub, ↓dn_lmul, ↓dn_ldiv, ↓dn_lrem, ↓dn_land, ↓dn_l2i, ↓dn_neg, ↓dn_get, ↓dn_fix, ↓dn_ald, ↓dn_gld, ↓dn_yld, ↓dn_len, ↓dn_gln, ↓dn_cc, ↓dn_cb, ↓dn_and, ↓dn_or, ↓dn_not, ↓dn_cite, ↓dn_ec, ↓dn_ei, ↓dn_skip, ↓dn_seq, ↓dn_set, ↓dn_inc, ↓dn_putf, ↓dn_putz, ↓dn_ast, ↓dn_exp, ↓dn_if, ↓dn_ret, ↓dn_retz, ↓dn_retv, ↓dn_brk, ↓dn_cont, ↓dn_cs, ↓dn_sw, ↓dn_pop32, ↓dn_pop64, ↓dn_aop, ↓dn_call, ↓dn_max, ↓dn_min, ↓dn_acp, ↓dn_i2l, ↓dn_args0, ↓dn_args1, og_pad, og_ent, og_rlt, og_rle, og_rgt, og_rge, og_req, og_rne, og_padd, og_psub, og_pmul, List.getD_cons_zero, List.getD_cons_succ, List.set_cons_zero, List.set_cons_succ, List.length_cons, List.length_nil, List.cons_append, List.nil_append, List.replicate, List.append_nil, Nat.reduceAdd, Nat.reduceSub, Nat.reduceEqDiff, if_true, if_false, reduceIte, Int.reduceAdd, Int.reduceSub, Int.reduceMul, Int.reduceNeg, Int.reduceLT, Int.reduceLE, Int.cast_ofNat_Int, true_or, or_true, true_and, and_true, false_and, List.mem_cons, List.not_mem_nil, or_false, false_or, ne_eq, og_i32]
      have s0 := sIt_0 (P := P) (A := A) i
      have oi : okY (sIt P A i) := okY_it ho i (by omega)
      refine r_inGrave hN.1 oi hg.1 (by rw [s0.1]; exact hg.2) ?_
      refine ⟨fun hz => ?_, fun hz => ?_⟩
      · have hf : sFill (sIt P A i) g = false := by unfold sFill; simpa using hz
        refine ⟨fun hi6 => ?_, fun hi6 => ?_⟩
        · rw [hN.1.1.2.2, s0.2.2]
          refine ⟨fun hl => ?_, fun hl => ?_⟩
          · have tg := sTk_rg (P := P) oi
            refine r_monthGoes (hasM_T hR hT) hP hN oi (okK_it ho hk i (by omega)) (by rw [s0.2.2]; omega) (by omega) (fun h3 hN3 hF3 e3 => ?_)
            refine ⟨by omega, og_nx_mk (by omega) ⟨by simp, hN3, inTh_M hT hF3, fun m hm => ?_, ?_⟩⟩
            · by_cases e : m = i
              · subst e; exact hf
              · exact hno m (by omega)
            · rw [e3]; omega
          · exact ⟨i, ⟨_, rfl⟩, hN, hT, ⟨q54.1, by have := q54.2; omega⟩, hi, hno, Or.inr (by omega)⟩
        · exact ⟨i, ⟨_, rfl⟩, hN, hT, ⟨q54.1, by have := q54.2; omega⟩, hi, hno, Or.inr (by omega)⟩
      · exact ⟨i, ⟨_, rfl⟩, hN, hT, ⟨q54.1, by have := q54.2; omega⟩, hi, hno, Or.inl (by unfold sFill; simpa using hz)⟩
    · rintro e2 h2 ⟨n, ⟨c3, rfl⟩, hN, hT, hb3, hnl, hno, hor⟩
      simp -implicitDefEqProofs only [↓dn_den, ↓dn_loc, ↓dn_k, ↓dn_add, ↓dn_sub, ↓dn_mul, ↓dn_div, ↓dn_rem, ↓dn_bop, ↓dn_ladd, ↓dn_lsub, ↓dn_lmul, ↓dn_ldiv, ↓dn_lrem, ↓dn_land, ↓dn_l2i, ↓dn_neg, ↓dn_get, ↓dn_fix, ↓dn_ald, ↓dn_gld, ↓dn_yld, ↓dn_len, ↓dn_gln, ↓dn_cc, ↓dn_cb, ↓dn_and, ↓dn_or, ↓dn_not, ↓dn_cite, ↓dn_ec, ↓dn_ei, ↓dn_skip, ↓dn_seq, ↓dn_set, ↓dn_inc, ↓dn_putf, ↓dn_putz, ↓dn_ast, ↓dn_exp, ↓dn_if, ↓dn_ret, ↓dn_retz, ↓dn_retv, ↓dn_brk, ↓dn_cont, ↓dn_cs, ↓dn_sw, ↓dn_pop32, ↓dn_pop64, ↓dn_aop, ↓dn_call, ↓dn_max, ↓dn_min, ↓dn_acp, ↓dn_i2l, ↓dn_args0, ↓dn_args1, og_pad, og_ent, og_rlt, og_rle, og_rgt, og_rge, og_req, og_rne, og_padd, og_psub, og_pmul, List.getD_cons_zero, List.getD_cons_succ, List.set_cons_zero, List.set_cons_succ, List.length_cons, List.length_nil, List.cons_append, List.nil_append, List.replicate, List.append_nil, Nat.reduceAdd, Nat.reduceSub, Nat.reduceEqDiff, if_true, if_false, reduceIte, Int.reduceAdd, Int.reduceSub, Int.reduceMul, Int.reduceNeg, Int.reduceLT, Int.reduceLE, Int.cast_ofNat_Int, true_or, or_true, true_and, and_true, false_and, List.mem_cons, List.not_mem_nil, or_false, false_or, ne_eq]
      have s0 := sIt_0 (P := P) (A := A) n
      have oi : okY (sIt P A n) := okY_it ho n (by omega)
      have hu := sFilled_un (P := P) (A := A) hno hnl hor
      refine r_inGrave hN.1 oi hg.1 (by rw [s0.1]; exact hg.2) ?_
      refine ⟨fun hz => ?_, fun hz => ?_⟩
      · have hf : sFill (sIt P A n) g = true := by unfold sFill; simpa using hz
        rw [if_pos hf] at hu
        rw [hu] at hK
        refine r_takesBack ho hT hn.1 h53 (fun h3 hF3 e3 _ => ?_)
        exact ⟨fun _ => hK h3 hF3 (by unfold tmB; rw [e3]; exact hb3), fun z => by cases z⟩
      · have hf : ¬ sFill (sIt P A n) g = true := by unfold sFill; simpa using hz
        rw [if_neg hf] at hu
        rw [hu] at hK
        refine r_takesBack ho hT hn.1 h53 (fun h3 hF3 e3 _ => ?_)
        exact ⟨fun z => absurd trivial z, fun _ => hK h3 hF3 (by unfold tmB; rw [e3]; exact hb3)⟩
  · rw [if_neg (iteP0 hx)] at hK
    exact hK h frQ_rf ⟨hb.1, by have := hb.2; omega⟩
end
