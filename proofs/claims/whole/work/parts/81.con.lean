section
-- reading an image: the class, second part
section
variable {q h h0 h' : Hp} {A B : Yd} {P : Pr} {U : List Yd} {X : Yd} {n M : Int} {K : Int → Hp → Prop}
theorem c_isImage (hy : isY h 100 A) (ho : okY A) (ht : h 1 1 = X 0 1 ∧ ∀ j, 0 ≤ j → j < X 0 1 → h 2 j = X 2 j) (hx : (0 ≤ X 0 1 ∧ X 0 1 ≤ 1600) ∧ ∀ j, 0 ≤ j → j < X 0 1 → 0 ≤ X 2 j ∧ X 2 j ≤ 255) (hK : K (if X 0 1 = imS A + 1 ∧ X 2 (imS A) = mxN (X 2) (imS A).toNat then 1 else 0) h) : m_OG_isImage [0] h K := by
  have h6 := ho.1
  have es : imS A = 2 + 3 * A 0 0 + 3 * A 0 1 := rfl
  unfold m_OG_isImage
  simp -implicitDefEqProofs only [↓dn_den, ↓dn_loc, ↓dn_k, ↓dn_add, ↓dn_sub, ↓dn_mul, ↓dn_div, ↓dn_rem, ↓dn_bop, ↓dn_ladd, ↓dn_lsub, ↓dn_lmul, ↓dn_ldiv, ↓dn_lrem, ↓dn_land, ↓dn_l2i, ↓dn_neg, ↓dn_get, ↓dn_fix, ↓dn_ald, ↓dn_gld, ↓dn_yld, ↓dn_len, ↓dn_gln, ↓dn_cc, ↓dn_cb, ↓dn_and, ↓dn_or, ↓dn_not, ↓dn_cite, ↓dn_ec, ↓dn_ei, ↓dn_skip, ↓dn_seq, ↓dn_set, ↓dn_inc, ↓dn_putf, ↓dn_putz, ↓dn_ast, ↓dn_exp, ↓dn_if, ↓dn_ret, ↓dn_retz, ↓dn_retv, ↓dn_brk, ↓dn_cont, ↓dn_cs, ↓dn_sw, ↓dn_pop32, ↓dn_pop64, ↓dn_aop, ↓dn_call, ↓dn_max, ↓dn_min, ↓dn_acp, ↓dn_i2l, ↓dn_args0, ↓dn_args1, og_pad, og_ent, og_rlt, og_rle, og_rgt, og_rge, og_req, og_rne, og_padd, og_psub, og_pmul, List.getD_cons_zero, List.getD_cons_succ, List.set_cons_zero, List.set_cons_succ, List.length_cons, List.length_nil, List.cons_append, List.nil_append, List.replicate, List.append_nil, Nat.reduceAdd, Nat.reduceSub, Nat.reduceEqDiff, if_true, if_false, reduceIte, Int.reduceAdd, Int.reduceSub, Int.reduceMul, Int.reduceNeg, Int.reduceLT, Int.reduceLE, Int.cast_ofNat_Int, true_or, or_true, true_and, and_true, false_and, List.mem_cons, List.not_mem_nil, or_false, false_or, ne_eq, og_i32]
  rw [hy.1.1, hy.1.2.1, ht.1]
  have e1 : 3 + 3 * A 0 0 + 3 * A 0 1 = imS A + 1 := by omega
  rw [e1]
  have e2 : imS A + 1 - 1 = imS A := by omega
  rw [e2]
  repeat (refine And.intro (by omega) ?_)
  refine ⟨fun a => ?_, fun a => ?_⟩
  · repeat (refine And.intro (by omega) ?_)
    refine s_Tape_at (by omega) ?_
    rw [if_pos (by omega), ht.2 _ (by omega) (by omega)]
    repeat (refine And.intro (by omega) ?_)
    have ec : imS A = ((imS A).toNat : Int) := by omega
    have hmx : ∀ {K : Int → Hp → Prop}, K (mxN (X 2) (imS A).toNat) h → m_OG_mixed [2, imS A] h K := by
      intro K hK
      have := s_mixed (h := h) (a := 2) (m := (imS A).toNat) (f := X 2) (K := K) (by rw [og_siz2]; omega) (by omega) (fun j hj => ⟨ht.2 j (by omega) (by omega), hx.2 j (by omega) (by omega)⟩) hK
      rw [← ec] at this
      exact this
    refine hmx ⟨fun b => ?_, fun b => ?_⟩
    · rw [if_pos ⟨a, b⟩] at hK
      first | exact hK | exact ⟨by decide, hK⟩
    · rw [if_neg (fun z => b z.2)] at hK
      first | exact hK | exact ⟨by decide, hK⟩
  · rw [if_neg (fun z => a z.1)] at hK
    first | exact hK | exact ⟨by decide, hK⟩
theorem c_readImage (hy : isY h 100 A) (ho : okY A) (ht : h 1 1 = X 0 1 ∧ ∀ j, 0 ≤ j → j < X 0 1 → h 2 j = X 2 j) (hx : (0 ≤ X 0 1 ∧ X 0 1 ≤ 1600) ∧ ∀ j, 0 ≤ j → j < X 0 1 → 0 ≤ X 2 j ∧ X 2 j ≤ 255) (hs : X 0 1 = imS A + 1)
    (hK : ∀ h', isY h' 110 (onA A X) → frY 110 h h' → K (if sSound (onA A X) = true then 1 else 0) h') : m_OG_readImage [0, 110] h K := by
  have h6 := ho.1
  have hng : sNg A = (A 0 0).toNat := rfl
  have hnp : sNp A = (A 0 1).toNat := rfl
  have es : imS A = 2 + 3 * A 0 0 + 3 * A 0 1 := rfl
  have at_ : ∀ {h1 : Hp} {k : Int} {K : Int → Hp → Prop}, (∀ i k, i = 1 ∨ i = 2 → h1 i k = h i k) → 0 ≤ k → k < X 0 1 → K (X 2 k) h1 → m_Tape_at [1, k] h1 K := by
    intro h1 k K hf a b hK
    refine s_Tape_at (by rw [hf 1 1 (by omega), ht.1]; exact hx.1.2) ?_
    rw [hf 1 1 (by omega), hf 2 k (by omega), if_pos ⟨a, by rw [ht.1]; exact b⟩, ht.2 k a b]
    exact hK
  have b0 := hx.2 0 (by omega) (by omega)
  have b1 := hx.2 1 (by omega) (by omega)
  unfold m_OG_readImage
  simp -implicitDefEqProofs only [↓dn_den, ↓dn_loc, ↓dn_k, ↓dn_add, ↓dn_sub, ↓dn_mul, ↓dn_div, ↓dn_rem, ↓dn_bop, ↓dn_ladd, ↓dn_lsub, ↓dn_lmul, ↓dn_ldiv, ↓dn_lrem, ↓dn_land, ↓dn_l2i, ↓dn_neg, ↓dn_get, ↓dn_fix, ↓dn_ald, ↓dn_gld, ↓dn_yld, ↓dn_len, ↓dn_gln, ↓dn_cc, ↓dn_cb, ↓dn_and, ↓dn_or, ↓dn_not, ↓dn_cite, ↓dn_ec, ↓dn_ei, ↓dn_skip, ↓dn_seq, ↓dn_set, ↓dn_inc, ↓dn_putf, ↓dn_putz, ↓dn_ast, ↓dn_exp, ↓dn_if, ↓dn_ret, ↓dn_retz, ↓dn_retv, ↓dn_brk, ↓dn_cont, ↓dn_cs, ↓dn_sw, ↓dn_pop32, ↓dn_pop64, ↓dn_aop, ↓dn_call, ↓dn_max, ↓dn_min, ↓dn_acp, ↓dn_i2l, ↓dn_args0, ↓dn_args1, og_pad, og_ent, og_rlt, og_rle, og_rgt, og_rge, og_req, og_rne, og_padd, og_psub, og_pmul, List.getD_cons_zero, List.getD_cons_succ, List.set_cons_zero, List.set_cons_succ, List.length_cons, List.length_nil, List.cons_append, List.nil_append, List.replicate, List.append_nil, Nat.reduceAdd, Nat.reduceSub, Nat.reduceEqDiff, if_true, if_false, reduceIte, Int.reduceAdd, Int.reduceSub, Int.reduceMul, Int.reduceNeg, Int.reduceLT, Int.reduceLE, Int.cast_ofNat_Int, true_or, or_true, true_and, and_true, false_and, List.mem_cons, List.not_mem_nil, or_false, false_or, ne_eq, og_i32]
  refine s_Yard_become (by omega) hy ho (fun h1 hy1 hf1 => ?_)
  have f1 : ∀ i k, i < 100 → i ≠ 7 → i ≠ 9 → h1 i k = h i k := fun i k a b c => hf1 i k b c (by omega)
  refine at_ (fun i k hi => by rw [og_up_i (by omega)]; exact f1 i k (by omega) (by omega) (by omega)) (by omega) (by omega) ?_
  refine ⟨by omega, ?_⟩
  refine at_ (fun i k hi => by rw [og_up_i (by omega)]; exact f1 i k (by omega) (by omega) (by omega)) (by omega) (by omega) ?_
  refine ⟨by omega, ?_⟩
  generalize hh2 : og_up (og_up h1 110 3 0) 110 2 (256 * X 2 0 + X 2 1) = h2
  have g0 : h2 110 0 = A 0 0 ∧ h2 110 1 = A 0 1 ∧ h2 110 2 = 256 * X 2 0 + X 2 1 ∧ h2 110 3 = 0 := by
    rw [← hh2]
    refine ⟨?_, ?_, og_up_eq, ?_⟩
    · rw [og_up_k (by decide), og_up_k (by decide)]; exact hy1.1.1
    · rw [og_up_k (by decide), og_up_k (by decide)]; exact hy1.1.2.1
    · rw [og_up_k (by decide), og_up_eq]
  have f2 : ∀ i k, i ≠ 110 → h2 i k = h1 i k := fun i k hi => by rw [← hh2, og_up_i hi, og_up_i hi]
  refine ⟨fun e3 h3 => (∃ c3 c4, e3 = [0, 110, 2 + 3 * A 0 0, c3, c4]) ∧ (∀ k : Int, 0 ≤ k → k < A 0 0 → h3 112 k = onA A X 2 k ∧ h3 113 k = onA A X 3 k ∧ h3 114 k = onA A X 4 k) ∧ (∀ i k, ¬ (112 ≤ i ∧ i ≤ 114) → h3 i k = h2 i k), ?_, ?_⟩
  · simp -implicitDefEqProofs only [↓dn_den, ↓dn_loc, ↓dn_k, ↓dn_add, ↓dn_sub, ↓dn_mul, ↓dn_div, ↓dn_rem, ↓dn_bop, ↓dn_ladd, ↓dn_lsub, ↓dn_lmul, ↓dn_ldiv, ↓dn_lrem, ↓dn_land, ↓dn_l2i, ↓dn_neg, ↓dn_get, ↓dn_fix, ↓dn_ald, ↓dn_gld, ↓dn_yld, ↓dn_len, ↓dn_gln, ↓dn_cc, ↓dn_cb, ↓dn_and, ↓dn_or, ↓dn_not, ↓dn_cite, ↓dn_ec, ↓dn_ei, ↓dn_skip, ↓dn_seq, ↓dn_set, ↓dn_inc, ↓dn_putf, ↓dn_putz, ↓dn_ast, ↓dn_exp, ↓dn_if, ↓dn_ret, ↓dn_retz, ↓dn_retv, ↓dn_brk, ↓dn_cont, ↓dn_cs, ↓dn_sw, ↓dn_pop32, ↓dn_pop64, ↓dn_aop, ↓dn_call, ↓dn_max, ↓dn_min, ↓dn_acp, ↓dn_i2l, ↓dn_args0, ↓dn_args1, og_pad, og_ent, og_rlt, og_rle, og_rgt, og_rge, og_req, og_rne, og_padd, og_psub, og_pmul, List.getD_cons_zero, List.getD_cons_succ, List.set_cons_zero, List.set_cons_succ, List.length_cons, List.length_nil, List.cons_append, List.nil_append, List.replicate, List.append_nil, Nat.reduceAdd, Nat.reduceSub, Nat.reduceEqDiff, if_true, if_false, reduceIte, Int.reduceAdd, Int.reduceSub, Int.reduceMul, Int.reduceNeg, Int.reduceLT, Int.reduceLE, Int.cast_ofNat_Int, true_or, or_true, true_and, and_true, false_and, List.mem_cons, List.not_mem_nil, or_false, false_or, ne_eq]
    refine og_loop (sNg A) (fun i e3 h3 => (∃ c4, e3 = [0, 110, 2 + 3 * (i : Int), (i : Int), c4]) ∧ (∀ k : Int, 0 ≤ k → k < i → h3 112 k = onA A X 2 k ∧ h3 113 k = onA A X 3 k ∧ h3 114 k = onA A X 4 k) ∧ (∀ i k, ¬ (112 ≤ i ∧ i ≤ 114) → h3 i k = h2 i k)) ⟨⟨0, rfl⟩, fun k a b => by omega, fun _ _ _ => rfl⟩ ?_
    rintro i e3 h3 hi ⟨⟨c4, rfl⟩, hv, hf3⟩
    simp -implicitDefEqProofs only [↓dn_den, ↓dn_loc, ↓dn_k, ↓dn_add, ↓dn_sub, ↓dn_mul, ↓dn_div, ↓dn_rem, ↓dn_bop, ↓dn_ladd, ↓dn_lsub, ↓dn_lmul, ↓dn_ldiv, ↓dn_lrem, ↓dn_land, ↓dn_l2i, ↓dn_neg, ↓dn_get, ↓dn_fix, ↓dn_ald, ↓dn_gld, ↓dn_yld, ↓dn_len, ↓dn_gln, ↓dn_cc, ↓dn_cb, ↓dn_and, ↓dn_or, ↓dn_not, ↓dn_cite, ↓dn_ec, ↓dn_ei, ↓dn_skip, ↓dn_seq, ↓dn_set, ↓dn_inc, ↓dn_putf, ↓dn_putz, ↓dn_ast, ↓dn_exp, ↓dn_if, ↓dn_ret, ↓dn_retz, ↓dn_retv, ↓dn_brk, ↓dn_cont, ↓dn_cs, ↓dn_sw, ↓dn_pop32, ↓dn_pop64, ↓dn_aop, ↓dn_call, ↓dn_max, ↓dn_min, ↓dn_acp, ↓dn_i2l, ↓dn_args0, ↓dn_args1, og_pad, og_ent, og_rlt, og_rle, og_rgt, og_rge, og_req, og_rne, og_padd, og_psub, og_pmul, List.getD_cons_zero, List.getD_cons_succ, List.set_cons_zero, List.set_cons_succ, List.length_cons, List.length_nil, List.cons_append, List.nil_append, List.replicate, List.append_nil, Nat.reduceAdd, Nat.reduceSub, Nat.reduceEqDiff, if_true, if_false, reduceIte, Int.reduceAdd, Int.reduceSub, Int.reduceMul, Int.reduceNeg, Int.reduceLT, Int.reduceLE, Int.cast_ofNat_Int, true_or, or_true, true_and, and_true, false_and, List.mem_cons, List.not_mem_nil, or_false, false_or, ne_eq, og_i32]
    rw [hf3 110 0 (by omega), g0.1]
    refine ⟨fun hlt => ?_, fun hge => ?_⟩
    · have tp : ∀ {h4 : Hp}, (∀ i k, ¬ (112 ≤ i ∧ i ≤ 114) → h4 i k = h3 i k) → ∀ i k, i = 1 ∨ i = 2 → h4 i k = h i k := fun hf i k hi => by rw [hf i k (by omega), hf3 i k (by omega), f2 i k (by omega), f1 i k (by omega) (by omega) (by omega)]
      refine at_ (tp (fun _ _ _ => rfl)) (by omega) (by omega) ?_
      refine ⟨by omega, by omega, by omega, ?_⟩
      refine at_ (tp (fun i k hi => og_up_i (by omega))) (by omega) (by omega) ?_
      refine ⟨by omega, by omega, by omega, ?_⟩
      refine at_ (tp (fun i k hi => by rw [og_up_i (by omega), og_up_i (by omega)])) (by omega) (by omega) ?_
      have ec := onA_c (A := A) (X := X) (k := (i : Int))
      have i2 : 2 + 3 * (i : Int) + 1 = 3 + 3 * (i : Int) := by omega
      have i3 : 2 + 3 * (i : Int) + 2 = 4 + 3 * (i : Int) := by omega
      rw [i2, i3]
      have fin : ∀ v : Int, v = onA A X 4 i → ∀ c4 : Int, (-2147483648 ≤ 2 + 3 * (i : Int) + 3 ∧ 2 + 3 * (i : Int) + 3 ≤ 2147483647) ∧ (-2147483648 ≤ (i : Int) + 1 ∧ (i : Int) + 1 ≤ 2147483647) ∧ og_nx (sNg A) (fun i e3 h3 => (∃ c4, e3 = [0, 110, 2 + 3 * (i : Int), (i : Int), c4]) ∧ (∀ k : Int, 0 ≤ k → k < i → h3 112 k = onA A X 2 k ∧ h3 113 k = onA A X 3 k ∧ h3 114 k = onA A X 4 k) ∧ (∀ i k, ¬ (112 ≤ i ∧ i ≤ 114) → h3 i k = h2 i k)) i [0, 110, 2 + 3 * (i : Int) + 3, (i : Int) + 1, c4] (og_up (og_up (og_up h3 112 (i : Int) (X 2 (2 + 3 * (i : Int)))) 113 (i : Int) (X 2 (3 + 3 * (i : Int)))) 114 (i : Int) v) := by
        intro v hv' c4
        refine ⟨by omega, by omega, og_nx_mk (by omega) ⟨⟨c4, by simp; omega⟩, fun k a b => ?_, fun j k hj => by rw [og_up_i (by omega), og_up_i (by omega), og_up_i (by omega)]; exact hf3 j k hj⟩⟩
        by_cases e : k = i
        · subst e
          rw [og_up_i (by decide), og_up_i (by decide), og_up_eq, og_up_i (by decide), og_up_eq, og_up_eq, hv']
          exact ⟨ec.2.1.symm, ec.2.2.1.symm, rfl⟩
        · rw [og_up_i (by decide), og_up_i (by decide), og_up_k e, og_up_i (by decide), og_up_k e, og_up_i (by decide), og_up_k e, og_up_i (by decide), og_up_i (by decide)]
          exact hv k a (by omega)
      rw [ec.2.2.2.1] at fin
      refine ⟨fun z => ?_, fun z => ?_⟩
      · repeat (refine And.intro (by omega) ?_)
        exact (fin _ (by rw [if_pos z]) _).2.2
      · repeat (refine And.intro (by omega) ?_)
        exact (fin _ (by rw [if_neg z]) _).2.2
    · have e : (i : Int) = A 0 0 := by omega
      rw [e]
      exact ⟨⟨_, _, rfl⟩, fun k a b => hv k a (by omega), hf3⟩
  · rintro e3 h3 ⟨⟨c3, c4, rfl⟩, hv3, hf3⟩
    refine ⟨fun e4 h4 => (∃ c2 c3, e4 = [0, 110, c2, c3, c4]) ∧ (∀ k : Int, 0 ≤ k → k < A 0 1 → h4 118 k = onA A X 8 k ∧ h4 116 k = onA A X 6 k ∧ h4 117 k = onA A X 7 k) ∧ (∀ i k, ¬ (116 ≤ i ∧ i ≤ 118) → h4 i k = h3 i k), ?_, ?_⟩
    · simp -implicitDefEqProofs only [↓dn_den, ↓dn_loc, ↓dn_k, ↓dn_add, ↓dn_sub, ↓dn_mul, ↓dn_div, ↓dn_rem, ↓dn_bop, ↓dn_ladd, ↓dn_lsub, ↓dn_lmul, ↓dn_ldiv, ↓dn_lrem, ↓dn_land, ↓dn_l2i, ↓dn_neg, ↓dn_get, ↓dn_fix, ↓dn_ald, ↓dn_gld, ↓dn_yld, ↓dn_len, ↓dn_gln, ↓dn_cc, ↓dn_cb, ↓dn_and, ↓dn_or, ↓dn_not, ↓dn_cite, ↓dn_ec, ↓dn_ei, ↓dn_skip, ↓dn_seq, ↓dn_set, ↓dn_inc, ↓dn_putf, ↓dn_putz, ↓dn_ast, ↓dn_exp, ↓dn_if, ↓dn_ret, ↓dn_retz, ↓dn_retv, ↓dn_brk, ↓dn_cont, ↓dn_cs, ↓dn_sw, ↓dn_pop32, ↓dn_pop64, ↓dn_aop, ↓dn_call, ↓dn_max, ↓dn_min, ↓dn_acp, ↓dn_i2l, ↓dn_args0, ↓dn_args1, og_pad, og_ent, og_rlt, og_rle, og_rgt, og_rge, og_req, og_rne, og_padd, og_psub, og_pmul, List.getD_cons_zero, List.getD_cons_succ, List.set_cons_zero, List.set_cons_succ, List.length_cons, List.length_nil, List.cons_append, List.nil_append, List.replicate, List.append_nil, Nat.reduceAdd, Nat.reduceSub, Nat.reduceEqDiff, if_true, if_false, reduceIte, Int.reduceAdd, Int.reduceSub, Int.reduceMul, Int.reduceNeg, Int.reduceLT, Int.reduceLE, Int.cast_ofNat_Int, true_or, or_true, true_and, and_true, false_and, List.mem_cons, List.not_mem_nil, or_false, false_or, ne_eq]
      refine og_loop (sNp A) (fun i e4 h4 => e4 = [0, 110, 2 + 3 * A 0 0 + 3 * (i : Int), (i : Int), c4] ∧ (∀ k : Int, 0 ≤ k → k < i → h4 118 k = onA A X 8 k ∧ h4 116 k = onA A X 6 k ∧ h4 117 k = onA A X 7 k) ∧ (∀ i k, ¬ (116 ≤ i ∧ i ≤ 118) → h4 i k = h3 i k)) ⟨by simp, fun k a b => by omega, fun _ _ _ => rfl⟩ ?_
      rintro i e4 h4 hi ⟨rfl, hv, hf4⟩
      simp -implicitDefEqProofs only [↓dn_den, ↓dn_loc, ↓dn_k, ↓dn_add, ↓dn_sub, ↓dn_mul, ↓dn_div, ↓dn_rem, ↓dn_bop, ↓dn_ladd, ↓dn_lsub, ↓dn_lmul, ↓dn_ldiv, ↓dn_lrem, ↓dn_land, ↓dn_l2i, ↓dn_neg, ↓dn_get, ↓dn_fix, ↓dn_ald, ↓dn_gld, ↓dn_yld, ↓dn_len, ↓dn_gln, ↓dn_cc, ↓dn_cb, ↓dn_and, ↓dn_or, ↓dn_not, ↓dn_cite, ↓dn_ec, ↓dn_ei, ↓dn_skip, ↓dn_seq, ↓dn_set, ↓dn_inc, ↓dn_putf, ↓dn_putz, ↓dn_ast, ↓dn_exp, ↓dn_if, ↓dn_ret, ↓dn_retz, ↓dn_retv, ↓dn_brk, ↓dn_cont, ↓dn_cs, ↓dn_sw, ↓dn_pop32, ↓dn_pop64, ↓dn_aop, ↓dn_call, ↓dn_max, ↓dn_min, ↓dn_acp, ↓dn_i2l, ↓dn_args0, ↓dn_args1, og_pad, og_ent, og_rlt, og_rle, og_rgt, og_rge, og_req, og_rne, og_padd, og_psub, og_pmul, List.getD_cons_zero, List.getD_cons_succ, List.set_cons_zero, List.set_cons_succ, List.length_cons, List.length_nil, List.cons_append, List.nil_append, List.replicate, List.append_nil, Nat.reduceAdd, Nat.reduceSub, Nat.reduceEqDiff, if_true, if_false, reduceIte, Int.reduceAdd, Int.reduceSub, Int.reduceMul, Int.reduceNeg, Int.reduceLT, Int.reduceLE, Int.cast_ofNat_Int, true_or, or_true, true_and, and_true, false_and, List.mem_cons, List.not_mem_nil, or_false, false_or, ne_eq, og_i32]
      rw [hf4 110 1 (by omega), hf3 110 1 (by omega), g0.2.1]
      refine ⟨fun hlt => ?_, fun hge => ?_⟩
      · have tp : ∀ {h5 : Hp}, (∀ i k, ¬ (116 ≤ i ∧ i ≤ 118) → h5 i k = h4 i k) → ∀ i k, i = 1 ∨ i = 2 → h5 i k = h i k := fun hf i k hi => by rw [hf i k (by omega), hf4 i k (by omega), hf3 i k (by omega), f2 i k (by omega), f1 i k (by omega) (by omega) (by omega)]
        refine at_ (tp (fun _ _ _ => rfl)) (by omega) (by omega) ?_
        refine ⟨by omega, by omega, by omega, ?_⟩
        refine at_ (tp (fun i k hi => og_up_i (by omega))) (by omega) (by omega) ?_
        refine ⟨by omega, by omega, by omega, ?_⟩
        refine at_ (tp (fun i k hi => by rw [og_up_i (by omega), og_up_i (by omega)])) (by omega) (by omega) ?_
        have ec := onA_c (A := A) (X := X) (k := (i : Int))
        have i2 : 2 + 3 * A 0 0 + 3 * (i : Int) + 1 = 3 + 3 * A 0 0 + 3 * (i : Int) := by omega
        have i3 : 2 + 3 * A 0 0 + 3 * (i : Int) + 2 = 4 + 3 * A 0 0 + 3 * (i : Int) := by omega
        rw [i2, i3]
        repeat (refine And.intro (by omega) ?_)
        refine og_nx_mk (by omega) ⟨by simp; omega, fun k a b => ?_, fun j k hj => by rw [og_up_i (by omega), og_up_i (by omega), og_up_i (by omega)]; exact hf4 j k hj⟩
        by_cases e : k = i
        · subst e
          rw [og_up_i (by decide), og_up_i (by decide), og_up_eq, og_up_i (by decide), og_up_eq, og_up_eq]
          exact ⟨ec.2.2.2.2.2.2.2.symm, ec.2.2.2.2.2.1.symm, ec.2.2.2.2.2.2.1.symm⟩
        · rw [og_up_i (by decide), og_up_i (by decide), og_up_k e, og_up_i (by decide), og_up_k e, og_up_i (by decide), og_up_k e, og_up_i (by decide), og_up_i (by decide)]
          exact hv k a (by omega)
      · exact ⟨⟨_, _, rfl⟩, fun k a b => hv k a (by omega), hf4⟩
    · rintro e4 h4 ⟨⟨c2, c3', rfl⟩, hv4, hf4⟩
      simp -implicitDefEqProofs only [↓dn_den, ↓dn_loc, ↓dn_k, ↓dn_add, ↓dn_sub, ↓dn_mul, ↓dn_div, ↓dn_rem, ↓dn_bop, ↓dn_ladd, ↓dn_lsub, ↓dn_lmul, ↓dn_ldiv, ↓dn_lrem, ↓dn_land, ↓dn_l2i, ↓dn_neg, ↓dn_get, ↓dn_fix, ↓dn_ald, ↓dn_gld, ↓dn_yld, ↓dn_len, ↓dn_gln, ↓dn_cc, ↓dn_cb, ↓dn_and, ↓dn_or, ↓dn_not, ↓dn_cite, ↓dn_ec, ↓dn_ei, ↓dn_skip, ↓dn_seq, ↓dn_set, ↓dn_inc, ↓dn_putf, ↓dn_putz, ↓dn_ast, ↓dn_exp, ↓dn_if, ↓dn_ret, ↓dn_retz, ↓dn_retv, ↓dn_brk, ↓dn_cont, ↓dn_cs, ↓dn_sw, ↓dn_pop32, ↓dn_pop64, ↓dn_aop, ↓dn_call, ↓dn_max, ↓dn_min, ↓dn_acp, ↓dn_i2l, ↓dn_args0, ↓dn_args1, og_pad, og_ent, og_rlt, og_rle, og_rgt, og_rge, og_req, og_rne, og_padd, og_psub, og_pmul, List.getD_cons_zero, List.getD_cons_succ, List.set_cons_zero, List.set_cons_succ, List.length_cons, List.length_nil, List.cons_append, List.nil_append, List.replicate, List.append_nil, Nat.reduceAdd, Nat.reduceSub, Nat.reduceEqDiff, if_true, if_false, reduceIte, Int.reduceAdd, Int.reduceSub, Int.reduceMul, Int.reduceNeg, Int.reduceLT, Int.reduceLE, Int.cast_ofNat_Int, true_or, or_true, true_and, and_true, false_and, List.mem_cons, List.not_mem_nil, or_false, false_or, ne_eq]
      have hy4 : isY h4 110 (onA A X) := by
        refine ⟨?_, fun k k0 k1 => ?_, fun k k0 k1 => ?_, fun k k0 k1 => ?_⟩
        · rw [hf4 _ _ (by omega), hf4 _ _ (by omega), hf4 _ _ (by omega), hf4 _ _ (by omega), hf3 _ _ (by omega), hf3 _ _ (by omega), hf3 _ _ (by omega), hf3 _ _ (by omega)]
          exact g0
        · rw [onA_0.1] at k1
          have a1 := hv3 k k0 k1
          have y1 := (hy1.2.1 k k0 k1).1
          simp only [Int.reduceAdd] at y1 ⊢
          rw [hf4 _ _ (by omega), hf4 _ _ (by omega), hf4 _ _ (by omega), hf4 _ _ (by omega), hf3 111 _ (by omega), f2 111 _ (by omega)]
          exact ⟨y1, a1⟩
        · rw [onA_0.2.1] at k1
          have a1 := hv4 k k0 k1
          have y1 := (hy1.2.2.1 k k0 k1).1
          simp only [Int.reduceAdd] at y1 ⊢
          rw [hf4 115 _ (by omega), hf3 115 _ (by omega), f2 115 _ (by omega)]
          exact ⟨y1, a1.2.1, a1.2.2, a1.1⟩
        · rw [onA_0.2.2.2] at k1; omega
      refine s_Yard_isSound hy4 ⟨by rw [onA_0.1]; omega, by rw [onA_0.1]; omega, by rw [onA_0.2.1]; omega, by rw [onA_0.2.1]; omega⟩ ?_
      refine ⟨?_, hK h4 hy4 (fun i k a b c => by rw [hf4 i k (by omega), hf3 i k (by omega), f2 i k (by omega)]; exact hf1 i k a b c)⟩
      split
      · exact Or.inr rfl
      · exact Or.inl rfl
theorem c_on (hn : n ≤ 1000000) (hr : relC q h A P U X) (hx : okX n A P U X) (hK0 : onB A X = false → ∀ h', relC q h' A P U (sRf (sUp X 0 1 0) 5) → K 0 h') (hK1 : onB A X = true → ∀ h', relC q h' (onA A X) P [] (sUp X 0 1 0) → K 1 h') : m_OG_on [0] h K := by
  have ho := hx.1.1
  have ht := hr.2.2.1.2.2.1
  have xb := hx.2.2.2.2.1
  unfold m_OG_on
  simp -implicitDefEqProofs only [↓dn_den, ↓dn_loc, ↓dn_k, ↓dn_add, ↓dn_sub, ↓dn_mul, ↓dn_div, ↓dn_rem, ↓dn_bop, ↓dn_ladd, ↓dn_lsub, ↓dn_lmul, ↓dn_ldiv, ↓dn_lrem, ↓dn_land, ↓dn_l2i, ↓dn_neg, ↓dn_get, ↓dn_fix, ↓dn_ald, ↓dn_gld, ↓dn_yld, ↓dn_len, ↓dn_gln, ↓dn_cc, ↓dn_cb, ↓dn_and, ↓dn_or, ↓dn_not, ↓dn_cite, ↓dn_ec, ↓dn_ei, ↓dn_skip, ↓dn_seq, ↓dn_set, ↓dn_inc, ↓dn_putf, ↓dn_putz, ↓dn_ast, ↓dn_exp, ↓dn_if, ↓dn_ret, ↓dn_retz, ↓dn_retv, ↓dn_brk, ↓dn_cont, ↓dn_cs, ↓dn_sw, ↓dn_pop32, ↓dn_pop64, ↓dn_aop, ↓dn_call, ↓dn_max, ↓dn_min, ↓dn_acp, ↓dn_i2l, ↓dn_args0, ↓dn_args1, og_pad, og_ent, og_rlt, og_rle, og_rgt, og_rge, og_req, og_rne, og_padd, og_psub, og_pmul, List.getD_cons_zero, List.getD_cons_succ, List.set_cons_zero, List.set_cons_succ, List.length_cons, List.length_nil, List.cons_append, List.nil_append, List.replicate, List.append_nil, Nat.reduceAdd, Nat.reduceSub, Nat.reduceEqDiff, if_true, if_false, reduceIte, Int.reduceAdd, Int.reduceSub, Int.reduceMul, Int.reduceNeg, Int.reduceLT, Int.reduceLE, Int.cast_ofNat_Int, true_or, or_true, true_and, and_true, false_and, List.mem_cons, List.not_mem_nil, or_false, false_or, ne_eq]
  have bad : ∀ h1 : Hp, frS h h1 → onB A X = false → m_OG_refuse [0, 5] (og_up h1 1 1 0) (fun _ h2 => K 0 h2) := fun h1 hS hb => c_refuse (by decide) hn (relC_tape (v := 0) xb.1.1 (relC_S hr hS)) (okX_tape0 hx) (fun h2 hr2 => hK0 hb h2 hr2)
  refine c_isImage hr.1 ho ht xb ⟨fun a => ?_, fun a => ?_⟩
  · have a := iteP1 a
    refine c_readImage hr.1 ho ht xb a.1 (fun h1 hy1 hf1 => ⟨fun b => ?_, fun b => ?_⟩)
    · have b := ite10 b
      have hb : onB A X = true := by unfold onB; rw [b]; simp [a]
      have hk := on_ok ho xb.2 hb
      refine ⟨fun _ => ?_, fun z => absurd z (by decide)⟩
      have hr1 := relC_tape (v := 0) xb.1.1 (relC_S hr (frS_Y hf1))
      refine s_Yard_become (by omega) (isY_fr hy1 (fun i k a b => og_up_i (by omega))) hk.1 (fun h2 hy2 hf2 => ?_)
      unfold m_Past_forget
      simp -implicitDefEqProofs only [↓dn_den, ↓dn_loc, ↓dn_k, ↓dn_add, ↓dn_sub, ↓dn_mul, ↓dn_div, ↓dn_rem, ↓dn_bop, ↓dn_ladd, ↓dn_lsub, ↓dn_lmul, ↓dn_ldiv, ↓dn_lrem, ↓dn_land, ↓dn_l2i, ↓dn_neg, ↓dn_get, ↓dn_fix, ↓dn_ald, ↓dn_gld, ↓dn_yld, ↓dn_len, ↓dn_gln, ↓dn_cc, ↓dn_cb, ↓dn_and, ↓dn_or, ↓dn_not, ↓dn_cite, ↓dn_ec, ↓dn_ei, ↓dn_skip, ↓dn_seq, ↓dn_set, ↓dn_inc, ↓dn_putf, ↓dn_putz, ↓dn_ast, ↓dn_exp, ↓dn_if, ↓dn_ret, ↓dn_retz, ↓dn_retv, ↓dn_brk, ↓dn_cont, ↓dn_cs, ↓dn_sw, ↓dn_pop32, ↓dn_pop64, ↓dn_aop, ↓dn_call, ↓dn_max, ↓dn_min, ↓dn_acp, ↓dn_i2l, ↓dn_args0, ↓dn_args1, og_pad, og_ent, og_rlt, og_rle, og_rgt, og_rge, og_req, og_rne, og_padd, og_psub, og_pmul, List.getD_cons_zero, List.getD_cons_succ, List.set_cons_zero, List.set_cons_succ, List.length_cons, List.length_nil, List.cons_append, List.nil_append, List.replicate, List.append_nil, Nat.reduceAdd, Nat.reduceSub, Nat.reduceEqDiff, if_true, if_false, reduceIte, Int.reduceAdd, Int.reduceSub, Int.reduceMul, Int.reduceNeg, Int.reduceLT, Int.reduceLE, Int.cast_ofNat_Int, true_or, or_true, true_and, and_true, false_and, List.mem_cons, List.not_mem_nil, or_false, false_or, ne_eq]
      have f3 : ∀ i k, ¬ (i = 20 ∧ k = 1) → og_up h2 20 1 0 i k = h2 i k := fun i k z => by unfold og_up; exact if_neg z
      refine hK1 hb _ ⟨isY_fr hy2 (fun i k a b => f3 i k (by omega)), ⟨⟨og_up_eq, by simp, ?_, ?_⟩, fun j hj => by simp at hj⟩, ?_, fun i k hi => ?_⟩
      · rw [f3 _ _ (by omega), hf2 _ _ (by decide) (by decide) (by decide)]; exact hr1.2.1.1.2.2.1
      · rw [f3 _ _ (by omega), hf2 _ _ (by decide) (by decide) (by decide)]; exact hr1.2.1.1.2.2.2
      · rw [onA_0.1, onA_0.2.1]
        exact restC_fr hr1.2.2.1 (fun i k hi => by rw [f3 i k (by omega), hf2 i k (by omega) (by omega) (by omega)])
      · rw [f3 i k (by omega), hf2 i k (by omega) (by omega) (by omega)]; exact hr1.2.2.2 i k hi
    · have b := ite00 b
      have hb : onB A X = false := by unfold onB; rw [b, Bool.and_false]
      exact ⟨fun z => absurd (by trivial) z, fun _ => bad h1 (frS_Y hf1) hb⟩
  · have a := iteP0 a
    have hb : onB A X = false := by
      unfold onB
      by_cases z : X 0 1 = imS A + 1
      · have z2 : ¬ X 2 (imS A) = mxN (X 2) (imS A).toNat := fun q => a ⟨z, q⟩
        simp [z2]
      · simp [z]
    exact ⟨fun z => absurd (by trivial) z, fun _ => bad h frS_rf hb⟩
end
end
