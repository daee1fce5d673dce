theorem ite10 {b : Bool} (h : ¬ (if b = true then (1 : Int) else 0) = 0) : b = true := by cases b <;> simp at h ⊢
theorem ite00 {b : Bool} (h : (if b = true then (1 : Int) else 0) = 0) : b = false := by cases b <;> simp at h ⊢
theorem iteP1 {p : Prop} {_ : Decidable p} (h : ¬ (if p then (1 : Int) else 0) = 0) : p := by by_cases q : p; exact q; rw [if_neg q] at h; exact absurd rfl h
theorem iteP0 {p : Prop} {_ : Decidable p} (h : (if p then (1 : Int) else 0) = 0) : ¬ p := by intro q; rw [if_pos q] at h; exact absurd h (by decide)
section
variable {h : Hp} {A : Yd} {P : Pr} {K : Int → Hp → Prop}
theorem r_comes1 {p : Int} (hR : hasM h P) (hP : okQ P) (hn : isN h A) (ho : okY A) (hk : okK A) (hp0 : 0 ≤ p) (hp1 : p < A 0 1)
    (hK : ∀ h', isN h' (sCome1 P A p) → frM h h' → h' 1000 52 = h 1000 52 → h' 1000 54 = h 1000 54 → K 0 h') : m_Model_comes [1000, p] h K := by
  have h6 := ho.1
  have hm := hn.1
  unfold m_Model_comes
  simp only [og_den, og_pad, og_ent, og_loc, og_k, og_add, og_sub, og_mul, og_div, og_rem, og_bop, og_ladd, og_lsub, og_lmul, og_ldiv, og_lrem, og_land, og_i2l, og_l2i, og_neg, og_get, og_fix, og_ald, og_gld, og_yld, og_len, og_gln, og_cc, og_cb, og_and, og_or, og_not, og_cite, og_ec, og_ei, og_rlt, og_rle, og_rgt, og_rge, og_req, og_rne, og_skip, og_seq, og_set, og_inc, og_putf, og_putz, og_ast, og_exp, og_if, og_ret, og_retz, og_retv, og_brk, og_cont, og_cs, og_sw, og_pop32, og_pop64, og_aop, og_padd, og_psub, og_pmul, og_call, og_args, og_max, og_min, og_acp, List.getD_cons_zero, List.getD_cons_succ, List.set_cons_zero, List.set_cons_succ, List.length_cons, List.length_nil, List.cons_append, List.nil_append, List.replicate, List.append_nil, Nat.reduceAdd, Nat.reduceSub, Nat.reduceEqDiff, if_true, if_false, reduceIte, Int.reduceAdd, Int.reduceSub, Int.reduceMul, Int.reduceNeg, Int.reduceLT, Int.reduceLE, Int.cast_ofNat_Int, true_or, or_true, true_and, and_true, false_and, List.mem_cons, List.not_mem_nil, or_false, false_or, ne_eq]
  sorry
theorem r_comes2 {p : Int} (hR : hasM h P) (hP : okQ P) (hn : isN h A) (ho : okY A) (hk : okK A) (hp0 : 0 ≤ p) (hp1 : p < A 0 1)
    (hK : ∀ h', isN h' (sCome1 P A p) → frM h h' → h' 1000 52 = h 1000 52 → h' 1000 54 = h 1000 54 → K 0 h') : m_Model_comes [1000, p] h K := by
  have h6 := ho.1
  have hm := hn.1
  unfold m_Model_comes
  simp only [og_den, og_pad, og_ent, og_loc, og_k, og_add, og_sub, og_mul, og_div, og_rem, og_bop, og_ladd, og_lsub, og_lmul, og_ldiv, og_lrem, og_land, og_i2l, og_l2i, og_neg, og_get, og_fix, og_ald, og_gld, og_yld, og_len, og_gln, og_cc, og_cb, og_and, og_or, og_not, og_cite, og_ec, og_ei, og_rlt, og_rle, og_rgt, og_rge, og_req, og_rne, og_skip, og_seq, og_set, og_inc, og_putf, og_putz, og_ast, og_exp, og_if, og_ret, og_retz, og_retv, og_brk, og_cont, og_cs, og_sw, og_pop32, og_pop64, og_aop, og_padd, og_psub, og_pmul, og_call, og_args, og_max, og_min, og_acp, List.getD_cons_zero, List.getD_cons_succ, List.set_cons_zero, List.set_cons_succ, List.length_cons, List.length_nil, List.cons_append, List.nil_append, List.replicate, List.append_nil, Nat.reduceAdd, Nat.reduceSub, Nat.reduceEqDiff, if_true, if_false, reduceIte, Int.reduceAdd, Int.reduceSub, Int.reduceMul, Int.reduceNeg, Int.reduceLT, Int.reduceLE, Int.cast_ofNat_Int, true_or, or_true, true_and, and_true, false_and, List.mem_cons, List.not_mem_nil, or_false, false_or, ne_eq]
  apply r_isAlive hm ho hp0 hp1
  refine ⟨fun hx => ?_, fun hx => ?_⟩
  · have hl : sLive A p = true := ite10 hx
    refine r_doesCome hR hP hm ⟨ho, hp0, hp1⟩ (fun h1 hf => ?_)
    have hN1 := isN_E hn hf
    sorry
  · sorry
end
