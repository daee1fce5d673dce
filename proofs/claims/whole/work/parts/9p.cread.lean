section
-- the class: a parish's text whole
def fuP (R : Pr) : Pr := fun r => if R r = [] then dflt (r - 8) else R r
def pSg (B : Int → Int) (n x a : Int) : Option (Int × Int) := if sgn B n a = x then none else some (1, tS B n a)
section
variable {h h0 h' : Hp} {B : Int → Int} {n a p s : Int} {t : TS} {K : Int → Hp → Prop} {D : Yd} {R : Pr} {c : List Int}
theorem w_takeSign {x : Int} (hx : 0 ≤ x) (ht : txC h B n) (hk : tkC h B n t) (hK : ∀ h', tkC h' B n (tb B n t (pSg B n x)) → (∀ i k, i ≠ 3 → h' i k = h i k) → K 0 h') : m_Tokens_takeSign [3, x] h K := by
  unfold m_Tokens_takeSign
  simp -implicitDefEqProofs only [↓dn_den, ↓dn_loc, ↓dn_k, ↓dn_add, ↓dn_sub, ↓dn_mul, ↓dn_div, ↓dn_rem, ↓dn_bop, ↓dn_ladd, ↓dn_lsub, ↓dn_lmul, ↓dn_ldiv, ↓dn_lrem, ↓dn_land, ↓dn_l2i, ↓dn_neg, ↓dn_get, ↓dn_fix, ↓dn_ald, ↓dn_gld, ↓dn_yld, ↓dn_len, ↓dn_gln, ↓dn_cc, ↓dn_cb, ↓dn_and, ↓dn_or, ↓dn_not, ↓dn_cite, ↓dn_ec, ↓dn_ei, ↓dn_skip, ↓dn_seq, ↓dn_set, ↓dn_inc, ↓dn_putf, ↓dn_putz, ↓dn_ast, ↓dn_exp, ↓dn_if, ↓dn_ret, ↓dn_retz, ↓dn_retv, ↓dn_brk, ↓dn_cont, ↓dn_cs, ↓dn_sw, ↓dn_pop32, ↓dn_pop64, ↓dn_aop, ↓dn_call, ↓dn_max, ↓dn_min, ↓dn_acp, ↓dn_i2l, ↓dn_args0, ↓dn_args1, og_pad, og_ent, og_rlt, og_rle, og_rgt, og_rge, og_req, og_rne, og_padd, og_psub, og_pmul, List.getD_cons_zero, List.getD_cons_succ, List.set_cons_zero, List.set_cons_succ, List.length_cons, List.length_nil, List.cons_append, List.nil_append, List.replicate, List.append_nil, Nat.reduceAdd, Nat.reduceSub, Nat.reduceEqDiff, if_true, if_false, reduceIte, Int.reduceAdd, Int.reduceSub, Int.reduceMul, Int.reduceNeg, Int.reduceLT, Int.reduceLE, Int.cast_ofNat_Int, true_or, or_true, true_and, and_true, false_and, List.mem_cons, List.not_mem_nil, or_false, false_or, ne_eq]
  refine k_isSign ?_
  cases t with
  | inr z =>
    obtain ⟨z1, z2, z3, z4⟩ := hk
    rw [if_neg (by rw [z4]; omega)]
    refine ⟨fun q => absurd (by trivial) q, fun _ => k_failF (by rw [z1]; exact z3) (hK h ⟨z1, z2, z3, z4⟩ (fun _ _ _ => rfl))⟩
  | inl a =>
    have hi := sg_iff (B := B) (n := n) (a := a) hx hk
    unfold tb pSg at hK
    dsimp only at hK
    by_cases q : sgn B n a = x
    · rw [if_pos (hi.mpr q)]
      rw [if_pos q] at hK
      exact ⟨fun _ => w_step ht hk hK, fun z => absurd z (by decide)⟩
    · rw [if_neg (fun z => q (hi.mp z))]
      rw [if_neg q] at hK
      exact ⟨fun z => absurd (by trivial) z, fun _ => w_fail (by decide) hk hK⟩
theorem w_addN {v : Int} (hb : 0 ≤ h s 3 ∧ h s 3 ≤ 1620) (hs : s = 32 ∨ s = 42) (hK : ∀ h', (0 ≤ h' s 3 ∧ h' s 3 ≤ 1620) → (∀ c, scr h s c → c.length < 1620 → scr h' s (c ++ [v])) → (∀ i k, i ≠ s + 1 → ¬ (i = s ∧ k = 3) → h' i k = h i k) → K 0 h') : m_Script_addNumber [s, v] h K :=
  k_addNumber hb hs (fun h1 a1 b1 f1 => hK h1 b1 (fun c hc hl => by
    have e := hc.1
    have a1 := a1 (by omega)
    exact scr_add hc a1.1 a1.2.1 a1.2.2) f1)
theorem w_addD {v : Int} (hv : 0 ≤ v ∧ v ≤ 100) (hb : 0 ≤ h s 3 ∧ h s 3 ≤ 1620) (hs : s = 32 ∨ s = 42) (hK : ∀ h', (0 ≤ h' s 3 ∧ h' s 3 ≤ 1620) → (∀ c, scr h s c → c.length < 1620 → scr h' s (c ++ [-1 - v])) → (∀ i k, i ≠ s + 1 → ¬ (i = s ∧ k = 3) → h' i k = h i k) → K 0 h') : m_Script_addDeed [s, v] h K := by
  unfold m_Script_addDeed
  simp -implicitDefEqProofs only [↓dn_den, ↓dn_loc, ↓dn_k, ↓dn_add, ↓dn_sub, ↓dn_mul, ↓dn_div, ↓dn_rem, ↓dn_bop, ↓dn_ladd, ↓dn_lsub, ↓dn_lmul, ↓dn_ldiv, ↓dn_lrem, ↓dn_land, ↓dn_l2i, ↓dn_neg, ↓dn_get, ↓dn_fix, ↓dn_ald, ↓dn_gld, ↓dn_yld, ↓dn_len, ↓dn_gln, ↓dn_cc, ↓dn_cb, ↓dn_and, ↓dn_or, ↓dn_not, ↓dn_cite, ↓dn_ec, ↓dn_ei, ↓dn_skip, ↓dn_seq, ↓dn_set, ↓dn_inc, ↓dn_putf, ↓dn_putz, ↓dn_ast, ↓dn_exp, ↓dn_if, ↓dn_ret, ↓dn_retz, ↓dn_retv, ↓dn_brk, ↓dn_cont, ↓dn_cs, ↓dn_sw, ↓dn_pop32, ↓dn_pop64, ↓dn_aop, ↓dn_call, ↓dn_max, ↓dn_min, ↓dn_acp, ↓dn_i2l, ↓dn_args0, ↓dn_args1, og_pad, og_ent, og_rlt, og_rle, og_rgt, og_rge, og_req, og_rne, og_padd, og_psub, og_pmul, List.getD_cons_zero, List.getD_cons_succ, List.set_cons_zero, List.set_cons_succ, List.length_cons, List.length_nil, List.cons_append, List.nil_append, List.replicate, List.append_nil, Nat.reduceAdd, Nat.reduceSub, Nat.reduceEqDiff, if_true, if_false, reduceIte, Int.reduceAdd, Int.reduceSub, Int.reduceMul, Int.reduceNeg, Int.reduceLT, Int.reduceLE, Int.cast_ofNat_Int, true_or, or_true, true_and, and_true, false_and, List.mem_cons, List.not_mem_nil, or_false, false_or, ne_eq, og_i32]
  exact ⟨by omega, w_addN hb hs hK⟩
theorem w_addJoined {x y z : Int} (hz : 0 ≤ z ∧ z ≤ 100) (hb : 0 ≤ h (p + 2) 3 ∧ h (p + 2) 3 ≤ 1620) (hp : p = 30 ∨ p = 40) (hK : ∀ h', (0 ≤ h' (p + 2) 3 ∧ h' (p + 2) 3 ≤ 1620) → (∀ c, scr h (p + 2) c → c.length + 3 ≤ 1620 → scr h' (p + 2) (c ++ [x, y, -1 - z])) → (∀ i k, i ≠ p + 2 + 1 → ¬ (i = p + 2 ∧ k = 3) → h' i k = h i k) → K 0 h') : m_Parish_addJoined [p, x, y, z] h K := by
  unfold m_Parish_addJoined
  simp -implicitDefEqProofs only [↓dn_den, ↓dn_loc, ↓dn_k, ↓dn_add, ↓dn_sub, ↓dn_mul, ↓dn_div, ↓dn_rem, ↓dn_bop, ↓dn_ladd, ↓dn_lsub, ↓dn_lmul, ↓dn_ldiv, ↓dn_lrem, ↓dn_land, ↓dn_l2i, ↓dn_neg, ↓dn_get, ↓dn_fix, ↓dn_ald, ↓dn_gld, ↓dn_yld, ↓dn_len, ↓dn_gln, ↓dn_cc, ↓dn_cb, ↓dn_and, ↓dn_or, ↓dn_not, ↓dn_cite, ↓dn_ec, ↓dn_ei, ↓dn_skip, ↓dn_seq, ↓dn_set, ↓dn_inc, ↓dn_putf, ↓dn_putz, ↓dn_ast, ↓dn_exp, ↓dn_if, ↓dn_ret, ↓dn_retz, ↓dn_retv, ↓dn_brk, ↓dn_cont, ↓dn_cs, ↓dn_sw, ↓dn_pop32, ↓dn_pop64, ↓dn_aop, ↓dn_call, ↓dn_max, ↓dn_min, ↓dn_acp, ↓dn_i2l, ↓dn_args0, ↓dn_args1, og_pad, og_ent, og_rlt, og_rle, og_rgt, og_rge, og_req, og_rne, og_padd, og_psub, og_pmul, List.getD_cons_zero, List.getD_cons_succ, List.set_cons_zero, List.set_cons_succ, List.length_cons, List.length_nil, List.cons_append, List.nil_append, List.replicate, List.append_nil, Nat.reduceAdd, Nat.reduceSub, Nat.reduceEqDiff, if_true, if_false, reduceIte, Int.reduceAdd, Int.reduceSub, Int.reduceMul, Int.reduceNeg, Int.reduceLT, Int.reduceLE, Int.cast_ofNat_Int, true_or, or_true, true_and, and_true, false_and, List.mem_cons, List.not_mem_nil, or_false, false_or, ne_eq]
  refine w_addN hb (by omega) (fun h1 b1 c1 f1 => w_addN b1 (by omega) (fun h2 b2 c2 f2 => w_addD hz b2 (by omega) (fun h3 b3 c3 f3 => hK h3 b3 (fun c hc hl => ?_) (fun i k p q => by rw [f3 i k p q, f2 i k p q, f1 i k p q]))))
  have r := c3 _ (c2 _ (c1 c hc (by omega)) (by rw [List.length_append]; simp; omega)) (by rw [List.length_append, List.length_append]; simp; omega)
  simpa only [List.append_assoc, List.cons_append, List.nil_append] using r
theorem dflt_len (w : Int) : dflt w ≠ [] ∧ (dflt w).length ≤ 3 := by
  unfold dflt
  repeat' split
  all_goals exact ⟨by simp, by simp⟩
theorem w_addUsual {r : Int} (hr : 8 ≤ r ∧ r ≤ 12) (hb : 0 ≤ h (p + 2) 3 ∧ h (p + 2) 3 ≤ 1620) (hp : p = 30 ∨ p = 40) (hK : ∀ h', (0 ≤ h' (p + 2) 3 ∧ h' (p + 2) 3 ≤ 1620) → (∀ c, scr h (p + 2) c → c.length + 3 ≤ 1620 → scr h' (p + 2) (c ++ dflt (r - 8))) → (∀ i k, i ≠ p + 2 + 1 → ¬ (i = p + 2 ∧ k = 3) → h' i k = h i k) → K 0 h') : m_Parish_addUsualRule [p, r] h K := by
  have hc : r = 8 ∨ r = 9 ∨ r = 10 ∨ r = 11 ∨ r = 12 := by omega
  unfold m_Parish_addUsualRule
  rcases hc with rfl | rfl | rfl | rfl | rfl
  · simp -implicitDefEqProofs only [↓dn_den, ↓dn_loc, ↓dn_k, ↓dn_add, ↓dn_sub, ↓dn_mul, ↓dn_div, ↓dn_rem, ↓dn_bop, ↓dn_ladd, ↓dn_lsub, ↓dn_lmul, ↓dn_ldiv, ↓dn_lrem, ↓dn_land, ↓dn_l2i, ↓dn_neg, ↓dn_get, ↓dn_fix, ↓dn_ald, ↓dn_gld, ↓dn_yld, ↓dn_len, ↓dn_gln, ↓dn_cc, ↓dn_cb, ↓dn_and, ↓dn_or, ↓dn_not, ↓dn_cite, ↓dn_ec, ↓dn_ei, ↓dn_skip, ↓dn_seq, ↓dn_set, ↓dn_inc, ↓dn_putf, ↓dn_putz, ↓dn_ast, ↓dn_exp, ↓dn_if, ↓dn_ret, ↓dn_retz, ↓dn_retv, ↓dn_brk, ↓dn_cont, ↓dn_cs, ↓dn_sw, ↓dn_pop32, ↓dn_pop64, ↓dn_aop, ↓dn_call, ↓dn_max, ↓dn_min, ↓dn_acp, ↓dn_i2l, ↓dn_args0, ↓dn_args1, og_pad, og_ent, og_rlt, og_rle, og_rgt, og_rge, og_req, og_rne, og_padd, og_psub, og_pmul, List.getD_cons_zero, List.getD_cons_succ, List.set_cons_zero, List.set_cons_succ, List.length_cons, List.length_nil, List.cons_append, List.nil_append, List.replicate, List.append_nil, Nat.reduceAdd, Nat.reduceSub, Nat.reduceEqDiff, if_true, if_false, reduceIte, Int.reduceAdd, Int.reduceSub, Int.reduceMul, Int.reduceNeg, Int.reduceLT, Int.reduceLE, Int.cast_ofNat_Int, true_or, or_true, true_and, and_true, false_and, List.mem_cons, List.not_mem_nil, or_false, false_or, ne_eq]
    simp
    exact w_addJoined (by decide) hb hp hK
  · simp -implicitDefEqProofs only [↓dn_den, ↓dn_loc, ↓dn_k, ↓dn_add, ↓dn_sub, ↓dn_mul, ↓dn_div, ↓dn_rem, ↓dn_bop, ↓dn_ladd, ↓dn_lsub, ↓dn_lmul, ↓dn_ldiv, ↓dn_lrem, ↓dn_land, ↓dn_l2i, ↓dn_neg, ↓dn_get, ↓dn_fix, ↓dn_ald, ↓dn_gld, ↓dn_yld, ↓dn_len, ↓dn_gln, ↓dn_cc, ↓dn_cb, ↓dn_and, ↓dn_or, ↓dn_not, ↓dn_cite, ↓dn_ec, ↓dn_ei, ↓dn_skip, ↓dn_seq, ↓dn_set, ↓dn_inc, ↓dn_putf, ↓dn_putz, ↓dn_ast, ↓dn_exp, ↓dn_if, ↓dn_ret, ↓dn_retz, ↓dn_retv, ↓dn_brk, ↓dn_cont, ↓dn_cs, ↓dn_sw, ↓dn_pop32, ↓dn_pop64, ↓dn_aop, ↓dn_call, ↓dn_max, ↓dn_min, ↓dn_acp, ↓dn_i2l, ↓dn_args0, ↓dn_args1, og_pad, og_ent, og_rlt, og_rle, og_rgt, og_rge, og_req, og_rne, og_padd, og_psub, og_pmul, List.getD_cons_zero, List.getD_cons_succ, List.set_cons_zero, List.set_cons_succ, List.length_cons, List.length_nil, List.cons_append, List.nil_append, List.replicate, List.append_nil, Nat.reduceAdd, Nat.reduceSub, Nat.reduceEqDiff, if_true, if_false, reduceIte, Int.reduceAdd, Int.reduceSub, Int.reduceMul, Int.reduceNeg, Int.reduceLT, Int.reduceLE, Int.cast_ofNat_Int, true_or, or_true, true_and, and_true, false_and, List.mem_cons, List.not_mem_nil, or_false, false_or, ne_eq]
    simp
    exact w_addJoined (by decide) hb hp hK
  · simp -implicitDefEqProofs only [↓dn_den, ↓dn_loc, ↓dn_k, ↓dn_add, ↓dn_sub, ↓dn_mul, ↓dn_div, ↓dn_rem, ↓dn_bop, ↓dn_ladd, ↓dn_lsub, ↓dn_lmul, ↓dn_ldiv, ↓dn_lrem, ↓dn_land, ↓dn_l2i, ↓dn_neg, ↓dn_get, ↓dn_fix, ↓dn_ald, ↓dn_gld, ↓dn_yld, ↓dn_len, ↓dn_gln, ↓dn_cc, ↓dn_cb, ↓dn_and, ↓dn_or, ↓dn_not, ↓dn_cite, ↓dn_ec, ↓dn_ei, ↓dn_skip, ↓dn_seq, ↓dn_set, ↓dn_inc, ↓dn_putf, ↓dn_putz, ↓dn_ast, ↓dn_exp, ↓dn_if, ↓dn_ret, ↓dn_retz, ↓dn_retv, ↓dn_brk, ↓dn_cont, ↓dn_cs, ↓dn_sw, ↓dn_pop32, ↓dn_pop64, ↓dn_aop, ↓dn_call, ↓dn_max, ↓dn_min, ↓dn_acp, ↓dn_i2l, ↓dn_args0, ↓dn_args1, og_pad, og_ent, og_rlt, og_rle, og_rgt, og_rge, og_req, og_rne, og_padd, og_psub, og_pmul, List.getD_cons_zero, List.getD_cons_succ, List.set_cons_zero, List.set_cons_succ, List.length_cons, List.length_nil, List.cons_append, List.nil_append, List.replicate, List.append_nil, Nat.reduceAdd, Nat.reduceSub, Nat.reduceEqDiff, if_true, if_false, reduceIte, Int.reduceAdd, Int.reduceSub, Int.reduceMul, Int.reduceNeg, Int.reduceLT, Int.reduceLE, Int.cast_ofNat_Int, true_or, or_true, true_and, and_true, false_and, List.mem_cons, List.not_mem_nil, or_false, false_or, ne_eq]
    simp
    exact w_addD (by decide) hb (by omega) (fun h1 b1 c1 f1 => hK h1 b1 (fun c hc hl => c1 c hc (by omega)) f1)
  · simp -implicitDefEqProofs only [↓dn_den, ↓dn_loc, ↓dn_k, ↓dn_add, ↓dn_sub, ↓dn_mul, ↓dn_div, ↓dn_rem, ↓dn_bop, ↓dn_ladd, ↓dn_lsub, ↓dn_lmul, ↓dn_ldiv, ↓dn_lrem, ↓dn_land, ↓dn_l2i, ↓dn_neg, ↓dn_get, ↓dn_fix, ↓dn_ald, ↓dn_gld, ↓dn_yld, ↓dn_len, ↓dn_gln, ↓dn_cc, ↓dn_cb, ↓dn_and, ↓dn_or, ↓dn_not, ↓dn_cite, ↓dn_ec, ↓dn_ei, ↓dn_skip, ↓dn_seq, ↓dn_set, ↓dn_inc, ↓dn_putf, ↓dn_putz, ↓dn_ast, ↓dn_exp, ↓dn_if, ↓dn_ret, ↓dn_retz, ↓dn_retv, ↓dn_brk, ↓dn_cont, ↓dn_cs, ↓dn_sw, ↓dn_pop32, ↓dn_pop64, ↓dn_aop, ↓dn_call, ↓dn_max, ↓dn_min, ↓dn_acp, ↓dn_i2l, ↓dn_args0, ↓dn_args1, og_pad, og_ent, og_rlt, og_rle, og_rgt, og_rge, og_req, og_rne, og_padd, og_psub, og_pmul, List.getD_cons_zero, List.getD_cons_succ, List.set_cons_zero, List.set_cons_succ, List.length_cons, List.length_nil, List.cons_append, List.nil_append, List.replicate, List.append_nil, Nat.reduceAdd, Nat.reduceSub, Nat.reduceEqDiff, if_true, if_false, reduceIte, Int.reduceAdd, Int.reduceSub, Int.reduceMul, Int.reduceNeg, Int.reduceLT, Int.reduceLE, Int.cast_ofNat_Int, true_or, or_true, true_and, and_true, false_and, List.mem_cons, List.not_mem_nil, or_false, false_or, ne_eq]
    simp
    exact w_addD (by decide) hb (by omega) (fun h1 b1 c1 f1 => hK h1 b1 (fun c hc hl => c1 c hc (by omega)) f1)
  · simp -implicitDefEqProofs only [↓dn_den, ↓dn_loc, ↓dn_k, ↓dn_add, ↓dn_sub, ↓dn_mul, ↓dn_div, ↓dn_rem, ↓dn_bop, ↓dn_ladd, ↓dn_lsub, ↓dn_lmul, ↓dn_ldiv, ↓dn_lrem, ↓dn_land, ↓dn_l2i, ↓dn_neg, ↓dn_get, ↓dn_fix, ↓dn_ald, ↓dn_gld, ↓dn_yld, ↓dn_len, ↓dn_gln, ↓dn_cc, ↓dn_cb, ↓dn_and, ↓dn_or, ↓dn_not, ↓dn_cite, ↓dn_ec, ↓dn_ei, ↓dn_skip, ↓dn_seq, ↓dn_set, ↓dn_inc, ↓dn_putf, ↓dn_putz, ↓dn_ast, ↓dn_exp, ↓dn_if, ↓dn_ret, ↓dn_retz, ↓dn_retv, ↓dn_brk, ↓dn_cont, ↓dn_cs, ↓dn_sw, ↓dn_pop32, ↓dn_pop64, ↓dn_aop, ↓dn_call, ↓dn_max, ↓dn_min, ↓dn_acp, ↓dn_i2l, ↓dn_args0, ↓dn_args1, og_pad, og_ent, og_rlt, og_rle, og_rgt, og_rge, og_req, og_rne, og_padd, og_psub, og_pmul, List.getD_cons_zero, List.getD_cons_succ, List.set_cons_zero, List.set_cons_succ, List.length_cons, List.length_nil, List.cons_append, List.nil_append, List.replicate, List.append_nil, Nat.reduceAdd, Nat.reduceSub, Nat.reduceEqDiff, if_true, if_false, reduceIte, Int.reduceAdd, Int.reduceSub, Int.reduceMul, Int.reduceNeg, Int.reduceLT, Int.reduceLE, Int.cast_ofNat_Int, true_or, or_true, true_and, and_true, false_and, List.mem_cons, List.not_mem_nil, or_false, false_or, ne_eq]
    simp
    exact w_addJoined (by decide) hb hp hK
theorem rulC_ext {R' : Pr} (hr : rulC h s c R) (he : ∀ r, 8 ≤ r → r ≤ 12 → R' r = R r) : rulC h s c R' := fun r r0 r1 => by
  rw [he r r0 r1]
  exact hr r r0 r1
def fuI (R : Pr) (i : Int) : Pr := fun r => if r < 8 + i ∧ R r = [] then dflt (r - 8) else R r
theorem w_missing (hb : 0 ≤ h (p + 2) 3 ∧ h (p + 2) 3 ≤ 1620) (hp : p = 30 ∨ p = 40) (hK : ∀ h', (∀ c R, scr h (p + 2) c → c.length ≤ 1600 → rulC h (p + 2) c R → ∃ c', c'.length ≤ c.length + 15 ∧ scr h' (p + 2) c' ∧ rulC h' (p + 2) c' (fuP R)) → (∀ i k, ¬ (p + 2 ≤ i ∧ i ≤ p + 5) → h' i k = h i k) → K 0 h') : m_Parish_addMissingRules [p] h K := by
  unfold m_Parish_addMissingRules
  simp -implicitDefEqProofs only [↓dn_den, ↓dn_loc, ↓dn_k, ↓dn_add, ↓dn_sub, ↓dn_mul, ↓dn_div, ↓dn_rem, ↓dn_bop, ↓dn_ladd, ↓dn_lsub, ↓dn_lmul, ↓dn_ldiv, ↓dn_lrem, ↓dn_land, ↓dn_l2i, ↓dn_neg, ↓dn_get, ↓dn_fix, ↓dn_ald, ↓dn_gld, ↓dn_yld, ↓dn_len, ↓dn_gln, ↓dn_cc, ↓dn_cb, ↓dn_and, ↓dn_or, ↓dn_not, ↓dn_cite, ↓dn_ec, ↓dn_ei, ↓dn_skip, ↓dn_seq, ↓dn_set, ↓dn_inc, ↓dn_putf, ↓dn_putz, ↓dn_ast, ↓dn_exp, ↓dn_if, ↓dn_ret, ↓dn_retz, ↓dn_retv, ↓dn_brk, ↓dn_cont, ↓dn_cs, ↓dn_sw, ↓dn_pop32, ↓dn_pop64, ↓dn_aop, ↓dn_call, ↓dn_max, ↓dn_min, ↓dn_acp, ↓dn_i2l, ↓dn_args0, ↓dn_args1, og_pad, og_ent, og_rlt, og_rle, og_rgt, og_rge, og_req, og_rne, og_padd, og_psub, og_pmul, List.getD_cons_zero, List.getD_cons_succ, List.set_cons_zero, List.set_cons_succ, List.length_cons, List.length_nil, List.cons_append, List.nil_append, List.replicate, List.append_nil, Nat.reduceAdd, Nat.reduceSub, Nat.reduceEqDiff, if_true, if_false, reduceIte, Int.reduceAdd, Int.reduceSub, Int.reduceMul, Int.reduceNeg, Int.reduceLT, Int.reduceLE, Int.cast_ofNat_Int, true_or, or_true, true_and, and_true, false_and, List.mem_cons, List.not_mem_nil, or_false, false_or, ne_eq]
  refine og_loop 5 (fun i e1 h1 => e1 = [p, 8 + (i : Int)] ∧ (0 ≤ h1 (p + 2) 3 ∧ h1 (p + 2) 3 ≤ 1620) ∧ (∀ j k, ¬ (p + 2 ≤ j ∧ j ≤ p + 5) → h1 j k = h j k) ∧ (∀ c R, scr h (p + 2) c → c.length ≤ 1600 → rulC h (p + 2) c R → ∃ c', c'.length ≤ c.length + 3 * i ∧ scr h1 (p + 2) c' ∧ rulC h1 (p + 2) c' (fuI R i))) ⟨rfl, hb, fun _ _ _ => rfl, fun c R h1 h2 h3 => ⟨c, by omega, h1, rulC_ext h3 (fun r r0 r1 => ?_)⟩⟩ ?_
  · unfold fuI
    rw [if_neg (fun z => by have := z.1; omega)]
  rintro i e1 h1 hi ⟨rfl, b1, f1, g1⟩
  simp -implicitDefEqProofs only [↓dn_den, ↓dn_loc, ↓dn_k, ↓dn_add, ↓dn_sub, ↓dn_mul, ↓dn_div, ↓dn_rem, ↓dn_bop, ↓dn_ladd, ↓dn_lsub, ↓dn_lmul, ↓dn_ldiv, ↓dn_lrem, ↓dn_land, ↓dn_l2i, ↓dn_neg, ↓dn_get, ↓dn_fix, ↓dn_ald, ↓dn_gld, ↓dn_yld, ↓dn_len, ↓dn_gln, ↓dn_cc, ↓dn_cb, ↓dn_and, ↓dn_or, ↓dn_not, ↓dn_cite, ↓dn_ec, ↓dn_ei, ↓dn_skip, ↓dn_seq, ↓dn_set, ↓dn_inc, ↓dn_putf, ↓dn_putz, ↓dn_ast, ↓dn_exp, ↓dn_if, ↓dn_ret, ↓dn_retz, ↓dn_retv, ↓dn_brk, ↓dn_cont, ↓dn_cs, ↓dn_sw, ↓dn_pop32, ↓dn_pop64, ↓dn_aop, ↓dn_call, ↓dn_max, ↓dn_min, ↓dn_acp, ↓dn_i2l, ↓dn_args0, ↓dn_args1, og_pad, og_ent, og_rlt, og_rle, og_rgt, og_rge, og_req, og_rne, og_padd, og_psub, og_pmul, List.getD_cons_zero, List.getD_cons_succ, List.set_cons_zero, List.set_cons_succ, List.length_cons, List.length_nil, List.cons_append, List.nil_append, List.replicate, List.append_nil, Nat.reduceAdd, Nat.reduceSub, Nat.reduceEqDiff, if_true, if_false, reduceIte, Int.reduceAdd, Int.reduceSub, Int.reduceMul, Int.reduceNeg, Int.reduceLT, Int.reduceLE, Int.cast_ofNat_Int, true_or, or_true, true_and, and_true, false_and, List.mem_cons, List.not_mem_nil, or_false, false_or, ne_eq, og_i32]
  refine ⟨fun q => ?_, fun q => ?_⟩
  · refine w_holds ⟨by omega, by omega⟩ ⟨fun z => ?_, fun z => ?_⟩
    · have z := iteP1 z
      refine ⟨by omega, og_nx_mk (by omega) ⟨by simp; omega, b1, f1, fun c R c1 c2 c3 => ?_⟩⟩
      obtain ⟨c', l', s', r'⟩ := g1 c R c1 c2 c3
      refine ⟨c', by omega, s', rulC_ext r' (fun r r0 r1 => ?_)⟩
      unfold fuI
      by_cases e : r = 8 + i
      · subst e
        have hne : R (8 + (i : Int)) ≠ [] := by
          intro hn
          rcases r' (8 + i) (by omega) (by omega) with ⟨y1, y2, y3⟩ | ⟨y1, -⟩
          · omega
          · exact y1 (by unfold fuI; rw [if_neg (by omega)]; exact hn)
        rw [if_neg (fun y => hne y.2), if_neg (fun y => hne y.2)]
      · by_cases lt : r < 8 + (i : Int)
        · by_cases hn : R r = []
          · rw [if_pos ⟨by omega, hn⟩, if_pos ⟨lt, hn⟩]
          · rw [if_neg (fun y => hn y.2), if_neg (fun y => hn y.2)]
        · rw [if_neg (fun y => by have := y.1; omega), if_neg (fun y => lt y.1)]
    · have z := iteP0 z
      refine w_begin ⟨by omega, by omega⟩ ?_
      have u2 : ∀ j k, ¬ (j = p + 2 + 2 ∧ k = 8 + (i : Int)) → og_up h1 (p + 2 + 2) (8 + (i : Int)) (h1 (p + 2) 3) j k = h1 j k := fun j k q => by unfold og_up; exact if_neg q
      have e2 : og_up h1 (p + 2 + 2) (8 + (i : Int)) (h1 (p + 2) 3) (p + 2 + 2) (8 + (i : Int)) = h1 (p + 2) 3 := og_up_eq
      generalize og_up h1 (p + 2 + 2) (8 + (i : Int)) (h1 (p + 2) 3) = h2 at u2 e2
      refine w_addUsual (r := 8 + (i : Int)) (by omega) (by rw [u2 _ _ (by omega)]; exact b1) hp (fun h3 b3 c3 f3 => ?_)
      refine w_finish ⟨by omega, by omega⟩ ?_
      have u4 : ∀ j k, ¬ (j = p + 2 + 3 ∧ k = 8 + (i : Int)) → og_up h3 (p + 2 + 3) (8 + (i : Int)) (h3 (p + 2) 3) j k = h3 j k := fun j k q => by unfold og_up; exact if_neg q
      have e4 : og_up h3 (p + 2 + 3) (8 + (i : Int)) (h3 (p + 2) 3) (p + 2 + 3) (8 + (i : Int)) = h3 (p + 2) 3 := og_up_eq
      generalize og_up h3 (p + 2 + 3) (8 + (i : Int)) (h3 (p + 2) 3) = h4 at u4 e4
      refine ⟨by omega, og_nx_mk (by omega) ⟨by simp; omega, by rw [u4 _ _ (by omega)]; exact b3, fun j k q => by rw [u4 _ _ (by omega), f3 _ _ (by omega) (by omega), u2 _ _ (by omega)]; exact f1 j k q, fun c R d1 d2 d3 => ?_⟩⟩
      obtain ⟨c', l', s', r'⟩ := g1 c R d1 d2 d3
      have dl := dflt_len (8 + (i : Int) - 8)
      have s2 : scr h2 (p + 2) c' := ⟨by rw [u2 _ _ (by omega)]; exact s'.1, fun j hj => by rw [u2 _ _ (by omega)]; exact s'.2 j hj⟩
      have s3 := c3 c' s2 (by omega)
      have s4 : scr h4 (p + 2) (c' ++ dflt (8 + (i : Int) - 8)) := ⟨by rw [u4 _ _ (by omega)]; exact s3.1, fun j hj => by rw [u4 _ _ (by omega)]; exact s3.2 j hj⟩
      have hn : R (8 + (i : Int)) = [] := by
        rcases r' (8 + i) (by omega) (by omega) with ⟨y1, y2, y3⟩ | ⟨y1, y2, y3, y4, y5, y6⟩
        · unfold fuI at y1
          rw [if_neg (by omega)] at y1
          exact y1
        · have : 0 < (fuI R i (8 + i)).length := List.length_pos_iff.mpr y1
          omega
      have r4 : rulC h4 (p + 2) (c' ++ dflt (8 + (i : Int) - 8)) (fun r => if r = 8 + (i : Int) then dflt (8 + (i : Int) - 8) else fuI R i r) := rulC_put (h := h1) r' dl.1 (by rw [u4 _ _ (by omega), f3 _ _ (by omega) (by omega), e2]; exact s'.1) (by rw [e4]; exact s3.1) (fun j k hj hk => by rw [u4 _ _ (by omega), f3 _ _ (by omega) (by omega), u2 _ _ (by omega)])
      refine ⟨_, by rw [List.length_append]; omega, s4, rulC_ext r4 (fun r r0 r1 => ?_)⟩
      by_cases e : r = 8 + i
      · subst e
        rw [if_pos rfl]
        unfold fuI
        rw [if_pos ⟨by omega, hn⟩]
      · rw [if_neg e]
        unfold fuI
        by_cases lt : r < 8 + (i : Int)
        · by_cases hn : R r = []
          · rw [if_pos ⟨by omega, hn⟩, if_pos ⟨lt, hn⟩]
          · rw [if_neg (fun y => hn y.2), if_neg (fun y => hn y.2)]
        · rw [if_neg (fun y => by have := y.1; omega), if_neg (fun y => lt y.1)]
  · refine hK h1 (fun c R c1 c2 c3 => ?_) f1
    obtain ⟨c', l', s', r'⟩ := g1 c R c1 c2 c3
    refine ⟨c', by omega, s', rulC_ext r' (fun r r0 r1 => ?_)⟩
    unfold fuI fuP
    by_cases hn : R r = []
    · rw [if_pos hn, if_pos ⟨by omega, hn⟩]
    · rw [if_neg hn, if_neg (fun y => hn y.2)]
theorem hasR_of {N : Int} {P : Pr} (hc : scr h s c) (hr : rulC h s c P) (hne : ∀ r, 8 ≤ r → r ≤ 12 → P r ≠ []) (hl : c.length ≤ 1620) : hasR h s N P := fun _ r r0 r1 => by
  rcases hr r r0 r1 with ⟨z, -⟩ | ⟨z, c1, c2, e1, e2, e3⟩
  · exact absurd z (hne r r0 r1)
  · have le : c.length = c1.length + (P r).length + c2.length := by rw [e1]; simp only [List.length_append]
    refine ⟨by omega, by omega, by omega, fun j hj => ?_⟩
    have := hc.2 (c1.length + j) (by omega)
    rw [e2]
    rw [show ((c1.length + j : Nat) : Int) = (c1.length : Int) + j by omega] at this
    rw [this, e1]
    simp only [List.getD_eq_getElem?_getD]
    rw [List.append_assoc, List.getElem?_append_right (by omega), show c1.length + j - c1.length = j by omega, List.getElem?_append_left hj]
theorem fuP_ne {r : Int} : fuP R r ≠ [] := by
  unfold fuP
  by_cases hn : R r = []
  · rw [if_pos hn]; exact (dflt_len _).1
  · rw [if_neg hn]; exact hn
end
end
