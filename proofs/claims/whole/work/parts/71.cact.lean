section
-- the class: refusals, scalars, the past, acts
theorem sUp_row {A : Yd} {c k v c' : Int} (h : c' ≠ c) : sUp A c k v c' = A c' := by funext k'; exact sUp_c h
theorem restC_new {h h' : Hp} {G N : Int} {P : Pr} {X X' : Yd} (hr : restC h G N P X) (hc : ∀ i k, ((i = 0 ∧ (k = 15 ∨ k = 16)) ∨ i = 4 ∨ (30 ≤ i ∧ i ≤ 45)) → h' i k = h i k) (h5 : ∀ j, X' 5 j = X 5 j) (s1 : isSn h' (X' 1) (X' 0 0)) (s2 : h' 1 1 = X' 0 1 ∧ ∀ j, 0 ≤ j → j < X' 0 1 → h' 2 j = X' 2 j) (s3 : ∀ j, 0 ≤ j → j < 6 → h' 22 j = X' 3 j)
    (s4 : h' 0 12 = X' 0 2 ∧ h' 0 13 = X' 0 3 ∧ h' 0 14 = X' 0 4) (s5 : h' 0 11 = X' 0 5 ∧ ∀ j, 0 ≤ j → j < X' 0 5 → h' 23 j = X' 4 j) : restC h' G N P X' := by
  obtain ⟨⟨a1, a2⟩, -, -, -, -, -, g, w⟩ := hr
  have z15 := hc 0 15 (by omega)
  have z16 := hc 0 16 (by omega)
  have ht : h 0 15 = 30 ∨ h 0 15 = 40 := a1.elim (fun z => Or.inl z.1) (fun z => Or.inr z.1)
  refine ⟨⟨by unfold toldC; rw [z15, z16]; exact a1, by rw [z15]; exact fun n0 r r0 r1 => isR_eq (a2 n0 r r0 r1) (fun i k p q => hc i k (by omega))⟩, s1, s2, s3, s4, s5, fun j hj => by rw [z15, hc _ j (by omega), h5]; exact g j hj, fun k hk => by rw [hc 4 k (by omega)]; exact w k hk⟩
def sRf (X : Yd) (j : Int) : Yd := sUp X 3 j (X 3 j + 1)
section
variable {q h h' : Hp} {A : Yd} {P : Pr} {U : List Yd} {X : Yd} {n : Int} {K : Int → Hp → Prop}
theorem relC_rf {j : Int} (hj : 0 ≤ j ∧ j < 6) (hr : relC q h A P U X) : relC q (og_up h 22 j (X 3 j + 1)) A P U (sRf X j) := by
  obtain ⟨y, p, r, f⟩ := hr
  have hf : ∀ i k, i ≠ 22 → og_up h 22 j (X 3 j + 1) i k = h i k := fun i k hi => og_up_i hi
  refine ⟨isY_fr y (fun i k a b => hf i k (by omega)), pastC_fr p (fun i k hi => hf i k (by omega)), ?_, fun i k hi => (hf i k (by omega)).trans (f i k hi)⟩
  refine restC_new r (fun i k hi => hf i k (by omega)) (fun j => sUp_c (by decide)) ?_ ?_ ?_ ?_ ?_
  · unfold sRf; simp (disch := decide) only [sUp_row, sUp_c, sUp_k, sUp_eq]; exact ⟨by rw [hf _ _ (by omega)]; exact r.2.1.1, fun j a b => by rw [hf _ _ (by omega)]; exact r.2.1.2 j a b⟩
  · unfold sRf; simp (disch := decide) only [sUp_row, sUp_c, sUp_k, sUp_eq]; exact ⟨by rw [hf _ _ (by omega)]; exact r.2.2.1.1, fun j a b => by rw [hf _ _ (by omega)]; exact r.2.2.1.2 j a b⟩
  · intro k a b
    unfold sRf
    by_cases e : k = j
    · subst e; rw [og_up_eq, sUp_eq]
    · rw [og_up_k e, sUp_k e]; exact r.2.2.2.1 k a b
  · unfold sRf; simp (disch := decide) only [sUp_row, sUp_c, sUp_k, sUp_eq]; rw [hf _ _ (by omega), hf _ _ (by omega), hf _ _ (by omega)]; exact r.2.2.2.2.1
  · unfold sRf; simp (disch := decide) only [sUp_row, sUp_c, sUp_k, sUp_eq]; exact ⟨by rw [hf _ _ (by omega)]; exact r.2.2.2.2.2.1.1, fun j a b => by rw [hf _ _ (by omega)]; exact r.2.2.2.2.2.1.2 j a b⟩
theorem c_refuse {j : Int} (hj : 0 ≤ j ∧ j < 6) (hn : n ≤ 1000000) (hr : relC q h A P U X) (hx : okX n A P U X) (hK : ∀ h', relC q h' A P U (sRf X j) → K (-1) h') : m_OG_refuse [0, j] h K := by
  have x3 := hx.2.2.2.2.2.1 j hj.1 hj.2
  have e := hr.2.2.1.2.2.2.1 j hj.1 hj.2
  unfold m_OG_refuse
  simp -implicitDefEqProofs only [↓dn_den, ↓dn_loc, ↓dn_k, ↓dn_add, ↓dn_sub, ↓dn_mul, ↓dn_div, ↓dn_rem, ↓dn_bop, ↓dn_ladd, ↓dn_lsub, ↓dn_lmul, ↓dn_ldiv, ↓dn_lrem, ↓dn_land, ↓dn_l2i, ↓dn_neg, ↓dn_get, ↓dn_fix, ↓dn_ald, ↓dn_gld, ↓dn_yld, ↓dn_len, ↓dn_gln, ↓dn_cc, ↓dn_cb, ↓dn_and, ↓dn_or, ↓dn_not, ↓dn_cite, ↓dn_ec, ↓dn_ei, ↓dn_skip, ↓dn_seq, ↓dn_set, ↓dn_inc, ↓dn_putf, ↓dn_putz, ↓dn_ast, ↓dn_exp, ↓dn_if, ↓dn_ret, ↓dn_retz, ↓dn_retv, ↓dn_brk, ↓dn_cont, ↓dn_cs, ↓dn_sw, ↓dn_pop32, ↓dn_pop64, ↓dn_aop, ↓dn_call, ↓dn_max, ↓dn_min, ↓dn_acp, ↓dn_i2l, ↓dn_args0, ↓dn_args1, og_pad, og_ent, og_rlt, og_rle, og_rgt, og_rge, og_req, og_rne, og_padd, og_psub, og_pmul, List.getD_cons_zero, List.getD_cons_succ, List.set_cons_zero, List.set_cons_succ, List.length_cons, List.length_nil, List.cons_append, List.nil_append, List.replicate, List.append_nil, Nat.reduceAdd, Nat.reduceSub, Nat.reduceEqDiff, if_true, if_false, reduceIte, Int.reduceAdd, Int.reduceSub, Int.reduceMul, Int.reduceNeg, Int.reduceLT, Int.reduceLE, Int.cast_ofNat_Int, true_or, or_true, true_and, and_true, false_and, List.mem_cons, List.not_mem_nil, or_false, false_or, ne_eq]
  refine ⟨fun e1 h1 => h1 = og_up h 22 j (X 3 j + 1), ?_, ?_⟩
  · simp -implicitDefEqProofs only [↓dn_den, ↓dn_loc, ↓dn_k, ↓dn_add, ↓dn_sub, ↓dn_mul, ↓dn_div, ↓dn_rem, ↓dn_bop, ↓dn_ladd, ↓dn_lsub, ↓dn_lmul, ↓dn_ldiv, ↓dn_lrem, ↓dn_land, ↓dn_l2i, ↓dn_neg, ↓dn_get, ↓dn_fix, ↓dn_ald, ↓dn_gld, ↓dn_yld, ↓dn_len, ↓dn_gln, ↓dn_cc, ↓dn_cb, ↓dn_and, ↓dn_or, ↓dn_not, ↓dn_cite, ↓dn_ec, ↓dn_ei, ↓dn_skip, ↓dn_seq, ↓dn_set, ↓dn_inc, ↓dn_putf, ↓dn_putz, ↓dn_ast, ↓dn_exp, ↓dn_if, ↓dn_ret, ↓dn_retz, ↓dn_retv, ↓dn_brk, ↓dn_cont, ↓dn_cs, ↓dn_sw, ↓dn_pop32, ↓dn_pop64, ↓dn_aop, ↓dn_call, ↓dn_max, ↓dn_min, ↓dn_acp, ↓dn_i2l, ↓dn_args0, ↓dn_args1, og_pad, og_ent, og_rlt, og_rle, og_rgt, og_rge, og_req, og_rne, og_padd, og_psub, og_pmul, List.getD_cons_zero, List.getD_cons_succ, List.set_cons_zero, List.set_cons_succ, List.length_cons, List.length_nil, List.cons_append, List.nil_append, List.replicate, List.append_nil, Nat.reduceAdd, Nat.reduceSub, Nat.reduceEqDiff, if_true, if_false, reduceIte, Int.reduceAdd, Int.reduceSub, Int.reduceMul, Int.reduceNeg, Int.reduceLT, Int.reduceLE, Int.cast_ofNat_Int, true_or, or_true, true_and, and_true, false_and, List.mem_cons, List.not_mem_nil, or_false, false_or, ne_eq, og_i32]
    rw [e]
    refine ⟨fun _ => ⟨fun _ => ?_, fun z => by omega⟩, fun z => by omega⟩
    repeat (refine And.intro (by omega) ?_)
    rfl
  · rintro e1 h1 rfl
    simp -implicitDefEqProofs only [↓dn_den, ↓dn_loc, ↓dn_k, ↓dn_add, ↓dn_sub, ↓dn_mul, ↓dn_div, ↓dn_rem, ↓dn_bop, ↓dn_ladd, ↓dn_lsub, ↓dn_lmul, ↓dn_ldiv, ↓dn_lrem, ↓dn_land, ↓dn_l2i, ↓dn_neg, ↓dn_get, ↓dn_fix, ↓dn_ald, ↓dn_gld, ↓dn_yld, ↓dn_len, ↓dn_gln, ↓dn_cc, ↓dn_cb, ↓dn_and, ↓dn_or, ↓dn_not, ↓dn_cite, ↓dn_ec, ↓dn_ei, ↓dn_skip, ↓dn_seq, ↓dn_set, ↓dn_inc, ↓dn_putf, ↓dn_putz, ↓dn_ast, ↓dn_exp, ↓dn_if, ↓dn_ret, ↓dn_retz, ↓dn_retv, ↓dn_brk, ↓dn_cont, ↓dn_cs, ↓dn_sw, ↓dn_pop32, ↓dn_pop64, ↓dn_aop, ↓dn_call, ↓dn_max, ↓dn_min, ↓dn_acp, ↓dn_i2l, ↓dn_args0, ↓dn_args1, og_pad, og_ent, og_rlt, og_rle, og_rgt, og_rge, og_req, og_rne, og_padd, og_psub, og_pmul, List.getD_cons_zero, List.getD_cons_succ, List.set_cons_zero, List.set_cons_succ, List.length_cons, List.length_nil, List.cons_append, List.nil_append, List.replicate, List.append_nil, Nat.reduceAdd, Nat.reduceSub, Nat.reduceEqDiff, if_true, if_false, reduceIte, Int.reduceAdd, Int.reduceSub, Int.reduceMul, Int.reduceNeg, Int.reduceLT, Int.reduceLE, Int.cast_ofNat_Int, true_or, or_true, true_and, and_true, false_and, List.mem_cons, List.not_mem_nil, or_false, false_or, ne_eq]
    exact hK _ (relC_rf hj hr)
theorem c_status {w : Int} (hr : relC q h A P U X) (hK : K (if 0 ≤ w ∧ w < 6 then X 3 w else -1) h) : m_OG_status [0, w] h K := by
  have e := hr.2.2.1.2.2.2.1 w
  unfold m_OG_status
  simp -implicitDefEqProofs only [↓dn_den, ↓dn_loc, ↓dn_k, ↓dn_add, ↓dn_sub, ↓dn_mul, ↓dn_div, ↓dn_rem, ↓dn_bop, ↓dn_ladd, ↓dn_lsub, ↓dn_lmul, ↓dn_ldiv, ↓dn_lrem, ↓dn_land, ↓dn_l2i, ↓dn_neg, ↓dn_get, ↓dn_fix, ↓dn_ald, ↓dn_gld, ↓dn_yld, ↓dn_len, ↓dn_gln, ↓dn_cc, ↓dn_cb, ↓dn_and, ↓dn_or, ↓dn_not, ↓dn_cite, ↓dn_ec, ↓dn_ei, ↓dn_skip, ↓dn_seq, ↓dn_set, ↓dn_inc, ↓dn_putf, ↓dn_putz, ↓dn_ast, ↓dn_exp, ↓dn_if, ↓dn_ret, ↓dn_retz, ↓dn_retv, ↓dn_brk, ↓dn_cont, ↓dn_cs, ↓dn_sw, ↓dn_pop32, ↓dn_pop64, ↓dn_aop, ↓dn_call, ↓dn_max, ↓dn_min, ↓dn_acp, ↓dn_i2l, ↓dn_args0, ↓dn_args1, og_pad, og_ent, og_rlt, og_rle, og_rgt, og_rge, og_req, og_rne, og_padd, og_psub, og_pmul, List.getD_cons_zero, List.getD_cons_succ, List.set_cons_zero, List.set_cons_succ, List.length_cons, List.length_nil, List.cons_append, List.nil_append, List.replicate, List.append_nil, Nat.reduceAdd, Nat.reduceSub, Nat.reduceEqDiff, if_true, if_false, reduceIte, Int.reduceAdd, Int.reduceSub, Int.reduceMul, Int.reduceNeg, Int.reduceLT, Int.reduceLE, Int.cast_ofNat_Int, true_or, or_true, true_and, and_true, false_and, List.mem_cons, List.not_mem_nil, or_false, false_or, ne_eq]
  refine ⟨fun a => ⟨fun b => ?_, fun b => ?_⟩, fun a => ?_⟩
  · rw [if_pos ⟨a, b⟩, ← e a b] at hK; exact ⟨a, b, hK⟩
  · rw [if_neg (by omega)] at hK; exact hK
  · rw [if_neg (by omega)] at hK; exact hK
theorem c_fault {w : Int} (hr : relC q h A P U X) (hK : K (if w = 0 then X 0 3 else if w = 1 then X 0 4 else -1) h) : m_OG_fault [0, w] h K := by
  have e := hr.2.2.1.2.2.2.2.1
  unfold m_OG_fault
  simp -implicitDefEqProofs only [↓dn_den, ↓dn_loc, ↓dn_k, ↓dn_add, ↓dn_sub, ↓dn_mul, ↓dn_div, ↓dn_rem, ↓dn_bop, ↓dn_ladd, ↓dn_lsub, ↓dn_lmul, ↓dn_ldiv, ↓dn_lrem, ↓dn_land, ↓dn_l2i, ↓dn_neg, ↓dn_get, ↓dn_fix, ↓dn_ald, ↓dn_gld, ↓dn_yld, ↓dn_len, ↓dn_gln, ↓dn_cc, ↓dn_cb, ↓dn_and, ↓dn_or, ↓dn_not, ↓dn_cite, ↓dn_ec, ↓dn_ei, ↓dn_skip, ↓dn_seq, ↓dn_set, ↓dn_inc, ↓dn_putf, ↓dn_putz, ↓dn_ast, ↓dn_exp, ↓dn_if, ↓dn_ret, ↓dn_retz, ↓dn_retv, ↓dn_brk, ↓dn_cont, ↓dn_cs, ↓dn_sw, ↓dn_pop32, ↓dn_pop64, ↓dn_aop, ↓dn_call, ↓dn_max, ↓dn_min, ↓dn_acp, ↓dn_i2l, ↓dn_args0, ↓dn_args1, og_pad, og_ent, og_rlt, og_rle, og_rgt, og_rge, og_req, og_rne, og_padd, og_psub, og_pmul, List.getD_cons_zero, List.getD_cons_succ, List.set_cons_zero, List.set_cons_succ, List.length_cons, List.length_nil, List.cons_append, List.nil_append, List.replicate, List.append_nil, Nat.reduceAdd, Nat.reduceSub, Nat.reduceEqDiff, if_true, if_false, reduceIte, Int.reduceAdd, Int.reduceSub, Int.reduceMul, Int.reduceNeg, Int.reduceLT, Int.reduceLE, Int.cast_ofNat_Int, true_or, or_true, true_and, and_true, false_and, List.mem_cons, List.not_mem_nil, or_false, false_or, ne_eq]
  rw [e.2.1, e.2.2]
  refine ⟨fun a => ?_, fun a => ⟨fun b => ?_, fun b => ?_⟩⟩
  · rw [if_pos a] at hK; exact hK
  · rw [if_neg a, if_pos b] at hK; exact hK
  · rw [if_neg a, if_neg b] at hK; exact hK
theorem c_octet {k : Int} (hr : relC q h A P U X) (hx : okX n A P U X) (hK : K (if 0 ≤ k ∧ k < X 0 5 then X 4 k else -1) h) : m_OG_octet [0, k] h K := by
  have e := hr.2.2.1.2.2.2.2.2.1
  have x := hx.2.2.2.2.2.2.2.1
  unfold m_OG_octet
  simp -implicitDefEqProofs only [↓dn_den, ↓dn_loc, ↓dn_k, ↓dn_add, ↓dn_sub, ↓dn_mul, ↓dn_div, ↓dn_rem, ↓dn_bop, ↓dn_ladd, ↓dn_lsub, ↓dn_lmul, ↓dn_ldiv, ↓dn_lrem, ↓dn_land, ↓dn_l2i, ↓dn_neg, ↓dn_get, ↓dn_fix, ↓dn_ald, ↓dn_gld, ↓dn_yld, ↓dn_len, ↓dn_gln, ↓dn_cc, ↓dn_cb, ↓dn_and, ↓dn_or, ↓dn_not, ↓dn_cite, ↓dn_ec, ↓dn_ei, ↓dn_skip, ↓dn_seq, ↓dn_set, ↓dn_inc, ↓dn_putf, ↓dn_putz, ↓dn_ast, ↓dn_exp, ↓dn_if, ↓dn_ret, ↓dn_retz, ↓dn_retv, ↓dn_brk, ↓dn_cont, ↓dn_cs, ↓dn_sw, ↓dn_pop32, ↓dn_pop64, ↓dn_aop, ↓dn_call, ↓dn_max, ↓dn_min, ↓dn_acp, ↓dn_i2l, ↓dn_args0, ↓dn_args1, og_pad, og_ent, og_rlt, og_rle, og_rgt, og_rge, og_req, og_rne, og_padd, og_psub, og_pmul, List.getD_cons_zero, List.getD_cons_succ, List.set_cons_zero, List.set_cons_succ, List.length_cons, List.length_nil, List.cons_append, List.nil_append, List.replicate, List.append_nil, Nat.reduceAdd, Nat.reduceSub, Nat.reduceEqDiff, if_true, if_false, reduceIte, Int.reduceAdd, Int.reduceSub, Int.reduceMul, Int.reduceNeg, Int.reduceLT, Int.reduceLE, Int.cast_ofNat_Int, true_or, or_true, true_and, and_true, false_and, List.mem_cons, List.not_mem_nil, or_false, false_or, ne_eq]
  rw [e.1]
  refine ⟨fun a => ⟨fun b => ?_, fun b => ?_⟩, fun a => ?_⟩
  · rw [if_pos ⟨a, b⟩, ← e.2 k a b] at hK; exact ⟨a, by omega, hK⟩
  · rw [if_neg (by omega)] at hK; exact hK
  · rw [if_neg (by omega)] at hK; exact hK
theorem c_seed {s : Int} (hn : n ≤ 1000000) (hr : relC q h A P U X) (hx : okX n A P U X) (hK0 : s < 0 → ∀ h', relC q h' A P U (sRf X 5) → K 0 h') (hK1 : ¬ s < 0 → ∀ h', relC q h' A P U (sUp X 0 2 s) → K 1 h') : m_OG_seed [0, s] h K := by
  unfold m_OG_seed
  simp -implicitDefEqProofs only [↓dn_den, ↓dn_loc, ↓dn_k, ↓dn_add, ↓dn_sub, ↓dn_mul, ↓dn_div, ↓dn_rem, ↓dn_bop, ↓dn_ladd, ↓dn_lsub, ↓dn_lmul, ↓dn_ldiv, ↓dn_lrem, ↓dn_land, ↓dn_l2i, ↓dn_neg, ↓dn_get, ↓dn_fix, ↓dn_ald, ↓dn_gld, ↓dn_yld, ↓dn_len, ↓dn_gln, ↓dn_cc, ↓dn_cb, ↓dn_and, ↓dn_or, ↓dn_not, ↓dn_cite, ↓dn_ec, ↓dn_ei, ↓dn_skip, ↓dn_seq, ↓dn_set, ↓dn_inc, ↓dn_putf, ↓dn_putz, ↓dn_ast, ↓dn_exp, ↓dn_if, ↓dn_ret, ↓dn_retz, ↓dn_retv, ↓dn_brk, ↓dn_cont, ↓dn_cs, ↓dn_sw, ↓dn_pop32, ↓dn_pop64, ↓dn_aop, ↓dn_call, ↓dn_max, ↓dn_min, ↓dn_acp, ↓dn_i2l, ↓dn_args0, ↓dn_args1, og_pad, og_ent, og_rlt, og_rle, og_rgt, og_rge, og_req, og_rne, og_padd, og_psub, og_pmul, List.getD_cons_zero, List.getD_cons_succ, List.set_cons_zero, List.set_cons_succ, List.length_cons, List.length_nil, List.cons_append, List.nil_append, List.replicate, List.append_nil, Nat.reduceAdd, Nat.reduceSub, Nat.reduceEqDiff, if_true, if_false, reduceIte, Int.reduceAdd, Int.reduceSub, Int.reduceMul, Int.reduceNeg, Int.reduceLT, Int.reduceLE, Int.cast_ofNat_Int, true_or, or_true, true_and, and_true, false_and, List.mem_cons, List.not_mem_nil, or_false, false_or, ne_eq]
  refine ⟨fun a => c_refuse (by decide) hn hr hx (fun h1 hr1 => hK0 a h1 hr1), fun a => hK1 a _ ?_⟩
  obtain ⟨y, p, r, f⟩ := hr
  have hf : ∀ i k, (i ≠ 0 ∨ k ≠ 12) → og_up h 0 12 s i k = h i k := fun i k hi => by unfold og_up; exact if_neg (by omega)
  refine ⟨isY_fr y (fun i k a b => hf i k (by omega)), pastC_fr p (fun i k hi => hf i k (by omega)), ?_, fun i k hi => (hf i k (by omega)).trans (f i k hi)⟩
  refine restC_new r (fun i k hi => hf i k (by omega)) (fun j => sUp_c (by decide)) ?_ ?_ ?_ ?_ ?_
  · simp (disch := decide) only [sUp_row, sUp_c, sUp_k, sUp_eq]; exact ⟨by rw [hf _ _ (by omega)]; exact r.2.1.1, fun j a b => by rw [hf _ _ (by omega)]; exact r.2.1.2 j a b⟩
  · simp (disch := decide) only [sUp_row, sUp_c, sUp_k, sUp_eq]; exact ⟨by rw [hf _ _ (by omega)]; exact r.2.2.1.1, fun j a b => by rw [hf _ _ (by omega)]; exact r.2.2.1.2 j a b⟩
  · intro k a b; rw [sUp_c (by decide), hf _ _ (by omega)]; exact r.2.2.2.1 k a b
  · simp (disch := decide) only [sUp_row, sUp_c, sUp_k, sUp_eq]; rw [og_up_eq, hf _ _ (by omega), hf _ _ (by omega)]; exact ⟨rfl, r.2.2.2.2.1.2.1, r.2.2.2.2.1.2.2⟩
  · simp (disch := decide) only [sUp_row, sUp_c, sUp_k, sUp_eq]; exact ⟨by rw [hf _ _ (by omega)]; exact r.2.2.2.2.2.1.1, fun j a b => by rw [hf _ _ (by omega)]; exact r.2.2.2.2.2.1.2 j a b⟩
theorem relC_tape {v : Int} (hv : v ≤ X 0 1) (hr : relC q h A P U X) : relC q (og_up h 1 1 v) A P U (sUp X 0 1 v) := by
  obtain ⟨y, p, r, f⟩ := hr
  have hf : ∀ i k, (i ≠ 1 ∨ k ≠ 1) → og_up h 1 1 v i k = h i k := fun i k hi => by unfold og_up; exact if_neg (by omega)
  refine ⟨isY_fr y (fun i k a b => hf i k (by omega)), pastC_fr p (fun i k hi => hf i k (by omega)), ?_, fun i k hi => (hf i k (by omega)).trans (f i k hi)⟩
  refine restC_new r (fun i k hi => hf i k (by omega)) (fun j => sUp_c (by decide)) ?_ ?_ ?_ ?_ ?_
  · simp (disch := decide) only [sUp_row, sUp_c, sUp_k, sUp_eq]; exact ⟨by rw [hf _ _ (by omega)]; exact r.2.1.1, fun j a b => by rw [hf _ _ (by omega)]; exact r.2.1.2 j a b⟩
  · simp (disch := decide) only [sUp_row, sUp_c, sUp_k, sUp_eq]; rw [og_up_eq]; exact ⟨rfl, fun j a b => by rw [hf _ _ (by omega)]; exact r.2.2.1.2 j a (by omega)⟩
  · intro k a b; rw [sUp_c (by decide), hf _ _ (by omega)]; exact r.2.2.2.1 k a b
  · simp (disch := decide) only [sUp_row, sUp_c, sUp_k, sUp_eq]; rw [hf _ _ (by omega), hf _ _ (by omega), hf _ _ (by omega)]; exact r.2.2.2.2.1
  · simp (disch := decide) only [sUp_row, sUp_c, sUp_k, sUp_eq]; exact ⟨by rw [hf _ _ (by omega)]; exact r.2.2.2.2.2.1.1, fun j a b => by rw [hf _ _ (by omega)]; exact r.2.2.2.2.2.1.2 j a b⟩
theorem c_end {v : Int} (hn : n ≤ 1000000) (hr : relC q h A P U X) (hx : okX n A P U X) (hK0 : (v < 0 ∨ X 0 1 < v) → ∀ h', relC q h' A P U (sRf X 0) → K 0 h') (hK1 : ¬ (v < 0 ∨ X 0 1 < v) → ∀ h', relC q h' A P U (sUp X 0 1 v) → K 1 h') : m_OG_end [0, v] h K := by
  have e := hr.2.2.1.2.2.1.1
  unfold m_OG_end
  simp -implicitDefEqProofs only [↓dn_den, ↓dn_loc, ↓dn_k, ↓dn_add, ↓dn_sub, ↓dn_mul, ↓dn_div, ↓dn_rem, ↓dn_bop, ↓dn_ladd, ↓dn_lsub, ↓dn_lmul, ↓dn_ldiv, ↓dn_lrem, ↓dn_land, ↓dn_l2i, ↓dn_neg, ↓dn_get, ↓dn_fix, ↓dn_ald, ↓dn_gld, ↓dn_yld, ↓dn_len, ↓dn_gln, ↓dn_cc, ↓dn_cb, ↓dn_and, ↓dn_or, ↓dn_not, ↓dn_cite, ↓dn_ec, ↓dn_ei, ↓dn_skip, ↓dn_seq, ↓dn_set, ↓dn_inc, ↓dn_putf, ↓dn_putz, ↓dn_ast, ↓dn_exp, ↓dn_if, ↓dn_ret, ↓dn_retz, ↓dn_retv, ↓dn_brk, ↓dn_cont, ↓dn_cs, ↓dn_sw, ↓dn_pop32, ↓dn_pop64, ↓dn_aop, ↓dn_call, ↓dn_max, ↓dn_min, ↓dn_acp, ↓dn_i2l, ↓dn_args0, ↓dn_args1, og_pad, og_ent, og_rlt, og_rle, og_rgt, og_rge, og_req, og_rne, og_padd, og_psub, og_pmul, List.getD_cons_zero, List.getD_cons_succ, List.set_cons_zero, List.set_cons_succ, List.length_cons, List.length_nil, List.cons_append, List.nil_append, List.replicate, List.append_nil, Nat.reduceAdd, Nat.reduceSub, Nat.reduceEqDiff, if_true, if_false, reduceIte, Int.reduceAdd, Int.reduceSub, Int.reduceMul, Int.reduceNeg, Int.reduceLT, Int.reduceLE, Int.cast_ofNat_Int, true_or, or_true, true_and, and_true, false_and, List.mem_cons, List.not_mem_nil, or_false, false_or, ne_eq]
  rw [e]
  refine ⟨fun a => c_refuse (by decide) hn hr hx (fun h1 hr1 => hK0 (Or.inl a) h1 hr1), fun a => ⟨fun b => c_refuse (by decide) hn hr hx (fun h1 hr1 => hK0 (Or.inr b) h1 hr1), fun b => hK1 (by omega) _ (relC_tape (by omega) hr)⟩⟩
-- the past
def sKp (U : List Yd) (A : Yd) : List Yd := (if U.length = 20 then U.drop 1 else U) ++ [A]
theorem getD_app {U : List Yd} {A D : Yd} {j : Nat} : (U ++ [A]).getD j D = if j < U.length then U.getD j D else if j = U.length then A else D := by
  rw [List.getD_eq_getElem?_getD, List.getD_eq_getElem?_getD]
  by_cases h1 : j < U.length
  · rw [if_pos h1, List.getElem?_append_left h1]
  · rw [if_neg h1, List.getElem?_append_right (by omega)]
    by_cases h2 : j = U.length
    · rw [if_pos h2, h2, Nat.sub_self]; rfl
    · rw [if_neg h2]
      obtain ⟨k, hk⟩ : ∃ k, j - U.length = k + 1 := ⟨j - U.length - 1, by omega⟩
      rw [hk]; rfl
theorem getD_drop1 {U : List Yd} {D : Yd} {j : Nat} : (U.drop 1).getD j D = U.getD (j + 1) D := by
  rw [List.getD_eq_getElem?_getD, List.getD_eq_getElem?_getD, List.getElem?_drop, Nat.add_comm]
theorem c_keep (hy : isY h 100 A) (ho : okY A) (hp : pastC h U) (hK : ∀ h', isY h' 100 A → pastC h' (sKp U A) → (∀ i k, ¬ (i = 7 ∨ i = 9 ∨ i = 20 ∨ (140 ≤ i ∧ i ≤ 339)) → h' i k = h i k) → K 0 h') : m_Past_keep [20, 100] h K := by
  obtain ⟨⟨a, b, c, d⟩, e⟩ := hp
  unfold m_Past_keep
  simp -implicitDefEqProofs only [↓dn_den, ↓dn_loc, ↓dn_k, ↓dn_add, ↓dn_sub, ↓dn_mul, ↓dn_div, ↓dn_rem, ↓dn_bop, ↓dn_ladd, ↓dn_lsub, ↓dn_lmul, ↓dn_ldiv, ↓dn_lrem, ↓dn_land, ↓dn_l2i, ↓dn_neg, ↓dn_get, ↓dn_fix, ↓dn_ald, ↓dn_gld, ↓dn_yld, ↓dn_len, ↓dn_gln, ↓dn_cc, ↓dn_cb, ↓dn_and, ↓dn_or, ↓dn_not, ↓dn_cite, ↓dn_ec, ↓dn_ei, ↓dn_skip, ↓dn_seq, ↓dn_set, ↓dn_inc, ↓dn_putf, ↓dn_putz, ↓dn_ast, ↓dn_exp, ↓dn_if, ↓dn_ret, ↓dn_retz, ↓dn_retv, ↓dn_brk, ↓dn_cont, ↓dn_cs, ↓dn_sw, ↓dn_pop32, ↓dn_pop64, ↓dn_aop, ↓dn_call, ↓dn_max, ↓dn_min, ↓dn_acp, ↓dn_i2l, ↓dn_args0, ↓dn_args1, og_pad, og_ent, og_rlt, og_rle, og_rgt, og_rge, og_req, og_rne, og_padd, og_psub, og_pmul, List.getD_cons_zero, List.getD_cons_succ, List.set_cons_zero, List.set_cons_succ, List.length_cons, List.length_nil, List.cons_append, List.nil_append, List.replicate, List.append_nil, Nat.reduceAdd, Nat.reduceSub, Nat.reduceEqDiff, if_true, if_false, reduceIte, Int.reduceAdd, Int.reduceSub, Int.reduceMul, Int.reduceNeg, Int.reduceLT, Int.reduceLE, Int.cast_ofNat_Int, true_or, or_true, true_and, and_true, false_and, List.mem_cons, List.not_mem_nil, or_false, false_or, ne_eq, og_i32]
  rw [a]
  have em : (h 20 2 + (U.length : Int)).tmod 20 = (h 20 2 + (U.length : Int)) % 20 := Int.tmod_eq_emod_of_nonneg (by omega)
  rw [em]
  refine ⟨by omega, by decide, by omega, by omega, ?_⟩
  refine s_Yard_become (by omega) hy ho (fun h1 hy1 hf1 => ?_)
  have hf : ∀ i k, ¬ (i = 7 ∨ i = 9 ∨ (140 ≤ i ∧ i ≤ 339)) → h1 i k = h i k := fun i k hi => hf1 i k (by omega) (by omega) (by omega)
  have hyA : isY h1 100 A := isY_fr hy (fun i k a b => hf i k (by omega))
  rw [hf 20 1 (by decide), hf 20 2 (by decide), a]
  refine ⟨fun hlt => ?_, fun hge => ?_⟩
  · repeat (refine And.intro (by omega) ?_)
    refine hK _ (isY_fr hyA (fun i k a b => og_up_i (by omega))) ?_ (fun i k hi => by rw [og_up_i (by omega)]; exact hf i k (by omega))
    unfold sKp
    rw [if_neg (by omega)]
    refine ⟨⟨by rw [og_up_eq, List.length_append]; simp, by rw [List.length_append]; simp; omega, by rw [og_up_k (by decide), hf 20 2 (by decide)]; exact c, by rw [og_up_k (by decide), hf 20 2 (by decide)]; exact d⟩, fun j hj => ?_⟩
    rw [List.length_append] at hj
    simp at hj
    rw [og_up_k (by decide), hf 20 2 (by decide), getD_app]
    by_cases hjl : j < U.length
    · rw [if_pos hjl]
      exact isY_fr (e j hjl) (fun i k a b => by rw [og_up_i (by omega)]; exact hf1 i k (by omega) (by omega) (by omega))
    · have : j = U.length := by omega
      subst this
      rw [if_neg (by omega), if_pos rfl]
      exact isY_fr hy1 (fun i k a b => og_up_i (by omega))
  · have h20 : U.length = 20 := by omega
    have em2 : (h 20 2 + 1).tmod 20 = (h 20 2 + 1) % 20 := Int.tmod_eq_emod_of_nonneg (by omega)
    rw [em2]
    repeat (refine And.intro (by omega) ?_)
    refine hK _ (isY_fr hyA (fun i k a b => og_up_i (by omega))) ?_ (fun i k hi => by rw [og_up_i (by omega)]; exact hf i k (by omega))
    unfold sKp
    rw [if_pos h20]
    have el : (List.drop 1 U ++ [A]).length = 20 := by rw [List.length_append, List.length_drop, h20]; rfl
    refine ⟨⟨by rw [og_up_k (by decide), hf 20 1 (by decide), a, el, h20], by omega, by rw [og_up_eq]; omega, by rw [og_up_eq]; omega⟩, fun j hj => ?_⟩
    rw [el] at hj
    rw [og_up_eq, getD_app, List.length_drop, h20]
    by_cases hjl : j < 20 - 1
    · rw [if_pos hjl, getD_drop1]
      have es : ((h 20 2 + 1) % 20 + (j : Int)) % 20 = (h 20 2 + ((j + 1 : Nat) : Int)) % 20 := by omega
      rw [es]
      exact isY_fr (e (j + 1) (by omega)) (fun i k a b => by rw [og_up_i (by omega)]; exact hf1 i k (by omega) (by omega) (by omega))
    · have : j = 19 := by omega
      subst this
      rw [if_neg (by omega), if_pos rfl]
      have es : ((h 20 2 + 1) % 20 + ((19 : Nat) : Int)) % 20 = (h 20 2 + (U.length : Int)) % 20 := by omega
      rw [es]
      exact isY_fr hy1 (fun i k a b => og_up_i (by omega))
/-- an act: the yard's own cells and the past differ -/
theorem relC_act {A' : Yd} {U' : List Yd} (hr : relC q h A P U X) (h00 : A' 0 0 = A 0 0) (h01 : A' 0 1 = A 0 1) (hy : isY h' 100 A') (hp : pastC h' U') (hf : ∀ i k, ¬ (i = 7 ∨ i = 9 ∨ i = 20 ∨ (100 ≤ i ∧ i ≤ 109) ∨ (140 ≤ i ∧ i ≤ 339)) → h' i k = h i k) : relC q h' A' P U' X := by
  refine ⟨hy, hp, ?_, fun i k hi => (hf i k (by omega)).trans (hr.2.2.2 i k hi)⟩
  rw [h00, h01]
  exact restC_fr hr.2.2.1 (fun i k hi => hf i k (by omega))
def digOK (A : Yd) (g : Int) : Prop := (0 ≤ g ∧ g < A 0 0) ∧ A 4 g = -1 ∧ A 2 g < 9
theorem c_dig {g : Int} (hn : n ≤ 1000000) (hr : relC q h A P U X) (hx : okX n A P U X) (hK0 : ¬ digOK A g → ∀ h', relC q h' A P U (sRf X 2) → K (-1) h') (hK1 : digOK A g → ∀ h', relC q h' (sUp A 2 g (A 2 g + 1)) P (sKp U A) X → K (A 2 g + 1) h') : m_OG_dig [0, g] h K := by
  have ho := hx.1.1
  have h6 := ho.1
  unfold m_OG_dig
  simp -implicitDefEqProofs only [↓dn_den, ↓dn_loc, ↓dn_k, ↓dn_add, ↓dn_sub, ↓dn_mul, ↓dn_div, ↓dn_rem, ↓dn_bop, ↓dn_ladd, ↓dn_lsub, ↓dn_lmul, ↓dn_ldiv, ↓dn_lrem, ↓dn_land, ↓dn_l2i, ↓dn_neg, ↓dn_get, ↓dn_fix, ↓dn_ald, ↓dn_gld, ↓dn_yld, ↓dn_len, ↓dn_gln, ↓dn_cc, ↓dn_cb, ↓dn_and, ↓dn_or, ↓dn_not, ↓dn_cite, ↓dn_ec, ↓dn_ei, ↓dn_skip, ↓dn_seq, ↓dn_set, ↓dn_inc, ↓dn_putf, ↓dn_putz, ↓dn_ast, ↓dn_exp, ↓dn_if, ↓dn_ret, ↓dn_retz, ↓dn_retv, ↓dn_brk, ↓dn_cont, ↓dn_cs, ↓dn_sw, ↓dn_pop32, ↓dn_pop64, ↓dn_aop, ↓dn_call, ↓dn_max, ↓dn_min, ↓dn_acp, ↓dn_i2l, ↓dn_args0, ↓dn_args1, og_pad, og_ent, og_rlt, og_rle, og_rgt, og_rge, og_req, og_rne, og_padd, og_psub, og_pmul, List.getD_cons_zero, List.getD_cons_succ, List.set_cons_zero, List.set_cons_succ, List.length_cons, List.length_nil, List.cons_append, List.nil_append, List.replicate, List.append_nil, Nat.reduceAdd, Nat.reduceSub, Nat.reduceEqDiff, if_true, if_false, reduceIte, Int.reduceAdd, Int.reduceSub, Int.reduceMul, Int.reduceNeg, Int.reduceLT, Int.reduceLE, Int.cast_ofNat_Int, true_or, or_true, true_and, and_true, false_and, List.mem_cons, List.not_mem_nil, or_false, false_or, ne_eq, og_i32]
  refine s_Yard_isGrave ?_
  rw [hr.1.1.1]
  refine ⟨fun a => ?_, fun a => c_refuse (by decide) hn hr hx (hK0 (fun z => iteP0 a z.1))⟩
  have hg := iteP1 a
  have yg := hr.1.2.1 g hg.1 hg.2
  have og := ho.2.1 g hg.1 hg.2
  refine s_Yard_canBeDug hg.1 (by omega) ?_
  rw [yg.2.2.2, yg.2.1]
  refine ⟨fun b => ?_, fun b => c_refuse (by decide) hn hr hx (hK0 (fun z => iteP0 b z.2))⟩
  have hd := iteP1 b
  refine c_keep hr.1 ho hr.2.1 (fun h1 hy1 hp1 hf1 => ?_)
  have yg1 := (hy1.2.1 g hg.1 hg.2).2.1
  simp only [Int.reduceAdd] at yg1
  rw [og_up_eq, yg1]
  repeat (refine And.intro (by omega) ?_)
  refine hK1 ⟨hg, hd⟩ _ (relC_act hr ?_ ?_ ?_ ?_ ?_)
  · exact sUp_c (by decide)
  · exact sUp_c (by decide)
  · have := isY_up (y := 100) (c := 2) (k := g) (v := A 2 g + 1) (by decide) hy1
    simpa only [Int.reduceAdd] using this
  · exact pastC_fr hp1 (fun i k hi => og_up_i (by omega))
  · exact fun i k hi => by rw [og_up_i (by omega)]; exact hf1 i k (by omega)
def fillOK (A : Yd) (g p : Int) : Prop := (0 ≤ g ∧ g < A 0 0) ∧ ((0 ≤ p ∧ p < A 0 1) ∧ sLive A p = true) ∧ A 4 g = -1 ∧ A 5 p ≤ A 1 g
theorem c_fill {g p : Int} (hn : n ≤ 1000000) (hr : relC q h A P U X) (hx : okX n A P U X) (hK0 : ¬ fillOK A g p → ∀ h', relC q h' A P U (sRf X 2) → K 0 h') (hK1 : fillOK A g p → ∀ h', relC q h' (sBury A p g 3) P (sKp U A) X → K 1 h') : m_OG_fill [0, g, p] h K := by
  have ho := hx.1.1
  have h6 := ho.1
  have no : ¬ fillOK A g p → m_OG_refuse [0, 2] h (fun _ h1 => K 0 h1) := fun z => c_refuse (by decide) hn hr hx (fun h1 hr1 => hK0 z h1 hr1)
  unfold m_OG_fill
  simp -implicitDefEqProofs only [↓dn_den, ↓dn_loc, ↓dn_k, ↓dn_add, ↓dn_sub, ↓dn_mul, ↓dn_div, ↓dn_rem, ↓dn_bop, ↓dn_ladd, ↓dn_lsub, ↓dn_lmul, ↓dn_ldiv, ↓dn_lrem, ↓dn_land, ↓dn_l2i, ↓dn_neg, ↓dn_get, ↓dn_fix, ↓dn_ald, ↓dn_gld, ↓dn_yld, ↓dn_len, ↓dn_gln, ↓dn_cc, ↓dn_cb, ↓dn_and, ↓dn_or, ↓dn_not, ↓dn_cite, ↓dn_ec, ↓dn_ei, ↓dn_skip, ↓dn_seq, ↓dn_set, ↓dn_inc, ↓dn_putf, ↓dn_putz, ↓dn_ast, ↓dn_exp, ↓dn_if, ↓dn_ret, ↓dn_retz, ↓dn_retv, ↓dn_brk, ↓dn_cont, ↓dn_cs, ↓dn_sw, ↓dn_pop32, ↓dn_pop64, ↓dn_aop, ↓dn_call, ↓dn_max, ↓dn_min, ↓dn_acp, ↓dn_i2l, ↓dn_args0, ↓dn_args1, og_pad, og_ent, og_rlt, og_rle, og_rgt, og_rge, og_req, og_rne, og_padd, og_psub, og_pmul, List.getD_cons_zero, List.getD_cons_succ, List.set_cons_zero, List.set_cons_succ, List.length_cons, List.length_nil, List.cons_append, List.nil_append, List.replicate, List.append_nil, Nat.reduceAdd, Nat.reduceSub, Nat.reduceEqDiff, if_true, if_false, reduceIte, Int.reduceAdd, Int.reduceSub, Int.reduceMul, Int.reduceNeg, Int.reduceLT, Int.reduceLE, Int.cast_ofNat_Int, true_or, or_true, true_and, and_true, false_and, List.mem_cons, List.not_mem_nil, or_false, false_or, ne_eq, og_i32]
  refine s_Yard_isGrave ?_
  rw [hr.1.1.1]
  refine ⟨fun a => ?_, fun a => no (fun z => iteP0 a z.1)⟩
  have hg := iteP1 a
  have yg := hr.1.2.1 g hg.1 hg.2
  refine c_lives hr.1 ho ⟨fun b => ?_, fun b => no (fun z => iteP0 b z.2.1)⟩
  have hl := iteP1 b
  have yp := hr.1.2.2.1 p hl.1.1 hl.1.2
  refine s_Yard_isFilled hg.1 (by omega) ⟨fun c => no (fun z => iteP1 c (yg.2.2.2.trans z.2.2.1)), fun c => ?_⟩
  have hc := iteP0 c
  refine s_Yard_fits hg.1 (by omega) hl.1.1 (by omega) ?_
  rw [yp.1, yg.1]
  refine ⟨fun d => ?_, fun d => no (fun z => iteP0 d z.2.2.2)⟩
  have hd := iteP1 d
  refine c_keep hr.1 ho hr.2.1 (fun h1 hy1 hp1 hf1 => ?_)
  refine s_Yard_bury hy1 ho hl.1.1 hl.1.2 (by omega) (by omega) (fun h2 hy2 hf2 => ?_)
  refine hK1 ⟨hg, hl, by rw [← yg.2.2.2]; simpa using hc, hd⟩ _ (relC_act hr ?_ ?_ hy2 ?_ ?_)
  · exact (sameB_bury (A := A) (p := p) (g := g) (how := 3)).1
  · exact (sameB_bury (A := A) (p := p) (g := g) (how := 3)).2.1
  · exact pastC_fr hp1 (fun i k hi => hf2 i k (by omega) (by omega) (by omega))
  · exact fun i k hi => by rw [hf2 i k (by omega) (by omega) (by omega)]; exact hf1 i k (by omega)
def talkOK (A : Yd) (p w : Int) : Prop := ((0 ≤ p ∧ p < A 0 1) ∧ sLive A p = true) ∧ (0 ≤ w ∧ w ≤ 9) ∧ ¬ A 7 p = w
theorem c_talk {p w : Int} (hn : n ≤ 1000000) (hr : relC q h A P U X) (hx : okX n A P U X) (hK0 : ¬ talkOK A p w → ∀ h', relC q h' A P U (sRf X 2) → K 0 h') (hK1 : talkOK A p w → ∀ h', relC q h' (sUp A 7 p w) P (sKp U A) X → K 1 h') : m_OG_talk [0, p, w] h K := by
  have ho := hx.1.1
  have h6 := ho.1
  have no : ¬ talkOK A p w → m_OG_refuse [0, 2] h (fun _ h1 => K 0 h1) := fun z => c_refuse (by decide) hn hr hx (fun h1 hr1 => hK0 z h1 hr1)
  unfold m_OG_talk
  simp -implicitDefEqProofs only [↓dn_den, ↓dn_loc, ↓dn_k, ↓dn_add, ↓dn_sub, ↓dn_mul, ↓dn_div, ↓dn_rem, ↓dn_bop, ↓dn_ladd, ↓dn_lsub, ↓dn_lmul, ↓dn_ldiv, ↓dn_lrem, ↓dn_land, ↓dn_l2i, ↓dn_neg, ↓dn_get, ↓dn_fix, ↓dn_ald, ↓dn_gld, ↓dn_yld, ↓dn_len, ↓dn_gln, ↓dn_cc, ↓dn_cb, ↓dn_and, ↓dn_or, ↓dn_not, ↓dn_cite, ↓dn_ec, ↓dn_ei, ↓dn_skip, ↓dn_seq, ↓dn_set, ↓dn_inc, ↓dn_putf, ↓dn_putz, ↓dn_ast, ↓dn_exp, ↓dn_if, ↓dn_ret, ↓dn_retz, ↓dn_retv, ↓dn_brk, ↓dn_cont, ↓dn_cs, ↓dn_sw, ↓dn_pop32, ↓dn_pop64, ↓dn_aop, ↓dn_call, ↓dn_max, ↓dn_min, ↓dn_acp, ↓dn_i2l, ↓dn_args0, ↓dn_args1, og_pad, og_ent, og_rlt, og_rle, og_rgt, og_rge, og_req, og_rne, og_padd, og_psub, og_pmul, List.getD_cons_zero, List.getD_cons_succ, List.set_cons_zero, List.set_cons_succ, List.length_cons, List.length_nil, List.cons_append, List.nil_append, List.replicate, List.append_nil, Nat.reduceAdd, Nat.reduceSub, Nat.reduceEqDiff, if_true, if_false, reduceIte, Int.reduceAdd, Int.reduceSub, Int.reduceMul, Int.reduceNeg, Int.reduceLT, Int.reduceLE, Int.cast_ofNat_Int, true_or, or_true, true_and, and_true, false_and, List.mem_cons, List.not_mem_nil, or_false, false_or, ne_eq, og_i32]
  refine c_lives hr.1 ho ⟨fun b => ?_, fun b => no (fun z => iteP0 b z.1)⟩
  have hl := iteP1 b
  have yp := (hr.1.2.2.1 p hl.1.1 hl.1.2).2.2.1
  simp only [Int.reduceAdd] at yp
  rw [yp]
  refine ⟨fun c => no (fun z => by have := z.2.1; omega), fun c => ⟨fun d => no (fun z => by have := z.2.1; omega), fun d => ?_⟩⟩
  repeat (refine And.intro (by omega) ?_)
  refine ⟨fun e => no (fun z => z.2.2 e), fun e => ?_⟩
  refine c_keep hr.1 ho hr.2.1 (fun h1 hy1 hp1 hf1 => ?_)
  repeat (refine And.intro (by omega) ?_)
  refine hK1 ⟨hl, by omega, e⟩ _ (relC_act hr ?_ ?_ ?_ ?_ ?_)
  · exact sUp_c (by decide)
  · exact sUp_c (by decide)
  · have := isY_up (y := 100) (c := 7) (k := p) (v := w) (by decide) hy1
    simpa only [Int.reduceAdd] using this
  · exact pastC_fr hp1 (fun i k hi => og_up_i (by omega))
  · exact fun i k hi => by rw [og_up_i (by omega)]; exact hf1 i k (by omega)
def monthsOK (A : Yd) (m : Int) : Prop := (1 ≤ m ∧ m ≤ 100) ∧ A 0 2 + m ≤ 999
theorem c_months {m : Int} (hn : n ≤ 1000000) (hr : relC q h A P U X) (hx : okX n A P U X) (hK0 : ¬ monthsOK A m → ∀ h', relC q h' A P U (sRf X 3) → K (-1) h') (hK1 : monthsOK A m → ∀ h', relC q h' (sIt P A m.toNat) P (sKp U A) X → K (sTot P A m.toNat) h') : m_OG_months [0, m] h K := by
  have ho := hx.1.1
  have h6 := ho.1
  have hm0 := hx.1.2.2
  have hP := hx.2.1.1
  have hc := relC_isC hr
  have ht := hc.2.1
  unfold toldOK at ht
  unfold m_OG_months
  simp -implicitDefEqProofs only [↓dn_den, ↓dn_loc, ↓dn_k, ↓dn_add, ↓dn_sub, ↓dn_mul, ↓dn_div, ↓dn_rem, ↓dn_bop, ↓dn_ladd, ↓dn_lsub, ↓dn_lmul, ↓dn_ldiv, ↓dn_lrem, ↓dn_land, ↓dn_l2i, ↓dn_neg, ↓dn_get, ↓dn_fix, ↓dn_ald, ↓dn_gld, ↓dn_yld, ↓dn_len, ↓dn_gln, ↓dn_cc, ↓dn_cb, ↓dn_and, ↓dn_or, ↓dn_not, ↓dn_cite, ↓dn_ec, ↓dn_ei, ↓dn_skip, ↓dn_seq, ↓dn_set, ↓dn_inc, ↓dn_putf, ↓dn_putz, ↓dn_ast, ↓dn_exp, ↓dn_if, ↓dn_ret, ↓dn_retz, ↓dn_retv, ↓dn_brk, ↓dn_cont, ↓dn_cs, ↓dn_sw, ↓dn_pop32, ↓dn_pop64, ↓dn_aop, ↓dn_call, ↓dn_max, ↓dn_min, ↓dn_acp, ↓dn_i2l, ↓dn_args0, ↓dn_args1, og_pad, og_ent, og_rlt, og_rle, og_rgt, og_rge, og_req, og_rne, og_padd, og_psub, og_pmul, List.getD_cons_zero, List.getD_cons_succ, List.set_cons_zero, List.set_cons_succ, List.length_cons, List.length_nil, List.cons_append, List.nil_append, List.replicate, List.append_nil, Nat.reduceAdd, Nat.reduceSub, Nat.reduceEqDiff, if_true, if_false, reduceIte, Int.reduceAdd, Int.reduceSub, Int.reduceMul, Int.reduceNeg, Int.reduceLT, Int.reduceLE, Int.cast_ofNat_Int, true_or, or_true, true_and, and_true, false_and, List.mem_cons, List.not_mem_nil, or_false, false_or, ne_eq, og_i32]
  refine c_canPass hr.1 (by omega) ⟨fun a => ?_, fun a => c_refuse (by decide) hn hr hx (hK0 (iteP0 a))⟩
  have hm := iteP1 a
  refine c_keep hr.1 ho hr.2.1 (fun h1 hy1 hp1 hf1 => ?_)
  refine ⟨fun e2 h2 => (∃ c3, e2 = [0, m, sTot P A m.toNat, c3]) ∧ isY h2 100 (sIt P A m.toNat) ∧ frY 100 h1 h2, ?_, ?_⟩
  · simp -implicitDefEqProofs only [↓dn_den, ↓dn_loc, ↓dn_k, ↓dn_add, ↓dn_sub, ↓dn_mul, ↓dn_div, ↓dn_rem, ↓dn_bop, ↓dn_ladd, ↓dn_lsub, ↓dn_lmul, ↓dn_ldiv, ↓dn_lrem, ↓dn_land, ↓dn_l2i, ↓dn_neg, ↓dn_get, ↓dn_fix, ↓dn_ald, ↓dn_gld, ↓dn_yld, ↓dn_len, ↓dn_gln, ↓dn_cc, ↓dn_cb, ↓dn_and, ↓dn_or, ↓dn_not, ↓dn_cite, ↓dn_ec, ↓dn_ei, ↓dn_skip, ↓dn_seq, ↓dn_set, ↓dn_inc, ↓dn_putf, ↓dn_putz, ↓dn_ast, ↓dn_exp, ↓dn_if, ↓dn_ret, ↓dn_retz, ↓dn_retv, ↓dn_brk, ↓dn_cont, ↓dn_cs, ↓dn_sw, ↓dn_pop32, ↓dn_pop64, ↓dn_aop, ↓dn_call, ↓dn_max, ↓dn_min, ↓dn_acp, ↓dn_i2l, ↓dn_args0, ↓dn_args1, og_pad, og_ent, og_rlt, og_rle, og_rgt, og_rge, og_req, og_rne, og_padd, og_psub, og_pmul, List.getD_cons_zero, List.getD_cons_succ, List.set_cons_zero, List.set_cons_succ, List.length_cons, List.length_nil, List.cons_append, List.nil_append, List.replicate, List.append_nil, Nat.reduceAdd, Nat.reduceSub, Nat.reduceEqDiff, if_true, if_false, reduceIte, Int.reduceAdd, Int.reduceSub, Int.reduceMul, Int.reduceNeg, Int.reduceLT, Int.reduceLE, Int.cast_ofNat_Int, true_or, or_true, true_and, and_true, false_and, List.mem_cons, List.not_mem_nil, or_false, false_or, ne_eq]
    refine og_loop m.toNat (fun i e2 h2 => e2 = [0, m, sTot P A i, (i : Int)] ∧ isY h2 100 (sIt P A i) ∧ frY 100 h1 h2) ⟨rfl, hy1, frY_rf⟩ ?_
    rintro i e2 h2 hi ⟨rfl, hy2, hf2⟩
    simp -implicitDefEqProofs only [↓dn_den, ↓dn_loc, ↓dn_k, ↓dn_add, ↓dn_sub, ↓dn_mul, ↓dn_div, ↓dn_rem, ↓dn_bop, ↓dn_ladd, ↓dn_lsub, ↓dn_lmul, ↓dn_ldiv, ↓dn_lrem, ↓dn_land, ↓dn_l2i, ↓dn_neg, ↓dn_get, ↓dn_fix, ↓dn_ald, ↓dn_gld, ↓dn_yld, ↓dn_len, ↓dn_gln, ↓dn_cc, ↓dn_cb, ↓dn_and, ↓dn_or, ↓dn_not, ↓dn_cite, ↓dn_ec, ↓dn_ei, ↓dn_skip, ↓dn_seq, ↓dn_set, ↓dn_inc, ↓dn_putf, ↓dn_putz, ↓dn_ast, ↓dn_exp, ↓dn_if, ↓dn_ret, ↓dn_retz, ↓dn_retv, ↓dn_brk, ↓dn_cont, ↓dn_cs, ↓dn_sw, ↓dn_pop32, ↓dn_pop64, ↓dn_aop, ↓dn_call, ↓dn_max, ↓dn_min, ↓dn_acp, ↓dn_i2l, ↓dn_args0, ↓dn_args1, og_pad, og_ent, og_rlt, og_rle, og_rgt, og_rge, og_req, og_rne, og_padd, og_psub, og_pmul, List.getD_cons_zero, List.getD_cons_succ, List.set_cons_zero, List.set_cons_succ, List.length_cons, List.length_nil, List.cons_append, List.nil_append, List.replicate, List.append_nil, Nat.reduceAdd, Nat.reduceSub, Nat.reduceEqDiff, if_true, if_false, reduceIte, Int.reduceAdd, Int.reduceSub, Int.reduceMul, Int.reduceNeg, Int.reduceLT, Int.reduceLE, Int.cast_ofNat_Int, true_or, or_true, true_and, and_true, false_and, List.mem_cons, List.not_mem_nil, or_false, false_or, ne_eq, og_i32]
    refine ⟨fun hlt => ?_, fun hge => ?_⟩
    · have s0 := sIt_0 (P := P) (A := A) i
      have oi := okY_it (P := P) ho i (by omega)
      have tg := sTot_rg (P := P) ho i (by omega)
      have tk := sTk_rg (P := P) oi
      have e15 : h2 0 15 = h 0 15 := by rw [hf2 _ _ (by decide) (by decide) (by decide), hf1 _ _ (by decide)]
      rw [e15]
      have hR1 : hasR h1 (h 0 15 + 2) (A 0 1) P := fun n0 r r0 r1 => isR_eq (hc.2.2 n0 r r0 r1) (fun i k p q => hf1 i k (by omega))
      refine s_Alm_pass (hasR_N (hasR_fr hR1 hf2 (by omega) (by omega)) s0.2.1) hP (by omega) (by omega) hy2 oi (by omega) (fun h3 hy3 hf3 => ?_)
      repeat (refine And.intro (by omega) ?_)
      exact og_nx_mk (by omega) ⟨by rw [sTot_s]; simp, hy3, frY_tr hf2 hf3⟩
    · have e : i = m.toNat := by omega
      subst e
      exact ⟨⟨_, rfl⟩, hy2, hf2⟩
  · rintro e2 h2 ⟨⟨c3, rfl⟩, hy2, hf2⟩
    simp -implicitDefEqProofs only [↓dn_den, ↓dn_loc, ↓dn_k, ↓dn_add, ↓dn_sub, ↓dn_mul, ↓dn_div, ↓dn_rem, ↓dn_bop, ↓dn_ladd, ↓dn_lsub, ↓dn_lmul, ↓dn_ldiv, ↓dn_lrem, ↓dn_land, ↓dn_l2i, ↓dn_neg, ↓dn_get, ↓dn_fix, ↓dn_ald, ↓dn_gld, ↓dn_yld, ↓dn_len, ↓dn_gln, ↓dn_cc, ↓dn_cb, ↓dn_and, ↓dn_or, ↓dn_not, ↓dn_cite, ↓dn_ec, ↓dn_ei, ↓dn_skip, ↓dn_seq, ↓dn_set, ↓dn_inc, ↓dn_putf, ↓dn_putz, ↓dn_ast, ↓dn_exp, ↓dn_if, ↓dn_ret, ↓dn_retz, ↓dn_retv, ↓dn_brk, ↓dn_cont, ↓dn_cs, ↓dn_sw, ↓dn_pop32, ↓dn_pop64, ↓dn_aop, ↓dn_call, ↓dn_max, ↓dn_min, ↓dn_acp, ↓dn_i2l, ↓dn_args0, ↓dn_args1, og_pad, og_ent, og_rlt, og_rle, og_rgt, og_rge, og_req, og_rne, og_padd, og_psub, og_pmul, List.getD_cons_zero, List.getD_cons_succ, List.set_cons_zero, List.set_cons_succ, List.length_cons, List.length_nil, List.cons_append, List.nil_append, List.replicate, List.append_nil, Nat.reduceAdd, Nat.reduceSub, Nat.reduceEqDiff, if_true, if_false, reduceIte, Int.reduceAdd, Int.reduceSub, Int.reduceMul, Int.reduceNeg, Int.reduceLT, Int.reduceLE, Int.cast_ofNat_Int, true_or, or_true, true_and, and_true, false_and, List.mem_cons, List.not_mem_nil, or_false, false_or, ne_eq]
    have s0 := sIt_0 (P := P) (A := A) m.toNat
    exact hK1 hm _ (relC_act hr s0.1 s0.2.1 hy2 (pastC_fr hp1 (fun i k hi => hf2 i k (by omega) (by omega) (by omega))) (fun i k hi => by rw [hf2 i k (by omega) (by omega) (by omega)]; exact hf1 i k (by omega)))
theorem c_undo (hn : n ≤ 1000000) (hr : relC q h A P U X) (hx : okX n A P U X) (hK0 : U = [] → ∀ h', relC q h' A P U (sRf X 4) → K 0 h') (hK1 : U ≠ [] → ∀ h', relC q h' (U.getD (U.length - 1) (fun _ _ => 0)) P U.dropLast X → K 1 h') : m_OG_undo [0] h K := by
  obtain ⟨⟨a, b, c, d⟩, e⟩ := hr.2.1
  unfold m_OG_undo
  simp -implicitDefEqProofs only [↓dn_den, ↓dn_loc, ↓dn_k, ↓dn_add, ↓dn_sub, ↓dn_mul, ↓dn_div, ↓dn_rem, ↓dn_bop, ↓dn_ladd, ↓dn_lsub, ↓dn_lmul, ↓dn_ldiv, ↓dn_lrem, ↓dn_land, ↓dn_l2i, ↓dn_neg, ↓dn_get, ↓dn_fix, ↓dn_ald, ↓dn_gld, ↓dn_yld, ↓dn_len, ↓dn_gln, ↓dn_cc, ↓dn_cb, ↓dn_and, ↓dn_or, ↓dn_not, ↓dn_cite, ↓dn_ec, ↓dn_ei, ↓dn_skip, ↓dn_seq, ↓dn_set, ↓dn_inc, ↓dn_putf, ↓dn_putz, ↓dn_ast, ↓dn_exp, ↓dn_if, ↓dn_ret, ↓dn_retz, ↓dn_retv, ↓dn_brk, ↓dn_cont, ↓dn_cs, ↓dn_sw, ↓dn_pop32, ↓dn_pop64, ↓dn_aop, ↓dn_call, ↓dn_max, ↓dn_min, ↓dn_acp, ↓dn_i2l, ↓dn_args0, ↓dn_args1, og_pad, og_ent, og_rlt, og_rle, og_rgt, og_rge, og_req, og_rne, og_padd, og_psub, og_pmul, List.getD_cons_zero, List.getD_cons_succ, List.set_cons_zero, List.set_cons_succ, List.length_cons, List.length_nil, List.cons_append, List.nil_append, List.replicate, List.append_nil, Nat.reduceAdd, Nat.reduceSub, Nat.reduceEqDiff, if_true, if_false, reduceIte, Int.reduceAdd, Int.reduceSub, Int.reduceMul, Int.reduceNeg, Int.reduceLT, Int.reduceLE, Int.cast_ofNat_Int, true_or, or_true, true_and, and_true, false_and, List.mem_cons, List.not_mem_nil, or_false, false_or, ne_eq]
  rw [a]
  refine ⟨fun z => c_refuse (by decide) hn hr hx (fun h1 hr1 => hK0 (List.eq_nil_of_length_eq_zero (by omega)) h1 hr1), fun z => ?_⟩
  have hl : 0 < U.length := by omega
  have hu := hx.2.2.1 (U.length - 1) (by omega)
  unfold m_Past_restore
  simp -implicitDefEqProofs only [↓dn_den, ↓dn_loc, ↓dn_k, ↓dn_add, ↓dn_sub, ↓dn_mul, ↓dn_div, ↓dn_rem, ↓dn_bop, ↓dn_ladd, ↓dn_lsub, ↓dn_lmul, ↓dn_ldiv, ↓dn_lrem, ↓dn_land, ↓dn_l2i, ↓dn_neg, ↓dn_get, ↓dn_fix, ↓dn_ald, ↓dn_gld, ↓dn_yld, ↓dn_len, ↓dn_gln, ↓dn_cc, ↓dn_cb, ↓dn_and, ↓dn_or, ↓dn_not, ↓dn_cite, ↓dn_ec, ↓dn_ei, ↓dn_skip, ↓dn_seq, ↓dn_set, ↓dn_inc, ↓dn_putf, ↓dn_putz, ↓dn_ast, ↓dn_exp, ↓dn_if, ↓dn_ret, ↓dn_retz, ↓dn_retv, ↓dn_brk, ↓dn_cont, ↓dn_cs, ↓dn_sw, ↓dn_pop32, ↓dn_pop64, ↓dn_aop, ↓dn_call, ↓dn_max, ↓dn_min, ↓dn_acp, ↓dn_i2l, ↓dn_args0, ↓dn_args1, og_pad, og_ent, og_rlt, og_rle, og_rgt, og_rge, og_req, og_rne, og_padd, og_psub, og_pmul, List.getD_cons_zero, List.getD_cons_succ, List.set_cons_zero, List.set_cons_succ, List.length_cons, List.length_nil, List.cons_append, List.nil_append, List.replicate, List.append_nil, Nat.reduceAdd, Nat.reduceSub, Nat.reduceEqDiff, if_true, if_false, reduceIte, Int.reduceAdd, Int.reduceSub, Int.reduceMul, Int.reduceNeg, Int.reduceLT, Int.reduceLE, Int.cast_ofNat_Int, true_or, or_true, true_and, and_true, false_and, List.mem_cons, List.not_mem_nil, or_false, false_or, ne_eq, og_i32]
  rw [a]
  have ec : (U.length : Int) - 1 = ((U.length - 1 : Nat) : Int) := by omega
  rw [ec, og_up_eq, og_up_k (by decide)]
  have em : (h 20 2 + ((U.length - 1 : Nat) : Int)).tmod 20 = (h 20 2 + ((U.length - 1 : Nat) : Int)) % 20 := Int.tmod_eq_emod_of_nonneg (by omega)
  rw [em]
  refine ⟨fun _ => ⟨by omega, by omega, by decide, by omega, by omega, ?_⟩, fun z => by omega⟩
  have hyL := isY_fr (h' := og_up h 20 1 ((U.length - 1 : Nat) : Int)) (e (U.length - 1) (by omega)) (fun i k a b => og_up_i (by omega))
  refine s_Yard_become (by omega) hyL hu.1 (fun h2 hy2 hf2 => ?_)
  have hne : U ≠ [] := fun z => by rw [z] at hl; simp at hl
  refine hK1 hne h2 (relC_act hr hu.2.2.2.1 hu.2.2.2.2.1 hy2 ?_ (fun i k hi => by rw [hf2 i k (by omega) (by omega) (by omega), og_up_i (by omega)]))
  have dl : U.dropLast.length = U.length - 1 := List.length_dropLast
  refine ⟨⟨by rw [hf2 _ _ (by decide) (by decide) (by decide), og_up_eq, dl], by omega, by rw [hf2 _ _ (by decide) (by decide) (by decide), og_up_k (by decide)]; exact c, by rw [hf2 _ _ (by decide) (by decide) (by decide), og_up_k (by decide)]; exact d⟩, fun j hj => ?_⟩
  rw [dl] at hj
  have e20 : h2 20 2 = h 20 2 := by rw [hf2 _ _ (by decide) (by decide) (by decide), og_up_k (by decide)]
  have eg : U.dropLast.getD j (fun _ _ => 0) = U.getD j (fun _ _ => 0) := by
    rw [List.getD_eq_getElem?_getD, List.getD_eq_getElem?_getD, List.getElem?_dropLast, if_pos (by omega)]
  rw [e20, eg]
  exact isY_fr (e j (by omega)) (fun i k a b => by rw [hf2 i k (by omega) (by omega) (by omega), og_up_i (by omega)])
end
end
