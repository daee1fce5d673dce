section
-- the class: rules
def pc (C : og_Cd) (env : List Int) (P : Prop) : Prop := ∀ h (T F : Hp → Prop), (P → T h) → (¬ P → F h) → C env h T F
theorem pc_cc {r : Int → Int → Prop} {k : Nat} {x : Int} {env : List Int} : pc (og_cc r (og_loc k) (og_k x)) env (r (env.getD k 0) x) := fun h T F a b => ⟨a, b⟩
theorem pc_and {C E : og_Cd} {env : List Int} {P Q : Prop} (hC : pc C env P) (hE : pc E env Q) : pc (og_and C E) env (P ∧ Q) := fun h T F a b => by
  rw [dn_and]
  exact hC h _ _ (fun p => hE h _ _ (fun q => a ⟨p, q⟩) (fun q => b (fun z => q z.2))) (fun p => b (fun z => p z.1))
theorem pc_or {C E : og_Cd} {env : List Int} {P Q : Prop} (hC : pc C env P) (hE : pc E env Q) : pc (og_or C E) env (P ∨ Q) := fun h T F a b => by
  rw [dn_or]
  exact hC h _ _ (fun p => a (Or.inl p)) (fun p => hE h _ _ (fun q => a (Or.inr q)) (fun q => b (fun z => z.elim p q)))
theorem pc_if {C : og_Cd} {s1 s2 : og_St} {env : List Int} {h : Hp} {P : Prop} {N : List Int → Hp → Prop} {R : Int → Hp → Prop} {Bk Ct : List Int → Hp → Prop} (hC : pc C env P) (a : P → s1 env h N R Bk Ct) (b : ¬ P → s2 env h N R Bk Ct) : og_if C s1 s2 env h N R Bk Ct := by
  rw [dn_if]
  exact hC h _ _ a b
section
variable {h h0 h' : Hp} {B : Int → Int} {n a : Int} {t : TS} {K : Int → Hp → Prop} {D : Yd} {R : Pr} {c : List Int}
theorem w_holds {s r : Int} (hr : 0 ≤ r ∧ r < 14) (hK : K (if h (s + 2) r < h (s + 3) r then 1 else 0) h) : m_Script_holds [s, r] h K := by
  unfold m_Script_holds
  simp -implicitDefEqProofs only [↓dn_den, ↓dn_loc, ↓dn_k, ↓dn_add, ↓dn_sub, ↓dn_mul, ↓dn_div, ↓dn_rem, ↓dn_bop, ↓dn_ladd, ↓dn_lsub, ↓dn_lmul, ↓dn_ldiv, ↓dn_lrem, ↓dn_land, ↓dn_l2i, ↓dn_neg, ↓dn_get, ↓dn_fix, ↓dn_ald, ↓dn_gld, ↓dn_yld, ↓dn_len, ↓dn_gln, ↓dn_cc, ↓dn_cb, ↓dn_and, ↓dn_or, ↓dn_not, ↓dn_cite, ↓dn_ec, ↓dn_ei, ↓dn_skip, ↓dn_seq, ↓dn_set, ↓dn_inc, ↓dn_putf, ↓dn_putz, ↓dn_ast, ↓dn_exp, ↓dn_if, ↓dn_ret, ↓dn_retz, ↓dn_retv, ↓dn_brk, ↓dn_cont, ↓dn_cs, ↓dn_sw, ↓dn_pop32, ↓dn_pop64, ↓dn_aop, ↓dn_call, ↓dn_max, ↓dn_min, ↓dn_acp, ↓dn_i2l, ↓dn_args0, ↓dn_args1, og_pad, og_ent, og_rlt, og_rle, og_rgt, og_rge, og_req, og_rne, og_padd, og_psub, og_pmul, List.getD_cons_zero, List.getD_cons_succ, List.set_cons_zero, List.set_cons_succ, List.length_cons, List.length_nil, List.cons_append, List.nil_append, List.replicate, List.append_nil, Nat.reduceAdd, Nat.reduceSub, Nat.reduceEqDiff, if_true, if_false, reduceIte, Int.reduceAdd, Int.reduceSub, Int.reduceMul, Int.reduceNeg, Int.reduceLT, Int.reduceLE, Int.cast_ofNat_Int, true_or, or_true, true_and, and_true, false_and, List.mem_cons, List.not_mem_nil, or_false, false_or, ne_eq]
  refine ⟨hr.1, hr.2, hr.1, hr.2, fun z => ?_, fun z => ?_⟩
  · rw [if_pos z] at hK; first | exact hK | exact ⟨by decide, hK⟩
  · rw [if_neg z] at hK; first | exact hK | exact ⟨by decide, hK⟩
theorem w_begin {s r : Int} (hr : 0 ≤ r ∧ r < 14) (hK : K 0 (og_up h (s + 2) r (h s 3))) : m_Script_begin [s, r] h K := by
  unfold m_Script_begin
  simp -implicitDefEqProofs only [↓dn_den, ↓dn_loc, ↓dn_k, ↓dn_add, ↓dn_sub, ↓dn_mul, ↓dn_div, ↓dn_rem, ↓dn_bop, ↓dn_ladd, ↓dn_lsub, ↓dn_lmul, ↓dn_ldiv, ↓dn_lrem, ↓dn_land, ↓dn_l2i, ↓dn_neg, ↓dn_get, ↓dn_fix, ↓dn_ald, ↓dn_gld, ↓dn_yld, ↓dn_len, ↓dn_gln, ↓dn_cc, ↓dn_cb, ↓dn_and, ↓dn_or, ↓dn_not, ↓dn_cite, ↓dn_ec, ↓dn_ei, ↓dn_skip, ↓dn_seq, ↓dn_set, ↓dn_inc, ↓dn_putf, ↓dn_putz, ↓dn_ast, ↓dn_exp, ↓dn_if, ↓dn_ret, ↓dn_retz, ↓dn_retv, ↓dn_brk, ↓dn_cont, ↓dn_cs, ↓dn_sw, ↓dn_pop32, ↓dn_pop64, ↓dn_aop, ↓dn_call, ↓dn_max, ↓dn_min, ↓dn_acp, ↓dn_i2l, ↓dn_args0, ↓dn_args1, og_pad, og_ent, og_rlt, og_rle, og_rgt, og_rge, og_req, og_rne, og_padd, og_psub, og_pmul, List.getD_cons_zero, List.getD_cons_succ, List.set_cons_zero, List.set_cons_succ, List.length_cons, List.length_nil, List.cons_append, List.nil_append, List.replicate, List.append_nil, Nat.reduceAdd, Nat.reduceSub, Nat.reduceEqDiff, if_true, if_false, reduceIte, Int.reduceAdd, Int.reduceSub, Int.reduceMul, Int.reduceNeg, Int.reduceLT, Int.reduceLE, Int.cast_ofNat_Int, true_or, or_true, true_and, and_true, false_and, List.mem_cons, List.not_mem_nil, or_false, false_or, ne_eq]
  exact ⟨hr.1, hr.2, hK⟩
theorem w_finish {s r : Int} (hr : 0 ≤ r ∧ r < 14) (hK : K 0 (og_up h (s + 3) r (h s 3))) : m_Script_finish [s, r] h K := by
  unfold m_Script_finish
  simp -implicitDefEqProofs only [↓dn_den, ↓dn_loc, ↓dn_k, ↓dn_add, ↓dn_sub, ↓dn_mul, ↓dn_div, ↓dn_rem, ↓dn_bop, ↓dn_ladd, ↓dn_lsub, ↓dn_lmul, ↓dn_ldiv, ↓dn_lrem, ↓dn_land, ↓dn_l2i, ↓dn_neg, ↓dn_get, ↓dn_fix, ↓dn_ald, ↓dn_gld, ↓dn_yld, ↓dn_len, ↓dn_gln, ↓dn_cc, ↓dn_cb, ↓dn_and, ↓dn_or, ↓dn_not, ↓dn_cite, ↓dn_ec, ↓dn_ei, ↓dn_skip, ↓dn_seq, ↓dn_set, ↓dn_inc, ↓dn_putf, ↓dn_putz, ↓dn_ast, ↓dn_exp, ↓dn_if, ↓dn_ret, ↓dn_retz, ↓dn_retv, ↓dn_brk, ↓dn_cont, ↓dn_cs, ↓dn_sw, ↓dn_pop32, ↓dn_pop64, ↓dn_aop, ↓dn_call, ↓dn_max, ↓dn_min, ↓dn_acp, ↓dn_i2l, ↓dn_args0, ↓dn_args1, og_pad, og_ent, og_rlt, og_rle, og_rgt, og_rge, og_req, og_rne, og_padd, og_psub, og_pmul, List.getD_cons_zero, List.getD_cons_succ, List.set_cons_zero, List.set_cons_succ, List.length_cons, List.length_nil, List.cons_append, List.nil_append, List.replicate, List.append_nil, Nat.reduceAdd, Nat.reduceSub, Nat.reduceEqDiff, if_true, if_false, reduceIte, Int.reduceAdd, Int.reduceSub, Int.reduceMul, Int.reduceNeg, Int.reduceLT, Int.reduceLE, Int.cast_ofNat_Int, true_or, or_true, true_and, and_true, false_and, List.mem_cons, List.not_mem_nil, or_false, false_or, ne_eq]
  exact ⟨hr.1, hr.2, hK⟩
theorem w_clear {s : Int} (hs : s = 32 ∨ s = 42) (hK : ∀ h', h' s 3 = 0 → (∀ r, 0 ≤ r → r < 14 → h' (s + 2) r = 0 ∧ h' (s + 3) r = 0) → (∀ i k, ¬ (i = s ∧ k = 3) → i ≠ s + 2 → i ≠ s + 3 → h' i k = h i k) → K 0 h') : m_Script_clear [s] h K := by
  unfold m_Script_clear
  simp -implicitDefEqProofs only [↓dn_den, ↓dn_loc, ↓dn_k, ↓dn_add, ↓dn_sub, ↓dn_mul, ↓dn_div, ↓dn_rem, ↓dn_bop, ↓dn_ladd, ↓dn_lsub, ↓dn_lmul, ↓dn_ldiv, ↓dn_lrem, ↓dn_land, ↓dn_l2i, ↓dn_neg, ↓dn_get, ↓dn_fix, ↓dn_ald, ↓dn_gld, ↓dn_yld, ↓dn_len, ↓dn_gln, ↓dn_cc, ↓dn_cb, ↓dn_and, ↓dn_or, ↓dn_not, ↓dn_cite, ↓dn_ec, ↓dn_ei, ↓dn_skip, ↓dn_seq, ↓dn_set, ↓dn_inc, ↓dn_putf, ↓dn_putz, ↓dn_ast, ↓dn_exp, ↓dn_if, ↓dn_ret, ↓dn_retz, ↓dn_retv, ↓dn_brk, ↓dn_cont, ↓dn_cs, ↓dn_sw, ↓dn_pop32, ↓dn_pop64, ↓dn_aop, ↓dn_call, ↓dn_max, ↓dn_min, ↓dn_acp, ↓dn_i2l, ↓dn_args0, ↓dn_args1, og_pad, og_ent, og_rlt, og_rle, og_rgt, og_rge, og_req, og_rne, og_padd, og_psub, og_pmul, List.getD_cons_zero, List.getD_cons_succ, List.set_cons_zero, List.set_cons_succ, List.length_cons, List.length_nil, List.cons_append, List.nil_append, List.replicate, List.append_nil, Nat.reduceAdd, Nat.reduceSub, Nat.reduceEqDiff, if_true, if_false, reduceIte, Int.reduceAdd, Int.reduceSub, Int.reduceMul, Int.reduceNeg, Int.reduceLT, Int.reduceLE, Int.cast_ofNat_Int, true_or, or_true, true_and, and_true, false_and, List.mem_cons, List.not_mem_nil, or_false, false_or, ne_eq]
  refine og_loop 14 (fun i e1 h1 => e1 = [s, (i : Int)] ∧ h1 s 3 = 0 ∧ (∀ r, 0 ≤ r → r < (i : Int) → h1 (s + 2) r = 0 ∧ h1 (s + 3) r = 0) ∧ (∀ j k, ¬ (j = s ∧ k = 3) → j ≠ s + 2 → j ≠ s + 3 → h1 j k = h j k)) ⟨rfl, og_up_eq, fun r a b => by omega, fun j k p _ _ => by unfold og_up; exact if_neg p⟩ ?_
  rintro i e1 h1 hi ⟨rfl, z1, z2, z3⟩
  simp -implicitDefEqProofs only [↓dn_den, ↓dn_loc, ↓dn_k, ↓dn_add, ↓dn_sub, ↓dn_mul, ↓dn_div, ↓dn_rem, ↓dn_bop, ↓dn_ladd, ↓dn_lsub, ↓dn_lmul, ↓dn_ldiv, ↓dn_lrem, ↓dn_land, ↓dn_l2i, ↓dn_neg, ↓dn_get, ↓dn_fix, ↓dn_ald, ↓dn_gld, ↓dn_yld, ↓dn_len, ↓dn_gln, ↓dn_cc, ↓dn_cb, ↓dn_and, ↓dn_or, ↓dn_not, ↓dn_cite, ↓dn_ec, ↓dn_ei, ↓dn_skip, ↓dn_seq, ↓dn_set, ↓dn_inc, ↓dn_putf, ↓dn_putz, ↓dn_ast, ↓dn_exp, ↓dn_if, ↓dn_ret, ↓dn_retz, ↓dn_retv, ↓dn_brk, ↓dn_cont, ↓dn_cs, ↓dn_sw, ↓dn_pop32, ↓dn_pop64, ↓dn_aop, ↓dn_call, ↓dn_max, ↓dn_min, ↓dn_acp, ↓dn_i2l, ↓dn_args0, ↓dn_args1, og_pad, og_ent, og_rlt, og_rle, og_rgt, og_rge, og_req, og_rne, og_padd, og_psub, og_pmul, List.getD_cons_zero, List.getD_cons_succ, List.set_cons_zero, List.set_cons_succ, List.length_cons, List.length_nil, List.cons_append, List.nil_append, List.replicate, List.append_nil, Nat.reduceAdd, Nat.reduceSub, Nat.reduceEqDiff, if_true, if_false, reduceIte, Int.reduceAdd, Int.reduceSub, Int.reduceMul, Int.reduceNeg, Int.reduceLT, Int.reduceLE, Int.cast_ofNat_Int, true_or, or_true, true_and, and_true, false_and, List.mem_cons, List.not_mem_nil, or_false, false_or, ne_eq, og_i32]
  refine ⟨fun q => ⟨by omega, by omega, by omega, by omega, by omega, og_nx_mk (by omega) ⟨by simp, ?_, fun r r0 r1 => ?_, fun j k p q r => ?_⟩⟩, fun q => hK h1 z1 (fun r r0 r1 => z2 r r0 (by omega)) z3⟩
  · rw [og_up_i (by omega), og_up_i (by omega)]; exact z1
  · by_cases e : r = i
    · subst e
      exact ⟨by rw [og_up_i (by omega), og_up_eq], og_up_eq⟩
    · rw [og_up_i (by omega), og_up_k e, og_up_k e, og_up_i (by omega)]
      exact z2 r r0 (by omega)
  · rw [og_up_i r, og_up_i q]; exact z3 j k p q r
theorem w_readRule {s w x : Int} {t : Bool} (hs : s = 32 ∨ s = 42) (hw : 8 ≤ w ∧ w < 14) (hx : (x = 1 ∧ t = true) ∨ (x = 0 ∧ t = false)) (ht : txC h B n) (hk : st0 h s B n (.inl (a, c))) (hl : lenOK n (.inl (a, c)))
    (hK : ∀ h', st0 h' s B n (gR B n w t a c) → (∀ b c', gR B n w t a c = .inl (b, c') → h' (s + 2) w = c.length ∧ h' (s + 3) w = c'.length) → (∀ i k, i ≠ 3 → i ≠ 5 → i ≠ s + 1 → ¬ (i = s ∧ k = 3) → ¬ ((i = s + 2 ∨ i = s + 3) ∧ k = w) → h' i k = h i k) → K 0 h') : m_Grammar_readRule [5, s, w, x] h K := by
  unfold m_Grammar_readRule
  simp -implicitDefEqProofs only [↓dn_den, ↓dn_loc, ↓dn_k, ↓dn_add, ↓dn_sub, ↓dn_mul, ↓dn_div, ↓dn_rem, ↓dn_bop, ↓dn_ladd, ↓dn_lsub, ↓dn_lmul, ↓dn_ldiv, ↓dn_lrem, ↓dn_land, ↓dn_l2i, ↓dn_neg, ↓dn_get, ↓dn_fix, ↓dn_ald, ↓dn_gld, ↓dn_yld, ↓dn_len, ↓dn_gln, ↓dn_cc, ↓dn_cb, ↓dn_and, ↓dn_or, ↓dn_not, ↓dn_cite, ↓dn_ec, ↓dn_ei, ↓dn_skip, ↓dn_seq, ↓dn_set, ↓dn_inc, ↓dn_putf, ↓dn_putz, ↓dn_ast, ↓dn_exp, ↓dn_if, ↓dn_ret, ↓dn_retz, ↓dn_retv, ↓dn_brk, ↓dn_cont, ↓dn_cs, ↓dn_sw, ↓dn_pop32, ↓dn_pop64, ↓dn_aop, ↓dn_call, ↓dn_max, ↓dn_min, ↓dn_acp, ↓dn_i2l, ↓dn_args0, ↓dn_args1, og_pad, og_ent, og_rlt, og_rle, og_rgt, og_rge, og_req, og_rne, og_padd, og_psub, og_pmul, List.getD_cons_zero, List.getD_cons_succ, List.set_cons_zero, List.set_cons_succ, List.length_cons, List.length_nil, List.cons_append, List.nil_append, List.replicate, List.append_nil, Nat.reduceAdd, Nat.reduceSub, Nat.reduceEqDiff, if_true, if_false, reduceIte, Int.reduceAdd, Int.reduceSub, Int.reduceMul, Int.reduceNeg, Int.reduceLT, Int.reduceLE, Int.cast_ofNat_Int, true_or, or_true, true_and, and_true, false_and, List.mem_cons, List.not_mem_nil, or_false, false_or, ne_eq]
  refine w_begin ⟨by omega, by omega⟩ ?_
  have e3 : og_up (og_up h 5 1 s) 5 2 w s 3 = h s 3 := by rw [og_up_i (by omega), og_up_i (by omega)]
  rw [e3]
  have u : ∀ i k, i ≠ 5 → ¬ (i = s + 2 ∧ k = w) → og_up (og_up (og_up h 5 1 s) 5 2 w) (s + 2) w (h s 3) i k = h i k := fun i k p q => by
    unfold og_up
    rw [if_neg q, if_neg (fun z => p z.1), if_neg (fun z => p z.1)]
  have u5 : og_up (og_up (og_up h 5 1 s) 5 2 w) (s + 2) w (h s 3) 5 1 = s ∧ og_up (og_up (og_up h 5 1 s) 5 2 w) (s + 2) w (h s 3) 5 2 = w := ⟨by rw [og_up_i (by omega), og_up_k (by decide), og_up_eq], by rw [og_up_i (by omega), og_up_eq]⟩
  have uf : og_up (og_up (og_up h 5 1 s) 5 2 w) (s + 2) w (h s 3) (s + 2) w = c.length := by rw [og_up_eq]; exact hk.2.1
  generalize og_up (og_up (og_up h 5 1 s) 5 2 w) (s + 2) w (h s 3) = h1 at u u5 uf
  have ct : ctG h1 B n s w := ⟨txC_fr ht (fun i k hi => u i k (by omega) (by omega)), u5, hs⟩
  have k1 : st0 h1 s B n (.inl (a, c)) := st0_fr3 hk hs (fun k => u _ _ (by decide) (by omega)) (u _ _ (by omega) (by omega)) (fun k => u _ _ (by omega) (by omega))
  refine ⟨fun e2 h2 => e2 = [5, s, w, x] ∧ st0 h2 s B n (gR B n w t a c) ∧ frG s h1 h2, ?_, ?_⟩
  · simp -implicitDefEqProofs only [↓dn_den, ↓dn_loc, ↓dn_k, ↓dn_add, ↓dn_sub, ↓dn_mul, ↓dn_div, ↓dn_rem, ↓dn_bop, ↓dn_ladd, ↓dn_lsub, ↓dn_lmul, ↓dn_ldiv, ↓dn_lrem, ↓dn_land, ↓dn_l2i, ↓dn_neg, ↓dn_get, ↓dn_fix, ↓dn_ald, ↓dn_gld, ↓dn_yld, ↓dn_len, ↓dn_gln, ↓dn_cc, ↓dn_cb, ↓dn_and, ↓dn_or, ↓dn_not, ↓dn_cite, ↓dn_ec, ↓dn_ei, ↓dn_skip, ↓dn_seq, ↓dn_set, ↓dn_inc, ↓dn_putf, ↓dn_putz, ↓dn_ast, ↓dn_exp, ↓dn_if, ↓dn_ret, ↓dn_retz, ↓dn_retv, ↓dn_brk, ↓dn_cont, ↓dn_cs, ↓dn_sw, ↓dn_pop32, ↓dn_pop64, ↓dn_aop, ↓dn_call, ↓dn_max, ↓dn_min, ↓dn_acp, ↓dn_i2l, ↓dn_args0, ↓dn_args1, og_pad, og_ent, og_rlt, og_rle, og_rgt, og_rge, og_req, og_rne, og_padd, og_psub, og_pmul, List.getD_cons_zero, List.getD_cons_succ, List.set_cons_zero, List.set_cons_succ, List.length_cons, List.length_nil, List.cons_append, List.nil_append, List.replicate, List.append_nil, Nat.reduceAdd, Nat.reduceSub, Nat.reduceEqDiff, if_true, if_false, reduceIte, Int.reduceAdd, Int.reduceSub, Int.reduceMul, Int.reduceNeg, Int.reduceLT, Int.reduceLE, Int.cast_ofNat_Int, true_or, or_true, true_and, and_true, false_and, List.mem_cons, List.not_mem_nil, or_false, false_or, ne_eq]
    unfold gR
    rcases hx with ⟨rfl, rfl⟩ | ⟨rfl, rfl⟩
    · refine ⟨fun _ => g_testTop h1 _ (.inl (a, c)) ct k1 hl (fun h2 k2 f2 => ?_), fun z => absurd z (by decide)⟩
      first | exact ⟨rfl, k2, f2⟩ | exact ⟨k2, f2⟩
    · refine ⟨fun z => absurd (by trivial) z, fun _ => g_sumTop h1 _ (.inl (a, c)) ct k1 hl (fun h2 k2 f2 => ?_)⟩
      first | exact ⟨rfl, k2, f2⟩ | exact ⟨k2, f2⟩
  · rintro e2 h2 ⟨rfl, k2, f2⟩
    simp -implicitDefEqProofs only [↓dn_den, ↓dn_loc, ↓dn_k, ↓dn_add, ↓dn_sub, ↓dn_mul, ↓dn_div, ↓dn_rem, ↓dn_bop, ↓dn_ladd, ↓dn_lsub, ↓dn_lmul, ↓dn_ldiv, ↓dn_lrem, ↓dn_land, ↓dn_l2i, ↓dn_neg, ↓dn_get, ↓dn_fix, ↓dn_ald, ↓dn_gld, ↓dn_yld, ↓dn_len, ↓dn_gln, ↓dn_cc, ↓dn_cb, ↓dn_and, ↓dn_or, ↓dn_not, ↓dn_cite, ↓dn_ec, ↓dn_ei, ↓dn_skip, ↓dn_seq, ↓dn_set, ↓dn_inc, ↓dn_putf, ↓dn_putz, ↓dn_ast, ↓dn_exp, ↓dn_if, ↓dn_ret, ↓dn_retz, ↓dn_retv, ↓dn_brk, ↓dn_cont, ↓dn_cs, ↓dn_sw, ↓dn_pop32, ↓dn_pop64, ↓dn_aop, ↓dn_call, ↓dn_max, ↓dn_min, ↓dn_acp, ↓dn_i2l, ↓dn_args0, ↓dn_args1, og_pad, og_ent, og_rlt, og_rle, og_rgt, og_rge, og_req, og_rne, og_padd, og_psub, og_pmul, List.getD_cons_zero, List.getD_cons_succ, List.set_cons_zero, List.set_cons_succ, List.length_cons, List.length_nil, List.cons_append, List.nil_append, List.replicate, List.append_nil, Nat.reduceAdd, Nat.reduceSub, Nat.reduceEqDiff, if_true, if_false, reduceIte, Int.reduceAdd, Int.reduceSub, Int.reduceMul, Int.reduceNeg, Int.reduceLT, Int.reduceLE, Int.cast_ofNat_Int, true_or, or_true, true_and, and_true, false_and, List.mem_cons, List.not_mem_nil, or_false, false_or, ne_eq]
    refine w_finish ⟨by omega, by omega⟩ ?_
    have v : ∀ i k, ¬ (i = s + 3 ∧ k = w) → og_up h2 (s + 3) w (h2 s 3) i k = h2 i k := fun i k p => by unfold og_up; exact if_neg p
    have vt : og_up h2 (s + 3) w (h2 s 3) (s + 3) w = h2 s 3 := og_up_eq
    generalize og_up h2 (s + 3) w (h2 s 3) = h3 at v vt
    refine hK h3 (st0_fr3 k2 hs (fun k => v _ _ (by omega)) (v _ _ (by omega)) (fun k => v _ _ (by omega))) (fun b c' e => ⟨?_, ?_⟩) (fun i k p1 p2 p3 p4 p5 => ?_)
    · rw [v _ _ (by omega), f2 _ _ (by omega) (by omega) (by omega)]; exact uf
    · rw [vt]
      rw [e] at k2
      exact k2.2.1
    · rw [v _ _ (by omega), f2 i k p1 p3 p4, u i k p2 (by omega)]
theorem w_isOne {p w : Int} (hw : w = 0 ∨ w = 4 ∨ (8 ≤ w ∧ w ≤ 12)) (hK : K (if w = 0 then (if 6 ≤ h (p + 90) 0 then 1 else 0) else if w = 4 then (if 8 ≤ h (p + 90) 1 then 1 else 0) else (if h (p + 2 + 2) w < h (p + 2 + 3) w then 1 else 0)) h) : m_Parish_isOneTooMany [p, w] h K := by
  unfold m_Parish_isOneTooMany
  simp -implicitDefEqProofs only [↓dn_den, ↓dn_loc, ↓dn_k, ↓dn_add, ↓dn_sub, ↓dn_mul, ↓dn_div, ↓dn_rem, ↓dn_bop, ↓dn_ladd, ↓dn_lsub, ↓dn_lmul, ↓dn_ldiv, ↓dn_lrem, ↓dn_land, ↓dn_l2i, ↓dn_neg, ↓dn_get, ↓dn_fix, ↓dn_ald, ↓dn_gld, ↓dn_yld, ↓dn_len, ↓dn_gln, ↓dn_cc, ↓dn_cb, ↓dn_and, ↓dn_or, ↓dn_not, ↓dn_cite, ↓dn_ec, ↓dn_ei, ↓dn_skip, ↓dn_seq, ↓dn_set, ↓dn_inc, ↓dn_putf, ↓dn_putz, ↓dn_ast, ↓dn_exp, ↓dn_if, ↓dn_ret, ↓dn_retz, ↓dn_retv, ↓dn_brk, ↓dn_cont, ↓dn_cs, ↓dn_sw, ↓dn_pop32, ↓dn_pop64, ↓dn_aop, ↓dn_call, ↓dn_max, ↓dn_min, ↓dn_acp, ↓dn_i2l, ↓dn_args0, ↓dn_args1, og_pad, og_ent, og_rlt, og_rle, og_rgt, og_rge, og_req, og_rne, og_padd, og_psub, og_pmul, List.getD_cons_zero, List.getD_cons_succ, List.set_cons_zero, List.set_cons_succ, List.length_cons, List.length_nil, List.cons_append, List.nil_append, List.replicate, List.append_nil, Nat.reduceAdd, Nat.reduceSub, Nat.reduceEqDiff, if_true, if_false, reduceIte, Int.reduceAdd, Int.reduceSub, Int.reduceMul, Int.reduceNeg, Int.reduceLT, Int.reduceLE, Int.cast_ofNat_Int, true_or, or_true, true_and, and_true, false_and, List.mem_cons, List.not_mem_nil, or_false, false_or, ne_eq]
  refine ⟨fun z => ?_, fun z => ⟨fun y => ?_, fun y => w_holds ⟨by omega, by omega⟩ ?_⟩⟩
  · rw [if_pos z] at hK
    refine ⟨fun y => ?_, fun y => ?_⟩
    · rw [if_pos y] at hK; first | exact hK | exact ⟨by decide, hK⟩
    · rw [if_neg y] at hK; first | exact hK | exact ⟨by decide, hK⟩
  · rw [if_neg z, if_pos y] at hK
    refine ⟨fun x => ?_, fun x => ?_⟩
    · rw [if_pos x] at hK; first | exact hK | exact ⟨by decide, hK⟩
    · rw [if_neg x] at hK; first | exact hK | exact ⟨by decide, hK⟩
  · rw [if_neg z, if_neg y] at hK
    refine ⟨?_, hK⟩
    by_cases q : h (p + 2 + 2) w < h (p + 2 + 3) w
    · rw [if_pos q]; exact Or.inr rfl
    · rw [if_neg q]; exact Or.inl rfl
end
end
