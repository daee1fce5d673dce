section
-- the reference: refusals, scalars, the past, acts
theorem restM_new {h h' : Hp} {G N : Int} {P : Pr} {X X' : Yd} (hr : restM h G N P X) (hc : ∀ i k, ((1003 ≤ i ∧ i ≤ 1036) ∨ (1048 ≤ i ∧ i ≤ 1069)) → h' i k = h i k) (h5 : ∀ j, X' 5 j = X 5 j) (s1 : isSm h' (X' 1) (X' 0 0)) (s2 : h' 1000 1 = X' 0 1 ∧ ∀ j, 0 ≤ j → j < X' 0 1 → h' 1001 j = X' 2 j) (s3 : ∀ j, 0 ≤ j → j < 6 → h' 1002 j = X' 3 j)
    (s4 : h' 1000 67 = X' 0 2 ∧ h' 1000 7 = X' 0 3 ∧ h' 1000 8 = X' 0 4) (s5 : h' 1000 101 = X' 0 5 ∧ ∀ j, 0 ≤ j → j < X' 0 5 → h' 1073 j = X' 4 j) : restM h' G N P X' := by
  obtain ⟨a, -, -, -, -, -, ⟨g1, g2⟩, w⟩ := hr
  exact ⟨hasM_fr a (fun i k hi => hc i k (by omega)), s1, s2, s3, s4, s5, ⟨fun j j0 j1 => by rw [hc 1029 _ (by omega), h5]; exact g1 j j0 j1, fun j j0 j1 => by rw [hc 1029 _ (by omega), h5]; exact g2 j j0 j1⟩, fun b hb j hj => by rw [hc b _ (by omega)]; exact w b hb j hj⟩
theorem isRow_congr {f f' : Int → Int} {B : Yd} (ho : okY B) (hr : isRow f B) (hf : ∀ k, 0 ≤ k → k < 204 → f' k = f k) : isRow f' B := by
  have h6 := ho.1
  obtain ⟨a, b, c, d, e⟩ := hr
  refine ⟨by rw [hf _ (by omega) (by omega)]; exact a, fun k k0 k1 => ?_, fun k k0 k1 => ?_, by rw [hf _ (by omega) (by omega)]; exact d, fun k k0 k1 => by rw [hf _ (by omega) (by omega)]; exact e k k0 k1⟩
  · rw [hf _ (by omega) (by omega), hf _ (by omega) (by omega), hf _ (by omega) (by omega)]; exact b k k0 k1
  · rw [hf _ (by omega) (by omega), hf _ (by omega) (by omega), hf _ (by omega) (by omega)]; exact c k k0 k1
section
variable {q h h' : Hp} {A : Yd} {P : Pr} {U : List Yd} {X : Yd} {n M : Int} {K : Int → Hp → Prop}
theorem relM_rf {j : Int} (ho : okY A) (hr : relM q h M A P U X) : relM q (og_up h 1002 j (X 3 j + 1)) M A P U (sRf X j) := by
  obtain ⟨⟨y, z, t⟩, p, r, f⟩ := hr
  have hf : ∀ i k, i ≠ 1002 → og_up h 1002 j (X 3 j + 1) i k = h i k := fun i k hi => og_up_i hi
  have z' : og_up h 1002 j (X 3 j + 1) 1000 53 = 0 := (hf _ _ (by decide)).trans z
  refine ⟨⟨isN_fr y ho z z' (fun i k hi => hf i k (by omega)), z', by unfold tmB; rw [hf _ _ (by decide)]; exact t⟩, pastM_fr p (fun i k hi => hf i k (by omega)), ?_, fun i k hi => (hf i k (by omega)).trans (f i k hi)⟩
  refine restM_new r (fun i k hi => hf i k (by omega)) (fun j => sUp_c (by decide)) ?_ ?_ ?_ ?_ ?_
  · unfold sRf; simp (disch := decide) only [sUp_row, sUp_c, sUp_k, sUp_eq]; exact ⟨by rw [hf _ _ (by omega)]; exact r.2.1.1, fun j a b => by rw [hf _ _ (by omega)]; exact r.2.1.2 j a b⟩
  · unfold sRf; simp (disch := decide) only [sUp_row, sUp_c, sUp_k, sUp_eq]; exact ⟨by rw [hf _ _ (by omega)]; exact r.2.2.1.1, fun j a b => by rw [hf _ _ (by omega)]; exact r.2.2.1.2 j a b⟩
  · intro k a b
    unfold sRf
    by_cases e : k = j
    · subst e; rw [og_up_eq, sUp_eq]
    · rw [og_up_k e, sUp_k e]; exact r.2.2.2.1 k a b
  · unfold sRf; simp (disch := decide) only [sUp_row, sUp_c, sUp_k, sUp_eq]; rw [hf _ _ (by omega), hf _ _ (by omega), hf _ _ (by omega)]; exact r.2.2.2.2.1
  · unfold sRf; simp (disch := decide) only [sUp_row, sUp_c, sUp_k, sUp_eq]; exact ⟨by rw [hf _ _ (by omega)]; exact r.2.2.2.2.2.1.1, fun j a b => by rw [hf _ _ (by omega)]; exact r.2.2.2.2.2.1.2 j a b⟩
theorem m_rfE {j : Int} (hj : 0 ≤ j ∧ j < 6) (hn : n ≤ 1000000) (hr : relM q h M A P U X) (hx : okX n A P U X) : h 1002 j = X 3 j ∧ 0 ≤ X 3 j ∧ X 3 j ≤ 1000000 := by
  have x3 := hx.2.2.2.2.2.1 j hj.1 hj.2
  exact ⟨hr.2.2.1.2.2.2.1 j hj.1 hj.2, x3.1, by omega⟩
theorem m_refuses {j : Int} (hj : 0 ≤ j ∧ j < 6) (hn : n ≤ 1000000) (hr : relM q h M A P U X) (hx : okX n A P U X) (hK : ∀ h', relM q h' M A P U (sRf X j) → K (-1) h') : m_Model_refuses [1000, j] h K := by
  have e := m_rfE hj hn hr hx
  unfold m_Model_refuses
  simp -implicitDefEqProofs only [↓dn_den, ↓dn_loc, ↓dn_k, ↓dn_add, ↓dn_sub, ↓dn_mul, ↓dn_div, ↓dn_rem, ↓dn_bop, ↓dn_ladd, ↓dn_lsub, ↓dn_lmul, ↓dn_ldiv, ↓dn_lrem, ↓dn_land, ↓dn_l2i, ↓dn_neg, ↓dn_get, ↓dn_fix, ↓dn_ald, ↓dn_gld, ↓dn_yld, ↓dn_len, ↓dn_gln, ↓dn_cc, ↓dn_cb, ↓dn_and, ↓dn_or, ↓dn_not, ↓dn_cite, ↓dn_ec, ↓dn_ei, ↓dn_skip, ↓dn_seq, ↓dn_set, ↓dn_inc, ↓dn_putf, ↓dn_putz, ↓dn_ast, ↓dn_exp, ↓dn_if, ↓dn_ret, ↓dn_retz, ↓dn_retv, ↓dn_brk, ↓dn_cont, ↓dn_cs, ↓dn_sw, ↓dn_pop32, ↓dn_pop64, ↓dn_aop, ↓dn_call, ↓dn_max, ↓dn_min, ↓dn_acp, ↓dn_i2l, ↓dn_args0, ↓dn_args1, og_pad, og_ent, og_rlt, og_rle, og_rgt, og_rge, og_req, og_rne, og_padd, og_psub, og_pmul, List.getD_cons_zero, List.getD_cons_succ, List.set_cons_zero, List.set_cons_succ, List.length_cons, List.length_nil, List.cons_append, List.nil_append, List.replicate, List.append_nil, Nat.reduceAdd, Nat.reduceSub, Nat.reduceEqDiff, if_true, if_false, reduceIte, Int.reduceAdd, Int.reduceSub, Int.reduceMul, Int.reduceNeg, Int.reduceLT, Int.reduceLE, Int.cast_ofNat_Int, true_or, or_true, true_and, and_true, false_and, List.mem_cons, List.not_mem_nil, or_false, false_or, ne_eq, og_i32]
  rw [e.1]
  repeat (refine And.intro (by omega) ?_)
  exact hK _ (relM_rf hx.1.1 hr)
theorem m_isRefused (hn : n ≤ 1000000) (hr : relM q h M A P U X) (hx : okX n A P U X) (hK : ∀ h', relM q h' M A P U (sRf X 2) → K 0 h') : m_Model_isRefused [1000] h K := by
  have e := m_rfE (j := 2) (by decide) hn hr hx
  unfold m_Model_isRefused
  simp -implicitDefEqProofs only [↓dn_den, ↓dn_loc, ↓dn_k, ↓dn_add, ↓dn_sub, ↓dn_mul, ↓dn_div, ↓dn_rem, ↓dn_bop, ↓dn_ladd, ↓dn_lsub, ↓dn_lmul, ↓dn_ldiv, ↓dn_lrem, ↓dn_land, ↓dn_l2i, ↓dn_neg, ↓dn_get, ↓dn_fix, ↓dn_ald, ↓dn_gld, ↓dn_yld, ↓dn_len, ↓dn_gln, ↓dn_cc, ↓dn_cb, ↓dn_and, ↓dn_or, ↓dn_not, ↓dn_cite, ↓dn_ec, ↓dn_ei, ↓dn_skip, ↓dn_seq, ↓dn_set, ↓dn_inc, ↓dn_putf, ↓dn_putz, ↓dn_ast, ↓dn_exp, ↓dn_if, ↓dn_ret, ↓dn_retz, ↓dn_retv, ↓dn_brk, ↓dn_cont, ↓dn_cs, ↓dn_sw, ↓dn_pop32, ↓dn_pop64, ↓dn_aop, ↓dn_call, ↓dn_max, ↓dn_min, ↓dn_acp, ↓dn_i2l, ↓dn_args0, ↓dn_args1, og_pad, og_ent, og_rlt, og_rle, og_rgt, og_rge, og_req, og_rne, og_padd, og_psub, og_pmul, List.getD_cons_zero, List.getD_cons_succ, List.set_cons_zero, List.set_cons_succ, List.length_cons, List.length_nil, List.cons_append, List.nil_append, List.replicate, List.append_nil, Nat.reduceAdd, Nat.reduceSub, Nat.reduceEqDiff, if_true, if_false, reduceIte, Int.reduceAdd, Int.reduceSub, Int.reduceMul, Int.reduceNeg, Int.reduceLT, Int.reduceLE, Int.cast_ofNat_Int, true_or, or_true, true_and, and_true, false_and, List.mem_cons, List.not_mem_nil, or_false, false_or, ne_eq, og_i32]
  rw [e.1]
  repeat (refine And.intro (by omega) ?_)
  exact hK _ (relM_rf hx.1.1 hr)
theorem m_status {w : Int} (hr : relM q h M A P U X) (hK : K (if 0 ≤ w ∧ w < 6 then X 3 w else -1) h) : m_Model_status [1000, w] h K := by
  have e := hr.2.2.1.2.2.2.1 w
  unfold m_Model_status
  simp -implicitDefEqProofs only [↓dn_den, ↓dn_loc, ↓dn_k, ↓dn_add, ↓dn_sub, ↓dn_mul, ↓dn_div, ↓dn_rem, ↓dn_bop, ↓dn_ladd, ↓dn_lsub, ↓dn_lmul, ↓dn_ldiv, ↓dn_lrem, ↓dn_land, ↓dn_l2i, ↓dn_neg, ↓dn_get, ↓dn_fix, ↓dn_ald, ↓dn_gld, ↓dn_yld, ↓dn_len, ↓dn_gln, ↓dn_cc, ↓dn_cb, ↓dn_and, ↓dn_or, ↓dn_not, ↓dn_cite, ↓dn_ec, ↓dn_ei, ↓dn_skip, ↓dn_seq, ↓dn_set, ↓dn_inc, ↓dn_putf, ↓dn_putz, ↓dn_ast, ↓dn_exp, ↓dn_if, ↓dn_ret, ↓dn_retz, ↓dn_retv, ↓dn_brk, ↓dn_cont, ↓dn_cs, ↓dn_sw, ↓dn_pop32, ↓dn_pop64, ↓dn_aop, ↓dn_call, ↓dn_max, ↓dn_min, ↓dn_acp, ↓dn_i2l, ↓dn_args0, ↓dn_args1, og_pad, og_ent, og_rlt, og_rle, og_rgt, og_rge, og_req, og_rne, og_padd, og_psub, og_pmul, List.getD_cons_zero, List.getD_cons_succ, List.set_cons_zero, List.set_cons_succ, List.length_cons, List.length_nil, List.cons_append, List.nil_append, List.replicate, List.append_nil, Nat.reduceAdd, Nat.reduceSub, Nat.reduceEqDiff, if_true, if_false, reduceIte, Int.reduceAdd, Int.reduceSub, Int.reduceMul, Int.reduceNeg, Int.reduceLT, Int.reduceLE, Int.cast_ofNat_Int, true_or, or_true, true_and, and_true, false_and, List.mem_cons, List.not_mem_nil, or_false, false_or, ne_eq]
  refine r_isIn ⟨fun a => ?_, fun a => ?_⟩
  · have a := iteP1 a
    rw [if_pos (by omega), ← e (by omega) (by omega)] at hK; exact ⟨by omega, by omega, hK⟩
  · have a := iteP0 a
    rw [if_neg (by omega)] at hK; exact hK
theorem m_fault {w : Int} (hr : relM q h M A P U X) (hK : K (if w = 0 then X 0 3 else if w = 1 then X 0 4 else -1) h) : m_Model_fault [1000, w] h K := by
  have e := hr.2.2.1.2.2.2.2.1
  unfold m_Model_fault
  simp -implicitDefEqProofs only [↓dn_den, ↓dn_loc, ↓dn_k, ↓dn_add, ↓dn_sub, ↓dn_mul, ↓dn_div, ↓dn_rem, ↓dn_bop, ↓dn_ladd, ↓dn_lsub, ↓dn_lmul, ↓dn_ldiv, ↓dn_lrem, ↓dn_land, ↓dn_l2i, ↓dn_neg, ↓dn_get, ↓dn_fix, ↓dn_ald, ↓dn_gld, ↓dn_yld, ↓dn_len, ↓dn_gln, ↓dn_cc, ↓dn_cb, ↓dn_and, ↓dn_or, ↓dn_not, ↓dn_cite, ↓dn_ec, ↓dn_ei, ↓dn_skip, ↓dn_seq, ↓dn_set, ↓dn_inc, ↓dn_putf, ↓dn_putz, ↓dn_ast, ↓dn_exp, ↓dn_if, ↓dn_ret, ↓dn_retz, ↓dn_retv, ↓dn_brk, ↓dn_cont, ↓dn_cs, ↓dn_sw, ↓dn_pop32, ↓dn_pop64, ↓dn_aop, ↓dn_call, ↓dn_max, ↓dn_min, ↓dn_acp, ↓dn_i2l, ↓dn_args0, ↓dn_args1, og_pad, og_ent, og_rlt, og_rle, og_rgt, og_rge, og_req, og_rne, og_padd, og_psub, og_pmul, List.getD_cons_zero, List.getD_cons_succ, List.set_cons_zero, List.set_cons_succ, List.length_cons, List.length_nil, List.cons_append, List.nil_append, List.replicate, List.append_nil, Nat.reduceAdd, Nat.reduceSub, Nat.reduceEqDiff, if_true, if_false, reduceIte, Int.reduceAdd, Int.reduceSub, Int.reduceMul, Int.reduceNeg, Int.reduceLT, Int.reduceLE, Int.cast_ofNat_Int, true_or, or_true, true_and, and_true, false_and, List.mem_cons, List.not_mem_nil, or_false, false_or, ne_eq]
  rw [e.2.1, e.2.2]
  refine ⟨fun a => ?_, fun a => ⟨fun b => ?_, fun b => ?_⟩⟩
  · rw [if_pos a] at hK; exact hK
  · rw [if_neg a, if_pos b] at hK; exact hK
  · rw [if_neg a, if_neg b] at hK; exact hK
theorem m_octet {k : Int} (hr : relM q h M A P U X) (hx : okX n A P U X) (hK : K (if 0 ≤ k ∧ k < X 0 5 then X 4 k else -1) h) : m_Model_octet [1000, k] h K := by
  have e := hr.2.2.1.2.2.2.2.2.1
  have x := hx.2.2.2.2.2.2.2.1
  unfold m_Model_octet
  simp -implicitDefEqProofs only [↓dn_den, ↓dn_loc, ↓dn_k, ↓dn_add, ↓dn_sub, ↓dn_mul, ↓dn_div, ↓dn_rem, ↓dn_bop, ↓dn_ladd, ↓dn_lsub, ↓dn_lmul, ↓dn_ldiv, ↓dn_lrem, ↓dn_land, ↓dn_l2i, ↓dn_neg, ↓dn_get, ↓dn_fix, ↓dn_ald, ↓dn_gld, ↓dn_yld, ↓dn_len, ↓dn_gln, ↓dn_cc, ↓dn_cb, ↓dn_and, ↓dn_or, ↓dn_not, ↓dn_cite, ↓dn_ec, ↓dn_ei, ↓dn_skip, ↓dn_seq, ↓dn_set, ↓dn_inc, ↓dn_putf, ↓dn_putz, ↓dn_ast, ↓dn_exp, ↓dn_if, ↓dn_ret, ↓dn_retz, ↓dn_retv, ↓dn_brk, ↓dn_cont, ↓dn_cs, ↓dn_sw, ↓dn_pop32, ↓dn_pop64, ↓dn_aop, ↓dn_call, ↓dn_max, ↓dn_min, ↓dn_acp, ↓dn_i2l, ↓dn_args0, ↓dn_args1, og_pad, og_ent, og_rlt, og_rle, og_rgt, og_rge, og_req, og_rne, og_padd, og_psub, og_pmul, List.getD_cons_zero, List.getD_cons_succ, List.set_cons_zero, List.set_cons_succ, List.length_cons, List.length_nil, List.cons_append, List.nil_append, List.replicate, List.append_nil, Nat.reduceAdd, Nat.reduceSub, Nat.reduceEqDiff, if_true, if_false, reduceIte, Int.reduceAdd, Int.reduceSub, Int.reduceMul, Int.reduceNeg, Int.reduceLT, Int.reduceLE, Int.cast_ofNat_Int, true_or, or_true, true_and, and_true, false_and, List.mem_cons, List.not_mem_nil, or_false, false_or, ne_eq]
  rw [e.1]
  refine ⟨fun a => ⟨fun b => ?_, fun b => ?_⟩, fun a => ?_⟩
  · rw [if_pos ⟨a, b⟩, ← e.2 k a b] at hK; exact ⟨a, by omega, hK⟩
  · rw [if_neg (by omega)] at hK; exact hK
  · rw [if_neg (by omega)] at hK; exact hK
theorem m_seed {s : Int} (hn : n ≤ 1000000) (hr : relM q h M A P U X) (hx : okX n A P U X) (hK0 : s < 0 → ∀ h', relM q h' M A P U (sRf X 5) → K 0 h') (hK1 : ¬ s < 0 → ∀ h', relM q h' M A P U (sUp X 0 2 s) → K 1 h') : m_Model_seed [1000, s] h K := by
  have e := m_rfE (j := 5) (by decide) hn hr hx
  unfold m_Model_seed
  simp -implicitDefEqProofs only [↓dn_den, ↓dn_loc, ↓dn_k, ↓dn_add, ↓dn_sub, ↓dn_mul, ↓dn_div, ↓dn_rem, ↓dn_bop, ↓dn_ladd, ↓dn_lsub, ↓dn_lmul, ↓dn_ldiv, ↓dn_lrem, ↓dn_land, ↓dn_l2i, ↓dn_neg, ↓dn_get, ↓dn_fix, ↓dn_ald, ↓dn_gld, ↓dn_yld, ↓dn_len, ↓dn_gln, ↓dn_cc, ↓dn_cb, ↓dn_and, ↓dn_or, ↓dn_not, ↓dn_cite, ↓dn_ec, ↓dn_ei, ↓dn_skip, ↓dn_seq, ↓dn_set, ↓dn_inc, ↓dn_putf, ↓dn_putz, ↓dn_ast, ↓dn_exp, ↓dn_if, ↓dn_ret, ↓dn_retz, ↓dn_retv, ↓dn_brk, ↓dn_cont, ↓dn_cs, ↓dn_sw, ↓dn_pop32, ↓dn_pop64, ↓dn_aop, ↓dn_call, ↓dn_max, ↓dn_min, ↓dn_acp, ↓dn_i2l, ↓dn_args0, ↓dn_args1, og_pad, og_ent, og_rlt, og_rle, og_rgt, og_rge, og_req, og_rne, og_padd, og_psub, og_pmul, List.getD_cons_zero, List.getD_cons_succ, List.set_cons_zero, List.set_cons_succ, List.length_cons, List.length_nil, List.cons_append, List.nil_append, List.replicate, List.append_nil, Nat.reduceAdd, Nat.reduceSub, Nat.reduceEqDiff, if_true, if_false, reduceIte, Int.reduceAdd, Int.reduceSub, Int.reduceMul, Int.reduceNeg, Int.reduceLT, Int.reduceLE, Int.cast_ofNat_Int, true_or, or_true, true_and, and_true, false_and, List.mem_cons, List.not_mem_nil, or_false, false_or, ne_eq, og_i32]
  rw [e.1]
  refine ⟨fun a => ?_, fun a => hK1 a _ ?_⟩
  · repeat (refine And.intro (by omega) ?_)
    exact hK0 a _ (relM_rf hx.1.1 hr)
  obtain ⟨⟨y, z, t⟩, p, r, f⟩ := hr
  have hf : ∀ i k, (i ≠ 1000 ∨ k ≠ 67) → og_up h 1000 67 s i k = h i k := fun i k hi => by unfold og_up; exact if_neg (by omega)
  have z' : og_up h 1000 67 s 1000 53 = 0 := (hf _ _ (by decide)).trans z
  refine ⟨⟨isN_fr y hx.1.1 z z' (fun i k hi => hf i k (by omega)), z', by unfold tmB; rw [hf _ _ (by decide)]; exact t⟩, pastM_fr p (fun i k hi => hf i k (by omega)), ?_, fun i k hi => (hf i k (by omega)).trans (f i k hi)⟩
  refine restM_new r (fun i k hi => hf i k (by omega)) (fun j => sUp_c (by decide)) ?_ ?_ ?_ ?_ ?_
  · simp (disch := decide) only [sUp_row, sUp_c, sUp_k, sUp_eq]; exact ⟨by rw [hf _ _ (by omega)]; exact r.2.1.1, fun j a b => by rw [hf _ _ (by omega)]; exact r.2.1.2 j a b⟩
  · simp (disch := decide) only [sUp_row, sUp_c, sUp_k, sUp_eq]; exact ⟨by rw [hf _ _ (by omega)]; exact r.2.2.1.1, fun j a b => by rw [hf _ _ (by omega)]; exact r.2.2.1.2 j a b⟩
  · intro k a b; rw [sUp_c (by decide), hf _ _ (by omega)]; exact r.2.2.2.1 k a b
  · simp (disch := decide) only [sUp_row, sUp_c, sUp_k, sUp_eq]; rw [og_up_eq, hf _ _ (by omega), hf _ _ (by omega)]; exact ⟨rfl, r.2.2.2.2.1.2.1, r.2.2.2.2.1.2.2⟩
  · simp (disch := decide) only [sUp_row, sUp_c, sUp_k, sUp_eq]; exact ⟨by rw [hf _ _ (by omega)]; exact r.2.2.2.2.2.1.1, fun j a b => by rw [hf _ _ (by omega)]; exact r.2.2.2.2.2.1.2 j a b⟩
theorem relM_tape {v : Int} (ho : okY A) (hv : v ≤ X 0 1) (hr : relM q h M A P U X) : relM q (og_up h 1000 1 v) M A P U (sUp X 0 1 v) := by
  obtain ⟨⟨y, z, t⟩, p, r, f⟩ := hr
  have hf : ∀ i k, (i ≠ 1000 ∨ k ≠ 1) → og_up h 1000 1 v i k = h i k := fun i k hi => by unfold og_up; exact if_neg (by omega)
  have z' : og_up h 1000 1 v 1000 53 = 0 := (hf _ _ (by decide)).trans z
  refine ⟨⟨isN_fr y ho z z' (fun i k hi => hf i k (by omega)), z', by unfold tmB; rw [hf _ _ (by decide)]; exact t⟩, pastM_fr p (fun i k hi => hf i k (by omega)), ?_, fun i k hi => (hf i k (by omega)).trans (f i k hi)⟩
  refine restM_new r (fun i k hi => hf i k (by omega)) (fun j => sUp_c (by decide)) ?_ ?_ ?_ ?_ ?_
  · simp (disch := decide) only [sUp_row, sUp_c, sUp_k, sUp_eq]; exact ⟨by rw [hf _ _ (by omega)]; exact r.2.1.1, fun j a b => by rw [hf _ _ (by omega)]; exact r.2.1.2 j a b⟩
  · simp (disch := decide) only [sUp_row, sUp_c, sUp_k, sUp_eq]; rw [og_up_eq]; exact ⟨rfl, fun j a b => by rw [hf _ _ (by omega)]; exact r.2.2.1.2 j a (by omega)⟩
  · intro k a b; rw [sUp_c (by decide), hf _ _ (by omega)]; exact r.2.2.2.1 k a b
  · simp (disch := decide) only [sUp_row, sUp_c, sUp_k, sUp_eq]; rw [hf _ _ (by omega), hf _ _ (by omega), hf _ _ (by omega)]; exact r.2.2.2.2.1
  · simp (disch := decide) only [sUp_row, sUp_c, sUp_k, sUp_eq]; exact ⟨by rw [hf _ _ (by omega)]; exact r.2.2.2.2.2.1.1, fun j a b => by rw [hf _ _ (by omega)]; exact r.2.2.2.2.2.1.2 j a b⟩
theorem m_end {v : Int} (hn : n ≤ 1000000) (hr : relM q h M A P U X) (hx : okX n A P U X) (hK0 : (v < 0 ∨ X 0 1 < v) → ∀ h', relM q h' M A P U (sRf X 0) → K 0 h') (hK1 : ¬ (v < 0 ∨ X 0 1 < v) → ∀ h', relM q h' M A P U (sUp X 0 1 v) → K 1 h') : m_Model_end [1000, v] h K := by
  have e := hr.2.2.1.2.2.1.1
  have e0 := m_rfE (j := 0) (by decide) hn hr hx
  unfold m_Model_end
  simp -implicitDefEqProofs only [↓dn_den, ↓dn_loc, ↓dn_k, ↓dn_add, ↓dn_sub, ↓dn_mul, ↓dn_div, ↓dn_rem, ↓dn_bop, ↓dn_ladd, ↓dn_lsub, ↓dn_lmul, ↓dn_ldiv, ↓dn_lrem, ↓dn_land, ↓dn_l2i, ↓dn_neg, ↓dn_get, ↓dn_fix, ↓dn_ald, ↓dn_gld, ↓dn_yld, ↓dn_len, ↓dn_gln, ↓dn_cc, ↓dn_cb, ↓dn_and, ↓dn_or, ↓dn_not, ↓dn_cite, ↓dn_ec, ↓dn_ei, ↓dn_skip, ↓dn_seq, ↓dn_set, ↓dn_inc, ↓dn_putf, ↓dn_putz, ↓dn_ast, ↓dn_exp, ↓dn_if, ↓dn_ret, ↓dn_retz, ↓dn_retv, ↓dn_brk, ↓dn_cont, ↓dn_cs, ↓dn_sw, ↓dn_pop32, ↓dn_pop64, ↓dn_aop, ↓dn_call, ↓dn_max, ↓dn_min, ↓dn_acp, ↓dn_i2l, ↓dn_args0, ↓dn_args1, og_pad, og_ent, og_rlt, og_rle, og_rgt, og_rge, og_req, og_rne, og_padd, og_psub, og_pmul, List.getD_cons_zero, List.getD_cons_succ, List.set_cons_zero, List.set_cons_succ, List.length_cons, List.length_nil, List.cons_append, List.nil_append, List.replicate, List.append_nil, Nat.reduceAdd, Nat.reduceSub, Nat.reduceEqDiff, if_true, if_false, reduceIte, Int.reduceAdd, Int.reduceSub, Int.reduceMul, Int.reduceNeg, Int.reduceLT, Int.reduceLE, Int.cast_ofNat_Int, true_or, or_true, true_and, and_true, false_and, List.mem_cons, List.not_mem_nil, or_false, false_or, ne_eq, og_i32]
  rw [e, e0.1]
  refine ⟨fun a => ?_, fun a => ⟨fun b => ?_, fun b => hK1 (by omega) _ (relM_tape hx.1.1 (by omega) hr)⟩⟩
  · repeat (refine And.intro (by omega) ?_)
    exact hK0 (Or.inl a) _ (relM_rf hx.1.1 hr)
  · repeat (refine And.intro (by omega) ?_)
    exact hK0 (Or.inr b) _ (relM_rf hx.1.1 hr)
theorem m_keeps (hr : relM q h M A P U X) (hx : okX n A P U X) (hK : ∀ h', isN h' A → pastM h' (sKp U A) → (∀ i k, ¬ (i = 1047 ∨ (i = 1000 ∧ (k = 65 ∨ k = 66))) → h' i k = h i k) → K 0 h') : m_Model_keeps [1000] h K := by
  have ho := hx.1.1
  obtain ⟨⟨y, z, t⟩, ⟨⟨a, b, c, d⟩, e⟩, r, f⟩ := hr
  have em : (h 1000 66 + 1).tmod 20 = (h 1000 66 + 1) % 20 := Int.tmod_eq_emod_of_nonneg (by omega)
  unfold m_Model_keeps
  simp -implicitDefEqProofs only [↓dn_den, ↓dn_loc, ↓dn_k, ↓dn_add, ↓dn_sub, ↓dn_mul, ↓dn_div, ↓dn_rem, ↓dn_bop, ↓dn_ladd, ↓dn_lsub, ↓dn_lmul, ↓dn_ldiv, ↓dn_lrem, ↓dn_land, ↓dn_l2i, ↓dn_neg, ↓dn_get, ↓dn_fix, ↓dn_ald, ↓dn_gld, ↓dn_yld, ↓dn_len, ↓dn_gln, ↓dn_cc, ↓dn_cb, ↓dn_and, ↓dn_or, ↓dn_not, ↓dn_cite, ↓dn_ec, ↓dn_ei, ↓dn_skip, ↓dn_seq, ↓dn_set, ↓dn_inc, ↓dn_putf, ↓dn_putz, ↓dn_ast, ↓dn_exp, ↓dn_if, ↓dn_ret, ↓dn_retz, ↓dn_retv, ↓dn_brk, ↓dn_cont, ↓dn_cs, ↓dn_sw, ↓dn_pop32, ↓dn_pop64, ↓dn_aop, ↓dn_call, ↓dn_max, ↓dn_min, ↓dn_acp, ↓dn_i2l, ↓dn_args0, ↓dn_args1, og_pad, og_ent, og_rlt, og_rle, og_rgt, og_rge, og_req, og_rne, og_padd, og_psub, og_pmul, List.getD_cons_zero, List.getD_cons_succ, List.set_cons_zero, List.set_cons_succ, List.length_cons, List.length_nil, List.cons_append, List.nil_append, List.replicate, List.append_nil, Nat.reduceAdd, Nat.reduceSub, Nat.reduceEqDiff, if_true, if_false, reduceIte, Int.reduceAdd, Int.reduceSub, Int.reduceMul, Int.reduceNeg, Int.reduceLT, Int.reduceLE, Int.cast_ofNat_Int, true_or, or_true, true_and, and_true, false_and, List.mem_cons, List.not_mem_nil, or_false, false_or, ne_eq, og_i32]
  rw [em]
  repeat (refine And.intro (by omega) ?_)
  refine ⟨fun e1 h1 => (∃ c1, e1 = [1000, c1]) ∧ (∀ k, 0 ≤ k → k < 204 → h1 1047 (204 * ((h 1000 66 + 1) % 20) + k) = h 1037 k) ∧ h1 1000 66 = (h 1000 66 + 1) % 20 ∧ (∀ i k, ¬ ((i = 1047 ∧ 204 * ((h 1000 66 + 1) % 20) ≤ k ∧ k < 204 * ((h 1000 66 + 1) % 20) + 204) ∨ (i = 1000 ∧ k = 66)) → h1 i k = h i k), ?_, ?_⟩
  · simp -implicitDefEqProofs only [↓dn_den, ↓dn_loc, ↓dn_k, ↓dn_add, ↓dn_sub, ↓dn_mul, ↓dn_div, ↓dn_rem, ↓dn_bop, ↓dn_ladd, ↓dn_lsub, ↓dn_lmul, ↓dn_ldiv, ↓dn_lrem, ↓dn_land, ↓dn_l2i, ↓dn_neg, ↓dn_get, ↓dn_fix, ↓dn_ald, ↓dn_gld, ↓dn_yld, ↓dn_len, ↓dn_gln, ↓dn_cc, ↓dn_cb, ↓dn_and, ↓dn_or, ↓dn_not, ↓dn_cite, ↓dn_ec, ↓dn_ei, ↓dn_skip, ↓dn_seq, ↓dn_set, ↓dn_inc, ↓dn_putf, ↓dn_putz, ↓dn_ast, ↓dn_exp, ↓dn_if, ↓dn_ret, ↓dn_retz, ↓dn_retv, ↓dn_brk, ↓dn_cont, ↓dn_cs, ↓dn_sw, ↓dn_pop32, ↓dn_pop64, ↓dn_aop, ↓dn_call, ↓dn_max, ↓dn_min, ↓dn_acp, ↓dn_i2l, ↓dn_args0, ↓dn_args1, og_pad, og_ent, og_rlt, og_rle, og_rgt, og_rge, og_req, og_rne, og_padd, og_psub, og_pmul, List.getD_cons_zero, List.getD_cons_succ, List.set_cons_zero, List.set_cons_succ, List.length_cons, List.length_nil, List.cons_append, List.nil_append, List.replicate, List.append_nil, Nat.reduceAdd, Nat.reduceSub, Nat.reduceEqDiff, if_true, if_false, reduceIte, Int.reduceAdd, Int.reduceSub, Int.reduceMul, Int.reduceNeg, Int.reduceLT, Int.reduceLE, Int.cast_ofNat_Int, true_or, or_true, true_and, and_true, false_and, List.mem_cons, List.not_mem_nil, or_false, false_or, ne_eq]
    refine og_loop 204 (fun i e1 h1 => e1 = [1000, (i : Int)] ∧ (∀ k : Int, 0 ≤ k → k < i → h1 1047 (204 * ((h 1000 66 + 1) % 20) + k) = h 1037 k) ∧ h1 1000 66 = (h 1000 66 + 1) % 20 ∧ (∀ i k, ¬ ((i = 1047 ∧ 204 * ((h 1000 66 + 1) % 20) ≤ k ∧ k < 204 * ((h 1000 66 + 1) % 20) + 204) ∨ (i = 1000 ∧ k = 66)) → h1 i k = h i k)) ⟨rfl, fun k k0 k1 => by omega, og_up_eq, fun i k hik => by unfold og_up; exact if_neg (by omega)⟩ ?_
    rintro i e1 h1 hi ⟨rfl, w1, w2, w3⟩
    simp -implicitDefEqProofs only [↓dn_den, ↓dn_loc, ↓dn_k, ↓dn_add, ↓dn_sub, ↓dn_mul, ↓dn_div, ↓dn_rem, ↓dn_bop, ↓dn_ladd, ↓dn_lsub, ↓dn_lmul, ↓dn_ldiv, ↓dn_lrem, ↓dn_land, ↓dn_l2i, ↓dn_neg, ↓dn_get, ↓dn_fix, ↓dn_ald, ↓dn_gld, ↓dn_yld, ↓dn_len, ↓dn_gln, ↓dn_cc, ↓dn_cb, ↓dn_and, ↓dn_or, ↓dn_not, ↓dn_cite, ↓dn_ec, ↓dn_ei, ↓dn_skip, ↓dn_seq, ↓dn_set, ↓dn_inc, ↓dn_putf, ↓dn_putz, ↓dn_ast, ↓dn_exp, ↓dn_if, ↓dn_ret, ↓dn_retz, ↓dn_retv, ↓dn_brk, ↓dn_cont, ↓dn_cs, ↓dn_sw, ↓dn_pop32, ↓dn_pop64, ↓dn_aop, ↓dn_call, ↓dn_max, ↓dn_min, ↓dn_acp, ↓dn_i2l, ↓dn_args0, ↓dn_args1, og_pad, og_ent, og_rlt, og_rle, og_rgt, og_rge, og_req, og_rne, og_padd, og_psub, og_pmul, List.getD_cons_zero, List.getD_cons_succ, List.set_cons_zero, List.set_cons_succ, List.length_cons, List.length_nil, List.cons_append, List.nil_append, List.replicate, List.append_nil, Nat.reduceAdd, Nat.reduceSub, Nat.reduceEqDiff, if_true, if_false, reduceIte, Int.reduceAdd, Int.reduceSub, Int.reduceMul, Int.reduceNeg, Int.reduceLT, Int.reduceLE, Int.cast_ofNat_Int, true_or, or_true, true_and, and_true, false_and, List.mem_cons, List.not_mem_nil, or_false, false_or, ne_eq, og_i32]
    rw [w2, w3 1037 i (by omega)]
    refine ⟨fun hlt => ?_, fun hge => ?_⟩
    · repeat (refine And.intro (by omega) ?_)
      refine og_nx_mk (by omega) ⟨by simp, fun k k0 k1 => ?_, by rw [og_up_i (by decide)]; exact w2, fun j k hjk => ?_⟩
      · by_cases e : k = i
        · subst e; rw [og_up_eq]
        · rw [og_up_k (by omega)]; exact w1 k k0 (by omega)
      · have : og_up h1 1047 (204 * ((h 1000 66 + 1) % 20) + (i : Int)) (h 1037 i) j k = h1 j k := by unfold og_up; exact if_neg (by omega)
        rw [this]; exact w3 j k hjk
    · have e : i = 204 := by omega
      subst e
      exact ⟨⟨_, rfl⟩, w1, rfl, w3⟩
  · rintro e1 h1 ⟨⟨c1, rfl⟩, w1, w2, w3⟩
    simp -implicitDefEqProofs only [↓dn_den, ↓dn_loc, ↓dn_k, ↓dn_add, ↓dn_sub, ↓dn_mul, ↓dn_div, ↓dn_rem, ↓dn_bop, ↓dn_ladd, ↓dn_lsub, ↓dn_lmul, ↓dn_ldiv, ↓dn_lrem, ↓dn_land, ↓dn_l2i, ↓dn_neg, ↓dn_get, ↓dn_fix, ↓dn_ald, ↓dn_gld, ↓dn_yld, ↓dn_len, ↓dn_gln, ↓dn_cc, ↓dn_cb, ↓dn_and, ↓dn_or, ↓dn_not, ↓dn_cite, ↓dn_ec, ↓dn_ei, ↓dn_skip, ↓dn_seq, ↓dn_set, ↓dn_inc, ↓dn_putf, ↓dn_putz, ↓dn_ast, ↓dn_exp, ↓dn_if, ↓dn_ret, ↓dn_retz, ↓dn_retv, ↓dn_brk, ↓dn_cont, ↓dn_cs, ↓dn_sw, ↓dn_pop32, ↓dn_pop64, ↓dn_aop, ↓dn_call, ↓dn_max, ↓dn_min, ↓dn_acp, ↓dn_i2l, ↓dn_args0, ↓dn_args1, og_pad, og_ent, og_rlt, og_rle, og_rgt, og_rge, og_req, og_rne, og_padd, og_psub, og_pmul, List.getD_cons_zero, List.getD_cons_succ, List.set_cons_zero, List.set_cons_succ, List.length_cons, List.length_nil, List.cons_append, List.nil_append, List.replicate, List.append_nil, Nat.reduceAdd, Nat.reduceSub, Nat.reduceEqDiff, if_true, if_false, reduceIte, Int.reduceAdd, Int.reduceSub, Int.reduceMul, Int.reduceNeg, Int.reduceLT, Int.reduceLE, Int.cast_ofNat_Int, true_or, or_true, true_and, and_true, false_and, List.mem_cons, List.not_mem_nil, or_false, false_or, ne_eq, og_i32]
    rw [w3 1000 65 (by omega), a]
    have newrow : ∀ h2 : Hp, (∀ k, h2 1047 k = h1 1047 k) → isRow (fun k => h2 1047 (204 * ((h 1000 66 + 1) % 20) + k)) A := fun h2 h47 => isRow_congr ho (isN_row y z).1 (fun k k0 k1 => by show h2 1047 _ = _; rw [h47]; exact w1 k k0 k1)
    have oldrow : ∀ (h2 : Hp) (j : Nat), (∀ k, h2 1047 k = h1 1047 k) → j < U.length → (h 1000 66 + 21 + j - U.length) % 20 ≠ (h 1000 66 + 1) % 20 → isRow (fun k => h2 1047 (204 * ((h 1000 66 + 21 + j - U.length) % 20) + k)) (U.getD j (fun _ _ => 0)) := fun h2 j h47 hj hne => isRow_congr (hx.2.2.1 j hj).1 (e j hj) (fun k k0 k1 => by show h2 1047 _ = h 1047 _; rw [h47]; exact w3 _ _ (by omega))
    refine ⟨fun hlt => ?_, fun hge => ?_⟩
    · repeat (refine And.intro (by omega) ?_)
      have hf2 : ∀ i k, (i ≠ 1000 ∨ k ≠ 65) → og_up h1 1000 65 ((U.length : Int) + 1) i k = h1 i k := fun i k hi => by unfold og_up; exact if_neg (by omega)
      have z' : og_up h1 1000 65 ((U.length : Int) + 1) 1000 53 = 0 := by rw [hf2 _ _ (by decide), w3 _ _ (by omega)]; exact z
      refine hK _ (isN_fr y ho z z' (fun i k hi => by rw [hf2 _ _ (by omega), w3 _ _ (by omega)])) ?_ (fun i k hi => by rw [hf2 _ _ (by omega), w3 _ _ (by omega)])
      unfold sKp
      rw [if_neg (by omega)]
      have e66 : og_up h1 1000 65 ((U.length : Int) + 1) 1000 66 = (h 1000 66 + 1) % 20 := by rw [hf2 _ _ (by decide)]; exact w2
      refine ⟨⟨by rw [og_up_eq, List.length_append]; simp, by rw [List.length_append]; simp; omega, by rw [e66]; omega, by rw [e66]; omega⟩, fun j hj => ?_⟩
      rw [e66, getD_app, List.length_append]
      rw [List.length_append] at hj
      simp at hj
      by_cases hjl : j < U.length
      · rw [if_pos hjl]
        have es : ((h 1000 66 + 1) % 20 + 21 + (j : Int) - ((U.length + [A].length : Nat) : Int)) % 20 = (h 1000 66 + 21 + j - U.length) % 20 := by simp; omega
        rw [es]
        exact oldrow _ j (fun k => hf2 _ _ (by omega)) hjl (by omega)
      · have : j = U.length := by omega
        subst this
        rw [if_neg (by omega), if_pos rfl]
        have es : ((h 1000 66 + 1) % 20 + 21 + (U.length : Int) - ((U.length + [A].length : Nat) : Int)) % 20 = (h 1000 66 + 1) % 20 := by simp; omega
        rw [es]
        exact newrow _ (fun k => hf2 _ _ (by omega))
    · have h20 : U.length = 20 := by omega
      have z' : h1 1000 53 = 0 := by rw [w3 _ _ (by omega)]; exact z
      refine hK _ (isN_fr y ho z z' (fun i k hi => by rw [w3 _ _ (by omega)])) ?_ (fun i k hi => by rw [w3 _ _ (by omega)])
      unfold sKp
      rw [if_pos h20]
      have el : (List.drop 1 U ++ [A]).length = 20 := by rw [List.length_append, List.length_drop, h20]; rfl
      refine ⟨⟨by rw [w3 _ _ (by omega), a, el, h20], by omega, by rw [w2]; omega, by rw [w2]; omega⟩, fun j hj => ?_⟩
      rw [el] at hj
      rw [w2, el, getD_app, List.length_drop, h20]
      by_cases hjl : j < 20 - 1
      · rw [if_pos hjl, getD_drop1]
        have es : ((h 1000 66 + 1) % 20 + 21 + (j : Int) - ((20 : Nat) : Int)) % 20 = (h 1000 66 + 21 + ((j + 1 : Nat) : Int) - U.length) % 20 := by omega
        rw [es]
        exact oldrow h1 (j + 1) (fun _ => rfl) (by omega) (by omega)
      · have : j = 19 := by omega
        subst this
        rw [if_neg (by omega), if_pos rfl]
        have es : ((h 1000 66 + 1) % 20 + 21 + ((19 : Nat) : Int) - ((20 : Nat) : Int)) % 20 = (h 1000 66 + 1) % 20 := by omega
        rw [es]
        exact newrow h1 (fun _ => rfl)
theorem relM_act {A' : Yd} {U' : List Yd} {M' : Int} (hr : relM q h M A P U X) (h00 : A' 0 0 = A 0 0) (h01 : A' 0 1 = A 0 1) (hy : isN h' A') (hp : pastM h' U') (hb : tmB M' h') (hf : ∀ i k, ¬ (i = 1037 ∨ i = 1047 ∨ i = 1072 ∨ (i = 1000 ∧ (k = 48 ∨ k = 51 ∨ k = 52 ∨ k = 54 ∨ k = 65 ∨ k = 66 ∨ k = 97))) → h' i k = h i k) : relM q h' M' A' P U' X := by
  refine ⟨⟨hy, (hf _ _ (by omega)).trans hr.1.2.1, hb⟩, hp, ?_, fun i k hi => (hf i k (by omega)).trans (hr.2.2.2 i k hi)⟩
  rw [h00, h01]
  exact restM_fr hr.2.2.1 (fun i k hi => hf i k (by omega))
theorem m_dig {g : Int} (hn : n ≤ 1000000) (hr : relM q h M A P U X) (hx : okX n A P U X) (hK0 : ¬ digOK A g → ∀ h', relM q h' M A P U (sRf X 2) → K (-1) h') (hK1 : digOK A g → ∀ h', relM q h' M (sUp A 2 g (A 2 g + 1)) P (sKp U A) X → K (A 2 g + 1) h') : m_Model_dig [1000, g] h K := by
  have ho := hx.1.1
  have h6 := ho.1
  have hm := hr.1.1.1
  unfold m_Model_dig
  simp -implicitDefEqProofs only [↓dn_den, ↓dn_loc, ↓dn_k, ↓dn_add, ↓dn_sub, ↓dn_mul, ↓dn_div, ↓dn_rem, ↓dn_bop, ↓dn_ladd, ↓dn_lsub, ↓dn_lmul, ↓dn_ldiv, ↓dn_lrem, ↓dn_land, ↓dn_l2i, ↓dn_neg, ↓dn_get, ↓dn_fix, ↓dn_ald, ↓dn_gld, ↓dn_yld, ↓dn_len, ↓dn_gln, ↓dn_cc, ↓dn_cb, ↓dn_and, ↓dn_or, ↓dn_not, ↓dn_cite, ↓dn_ec, ↓dn_ei, ↓dn_skip, ↓dn_seq, ↓dn_set, ↓dn_inc, ↓dn_putf, ↓dn_putz, ↓dn_ast, ↓dn_exp, ↓dn_if, ↓dn_ret, ↓dn_retz, ↓dn_retv, ↓dn_brk, ↓dn_cont, ↓dn_cs, ↓dn_sw, ↓dn_pop32, ↓dn_pop64, ↓dn_aop, ↓dn_call, ↓dn_max, ↓dn_min, ↓dn_acp, ↓dn_i2l, ↓dn_args0, ↓dn_args1, og_pad, og_ent, og_rlt, og_rle, og_rgt, og_rge, og_req, og_rne, og_padd, og_psub, og_pmul, List.getD_cons_zero, List.getD_cons_succ, List.set_cons_zero, List.set_cons_succ, List.length_cons, List.length_nil, List.cons_append, List.nil_append, List.replicate, List.append_nil, Nat.reduceAdd, Nat.reduceSub, Nat.reduceEqDiff, if_true, if_false, reduceIte, Int.reduceAdd, Int.reduceSub, Int.reduceMul, Int.reduceNeg, Int.reduceLT, Int.reduceLE, Int.cast_ofNat_Int, true_or, or_true, true_and, and_true, false_and, List.mem_cons, List.not_mem_nil, or_false, false_or, ne_eq, og_i32]
  refine r_isGrave hm ho ⟨fun a => ?_, fun a => m_refuses (by decide) hn hr hx (hK0 (fun z => iteP0 a z.1))⟩
  have hg := iteP1 a
  have og := ho.2.1 g hg.1 hg.2
  refine r_inGrave hm ho hg.1 hg.2 ⟨fun b => m_refuses (by decide) hn hr hx (hK0 (fun z => b z.2.1)), fun b => ?_⟩
  refine r_deepOf hm ho hg.1 hg.2 ⟨fun c => m_refuses (by decide) hn hr hx (hK0 (fun z => by have := z.2.2; omega)), fun c => ?_⟩
  have hok : digOK A g := ⟨hg, by simpa using b, by omega⟩
  refine m_keeps hr hx (fun h1 hN1 hp1 hf1 => ?_)
  have eg := (hN1.1.2.1 g hg.1 hg.2).2.1
  rw [eg]
  repeat (refine And.intro (by omega) ?_)
  have hN2 : isN (og_up h1 1037 (1 + 3 * g) (A 2 g + 1)) (sUp A 2 g (A 2 g + 1)) := isN_upG (c := 2) (by omega) ho hg.1 hg.2 hN1
  have ho2 : okY (sUp A 2 g (A 2 g + 1)) := okY_up2 ho (by omega)
  refine r_deepOf hN2.1 ho2 hg.1 (by rw [sUp_c (by decide)]; exact hg.2) ?_
  rw [sUp_eq]
  refine hK1 hok _ (relM_act hr (sUp_c (by decide)) (sUp_c (by decide)) hN2 (pastM_fr hp1 (fun i k hi => og_up_i (by omega))) ?_ (fun i k hi => by rw [og_up_i (by omega)]; exact hf1 i k (by omega)))
  unfold tmB; rw [og_up_i (by decide), hf1 _ _ (by omega)]; exact hr.1.2.2
theorem m_fill {g p : Int} (hn : n ≤ 1000000) (hr : relM q h M A P U X) (hx : okX n A P U X) (hK0 : ¬ fillOK A g p → ∀ h', relM q h' M A P U (sRf X 2) → K 0 h') (hK1 : fillOK A g p → ∀ h', relM q h' M (sBury A p g 3) P (sKp U A) X → K 1 h') : m_Model_fill [1000, g, p] h K := by
  have ho := hx.1.1
  have h6 := ho.1
  have hm := hr.1.1.1
  have no : ¬ fillOK A g p → m_Model_isRefused [1000] h (fun x h1 => (x = 0 ∨ x = 1) ∧ K x h1) := fun z => m_isRefused hn hr hx (fun h1 hr1 => ⟨Or.inl rfl, hK0 z h1 hr1⟩)
  unfold m_Model_fill
  simp -implicitDefEqProofs only [↓dn_den, ↓dn_loc, ↓dn_k, ↓dn_add, ↓dn_sub, ↓dn_mul, ↓dn_div, ↓dn_rem, ↓dn_bop, ↓dn_ladd, ↓dn_lsub, ↓dn_lmul, ↓dn_ldiv, ↓dn_lrem, ↓dn_land, ↓dn_l2i, ↓dn_neg, ↓dn_get, ↓dn_fix, ↓dn_ald, ↓dn_gld, ↓dn_yld, ↓dn_len, ↓dn_gln, ↓dn_cc, ↓dn_cb, ↓dn_and, ↓dn_or, ↓dn_not, ↓dn_cite, ↓dn_ec, ↓dn_ei, ↓dn_skip, ↓dn_seq, ↓dn_set, ↓dn_inc, ↓dn_putf, ↓dn_putz, ↓dn_ast, ↓dn_exp, ↓dn_if, ↓dn_ret, ↓dn_retz, ↓dn_retv, ↓dn_brk, ↓dn_cont, ↓dn_cs, ↓dn_sw, ↓dn_pop32, ↓dn_pop64, ↓dn_aop, ↓dn_call, ↓dn_max, ↓dn_min, ↓dn_acp, ↓dn_i2l, ↓dn_args0, ↓dn_args1, og_pad, og_ent, og_rlt, og_rle, og_rgt, og_rge, og_req, og_rne, og_padd, og_psub, og_pmul, List.getD_cons_zero, List.getD_cons_succ, List.set_cons_zero, List.set_cons_succ, List.length_cons, List.length_nil, List.cons_append, List.nil_append, List.replicate, List.append_nil, Nat.reduceAdd, Nat.reduceSub, Nat.reduceEqDiff, if_true, if_false, reduceIte, Int.reduceAdd, Int.reduceSub, Int.reduceMul, Int.reduceNeg, Int.reduceLT, Int.reduceLE, Int.cast_ofNat_Int, true_or, or_true, true_and, and_true, false_and, List.mem_cons, List.not_mem_nil, or_false, false_or, ne_eq, og_i32]
  refine r_isGrave hm ho ⟨fun a => ?_, fun a => no (fun z => iteP0 a z.1)⟩
  have hg := iteP1 a
  refine r_isLiving hm ho ⟨fun b => ?_, fun b => no (fun z => iteP0 b z.2.1)⟩
  have hl := iteP1 b
  refine r_inGrave hm ho hg.1 hg.2 ⟨fun c => no (fun z => c z.2.2.1), fun c => ?_⟩
  refine r_doesFit hm ho hl.1.1 hl.1.2 hg.1 hg.2 ⟨fun d => ?_, fun d => no (fun z => by
    have := ite00 d
    unfold sFit at this
    rw [decide_eq_false_iff_not] at this
    exact this z.2.2.2)⟩
  have hd := ite10 d
  unfold sFit at hd
  rw [decide_eq_true_eq] at hd
  refine m_keeps hr hx (fun h1 hN1 hp1 hf1 => ?_)
  refine r_goesInto hN1 ho hx.1.2.1 hl.1.1 hl.1.2 hl.2 (Or.inr hg) (fun h2 hN2 hF2 hf2 => ?_)
  have sb := sameB_bury (A := A) (p := p) (g := g) (how := 3)
  refine hK1 ⟨hg, hl, by simpa using c, hd⟩ _ (relM_act hr sb.1 sb.2.1 hN2 (pastM_fr hp1 (fun i k hi => hf2 i k (by omega))) ?_ (fun i k hi => by rw [hf2 i k (by omega)]; exact hf1 i k (by omega)))
  unfold tmB; rw [hf2 _ _ (by decide), hf1 _ _ (by omega)]; exact hr.1.2.2
theorem m_talk {p w : Int} (hn : n ≤ 1000000) (hr : relM q h M A P U X) (hx : okX n A P U X) (hK0 : ¬ talkOK A p w → ∀ h', relM q h' M A P U (sRf X 2) → K 0 h') (hK1 : talkOK A p w → ∀ h', relM q h' M (sUp A 7 p w) P (sKp U A) X → K 1 h') : m_Model_talk [1000, p, w] h K := by
  have ho := hx.1.1
  have h6 := ho.1
  have hm := hr.1.1.1
  have no : ¬ talkOK A p w → m_Model_isRefused [1000] h (fun x h1 => (x = 0 ∨ x = 1) ∧ K x h1) := fun z => m_isRefused hn hr hx (fun h1 hr1 => ⟨Or.inl rfl, hK0 z h1 hr1⟩)
  unfold m_Model_talk
  simp -implicitDefEqProofs only [↓dn_den, ↓dn_loc, ↓dn_k, ↓dn_add, ↓dn_sub, ↓dn_mul, ↓dn_div, ↓dn_rem, ↓dn_bop, ↓dn_ladd, ↓dn_lsub, ↓dn_lmul, ↓dn_ldiv, ↓dn_lrem, ↓dn_land, ↓dn_l2i, ↓dn_neg, ↓dn_get, ↓dn_fix, ↓dn_ald, ↓dn_gld, ↓dn_yld, ↓dn_len, ↓dn_gln, ↓dn_cc, ↓dn_cb, ↓dn_and, ↓dn_or, ↓dn_not, ↓dn_cite, ↓dn_ec, ↓dn_ei, ↓dn_skip, ↓dn_seq, ↓dn_set, ↓dn_inc, ↓dn_putf, ↓dn_putz, ↓dn_ast, ↓dn_exp, ↓dn_if, ↓dn_ret, ↓dn_retz, ↓dn_retv, ↓dn_brk, ↓dn_cont, ↓dn_cs, ↓dn_sw, ↓dn_pop32, ↓dn_pop64, ↓dn_aop, ↓dn_call, ↓dn_max, ↓dn_min, ↓dn_acp, ↓dn_i2l, ↓dn_args0, ↓dn_args1, og_pad, og_ent, og_rlt, og_rle, og_rgt, og_rge, og_req, og_rne, og_padd, og_psub, og_pmul, List.getD_cons_zero, List.getD_cons_succ, List.set_cons_zero, List.set_cons_succ, List.length_cons, List.length_nil, List.cons_append, List.nil_append, List.replicate, List.append_nil, Nat.reduceAdd, Nat.reduceSub, Nat.reduceEqDiff, if_true, if_false, reduceIte, Int.reduceAdd, Int.reduceSub, Int.reduceMul, Int.reduceNeg, Int.reduceLT, Int.reduceLE, Int.cast_ofNat_Int, true_or, or_true, true_and, and_true, false_and, List.mem_cons, List.not_mem_nil, or_false, false_or, ne_eq, og_i32]
  refine r_isLiving hm ho ⟨fun b => ?_, fun b => no (fun z => iteP0 b z.1)⟩
  have hl := iteP1 b
  refine r_isIn ⟨fun c => ?_, fun c => no (fun z => iteP0 c z.2.1)⟩
  have hw := iteP1 c
  refine r_willOf hm ho hl.1.1 hl.1.2 ⟨fun d => no (fun z => z.2.2 d), fun d => ?_⟩
  refine m_keeps hr hx (fun h1 hN1 hp1 hf1 => ?_)
  repeat (refine And.intro (by omega) ?_)
  have hN2 : isN (og_up h1 1037 (21 + 3 * p) w) (sUp A 7 p w) := isN_upP (c := 7) (d := 21) (by omega) ho hl.1.1 hl.1.2 hN1
  refine hK1 ⟨hl, hw, d⟩ _ (relM_act hr (sUp_c (by decide)) (sUp_c (by decide)) hN2 (pastM_fr hp1 (fun i k hi => og_up_i (by omega))) ?_ (fun i k hi => by rw [og_up_i (by omega)]; exact hf1 i k (by omega)))
  unfold tmB; rw [og_up_i (by decide), hf1 _ _ (by omega)]; exact hr.1.2.2
theorem m_months {m : Int} (hn : n ≤ 1000000) (hM : 0 ≤ M) (hr : relM q h M A P U X) (hx : okX n A P U X) (hK0 : ¬ monthsOK A m → ∀ h', relM q h' M A P U (sRf X 3) → K (-1) h') (hK1 : monthsOK A m → ∀ h', relM q h' (M + 2000) (sIt P A m.toNat) P (sKp U A) X → K (sTot P A m.toNat) h') : m_Model_months [1000, m] h K := by
  have ho := hx.1.1
  have h6 := ho.1
  have hm0 := hx.1.2.2
  have hm := hr.1.1.1
  unfold m_Model_months
  simp -implicitDefEqProofs only [↓dn_den, ↓dn_loc, ↓dn_k, ↓dn_add, ↓dn_sub, ↓dn_mul, ↓dn_div, ↓dn_rem, ↓dn_bop, ↓dn_ladd, ↓dn_lsub, ↓dn_lmul, ↓dn_ldiv, ↓dn_lrem, ↓dn_land, ↓dn_l2i, ↓dn_neg, ↓dn_get, ↓dn_fix, ↓dn_ald, ↓dn_gld, ↓dn_yld, ↓dn_len, ↓dn_gln, ↓dn_cc, ↓dn_cb, ↓dn_and, ↓dn_or, ↓dn_not, ↓dn_cite, ↓dn_ec, ↓dn_ei, ↓dn_skip, ↓dn_seq, ↓dn_set, ↓dn_inc, ↓dn_putf, ↓dn_putz, ↓dn_ast, ↓dn_exp, ↓dn_if, ↓dn_ret, ↓dn_retz, ↓dn_retv, ↓dn_brk, ↓dn_cont, ↓dn_cs, ↓dn_sw, ↓dn_pop32, ↓dn_pop64, ↓dn_aop, ↓dn_call, ↓dn_max, ↓dn_min, ↓dn_acp, ↓dn_i2l, ↓dn_args0, ↓dn_args1, og_pad, og_ent, og_rlt, og_rle, og_rgt, og_rge, og_req, og_rne, og_padd, og_psub, og_pmul, List.getD_cons_zero, List.getD_cons_succ, List.set_cons_zero, List.set_cons_succ, List.length_cons, List.length_nil, List.cons_append, List.nil_append, List.replicate, List.append_nil, Nat.reduceAdd, Nat.reduceSub, Nat.reduceEqDiff, if_true, if_false, reduceIte, Int.reduceAdd, Int.reduceSub, Int.reduceMul, Int.reduceNeg, Int.reduceLT, Int.reduceLE, Int.cast_ofNat_Int, true_or, or_true, true_and, and_true, false_and, List.mem_cons, List.not_mem_nil, or_false, false_or, ne_eq, og_i32]
  refine r_isAhead hm (by omega) (by decide) (by decide) ⟨fun a => ?_, fun a => m_refuses (by decide) hn hr hx (hK0 (iteP0 a))⟩
  have hmm := iteP1 a
  refine m_keeps hr hx (fun h1 hN1 hp1 hf1 => ?_)
  have hR1 : hasM h1 P := hasM_fr hr.2.2.1.1 (fun i k hi => hf1 i k (by omega))
  refine r_monthsGo hR1 hx.2.1 hN1 ho hx.1.2.1 (by omega) (by omega) hm0 (fun h2 hN2 hF2 e54 => ?_)
  have s0 := sIt_0 (P := P) (A := A) m.toNat
  have tg := sTot_rg (P := P) ho m.toNat (by omega)
  rw [e54]
  refine hK1 hmm _ (relM_act hr s0.1 s0.2.1 hN2 (pastM_fr hp1 (fun i k hi => hF2.1 i k (by omega) (by omega) (fun z => by omega))) ⟨by rw [e54]; omega, by rw [e54]; omega⟩ (fun i k hi => by rw [hF2.1 i k (by omega) (by omega) (fun z => by omega)]; exact hf1 i k (by omega)))
theorem m_undo (hn : n ≤ 1000000) (hr : relM q h M A P U X) (hx : okX n A P U X) (hK0 : U = [] → ∀ h', relM q h' M A P U (sRf X 4) → K 0 h') (hK1 : U ≠ [] → ∀ h', relM q h' M (U.getD (U.length - 1) (fun _ _ => 0)) P U.dropLast X → K 1 h') : m_Model_undo [1000] h K := by
  have ho := hx.1.1
  have e4 := m_rfE (j := 4) (by decide) hn hr hx
  obtain ⟨⟨a, b, c, d⟩, e⟩ := hr.2.1
  unfold m_Model_undo
  simp -implicitDefEqProofs only [↓dn_den, ↓dn_loc, ↓dn_k, ↓dn_add, ↓dn_sub, ↓dn_mul, ↓dn_div, ↓dn_rem, ↓dn_bop, ↓dn_ladd, ↓dn_lsub, ↓dn_lmul, ↓dn_ldiv, ↓dn_lrem, ↓dn_land, ↓dn_l2i, ↓dn_neg, ↓dn_get, ↓dn_fix, ↓dn_ald, ↓dn_gld, ↓dn_yld, ↓dn_len, ↓dn_gln, ↓dn_cc, ↓dn_cb, ↓dn_and, ↓dn_or, ↓dn_not, ↓dn_cite, ↓dn_ec, ↓dn_ei, ↓dn_skip, ↓dn_seq, ↓dn_set, ↓dn_inc, ↓dn_putf, ↓dn_putz, ↓dn_ast, ↓dn_exp, ↓dn_if, ↓dn_ret, ↓dn_retz, ↓dn_retv, ↓dn_brk, ↓dn_cont, ↓dn_cs, ↓dn_sw, ↓dn_pop32, ↓dn_pop64, ↓dn_aop, ↓dn_call, ↓dn_max, ↓dn_min, ↓dn_acp, ↓dn_i2l, ↓dn_args0, ↓dn_args1, og_pad, og_ent, og_rlt, og_rle, og_rgt, og_rge, og_req, og_rne, og_padd, og_psub, og_pmul, List.getD_cons_zero, List.getD_cons_succ, List.set_cons_zero, List.set_cons_succ, List.length_cons, List.length_nil, List.cons_append, List.nil_append, List.replicate, List.append_nil, Nat.reduceAdd, Nat.reduceSub, Nat.reduceEqDiff, if_true, if_false, reduceIte, Int.reduceAdd, Int.reduceSub, Int.reduceMul, Int.reduceNeg, Int.reduceLT, Int.reduceLE, Int.cast_ofNat_Int, true_or, or_true, true_and, and_true, false_and, List.mem_cons, List.not_mem_nil, or_false, false_or, ne_eq, og_i32]
  rw [a, e4.1]
  refine ⟨fun z => ?_, fun z => ?_⟩
  · repeat (refine And.intro (by omega) ?_)
    exact hK0 (List.eq_nil_of_length_eq_zero (by omega)) _ (relM_rf ho hr)
  have hl : 0 < U.length := by omega
  have hu := hx.2.2.1 (U.length - 1) (by omega)
  have hne : U ≠ [] := fun z => by rw [z] at hl; simp at hl
  have el := e (U.length - 1) (by omega)
  have es : (h 1000 66 + 21 + ((U.length - 1 : Nat) : Int) - U.length) % 20 = h 1000 66 := by omega
  rw [es] at el
  refine ⟨fun e1 h1 => (∃ c1, e1 = [1000, c1]) ∧ (∀ k, 0 ≤ k → k < 204 → h1 1037 k = h 1047 (204 * h 1000 66 + k)) ∧ (∀ i k, i ≠ 1037 → h1 i k = h i k), ?_, ?_⟩
  · simp -implicitDefEqProofs only [↓dn_den, ↓dn_loc, ↓dn_k, ↓dn_add, ↓dn_sub, ↓dn_mul, ↓dn_div, ↓dn_rem, ↓dn_bop, ↓dn_ladd, ↓dn_lsub, ↓dn_lmul, ↓dn_ldiv, ↓dn_lrem, ↓dn_land, ↓dn_l2i, ↓dn_neg, ↓dn_get, ↓dn_fix, ↓dn_ald, ↓dn_gld, ↓dn_yld, ↓dn_len, ↓dn_gln, ↓dn_cc, ↓dn_cb, ↓dn_and, ↓dn_or, ↓dn_not, ↓dn_cite, ↓dn_ec, ↓dn_ei, ↓dn_skip, ↓dn_seq, ↓dn_set, ↓dn_inc, ↓dn_putf, ↓dn_putz, ↓dn_ast, ↓dn_exp, ↓dn_if, ↓dn_ret, ↓dn_retz, ↓dn_retv, ↓dn_brk, ↓dn_cont, ↓dn_cs, ↓dn_sw, ↓dn_pop32, ↓dn_pop64, ↓dn_aop, ↓dn_call, ↓dn_max, ↓dn_min, ↓dn_acp, ↓dn_i2l, ↓dn_args0, ↓dn_args1, og_pad, og_ent, og_rlt, og_rle, og_rgt, og_rge, og_req, og_rne, og_padd, og_psub, og_pmul, List.getD_cons_zero, List.getD_cons_succ, List.set_cons_zero, List.set_cons_succ, List.length_cons, List.length_nil, List.cons_append, List.nil_append, List.replicate, List.append_nil, Nat.reduceAdd, Nat.reduceSub, Nat.reduceEqDiff, if_true, if_false, reduceIte, Int.reduceAdd, Int.reduceSub, Int.reduceMul, Int.reduceNeg, Int.reduceLT, Int.reduceLE, Int.cast_ofNat_Int, true_or, or_true, true_and, and_true, false_and, List.mem_cons, List.not_mem_nil, or_false, false_or, ne_eq]
    refine og_loop 204 (fun i e1 h1 => e1 = [1000, (i : Int)] ∧ (∀ k : Int, 0 ≤ k → k < i → h1 1037 k = h 1047 (204 * h 1000 66 + k)) ∧ (∀ i k, i ≠ 1037 → h1 i k = h i k)) ⟨rfl, fun k k0 k1 => by omega, fun _ _ _ => rfl⟩ ?_
    rintro i e1 h1 hi ⟨rfl, w1, w3⟩
    simp -implicitDefEqProofs only [↓dn_den, ↓dn_loc, ↓dn_k, ↓dn_add, ↓dn_sub, ↓dn_mul, ↓dn_div, ↓dn_rem, ↓dn_bop, ↓dn_ladd, ↓dn_lsub, ↓dn_lmul, ↓dn_ldiv, ↓dn_lrem, ↓dn_land, ↓dn_l2i, ↓dn_neg, ↓dn_get, ↓dn_fix, ↓dn_ald, ↓dn_gld, ↓dn_yld, ↓dn_len, ↓dn_gln, ↓dn_cc, ↓dn_cb, ↓dn_and, ↓dn_or, ↓dn_not, ↓dn_cite, ↓dn_ec, ↓dn_ei, ↓dn_skip, ↓dn_seq, ↓dn_set, ↓dn_inc, ↓dn_putf, ↓dn_putz, ↓dn_ast, ↓dn_exp, ↓dn_if, ↓dn_ret, ↓dn_retz, ↓dn_retv, ↓dn_brk, ↓dn_cont, ↓dn_cs, ↓dn_sw, ↓dn_pop32, ↓dn_pop64, ↓dn_aop, ↓dn_call, ↓dn_max, ↓dn_min, ↓dn_acp, ↓dn_i2l, ↓dn_args0, ↓dn_args1, og_pad, og_ent, og_rlt, og_rle, og_rgt, og_rge, og_req, og_rne, og_padd, og_psub, og_pmul, List.getD_cons_zero, List.getD_cons_succ, List.set_cons_zero, List.set_cons_succ, List.length_cons, List.length_nil, List.cons_append, List.nil_append, List.replicate, List.append_nil, Nat.reduceAdd, Nat.reduceSub, Nat.reduceEqDiff, if_true, if_false, reduceIte, Int.reduceAdd, Int.reduceSub, Int.reduceMul, Int.reduceNeg, Int.reduceLT, Int.reduceLE, Int.cast_ofNat_Int, true_or, or_true, true_and, and_true, false_and, List.mem_cons, List.not_mem_nil, or_false, false_or, ne_eq, og_i32]
    rw [w3 1000 66 (by decide), w3 1047 _ (by decide)]
    refine ⟨fun hlt => ?_, fun hge => ?_⟩
    · repeat (refine And.intro (by omega) ?_)
      refine og_nx_mk (by omega) ⟨by simp, fun k k0 k1 => ?_, fun j k hj => by rw [og_up_i hj]; exact w3 j k hj⟩
      by_cases e : k = i
      · subst e; rw [og_up_eq]
      · rw [og_up_k (by omega)]; exact w1 k k0 (by omega)
    · have e : i = 204 := by omega
      subst e
      exact ⟨⟨_, rfl⟩, w1, w3⟩
  · rintro e1 h1 ⟨⟨c1, rfl⟩, w1, w3⟩
    simp -implicitDefEqProofs only [↓dn_den, ↓dn_loc, ↓dn_k, ↓dn_add, ↓dn_sub, ↓dn_mul, ↓dn_div, ↓dn_rem, ↓dn_bop, ↓dn_ladd, ↓dn_lsub, ↓dn_lmul, ↓dn_ldiv, ↓dn_lrem, ↓dn_land, ↓dn_l2i, ↓dn_neg, ↓dn_get, ↓dn_fix, ↓dn_ald, ↓dn_gld, ↓dn_yld, ↓dn_len, ↓dn_gln, ↓dn_cc, ↓dn_cb, ↓dn_and, ↓dn_or, ↓dn_not, ↓dn_cite, ↓dn_ec, ↓dn_ei, ↓dn_skip, ↓dn_seq, ↓dn_set, ↓dn_inc, ↓dn_putf, ↓dn_putz, ↓dn_ast, ↓dn_exp, ↓dn_if, ↓dn_ret, ↓dn_retz, ↓dn_retv, ↓dn_brk, ↓dn_cont, ↓dn_cs, ↓dn_sw, ↓dn_pop32, ↓dn_pop64, ↓dn_aop, ↓dn_call, ↓dn_max, ↓dn_min, ↓dn_acp, ↓dn_i2l, ↓dn_args0, ↓dn_args1, og_pad, og_ent, og_rlt, og_rle, og_rgt, og_rge, og_req, og_rne, og_padd, og_psub, og_pmul, List.getD_cons_zero, List.getD_cons_succ, List.set_cons_zero, List.set_cons_succ, List.length_cons, List.length_nil, List.cons_append, List.nil_append, List.replicate, List.append_nil, Nat.reduceAdd, Nat.reduceSub, Nat.reduceEqDiff, if_true, if_false, reduceIte, Int.reduceAdd, Int.reduceSub, Int.reduceMul, Int.reduceNeg, Int.reduceLT, Int.reduceLE, Int.cast_ofNat_Int, true_or, or_true, true_and, and_true, false_and, List.mem_cons, List.not_mem_nil, or_false, false_or, ne_eq, og_i32]
    rw [w3 1000 66 (by decide)]
    have em : (h 1000 66 + 20 - 1).tmod 20 = (h 1000 66 + 19) % 20 := by
      rw [Int.tmod_eq_emod_of_nonneg (by omega)]
      congr 1
      omega
    rw [em]
    repeat (refine And.intro (by omega) ?_)
    rw [og_up_k (by decide), w3 1000 65 (by decide), a]
    have ec : (U.length : Int) - 1 = ((U.length - 1 : Nat) : Int) := by omega
    rw [ec]
    repeat (refine And.intro (by omega) ?_)
    have hf : ∀ i k, ¬ (i = 1000 ∧ (k = 65 ∨ k = 66)) → og_up (og_up h1 1000 66 ((h 1000 66 + 19) % 20)) 1000 65 ((U.length - 1 : Nat) : Int) i k = h1 i k := fun i k hik => by
      unfold og_up
      rw [if_neg (by omega), if_neg (by omega)]
    have e66 : og_up (og_up h1 1000 66 ((h 1000 66 + 19) % 20)) 1000 65 ((U.length - 1 : Nat) : Int) 1000 66 = (h 1000 66 + 19) % 20 := by rw [og_up_k (by decide), og_up_eq]
    have pr := (isN_row hr.1.1 hr.1.2.1).2
    have dl : U.dropLast.length = U.length - 1 := List.length_dropLast
    refine hK1 hne _ (relM_act hr hu.2.2.2.1 hu.2.2.2.2.1 (row_isN (isRow_congr hu.1 el (fun k k0 k1 => by rw [hf _ _ (by omega)]; exact w1 k k0 k1)) ⟨?_, ?_, ?_, ?_⟩) ?_ ?_ (fun i k hi => by rw [hf _ _ (by omega)]; exact w3 i k (by omega)))
    · rw [hf _ _ (by omega), w3 _ _ (by decide), hu.2.2.2.1]; exact pr.1
    · rw [hf _ _ (by omega), w3 _ _ (by decide), hu.2.2.2.2.1]; exact pr.2.1
    · intro k k0 k1
      rw [hu.2.2.2.1] at k1
      rw [hf _ _ (by omega), w3 _ _ (by decide), hu.2.2.2.2.2.1 k k0 k1]; exact pr.2.2.1 k k0 k1
    · intro k k0 k1
      rw [hu.2.2.2.2.1] at k1
      rw [hf _ _ (by omega), w3 _ _ (by decide), hu.2.2.2.2.2.2 k k0 k1]; exact pr.2.2.2 k k0 k1
    · refine ⟨⟨by rw [og_up_eq, dl], by omega, by rw [e66]; omega, by rw [e66]; omega⟩, fun j hj => ?_⟩
      rw [dl] at hj
      have eg : U.dropLast.getD j (fun _ _ => 0) = U.getD j (fun _ _ => 0) := by
        rw [List.getD_eq_getElem?_getD, List.getD_eq_getElem?_getD, List.getElem?_dropLast, if_pos (by omega)]
      have es2 : ((h 1000 66 + 19) % 20 + 21 + (j : Int) - ((U.length - 1 : Nat) : Int)) % 20 = (h 1000 66 + 21 + j - U.length) % 20 := by omega
      rw [e66, dl, eg, es2]
      exact isRow_congr (hx.2.2.1 j (by omega)).1 (e j (by omega)) (fun k k0 k1 => by
        show og_up _ _ _ _ 1047 _ = h 1047 _
        rw [hf _ _ (by omega), w3 _ _ (by decide)])
    · unfold tmB
      rw [hf _ _ (by omega), w3 _ _ (by decide)]
      exact hr.1.2.2
end
end
