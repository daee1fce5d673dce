section
-- rows of graves: the reference
def mstOK (h : Hp) (A : Yd) (H : Nat → Int) (g0 : Int) : Prop := ∀ g : Int, g0 ≤ g → g ≤ A 0 0 → ∀ u : Nat, u < 256 → h 1039 (256 * g + u) = rMo (rB A H (A 0 0 - g).toNat u) ∧ h 1040 (256 * g + u) = rHa (rB A H (A 0 0 - g).toNat u)
def hmsOK (h : Hp) (A : Yd) (H : Nat → Int) : Prop := ∀ p : Nat, p < sNp A → h 1041 (p : Int) = H p
theorem rV_mo {A : Yd} {H : Nat → Int} {j u p : Nat} (hH : ∀ p, 0 ≤ H p ∧ H p ≤ 999) (hj : j < 6) : rMo (10000 - H p + rB A H j u) = 1 + rMo (rB A H j u) ∧ rHa (10000 - H p + rB A H j u) = H p + rHa (rB A H j u) := by
  have v := rVal_mo (j := j) (by omega) (rB_val (A := A) hH j u)
  have := hH p
  have e := rMo_eq (j := j + 1) (m := 1 + rMo (rB A H j u)) (w := H p + rHa (rB A H j u)) (by omega) (by omega) (by omega) (by omega) (by omega)
  have ee : 10000 * (1 + rMo (rB A H j u)) - (H p + rHa (rB A H j u)) = 10000 - H p + rB A H j u := by omega
  rw [ee] at e
  exact e
theorem rV_val {A : Yd} {H : Nat → Int} {j u p : Nat} (hH : ∀ p, 0 ≤ H p ∧ H p ≤ 999) (hj : j < 6) : rVal (j + 1) (10000 - H p + rB A H j u) := by
  have v := rVal_mo (j := j) (by omega) (rB_val (A := A) hH j u)
  have := hH p
  exact ⟨1 + rMo (rB A H j u), H p + rHa (rB A H j u), by omega, by omega, by omega, by omega, by omega⟩
theorem rVal_up {j : Nat} {b : Int} (h : rVal j b) : rVal (j + 1) b := by
  obtain ⟨m, w, a1, a2, a3, a4, a5⟩ := h
  exact ⟨m, w, a1, a2, by omega, a4, a5⟩
section
variable {h : Hp} {A : Yd} {P : Pr} {H : Nat → Int} {K : Int → Hp → Prop}
theorem r_mostBy0 {g : Int} {u j : Nat} (ho : okY A) (hb : mstOK h A H (g + 1)) (hj : A 0 0 - g = j + 1) (hg : 0 ≤ g) (hu : u < 256) (hK : K (rMo (rB A H j u)) h) : m_Model_mostBy [1000, g, (u : Int), -1] h K := by
  have h6 := ho.1
  unfold m_Model_mostBy
  simp -implicitDefEqProofs only [↓dn_den, ↓dn_loc, ↓dn_k, ↓dn_add, ↓dn_sub, ↓dn_mul, ↓dn_div, ↓dn_rem, ↓dn_bop, ↓dn_ladd, ↓dn_lsub, ↓dn_lmul, ↓dn_ldiv, ↓dn_lrem, ↓dn_land, ↓dn_l2i, ↓dn_neg, ↓dn_get, ↓dn_fix, ↓dn_ald, ↓dn_gld, ↓dn_yld, ↓dn_len, ↓dn_gln, ↓dn_cc, ↓dn_cb, ↓dn_and, ↓dn_or, ↓dn_not, ↓dn_cite, ↓dn_ec, ↓dn_ei, ↓dn_skip, ↓dn_seq, ↓dn_set, ↓dn_inc, ↓dn_putf, ↓dn_putz, ↓dn_ast, ↓dn_exp, ↓dn_if, ↓dn_ret, ↓dn_retz, ↓dn_retv, ↓dn_brk, ↓dn_cont, ↓dn_cs, ↓dn_sw, ↓dn_pop32, ↓dn_pop64, ↓dn_aop, ↓dn_call, ↓dn_max, ↓dn_min, ↓dn_acp, ↓dn_i2l, ↓dn_args0, ↓dn_args1, og_pad, og_ent, og_rlt, og_rle, og_rgt, og_rge, og_req, og_rne, og_padd, og_psub, og_pmul, List.getD_cons_zero, List.getD_cons_succ, List.set_cons_zero, List.set_cons_succ, List.length_cons, List.length_nil, List.cons_append, List.nil_append, List.replicate, List.append_nil, Nat.reduceAdd, Nat.reduceSub, Nat.reduceEqDiff, if_true, if_false, reduceIte, Int.reduceAdd, Int.reduceSub, Int.reduceMul, Int.reduceNeg, Int.reduceLT, Int.reduceLE, Int.cast_ofNat_Int, true_or, or_true, true_and, and_true, false_and, List.mem_cons, List.not_mem_nil, or_false, false_or, ne_eq, og_i32]
  have hv := (hb (g + 1) (by omega) (by omega) u hu).1
  have ej : (A 0 0 - (g + 1)).toNat = j := by omega
  rw [ej] at hv
  rw [hv]
  exact ⟨fun _ => ⟨by omega, by omega, by omega, by omega, by omega, hK⟩, fun z => absurd (by trivial) z⟩
theorem r_mostBy1 {g : Int} {u p j : Nat} (hm : isM h A) (ho : okY A) (hb : mstOK h A H (g + 1)) (hj : A 0 0 - g = j + 1) (hg : 0 ≤ g) (hp : p < sNp A) (hu : u < 256) (hH : ∀ p, 0 ≤ H p ∧ H p ≤ 999) (hK : K (if rFree A g u p = true then 1 + rMo (rB A H j (u ||| 2 ^ p)) else -1) h) : m_Model_mostBy [1000, g, (u : Int), (p : Int)] h K := by
  have h6 := ho.1
  have hnp : sNp A = (A 0 1).toNat := rfl
  unfold m_Model_mostBy
  simp -implicitDefEqProofs only [↓dn_den, ↓dn_loc, ↓dn_k, ↓dn_add, ↓dn_sub, ↓dn_mul, ↓dn_div, ↓dn_rem, ↓dn_bop, ↓dn_ladd, ↓dn_lsub, ↓dn_lmul, ↓dn_ldiv, ↓dn_lrem, ↓dn_land, ↓dn_l2i, ↓dn_neg, ↓dn_get, ↓dn_fix, ↓dn_ald, ↓dn_gld, ↓dn_yld, ↓dn_len, ↓dn_gln, ↓dn_cc, ↓dn_cb, ↓dn_and, ↓dn_or, ↓dn_not, ↓dn_cite, ↓dn_ec, ↓dn_ei, ↓dn_skip, ↓dn_seq, ↓dn_set, ↓dn_inc, ↓dn_putf, ↓dn_putz, ↓dn_ast, ↓dn_exp, ↓dn_if, ↓dn_ret, ↓dn_retz, ↓dn_retv, ↓dn_brk, ↓dn_cont, ↓dn_cs, ↓dn_sw, ↓dn_pop32, ↓dn_pop64, ↓dn_aop, ↓dn_call, ↓dn_max, ↓dn_min, ↓dn_acp, ↓dn_i2l, ↓dn_args0, ↓dn_args1, og_pad, og_ent, og_rlt, og_rle, og_rgt, og_rge, og_req, og_rne, og_padd, og_psub, og_pmul, List.getD_cons_zero, List.getD_cons_succ, List.set_cons_zero, List.set_cons_succ, List.length_cons, List.length_nil, List.cons_append, List.nil_append, List.replicate, List.append_nil, Nat.reduceAdd, Nat.reduceSub, Nat.reduceEqDiff, if_true, if_false, reduceIte, Int.reduceAdd, Int.reduceSub, Int.reduceMul, Int.reduceNeg, Int.reduceLT, Int.reduceLE, Int.cast_ofNat_Int, true_or, or_true, true_and, and_true, false_and, List.mem_cons, List.not_mem_nil, or_false, false_or, ne_eq, og_i32]
  refine ⟨fun z => by omega, fun _ => ?_⟩
  have no : rFree A g u p = false → K (-1) h := fun z => by rw [if_neg (by rw [z]; decide)] at hK; exact hK
  refine r_doesAsk hm ho hg (by omega) ⟨fun a1 => ?_, fun a1 => no (by unfold rFree; rw [ite00 a1]; rfl)⟩
  refine r_isAlive hm ho (by omega) (by omega) ⟨fun a2 => ?_, fun a2 => no (by unfold rFree; rw [ite00 a2]; simp)⟩
  rw [bt_and u (by omega) p (by omega)]
  refine ⟨fun a3 => no ?_, fun a3 => ?_⟩
  · have a3' : u.testBit p = true := by
      by_cases q : u.testBit p = true
      · exact q
      · rw [if_neg q] at a3; exact absurd a3 (by decide)
    unfold rFree
    rw [a3']
    simp
  have a3' : u.testBit p = false := by
    by_cases q : u.testBit p = true
    · rw [if_pos q] at a3; exact absurd rfl a3
    · simpa using q
  refine r_doesFit hm ho (by omega) (by omega) hg (by omega) ⟨fun a4 => ?_, fun a4 => no (by unfold rFree; rw [ite00 a4]; simp)⟩
  rw [bt_or u (by omega) p (by omega)]
  have hF : rFree A g u p = true := by unfold rFree; rw [ite10 a1, ite10 a2, ite10 a4, a3']; rfl
  rw [if_pos hF] at hK
  have hlt : u ||| 2 ^ p < 256 := bt_or_lt (n := 8) hu (by omega)
  have hv := (hb (g + 1) (by omega) (by omega) (u ||| 2 ^ p) hlt).1
  have ej : (A 0 0 - (g + 1)).toNat = j := by omega
  have vm := rVal_mo (j := j) (by omega) (rB_val (A := A) hH j (u ||| 2 ^ p))
  rw [ej] at hv
  rw [hv]
  generalize (u ||| 2 ^ p) = q at *
  exact ⟨by omega, by omega, by omega, by omega, by omega, by omega, hK⟩
theorem r_harmBy0 {g : Int} {u j : Nat} (ho : okY A) (hb : mstOK h A H (g + 1)) (hj : A 0 0 - g = j + 1) (hg : 0 ≤ g) (hu : u < 256) (hK : K (rHa (rB A H j u)) h) : m_Model_harmBy [1000, g, (u : Int), -1] h K := by
  have h6 := ho.1
  unfold m_Model_harmBy
  simp -implicitDefEqProofs only [↓dn_den, ↓dn_loc, ↓dn_k, ↓dn_add, ↓dn_sub, ↓dn_mul, ↓dn_div, ↓dn_rem, ↓dn_bop, ↓dn_ladd, ↓dn_lsub, ↓dn_lmul, ↓dn_ldiv, ↓dn_lrem, ↓dn_land, ↓dn_l2i, ↓dn_neg, ↓dn_get, ↓dn_fix, ↓dn_ald, ↓dn_gld, ↓dn_yld, ↓dn_len, ↓dn_gln, ↓dn_cc, ↓dn_cb, ↓dn_and, ↓dn_or, ↓dn_not, ↓dn_cite, ↓dn_ec, ↓dn_ei, ↓dn_skip, ↓dn_seq, ↓dn_set, ↓dn_inc, ↓dn_putf, ↓dn_putz, ↓dn_ast, ↓dn_exp, ↓dn_if, ↓dn_ret, ↓dn_retz, ↓dn_retv, ↓dn_brk, ↓dn_cont, ↓dn_cs, ↓dn_sw, ↓dn_pop32, ↓dn_pop64, ↓dn_aop, ↓dn_call, ↓dn_max, ↓dn_min, ↓dn_acp, ↓dn_i2l, ↓dn_args0, ↓dn_args1, og_pad, og_ent, og_rlt, og_rle, og_rgt, og_rge, og_req, og_rne, og_padd, og_psub, og_pmul, List.getD_cons_zero, List.getD_cons_succ, List.set_cons_zero, List.set_cons_succ, List.length_cons, List.length_nil, List.cons_append, List.nil_append, List.replicate, List.append_nil, Nat.reduceAdd, Nat.reduceSub, Nat.reduceEqDiff, if_true, if_false, reduceIte, Int.reduceAdd, Int.reduceSub, Int.reduceMul, Int.reduceNeg, Int.reduceLT, Int.reduceLE, Int.cast_ofNat_Int, true_or, or_true, true_and, and_true, false_and, List.mem_cons, List.not_mem_nil, or_false, false_or, ne_eq, og_i32]
  have hv := (hb (g + 1) (by omega) (by omega) u hu).2
  have ej : (A 0 0 - (g + 1)).toNat = j := by omega
  rw [ej] at hv
  rw [hv]
  exact ⟨fun _ => ⟨by omega, by omega, by omega, by omega, by omega, hK⟩, fun z => absurd (by trivial) z⟩
theorem r_harmBy1 {g : Int} {u p j : Nat} (ho : okY A) (hb : mstOK h A H (g + 1)) (hh : hmsOK h A H) (hj : A 0 0 - g = j + 1) (hg : 0 ≤ g) (hp : p < sNp A) (hu : u < 256) (hH : ∀ p, 0 ≤ H p ∧ H p ≤ 999) (hK : K (H p + rHa (rB A H j (u ||| 2 ^ p))) h) : m_Model_harmBy [1000, g, (u : Int), (p : Int)] h K := by
  have h6 := ho.1
  have hnp : sNp A = (A 0 1).toNat := rfl
  unfold m_Model_harmBy
  simp -implicitDefEqProofs only [↓dn_den, ↓dn_loc, ↓dn_k, ↓dn_add, ↓dn_sub, ↓dn_mul, ↓dn_div, ↓dn_rem, ↓dn_bop, ↓dn_ladd, ↓dn_lsub, ↓dn_lmul, ↓dn_ldiv, ↓dn_lrem, ↓dn_land, ↓dn_l2i, ↓dn_neg, ↓dn_get, ↓dn_fix, ↓dn_ald, ↓dn_gld, ↓dn_yld, ↓dn_len, ↓dn_gln, ↓dn_cc, ↓dn_cb, ↓dn_and, ↓dn_or, ↓dn_not, ↓dn_cite, ↓dn_ec, ↓dn_ei, ↓dn_skip, ↓dn_seq, ↓dn_set, ↓dn_inc, ↓dn_putf, ↓dn_putz, ↓dn_ast, ↓dn_exp, ↓dn_if, ↓dn_ret, ↓dn_retz, ↓dn_retv, ↓dn_brk, ↓dn_cont, ↓dn_cs, ↓dn_sw, ↓dn_pop32, ↓dn_pop64, ↓dn_aop, ↓dn_call, ↓dn_max, ↓dn_min, ↓dn_acp, ↓dn_i2l, ↓dn_args0, ↓dn_args1, og_pad, og_ent, og_rlt, og_rle, og_rgt, og_rge, og_req, og_rne, og_padd, og_psub, og_pmul, List.getD_cons_zero, List.getD_cons_succ, List.set_cons_zero, List.set_cons_succ, List.length_cons, List.length_nil, List.cons_append, List.nil_append, List.replicate, List.append_nil, Nat.reduceAdd, Nat.reduceSub, Nat.reduceEqDiff, if_true, if_false, reduceIte, Int.reduceAdd, Int.reduceSub, Int.reduceMul, Int.reduceNeg, Int.reduceLT, Int.reduceLE, Int.cast_ofNat_Int, true_or, or_true, true_and, and_true, false_and, List.mem_cons, List.not_mem_nil, or_false, false_or, ne_eq, og_i32]
  refine ⟨fun z => by omega, fun _ => ?_⟩
  rw [bt_or u (by omega) p (by omega)]
  have hlt : u ||| 2 ^ p < 256 := bt_or_lt (n := 8) hu (by omega)
  have hv := (hb (g + 1) (by omega) (by omega) (u ||| 2 ^ p) hlt).2
  have ej : (A 0 0 - (g + 1)).toNat = j := by omega
  have vm := rVal_mo (j := j) (by omega) (rB_val (A := A) hH j (u ||| 2 ^ p))
  have hp1 := hH p
  rw [ej] at hv
  rw [hv, hh p hp]
  generalize (u ||| 2 ^ p) = q at *
  exact ⟨by omega, by omega, by omega, by omega, by omega, by omega, by omega, by omega, hK⟩
theorem r_rowLays {g : Int} {u : Nat} (hm : isM h A) (ho : okY A) (hb : mstOK h A H (g + 1)) (hh : hmsOK h A H) (hH : ∀ p, 0 ≤ H p ∧ H p ≤ 999) (hg : 0 ≤ g ∧ g < A 0 0) (hu : u < 256)
    (hK : ∀ h', h' 1039 (256 * g + u) = rMo (rB A H (A 0 0 - g).toNat u) → h' 1040 (256 * g + u) = rHa (rB A H (A 0 0 - g).toNat u) → (∀ i k, ¬ ((i = 1039 ∨ i = 1040) ∧ k = 256 * g + u) → h' i k = h i k) → K 0 h') : m_Model_rowLays [1000, g, (u : Int)] h K := by
  have h6 := ho.1
  have hnp : sNp A = (A 0 1).toNat := rfl
  obtain ⟨j, hj⟩ : ∃ j : Nat, A 0 0 - g = j + 1 := ⟨(A 0 0 - g - 1).toNat, by omega⟩
  have e2 : (A 0 0 - g).toNat = j + 1 := by omega
  have e3 : A 0 0 - ((j : Int) + 1) = g := by omega
  rw [e2, rB_s, e3] at hK
  generalize hv : (fun p => 10000 - H p + rB A H j (u ||| 2 ^ p)) = v at *
  have vv : ∀ p, rVal (j + 1) (v p) := fun p => by rw [← hv]; exact rV_val hH (by omega)
  have vb : rVal (j + 1) (rB A H j u) := rVal_up (rB_val hH j u)
  have vF := rFold_val (fr := rFree A g u) vb vv
  unfold m_Model_rowLays
  simp -implicitDefEqProofs only [↓dn_den, ↓dn_loc, ↓dn_k, ↓dn_add, ↓dn_sub, ↓dn_mul, ↓dn_div, ↓dn_rem, ↓dn_bop, ↓dn_ladd, ↓dn_lsub, ↓dn_lmul, ↓dn_ldiv, ↓dn_lrem, ↓dn_land, ↓dn_l2i, ↓dn_neg, ↓dn_get, ↓dn_fix, ↓dn_ald, ↓dn_gld, ↓dn_yld, ↓dn_len, ↓dn_gln, ↓dn_cc, ↓dn_cb, ↓dn_and, ↓dn_or, ↓dn_not, ↓dn_cite, ↓dn_ec, ↓dn_ei, ↓dn_skip, ↓dn_seq, ↓dn_set, ↓dn_inc, ↓dn_putf, ↓dn_putz, ↓dn_ast, ↓dn_exp, ↓dn_if, ↓dn_ret, ↓dn_retz, ↓dn_retv, ↓dn_brk, ↓dn_cont, ↓dn_cs, ↓dn_sw, ↓dn_pop32, ↓dn_pop64, ↓dn_aop, ↓dn_call, ↓dn_max, ↓dn_min, ↓dn_acp, ↓dn_i2l, ↓dn_args0, ↓dn_args1, og_pad, og_ent, og_rlt, og_rle, og_rgt, og_rge, og_req, og_rne, og_padd, og_psub, og_pmul, List.getD_cons_zero, List.getD_cons_succ, List.set_cons_zero, List.set_cons_succ, List.length_cons, List.length_nil, List.cons_append, List.nil_append, List.replicate, List.append_nil, Nat.reduceAdd, Nat.reduceSub, Nat.reduceEqDiff, if_true, if_false, reduceIte, Int.reduceAdd, Int.reduceSub, Int.reduceMul, Int.reduceNeg, Int.reduceLT, Int.reduceLE, Int.cast_ofNat_Int, true_or, or_true, true_and, and_true, false_and, List.mem_cons, List.not_mem_nil, or_false, false_or, ne_eq]
  refine ⟨fun e1 h1 => h1 = h ∧ ∃ c5 c6 c7, e1 = [1000, g, (u : Int), rMo (rFold (rFree A g u) v (rB A H j u) (sNp A)), rHa (rFold (rFree A g u) v (rB A H j u) (sNp A)), c5, c6, c7], ?_, ?_⟩
  · simp -implicitDefEqProofs only [↓dn_den, ↓dn_loc, ↓dn_k, ↓dn_add, ↓dn_sub, ↓dn_mul, ↓dn_div, ↓dn_rem, ↓dn_bop, ↓dn_ladd, ↓dn_lsub, ↓dn_lmul, ↓dn_ldiv, ↓dn_lrem, ↓dn_land, ↓dn_l2i, ↓dn_neg, ↓dn_get, ↓dn_fix, ↓dn_ald, ↓dn_gld, ↓dn_yld, ↓dn_len, ↓dn_gln, ↓dn_cc, ↓dn_cb, ↓dn_and, ↓dn_or, ↓dn_not, ↓dn_cite, ↓dn_ec, ↓dn_ei, ↓dn_skip, ↓dn_seq, ↓dn_set, ↓dn_inc, ↓dn_putf, ↓dn_putz, ↓dn_ast, ↓dn_exp, ↓dn_if, ↓dn_ret, ↓dn_retz, ↓dn_retv, ↓dn_brk, ↓dn_cont, ↓dn_cs, ↓dn_sw, ↓dn_pop32, ↓dn_pop64, ↓dn_aop, ↓dn_call, ↓dn_max, ↓dn_min, ↓dn_acp, ↓dn_i2l, ↓dn_args0, ↓dn_args1, og_pad, og_ent, og_rlt, og_rle, og_rgt, og_rge, og_req, og_rne, og_padd, og_psub, og_pmul, List.getD_cons_zero, List.getD_cons_succ, List.set_cons_zero, List.set_cons_succ, List.length_cons, List.length_nil, List.cons_append, List.nil_append, List.replicate, List.append_nil, Nat.reduceAdd, Nat.reduceSub, Nat.reduceEqDiff, if_true, if_false, reduceIte, Int.reduceAdd, Int.reduceSub, Int.reduceMul, Int.reduceNeg, Int.reduceLT, Int.reduceLE, Int.cast_ofNat_Int, true_or, or_true, true_and, and_true, false_and, List.mem_cons, List.not_mem_nil, or_false, false_or, ne_eq]
    refine og_loop (sNp A + 1) (fun i e1 h1 => h1 = h ∧ ∃ mo le c6 c7, e1 = [1000, g, (u : Int), mo, le, (i : Int) - 1, c6, c7] ∧ ((i = 0 ∧ mo = -1 ∧ le = 0) ∨ (1 ≤ i ∧ mo = rMo (rFold (rFree A g u) v (rB A H j u) (i - 1)) ∧ le = rHa (rFold (rFree A g u) v (rB A H j u) (i - 1))))) ⟨rfl, -1, 0, 0, 0, rfl, Or.inl ⟨rfl, rfl, rfl⟩⟩ ?_
    rintro i e1 h1 hi ⟨rfl, mo, le, c6, c7, rfl, hor⟩
    simp -implicitDefEqProofs only [↓dn_den, ↓dn_loc, ↓dn_k, ↓dn_add, ↓dn_sub, ↓dn_mul, ↓dn_div, ↓dn_rem, ↓dn_bop, ↓dn_ladd, ↓dn_lsub, ↓dn_lmul, ↓dn_ldiv, ↓dn_lrem, ↓dn_land, ↓dn_l2i, ↓dn_neg, ↓dn_get, ↓dn_fix, ↓dn_ald, ↓dn_gld, ↓dn_yld, ↓dn_len, ↓dn_gln, ↓dn_cc, ↓dn_cb, ↓dn_and, ↓dn_or, ↓dn_not, ↓dn_cite, ↓dn_ec, ↓dn_ei, ↓dn_skip, ↓dn_seq, ↓dn_set, ↓dn_inc, ↓dn_putf, ↓dn_putz, ↓dn_ast, ↓dn_exp, ↓dn_if, ↓dn_ret, ↓dn_retz, ↓dn_retv, ↓dn_brk, ↓dn_cont, ↓dn_cs, ↓dn_sw, ↓dn_pop32, ↓dn_pop64, ↓dn_aop, ↓dn_call, ↓dn_max, ↓dn_min, ↓dn_acp, ↓dn_i2l, ↓dn_args0, ↓dn_args1, og_pad, og_ent, og_rlt, og_rle, og_rgt, og_rge, og_req, og_rne, og_padd, og_psub, og_pmul, List.getD_cons_zero, List.getD_cons_succ, List.set_cons_zero, List.set_cons_succ, List.length_cons, List.length_nil, List.cons_append, List.nil_append, List.replicate, List.append_nil, Nat.reduceAdd, Nat.reduceSub, Nat.reduceEqDiff, if_true, if_false, reduceIte, Int.reduceAdd, Int.reduceSub, Int.reduceMul, Int.reduceNeg, Int.reduceLT, Int.reduceLE, Int.cast_ofNat_Int, true_or, or_true, true_and, and_true, false_and, List.mem_cons, List.not_mem_nil, or_false, false_or, ne_eq, og_i32]
    refine r_personMany hm ⟨fun hlt => ?_, fun hge => ?_⟩
    · rcases hor with ⟨rfl, rfl, rfl⟩ | ⟨hi1, rfl, rfl⟩
      · refine r_mostBy0 (j := j) (u := u) ho hb hj hg.1 hu ?_
        have vm := rVal_mo (j := j) (by omega) (rB_val (A := A) hH j u)
        refine ⟨fun z => by omega, fun _ => ⟨fun z => by omega, fun _ => ?_⟩⟩
        refine r_harmBy0 (j := j) (u := u) ho hb hj hg.1 hu ?_
        refine ⟨fun z => by omega, fun _ => ⟨by omega, og_nx_mk (by omega) ⟨rfl, _, _, _, _, rfl, Or.inr ⟨by omega, rfl, rfl⟩⟩⟩⟩
      · obtain ⟨p, rfl⟩ : ∃ p, i = p + 1 := ⟨i - 1, by omega⟩
        have ei : ((p + 1 : Nat) : Int) - 1 = (p : Int) := by omega
        rw [ei]
        have ep : p + 1 - 1 = p := by omega
        rw [ep]
        have vo := rVal_mo (j := j + 1) (by omega) (vF p)
        have vn := rVal_mo (j := j + 1) (by omega) (vv p)
        have vmo := rV_mo (A := A) (u := u ||| 2 ^ p) (p := p) hH (show j < 6 by omega)
        have evp : v p = 10000 - H p + rB A H j (u ||| 2 ^ p) := by rw [← hv]
        rw [← evp] at vmo
        have fin : ∀ c6 c7 x y : Int, x = rMo (rFold (rFree A g u) v (rB A H j u) (p + 1)) → y = rHa (rFold (rFree A g u) v (rB A H j u) (p + 1)) → og_nx (sNp A + 1) (fun i e1 h2 => h2 = h1 ∧ ∃ mo le c6 c7, e1 = [1000, g, (u : Int), mo, le, (i : Int) - 1, c6, c7] ∧ ((i = 0 ∧ mo = -1 ∧ le = 0) ∨ (1 ≤ i ∧ mo = rMo (rFold (rFree A g u) v (rB A H j u) (i - 1)) ∧ le = rHa (rFold (rFree A g u) v (rB A H j u) (i - 1))))) (p + 1) [1000, g, (u : Int), x, y, (p : Int) + 1, c6, c7] h1 := by
          intro c6 c7 x y hx hy
          refine og_nx_mk (by omega) ⟨rfl, x, y, c6, c7, ?_, Or.inr ⟨by omega, hx, hy⟩⟩
          simp
        refine r_mostBy1 (j := j) (u := u) (p := p) hm ho hb hj hg.1 (by omega) hu hH ?_
        rw [rFold_s] at fin
        by_cases hfr : rFree A g u p = true
        · rw [if_pos hfr, ← vmo.1]
          rw [if_pos hfr] at fin
          refine ⟨fun z => by omega, fun _ => ⟨fun z => ?_, fun z => ?_⟩⟩
          · rw [Int.max_eq_left (by omega)] at fin
            exact ⟨by omega, fin _ _ _ _ rfl rfl⟩
          · refine r_harmBy1 (j := j) (u := u) (p := p) ho hb hh hj hg.1 (by omega) hu hH ?_
            rw [← vmo.2]
            have up : (rFold (rFree A g u) v (rB A H j u) p < v p) → og_i32 ((p : Int) + 1) ∧ og_nx (sNp A + 1) (fun i e1 h2 => h2 = h1 ∧ ∃ mo le c6 c7, e1 = [1000, g, (u : Int), mo, le, (i : Int) - 1, c6, c7] ∧ ((i = 0 ∧ mo = -1 ∧ le = 0) ∨ (1 ≤ i ∧ mo = rMo (rFold (rFree A g u) v (rB A H j u) (i - 1)) ∧ le = rHa (rFold (rFree A g u) v (rB A H j u) (i - 1))))) (p + 1) [1000, g, (u : Int), rMo (v p), rHa (v p), (p : Int) + 1, rMo (v p), rHa (v p)] h1 := by
              intro hlt
              rw [Int.max_eq_right (by omega)] at fin
              exact ⟨⟨by omega, by omega⟩, fin _ _ _ _ rfl rfl⟩
            refine ⟨fun z1 => ⟨fun z2 => ?_, fun z2 => up (by omega)⟩, fun z1 => up (by omega)⟩
            rw [Int.max_eq_left (by omega)] at fin
            exact ⟨by omega, fin _ _ _ _ rfl rfl⟩
        · rw [if_neg hfr]
          rw [if_neg hfr] at fin
          exact ⟨fun _ => ⟨by omega, fin _ _ _ _ rfl rfl⟩, fun z => absurd (by trivial) z⟩
    · rcases hor with ⟨rfl, rfl, rfl⟩ | ⟨hi1, rfl, rfl⟩
      · omega
      · have e : i - 1 = sNp A := by omega
        rw [e]
        exact ⟨rfl, _, _, _, rfl⟩
  · rintro e1 h1 ⟨rfl, c5, c6, c7, rfl⟩
    simp -implicitDefEqProofs only [↓dn_den, ↓dn_loc, ↓dn_k, ↓dn_add, ↓dn_sub, ↓dn_mul, ↓dn_div, ↓dn_rem, ↓dn_bop, ↓dn_ladd, ↓dn_lsub, ↓dn_lmul, ↓dn_ldiv, ↓dn_lrem, ↓dn_land, ↓dn_l2i, ↓dn_neg, ↓dn_get, ↓dn_fix, ↓dn_ald, ↓dn_gld, ↓dn_yld, ↓dn_len, ↓dn_gln, ↓dn_cc, ↓dn_cb, ↓dn_and, ↓dn_or, ↓dn_not, ↓dn_cite, ↓dn_ec, ↓dn_ei, ↓dn_skip, ↓dn_seq, ↓dn_set, ↓dn_inc, ↓dn_putf, ↓dn_putz, ↓dn_ast, ↓dn_exp, ↓dn_if, ↓dn_ret, ↓dn_retz, ↓dn_retv, ↓dn_brk, ↓dn_cont, ↓dn_cs, ↓dn_sw, ↓dn_pop32, ↓dn_pop64, ↓dn_aop, ↓dn_call, ↓dn_max, ↓dn_min, ↓dn_acp, ↓dn_i2l, ↓dn_args0, ↓dn_args1, og_pad, og_ent, og_rlt, og_rle, og_rgt, og_rge, og_req, og_rne, og_padd, og_psub, og_pmul, List.getD_cons_zero, List.getD_cons_succ, List.set_cons_zero, List.set_cons_succ, List.length_cons, List.length_nil, List.cons_append, List.nil_append, List.replicate, List.append_nil, Nat.reduceAdd, Nat.reduceSub, Nat.reduceEqDiff, if_true, if_false, reduceIte, Int.reduceAdd, Int.reduceSub, Int.reduceMul, Int.reduceNeg, Int.reduceLT, Int.reduceLE, Int.cast_ofNat_Int, true_or, or_true, true_and, and_true, false_and, List.mem_cons, List.not_mem_nil, or_false, false_or, ne_eq, og_i32]
    refine ⟨by omega, by omega, by omega, by omega, by omega, by omega, by omega, by omega, hK _ ?_ ?_ ?_⟩
    · rw [og_up_i (by decide), og_up_eq]
    · rw [og_up_eq]
    · intro i k hik
      simp only [og_up]
      grind
theorem r_laysRows (hR : hasM h P) (hP : okQ P) (hm : isM h A) (ho : okY A)
    (hK : ∀ h', mstOK h' A (sHm P A) 0 → hmsOK h' A (sHm P A) → (∀ i k, ¬ (1039 ≤ i ∧ i ≤ 1041) → i ≠ 1072 → (i = 1000 → k ≠ 48 ∧ k ≠ 51 ∧ k ≠ 97) → h' i k = h i k) → K 0 h') : m_Model_laysRows [1000] h K := by
  have h6 := ho.1
  have hng : sNg A = (A 0 0).toNat := rfl
  have hnp : sNp A = (A 0 1).toNat := rfl
  have hmf : ∀ {h1 : Hp}, (∀ i k, ¬ (1039 ≤ i ∧ i ≤ 1041) → i ≠ 1072 → (i = 1000 → k ≠ 48 ∧ k ≠ 51 ∧ k ≠ 97) → h1 i k = h i k) → isM h1 A ∧ hasM h1 P := fun hf => ⟨isM_fr hm (fun i k hi => hf i k (by omega) (by omega) (fun z => by omega)), hasM_fr hR (fun i k hi => hf i k (by omega) (by omega) (fun z => by omega))⟩
  unfold m_Model_laysRows
  simp -implicitDefEqProofs only [↓dn_den, ↓dn_loc, ↓dn_k, ↓dn_add, ↓dn_sub, ↓dn_mul, ↓dn_div, ↓dn_rem, ↓dn_bop, ↓dn_ladd, ↓dn_lsub, ↓dn_lmul, ↓dn_ldiv, ↓dn_lrem, ↓dn_land, ↓dn_l2i, ↓dn_neg, ↓dn_get, ↓dn_fix, ↓dn_ald, ↓dn_gld, ↓dn_yld, ↓dn_len, ↓dn_gln, ↓dn_cc, ↓dn_cb, ↓dn_and, ↓dn_or, ↓dn_not, ↓dn_cite, ↓dn_ec, ↓dn_ei, ↓dn_skip, ↓dn_seq, ↓dn_set, ↓dn_inc, ↓dn_putf, ↓dn_putz, ↓dn_ast, ↓dn_exp, ↓dn_if, ↓dn_ret, ↓dn_retz, ↓dn_retv, ↓dn_brk, ↓dn_cont, ↓dn_cs, ↓dn_sw, ↓dn_pop32, ↓dn_pop64, ↓dn_aop, ↓dn_call, ↓dn_max, ↓dn_min, ↓dn_acp, ↓dn_i2l, ↓dn_args0, ↓dn_args1, og_pad, og_ent, og_rlt, og_rle, og_rgt, og_rge, og_req, og_rne, og_padd, og_psub, og_pmul, List.getD_cons_zero, List.getD_cons_succ, List.set_cons_zero, List.set_cons_succ, List.length_cons, List.length_nil, List.cons_append, List.nil_append, List.replicate, List.append_nil, Nat.reduceAdd, Nat.reduceSub, Nat.reduceEqDiff, if_true, if_false, reduceIte, Int.reduceAdd, Int.reduceSub, Int.reduceMul, Int.reduceNeg, Int.reduceLT, Int.reduceLE, Int.cast_ofNat_Int, true_or, or_true, true_and, and_true, false_and, List.mem_cons, List.not_mem_nil, or_false, false_or, ne_eq]
  refine ⟨fun e1 h1 => (∃ c1, e1 = [1000, c1, 0]) ∧ hmsOK h1 A (sHm P A) ∧ (∀ i k, ¬ (1039 ≤ i ∧ i ≤ 1041) → i ≠ 1072 → (i = 1000 → k ≠ 48 ∧ k ≠ 51 ∧ k ≠ 97) → h1 i k = h i k), ?_, ?_⟩
  · simp -implicitDefEqProofs only [↓dn_den, ↓dn_loc, ↓dn_k, ↓dn_add, ↓dn_sub, ↓dn_mul, ↓dn_div, ↓dn_rem, ↓dn_bop, ↓dn_ladd, ↓dn_lsub, ↓dn_lmul, ↓dn_ldiv, ↓dn_lrem, ↓dn_land, ↓dn_l2i, ↓dn_neg, ↓dn_get, ↓dn_fix, ↓dn_ald, ↓dn_gld, ↓dn_yld, ↓dn_len, ↓dn_gln, ↓dn_cc, ↓dn_cb, ↓dn_and, ↓dn_or, ↓dn_not, ↓dn_cite, ↓dn_ec, ↓dn_ei, ↓dn_skip, ↓dn_seq, ↓dn_set, ↓dn_inc, ↓dn_putf, ↓dn_putz, ↓dn_ast, ↓dn_exp, ↓dn_if, ↓dn_ret, ↓dn_retz, ↓dn_retv, ↓dn_brk, ↓dn_cont, ↓dn_cs, ↓dn_sw, ↓dn_pop32, ↓dn_pop64, ↓dn_aop, ↓dn_call, ↓dn_max, ↓dn_min, ↓dn_acp, ↓dn_i2l, ↓dn_args0, ↓dn_args1, og_pad, og_ent, og_rlt, og_rle, og_rgt, og_rge, og_req, og_rne, og_padd, og_psub, og_pmul, List.getD_cons_zero, List.getD_cons_succ, List.set_cons_zero, List.set_cons_succ, List.length_cons, List.length_nil, List.cons_append, List.nil_append, List.replicate, List.append_nil, Nat.reduceAdd, Nat.reduceSub, Nat.reduceEqDiff, if_true, if_false, reduceIte, Int.reduceAdd, Int.reduceSub, Int.reduceMul, Int.reduceNeg, Int.reduceLT, Int.reduceLE, Int.cast_ofNat_Int, true_or, or_true, true_and, and_true, false_and, List.mem_cons, List.not_mem_nil, or_false, false_or, ne_eq]
    refine og_loop (sNp A) (fun i e1 h1 => e1 = [1000, (i : Int), 0] ∧ (∀ p : Nat, p < i → h1 1041 p = sHm P A p) ∧ (∀ i k, ¬ (1039 ≤ i ∧ i ≤ 1041) → i ≠ 1072 → (i = 1000 → k ≠ 48 ∧ k ≠ 51 ∧ k ≠ 97) → h1 i k = h i k)) ⟨rfl, fun p hp => by omega, fun _ _ _ _ _ => rfl⟩ ?_
    rintro i e1 h1 hi ⟨rfl, hz, hf⟩
    simp -implicitDefEqProofs only [↓dn_den, ↓dn_loc, ↓dn_k, ↓dn_add, ↓dn_sub, ↓dn_mul, ↓dn_div, ↓dn_rem, ↓dn_bop, ↓dn_ladd, ↓dn_lsub, ↓dn_lmul, ↓dn_ldiv, ↓dn_lrem, ↓dn_land, ↓dn_l2i, ↓dn_neg, ↓dn_get, ↓dn_fix, ↓dn_ald, ↓dn_gld, ↓dn_yld, ↓dn_len, ↓dn_gln, ↓dn_cc, ↓dn_cb, ↓dn_and, ↓dn_or, ↓dn_not, ↓dn_cite, ↓dn_ec, ↓dn_ei, ↓dn_skip, ↓dn_seq, ↓dn_set, ↓dn_inc, ↓dn_putf, ↓dn_putz, ↓dn_ast, ↓dn_exp, ↓dn_if, ↓dn_ret, ↓dn_retz, ↓dn_retv, ↓dn_brk, ↓dn_cont, ↓dn_cs, ↓dn_sw, ↓dn_pop32, ↓dn_pop64, ↓dn_aop, ↓dn_call, ↓dn_max, ↓dn_min, ↓dn_acp, ↓dn_i2l, ↓dn_args0, ↓dn_args1, og_pad, og_ent, og_rlt, og_rle, og_rgt, og_rge, og_req, og_rne, og_padd, og_psub, og_pmul, List.getD_cons_zero, List.getD_cons_succ, List.set_cons_zero, List.set_cons_succ, List.length_cons, List.length_nil, List.cons_append, List.nil_append, List.replicate, List.append_nil, Nat.reduceAdd, Nat.reduceSub, Nat.reduceEqDiff, if_true, if_false, reduceIte, Int.reduceAdd, Int.reduceSub, Int.reduceMul, Int.reduceNeg, Int.reduceLT, Int.reduceLE, Int.cast_ofNat_Int, true_or, or_true, true_and, and_true, false_and, List.mem_cons, List.not_mem_nil, or_false, false_or, ne_eq, og_i32]
    refine r_personMany (hmf hf).1 ⟨fun hlt => ?_, fun hge => ?_⟩
    · refine r_harmOf (hmf hf).2 hP (hmf hf).1 ⟨ho, by omega, hlt⟩ (fun h2 hE => ?_)
      refine ⟨by omega, by omega, by omega, og_nx_mk (by omega) ⟨by simp, fun p hp => ?_, fun i k a b c => ?_⟩⟩
      · by_cases e : p = i
        · subst e; rw [og_up_eq]; rfl
        · rw [og_up_k (by omega), hE _ _ (by decide) (fun z => absurd z (by decide))]; exact hz p (by omega)
      · rw [og_up_i (by omega), hE i k b c]; exact hf i k a b c
    · have e : i = sNp A := by omega
      subst e
      exact ⟨⟨_, rfl⟩, hz, hf⟩
  · rintro e1 h1 ⟨⟨c1, rfl⟩, hh, hf⟩
    refine ⟨fun e1 h1 => (∃ c1, e1 = [1000, c1, 0]) ∧ hmsOK h1 A (sHm P A) ∧ (∀ i k, ¬ (1039 ≤ i ∧ i ≤ 1041) → i ≠ 1072 → (i = 1000 → k ≠ 48 ∧ k ≠ 51 ∧ k ≠ 97) → h1 i k = h i k) ∧ ∀ u : Nat, u < 256 → h1 1039 (256 * A 0 0 + u) = 0 ∧ h1 1040 (256 * A 0 0 + u) = 0, ?_, ?_⟩
    · simp -implicitDefEqProofs only [↓dn_den, ↓dn_loc, ↓dn_k, ↓dn_add, ↓dn_sub, ↓dn_mul, ↓dn_div, ↓dn_rem, ↓dn_bop, ↓dn_ladd, ↓dn_lsub, ↓dn_lmul, ↓dn_ldiv, ↓dn_lrem, ↓dn_land, ↓dn_l2i, ↓dn_neg, ↓dn_get, ↓dn_fix, ↓dn_ald, ↓dn_gld, ↓dn_yld, ↓dn_len, ↓dn_gln, ↓dn_cc, ↓dn_cb, ↓dn_and, ↓dn_or, ↓dn_not, ↓dn_cite, ↓dn_ec, ↓dn_ei, ↓dn_skip, ↓dn_seq, ↓dn_set, ↓dn_inc, ↓dn_putf, ↓dn_putz, ↓dn_ast, ↓dn_exp, ↓dn_if, ↓dn_ret, ↓dn_retz, ↓dn_retv, ↓dn_brk, ↓dn_cont, ↓dn_cs, ↓dn_sw, ↓dn_pop32, ↓dn_pop64, ↓dn_aop, ↓dn_call, ↓dn_max, ↓dn_min, ↓dn_acp, ↓dn_i2l, ↓dn_args0, ↓dn_args1, og_pad, og_ent, og_rlt, og_rle, og_rgt, og_rge, og_req, og_rne, og_padd, og_psub, og_pmul, List.getD_cons_zero, List.getD_cons_succ, List.set_cons_zero, List.set_cons_succ, List.length_cons, List.length_nil, List.cons_append, List.nil_append, List.replicate, List.append_nil, Nat.reduceAdd, Nat.reduceSub, Nat.reduceEqDiff, if_true, if_false, reduceIte, Int.reduceAdd, Int.reduceSub, Int.reduceMul, Int.reduceNeg, Int.reduceLT, Int.reduceLE, Int.cast_ofNat_Int, true_or, or_true, true_and, and_true, false_and, List.mem_cons, List.not_mem_nil, or_false, false_or, ne_eq]
      refine og_loop 256 (fun i e1 h1 => e1 = [1000, (i : Int), 0] ∧ hmsOK h1 A (sHm P A) ∧ (∀ i k, ¬ (1039 ≤ i ∧ i ≤ 1041) → i ≠ 1072 → (i = 1000 → k ≠ 48 ∧ k ≠ 51 ∧ k ≠ 97) → h1 i k = h i k) ∧ ∀ u : Nat, u < i → h1 1039 (256 * A 0 0 + u) = 0 ∧ h1 1040 (256 * A 0 0 + u) = 0) ⟨rfl, hh, hf, fun u hu => by omega⟩ ?_
      rintro i e2 h2 hi ⟨rfl, hh2, hf2, hz⟩
      simp -implicitDefEqProofs only [↓dn_den, ↓dn_loc, ↓dn_k, ↓dn_add, ↓dn_sub, ↓dn_mul, ↓dn_div, ↓dn_rem, ↓dn_bop, ↓dn_ladd, ↓dn_lsub, ↓dn_lmul, ↓dn_ldiv, ↓dn_lrem, ↓dn_land, ↓dn_l2i, ↓dn_neg, ↓dn_get, ↓dn_fix, ↓dn_ald, ↓dn_gld, ↓dn_yld, ↓dn_len, ↓dn_gln, ↓dn_cc, ↓dn_cb, ↓dn_and, ↓dn_or, ↓dn_not, ↓dn_cite, ↓dn_ec, ↓dn_ei, ↓dn_skip, ↓dn_seq, ↓dn_set, ↓dn_inc, ↓dn_putf, ↓dn_putz, ↓dn_ast, ↓dn_exp, ↓dn_if, ↓dn_ret, ↓dn_retz, ↓dn_retv, ↓dn_brk, ↓dn_cont, ↓dn_cs, ↓dn_sw, ↓dn_pop32, ↓dn_pop64, ↓dn_aop, ↓dn_call, ↓dn_max, ↓dn_min, ↓dn_acp, ↓dn_i2l, ↓dn_args0, ↓dn_args1, og_pad, og_ent, og_rlt, og_rle, og_rgt, og_rge, og_req, og_rne, og_padd, og_psub, og_pmul, List.getD_cons_zero, List.getD_cons_succ, List.set_cons_zero, List.set_cons_succ, List.length_cons, List.length_nil, List.cons_append, List.nil_append, List.replicate, List.append_nil, Nat.reduceAdd, Nat.reduceSub, Nat.reduceEqDiff, if_true, if_false, reduceIte, Int.reduceAdd, Int.reduceSub, Int.reduceMul, Int.reduceNeg, Int.reduceLT, Int.reduceLE, Int.cast_ofNat_Int, true_or, or_true, true_and, and_true, false_and, List.mem_cons, List.not_mem_nil, or_false, false_or, ne_eq, og_i32]
      refine ⟨fun hlt => ?_, fun hge => ?_⟩
      · refine r_graveMany (hmf hf2).1 ⟨by omega, by omega, by omega, by omega, ?_⟩
        have hm3 : isM (og_up h2 1039 (256 * A 0 0 + (i : Int)) 0) A := isM_fr (hmf hf2).1 (fun i k hi => og_up_i (by omega))
        refine r_graveMany hm3 ⟨by omega, by omega, by omega, by omega, by omega, og_nx_mk (by omega) ⟨by simp, fun p hp => ?_, fun i k a b c => ?_, fun u hu => ?_⟩⟩
        · rw [og_up_i (by decide), og_up_i (by decide)]; exact hh2 p hp
        · rw [og_up_i (by omega), og_up_i (by omega)]; exact hf2 i k a b c
        · by_cases e : u = i
          · subst e; rw [og_up_eq, og_up_i (by decide), og_up_eq]; exact ⟨rfl, rfl⟩
          · rw [og_up_i (by decide), og_up_k (by omega), og_up_k (by omega), og_up_i (by decide)]; exact hz u (by omega)
      · have e : i = 256 := by omega
        subst e
        exact ⟨⟨_, rfl⟩, hh2, hf2, hz⟩
    · rintro e2 h2 ⟨⟨c1, rfl⟩, hh2, hf2, hz⟩
      simp -implicitDefEqProofs only [↓dn_den, ↓dn_loc, ↓dn_k, ↓dn_add, ↓dn_sub, ↓dn_mul, ↓dn_div, ↓dn_rem, ↓dn_bop, ↓dn_ladd, ↓dn_lsub, ↓dn_lmul, ↓dn_ldiv, ↓dn_lrem, ↓dn_land, ↓dn_l2i, ↓dn_neg, ↓dn_get, ↓dn_fix, ↓dn_ald, ↓dn_gld, ↓dn_yld, ↓dn_len, ↓dn_gln, ↓dn_cc, ↓dn_cb, ↓dn_and, ↓dn_or, ↓dn_not, ↓dn_cite, ↓dn_ec, ↓dn_ei, ↓dn_skip, ↓dn_seq, ↓dn_set, ↓dn_inc, ↓dn_putf, ↓dn_putz, ↓dn_ast, ↓dn_exp, ↓dn_if, ↓dn_ret, ↓dn_retz, ↓dn_retv, ↓dn_brk, ↓dn_cont, ↓dn_cs, ↓dn_sw, ↓dn_pop32, ↓dn_pop64, ↓dn_aop, ↓dn_call, ↓dn_max, ↓dn_min, ↓dn_acp, ↓dn_i2l, ↓dn_args0, ↓dn_args1, og_pad, og_ent, og_rlt, og_rle, og_rgt, og_rge, og_req, og_rne, og_padd, og_psub, og_pmul, List.getD_cons_zero, List.getD_cons_succ, List.set_cons_zero, List.set_cons_succ, List.length_cons, List.length_nil, List.cons_append, List.nil_append, List.replicate, List.append_nil, Nat.reduceAdd, Nat.reduceSub, Nat.reduceEqDiff, if_true, if_false, reduceIte, Int.reduceAdd, Int.reduceSub, Int.reduceMul, Int.reduceNeg, Int.reduceLT, Int.reduceLE, Int.cast_ofNat_Int, true_or, or_true, true_and, and_true, false_and, List.mem_cons, List.not_mem_nil, or_false, false_or, ne_eq, og_i32]
      refine r_graveMany (hmf hf2).1 ⟨by omega, ?_⟩
      refine og_loop (sNg A) (fun t e3 h3 => (∃ c2, e3 = [1000, A 0 0 - 1 - t, c2]) ∧ hmsOK h3 A (sHm P A) ∧ (∀ i k, ¬ (1039 ≤ i ∧ i ≤ 1041) → i ≠ 1072 → (i = 1000 → k ≠ 48 ∧ k ≠ 51 ∧ k ≠ 97) → h3 i k = h i k) ∧ mstOK h3 A (sHm P A) (A 0 0 - t)) ⟨⟨0, by simp⟩, hh2, hf2, fun g a b u hu => ?_⟩ ?_
      · have : g = A 0 0 := by omega
        subst this
        rw [(hz u hu).1, (hz u hu).2, Int.sub_self]
        exact ⟨rfl, rfl⟩
      rintro t e3 h3 ht ⟨⟨c2, rfl⟩, hh3, hf3, hb3⟩
      simp -implicitDefEqProofs only [↓dn_den, ↓dn_loc, ↓dn_k, ↓dn_add, ↓dn_sub, ↓dn_mul, ↓dn_div, ↓dn_rem, ↓dn_bop, ↓dn_ladd, ↓dn_lsub, ↓dn_lmul, ↓dn_ldiv, ↓dn_lrem, ↓dn_land, ↓dn_l2i, ↓dn_neg, ↓dn_get, ↓dn_fix, ↓dn_ald, ↓dn_gld, ↓dn_yld, ↓dn_len, ↓dn_gln, ↓dn_cc, ↓dn_cb, ↓dn_and, ↓dn_or, ↓dn_not, ↓dn_cite, ↓dn_ec, ↓dn_ei, ↓dn_skip, ↓dn_seq, ↓dn_set, ↓dn_inc, ↓dn_putf, ↓dn_putz, ↓dn_ast, ↓dn_exp, ↓dn_if, ↓dn_ret, ↓dn_retz, ↓dn_retv, ↓dn_brk, ↓dn_cont, ↓dn_cs, ↓dn_sw, ↓dn_pop32, ↓dn_pop64, ↓dn_aop, ↓dn_call, ↓dn_max, ↓dn_min, ↓dn_acp, ↓dn_i2l, ↓dn_args0, ↓dn_args1, og_pad, og_ent, og_rlt, og_rle, og_rgt, og_rge, og_req, og_rne, og_padd, og_psub, og_pmul, List.getD_cons_zero, List.getD_cons_succ, List.set_cons_zero, List.set_cons_succ, List.length_cons, List.length_nil, List.cons_append, List.nil_append, List.replicate, List.append_nil, Nat.reduceAdd, Nat.reduceSub, Nat.reduceEqDiff, if_true, if_false, reduceIte, Int.reduceAdd, Int.reduceSub, Int.reduceMul, Int.reduceNeg, Int.reduceLT, Int.reduceLE, Int.cast_ofNat_Int, true_or, or_true, true_and, and_true, false_and, List.mem_cons, List.not_mem_nil, or_false, false_or, ne_eq, og_i32]
      refine ⟨fun hge => ?_, fun hlt => ?_⟩
      · refine og_loop 256 (fun q e4 h4 => e4 = [1000, A 0 0 - 1 - t, (q : Int)] ∧ hmsOK h4 A (sHm P A) ∧ (∀ i k, ¬ (1039 ≤ i ∧ i ≤ 1041) → i ≠ 1072 → (i = 1000 → k ≠ 48 ∧ k ≠ 51 ∧ k ≠ 97) → h4 i k = h i k) ∧ mstOK h4 A (sHm P A) (A 0 0 - t) ∧ ∀ u : Nat, u < q → h4 1039 (256 * (A 0 0 - 1 - t) + u) = rMo (rB A (sHm P A) (t + 1) u) ∧ h4 1040 (256 * (A 0 0 - 1 - t) + u) = rHa (rB A (sHm P A) (t + 1) u)) ⟨rfl, hh3, hf3, hb3, fun u hu => by omega⟩ ?_
        rintro q e4 h4 hq ⟨rfl, hh4, hf4, hb4, hz4⟩
        simp -implicitDefEqProofs only [↓dn_den, ↓dn_loc, ↓dn_k, ↓dn_add, ↓dn_sub, ↓dn_mul, ↓dn_div, ↓dn_rem, ↓dn_bop, ↓dn_ladd, ↓dn_lsub, ↓dn_lmul, ↓dn_ldiv, ↓dn_lrem, ↓dn_land, ↓dn_l2i, ↓dn_neg, ↓dn_get, ↓dn_fix, ↓dn_ald, ↓dn_gld, ↓dn_yld, ↓dn_len, ↓dn_gln, ↓dn_cc, ↓dn_cb, ↓dn_and, ↓dn_or, ↓dn_not, ↓dn_cite, ↓dn_ec, ↓dn_ei, ↓dn_skip, ↓dn_seq, ↓dn_set, ↓dn_inc, ↓dn_putf, ↓dn_putz, ↓dn_ast, ↓dn_exp, ↓dn_if, ↓dn_ret, ↓dn_retz, ↓dn_retv, ↓dn_brk, ↓dn_cont, ↓dn_cs, ↓dn_sw, ↓dn_pop32, ↓dn_pop64, ↓dn_aop, ↓dn_call, ↓dn_max, ↓dn_min, ↓dn_acp, ↓dn_i2l, ↓dn_args0, ↓dn_args1, og_pad, og_ent, og_rlt, og_rle, og_rgt, og_rge, og_req, og_rne, og_padd, og_psub, og_pmul, List.getD_cons_zero, List.getD_cons_succ, List.set_cons_zero, List.set_cons_succ, List.length_cons, List.length_nil, List.cons_append, List.nil_append, List.replicate, List.append_nil, Nat.reduceAdd, Nat.reduceSub, Nat.reduceEqDiff, if_true, if_false, reduceIte, Int.reduceAdd, Int.reduceSub, Int.reduceMul, Int.reduceNeg, Int.reduceLT, Int.reduceLE, Int.cast_ofNat_Int, true_or, or_true, true_and, and_true, false_and, List.mem_cons, List.not_mem_nil, or_false, false_or, ne_eq, og_i32]
        refine ⟨fun hlt => ?_, fun hge2 => ?_⟩
        · refine r_rowLays (A := A) (H := sHm P A) (u := q) (hmf hf4).1 ho (fun g a b u hu => hb4 g (by omega) b u hu) hh4 sHm_rg ⟨by omega, by omega⟩ (by omega) (fun h5 k1 k2 k3 => ?_)
          have ej : (A 0 0 - (A 0 0 - 1 - (t : Int))).toNat = t + 1 := by omega
          rw [ej] at k1 k2
          refine ⟨by omega, og_nx_mk (by omega) ⟨by simp, fun p hp => ?_, fun i k a b c => ?_, fun g a b u hu => ?_, fun u hu => ?_⟩⟩
          · rw [k3 _ _ (by omega)]; exact hh4 p hp
          · rw [k3 _ _ (by omega)]; exact hf4 i k a b c
          · rw [k3 _ _ (by omega), k3 _ _ (by omega)]; exact hb4 g a b u hu
          · by_cases e : u = q
            · subst e; exact ⟨k1, k2⟩
            · rw [k3 _ _ (by omega), k3 _ _ (by omega)]; exact hz4 u (by omega)
        · refine ⟨by omega, og_nx_mk (by omega) ⟨⟨(q : Int), by simp; omega⟩, hh4, hf4, fun g a b u hu => ?_⟩⟩
          by_cases e : g = A 0 0 - 1 - t
          · subst e
            have ej : (A 0 0 - (A 0 0 - 1 - (t : Int))).toNat = t + 1 := by omega
            rw [ej]; exact hz4 u (by omega)
          · exact hb4 g (by omega) b u hu
      · exact hK h3 (fun g a b u hu => hb3 g (by omega) b u hu) hh3 hf3
theorem r_row {w : Int} (hw : -2147483648 ≤ w ∧ w ≤ 2147483647) (hR : hasM h P) (hP : okQ P) (hm : isM h A) (ho : okY A) (hK : ∀ h', frQ h h' → h' 1000 54 = h 1000 54 → K (sRow P A w) h') : m_Model_row [1000, w] h K := by
  have h6 := ho.1
  have hng : sNg A = (A 0 0).toNat := rfl
  have hnp : sNp A = (A 0 1).toNat := rfl
  unfold m_Model_row
  simp -implicitDefEqProofs only [↓dn_den, ↓dn_loc, ↓dn_k, ↓dn_add, ↓dn_sub, ↓dn_mul, ↓dn_div, ↓dn_rem, ↓dn_bop, ↓dn_ladd, ↓dn_lsub, ↓dn_lmul, ↓dn_ldiv, ↓dn_lrem, ↓dn_land, ↓dn_l2i, ↓dn_neg, ↓dn_get, ↓dn_fix, ↓dn_ald, ↓dn_gld, ↓dn_yld, ↓dn_len, ↓dn_gln, ↓dn_cc, ↓dn_cb, ↓dn_and, ↓dn_or, ↓dn_not, ↓dn_cite, ↓dn_ec, ↓dn_ei, ↓dn_skip, ↓dn_seq, ↓dn_set, ↓dn_inc, ↓dn_putf, ↓dn_putz, ↓dn_ast, ↓dn_exp, ↓dn_if, ↓dn_ret, ↓dn_retz, ↓dn_retv, ↓dn_brk, ↓dn_cont, ↓dn_cs, ↓dn_sw, ↓dn_pop32, ↓dn_pop64, ↓dn_aop, ↓dn_call, ↓dn_max, ↓dn_min, ↓dn_acp, ↓dn_i2l, ↓dn_args0, ↓dn_args1, og_pad, og_ent, og_rlt, og_rle, og_rgt, og_rge, og_req, og_rne, og_padd, og_psub, og_pmul, List.getD_cons_zero, List.getD_cons_succ, List.set_cons_zero, List.set_cons_succ, List.length_cons, List.length_nil, List.cons_append, List.nil_append, List.replicate, List.append_nil, Nat.reduceAdd, Nat.reduceSub, Nat.reduceEqDiff, if_true, if_false, reduceIte, Int.reduceAdd, Int.reduceSub, Int.reduceMul, Int.reduceNeg, Int.reduceLT, Int.reduceLE, Int.cast_ofNat_Int, true_or, or_true, true_and, and_true, false_and, List.mem_cons, List.not_mem_nil, or_false, false_or, ne_eq, og_i32]
  unfold sRow at hK
  refine r_graveMany hm ⟨by omega, ?_⟩
  refine r_isIn ⟨fun z => ?_, fun z => ?_⟩
  · have z := iteP1 z
    rw [if_pos (by omega)] at hK
    refine r_laysRows hR hP hm ho (fun h1 hb hh hf => ?_)
    have hK1 := hK h1 (fun i k a b c => hf i k (by omega) (by omega) (fun z => by have := b z; omega)) (hf _ _ (by decide) (by decide) (fun _ => by decide))
    have hm1 : isM h1 A := isM_fr hm (fun i k hi => hf i k (by omega) (by omega) (fun z => by omega))
    have tot := rTot (A := A) (H := sHm P A) ho sHm_rg
    refine ⟨fun w2 => ?_, fun w2 => ?_⟩
    · have hv := hb 0 (by omega) (by omega) 0 (by omega)
      have e0 : (A 0 0 - 0).toNat = sNg A := by omega
      have e1 : 256 * (0 : Int) + ((0 : Nat) : Int) = 0 := by decide
      rw [e0, e1, tot.1, tot.2] at hv
      rw [hv.1, hv.2]
      refine ⟨fun e => ?_, fun e => ?_⟩
      · rw [if_pos e] at hK1; exact hK1
      · rw [if_neg e, if_pos (by omega)] at hK1; exact hK1
    · rw [if_neg (by omega), if_neg (by omega)] at hK1
      refine ⟨fun e2 h2 => h2 = h1 ∧ ∃ c2 c4, e2 = [1000, w, c2, rC A (sHm P A) (w - 2).toNat, c4], ?_, ?_⟩
      · simp -implicitDefEqProofs only [↓dn_den, ↓dn_loc, ↓dn_k, ↓dn_add, ↓dn_sub, ↓dn_mul, ↓dn_div, ↓dn_rem, ↓dn_bop, ↓dn_ladd, ↓dn_lsub, ↓dn_lmul, ↓dn_ldiv, ↓dn_lrem, ↓dn_land, ↓dn_l2i, ↓dn_neg, ↓dn_get, ↓dn_fix, ↓dn_ald, ↓dn_gld, ↓dn_yld, ↓dn_len, ↓dn_gln, ↓dn_cc, ↓dn_cb, ↓dn_and, ↓dn_or, ↓dn_not, ↓dn_cite, ↓dn_ec, ↓dn_ei, ↓dn_skip, ↓dn_seq, ↓dn_set, ↓dn_inc, ↓dn_putf, ↓dn_putz, ↓dn_ast, ↓dn_exp, ↓dn_if, ↓dn_ret, ↓dn_retz, ↓dn_retv, ↓dn_brk, ↓dn_cont, ↓dn_cs, ↓dn_sw, ↓dn_pop32, ↓dn_pop64, ↓dn_aop, ↓dn_call, ↓dn_max, ↓dn_min, ↓dn_acp, ↓dn_i2l, ↓dn_args0, ↓dn_args1, og_pad, og_ent, og_rlt, og_rle, og_rgt, og_rge, og_req, og_rne, og_padd, og_psub, og_pmul, List.getD_cons_zero, List.getD_cons_succ, List.set_cons_zero, List.set_cons_succ, List.length_cons, List.length_nil, List.cons_append, List.nil_append, List.replicate, List.append_nil, Nat.reduceAdd, Nat.reduceSub, Nat.reduceEqDiff, if_true, if_false, reduceIte, Int.reduceAdd, Int.reduceSub, Int.reduceMul, Int.reduceNeg, Int.reduceLT, Int.reduceLE, Int.cast_ofNat_Int, true_or, or_true, true_and, and_true, false_and, List.mem_cons, List.not_mem_nil, or_false, false_or, ne_eq]
        refine og_loop (w - 1).toNat (fun i e2 h2 => h2 = h1 ∧ ∃ c3, e2 = [1000, w, (rU A (sHm P A) i : Int), c3, (i : Int)] ∧ (1 ≤ i → c3 = rC A (sHm P A) (i - 1))) ⟨rfl, -1, rfl, fun z => by omega⟩ ?_
        rintro i e2 h2 hi ⟨rfl, c3, rfl, hc3⟩
        simp -implicitDefEqProofs only [↓dn_den, ↓dn_loc, ↓dn_k, ↓dn_add, ↓dn_sub, ↓dn_mul, ↓dn_div, ↓dn_rem, ↓dn_bop, ↓dn_ladd, ↓dn_lsub, ↓dn_lmul, ↓dn_ldiv, ↓dn_lrem, ↓dn_land, ↓dn_l2i, ↓dn_neg, ↓dn_get, ↓dn_fix, ↓dn_ald, ↓dn_gld, ↓dn_yld, ↓dn_len, ↓dn_gln, ↓dn_cc, ↓dn_cb, ↓dn_and, ↓dn_or, ↓dn_not, ↓dn_cite, ↓dn_ec, ↓dn_ei, ↓dn_skip, ↓dn_seq, ↓dn_set, ↓dn_inc, ↓dn_putf, ↓dn_putz, ↓dn_ast, ↓dn_exp, ↓dn_if, ↓dn_ret, ↓dn_retz, ↓dn_retv, ↓dn_brk, ↓dn_cont, ↓dn_cs, ↓dn_sw, ↓dn_pop32, ↓dn_pop64, ↓dn_aop, ↓dn_call, ↓dn_max, ↓dn_min, ↓dn_acp, ↓dn_i2l, ↓dn_args0, ↓dn_args1, og_pad, og_ent, og_rlt, og_rle, og_rgt, og_rge, og_req, og_rne, og_padd, og_psub, og_pmul, List.getD_cons_zero, List.getD_cons_succ, List.set_cons_zero, List.set_cons_succ, List.length_cons, List.length_nil, List.cons_append, List.nil_append, List.replicate, List.append_nil, Nat.reduceAdd, Nat.reduceSub, Nat.reduceEqDiff, if_true, if_false, reduceIte, Int.reduceAdd, Int.reduceSub, Int.reduceMul, Int.reduceNeg, Int.reduceLT, Int.reduceLE, Int.cast_ofNat_Int, true_or, or_true, true_and, and_true, false_and, List.mem_cons, List.not_mem_nil, or_false, false_or, ne_eq, og_i32]
        refine ⟨by omega, fun hle => ?_, fun hgt => ?_⟩
        · have hu := rU_lt (A := A) (H := sHm P A) i
          have h2p := two_np ho
          have hu' : rU A (sHm P A) i < 256 := by omega
          have hlt : i < sNg A := by omega
          obtain ⟨j, hj⟩ : ∃ j : Nat, sNg A = i + (j + 1) := ⟨sNg A - i - 1, by omega⟩
          have ejj : sNg A - (i + 1) = j := by omega
          have hj' : A 0 0 - (i : Int) = j + 1 := by omega
          have ecc : rC A (sHm P A) i = rCh A (sHm P A) j (rU A (sHm P A) i) := by unfold rC; rw [ejj]
          have hcr := rC_rg (A := A) (H := sHm P A) (i := i)
          have hcs := rCh_cases (A := A) (H := sHm P A) (j := j) (u := rU A (sHm P A) i)
          rw [← ecc] at hcs
          have hus := rU_s A (sHm P A) i
          rw [ejj, ← ecc] at hus
          have egi : A 0 0 - ((j : Int) + 1) = i := by omega
          have hbi := hb (i : Int) (by omega) (by omega) (rU A (sHm P A) i) hu'
          have ej2 : (A 0 0 - (i : Int)).toNat = j + 1 := by omega
          rw [ej2] at hbi
          have hb1 : mstOK h2 A (sHm P A) ((i : Int) + 1) := fun g a b u hu => hb g (by omega) b u hu
          have vm := rVal_mo (j := j + 1) (by omega) (rB_val (A := A) (H := sHm P A) sHm_rg (j + 1) (rU A (sHm P A) i))
          have vm0 := rVal_mo (j := j) (by omega) (rB_val (A := A) (H := sHm P A) sHm_rg j (rU A (sHm P A) i))
          generalize rU A (sHm P A) i = u at *
          generalize hcE : rC A (sHm P A) i = c at *
          refine ⟨fun e3 h3 => h3 = h2 ∧ e3 = [1000, w, (u : Int), c, (i : Int)], ?_, ?_⟩
          · refine og_loop (c + 1).toNat (fun t e3 h3 => h3 = h2 ∧ e3 = [1000, w, (u : Int), (t : Int) - 1, (i : Int)]) ⟨rfl, by simp⟩ ?_
            rintro t e3 h3 ht ⟨rfl, rfl⟩
            simp -implicitDefEqProofs only [↓dn_den, ↓dn_loc, ↓dn_k, ↓dn_add, ↓dn_sub, ↓dn_mul, ↓dn_div, ↓dn_rem, ↓dn_bop, ↓dn_ladd, ↓dn_lsub, ↓dn_lmul, ↓dn_ldiv, ↓dn_lrem, ↓dn_land, ↓dn_l2i, ↓dn_neg, ↓dn_get, ↓dn_fix, ↓dn_ald, ↓dn_gld, ↓dn_yld, ↓dn_len, ↓dn_gln, ↓dn_cc, ↓dn_cb, ↓dn_and, ↓dn_or, ↓dn_not, ↓dn_cite, ↓dn_ec, ↓dn_ei, ↓dn_skip, ↓dn_seq, ↓dn_set, ↓dn_inc, ↓dn_putf, ↓dn_putz, ↓dn_ast, ↓dn_exp, ↓dn_if, ↓dn_ret, ↓dn_retz, ↓dn_retv, ↓dn_brk, ↓dn_cont, ↓dn_cs, ↓dn_sw, ↓dn_pop32, ↓dn_pop64, ↓dn_aop, ↓dn_call, ↓dn_max, ↓dn_min, ↓dn_acp, ↓dn_i2l, ↓dn_args0, ↓dn_args1, og_pad, og_ent, og_rlt, og_rle, og_rgt, og_rge, og_req, og_rne, og_padd, og_psub, og_pmul, List.getD_cons_zero, List.getD_cons_succ, List.set_cons_zero, List.set_cons_succ, List.length_cons, List.length_nil, List.cons_append, List.nil_append, List.replicate, List.append_nil, Nat.reduceAdd, Nat.reduceSub, Nat.reduceEqDiff, if_true, if_false, reduceIte, Int.reduceAdd, Int.reduceSub, Int.reduceMul, Int.reduceNeg, Int.reduceLT, Int.reduceLE, Int.cast_ofNat_Int, true_or, or_true, true_and, and_true, false_and, List.mem_cons, List.not_mem_nil, or_false, false_or, ne_eq, og_i32]
            by_cases et : t = 0
            · subst et
              have e0 : ((0 : Nat) : Int) - 1 = -1 := by decide
              rw [e0]
              refine r_mostBy0 (j := j) (u := u) ho hb1 hj' (by omega) hu' ?_
              rw [hbi.1]
              refine ⟨by omega, by omega, by omega, by omega, fun zz => ?_, fun zz => ?_⟩
              · rcases hcs with ⟨a1, a2⟩ | ⟨n, a1, -⟩
                · rw [a2] at zz; exact absurd rfl zz
                · exact ⟨by omega, og_nx_mk (by omega) ⟨rfl, by simp⟩⟩
              · refine r_harmBy0 (j := j) (u := u) ho hb1 hj' (by omega) hu' ?_
                rw [hbi.2]
                refine ⟨by omega, by omega, by omega, by omega, fun zz2 => ?_, fun zz2 => ?_⟩
                · rcases hcs with ⟨a1, a2⟩ | ⟨n, a1, -⟩
                  · rw [a2] at zz2; exact absurd rfl zz2
                  · exact ⟨by omega, og_nx_mk (by omega) ⟨rfl, by simp⟩⟩
                · rcases hcs with ⟨a1, a2⟩ | ⟨n, a1, a2, a3, a4, a5⟩
                  · rw [a1]; exact ⟨rfl, rfl⟩
                  · exact absurd (by omega) a5
            · obtain ⟨p, rfl⟩ : ∃ p, t = p + 1 := ⟨t - 1, by omega⟩
              have ep : ((p + 1 : Nat) : Int) - 1 = (p : Int) := by omega
              rw [ep]
              rcases hcs with ⟨a1, a2⟩ | ⟨n, a1, a2, a3, a4, a5⟩
              · omega
              have hpn : p ≤ n := by omega
              have vmo := rV_mo (A := A) (H := sHm P A) (u := u ||| 2 ^ p) (p := p) (j := j) sHm_rg (by omega)
              have vv := rVal_mo (j := j + 1) (by omega) (rV_val (A := A) (H := sHm P A) (u := u ||| 2 ^ p) (p := p) (j := j) sHm_rg (by omega))
              have hfb : rFb A (sHm P A) j u p = (rFree A i u p && decide (10000 - sHm P A p + rB A (sHm P A) j (u ||| 2 ^ p) = rB A (sHm P A) (j + 1) u)) := by unfold rFb; rw [egi]
              refine r_mostBy1 (j := j) (u := u) (p := p) hm1 ho hb1 hj' (by omega) (by omega) hu' sHm_rg ?_
              rw [hbi.1]
              have go : p < n → og_i32 ((p : Int) + 1) ∧ og_nx (c + 1).toNat (fun t e3 h4 => h4 = h3 ∧ e3 = [1000, w, (u : Int), (t : Int) - 1, (i : Int)]) (p + 1) [1000, w, (u : Int), (p : Int) + 1, (i : Int)] h3 := by
                intro hp
                exact ⟨⟨by omega, by omega⟩, og_nx_mk (by omega) ⟨rfl, by simp⟩⟩
              by_cases hfr : rFree A i u p = true
              · rw [if_pos hfr, ← vmo.1]
                rw [hfr, Bool.true_and] at hfb
                have lt_of : ¬ (10000 - sHm P A p + rB A (sHm P A) j (u ||| 2 ^ p) = rB A (sHm P A) (j + 1) u) → p < n := by
                  intro hne
                  by_cases hpe : p = n
                  · subst hpe
                    rw [hfb, decide_eq_true_eq] at a3
                    exact absurd a3 hne
                  · omega
                refine ⟨by omega, by omega, by omega, by omega, fun zz => ?_, fun zz => ?_⟩
                · exact go (lt_of (fun e => zz (by rw [e])))
                · refine r_harmBy1 (j := j) (u := u) (p := p) ho hb1 hh hj' (by omega) (by omega) hu' sHm_rg ?_
                  rw [hbi.2, ← vmo.2]
                  refine ⟨by omega, by omega, by omega, by omega, fun zz2 => ?_, fun zz2 => ?_⟩
                  · exact go (lt_of (fun e => zz2 (by rw [e])))
                  · have heq : 10000 - sHm P A p + rB A (sHm P A) j (u ||| 2 ^ p) = rB A (sHm P A) (j + 1) u := by omega
                    have hpe : p = n := by
                      by_cases hlt2 : p < n
                      · have := a4 p hlt2
                        rw [hfb, decide_eq_false_iff_not] at this
                        exact absurd heq this
                      · omega
                    rw [a1, hpe]
                    exact ⟨rfl, rfl⟩
              · rw [if_neg hfr]
                have hp : p < n := by
                  by_cases hpe : p = n
                  · subst hpe
                    rw [hfb] at a3
                    simp only [Bool.and_eq_true] at a3
                    exact absurd a3.1 hfr
                  · omega
                exact ⟨by omega, by omega, by omega, by omega, fun _ => go hp, fun zz => by omega⟩
          · rintro e3 h3 ⟨rfl, rfl⟩
            simp -implicitDefEqProofs only [↓dn_den, ↓dn_loc, ↓dn_k, ↓dn_add, ↓dn_sub, ↓dn_mul, ↓dn_div, ↓dn_rem, ↓dn_bop, ↓dn_ladd, ↓dn_lsub, ↓dn_lmul, ↓dn_ldiv, ↓dn_lrem, ↓dn_land, ↓dn_l2i, ↓dn_neg, ↓dn_get, ↓dn_fix, ↓dn_ald, ↓dn_gld, ↓dn_yld, ↓dn_len, ↓dn_gln, ↓dn_cc, ↓dn_cb, ↓dn_and, ↓dn_or, ↓dn_not, ↓dn_cite, ↓dn_ec, ↓dn_ei, ↓dn_skip, ↓dn_seq, ↓dn_set, ↓dn_inc, ↓dn_putf, ↓dn_putz, ↓dn_ast, ↓dn_exp, ↓dn_if, ↓dn_ret, ↓dn_retz, ↓dn_retv, ↓dn_brk, ↓dn_cont, ↓dn_cs, ↓dn_sw, ↓dn_pop32, ↓dn_pop64, ↓dn_aop, ↓dn_call, ↓dn_max, ↓dn_min, ↓dn_acp, ↓dn_i2l, ↓dn_args0, ↓dn_args1, og_pad, og_ent, og_rlt, og_rle, og_rgt, og_rge, og_req, og_rne, og_padd, og_psub, og_pmul, List.getD_cons_zero, List.getD_cons_succ, List.set_cons_zero, List.set_cons_succ, List.length_cons, List.length_nil, List.cons_append, List.nil_append, List.replicate, List.append_nil, Nat.reduceAdd, Nat.reduceSub, Nat.reduceEqDiff, if_true, if_false, reduceIte, Int.reduceAdd, Int.reduceSub, Int.reduceMul, Int.reduceNeg, Int.reduceLT, Int.reduceLE, Int.cast_ofNat_Int, true_or, or_true, true_and, and_true, false_and, List.mem_cons, List.not_mem_nil, or_false, false_or, ne_eq, og_i32]
            have fin : ∀ v : Int, v = (rU A (sHm P A) (i + 1) : Int) → og_nx (w - 1).toNat (fun i e2 h2 => h2 = h3 ∧ ∃ c3, e2 = [1000, w, (rU A (sHm P A) i : Int), c3, (i : Int)] ∧ (1 ≤ i → c3 = rC A (sHm P A) (i - 1))) i [1000, w, v, c, (i : Int) + 1] h3 := by
              intro v hv
              refine og_nx_mk (by omega) ⟨rfl, c, by rw [hv]; simp, fun _ => ?_⟩
              rw [← hcE]
              congr 1
            refine ⟨fun hne => ?_, fun he => ?_⟩
            · have hbo := bt_or u (by omega) c.toNat (by omega)
              rw [Int.toNat_of_nonneg (by omega)] at hbo
              rw [hbo]
              refine ⟨by omega, fin _ ?_⟩
              rw [hus, if_neg hne]
            · refine ⟨by omega, fin _ ?_⟩
              rw [hus, if_pos (by simpa using he)]
        · have e : i = (w - 1).toNat := by omega
          have e' : i - 1 = (w - 2).toNat := by omega
          rw [hc3 (by omega), e']
          exact ⟨_, _, rfl⟩
      · rintro e2 h2 ⟨rfl, c2, c4, rfl⟩
        simp -implicitDefEqProofs only [↓dn_den, ↓dn_loc, ↓dn_k, ↓dn_add, ↓dn_sub, ↓dn_mul, ↓dn_div, ↓dn_rem, ↓dn_bop, ↓dn_ladd, ↓dn_lsub, ↓dn_lmul, ↓dn_ldiv, ↓dn_lrem, ↓dn_land, ↓dn_l2i, ↓dn_neg, ↓dn_get, ↓dn_fix, ↓dn_ald, ↓dn_gld, ↓dn_yld, ↓dn_len, ↓dn_gln, ↓dn_cc, ↓dn_cb, ↓dn_and, ↓dn_or, ↓dn_not, ↓dn_cite, ↓dn_ec, ↓dn_ei, ↓dn_skip, ↓dn_seq, ↓dn_set, ↓dn_inc, ↓dn_putf, ↓dn_putz, ↓dn_ast, ↓dn_exp, ↓dn_if, ↓dn_ret, ↓dn_retz, ↓dn_retv, ↓dn_brk, ↓dn_cont, ↓dn_cs, ↓dn_sw, ↓dn_pop32, ↓dn_pop64, ↓dn_aop, ↓dn_call, ↓dn_max, ↓dn_min, ↓dn_acp, ↓dn_i2l, ↓dn_args0, ↓dn_args1, og_pad, og_ent, og_rlt, og_rle, og_rgt, og_rge, og_req, og_rne, og_padd, og_psub, og_pmul, List.getD_cons_zero, List.getD_cons_succ, List.set_cons_zero, List.set_cons_succ, List.length_cons, List.length_nil, List.cons_append, List.nil_append, List.replicate, List.append_nil, Nat.reduceAdd, Nat.reduceSub, Nat.reduceEqDiff, if_true, if_false, reduceIte, Int.reduceAdd, Int.reduceSub, Int.reduceMul, Int.reduceNeg, Int.reduceLT, Int.reduceLE, Int.cast_ofNat_Int, true_or, or_true, true_and, and_true, false_and, List.mem_cons, List.not_mem_nil, or_false, false_or, ne_eq]
        exact hK1
  · have z := iteP0 z
    rw [if_neg (by omega)] at hK
    exact hK h frQ_rf rfl
end
end
