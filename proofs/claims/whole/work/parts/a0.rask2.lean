section
-- questions: the reference, second part
section
variable {q h h0 h' : Hp} {B : Int → Int} {n a M : Int} {K : Int → Hp → Prop} {A : Yd} {P : Pr} {U : List Yd} {X : Yd}
theorem qT_eq {k v ans i z a1 a2 a3 a4 : Int} (hk : 0 ≤ k ∧ k ≤ 5) (hv : k < 3 → v = 0 ∨ v = 1) (hz : (i = 0 ∧ z = 1) ∨ (¬ i = 0 ∧ z = 0))
    (h1 : (((k = 0 ∧ (k < 3 ∧ v = 1)) ∧ ans = -1) ∨ (k = 1 ∧ (k < 3 ∧ v = 1)) → a1 = i) ∧ (¬ (((k = 0 ∧ (k < 3 ∧ v = 1)) ∧ ans = -1) ∨ (k = 1 ∧ (k < 3 ∧ v = 1))) → a1 = ans))
    (h2 : (k = 2 ∧ (k < 3 ∧ v = 1) → a2 = a1 + 1) ∧ (¬ (k = 2 ∧ (k < 3 ∧ v = 1)) → a2 = a1)) (h3 : (k = 3 → a3 = a2 + v) ∧ (¬ k = 3 → a3 = a2))
    (h4 : (3 < k ∧ (¬ z = 0 ∨ ((k = 4 ∧ a3 < v) ∨ (¬ k = 4 ∧ v < a3))) → a4 = v) ∧ (¬ (3 < k ∧ (¬ z = 0 ∨ ((k = 4 ∧ a3 < v) ∨ (¬ k = 4 ∧ v < a3)))) → a4 = a3)) : a4 = qSt (25 + k) ans v i := by
  have hc : k = 0 ∨ k = 1 ∨ k = 2 ∨ k = 3 ∨ k = 4 ∨ k = 5 := by omega
  unfold qSt
  rcases hc with rfl | rfl | rfl | rfl | rfl | rfl
  · simp only [Int.add_zero, if_true]
    have := hv (by decide)
    split <;> omega
  · have := hv (by decide)
    rw [if_neg (by decide), if_pos (by decide)]
    split <;> omega
  · have := hv (by decide)
    rw [if_neg (by decide), if_neg (by decide), if_neg (by decide), if_neg (by decide)]
    omega
  · rw [if_neg (by decide), if_neg (by decide), if_neg (by decide), if_neg (by decide)]
    omega
  · rw [if_neg (by decide), if_neg (by decide), if_pos (by decide)]
    split <;> omega
  · rw [if_neg (by decide), if_neg (by decide), if_neg (by decide), if_pos (by decide)]
    split <;> omega
theorem r_qTakes {k v i : Int} (hk : 0 ≤ k ∧ k ≤ 5) (hv : k < 3 → v = 0 ∨ v = 1) (hv2 : -1000000 ≤ v ∧ v ≤ 1000000) (ha : -100000000 ≤ h 1000 98 ∧ h 1000 98 ≤ 100000000) (hi : 0 ≤ i ∧ i ≤ 8) (hz : (i = 0 ∧ h 1000 99 = 1) ∨ (¬ i = 0 ∧ h 1000 99 = 0)) (hK : ∀ h', h' 1000 98 = qSt (25 + k) (h 1000 98) v i → h' 1000 99 = 0 → (∀ j x, ¬ (j = 1000 ∧ (x = 98 ∨ x = 99)) → h' j x = h j x) → K 0 h') : m_Model_qTakes [1000, k, v, i] h K := by
  unfold m_Model_qTakes
  simp -implicitDefEqProofs only [↓dn_den, ↓dn_loc, ↓dn_k, ↓dn_add, ↓dn_sub, ↓dn_mul, ↓dn_div, ↓dn_rem, ↓dn_bop, ↓dn_ladd, ↓dn_lsub, ↓dn_lmul, ↓dn_ldiv, ↓dn_lrem, ↓dn_land, ↓dn_l2i, ↓dn_neg, ↓dn_get, ↓dn_fix, ↓dn_ald, ↓dn_gld, ↓dn_yld, ↓dn_len, ↓dn_gln, ↓dn_cc, ↓dn_cb, ↓dn_and, ↓dn_not, ↓dn_cite, ↓dn_skip, ↓dn_seq, ↓dn_set, ↓dn_inc, ↓dn_putf, ↓dn_putz, ↓dn_ast, ↓dn_exp, ↓dn_ret, ↓dn_retz, ↓dn_retv, ↓dn_brk, ↓dn_cont, ↓dn_cs, ↓dn_sw, ↓dn_pop32, ↓dn_pop64, ↓dn_aop, ↓dn_call, ↓dn_max, ↓dn_min, ↓dn_acp, ↓dn_i2l, ↓dn_args0, ↓dn_args1, og_pad, og_ent, og_rlt, og_rle, og_rgt, og_rge, og_req, og_rne, og_padd, og_psub, og_pmul, List.getD_cons_zero, List.getD_cons_succ, List.set_cons_zero, List.set_cons_succ, List.length_cons, List.length_nil, List.cons_append, List.nil_append, List.replicate, List.append_nil, Nat.reduceAdd, Nat.reduceSub, Nat.reduceEqDiff, if_true, if_false, reduceIte, Int.reduceAdd, Int.reduceSub, Int.reduceMul, Int.reduceNeg, Int.reduceLT, Int.reduceLE, Int.cast_ofNat_Int, true_or, or_true, true_and, and_true, false_and, List.mem_cons, List.not_mem_nil, or_false, false_or, ne_eq]
  refine ph_ec (ph_and ph_lk ph_lk) (fun x hx => ?_)
  simp only [List.getD_cons_zero, List.getD_cons_succ, og_rlt, og_req] at hx
  have ex : (¬ x = 0) ↔ (k < 3 ∧ v = 1) := by omega
  have U : ∀ (g : Hp) (y : Int) (j z : Int), ¬ (j = 1000 ∧ z = 98) → og_up g 1000 98 y j z = g j z := fun g y j z hp => by unfold og_up; exact if_neg hp
  refine ⟨fun e1 h1 => e1 = [1000, k, v, 0, i, x] ∧ ((((k = 0 ∧ (k < 3 ∧ v = 1)) ∧ h 1000 98 = -1) ∨ (k = 1 ∧ (k < 3 ∧ v = 1)) → h1 1000 98 = i) ∧ (¬ (((k = 0 ∧ (k < 3 ∧ v = 1)) ∧ h 1000 98 = -1) ∨ (k = 1 ∧ (k < 3 ∧ v = 1))) → h1 1000 98 = h 1000 98)) ∧ (∀ j z, ¬ (j = 1000 ∧ z = 98) → h1 j z = h j z), ?_, ?_⟩
  · refine ph_if (ph_or (ph_and (ph_and ph_lk ph_cb) ph_gk) (ph_and ph_lk ph_cb)) (fun c => ?_) (fun c => ?_)
    · simp only [List.getD_cons_zero, List.getD_cons_succ, og_req] at c
      rw [ex] at c
      simp -implicitDefEqProofs only [↓dn_den, ↓dn_loc, ↓dn_k, ↓dn_add, ↓dn_sub, ↓dn_mul, ↓dn_div, ↓dn_rem, ↓dn_bop, ↓dn_ladd, ↓dn_lsub, ↓dn_lmul, ↓dn_ldiv, ↓dn_lrem, ↓dn_land, ↓dn_l2i, ↓dn_neg, ↓dn_get, ↓dn_fix, ↓dn_ald, ↓dn_gld, ↓dn_yld, ↓dn_len, ↓dn_gln, ↓dn_cc, ↓dn_cb, ↓dn_and, ↓dn_or, ↓dn_not, ↓dn_cite, ↓dn_ec, ↓dn_ei, ↓dn_skip, ↓dn_seq, ↓dn_set, ↓dn_inc, ↓dn_putf, ↓dn_putz, ↓dn_ast, ↓dn_exp, ↓dn_if, ↓dn_ret, ↓dn_retz, ↓dn_retv, ↓dn_brk, ↓dn_cont, ↓dn_cs, ↓dn_sw, ↓dn_pop32, ↓dn_pop64, ↓dn_aop, ↓dn_call, ↓dn_max, ↓dn_min, ↓dn_acp, ↓dn_i2l, ↓dn_args0, ↓dn_args1, og_pad, og_ent, og_rlt, og_rle, og_rgt, og_rge, og_req, og_rne, og_padd, og_psub, og_pmul, List.getD_cons_zero, List.getD_cons_succ, List.set_cons_zero, List.set_cons_succ, List.length_cons, List.length_nil, List.cons_append, List.nil_append, List.replicate, List.append_nil, Nat.reduceAdd, Nat.reduceSub, Nat.reduceEqDiff, if_true, if_false, reduceIte, Int.reduceAdd, Int.reduceSub, Int.reduceMul, Int.reduceNeg, Int.reduceLT, Int.reduceLE, Int.cast_ofNat_Int, true_or, or_true, true_and, and_true, false_and, List.mem_cons, List.not_mem_nil, or_false, false_or, ne_eq]
      first | exact ⟨rfl, ⟨fun _ => og_up_eq, fun z => absurd c z⟩, U h i⟩ | exact ⟨⟨fun _ => og_up_eq, fun z => absurd c z⟩, U h i⟩
    · simp only [List.getD_cons_zero, List.getD_cons_succ, og_req] at c
      rw [ex] at c
      rw [dn_skip]
      exact ⟨rfl, ⟨fun z => absurd z c, fun _ => rfl⟩, fun _ _ _ => rfl⟩
  rintro e1 h1 ⟨rfl, b1, f1⟩
  refine ⟨fun e2 h2 => e2 = [1000, k, v, 0, i, x] ∧ ((k = 2 ∧ (k < 3 ∧ v = 1) → h2 1000 98 = h1 1000 98 + 1) ∧ (¬ (k = 2 ∧ (k < 3 ∧ v = 1)) → h2 1000 98 = h1 1000 98)) ∧ (∀ j z, ¬ (j = 1000 ∧ z = 98) → h2 j z = h j z), ?_, ?_⟩
  · refine ph_if (ph_and ph_lk ph_cb) (fun c => ?_) (fun c => ?_)
    · simp only [List.getD_cons_zero, List.getD_cons_succ, og_req] at c
      rw [ex] at c
      simp -implicitDefEqProofs only [↓dn_den, ↓dn_loc, ↓dn_k, ↓dn_add, ↓dn_sub, ↓dn_mul, ↓dn_div, ↓dn_rem, ↓dn_bop, ↓dn_ladd, ↓dn_lsub, ↓dn_lmul, ↓dn_ldiv, ↓dn_lrem, ↓dn_land, ↓dn_l2i, ↓dn_neg, ↓dn_get, ↓dn_fix, ↓dn_ald, ↓dn_gld, ↓dn_yld, ↓dn_len, ↓dn_gln, ↓dn_cc, ↓dn_cb, ↓dn_and, ↓dn_or, ↓dn_not, ↓dn_cite, ↓dn_ec, ↓dn_ei, ↓dn_skip, ↓dn_seq, ↓dn_set, ↓dn_inc, ↓dn_putf, ↓dn_putz, ↓dn_ast, ↓dn_exp, ↓dn_if, ↓dn_ret, ↓dn_retz, ↓dn_retv, ↓dn_brk, ↓dn_cont, ↓dn_cs, ↓dn_sw, ↓dn_pop32, ↓dn_pop64, ↓dn_aop, ↓dn_call, ↓dn_max, ↓dn_min, ↓dn_acp, ↓dn_i2l, ↓dn_args0, ↓dn_args1, og_pad, og_ent, og_rlt, og_rle, og_rgt, og_rge, og_req, og_rne, og_padd, og_psub, og_pmul, List.getD_cons_zero, List.getD_cons_succ, List.set_cons_zero, List.set_cons_succ, List.length_cons, List.length_nil, List.cons_append, List.nil_append, List.replicate, List.append_nil, Nat.reduceAdd, Nat.reduceSub, Nat.reduceEqDiff, if_true, if_false, reduceIte, Int.reduceAdd, Int.reduceSub, Int.reduceMul, Int.reduceNeg, Int.reduceLT, Int.reduceLE, Int.cast_ofNat_Int, true_or, or_true, true_and, and_true, false_and, List.mem_cons, List.not_mem_nil, or_false, false_or, ne_eq, og_i64]
      have r : (k = 2 ∧ (k < 3 ∧ v = 1) → og_up h1 1000 98 (h1 1000 98 + 1) 1000 98 = h1 1000 98 + 1) ∧ (¬ (k = 2 ∧ (k < 3 ∧ v = 1)) → og_up h1 1000 98 (h1 1000 98 + 1) 1000 98 = h1 1000 98) := ⟨fun _ => og_up_eq, fun z => absurd c z⟩
      have r2 : ∀ j z, ¬ (j = 1000 ∧ z = 98) → og_up h1 1000 98 (h1 1000 98 + 1) j z = h j z := fun j z hp => (U h1 _ j z hp).trans (f1 j z hp)
      refine ⟨by omega, ?_⟩
      first | exact ⟨rfl, r, r2⟩ | exact ⟨r, r2⟩
    · simp only [List.getD_cons_zero, List.getD_cons_succ, og_req] at c
      rw [ex] at c
      rw [dn_skip]
      exact ⟨rfl, ⟨fun z => absurd z c, fun _ => rfl⟩, f1⟩
  rintro e2 h2 ⟨rfl, b2, f2⟩
  have bd2 : -100000001 ≤ h2 1000 98 ∧ h2 1000 98 ≤ 100000001 := by
    have c1 : h1 1000 98 = i ∨ h1 1000 98 = h 1000 98 := by
      by_cases z : ((k = 0 ∧ (k < 3 ∧ v = 1)) ∧ h 1000 98 = -1) ∨ (k = 1 ∧ (k < 3 ∧ v = 1))
      · exact Or.inl (b1.1 z)
      · exact Or.inr (b1.2 z)
    have c2 : h2 1000 98 = h1 1000 98 + 1 ∨ h2 1000 98 = h1 1000 98 := by
      by_cases z : k = 2 ∧ (k < 3 ∧ v = 1)
      · exact Or.inl (b2.1 z)
      · exact Or.inr (b2.2 z)
    omega
  refine ⟨fun e3 h3 => e3 = [1000, k, v, 0, i, x] ∧ ((k = 3 → h3 1000 98 = h2 1000 98 + v) ∧ (¬ k = 3 → h3 1000 98 = h2 1000 98)) ∧ (∀ j z, ¬ (j = 1000 ∧ z = 98) → h3 j z = h j z), ?_, ?_⟩
  · refine ph_if ph_lk (fun c => ?_) (fun c => ?_)
    · have c : k = 3 := c
      simp -implicitDefEqProofs only [↓dn_den, ↓dn_loc, ↓dn_k, ↓dn_add, ↓dn_sub, ↓dn_mul, ↓dn_div, ↓dn_rem, ↓dn_bop, ↓dn_ladd, ↓dn_lsub, ↓dn_lmul, ↓dn_ldiv, ↓dn_lrem, ↓dn_land, ↓dn_l2i, ↓dn_neg, ↓dn_get, ↓dn_fix, ↓dn_ald, ↓dn_gld, ↓dn_yld, ↓dn_len, ↓dn_gln, ↓dn_cc, ↓dn_cb, ↓dn_and, ↓dn_or, ↓dn_not, ↓dn_cite, ↓dn_ec, ↓dn_ei, ↓dn_skip, ↓dn_seq, ↓dn_set, ↓dn_inc, ↓dn_putf, ↓dn_putz, ↓dn_ast, ↓dn_exp, ↓dn_if, ↓dn_ret, ↓dn_retz, ↓dn_retv, ↓dn_brk, ↓dn_cont, ↓dn_cs, ↓dn_sw, ↓dn_pop32, ↓dn_pop64, ↓dn_aop, ↓dn_call, ↓dn_max, ↓dn_min, ↓dn_acp, ↓dn_i2l, ↓dn_args0, ↓dn_args1, og_pad, og_ent, og_rlt, og_rle, og_rgt, og_rge, og_req, og_rne, og_padd, og_psub, og_pmul, List.getD_cons_zero, List.getD_cons_succ, List.set_cons_zero, List.set_cons_succ, List.length_cons, List.length_nil, List.cons_append, List.nil_append, List.replicate, List.append_nil, Nat.reduceAdd, Nat.reduceSub, Nat.reduceEqDiff, if_true, if_false, reduceIte, Int.reduceAdd, Int.reduceSub, Int.reduceMul, Int.reduceNeg, Int.reduceLT, Int.reduceLE, Int.cast_ofNat_Int, true_or, or_true, true_and, and_true, false_and, List.mem_cons, List.not_mem_nil, or_false, false_or, ne_eq, og_i64]
      have r : (k = 3 → og_up h2 1000 98 (h2 1000 98 + v) 1000 98 = h2 1000 98 + v) ∧ (¬ k = 3 → og_up h2 1000 98 (h2 1000 98 + v) 1000 98 = h2 1000 98) := ⟨fun _ => og_up_eq, fun z => absurd c z⟩
      have r2 : ∀ j z, ¬ (j = 1000 ∧ z = 98) → og_up h2 1000 98 (h2 1000 98 + v) j z = h j z := fun j z hp => (U h2 _ j z hp).trans (f2 j z hp)
      refine ⟨by omega, ?_⟩
      first | exact ⟨rfl, r, r2⟩ | exact ⟨r, r2⟩
    · have c : ¬ k = 3 := c
      rw [dn_skip]
      exact ⟨rfl, ⟨fun z => absurd z c, fun _ => rfl⟩, f2⟩
  rintro e3 h3 ⟨rfl, b3, f3⟩
  have e99 : h3 1000 99 = h 1000 99 := f3 _ _ (by omega)
  refine ⟨fun e4 h4 => e4 = [1000, k, v, 0, i, x] ∧ ((3 < k ∧ (¬ h 1000 99 = 0 ∨ ((k = 4 ∧ h3 1000 98 < v) ∨ (¬ k = 4 ∧ v < h3 1000 98))) → h4 1000 98 = v) ∧ (¬ (3 < k ∧ (¬ h 1000 99 = 0 ∨ ((k = 4 ∧ h3 1000 98 < v) ∨ (¬ k = 4 ∧ v < h3 1000 98)))) → h4 1000 98 = h3 1000 98)) ∧ (∀ j z, ¬ (j = 1000 ∧ z = 98) → h4 j z = h j z), ?_, ?_⟩
  · refine ph_if (ph_and ph_lk (ph_or ph_cg (ph_cite ph_lk ph_lg ph_lg))) (fun c => ?_) (fun c => ?_)
    · simp only [List.getD_cons_zero, List.getD_cons_succ, og_req, og_rgt, og_rlt] at c
      have c : 3 < k ∧ (¬ h3 1000 99 = 0 ∨ ((k = 4 ∧ h3 1000 98 < v) ∨ (¬ k = 4 ∧ v < h3 1000 98))) := c
      rw [e99] at c
      simp -implicitDefEqProofs only [↓dn_den, ↓dn_loc, ↓dn_k, ↓dn_add, ↓dn_sub, ↓dn_mul, ↓dn_div, ↓dn_rem, ↓dn_bop, ↓dn_ladd, ↓dn_lsub, ↓dn_lmul, ↓dn_ldiv, ↓dn_lrem, ↓dn_land, ↓dn_l2i, ↓dn_neg, ↓dn_get, ↓dn_fix, ↓dn_ald, ↓dn_gld, ↓dn_yld, ↓dn_len, ↓dn_gln, ↓dn_cc, ↓dn_cb, ↓dn_and, ↓dn_or, ↓dn_not, ↓dn_cite, ↓dn_ec, ↓dn_ei, ↓dn_skip, ↓dn_seq, ↓dn_set, ↓dn_inc, ↓dn_putf, ↓dn_putz, ↓dn_ast, ↓dn_exp, ↓dn_if, ↓dn_ret, ↓dn_retz, ↓dn_retv, ↓dn_brk, ↓dn_cont, ↓dn_cs, ↓dn_sw, ↓dn_pop32, ↓dn_pop64, ↓dn_aop, ↓dn_call, ↓dn_max, ↓dn_min, ↓dn_acp, ↓dn_i2l, ↓dn_args0, ↓dn_args1, og_pad, og_ent, og_rlt, og_rle, og_rgt, og_rge, og_req, og_rne, og_padd, og_psub, og_pmul, List.getD_cons_zero, List.getD_cons_succ, List.set_cons_zero, List.set_cons_succ, List.length_cons, List.length_nil, List.cons_append, List.nil_append, List.replicate, List.append_nil, Nat.reduceAdd, Nat.reduceSub, Nat.reduceEqDiff, if_true, if_false, reduceIte, Int.reduceAdd, Int.reduceSub, Int.reduceMul, Int.reduceNeg, Int.reduceLT, Int.reduceLE, Int.cast_ofNat_Int, true_or, or_true, true_and, and_true, false_and, List.mem_cons, List.not_mem_nil, or_false, false_or, ne_eq]
      have r2 : ∀ j z, ¬ (j = 1000 ∧ z = 98) → og_up h3 1000 98 v j z = h j z := fun j z hp => (U h3 _ j z hp).trans (f3 j z hp)
      first | exact ⟨rfl, ⟨fun _ => og_up_eq, fun z => absurd c z⟩, r2⟩ | exact ⟨⟨fun _ => og_up_eq, fun z => absurd c z⟩, r2⟩
    · simp only [List.getD_cons_zero, List.getD_cons_succ, og_req, og_rgt, og_rlt] at c
      have c : ¬ (3 < k ∧ (¬ h3 1000 99 = 0 ∨ ((k = 4 ∧ h3 1000 98 < v) ∨ (¬ k = 4 ∧ v < h3 1000 98)))) := c
      rw [e99] at c
      rw [dn_skip]
      exact ⟨rfl, ⟨fun z => absurd z c, fun _ => rfl⟩, f3⟩
  rintro e4 h4 ⟨rfl, b4, f4⟩
  simp -implicitDefEqProofs only [↓dn_den, ↓dn_loc, ↓dn_k, ↓dn_add, ↓dn_sub, ↓dn_mul, ↓dn_div, ↓dn_rem, ↓dn_bop, ↓dn_ladd, ↓dn_lsub, ↓dn_lmul, ↓dn_ldiv, ↓dn_lrem, ↓dn_land, ↓dn_l2i, ↓dn_neg, ↓dn_get, ↓dn_fix, ↓dn_ald, ↓dn_gld, ↓dn_yld, ↓dn_len, ↓dn_gln, ↓dn_cc, ↓dn_cb, ↓dn_and, ↓dn_or, ↓dn_not, ↓dn_cite, ↓dn_ec, ↓dn_ei, ↓dn_skip, ↓dn_seq, ↓dn_set, ↓dn_inc, ↓dn_putf, ↓dn_putz, ↓dn_ast, ↓dn_exp, ↓dn_if, ↓dn_ret, ↓dn_retz, ↓dn_retv, ↓dn_brk, ↓dn_cont, ↓dn_cs, ↓dn_sw, ↓dn_pop32, ↓dn_pop64, ↓dn_aop, ↓dn_call, ↓dn_max, ↓dn_min, ↓dn_acp, ↓dn_i2l, ↓dn_args0, ↓dn_args1, og_pad, og_ent, og_rlt, og_rle, og_rgt, og_rge, og_req, og_rne, og_padd, og_psub, og_pmul, List.getD_cons_zero, List.getD_cons_succ, List.set_cons_zero, List.set_cons_succ, List.length_cons, List.length_nil, List.cons_append, List.nil_append, List.replicate, List.append_nil, Nat.reduceAdd, Nat.reduceSub, Nat.reduceEqDiff, if_true, if_false, reduceIte, Int.reduceAdd, Int.reduceSub, Int.reduceMul, Int.reduceNeg, Int.reduceLT, Int.reduceLE, Int.cast_ofNat_Int, true_or, or_true, true_and, and_true, false_and, List.mem_cons, List.not_mem_nil, or_false, false_or, ne_eq]
  have fin := hK (og_up h4 1000 99 0) (by rw [og_up_k (by decide)]; exact qT_eq hk hv hz b1 b2 b3 b4) og_up_eq (fun j z hp => by
    have : og_up h4 1000 99 0 j z = h4 j z := by unfold og_up; exact if_neg (by omega)
    rw [this]; exact f4 j z (by omega))
  first | exact fin | exact ⟨by decide, fin⟩ | exact ⟨Or.inl rfl, fin⟩
theorem kd_ei {w j : Int} {F : og_Ex} (hw : idW w) (ht : txM h B n) (hr : refS h B n a) (hT : wrd B n a = wnM w → ∀ h', refS h' B n (tE B n a) → frX h h' → K j h') (hF : ¬ wrd B n a = wnM w → ∀ h', refS h' B n a → frX h h' → F [1000, 0] h' K) : og_ei (og_cb (og_call m_Model_takes [og_loc 0, og_fix (fun _ => w) (og_loc 0)])) (og_k j) F [1000, 0] h K := by
  rw [dn_ei, dn_cb, dn_call, dn_args1, dn_loc, dn_args1, dn_fix, dn_loc, dn_args0]
  exact r_takes hw ht hr (fun q h1 r1 f1 => ⟨fun _ => hT q h1 r1 f1, fun z => absurd z (by decide)⟩) (fun q h1 r1 v1 f1 => ⟨fun z => absurd rfl z, fun _ => hF q h1 r1 f1⟩)
theorem wn_q : wnM 1048 = 25 ∧ wnM 1049 = 26 ∧ wnM 1050 = 27 ∧ wnM 1051 = 28 ∧ wnM 1052 = 29 ∧ wnM 1053 = 30 := by decide
theorem r_qKind (ht : txM h B n) (hr : refS h B n a) (hK : ∀ j h', (0 ≤ j ∧ j ≤ 5) → ((wrd B n a = 25 + j ∧ refS h' B n (tE B n a)) ∨ (j = 5 ∧ ¬ 25 ≤ wrd B n a ∧ fltM h' 1 (tS B n a))) → frX h h' → K j h') : m_Model_qKind [1000] h K := by
  have w0 := wn_q
  have wr : wrd B n a ≤ 30 := by
    have := (tW_rg B n a).2
    unfold wrd
    split <;> omega
  have cont : ∀ j h1, (0 ≤ j ∧ j ≤ 4) → (wrd B n a = 25 + j ∧ refS h1 B n (tE B n a)) → frX h h1 → og_cut (og_if (og_cc og_req (og_loc 1) (og_k 5)) (og_exp (og_call m_Model_asks [og_loc 0, og_fix (fun _ => 1053) (og_loc 0)])) (og_skip)) (og_ret (og_loc 1)) [1000, j] h1 (fun _ h' => (0 : Nat) = 2 ∧ K 0 h') K (fun _ _ => False) (fun _ _ => False) := by
    intro j h1 hj hc f1
    refine ⟨fun e2 h2 => e2 = [1000, j] ∧ h2 = h1, ?_, ?_⟩
    · refine pc_if pc_cc (fun z => ?_) (fun z => ?_)
      · have z : j = 5 := z
        omega
      · rw [dn_skip]
        exact ⟨rfl, rfl⟩
    · rintro e2 h2 ⟨rfl, rfl⟩
      simp -implicitDefEqProofs only [↓dn_den, ↓dn_loc, ↓dn_k, ↓dn_add, ↓dn_sub, ↓dn_mul, ↓dn_div, ↓dn_rem, ↓dn_bop, ↓dn_ladd, ↓dn_lsub, ↓dn_lmul, ↓dn_ldiv, ↓dn_lrem, ↓dn_land, ↓dn_l2i, ↓dn_neg, ↓dn_get, ↓dn_fix, ↓dn_ald, ↓dn_gld, ↓dn_yld, ↓dn_len, ↓dn_gln, ↓dn_cc, ↓dn_cb, ↓dn_and, ↓dn_or, ↓dn_not, ↓dn_cite, ↓dn_ec, ↓dn_ei, ↓dn_skip, ↓dn_seq, ↓dn_set, ↓dn_inc, ↓dn_putf, ↓dn_putz, ↓dn_ast, ↓dn_exp, ↓dn_if, ↓dn_ret, ↓dn_retz, ↓dn_retv, ↓dn_brk, ↓dn_cont, ↓dn_cs, ↓dn_sw, ↓dn_pop32, ↓dn_pop64, ↓dn_aop, ↓dn_call, ↓dn_max, ↓dn_min, ↓dn_acp, ↓dn_i2l, ↓dn_args0, ↓dn_args1, og_pad, og_ent, og_rlt, og_rle, og_rgt, og_rge, og_req, og_rne, og_padd, og_psub, og_pmul, List.getD_cons_zero, List.getD_cons_succ, List.set_cons_zero, List.set_cons_succ, List.length_cons, List.length_nil, List.cons_append, List.nil_append, List.replicate, List.append_nil, Nat.reduceAdd, Nat.reduceSub, Nat.reduceEqDiff, if_true, if_false, reduceIte, Int.reduceAdd, Int.reduceSub, Int.reduceMul, Int.reduceNeg, Int.reduceLT, Int.reduceLE, Int.cast_ofNat_Int, true_or, or_true, true_and, and_true, false_and, List.mem_cons, List.not_mem_nil, or_false, false_or, ne_eq]
      exact hK j h2 (by omega) (Or.inl hc) f1
  unfold m_Model_qKind
  simp -implicitDefEqProofs only [↓dn_den, ↓dn_loc, ↓dn_k, ↓dn_add, ↓dn_sub, ↓dn_mul, ↓dn_div, ↓dn_rem, ↓dn_bop, ↓dn_ladd, ↓dn_lsub, ↓dn_lmul, ↓dn_ldiv, ↓dn_lrem, ↓dn_land, ↓dn_l2i, ↓dn_neg, ↓dn_get, ↓dn_fix, ↓dn_ald, ↓dn_gld, ↓dn_yld, ↓dn_len, ↓dn_gln, ↓dn_cc, ↓dn_cb, ↓dn_and, ↓dn_not, ↓dn_cite, ↓dn_skip, ↓dn_seq, ↓dn_set, ↓dn_inc, ↓dn_putf, ↓dn_putz, ↓dn_ast, ↓dn_exp, ↓dn_ret, ↓dn_retz, ↓dn_retv, ↓dn_brk, ↓dn_cont, ↓dn_cs, ↓dn_sw, ↓dn_pop32, ↓dn_pop64, ↓dn_aop, ↓dn_call, ↓dn_max, ↓dn_min, ↓dn_acp, ↓dn_i2l, ↓dn_args0, ↓dn_args1, og_pad, og_ent, og_rlt, og_rle, og_rgt, og_rge, og_req, og_rne, og_padd, og_psub, og_pmul, List.getD_cons_zero, List.getD_cons_succ, List.set_cons_zero, List.set_cons_succ, List.length_cons, List.length_nil, List.cons_append, List.nil_append, List.replicate, List.append_nil, Nat.reduceAdd, Nat.reduceSub, Nat.reduceEqDiff, if_true, if_false, reduceIte, Int.reduceAdd, Int.reduceSub, Int.reduceMul, Int.reduceNeg, Int.reduceLT, Int.reduceLE, Int.cast_ofNat_Int, true_or, or_true, true_and, and_true, false_and, List.mem_cons, List.not_mem_nil, or_false, false_or, ne_eq]
  refine kd_ei (by unfold idW; omega) ht hr (fun q h1 r1 f1 => cont 0 h1 (by decide) ⟨by rw [q, w0.1]; rfl, r1⟩ f1) (fun q0 h1 r1 f1 => ?_)
  have t1 := txM_X ht f1
  refine kd_ei (by unfold idW; omega) t1 r1 (fun q h2 r2 f2 => cont 1 h2 (by decide) ⟨by rw [q, w0.2.1]; rfl, r2⟩ (frX_tr f1 f2)) (fun q1 h2 r2 f2 => ?_)
  have g2 := frX_tr f1 f2
  have t2 := txM_X t1 f2
  refine kd_ei (by unfold idW; omega) t2 r2 (fun q h3 r3 f3 => cont 2 h3 (by decide) ⟨by rw [q, w0.2.2.1]; rfl, r3⟩ (frX_tr g2 f3)) (fun q2 h3 r3 f3 => ?_)
  have g3 := frX_tr g2 f3
  have t3 := txM_X t2 f3
  refine kd_ei (by unfold idW; omega) t3 r3 (fun q h4 r4 f4 => cont 3 h4 (by decide) ⟨by rw [q, w0.2.2.2.1]; rfl, r4⟩ (frX_tr g3 f4)) (fun q3 h4 r4 f4 => ?_)
  have g4 := frX_tr g3 f4
  have t4 := txM_X t3 f4
  refine kd_ei (by unfold idW; omega) t4 r4 (fun q h5 r5 f5 => cont 4 h5 (by decide) ⟨by rw [q, w0.2.2.2.2.1]; rfl, r5⟩ (frX_tr g4 f5)) (fun q4 h5 r5 f5 => ?_)
  have g5 := frX_tr g4 f5
  have t5 := txM_X t4 f5
  rw [w0.1] at q0
  rw [w0.2.1] at q1
  rw [w0.2.2.1] at q2
  rw [w0.2.2.2.1] at q3
  rw [w0.2.2.2.2.1] at q4
  rw [dn_k]
  refine ⟨fun e6 h6 => e6 = [1000, 5] ∧ ((wrd B n a = 25 + 5 ∧ refS h6 B n (tE B n a)) ∨ ((5 : Int) = 5 ∧ ¬ 25 ≤ wrd B n a ∧ fltM h6 1 (tS B n a))) ∧ frX h h6, ?_, ?_⟩
  · refine pc_if pc_cc (fun z => ?_) (fun z => absurd (show (5 : Int) = 5 from rfl) z)
    simp -implicitDefEqProofs only [↓dn_den, ↓dn_loc, ↓dn_k, ↓dn_add, ↓dn_sub, ↓dn_mul, ↓dn_div, ↓dn_rem, ↓dn_bop, ↓dn_ladd, ↓dn_lsub, ↓dn_lmul, ↓dn_ldiv, ↓dn_lrem, ↓dn_land, ↓dn_l2i, ↓dn_neg, ↓dn_get, ↓dn_fix, ↓dn_ald, ↓dn_gld, ↓dn_yld, ↓dn_len, ↓dn_gln, ↓dn_cc, ↓dn_cb, ↓dn_and, ↓dn_or, ↓dn_not, ↓dn_cite, ↓dn_ec, ↓dn_ei, ↓dn_skip, ↓dn_seq, ↓dn_set, ↓dn_inc, ↓dn_putf, ↓dn_putz, ↓dn_ast, ↓dn_exp, ↓dn_if, ↓dn_ret, ↓dn_retz, ↓dn_retv, ↓dn_brk, ↓dn_cont, ↓dn_cs, ↓dn_sw, ↓dn_pop32, ↓dn_pop64, ↓dn_aop, ↓dn_call, ↓dn_max, ↓dn_min, ↓dn_acp, ↓dn_i2l, ↓dn_args0, ↓dn_args1, og_pad, og_ent, og_rlt, og_rle, og_rgt, og_rge, og_req, og_rne, og_padd, og_psub, og_pmul, List.getD_cons_zero, List.getD_cons_succ, List.set_cons_zero, List.set_cons_succ, List.length_cons, List.length_nil, List.cons_append, List.nil_append, List.replicate, List.append_nil, Nat.reduceAdd, Nat.reduceSub, Nat.reduceEqDiff, if_true, if_false, reduceIte, Int.reduceAdd, Int.reduceSub, Int.reduceMul, Int.reduceNeg, Int.reduceLT, Int.reduceLE, Int.cast_ofNat_Int, true_or, or_true, true_and, and_true, false_and, List.mem_cons, List.not_mem_nil, or_false, false_or, ne_eq]
    refine r_asks (w := 1053) (by unfold idW; omega) t5 r5 (fun q h6 r6 f6 => ?_) (fun q h6 l6 f6 => ?_)
    · have c : wrd B n a = 25 + 5 := by rw [q, w0.2.2.2.2.2]; rfl
      first | exact ⟨rfl, Or.inl ⟨c, r6⟩, frX_tr g5 f6⟩ | exact ⟨Or.inl ⟨c, r6⟩, frX_tr g5 f6⟩
    · rw [w0.2.2.2.2.2] at q
      have c : ¬ 25 ≤ wrd B n a := by omega
      first | exact ⟨rfl, Or.inr ⟨rfl, c, l6⟩, frX_tr g5 f6⟩ | exact ⟨Or.inr ⟨rfl, c, l6⟩, frX_tr g5 f6⟩ | exact ⟨Or.inr ⟨c, l6⟩, frX_tr g5 f6⟩
  · rintro e6 h6 ⟨rfl, c, f6⟩
    simp -implicitDefEqProofs only [↓dn_den, ↓dn_loc, ↓dn_k, ↓dn_add, ↓dn_sub, ↓dn_mul, ↓dn_div, ↓dn_rem, ↓dn_bop, ↓dn_ladd, ↓dn_lsub, ↓dn_lmul, ↓dn_ldiv, ↓dn_lrem, ↓dn_land, ↓dn_l2i, ↓dn_neg, ↓dn_get, ↓dn_fix, ↓dn_ald, ↓dn_gld, ↓dn_yld, ↓dn_len, ↓dn_gln, ↓dn_cc, ↓dn_cb, ↓dn_and, ↓dn_or, ↓dn_not, ↓dn_cite, ↓dn_ec, ↓dn_ei, ↓dn_skip, ↓dn_seq, ↓dn_set, ↓dn_inc, ↓dn_putf, ↓dn_putz, ↓dn_ast, ↓dn_exp, ↓dn_if, ↓dn_ret, ↓dn_retz, ↓dn_retv, ↓dn_brk, ↓dn_cont, ↓dn_cs, ↓dn_sw, ↓dn_pop32, ↓dn_pop64, ↓dn_aop, ↓dn_call, ↓dn_max, ↓dn_min, ↓dn_acp, ↓dn_i2l, ↓dn_args0, ↓dn_args1, og_pad, og_ent, og_rlt, og_rle, og_rgt, og_rge, og_req, og_rne, og_padd, og_psub, og_pmul, List.getD_cons_zero, List.getD_cons_succ, List.set_cons_zero, List.set_cons_succ, List.length_cons, List.length_nil, List.cons_append, List.nil_append, List.replicate, List.append_nil, Nat.reduceAdd, Nat.reduceSub, Nat.reduceEqDiff, if_true, if_false, reduceIte, Int.reduceAdd, Int.reduceSub, Int.reduceMul, Int.reduceNeg, Int.reduceLT, Int.reduceLE, Int.cast_ofNat_Int, true_or, or_true, true_and, and_true, false_and, List.mem_cons, List.not_mem_nil, or_false, false_or, ne_eq]
    exact hK 5 h6 (by decide) c f6
end
end
