-- burying, copying
def sBury (A : Yd) (p g how : Int) : Yd := fun c k =>
  if c = 8 ∧ k = p then 0
  else if c = 4 ∧ k = g ∧ 0 ≤ g ∧ g < A 0 0 then p
  else if c = 0 ∧ k = 3 ∧ A 0 3 < 8 then A 0 3 + 1
  else if c = 9 ∧ A 0 3 < 8 ∧ k = 4 * A 0 3 then A 0 2
  else if c = 9 ∧ A 0 3 < 8 ∧ k = 4 * A 0 3 + 1 then p
  else if c = 9 ∧ A 0 3 < 8 ∧ k = 4 * A 0 3 + 2 then g
  else if c = 9 ∧ A 0 3 < 8 ∧ k = 4 * A 0 3 + 3 then how
  else A c k
/-- only pile, weights and the yard's own cells differ -/
def frY (y : Int) (h h' : Hp) : Prop := ∀ i k, i ≠ 7 → i ≠ 9 → (i < y ∨ y + 9 < i) → h' i k = h i k
theorem frY_rf {y : Int} {h : Hp} : frY y h h := fun _ _ _ _ _ => rfl
theorem frY_tr {y : Int} {h h1 h2 : Hp} (a : frY y h h1) (b : frY y h1 h2) : frY y h h2 := fun i k p q r => (b i k p q r).trans (a i k p q r)
theorem s_Yard_bury' {h : Hp} {y p g how : Int} {A : Yd} {K : Int → Hp → Prop} (hy : isY h y A) (ho : okY A) (hp0 : 0 ≤ p) (hp1 : p < A 0 1) (hg : -1 ≤ g) (hg1 : g < 6)
    (hK : ∀ h', isY h' y (sBury A p g how) → (∀ j k, (j < y ∨ y + 9 < j) → h' j k = h j k) → K 0 h') : m_Yard_bury [y, p, g, how] h K := by
  have h6 := ho.1
  have hY := hy.1
  unfold m_Yard_bury
  simp only [og_den, og_pad, og_ent, og_loc, og_k, og_add, og_sub, og_mul, og_div, og_rem, og_bop, og_ladd, og_lsub, og_lmul, og_ldiv, og_lrem, og_land, og_i2l, og_l2i, og_neg, og_get, og_fix, og_ald, og_gld, og_yld, og_len, og_gln, og_cc, og_cb, og_and, og_or, og_not, og_cite, og_ec, og_ei, og_rlt, og_rle, og_rgt, og_rge, og_req, og_rne, og_skip, og_seq, og_set, og_inc, og_putf, og_putz, og_ast, og_exp, og_if, og_ret, og_retz, og_retv, og_brk, og_cont, og_cs, og_sw, og_pop32, og_pop64, og_aop, og_padd, og_psub, og_pmul, og_call, og_args, og_max, og_min, og_acp, List.getD_cons_zero, List.getD_cons_succ, List.set_cons_zero, List.set_cons_succ, List.length_cons, List.length_nil, List.cons_append, List.nil_append, List.replicate, List.append_nil, Nat.reduceAdd, Nat.reduceSub, Nat.reduceEqDiff, if_true, if_false, reduceIte, Int.reduceAdd, Int.reduceSub, Int.reduceMul, Int.reduceNeg, Int.reduceLT, Int.reduceLE, Int.cast_ofNat_Int, true_or, or_true, true_and, and_true, false_and, List.mem_cons, List.not_mem_nil, or_false, false_or, ne_eq]
  refine ⟨by omega, by omega, fun e1 h1 => e1 = [y, p, g, how, 0] ∧ ∀ i k, h1 i k = if i = y + 8 ∧ k = p then 0 else if i = y + 4 ∧ k = g ∧ 0 ≤ g ∧ g < A 0 0 then p else h i k, ?_, ?_⟩
  · simp only [og_den, og_pad, og_ent, og_loc, og_k, og_add, og_sub, og_mul, og_div, og_rem, og_bop, og_ladd, og_lsub, og_lmul, og_ldiv, og_lrem, og_land, og_i2l, og_l2i, og_neg, og_get, og_fix, og_ald, og_gld, og_yld, og_len, og_gln, og_cc, og_cb, og_and, og_or, og_not, og_cite, og_ec, og_ei, og_rlt, og_rle, og_rgt, og_rge, og_req, og_rne, og_skip, og_seq, og_set, og_inc, og_putf, og_putz, og_ast, og_exp, og_if, og_ret, og_retz, og_retv, og_brk, og_cont, og_cs, og_sw, og_pop32, og_pop64, og_aop, og_padd, og_psub, og_pmul, og_call, og_args, og_max, og_min, og_acp, List.getD_cons_zero, List.getD_cons_succ, List.set_cons_zero, List.set_cons_succ, List.length_cons, List.length_nil, List.cons_append, List.nil_append, List.replicate, List.append_nil, Nat.reduceAdd, Nat.reduceSub, Nat.reduceEqDiff, if_true, if_false, reduceIte, Int.reduceAdd, Int.reduceSub, Int.reduceMul, Int.reduceNeg, Int.reduceLT, Int.reduceLE, Int.cast_ofNat_Int, true_or, or_true, true_and, and_true, false_and, List.mem_cons, List.not_mem_nil, or_false, false_or, ne_eq]
    apply s_Yard_isGrave
    have : og_up h (y + 8) p 0 y 0 = A 0 0 := by rw [og_up_i (by omega)]; exact hY.1
    rw [this]
    refine ⟨fun hx => ?_, fun hx i k => ?_⟩
    · refine ⟨by grind, by omega, fun i k => ?_⟩
      simp only [og_up]
      grind
    · simp only [og_up]
      grind
  · rintro e1 h1 ⟨rfl, hh⟩
    simp only [og_den, og_pad, og_ent, og_loc, og_k, og_add, og_sub, og_mul, og_div, og_rem, og_bop, og_ladd, og_lsub, og_lmul, og_ldiv, og_lrem, og_land, og_i2l, og_l2i, og_neg, og_get, og_fix, og_ald, og_gld, og_yld, og_len, og_gln, og_cc, og_cb, og_and, og_or, og_not, og_cite, og_ec, og_ei, og_rlt, og_rle, og_rgt, og_rge, og_req, og_rne, og_skip, og_seq, og_set, og_inc, og_putf, og_putz, og_ast, og_exp, og_if, og_ret, og_retz, og_retv, og_brk, og_cont, og_cs, og_sw, og_pop32, og_pop64, og_aop, og_padd, og_psub, og_pmul, og_call, og_args, og_max, og_min, og_acp, List.getD_cons_zero, List.getD_cons_succ, List.set_cons_zero, List.set_cons_succ, List.length_cons, List.length_nil, List.cons_append, List.nil_append, List.replicate, List.append_nil, Nat.reduceAdd, Nat.reduceSub, Nat.reduceEqDiff, if_true, if_false, reduceIte, Int.reduceAdd, Int.reduceSub, Int.reduceMul, Int.reduceNeg, Int.reduceLT, Int.reduceLE, Int.cast_ofNat_Int, true_or, or_true, true_and, and_true, false_and, List.mem_cons, List.not_mem_nil, or_false, false_or, ne_eq, og_i32]
    have e3 : h1 y 3 = A 0 3 := by rw [hh]; grind
    have e2 : h1 y 2 = A 0 2 := by rw [hh]; grind
    rw [e3, e2]
    refine ⟨fun hlt => ?_, fun hge => ?_⟩
    · repeat (refine And.intro (by omega) ?_)
      have e4 : ∀ a b c d, og_up (og_up (og_up (og_up h1 (y + 9) (4 * A 0 3) a) (y + 9) (4 * A 0 3 + 1) b) (y + 9) (4 * A 0 3 + 2) c) (y + 9) (4 * A 0 3 + 3) d y 3 = A 0 3 := by
        intro a b c d
        simp only [og_up]
        grind
      rw [e4]
      repeat (refine And.intro (by omega) ?_)
      have hy1 := hy.2.1
      have hy2 := hy.2.2.1
      have hy3 := hy.2.2.2
      refine hK _ ⟨⟨?_, ?_, ?_, ?_⟩, fun k k0 k1 => ⟨?_, ?_, ?_, ?_⟩, fun k k0 k1 => ⟨?_, ?_, ?_, ?_⟩, fun k k0 k1 => ?_⟩ (fun i k q3 => ?_) <;> simp only [og_up, hh, sBury] at * <;> grind
    · have hy1 := hy.2.1
      have hy2 := hy.2.2.1
      have hy3 := hy.2.2.2
      refine hK _ ⟨⟨?_, ?_, ?_, ?_⟩, fun k k0 k1 => ⟨?_, ?_, ?_, ?_⟩, fun k k0 k1 => ⟨?_, ?_, ?_, ?_⟩, fun k k0 k1 => ?_⟩ (fun i k q3 => ?_) <;> simp only [og_up, hh, sBury] at * <;> grind
theorem s_Yard_bury {h : Hp} {y p g how : Int} {A : Yd} {K : Int → Hp → Prop} (hy : isY h y A) (ho : okY A) (hp0 : 0 ≤ p) (hp1 : p < A 0 1) (hg : -1 ≤ g) (hg1 : g < 6)
    (hK : ∀ h', isY h' y (sBury A p g how) → frY y h h' → K 0 h') : m_Yard_bury [y, p, g, how] h K := s_Yard_bury' hy ho hp0 hp1 hg hg1 (fun h' a b => hK h' a (fun i k _ _ q => b i k q))
theorem og_cp_i {h : Hp} {a sp b dp n i k : Int} (hi : i ≠ b) : og_cp h a sp b dp n i k = h i k := by unfold og_cp; exact if_neg (fun z => hi z.1)
theorem og_cp_in {h : Hp} {a b n k : Int} (h0 : 0 ≤ k) (h1 : k < n) : og_cp h a 0 b 0 n b k = h a k := by
  unfold og_cp
  rw [if_pos ⟨rfl, h0, by omega⟩]
  congr 1
  omega
theorem s_Yard_become {h : Hp} {y z : Int} {A : Yd} {K : Int → Hp → Prop} (hne : z + 9 < y ∨ y + 9 < z) (hy : isY h z A) (ho : okY A) (hK : ∀ h', isY h' y A → frY y h h' → K 0 h') : m_Yard_become [y, z] h K := by
  have h6 := ho.1
  have hY := hy.1
  have hy1 := hy.2.1
  have hy2 := hy.2.2.1
  have hy3 := hy.2.2.2
  unfold m_Yard_become
  simp only [og_den, og_pad, og_ent, og_loc, og_k, og_add, og_sub, og_mul, og_div, og_rem, og_bop, og_ladd, og_lsub, og_lmul, og_ldiv, og_lrem, og_land, og_i2l, og_l2i, og_neg, og_get, og_fix, og_ald, og_gld, og_yld, og_len, og_gln, og_cc, og_cb, og_and, og_or, og_not, og_cite, og_ec, og_ei, og_rlt, og_rle, og_rgt, og_rge, og_req, og_rne, og_skip, og_seq, og_set, og_inc, og_putf, og_putz, og_ast, og_exp, og_if, og_ret, og_retz, og_retv, og_brk, og_cont, og_cs, og_sw, og_pop32, og_pop64, og_aop, og_padd, og_psub, og_pmul, og_call, og_args, og_max, og_min, og_acp, List.getD_cons_zero, List.getD_cons_succ, List.set_cons_zero, List.set_cons_succ, List.length_cons, List.length_nil, List.cons_append, List.nil_append, List.replicate, List.append_nil, Nat.reduceAdd, Nat.reduceSub, Nat.reduceEqDiff, if_true, if_false, reduceIte, Int.reduceAdd, Int.reduceSub, Int.reduceMul, Int.reduceNeg, Int.reduceLT, Int.reduceLE, Int.cast_ofNat_Int, true_or, or_true, true_and, and_true, false_and, List.mem_cons, List.not_mem_nil, or_false, false_or, ne_eq]
  repeat (refine And.intro (by omega) ?_)
  refine hK _ ⟨⟨?_, ?_, ?_, ?_⟩, fun k k0 k1 => ⟨?_, ?_, ?_, ?_⟩, fun k k0 k1 => ⟨?_, ?_, ?_, ?_⟩, fun k k0 k1 => ?_⟩ (fun i k q1 q2 q3 => ?_) <;> simp (disch := omega) only [og_cp_i, og_cp_in, og_up_i, og_up_k, og_up_eq] <;> grind
