section
-- the class's tokens
def txC (h : Hp) (B : Int → Int) (n : Int) : Prop := (h 1 1 = n ∧ ∀ j, 0 ≤ j → j < n → h 2 j = B j) ∧ (∀ w : Nat, w < 31 → h 4 (w : Int) = spl.getD w 0) ∧ 0 ≤ n ∧ n ≤ 1600 ∧ ∀ j, 0 ≤ j → j < n → 0 ≤ B j ∧ B j ≤ 255
def tokC (h : Hp) (B : Int → Int) (n a : Int) : Prop := (0 ≤ a ∧ a ≤ n) ∧ (h 3 7 = 0 ∧ h 3 8 = -1) ∧ (h 3 2 = tK B n a ∧ h 3 3 = tS B n a ∧ h 3 1 = tE B n a) ∧ (tK B n a = 1 → h 3 5 = tW B n a ∧ h 3 4 = tE B n a - tS B n a ∧ h 3 6 = tSp B n a) ∧ (tK B n a = 2 → h 3 5 = tN B n a ∧ h 3 4 = tE B n a - tS B n a) ∧ (tK B n a = 3 → h 3 5 = B (tS B n a))
def fltC (h : Hp) (k p : Int) : Prop := h 3 7 = k ∧ h 3 8 = p ∧ k ≠ 0 ∧ h 3 2 = 4
theorem p27_b5 : ∀ k, k < 6 → p27 k ≤ 14348907 := by decide
theorem txC_fr {h h' : Hp} {B : Int → Int} {n : Int} (ht : txC h B n) (hf : ∀ i k, (i = 1 ∨ i = 2 ∨ i = 4) → h' i k = h i k) : txC h' B n :=
  ⟨⟨by rw [hf _ _ (by omega)]; exact ht.1.1, fun j a b => by rw [hf _ _ (by omega)]; exact ht.1.2 j a b⟩, fun w hw => by rw [hf _ _ (by omega)]; exact ht.2.1 w hw, ht.2.2⟩
section
variable {h h0 h' : Hp} {B : Int → Int} {n a : Int} {K : Int → Hp → Prop}
theorem k_at {k : Int} (ht : txC h B n) (hK : K (bt B n k) h) : m_Tape_at [1, k] h K := by
  refine s_Tape_at (by rw [ht.1.1]; exact ht.2.2.2.1) ?_
  rw [ht.1.1]
  unfold bt at hK
  by_cases z : 0 ≤ k ∧ k < n
  · rw [if_pos z] at hK ⊢
    rw [ht.1.2 k z.1 z.2]; exact hK
  · rw [if_neg z] at hK ⊢
    exact hK
theorem bt_in {k : Int} (h0 : 0 ≤ k) (h1 : k < n) : bt B n k = B k := if_pos ⟨h0, h1⟩
theorem k_isBlank {x : Int} (hK : K (if isBl x = true then 1 else 0) h) : m_Tokens_isBlank [x] h K := by
  unfold m_Tokens_isBlank
  simp -implicitDefEqProofs only [↓dn_den, ↓dn_loc, ↓dn_k, ↓dn_add, ↓dn_sub, ↓dn_mul, ↓dn_div, ↓dn_rem, ↓dn_bop, ↓dn_ladd, ↓dn_lsub, ↓dn_lmul, ↓dn_ldiv, ↓dn_lrem, ↓dn_land, ↓dn_l2i, ↓dn_neg, ↓dn_get, ↓dn_fix, ↓dn_ald, ↓dn_gld, ↓dn_yld, ↓dn_len, ↓dn_gln, ↓dn_cc, ↓dn_cb, ↓dn_and, ↓dn_or, ↓dn_not, ↓dn_cite, ↓dn_ec, ↓dn_ei, ↓dn_skip, ↓dn_seq, ↓dn_set, ↓dn_inc, ↓dn_putf, ↓dn_putz, ↓dn_ast, ↓dn_exp, ↓dn_if, ↓dn_ret, ↓dn_retz, ↓dn_retv, ↓dn_brk, ↓dn_cont, ↓dn_cs, ↓dn_sw, ↓dn_pop32, ↓dn_pop64, ↓dn_aop, ↓dn_call, ↓dn_max, ↓dn_min, ↓dn_acp, ↓dn_i2l, ↓dn_args0, ↓dn_args1, og_pad, og_ent, og_rlt, og_rle, og_rgt, og_rge, og_req, og_rne, og_padd, og_psub, og_pmul, List.getD_cons_zero, List.getD_cons_succ, List.set_cons_zero, List.set_cons_succ, List.length_cons, List.length_nil, List.cons_append, List.nil_append, List.replicate, List.append_nil, Nat.reduceAdd, Nat.reduceSub, Nat.reduceEqDiff, if_true, if_false, reduceIte, Int.reduceAdd, Int.reduceSub, Int.reduceMul, Int.reduceNeg, Int.reduceLT, Int.reduceLE, Int.cast_ofNat_Int, true_or, or_true, true_and, and_true, false_and, List.mem_cons, List.not_mem_nil, or_false, false_or, ne_eq]
  unfold isBl at hK
  refine ⟨fun z => ?_, fun z => ⟨fun y => ?_, fun y => ?_⟩⟩
  · rw [if_pos (by simp [z])] at hK; first | exact hK | exact ⟨by decide, hK⟩
  · rw [if_pos (by simp [y])] at hK; first | exact hK | exact ⟨by decide, hK⟩
  · rw [if_neg (by simp [y, z])] at hK; first | exact hK | exact ⟨by decide, hK⟩
theorem k_isLetter {x : Int} (hK : K (if isL x = true then 1 else 0) h) : m_Tokens_isLetter [x] h K := by
  unfold m_Tokens_isLetter
  simp -implicitDefEqProofs only [↓dn_den, ↓dn_loc, ↓dn_k, ↓dn_add, ↓dn_sub, ↓dn_mul, ↓dn_div, ↓dn_rem, ↓dn_bop, ↓dn_ladd, ↓dn_lsub, ↓dn_lmul, ↓dn_ldiv, ↓dn_lrem, ↓dn_land, ↓dn_l2i, ↓dn_neg, ↓dn_get, ↓dn_fix, ↓dn_ald, ↓dn_gld, ↓dn_yld, ↓dn_len, ↓dn_gln, ↓dn_cc, ↓dn_cb, ↓dn_and, ↓dn_or, ↓dn_not, ↓dn_cite, ↓dn_ec, ↓dn_ei, ↓dn_skip, ↓dn_seq, ↓dn_set, ↓dn_inc, ↓dn_putf, ↓dn_putz, ↓dn_ast, ↓dn_exp, ↓dn_if, ↓dn_ret, ↓dn_retz, ↓dn_retv, ↓dn_brk, ↓dn_cont, ↓dn_cs, ↓dn_sw, ↓dn_pop32, ↓dn_pop64, ↓dn_aop, ↓dn_call, ↓dn_max, ↓dn_min, ↓dn_acp, ↓dn_i2l, ↓dn_args0, ↓dn_args1, og_pad, og_ent, og_rlt, og_rle, og_rgt, og_rge, og_req, og_rne, og_padd, og_psub, og_pmul, List.getD_cons_zero, List.getD_cons_succ, List.set_cons_zero, List.set_cons_succ, List.length_cons, List.length_nil, List.cons_append, List.nil_append, List.replicate, List.append_nil, Nat.reduceAdd, Nat.reduceSub, Nat.reduceEqDiff, if_true, if_false, reduceIte, Int.reduceAdd, Int.reduceSub, Int.reduceMul, Int.reduceNeg, Int.reduceLT, Int.reduceLE, Int.cast_ofNat_Int, true_or, or_true, true_and, and_true, false_and, List.mem_cons, List.not_mem_nil, or_false, false_or, ne_eq]
  unfold isL at hK
  refine ⟨fun z => ⟨fun y => ?_, fun y => ?_⟩, fun z => ?_⟩
  · rw [if_pos (by simp [y, z])] at hK; first | exact hK | exact ⟨by decide, hK⟩
  · rw [if_neg (by simp [y])] at hK; first | exact hK | exact ⟨by decide, hK⟩
  · rw [if_neg (by simp [z])] at hK; first | exact hK | exact ⟨by decide, hK⟩
theorem k_isDigit {x : Int} (hK : K (if isD x = true then 1 else 0) h) : m_Tokens_isDigit [x] h K := by
  unfold m_Tokens_isDigit
  simp -implicitDefEqProofs only [↓dn_den, ↓dn_loc, ↓dn_k, ↓dn_add, ↓dn_sub, ↓dn_mul, ↓dn_div, ↓dn_rem, ↓dn_bop, ↓dn_ladd, ↓dn_lsub, ↓dn_lmul, ↓dn_ldiv, ↓dn_lrem, ↓dn_land, ↓dn_l2i, ↓dn_neg, ↓dn_get, ↓dn_fix, ↓dn_ald, ↓dn_gld, ↓dn_yld, ↓dn_len, ↓dn_gln, ↓dn_cc, ↓dn_cb, ↓dn_and, ↓dn_or, ↓dn_not, ↓dn_cite, ↓dn_ec, ↓dn_ei, ↓dn_skip, ↓dn_seq, ↓dn_set, ↓dn_inc, ↓dn_putf, ↓dn_putz, ↓dn_ast, ↓dn_exp, ↓dn_if, ↓dn_ret, ↓dn_retz, ↓dn_retv, ↓dn_brk, ↓dn_cont, ↓dn_cs, ↓dn_sw, ↓dn_pop32, ↓dn_pop64, ↓dn_aop, ↓dn_call, ↓dn_max, ↓dn_min, ↓dn_acp, ↓dn_i2l, ↓dn_args0, ↓dn_args1, og_pad, og_ent, og_rlt, og_rle, og_rgt, og_rge, og_req, og_rne, og_padd, og_psub, og_pmul, List.getD_cons_zero, List.getD_cons_succ, List.set_cons_zero, List.set_cons_succ, List.length_cons, List.length_nil, List.cons_append, List.nil_append, List.replicate, List.append_nil, Nat.reduceAdd, Nat.reduceSub, Nat.reduceEqDiff, if_true, if_false, reduceIte, Int.reduceAdd, Int.reduceSub, Int.reduceMul, Int.reduceNeg, Int.reduceLT, Int.reduceLE, Int.cast_ofNat_Int, true_or, or_true, true_and, and_true, false_and, List.mem_cons, List.not_mem_nil, or_false, false_or, ne_eq]
  unfold isD at hK
  refine ⟨fun z => ⟨fun y => ?_, fun y => ?_⟩, fun z => ?_⟩
  · rw [if_pos (by simp [y, z])] at hK; first | exact hK | exact ⟨by decide, hK⟩
  · rw [if_neg (by simp [y])] at hK; first | exact hK | exact ⟨by decide, hK⟩
  · rw [if_neg (by simp [z])] at hK; first | exact hK | exact ⟨by decide, hK⟩
theorem k_wordNumber (ht : txC h B n) (hK : K (wNum (h 3 6)) h) : m_Tokens_wordNumber [3] h K := by
  unfold m_Tokens_wordNumber
  simp -implicitDefEqProofs only [↓dn_den, ↓dn_loc, ↓dn_k, ↓dn_add, ↓dn_sub, ↓dn_mul, ↓dn_div, ↓dn_rem, ↓dn_bop, ↓dn_ladd, ↓dn_lsub, ↓dn_lmul, ↓dn_ldiv, ↓dn_lrem, ↓dn_land, ↓dn_l2i, ↓dn_neg, ↓dn_get, ↓dn_fix, ↓dn_ald, ↓dn_gld, ↓dn_yld, ↓dn_len, ↓dn_gln, ↓dn_cc, ↓dn_cb, ↓dn_and, ↓dn_or, ↓dn_not, ↓dn_cite, ↓dn_ec, ↓dn_ei, ↓dn_skip, ↓dn_seq, ↓dn_set, ↓dn_inc, ↓dn_putf, ↓dn_putz, ↓dn_ast, ↓dn_exp, ↓dn_if, ↓dn_ret, ↓dn_retz, ↓dn_retv, ↓dn_brk, ↓dn_cont, ↓dn_cs, ↓dn_sw, ↓dn_pop32, ↓dn_pop64, ↓dn_aop, ↓dn_call, ↓dn_max, ↓dn_min, ↓dn_acp, ↓dn_i2l, ↓dn_args0, ↓dn_args1, og_pad, og_ent, og_rlt, og_rle, og_rgt, og_rge, og_req, og_rne, og_padd, og_psub, og_pmul, List.getD_cons_zero, List.getD_cons_succ, List.set_cons_zero, List.set_cons_succ, List.length_cons, List.length_nil, List.cons_append, List.nil_append, List.replicate, List.append_nil, Nat.reduceAdd, Nat.reduceSub, Nat.reduceEqDiff, if_true, if_false, reduceIte, Int.reduceAdd, Int.reduceSub, Int.reduceMul, Int.reduceNeg, Int.reduceLT, Int.reduceLE, Int.cast_ofNat_Int, true_or, or_true, true_and, and_true, false_and, List.mem_cons, List.not_mem_nil, or_false, false_or, ne_eq]
  refine ⟨fun e1 h1 => h1 = h ∧ ∀ m, m < 31 → ¬ spl.getD m 0 = h 3 6, ?_, ?_⟩
  · simp -implicitDefEqProofs only [↓dn_den, ↓dn_loc, ↓dn_k, ↓dn_add, ↓dn_sub, ↓dn_mul, ↓dn_div, ↓dn_rem, ↓dn_bop, ↓dn_ladd, ↓dn_lsub, ↓dn_lmul, ↓dn_ldiv, ↓dn_lrem, ↓dn_land, ↓dn_l2i, ↓dn_neg, ↓dn_get, ↓dn_fix, ↓dn_ald, ↓dn_gld, ↓dn_yld, ↓dn_len, ↓dn_gln, ↓dn_cc, ↓dn_cb, ↓dn_and, ↓dn_or, ↓dn_not, ↓dn_cite, ↓dn_ec, ↓dn_ei, ↓dn_skip, ↓dn_seq, ↓dn_set, ↓dn_inc, ↓dn_putf, ↓dn_putz, ↓dn_ast, ↓dn_exp, ↓dn_if, ↓dn_ret, ↓dn_retz, ↓dn_retv, ↓dn_brk, ↓dn_cont, ↓dn_cs, ↓dn_sw, ↓dn_pop32, ↓dn_pop64, ↓dn_aop, ↓dn_call, ↓dn_max, ↓dn_min, ↓dn_acp, ↓dn_i2l, ↓dn_args0, ↓dn_args1, og_pad, og_ent, og_rlt, og_rle, og_rgt, og_rge, og_req, og_rne, og_padd, og_psub, og_pmul, List.getD_cons_zero, List.getD_cons_succ, List.set_cons_zero, List.set_cons_succ, List.length_cons, List.length_nil, List.cons_append, List.nil_append, List.replicate, List.append_nil, Nat.reduceAdd, Nat.reduceSub, Nat.reduceEqDiff, if_true, if_false, reduceIte, Int.reduceAdd, Int.reduceSub, Int.reduceMul, Int.reduceNeg, Int.reduceLT, Int.reduceLE, Int.cast_ofNat_Int, true_or, or_true, true_and, and_true, false_and, List.mem_cons, List.not_mem_nil, or_false, false_or, ne_eq]
    refine og_loop 31 (fun i e1 h1 => h1 = h ∧ e1 = [3, (i : Int)] ∧ ∀ m, m < i → ¬ spl.getD m 0 = h 3 6) ⟨rfl, rfl, fun m hm => by omega⟩ ?_
    rintro i e1 h1 hi ⟨rfl, rfl, hno⟩
    simp -implicitDefEqProofs only [↓dn_den, ↓dn_loc, ↓dn_k, ↓dn_add, ↓dn_sub, ↓dn_mul, ↓dn_div, ↓dn_rem, ↓dn_bop, ↓dn_ladd, ↓dn_lsub, ↓dn_lmul, ↓dn_ldiv, ↓dn_lrem, ↓dn_land, ↓dn_l2i, ↓dn_neg, ↓dn_get, ↓dn_fix, ↓dn_ald, ↓dn_gld, ↓dn_yld, ↓dn_len, ↓dn_gln, ↓dn_cc, ↓dn_cb, ↓dn_and, ↓dn_or, ↓dn_not, ↓dn_cite, ↓dn_ec, ↓dn_ei, ↓dn_skip, ↓dn_seq, ↓dn_set, ↓dn_inc, ↓dn_putf, ↓dn_putz, ↓dn_ast, ↓dn_exp, ↓dn_if, ↓dn_ret, ↓dn_retz, ↓dn_retv, ↓dn_brk, ↓dn_cont, ↓dn_cs, ↓dn_sw, ↓dn_pop32, ↓dn_pop64, ↓dn_aop, ↓dn_call, ↓dn_max, ↓dn_min, ↓dn_acp, ↓dn_i2l, ↓dn_args0, ↓dn_args1, og_pad, og_ent, og_rlt, og_rle, og_rgt, og_rge, og_req, og_rne, og_padd, og_psub, og_pmul, List.getD_cons_zero, List.getD_cons_succ, List.set_cons_zero, List.set_cons_succ, List.length_cons, List.length_nil, List.cons_append, List.nil_append, List.replicate, List.append_nil, Nat.reduceAdd, Nat.reduceSub, Nat.reduceEqDiff, if_true, if_false, reduceIte, Int.reduceAdd, Int.reduceSub, Int.reduceMul, Int.reduceNeg, Int.reduceLT, Int.reduceLE, Int.cast_ofNat_Int, true_or, or_true, true_and, and_true, false_and, List.mem_cons, List.not_mem_nil, or_false, false_or, ne_eq, og_i32]
    refine ⟨fun hlt => ?_, fun hge => ?_⟩
    · rw [ht.2.1 i (by omega)]
      refine ⟨by omega, by omega, fun z => ?_, fun z => ⟨by omega, og_nx_mk (by omega) ⟨rfl, by simp, fun m hm => ?_⟩⟩⟩
      · rw [wNum_at (by omega) z hno] at hK; exact hK
      · by_cases e : m = i
        · subst e; exact z
        · exact hno m (by omega)
    · have e : i = 31 := by omega
      subst e
      first | exact ⟨rfl, hno⟩ | exact hno
  · rintro e1 h1 ⟨rfl, hno⟩
    simp -implicitDefEqProofs only [↓dn_den, ↓dn_loc, ↓dn_k, ↓dn_add, ↓dn_sub, ↓dn_mul, ↓dn_div, ↓dn_rem, ↓dn_bop, ↓dn_ladd, ↓dn_lsub, ↓dn_lmul, ↓dn_ldiv, ↓dn_lrem, ↓dn_land, ↓dn_l2i, ↓dn_neg, ↓dn_get, ↓dn_fix, ↓dn_ald, ↓dn_gld, ↓dn_yld, ↓dn_len, ↓dn_gln, ↓dn_cc, ↓dn_cb, ↓dn_and, ↓dn_or, ↓dn_not, ↓dn_cite, ↓dn_ec, ↓dn_ei, ↓dn_skip, ↓dn_seq, ↓dn_set, ↓dn_inc, ↓dn_putf, ↓dn_putz, ↓dn_ast, ↓dn_exp, ↓dn_if, ↓dn_ret, ↓dn_retz, ↓dn_retv, ↓dn_brk, ↓dn_cont, ↓dn_cs, ↓dn_sw, ↓dn_pop32, ↓dn_pop64, ↓dn_aop, ↓dn_call, ↓dn_max, ↓dn_min, ↓dn_acp, ↓dn_i2l, ↓dn_args0, ↓dn_args1, og_pad, og_ent, og_rlt, og_rle, og_rgt, og_rge, og_req, og_rne, og_padd, og_psub, og_pmul, List.getD_cons_zero, List.getD_cons_succ, List.set_cons_zero, List.set_cons_succ, List.length_cons, List.length_nil, List.cons_append, List.nil_append, List.replicate, List.append_nil, Nat.reduceAdd, Nat.reduceSub, Nat.reduceEqDiff, if_true, if_false, reduceIte, Int.reduceAdd, Int.reduceSub, Int.reduceMul, Int.reduceNeg, Int.reduceLT, Int.reduceLE, Int.cast_ofNat_Int, true_or, or_true, true_and, and_true, false_and, List.mem_cons, List.not_mem_nil, or_false, false_or, ne_eq]
    rw [wNum_no hno] at hK
    exact hK
theorem k_readWord {s : Int} (ht : txC h B n) (h0 : 0 ≤ s ∧ s < n) (h1 : h 3 1 = s) (h3 : h 3 3 = s)
    (hK : ∀ h', h' 3 1 = tLe B n s → h' 3 3 = s → h' 3 4 = tLe B n s - s → h' 3 6 = wV B s (min (tLe B n s - s).toNat 6) * p27 (6 - min (tLe B n s - s).toNat 6) → h' 3 5 = (if tLe B n s - s ≤ 6 then wNum (wV B s (min (tLe B n s - s).toNat 6) * p27 (6 - min (tLe B n s - s).toNat 6)) else -1) → h' 3 2 = (if isD (bt B n (s - 1)) = true then 4 else 1) → h' 3 7 = h 3 7 → h' 3 8 = h 3 8 → (∀ i k, i ≠ 3 → h' i k = h i k) → K 0 h') : m_Tokens_readWord [3] h K := by
  have sp := rn_sp (fun k => isL (B k)) n s
  have le : tLe B n s ≤ n := rn_le (by omega)
  have hn := ht.2.2
  obtain ⟨L, hL⟩ : ∃ L : Nat, tLe B n s = s + L := ⟨(tLe B n s - s).toNat, by unfold tLe at *; omega⟩
  have eL : (tLe B n s - s).toNat = L := by omega
  have eL2 : tLe B n s - s = L := by omega
  rw [eL2] at hK
  rw [Int.toNat_natCast] at hK
  have hrun : ∀ k, s ≤ k → k < s + L → k < n ∧ isL (B k) = true := fun k a b => sp.2.1 k a (by rw [show rn (fun k => isL (B k)) n s = tLe B n s from rfl]; omega)
  have hend : ¬ (s + (L : Int) < n ∧ isL (B (s + L)) = true) := by
    have := sp.2.2
    rw [show rn (fun k => isL (B k)) n s = tLe B n s from rfl, hL] at this
    exact this
  have vr : ∀ k : Nat, k ≤ min L 6 → 0 ≤ wV B s k ∧ wV B s k < 387420489 := by
    intro k hk
    have r := wV_rg (B := B) (s := s) k (fun j hj => (hrun (s + j) (by omega) (by omega)).2)
    have p := p27_bd k (by omega)
    omega
  have fr : ∀ {h1 : Hp}, (∀ i k, i ≠ 3 → h1 i k = h i k) → txC h1 B n := fun hf => txC_fr ht (fun i k hi => hf i k (by omega))
  unfold m_Tokens_readWord
  simp -implicitDefEqProofs only [↓dn_den, ↓dn_loc, ↓dn_k, ↓dn_add, ↓dn_sub, ↓dn_mul, ↓dn_div, ↓dn_rem, ↓dn_bop, ↓dn_ladd, ↓dn_lsub, ↓dn_lmul, ↓dn_ldiv, ↓dn_lrem, ↓dn_land, ↓dn_l2i, ↓dn_neg, ↓dn_get, ↓dn_fix, ↓dn_ald, ↓dn_gld, ↓dn_yld, ↓dn_len, ↓dn_gln, ↓dn_cc, ↓dn_cb, ↓dn_and, ↓dn_or, ↓dn_not, ↓dn_cite, ↓dn_ec, ↓dn_ei, ↓dn_skip, ↓dn_seq, ↓dn_set, ↓dn_inc, ↓dn_putf, ↓dn_putz, ↓dn_ast, ↓dn_exp, ↓dn_if, ↓dn_ret, ↓dn_retz, ↓dn_retv, ↓dn_brk, ↓dn_cont, ↓dn_cs, ↓dn_sw, ↓dn_pop32, ↓dn_pop64, ↓dn_aop, ↓dn_call, ↓dn_max, ↓dn_min, ↓dn_acp, ↓dn_i2l, ↓dn_args0, ↓dn_args1, og_pad, og_ent, og_rlt, og_rle, og_rgt, og_rge, og_req, og_rne, og_padd, og_psub, og_pmul, List.getD_cons_zero, List.getD_cons_succ, List.set_cons_zero, List.set_cons_succ, List.length_cons, List.length_nil, List.cons_append, List.nil_append, List.replicate, List.append_nil, Nat.reduceAdd, Nat.reduceSub, Nat.reduceEqDiff, if_true, if_false, reduceIte, Int.reduceAdd, Int.reduceSub, Int.reduceMul, Int.reduceNeg, Int.reduceLT, Int.reduceLE, Int.cast_ofNat_Int, true_or, or_true, true_and, and_true, false_and, List.mem_cons, List.not_mem_nil, or_false, false_or, ne_eq]
  refine ⟨fun e2 h2 => e2 = [3, 0] ∧ h2 3 1 = s + L ∧ h2 3 3 = s ∧ h2 3 6 = wV B s (min L 6) ∧ h2 3 7 = h 3 7 ∧ h2 3 8 = h 3 8 ∧ (∀ i k, i ≠ 3 → h2 i k = h i k), ?_, ?_⟩
  · refine og_loop L (fun i e2 h2 => e2 = [3, 0] ∧ h2 3 1 = s + i ∧ h2 3 3 = s ∧ h2 3 6 = wV B s (min i 6) ∧ h2 3 7 = h 3 7 ∧ h2 3 8 = h 3 8 ∧ (∀ i k, i ≠ 3 → h2 i k = h i k)) ⟨rfl, by rw [og_up_k (by decide), h1]; omega, by rw [og_up_k (by decide)]; exact h3, by rw [og_up_eq]; rfl, by rw [og_up_k (by decide)], by rw [og_up_k (by decide)], fun i k hi => og_up_i hi⟩ ?_
    rintro i e2 h2 hi ⟨rfl, v1, v3, v6, v7, v8, hf⟩
    simp -implicitDefEqProofs only [↓dn_den, ↓dn_loc, ↓dn_k, ↓dn_add, ↓dn_sub, ↓dn_mul, ↓dn_div, ↓dn_rem, ↓dn_bop, ↓dn_ladd, ↓dn_lsub, ↓dn_lmul, ↓dn_ldiv, ↓dn_lrem, ↓dn_land, ↓dn_l2i, ↓dn_neg, ↓dn_get, ↓dn_fix, ↓dn_ald, ↓dn_gld, ↓dn_yld, ↓dn_len, ↓dn_gln, ↓dn_cc, ↓dn_cb, ↓dn_and, ↓dn_or, ↓dn_not, ↓dn_cite, ↓dn_ec, ↓dn_ei, ↓dn_skip, ↓dn_seq, ↓dn_set, ↓dn_inc, ↓dn_putf, ↓dn_putz, ↓dn_ast, ↓dn_exp, ↓dn_if, ↓dn_ret, ↓dn_retz, ↓dn_retv, ↓dn_brk, ↓dn_cont, ↓dn_cs, ↓dn_sw, ↓dn_pop32, ↓dn_pop64, ↓dn_aop, ↓dn_call, ↓dn_max, ↓dn_min, ↓dn_acp, ↓dn_i2l, ↓dn_args0, ↓dn_args1, og_pad, og_ent, og_rlt, og_rle, og_rgt, og_rge, og_req, og_rne, og_padd, og_psub, og_pmul, List.getD_cons_zero, List.getD_cons_succ, List.set_cons_zero, List.set_cons_succ, List.length_cons, List.length_nil, List.cons_append, List.nil_append, List.replicate, List.append_nil, Nat.reduceAdd, Nat.reduceSub, Nat.reduceEqDiff, if_true, if_false, reduceIte, Int.reduceAdd, Int.reduceSub, Int.reduceMul, Int.reduceNeg, Int.reduceLT, Int.reduceLE, Int.cast_ofNat_Int, true_or, or_true, true_and, and_true, false_and, List.mem_cons, List.not_mem_nil, or_false, false_or, ne_eq, og_i32]
    have ht2 := fr hf
    rw [v1, ht2.1.1]
    by_cases hiL : i < L
    · have hr := hrun (s + i) (by omega) (by omega)
      refine ⟨fun _ => ?_, fun z => by omega⟩
      refine k_at ht2 ?_
      rw [bt_in (by omega) hr.1]
      refine k_isLetter ⟨fun _ => ?_, fun z => absurd hr.2 (by have := ite00 z; rw [this]; decide)⟩
      refine ⟨fun e3 h3' => e3 = [3, 0] ∧ h3' 3 1 = s + i ∧ h3' 3 3 = s ∧ h3' 3 6 = wV B s (min (i + 1) 6) ∧ h3' 3 7 = h 3 7 ∧ h3' 3 8 = h 3 8 ∧ (∀ i k, i ≠ 3 → h3' i k = h i k), ?_, ?_⟩
      · simp -implicitDefEqProofs only [↓dn_den, ↓dn_loc, ↓dn_k, ↓dn_add, ↓dn_sub, ↓dn_mul, ↓dn_div, ↓dn_rem, ↓dn_bop, ↓dn_ladd, ↓dn_lsub, ↓dn_lmul, ↓dn_ldiv, ↓dn_lrem, ↓dn_land, ↓dn_l2i, ↓dn_neg, ↓dn_get, ↓dn_fix, ↓dn_ald, ↓dn_gld, ↓dn_yld, ↓dn_len, ↓dn_gln, ↓dn_cc, ↓dn_cb, ↓dn_and, ↓dn_or, ↓dn_not, ↓dn_cite, ↓dn_ec, ↓dn_ei, ↓dn_skip, ↓dn_seq, ↓dn_set, ↓dn_inc, ↓dn_putf, ↓dn_putz, ↓dn_ast, ↓dn_exp, ↓dn_if, ↓dn_ret, ↓dn_retz, ↓dn_retv, ↓dn_brk, ↓dn_cont, ↓dn_cs, ↓dn_sw, ↓dn_pop32, ↓dn_pop64, ↓dn_aop, ↓dn_call, ↓dn_max, ↓dn_min, ↓dn_acp, ↓dn_i2l, ↓dn_args0, ↓dn_args1, og_pad, og_ent, og_rlt, og_rle, og_rgt, og_rge, og_req, og_rne, og_padd, og_psub, og_pmul, List.getD_cons_zero, List.getD_cons_succ, List.set_cons_zero, List.set_cons_succ, List.length_cons, List.length_nil, List.cons_append, List.nil_append, List.replicate, List.append_nil, Nat.reduceAdd, Nat.reduceSub, Nat.reduceEqDiff, if_true, if_false, reduceIte, Int.reduceAdd, Int.reduceSub, Int.reduceMul, Int.reduceNeg, Int.reduceLT, Int.reduceLE, Int.cast_ofNat_Int, true_or, or_true, true_and, and_true, false_and, List.mem_cons, List.not_mem_nil, or_false, false_or, ne_eq, og_i32]
        rw [v1, v3]
        refine ⟨by omega, fun hlt => ?_, fun hge => ?_⟩
        · refine ⟨?_, k_at ht2 ?_⟩
          · have r0 := wV_rg (B := B) (s := s) i (fun j hj => (hrun (s + j) (by omega) (by omega)).2)
            have p0 := p27_b5 i (by omega)
            have m0 : min i 6 = i := by omega
            rw [v6, m0]; omega
          rw [bt_in (by omega) hr.1, v6]
          have m1 : min i 6 = i := by omega
          have m2 : min (i + 1) 6 = i + 1 := by omega
          have r1 := vr i (by omega)
          have r2 := vr (i + 1) (by omega)
          have hl := hr.2
          unfold isL at hl
          simp only [Bool.and_eq_true, decide_eq_true_eq] at hl
          rw [m1, m2]
          rw [wV_s] at r2
          have ev : 27 * wV B s i + B (s + i) - 97 + 1 = wV B s (i + 1) := by rw [wV_s]; omega
          rw [ev]
          have r3 := vr (i + 1) (by omega)
          refine ⟨by omega, by omega, by omega, by rw [og_up_k (by decide)]; exact v1, by rw [og_up_k (by decide)]; exact v3, by rw [og_up_eq], by rw [og_up_k (by decide)]; exact v7, by rw [og_up_k (by decide)]; exact v8, fun j k hj => by rw [og_up_i hj]; exact hf j k hj⟩
        · have m1 : min i 6 = 6 := by omega
          have m2 : min (i + 1) 6 = 6 := by omega
          rw [m1] at v6
          rw [m2]
          exact ⟨rfl, rfl, v6, v7, v8, hf⟩
      · rintro e3 h3' ⟨rfl, u1, u3, u6, u7, u8, hf3⟩
        simp -implicitDefEqProofs only [↓dn_den, ↓dn_loc, ↓dn_k, ↓dn_add, ↓dn_sub, ↓dn_mul, ↓dn_div, ↓dn_rem, ↓dn_bop, ↓dn_ladd, ↓dn_lsub, ↓dn_lmul, ↓dn_ldiv, ↓dn_lrem, ↓dn_land, ↓dn_l2i, ↓dn_neg, ↓dn_get, ↓dn_fix, ↓dn_ald, ↓dn_gld, ↓dn_yld, ↓dn_len, ↓dn_gln, ↓dn_cc, ↓dn_cb, ↓dn_and, ↓dn_or, ↓dn_not, ↓dn_cite, ↓dn_ec, ↓dn_ei, ↓dn_skip, ↓dn_seq, ↓dn_set, ↓dn_inc, ↓dn_putf, ↓dn_putz, ↓dn_ast, ↓dn_exp, ↓dn_if, ↓dn_ret, ↓dn_retz, ↓dn_retv, ↓dn_brk, ↓dn_cont, ↓dn_cs, ↓dn_sw, ↓dn_pop32, ↓dn_pop64, ↓dn_aop, ↓dn_call, ↓dn_max, ↓dn_min, ↓dn_acp, ↓dn_i2l, ↓dn_args0, ↓dn_args1, og_pad, og_ent, og_rlt, og_rle, og_rgt, og_rge, og_req, og_rne, og_padd, og_psub, og_pmul, List.getD_cons_zero, List.getD_cons_succ, List.set_cons_zero, List.set_cons_succ, List.length_cons, List.length_nil, List.cons_append, List.nil_append, List.replicate, List.append_nil, Nat.reduceAdd, Nat.reduceSub, Nat.reduceEqDiff, if_true, if_false, reduceIte, Int.reduceAdd, Int.reduceSub, Int.reduceMul, Int.reduceNeg, Int.reduceLT, Int.reduceLE, Int.cast_ofNat_Int, true_or, or_true, true_and, and_true, false_and, List.mem_cons, List.not_mem_nil, or_false, false_or, ne_eq, og_i32]
        rw [u1]
        refine ⟨by omega, og_nx_mk hiL ⟨rfl, by rw [og_up_eq]; omega, by rw [og_up_k (by decide)]; exact u3, by rw [og_up_k (by decide)]; exact u6, by rw [og_up_k (by decide)]; exact u7, by rw [og_up_k (by decide)]; exact u8, fun j k hj => by rw [og_up_i hj]; exact hf3 j k hj⟩⟩
    · have e : i = L := by omega
      subst e
      refine ⟨fun hlt => ?_, fun _ => ⟨rfl, v3, v6, v7, v8, hf⟩⟩
      refine k_at ht2 ?_
      rw [bt_in (by omega) hlt]
      refine k_isLetter ⟨fun z => absurd ⟨hlt, ite10 z⟩ hend, fun _ => ⟨v1, v3, v6, v7, v8, hf⟩⟩
  · rintro e2 h2 ⟨rfl, v1, v3, v6, v7, v8, hf⟩
    simp -implicitDefEqProofs only [↓dn_den, ↓dn_loc, ↓dn_k, ↓dn_add, ↓dn_sub, ↓dn_mul, ↓dn_div, ↓dn_rem, ↓dn_bop, ↓dn_ladd, ↓dn_lsub, ↓dn_lmul, ↓dn_ldiv, ↓dn_lrem, ↓dn_land, ↓dn_l2i, ↓dn_neg, ↓dn_get, ↓dn_fix, ↓dn_ald, ↓dn_gld, ↓dn_yld, ↓dn_len, ↓dn_gln, ↓dn_cc, ↓dn_cb, ↓dn_and, ↓dn_or, ↓dn_not, ↓dn_cite, ↓dn_ec, ↓dn_ei, ↓dn_skip, ↓dn_seq, ↓dn_set, ↓dn_inc, ↓dn_putf, ↓dn_putz, ↓dn_ast, ↓dn_exp, ↓dn_if, ↓dn_ret, ↓dn_retz, ↓dn_retv, ↓dn_brk, ↓dn_cont, ↓dn_cs, ↓dn_sw, ↓dn_pop32, ↓dn_pop64, ↓dn_aop, ↓dn_call, ↓dn_max, ↓dn_min, ↓dn_acp, ↓dn_i2l, ↓dn_args0, ↓dn_args1, og_pad, og_ent, og_rlt, og_rle, og_rgt, og_rge, og_req, og_rne, og_padd, og_psub, og_pmul, List.getD_cons_zero, List.getD_cons_succ, List.set_cons_zero, List.set_cons_succ, List.length_cons, List.length_nil, List.cons_append, List.nil_append, List.replicate, List.append_nil, Nat.reduceAdd, Nat.reduceSub, Nat.reduceEqDiff, if_true, if_false, reduceIte, Int.reduceAdd, Int.reduceSub, Int.reduceMul, Int.reduceNeg, Int.reduceLT, Int.reduceLE, Int.cast_ofNat_Int, true_or, or_true, true_and, and_true, false_and, List.mem_cons, List.not_mem_nil, or_false, false_or, ne_eq, og_i32]
    rw [v1, v3]
    have es : s + (L : Int) - s = L := by omega
    rw [es]
    refine ⟨by omega, ?_⟩
    refine ⟨fun e4 h4 => (∃ c1, e4 = [3, c1]) ∧ h4 3 1 = s + L ∧ h4 3 3 = s ∧ h4 3 4 = L ∧ h4 3 6 = wV B s (min L 6) * p27 (6 - min L 6) ∧ h4 3 7 = h 3 7 ∧ h4 3 8 = h 3 8 ∧ (∀ i k, i ≠ 3 → h4 i k = h i k), ?_, ?_⟩
    · simp -implicitDefEqProofs only [↓dn_den, ↓dn_loc, ↓dn_k, ↓dn_add, ↓dn_sub, ↓dn_mul, ↓dn_div, ↓dn_rem, ↓dn_bop, ↓dn_ladd, ↓dn_lsub, ↓dn_lmul, ↓dn_ldiv, ↓dn_lrem, ↓dn_land, ↓dn_l2i, ↓dn_neg, ↓dn_get, ↓dn_fix, ↓dn_ald, ↓dn_gld, ↓dn_yld, ↓dn_len, ↓dn_gln, ↓dn_cc, ↓dn_cb, ↓dn_and, ↓dn_or, ↓dn_not, ↓dn_cite, ↓dn_ec, ↓dn_ei, ↓dn_skip, ↓dn_seq, ↓dn_set, ↓dn_inc, ↓dn_putf, ↓dn_putz, ↓dn_ast, ↓dn_exp, ↓dn_if, ↓dn_ret, ↓dn_retz, ↓dn_retv, ↓dn_brk, ↓dn_cont, ↓dn_cs, ↓dn_sw, ↓dn_pop32, ↓dn_pop64, ↓dn_aop, ↓dn_call, ↓dn_max, ↓dn_min, ↓dn_acp, ↓dn_i2l, ↓dn_args0, ↓dn_args1, og_pad, og_ent, og_rlt, og_rle, og_rgt, og_rge, og_req, og_rne, og_padd, og_psub, og_pmul, List.getD_cons_zero, List.getD_cons_succ, List.set_cons_zero, List.set_cons_succ, List.length_cons, List.length_nil, List.cons_append, List.nil_append, List.replicate, List.append_nil, Nat.reduceAdd, Nat.reduceSub, Nat.reduceEqDiff, if_true, if_false, reduceIte, Int.reduceAdd, Int.reduceSub, Int.reduceMul, Int.reduceNeg, Int.reduceLT, Int.reduceLE, Int.cast_ofNat_Int, true_or, or_true, true_and, and_true, false_and, List.mem_cons, List.not_mem_nil, or_false, false_or, ne_eq]
      rw [og_up_eq]
      refine og_loop (6 - min L 6) (fun i e4 h4 => e4 = [3, (L : Int) + i] ∧ h4 3 1 = s + L ∧ h4 3 3 = s ∧ h4 3 4 = L ∧ h4 3 6 = wV B s (min L 6) * p27 i ∧ h4 3 7 = h 3 7 ∧ h4 3 8 = h 3 8 ∧ (∀ i k, i ≠ 3 → h4 i k = h i k)) ⟨by simp, by rw [og_up_k (by decide)]; exact v1, by rw [og_up_k (by decide)]; exact v3, by rw [og_up_eq], by rw [og_up_k (by decide), v6]; simp [p27], by rw [og_up_k (by decide)]; exact v7, by rw [og_up_k (by decide)]; exact v8, fun j k hj => by rw [og_up_i hj]; exact hf j k hj⟩ ?_
      rintro i e4 h4 hi ⟨rfl, u1, u3, u4, u6, u7, u8, hf4⟩
      simp -implicitDefEqProofs only [↓dn_den, ↓dn_loc, ↓dn_k, ↓dn_add, ↓dn_sub, ↓dn_mul, ↓dn_div, ↓dn_rem, ↓dn_bop, ↓dn_ladd, ↓dn_lsub, ↓dn_lmul, ↓dn_ldiv, ↓dn_lrem, ↓dn_land, ↓dn_l2i, ↓dn_neg, ↓dn_get, ↓dn_fix, ↓dn_ald, ↓dn_gld, ↓dn_yld, ↓dn_len, ↓dn_gln, ↓dn_cc, ↓dn_cb, ↓dn_and, ↓dn_or, ↓dn_not, ↓dn_cite, ↓dn_ec, ↓dn_ei, ↓dn_skip, ↓dn_seq, ↓dn_set, ↓dn_inc, ↓dn_putf, ↓dn_putz, ↓dn_ast, ↓dn_exp, ↓dn_if, ↓dn_ret, ↓dn_retz, ↓dn_retv, ↓dn_brk, ↓dn_cont, ↓dn_cs, ↓dn_sw, ↓dn_pop32, ↓dn_pop64, ↓dn_aop, ↓dn_call, ↓dn_max, ↓dn_min, ↓dn_acp, ↓dn_i2l, ↓dn_args0, ↓dn_args1, og_pad, og_ent, og_rlt, og_rle, og_rgt, og_rge, og_req, og_rne, og_padd, og_psub, og_pmul, List.getD_cons_zero, List.getD_cons_succ, List.set_cons_zero, List.set_cons_succ, List.length_cons, List.length_nil, List.cons_append, List.nil_append, List.replicate, List.append_nil, Nat.reduceAdd, Nat.reduceSub, Nat.reduceEqDiff, if_true, if_false, reduceIte, Int.reduceAdd, Int.reduceSub, Int.reduceMul, Int.reduceNeg, Int.reduceLT, Int.reduceLE, Int.cast_ofNat_Int, true_or, or_true, true_and, and_true, false_and, List.mem_cons, List.not_mem_nil, or_false, false_or, ne_eq, og_i32]
      refine ⟨fun hlt => ?_, fun hge => ?_⟩
      · have m1 : min L 6 = L := by omega
        have r := wV_rg (B := B) (s := s) L (fun j hj => (hrun (s + j) (by omega) (by omega)).2)
        have hp : wV B s L * p27 (i + 1) ≤ 387420489 ∧ 0 ≤ wV B s L * p27 (i + 1) := by
          have c : ∀ L, L < 6 → ∀ i, i < 6 - L → p27 L * p27 (i + 1) ≤ 387420489 := by decide
          have c1 := c L (by omega) i (by omega)
          have p0 := p27_bd (i + 1) (by omega)
          exact ⟨Int.le_trans (Int.mul_le_mul_of_nonneg_right (by omega) (by omega)) c1, Int.mul_nonneg r.1 (by omega)⟩
        rw [p27_s, ← Int.mul_assoc] at hp
        rw [u6, m1]
        refine ⟨by omega, by omega, og_nx_mk (by omega) ⟨by simp; omega, by rw [og_up_k (by decide)]; exact u1, by rw [og_up_k (by decide)]; exact u3, by rw [og_up_k (by decide)]; exact u4, by rw [og_up_eq, p27_s, ← Int.mul_assoc], by rw [og_up_k (by decide)]; exact u7, by rw [og_up_k (by decide)]; exact u8, fun j k hj => by rw [og_up_i hj]; exact hf4 j k hj⟩⟩
      · have e : i = 6 - min L 6 := by omega
        subst e
        exact ⟨⟨_, rfl⟩, u1, u3, u4, u6, u7, u8, hf4⟩
    · rintro e4 h4 ⟨⟨c1, rfl⟩, u1, u3, u4, u6, u7, u8, hf4⟩
      simp -implicitDefEqProofs only [↓dn_den, ↓dn_loc, ↓dn_k, ↓dn_add, ↓dn_sub, ↓dn_mul, ↓dn_div, ↓dn_rem, ↓dn_bop, ↓dn_ladd, ↓dn_lsub, ↓dn_lmul, ↓dn_ldiv, ↓dn_lrem, ↓dn_land, ↓dn_l2i, ↓dn_neg, ↓dn_get, ↓dn_fix, ↓dn_ald, ↓dn_gld, ↓dn_yld, ↓dn_len, ↓dn_gln, ↓dn_cc, ↓dn_cb, ↓dn_and, ↓dn_or, ↓dn_not, ↓dn_cite, ↓dn_ec, ↓dn_ei, ↓dn_skip, ↓dn_seq, ↓dn_set, ↓dn_inc, ↓dn_putf, ↓dn_putz, ↓dn_ast, ↓dn_exp, ↓dn_if, ↓dn_ret, ↓dn_retz, ↓dn_retv, ↓dn_brk, ↓dn_cont, ↓dn_cs, ↓dn_sw, ↓dn_pop32, ↓dn_pop64, ↓dn_aop, ↓dn_call, ↓dn_max, ↓dn_min, ↓dn_acp, ↓dn_i2l, ↓dn_args0, ↓dn_args1, og_pad, og_ent, og_rlt, og_rle, og_rgt, og_rge, og_req, og_rne, og_padd, og_psub, og_pmul, List.getD_cons_zero, List.getD_cons_succ, List.set_cons_zero, List.set_cons_succ, List.length_cons, List.length_nil, List.cons_append, List.nil_append, List.replicate, List.append_nil, Nat.reduceAdd, Nat.reduceSub, Nat.reduceEqDiff, if_true, if_false, reduceIte, Int.reduceAdd, Int.reduceSub, Int.reduceMul, Int.reduceNeg, Int.reduceLT, Int.reduceLE, Int.cast_ofNat_Int, true_or, or_true, true_and, and_true, false_and, List.mem_cons, List.not_mem_nil, or_false, false_or, ne_eq, og_i32]
      have ht4 := fr hf4
      have fin : ∀ v : Int, v = (if (L : Int) ≤ 6 then wNum (wV B s (min L 6) * p27 (6 - min L 6)) else -1) → (-2147483648 ≤ og_up h4 3 5 v 3 3 - 1 ∧ og_up h4 3 5 v 3 3 - 1 ≤ 2147483647) ∧ m_Tape_at [1, og_up h4 3 5 v 3 3 - 1] (og_up h4 3 5 v) (fun x h5 => m_Tokens_isDigit [x] h5 (fun x h6 => (¬ x = 0 → K 0 (og_up h6 3 2 4)) ∧ (x = 0 → K 0 (og_up h6 3 2 1)))) := by
        intro v hv
        have f5 : ∀ i k, i ≠ 3 → og_up h4 3 5 v i k = h i k := fun i k hi => by rw [og_up_i hi]; exact hf4 i k hi
        have e3 : og_up h4 3 5 v 3 3 = s := by rw [og_up_k (by decide)]; exact u3
        rw [e3]
        refine ⟨by omega, k_at (fr f5) (k_isDigit ?_)⟩
        have last : ∀ w : Int, w = (if isD (bt B n (s - 1)) = true then 4 else 1) → K 0 (og_up (og_up h4 3 5 v) 3 2 w) := by
          intro w hw
          refine hK _ ?_ ?_ ?_ ?_ ?_ ?_ ?_ ?_ ?_
          · rw [og_up_k (by decide), og_up_k (by decide), hL]; exact u1
          · rw [og_up_k (by decide), og_up_k (by decide)]; exact u3
          · rw [og_up_k (by decide), og_up_k (by decide)]; exact u4
          · rw [og_up_k (by decide), og_up_k (by decide)]; exact u6
          · rw [og_up_k (by decide), og_up_eq]; exact hv
          · rw [og_up_eq]; exact hw
          · rw [og_up_k (by decide), og_up_k (by decide)]; exact u7
          · rw [og_up_k (by decide), og_up_k (by decide)]; exact u8
          · exact fun i k hi => by rw [og_up_i hi]; exact f5 i k hi
        refine ⟨fun z => last _ (by rw [if_pos (ite10 z)]), fun z => last _ (by rw [if_neg (by rw [ite00 z]; decide)])⟩
      rw [u4]
      refine ⟨fun z => ?_, fun z => ?_⟩
      · refine k_wordNumber ht4 ?_
        rw [u6]
        exact fin _ (by rw [if_pos z])
      · exact fin _ (by rw [if_neg z])
end
end
