section
-- the class's tokens, second part
section
variable {h h0 h' : Hp} {B : Int → Int} {n a : Int} {K : Int → Hp → Prop}
theorem k_readNumber {s : Int} (ht : txC h B n) (h0 : 0 ≤ s ∧ s < n) (h1 : h 3 1 = s) (h3 : h 3 3 = s)
    (hK : ∀ h', h' 3 1 = tDe B n s → h' 3 3 = s → h' 3 4 = tDe B n s - s → h' 3 5 = dV B s (min (tDe B n s - s).toNat 4) → h' 3 2 = (if isL (bt B n (s - 1)) = true then 4 else 2) → h' 3 7 = h 3 7 → h' 3 8 = h 3 8 → (∀ i k, i ≠ 3 → h' i k = h i k) → K 0 h') : m_Tokens_readNumber [3] h K := by
  have sp := rn_sp (fun k => isD (B k)) n s
  have le : tDe B n s ≤ n := rn_le (by omega)
  have hn := ht.2.2
  obtain ⟨L, hL⟩ : ∃ L : Nat, tDe B n s = s + L := ⟨(tDe B n s - s).toNat, by unfold tDe at *; omega⟩
  have eL2 : tDe B n s - s = L := by omega
  rw [eL2] at hK
  rw [Int.toNat_natCast] at hK
  have hrun : ∀ k, s ≤ k → k < s + L → k < n ∧ isD (B k) = true := fun k a b => sp.2.1 k a (by rw [show rn (fun k => isD (B k)) n s = tDe B n s from rfl]; omega)
  have hend : ¬ (s + (L : Int) < n ∧ isD (B (s + L)) = true) := by
    have := sp.2.2
    rw [show rn (fun k => isD (B k)) n s = tDe B n s from rfl, hL] at this
    exact this
  have vr : ∀ k : Nat, k ≤ min L 4 → 0 ≤ dV B s k ∧ dV B s k ≤ 9999 := fun k hk => dV_rg k (by omega) (fun j hj => (hrun (s + j) (by omega) (by omega)).2)
  have fr : ∀ {h1 : Hp}, (∀ i k, i ≠ 3 → h1 i k = h i k) → txC h1 B n := fun hf => txC_fr ht (fun i k hi => hf i k (by omega))
  unfold m_Tokens_readNumber
  simp -implicitDefEqProofs only [↓dn_den, ↓dn_loc, ↓dn_k, ↓dn_add, ↓dn_sub, ↓dn_mul, ↓dn_div, ↓dn_rem, ↓dn_bop, ↓dn_ladd, ↓dn_lsub, ↓dn_lmul, ↓dn_ldiv, ↓dn_lrem, ↓dn_land, ↓dn_l2i, ↓dn_neg, ↓dn_get, ↓dn_fix, ↓dn_ald, ↓dn_gld, ↓dn_yld, ↓dn_len, ↓dn_gln, ↓dn_cc, ↓dn_cb, ↓dn_and, ↓dn_or, ↓dn_not, ↓dn_cite, ↓dn_ec, ↓dn_ei, ↓dn_skip, ↓dn_seq, ↓dn_set, ↓dn_inc, ↓dn_putf, ↓dn_putz, ↓dn_ast, ↓dn_exp, ↓dn_if, ↓dn_ret, ↓dn_retz, ↓dn_retv, ↓dn_brk, ↓dn_cont, ↓dn_cs, ↓dn_sw, ↓dn_pop32, ↓dn_pop64, ↓dn_aop, ↓dn_call, ↓dn_max, ↓dn_min, ↓dn_acp, ↓dn_i2l, ↓dn_args0, ↓dn_args1, og_pad, og_ent, og_rlt, og_rle, og_rgt, og_rge, og_req, og_rne, og_padd, og_psub, og_pmul, List.getD_cons_zero, List.getD_cons_succ, List.set_cons_zero, List.set_cons_succ, List.length_cons, List.length_nil, List.cons_append, List.nil_append, List.replicate, List.append_nil, Nat.reduceAdd, Nat.reduceSub, Nat.reduceEqDiff, if_true, if_false, reduceIte, Int.reduceAdd, Int.reduceSub, Int.reduceMul, Int.reduceNeg, Int.reduceLT, Int.reduceLE, Int.cast_ofNat_Int, true_or, or_true, true_and, and_true, false_and, List.mem_cons, List.not_mem_nil, or_false, false_or, ne_eq]
  refine ⟨fun e2 h2 => e2 = [3] ∧ h2 3 1 = s + L ∧ h2 3 3 = s ∧ h2 3 5 = dV B s (min L 4) ∧ h2 3 7 = h 3 7 ∧ h2 3 8 = h 3 8 ∧ (∀ i k, i ≠ 3 → h2 i k = h i k), ?_, ?_⟩
  · refine og_loop L (fun i e2 h2 => e2 = [3] ∧ h2 3 1 = s + i ∧ h2 3 3 = s ∧ h2 3 5 = dV B s (min i 4) ∧ h2 3 7 = h 3 7 ∧ h2 3 8 = h 3 8 ∧ (∀ i k, i ≠ 3 → h2 i k = h i k)) ⟨rfl, by rw [og_up_k (by decide), h1]; omega, by rw [og_up_k (by decide)]; exact h3, by rw [og_up_eq]; rfl, by rw [og_up_k (by decide)], by rw [og_up_k (by decide)], fun i k hi => og_up_i hi⟩ ?_
    rintro i e2 h2 hi ⟨rfl, v1, v3, v6, v7, v8, hf⟩
    simp -implicitDefEqProofs only [↓dn_den, ↓dn_loc, ↓dn_k, ↓dn_add, ↓dn_sub, ↓dn_mul, ↓dn_div, ↓dn_rem, ↓dn_bop, ↓dn_ladd, ↓dn_lsub, ↓dn_lmul, ↓dn_ldiv, ↓dn_lrem, ↓dn_land, ↓dn_l2i, ↓dn_neg, ↓dn_get, ↓dn_fix, ↓dn_ald, ↓dn_gld, ↓dn_yld, ↓dn_len, ↓dn_gln, ↓dn_cc, ↓dn_cb, ↓dn_and, ↓dn_or, ↓dn_not, ↓dn_cite, ↓dn_ec, ↓dn_ei, ↓dn_skip, ↓dn_seq, ↓dn_set, ↓dn_inc, ↓dn_putf, ↓dn_putz, ↓dn_ast, ↓dn_exp, ↓dn_if, ↓dn_ret, ↓dn_retz, ↓dn_retv, ↓dn_brk, ↓dn_cont, ↓dn_cs, ↓dn_sw, ↓dn_pop32, ↓dn_pop64, ↓dn_aop, ↓dn_call, ↓dn_max, ↓dn_min, ↓dn_acp, ↓dn_i2l, ↓dn_args0, ↓dn_args1, og_pad, og_ent, og_rlt, og_rle, og_rgt, og_rge, og_req, og_rne, og_padd, og_psub, og_pmul, List.getD_cons_zero, List.getD_cons_succ, List.set_cons_zero, List.set_cons_succ, List.length_cons, List.length_nil, List.cons_append, List.nil_append, List.replicate, List.append_nil, Nat.reduceAdd, Nat.reduceSub, Nat.reduceEqDiff, if_true, if_false, reduceIte, Int.reduceAdd, Int.reduceSub, Int.reduceMul, Int.reduceNeg, Int.reduceLT, Int.reduceLE, Int.cast_ofNat_Int, true_or, or_true, true_and, and_true, false_and, List.mem_cons, List.not_mem_nil, or_false, false_or, ne_eq, og_i32]
    have ht2 := fr hf
    rw [v1, ht2.1.1]
    by_cases hiL : i < L
    · have hr := hrun (s + i) (by omega) (by omega)
      refine ⟨fun _ => ?_, fun z => by omega⟩
      refine k_at ht2 ?_
      rw [bt_in (by omega) hr.1]
      refine k_isDigit ⟨fun _ => ?_, fun z => absurd hr.2 (by have := ite00 z; rw [this]; decide)⟩
      refine ⟨fun e3 h3' => e3 = [3] ∧ h3' 3 1 = s + i ∧ h3' 3 3 = s ∧ h3' 3 5 = dV B s (min (i + 1) 4) ∧ h3' 3 7 = h 3 7 ∧ h3' 3 8 = h 3 8 ∧ (∀ i k, i ≠ 3 → h3' i k = h i k), ?_, ?_⟩
      · simp -implicitDefEqProofs only [↓dn_den, ↓dn_loc, ↓dn_k, ↓dn_add, ↓dn_sub, ↓dn_mul, ↓dn_div, ↓dn_rem, ↓dn_bop, ↓dn_ladd, ↓dn_lsub, ↓dn_lmul, ↓dn_ldiv, ↓dn_lrem, ↓dn_land, ↓dn_l2i, ↓dn_neg, ↓dn_get, ↓dn_fix, ↓dn_ald, ↓dn_gld, ↓dn_yld, ↓dn_len, ↓dn_gln, ↓dn_cc, ↓dn_cb, ↓dn_and, ↓dn_or, ↓dn_not, ↓dn_cite, ↓dn_ec, ↓dn_ei, ↓dn_skip, ↓dn_seq, ↓dn_set, ↓dn_inc, ↓dn_putf, ↓dn_putz, ↓dn_ast, ↓dn_exp, ↓dn_if, ↓dn_ret, ↓dn_retz, ↓dn_retv, ↓dn_brk, ↓dn_cont, ↓dn_cs, ↓dn_sw, ↓dn_pop32, ↓dn_pop64, ↓dn_aop, ↓dn_call, ↓dn_max, ↓dn_min, ↓dn_acp, ↓dn_i2l, ↓dn_args0, ↓dn_args1, og_pad, og_ent, og_rlt, og_rle, og_rgt, og_rge, og_req, og_rne, og_padd, og_psub, og_pmul, List.getD_cons_zero, List.getD_cons_succ, List.set_cons_zero, List.set_cons_succ, List.length_cons, List.length_nil, List.cons_append, List.nil_append, List.replicate, List.append_nil, Nat.reduceAdd, Nat.reduceSub, Nat.reduceEqDiff, if_true, if_false, reduceIte, Int.reduceAdd, Int.reduceSub, Int.reduceMul, Int.reduceNeg, Int.reduceLT, Int.reduceLE, Int.cast_ofNat_Int, true_or, or_true, true_and, and_true, false_and, List.mem_cons, List.not_mem_nil, or_false, false_or, ne_eq, og_i32]
        rw [v1, v3]
        refine ⟨by omega, fun hlt => ?_, fun hge => ?_⟩
        · have m1 : min i 4 = i := by omega
          have m2 : min (i + 1) 4 = i + 1 := by omega
          have r1 := vr i (by omega)
          have r2 := vr (i + 1) (by omega)
          have hl := hr.2
          unfold isD at hl
          simp only [Bool.and_eq_true, decide_eq_true_eq] at hl
          rw [v6, m1, m2]
          refine ⟨by omega, k_at ht2 ?_⟩
          rw [bt_in (by omega) hr.1]
          have ev : 10 * dV B s i + B (s + i) - 48 = dV B s (i + 1) := by rw [dV_s]; omega
          rw [ev]
          refine ⟨by omega, by omega, by rw [og_up_k (by decide)]; exact v1, by rw [og_up_k (by decide)]; exact v3, by rw [og_up_eq], by rw [og_up_k (by decide)]; exact v7, by rw [og_up_k (by decide)]; exact v8, fun j k hj => by rw [og_up_i hj]; exact hf j k hj⟩
        · have m1 : min i 4 = 4 := by omega
          have m2 : min (i + 1) 4 = 4 := by omega
          rw [m1] at v6
          rw [m2]
          exact ⟨rfl, rfl, v6, v7, v8, hf⟩
      · rintro e3 h3' ⟨rfl, u1, u3, u6, u7, u8, hf3⟩
        simp -implicitDefEqProofs only [↓dn_den, ↓dn_loc, ↓dn_k, ↓dn_add, ↓dn_sub, ↓dn_mul, ↓dn_div, ↓dn_rem, ↓dn_bop, ↓dn_ladd, ↓dn_lsub, ↓dn_lmul, ↓dn_ldiv, ↓dn_lrem, ↓dn_land, ↓dn_l2i, ↓dn_neg, ↓dn_get, ↓dn_fix, ↓dn_ald, ↓dn_gld, ↓dn_yld, ↓dn_len, ↓dn_gln, ↓dn_cc, ↓dn_cb, ↓dn_and, ↓dn_or, ↓dn_not, ↓dn_cite, ↓dn_ec, ↓dn_ei, ↓dn_skip, ↓dn_seq, ↓dn_set, ↓dn_inc, ↓dn_putf, ↓dn_putz, ↓dn_ast, ↓dn_exp, ↓dn_if, ↓dn_ret, ↓dn_retz, ↓dn_retv, ↓dn_brk, ↓dn_cont, ↓dn_cs, ↓dn_sw, ↓dn_pop32, ↓dn_pop64, ↓dn_aop, ↓dn_call, ↓dn_max, ↓dn_min, ↓dn_acp, ↓dn_i2l, ↓dn_args0, ↓dn_args1, og_pad, og_ent, og_rlt, og_rle, og_rgt, og_rge, og_req, og_rne, og_padd, og_psub, og_pmul, List.getD_cons_zero, List.getD_cons_succ, List.set_cons_zero, List.set_cons_succ, List.length_cons, List.length_nil, List.cons_append, List.nil_append, List.replicate, List.append_nil, Nat.reduceAdd, Nat.reduceSub, Nat.reduceEqDiff, if_true, if_false, reduceIte, Int.reduceAdd, Int.reduceSub, Int.reduceMul, Int.reduceNeg, Int.reduceLT, Int.reduceLE, Int.cast_ofNat_Int, true_or, or_true, true_and, and_true, false_and, List.mem_cons, List.not_mem_nil, or_false, false_or, ne_eq, og_i32]
        rw [u1]
        refine ⟨by omega, og_nx_mk hiL ⟨rfl, by rw [og_up_eq]; omega, by rw [og_up_k (by decide)]; exact u3, by rw [og_up_k (by decide)]; exact u6, by rw [og_up_k (by decide)]; exact u7, by rw [og_up_k (by decide)]; exact u8, fun j k hj => by rw [og_up_i hj]; exact hf3 j k hj⟩⟩
    · have e : i = L := by omega
      subst e
      refine ⟨fun hlt => ?_, fun _ => ⟨rfl, v3, v6, v7, v8, hf⟩⟩
      refine k_at ht2 ?_
      rw [bt_in (by omega) hlt]
      refine k_isDigit ⟨fun z => absurd ⟨hlt, ite10 z⟩ hend, fun _ => ⟨v1, v3, v6, v7, v8, hf⟩⟩
  · rintro e2 h2 ⟨rfl, v1, v3, v6, v7, v8, hf⟩
    simp -implicitDefEqProofs only [↓dn_den, ↓dn_loc, ↓dn_k, ↓dn_add, ↓dn_sub, ↓dn_mul, ↓dn_div, ↓dn_rem, ↓dn_bop, ↓dn_ladd, ↓dn_lsub, ↓dn_lmul, ↓dn_ldiv, ↓dn_lrem, ↓dn_land, ↓dn_l2i, ↓dn_neg, ↓dn_get, ↓dn_fix, ↓dn_ald, ↓dn_gld, ↓dn_yld, ↓dn_len, ↓dn_gln, ↓dn_cc, ↓dn_cb, ↓dn_and, ↓dn_or, ↓dn_not, ↓dn_cite, ↓dn_ec, ↓dn_ei, ↓dn_skip, ↓dn_seq, ↓dn_set, ↓dn_inc, ↓dn_putf, ↓dn_putz, ↓dn_ast, ↓dn_exp, ↓dn_if, ↓dn_ret, ↓dn_retz, ↓dn_retv, ↓dn_brk, ↓dn_cont, ↓dn_cs, ↓dn_sw, ↓dn_pop32, ↓dn_pop64, ↓dn_aop, ↓dn_call, ↓dn_max, ↓dn_min, ↓dn_acp, ↓dn_i2l, ↓dn_args0, ↓dn_args1, og_pad, og_ent, og_rlt, og_rle, og_rgt, og_rge, og_req, og_rne, og_padd, og_psub, og_pmul, List.getD_cons_zero, List.getD_cons_succ, List.set_cons_zero, List.set_cons_succ, List.length_cons, List.length_nil, List.cons_append, List.nil_append, List.replicate, List.append_nil, Nat.reduceAdd, Nat.reduceSub, Nat.reduceEqDiff, if_true, if_false, reduceIte, Int.reduceAdd, Int.reduceSub, Int.reduceMul, Int.reduceNeg, Int.reduceLT, Int.reduceLE, Int.cast_ofNat_Int, true_or, or_true, true_and, and_true, false_and, List.mem_cons, List.not_mem_nil, or_false, false_or, ne_eq, og_i32]
    rw [v1, v3]
    have es : s + (L : Int) - s = L := by omega
    rw [es]
    have f4 : ∀ i k, i ≠ 3 → og_up h2 3 4 (L : Int) i k = h i k := fun i k hi => by rw [og_up_i hi]; exact hf i k hi
    rw [og_up_k (by decide), v3]
    refine ⟨by omega, by omega, k_at (fr f4) (k_isLetter ?_)⟩
    have last : ∀ w : Int, w = (if isL (bt B n (s - 1)) = true then 4 else 2) → K 0 (og_up (og_up h2 3 4 (L : Int)) 3 2 w) := by
      intro w hw
      refine hK _ ?_ ?_ ?_ ?_ ?_ ?_ ?_ ?_
      · rw [og_up_k (by decide), og_up_k (by decide), hL]; exact v1
      · rw [og_up_k (by decide), og_up_k (by decide)]; exact v3
      · rw [og_up_k (by decide), og_up_eq]
      · rw [og_up_k (by decide), og_up_k (by decide)]; exact v6
      · rw [og_up_eq]; exact hw
      · rw [og_up_k (by decide), og_up_k (by decide)]; exact v7
      · rw [og_up_k (by decide), og_up_k (by decide)]; exact v8
      · exact fun i k hi => by rw [og_up_i hi]; exact f4 i k hi
    exact ⟨fun z => last _ (by rw [if_pos (ite10 z)]), fun z => last _ (by rw [if_neg (by rw [ite00 z]; decide)])⟩
theorem k_step (ht : txC h B n) (ha : 0 ≤ a ∧ a ≤ n) (h1 : h 3 1 = a) (h7 : h 3 7 = 0) (h8 : h 3 8 = -1) (hK : ∀ h', tokC h' B n a → (∀ i k, i ≠ 3 → h' i k = h i k) → K 0 h') : m_Tokens_step [3] h K := by
  have sp := tS_sp B n a
  have le : tS B n a ≤ n := rn_le (by omega)
  have hn := ht.2.2
  have fr : ∀ {h1 : Hp}, (∀ i k, i ≠ 3 → h1 i k = h i k) → txC h1 B n := fun hf => txC_fr ht (fun i k hi => hf i k (by omega))
  unfold m_Tokens_step
  simp -implicitDefEqProofs only [↓dn_den, ↓dn_loc, ↓dn_k, ↓dn_add, ↓dn_sub, ↓dn_mul, ↓dn_div, ↓dn_rem, ↓dn_bop, ↓dn_ladd, ↓dn_lsub, ↓dn_lmul, ↓dn_ldiv, ↓dn_lrem, ↓dn_land, ↓dn_l2i, ↓dn_neg, ↓dn_get, ↓dn_fix, ↓dn_ald, ↓dn_gld, ↓dn_yld, ↓dn_len, ↓dn_gln, ↓dn_cc, ↓dn_cb, ↓dn_and, ↓dn_or, ↓dn_not, ↓dn_cite, ↓dn_ec, ↓dn_ei, ↓dn_skip, ↓dn_seq, ↓dn_set, ↓dn_inc, ↓dn_putf, ↓dn_putz, ↓dn_ast, ↓dn_exp, ↓dn_if, ↓dn_ret, ↓dn_retz, ↓dn_retv, ↓dn_brk, ↓dn_cont, ↓dn_cs, ↓dn_sw, ↓dn_pop32, ↓dn_pop64, ↓dn_aop, ↓dn_call, ↓dn_max, ↓dn_min, ↓dn_acp, ↓dn_i2l, ↓dn_args0, ↓dn_args1, og_pad, og_ent, og_rlt, og_rle, og_rgt, og_rge, og_req, og_rne, og_padd, og_psub, og_pmul, List.getD_cons_zero, List.getD_cons_succ, List.set_cons_zero, List.set_cons_succ, List.length_cons, List.length_nil, List.cons_append, List.nil_append, List.replicate, List.append_nil, Nat.reduceAdd, Nat.reduceSub, Nat.reduceEqDiff, if_true, if_false, reduceIte, Int.reduceAdd, Int.reduceSub, Int.reduceMul, Int.reduceNeg, Int.reduceLT, Int.reduceLE, Int.cast_ofNat_Int, true_or, or_true, true_and, and_true, false_and, List.mem_cons, List.not_mem_nil, or_false, false_or, ne_eq]
  rw [h7]
  refine ⟨fun z => absurd (by trivial) z, fun _ => ?_⟩
  refine ⟨fun e2 h2 => e2 = [3, 0] ∧ h2 3 1 = tS B n a ∧ h2 3 7 = 0 ∧ h2 3 8 = -1 ∧ (∀ i k, i ≠ 3 → h2 i k = h i k), ?_, ?_⟩
  · obtain ⟨L, hL⟩ : ∃ L : Nat, tS B n a = a + L := ⟨(tS B n a - a).toNat, by omega⟩
    rw [hL] at sp ⊢
    refine og_loop L (fun i e2 h2 => e2 = [3, 0] ∧ h2 3 1 = a + i ∧ h2 3 7 = 0 ∧ h2 3 8 = -1 ∧ (∀ i k, i ≠ 3 → h2 i k = h i k)) ⟨rfl, by rw [h1]; omega, h7, h8, fun _ _ _ => rfl⟩ ?_
    rintro i e2 h2 hi ⟨rfl, v1, v7, v8, hf⟩
    simp -implicitDefEqProofs only [↓dn_den, ↓dn_loc, ↓dn_k, ↓dn_add, ↓dn_sub, ↓dn_mul, ↓dn_div, ↓dn_rem, ↓dn_bop, ↓dn_ladd, ↓dn_lsub, ↓dn_lmul, ↓dn_ldiv, ↓dn_lrem, ↓dn_land, ↓dn_l2i, ↓dn_neg, ↓dn_get, ↓dn_fix, ↓dn_ald, ↓dn_gld, ↓dn_yld, ↓dn_len, ↓dn_gln, ↓dn_cc, ↓dn_cb, ↓dn_and, ↓dn_or, ↓dn_not, ↓dn_cite, ↓dn_ec, ↓dn_ei, ↓dn_skip, ↓dn_seq, ↓dn_set, ↓dn_inc, ↓dn_putf, ↓dn_putz, ↓dn_ast, ↓dn_exp, ↓dn_if, ↓dn_ret, ↓dn_retz, ↓dn_retv, ↓dn_brk, ↓dn_cont, ↓dn_cs, ↓dn_sw, ↓dn_pop32, ↓dn_pop64, ↓dn_aop, ↓dn_call, ↓dn_max, ↓dn_min, ↓dn_acp, ↓dn_i2l, ↓dn_args0, ↓dn_args1, og_pad, og_ent, og_rlt, og_rle, og_rgt, og_rge, og_req, og_rne, og_padd, og_psub, og_pmul, List.getD_cons_zero, List.getD_cons_succ, List.set_cons_zero, List.set_cons_succ, List.length_cons, List.length_nil, List.cons_append, List.nil_append, List.replicate, List.append_nil, Nat.reduceAdd, Nat.reduceSub, Nat.reduceEqDiff, if_true, if_false, reduceIte, Int.reduceAdd, Int.reduceSub, Int.reduceMul, Int.reduceNeg, Int.reduceLT, Int.reduceLE, Int.cast_ofNat_Int, true_or, or_true, true_and, and_true, false_and, List.mem_cons, List.not_mem_nil, or_false, false_or, ne_eq, og_i32]
    have ht2 := fr hf
    rw [v1, ht2.1.1]
    by_cases hiL : i < L
    · have hr := sp.2.1 (a + i) (by omega) (by omega)
      refine ⟨fun _ => ?_, fun z => by omega⟩
      refine k_at ht2 ?_
      rw [bt_in (by omega) hr.1]
      refine k_isBlank ⟨fun _ => ?_, fun z => absurd hr.2 (by have := ite00 z; rw [this]; decide)⟩
      rw [v1]
      refine ⟨by omega, og_nx_mk hiL ⟨by first | rfl | trivial, by rw [og_up_eq]; omega, by rw [og_up_k (by decide)]; exact v7, by rw [og_up_k (by decide)]; exact v8, fun j k hj => by rw [og_up_i hj]; exact hf j k hj⟩⟩
    · have e : i = L := by omega
      subst e
      refine ⟨fun hlt => ?_, fun _ => ⟨rfl, v7, v8, hf⟩⟩
      refine k_at ht2 ?_
      rw [bt_in (by omega) hlt]
      refine k_isBlank ⟨fun z => absurd ⟨hlt, ite10 z⟩ sp.2.2, fun _ => ⟨v1, v7, v8, hf⟩⟩
  · rintro e2 h2 ⟨rfl, v1, v7, v8, hf⟩
    simp -implicitDefEqProofs only [↓dn_den, ↓dn_loc, ↓dn_k, ↓dn_add, ↓dn_sub, ↓dn_mul, ↓dn_div, ↓dn_rem, ↓dn_bop, ↓dn_ladd, ↓dn_lsub, ↓dn_lmul, ↓dn_ldiv, ↓dn_lrem, ↓dn_land, ↓dn_l2i, ↓dn_neg, ↓dn_get, ↓dn_fix, ↓dn_ald, ↓dn_gld, ↓dn_yld, ↓dn_len, ↓dn_gln, ↓dn_cc, ↓dn_cb, ↓dn_and, ↓dn_or, ↓dn_not, ↓dn_cite, ↓dn_ec, ↓dn_ei, ↓dn_skip, ↓dn_seq, ↓dn_set, ↓dn_inc, ↓dn_putf, ↓dn_putz, ↓dn_ast, ↓dn_exp, ↓dn_if, ↓dn_ret, ↓dn_retz, ↓dn_retv, ↓dn_brk, ↓dn_cont, ↓dn_cs, ↓dn_sw, ↓dn_pop32, ↓dn_pop64, ↓dn_aop, ↓dn_call, ↓dn_max, ↓dn_min, ↓dn_acp, ↓dn_i2l, ↓dn_args0, ↓dn_args1, og_pad, og_ent, og_rlt, og_rle, og_rgt, og_rge, og_req, og_rne, og_padd, og_psub, og_pmul, List.getD_cons_zero, List.getD_cons_succ, List.set_cons_zero, List.set_cons_succ, List.length_cons, List.length_nil, List.cons_append, List.nil_append, List.replicate, List.append_nil, Nat.reduceAdd, Nat.reduceSub, Nat.reduceEqDiff, if_true, if_false, reduceIte, Int.reduceAdd, Int.reduceSub, Int.reduceMul, Int.reduceNeg, Int.reduceLT, Int.reduceLE, Int.cast_ofNat_Int, true_or, or_true, true_and, and_true, false_and, List.mem_cons, List.not_mem_nil, or_false, false_or, ne_eq, og_i32]
    rw [v1, og_up_k (by decide), v1]
    have f3 : ∀ i k, i ≠ 3 → og_up h2 3 3 (tS B n a) i k = h i k := fun i k hi => by rw [og_up_i hi]; exact hf i k hi
    have ht3 := fr f3
    refine k_at ht3 ?_
    have w1 : og_up h2 3 3 (tS B n a) 3 1 = tS B n a := by rw [og_up_k (by decide)]; exact v1
    have w3 : og_up h2 3 3 (tS B n a) 3 3 = tS B n a := by rw [og_up_eq]
    have w7 : og_up h2 3 3 (tS B n a) 3 7 = 0 := by rw [og_up_k (by decide)]; exact v7
    have w8 : og_up h2 3 3 (tS B n a) 3 8 = -1 := by rw [og_up_k (by decide)]; exact v8
    generalize og_up h2 3 3 (tS B n a) = h3 at *
    by_cases hlt : tS B n a < n
    · rw [bt_in (by omega) hlt]
      have kE : tE B n a = if isL (B (tS B n a)) = true then tLe B n (tS B n a) else if isD (B (tS B n a)) = true then tDe B n (tS B n a) else tS B n a + 1 := by unfold tE; rw [if_pos hlt]
      have kK : tK B n a = if isL (B (tS B n a)) = true then (if isD (bt B n (tS B n a - 1)) = true then 4 else 1) else if isD (B (tS B n a)) = true then (if isL (bt B n (tS B n a - 1)) = true then 4 else 2) else 3 := by unfold tK; rw [if_pos hlt]
      refine ⟨fun z => ?_, fun z => ?_⟩
      · have := ht.2.2.2.2 (tS B n a) (by omega) hlt
        omega
      · refine k_isLetter ⟨fun y => ?_, fun y => ?_⟩
        · have y := ite10 y
          rw [if_pos y] at kE kK
          refine k_readWord ht3 ⟨by omega, hlt⟩ w1 w3 (fun h4 u1 u3 u4 u6 u5 u2 u7 u8 f4 => ?_)
          refine hK h4 ⟨ha, ⟨u7.trans w7, u8.trans w8⟩, ⟨u2.trans kK.symm, u3, u1.trans kE.symm⟩, fun _ => ⟨?_, ?_, ?_⟩, fun k2 => ?_, fun k3 => ?_⟩ (fun i k hi => (f4 i k hi).trans (f3 i k hi))
          · rw [u5]; unfold tW tSp tL; rw [kE]
          · rw [u4, kE]
          · rw [u6]; unfold tSp tL; rw [kE]
          · rw [kK] at k2; split at k2 <;> omega
          · rw [kK] at k3; split at k3 <;> omega
        · have y := ite00 y
          rw [if_neg (by rw [y]; decide)] at kE kK
          refine k_isDigit ⟨fun x => ?_, fun x => ?_⟩
          · have x := ite10 x
            rw [if_pos x] at kE kK
            refine k_readNumber ht3 ⟨by omega, hlt⟩ w1 w3 (fun h4 u1 u3 u4 u5 u2 u7 u8 f4 => ?_)
            refine hK h4 ⟨ha, ⟨u7.trans w7, u8.trans w8⟩, ⟨u2.trans kK.symm, u3, u1.trans kE.symm⟩, fun k1 => ?_, fun _ => ⟨?_, ?_⟩, fun k3 => ?_⟩ (fun i k hi => (f4 i k hi).trans (f3 i k hi))
            · rw [kK] at k1; split at k1 <;> omega
            · rw [u5]; unfold tN tL; rw [kE]
            · rw [u4, kE]
            · rw [kK] at k3; split at k3 <;> omega
          · have x := ite00 x
            rw [if_neg (by rw [x]; decide)] at kE kK
            rw [og_up_k (by decide), og_up_k (by decide), w1]
            refine ⟨by omega, hK _ ⟨ha, ⟨?_, ?_⟩, ⟨?_, ?_, ?_⟩, fun k1 => ?_, fun k2 => ?_, fun _ => ?_⟩ (fun i k hi => by rw [og_up_i hi, og_up_i hi, og_up_i hi]; exact f3 i k hi)⟩
            · rw [og_up_k (by decide), og_up_k (by decide), og_up_k (by decide)]; exact w7
            · rw [og_up_k (by decide), og_up_k (by decide), og_up_k (by decide)]; exact w8
            · rw [og_up_k (by decide), og_up_k (by decide), og_up_eq, kK]
            · rw [og_up_k (by decide), og_up_k (by decide), og_up_k (by decide)]; exact w3
            · rw [og_up_eq, kE]
            · rw [kK] at k1; omega
            · rw [kK] at k2; omega
            · rw [og_up_k (by decide), og_up_eq]
    · have eb : bt B n (tS B n a) = -1 := if_neg (fun z => hlt z.2)
      have kE : tE B n a = tS B n a := by unfold tE; rw [if_neg hlt]
      have kK : tK B n a = 0 := by unfold tK; rw [if_neg hlt]
      rw [eb]
      refine ⟨fun _ => hK _ ⟨ha, ⟨?_, ?_⟩, ⟨?_, ?_, ?_⟩, fun k1 => ?_, fun k2 => ?_, fun k3 => ?_⟩ (fun i k hi => by rw [og_up_i hi]; exact f3 i k hi), fun z => absurd (by trivial) z⟩
      · rw [og_up_k (by decide)]; exact w7
      · rw [og_up_k (by decide)]; exact w8
      · rw [og_up_eq, kK]
      · rw [og_up_k (by decide)]; exact w3
      · rw [og_up_k (by decide), kE]; exact w1
      · rw [kK] at k1; omega
      · rw [kK] at k2; omega
      · rw [kK] at k3; omega
theorem k_stepF (h7 : h 3 7 ≠ 0) (hK : K 0 h) : m_Tokens_step [3] h K := by
  unfold m_Tokens_step
  simp -implicitDefEqProofs only [↓dn_den, ↓dn_loc, ↓dn_k, ↓dn_add, ↓dn_sub, ↓dn_mul, ↓dn_div, ↓dn_rem, ↓dn_bop, ↓dn_ladd, ↓dn_lsub, ↓dn_lmul, ↓dn_ldiv, ↓dn_lrem, ↓dn_land, ↓dn_l2i, ↓dn_neg, ↓dn_get, ↓dn_fix, ↓dn_ald, ↓dn_gld, ↓dn_yld, ↓dn_len, ↓dn_gln, ↓dn_cc, ↓dn_cb, ↓dn_and, ↓dn_or, ↓dn_not, ↓dn_cite, ↓dn_ec, ↓dn_ei, ↓dn_skip, ↓dn_seq, ↓dn_set, ↓dn_inc, ↓dn_putf, ↓dn_putz, ↓dn_ast, ↓dn_exp, ↓dn_if, ↓dn_ret, ↓dn_retz, ↓dn_retv, ↓dn_brk, ↓dn_cont, ↓dn_cs, ↓dn_sw, ↓dn_pop32, ↓dn_pop64, ↓dn_aop, ↓dn_call, ↓dn_max, ↓dn_min, ↓dn_acp, ↓dn_i2l, ↓dn_args0, ↓dn_args1, og_pad, og_ent, og_rlt, og_rle, og_rgt, og_rge, og_req, og_rne, og_padd, og_psub, og_pmul, List.getD_cons_zero, List.getD_cons_succ, List.set_cons_zero, List.set_cons_succ, List.length_cons, List.length_nil, List.cons_append, List.nil_append, List.replicate, List.append_nil, Nat.reduceAdd, Nat.reduceSub, Nat.reduceEqDiff, if_true, if_false, reduceIte, Int.reduceAdd, Int.reduceSub, Int.reduceMul, Int.reduceNeg, Int.reduceLT, Int.reduceLE, Int.cast_ofNat_Int, true_or, or_true, true_and, and_true, false_and, List.mem_cons, List.not_mem_nil, or_false, false_or, ne_eq]
  exact ⟨fun _ => hK, fun z => absurd h7 z⟩
theorem k_begin (ht : txC h B n) (hK : ∀ h', tokC h' B n 0 → (∀ i k, i ≠ 3 → h' i k = h i k) → K 0 h') : m_Tokens_begin [3] h K := by
  unfold m_Tokens_begin
  simp -implicitDefEqProofs only [↓dn_den, ↓dn_loc, ↓dn_k, ↓dn_add, ↓dn_sub, ↓dn_mul, ↓dn_div, ↓dn_rem, ↓dn_bop, ↓dn_ladd, ↓dn_lsub, ↓dn_lmul, ↓dn_ldiv, ↓dn_lrem, ↓dn_land, ↓dn_l2i, ↓dn_neg, ↓dn_get, ↓dn_fix, ↓dn_ald, ↓dn_gld, ↓dn_yld, ↓dn_len, ↓dn_gln, ↓dn_cc, ↓dn_cb, ↓dn_and, ↓dn_or, ↓dn_not, ↓dn_cite, ↓dn_ec, ↓dn_ei, ↓dn_skip, ↓dn_seq, ↓dn_set, ↓dn_inc, ↓dn_putf, ↓dn_putz, ↓dn_ast, ↓dn_exp, ↓dn_if, ↓dn_ret, ↓dn_retz, ↓dn_retv, ↓dn_brk, ↓dn_cont, ↓dn_cs, ↓dn_sw, ↓dn_pop32, ↓dn_pop64, ↓dn_aop, ↓dn_call, ↓dn_max, ↓dn_min, ↓dn_acp, ↓dn_i2l, ↓dn_args0, ↓dn_args1, og_pad, og_ent, og_rlt, og_rle, og_rgt, og_rge, og_req, og_rne, og_padd, og_psub, og_pmul, List.getD_cons_zero, List.getD_cons_succ, List.set_cons_zero, List.set_cons_succ, List.length_cons, List.length_nil, List.cons_append, List.nil_append, List.replicate, List.append_nil, Nat.reduceAdd, Nat.reduceSub, Nat.reduceEqDiff, if_true, if_false, reduceIte, Int.reduceAdd, Int.reduceSub, Int.reduceMul, Int.reduceNeg, Int.reduceLT, Int.reduceLE, Int.cast_ofNat_Int, true_or, or_true, true_and, and_true, false_and, List.mem_cons, List.not_mem_nil, or_false, false_or, ne_eq]
  refine k_step (txC_fr ht (fun i k hi => by rw [og_up_i (by omega), og_up_i (by omega), og_up_i (by omega)])) ⟨Int.le_refl _, ht.2.2.1⟩ ?_ ?_ ?_ (fun h1 t1 f1 => hK h1 t1 (fun i k hi => by rw [f1 i k hi, og_up_i hi, og_up_i hi, og_up_i hi]))
  · rw [og_up_k (by decide), og_up_k (by decide), og_up_eq]
  · rw [og_up_k (by decide), og_up_eq]
  · rw [og_up_eq]
theorem k_failAt {k p : Int} (hk : k ≠ 0) (h7 : h 3 7 = 0) (hK : ∀ h', fltC h' k p → (∀ i k, i ≠ 3 → h' i k = h i k) → K 0 h') : m_Tokens_failAt [3, k, p] h K := by
  unfold m_Tokens_failAt
  simp -implicitDefEqProofs only [↓dn_den, ↓dn_loc, ↓dn_k, ↓dn_add, ↓dn_sub, ↓dn_mul, ↓dn_div, ↓dn_rem, ↓dn_bop, ↓dn_ladd, ↓dn_lsub, ↓dn_lmul, ↓dn_ldiv, ↓dn_lrem, ↓dn_land, ↓dn_l2i, ↓dn_neg, ↓dn_get, ↓dn_fix, ↓dn_ald, ↓dn_gld, ↓dn_yld, ↓dn_len, ↓dn_gln, ↓dn_cc, ↓dn_cb, ↓dn_and, ↓dn_or, ↓dn_not, ↓dn_cite, ↓dn_ec, ↓dn_ei, ↓dn_skip, ↓dn_seq, ↓dn_set, ↓dn_inc, ↓dn_putf, ↓dn_putz, ↓dn_ast, ↓dn_exp, ↓dn_if, ↓dn_ret, ↓dn_retz, ↓dn_retv, ↓dn_brk, ↓dn_cont, ↓dn_cs, ↓dn_sw, ↓dn_pop32, ↓dn_pop64, ↓dn_aop, ↓dn_call, ↓dn_max, ↓dn_min, ↓dn_acp, ↓dn_i2l, ↓dn_args0, ↓dn_args1, og_pad, og_ent, og_rlt, og_rle, og_rgt, og_rge, og_req, og_rne, og_padd, og_psub, og_pmul, List.getD_cons_zero, List.getD_cons_succ, List.set_cons_zero, List.set_cons_succ, List.length_cons, List.length_nil, List.cons_append, List.nil_append, List.replicate, List.append_nil, Nat.reduceAdd, Nat.reduceSub, Nat.reduceEqDiff, if_true, if_false, reduceIte, Int.reduceAdd, Int.reduceSub, Int.reduceMul, Int.reduceNeg, Int.reduceLT, Int.reduceLE, Int.cast_ofNat_Int, true_or, or_true, true_and, and_true, false_and, List.mem_cons, List.not_mem_nil, or_false, false_or, ne_eq]
  rw [h7]
  refine ⟨fun _ => hK _ ⟨?_, ?_, hk, ?_⟩ (fun i k hi => by rw [og_up_i hi, og_up_i hi, og_up_i hi]), fun z => absurd (by trivial) z⟩
  · rw [og_up_k (by decide), og_up_k (by decide), og_up_eq]
  · rw [og_up_k (by decide), og_up_eq]
  · rw [og_up_eq]
theorem k_failAtF {k p : Int} (h7 : h 3 7 ≠ 0) (hK : K 0 h) : m_Tokens_failAt [3, k, p] h K := by
  unfold m_Tokens_failAt
  simp -implicitDefEqProofs only [↓dn_den, ↓dn_loc, ↓dn_k, ↓dn_add, ↓dn_sub, ↓dn_mul, ↓dn_div, ↓dn_rem, ↓dn_bop, ↓dn_ladd, ↓dn_lsub, ↓dn_lmul, ↓dn_ldiv, ↓dn_lrem, ↓dn_land, ↓dn_l2i, ↓dn_neg, ↓dn_get, ↓dn_fix, ↓dn_ald, ↓dn_gld, ↓dn_yld, ↓dn_len, ↓dn_gln, ↓dn_cc, ↓dn_cb, ↓dn_and, ↓dn_or, ↓dn_not, ↓dn_cite, ↓dn_ec, ↓dn_ei, ↓dn_skip, ↓dn_seq, ↓dn_set, ↓dn_inc, ↓dn_putf, ↓dn_putz, ↓dn_ast, ↓dn_exp, ↓dn_if, ↓dn_ret, ↓dn_retz, ↓dn_retv, ↓dn_brk, ↓dn_cont, ↓dn_cs, ↓dn_sw, ↓dn_pop32, ↓dn_pop64, ↓dn_aop, ↓dn_call, ↓dn_max, ↓dn_min, ↓dn_acp, ↓dn_i2l, ↓dn_args0, ↓dn_args1, og_pad, og_ent, og_rlt, og_rle, og_rgt, og_rge, og_req, og_rne, og_padd, og_psub, og_pmul, List.getD_cons_zero, List.getD_cons_succ, List.set_cons_zero, List.set_cons_succ, List.length_cons, List.length_nil, List.cons_append, List.nil_append, List.replicate, List.append_nil, Nat.reduceAdd, Nat.reduceSub, Nat.reduceEqDiff, if_true, if_false, reduceIte, Int.reduceAdd, Int.reduceSub, Int.reduceMul, Int.reduceNeg, Int.reduceLT, Int.reduceLE, Int.cast_ofNat_Int, true_or, or_true, true_and, and_true, false_and, List.mem_cons, List.not_mem_nil, or_false, false_or, ne_eq]
  exact ⟨fun z => absurd z h7, fun _ => hK⟩
theorem k_fail {k : Int} (hk : k ≠ 0) (h7 : h 3 7 = 0) (hK : ∀ h', fltC h' k (h 3 3) → (∀ i k, i ≠ 3 → h' i k = h i k) → K 0 h') : m_Tokens_fail [3, k] h K := by
  unfold m_Tokens_fail
  simp -implicitDefEqProofs only [↓dn_den, ↓dn_loc, ↓dn_k, ↓dn_add, ↓dn_sub, ↓dn_mul, ↓dn_div, ↓dn_rem, ↓dn_bop, ↓dn_ladd, ↓dn_lsub, ↓dn_lmul, ↓dn_ldiv, ↓dn_lrem, ↓dn_land, ↓dn_l2i, ↓dn_neg, ↓dn_get, ↓dn_fix, ↓dn_ald, ↓dn_gld, ↓dn_yld, ↓dn_len, ↓dn_gln, ↓dn_cc, ↓dn_cb, ↓dn_and, ↓dn_or, ↓dn_not, ↓dn_cite, ↓dn_ec, ↓dn_ei, ↓dn_skip, ↓dn_seq, ↓dn_set, ↓dn_inc, ↓dn_putf, ↓dn_putz, ↓dn_ast, ↓dn_exp, ↓dn_if, ↓dn_ret, ↓dn_retz, ↓dn_retv, ↓dn_brk, ↓dn_cont, ↓dn_cs, ↓dn_sw, ↓dn_pop32, ↓dn_pop64, ↓dn_aop, ↓dn_call, ↓dn_max, ↓dn_min, ↓dn_acp, ↓dn_i2l, ↓dn_args0, ↓dn_args1, og_pad, og_ent, og_rlt, og_rle, og_rgt, og_rge, og_req, og_rne, og_padd, og_psub, og_pmul, List.getD_cons_zero, List.getD_cons_succ, List.set_cons_zero, List.set_cons_succ, List.length_cons, List.length_nil, List.cons_append, List.nil_append, List.replicate, List.append_nil, Nat.reduceAdd, Nat.reduceSub, Nat.reduceEqDiff, if_true, if_false, reduceIte, Int.reduceAdd, Int.reduceSub, Int.reduceMul, Int.reduceNeg, Int.reduceLT, Int.reduceLE, Int.cast_ofNat_Int, true_or, or_true, true_and, and_true, false_and, List.mem_cons, List.not_mem_nil, or_false, false_or, ne_eq]
  exact k_failAt hk h7 hK
theorem k_failF {k : Int} (h7 : h 3 7 ≠ 0) (hK : K 0 h) : m_Tokens_fail [3, k] h K := by
  unfold m_Tokens_fail
  simp -implicitDefEqProofs only [↓dn_den, ↓dn_loc, ↓dn_k, ↓dn_add, ↓dn_sub, ↓dn_mul, ↓dn_div, ↓dn_rem, ↓dn_bop, ↓dn_ladd, ↓dn_lsub, ↓dn_lmul, ↓dn_ldiv, ↓dn_lrem, ↓dn_land, ↓dn_l2i, ↓dn_neg, ↓dn_get, ↓dn_fix, ↓dn_ald, ↓dn_gld, ↓dn_yld, ↓dn_len, ↓dn_gln, ↓dn_cc, ↓dn_cb, ↓dn_and, ↓dn_or, ↓dn_not, ↓dn_cite, ↓dn_ec, ↓dn_ei, ↓dn_skip, ↓dn_seq, ↓dn_set, ↓dn_inc, ↓dn_putf, ↓dn_putz, ↓dn_ast, ↓dn_exp, ↓dn_if, ↓dn_ret, ↓dn_retz, ↓dn_retv, ↓dn_brk, ↓dn_cont, ↓dn_cs, ↓dn_sw, ↓dn_pop32, ↓dn_pop64, ↓dn_aop, ↓dn_call, ↓dn_max, ↓dn_min, ↓dn_acp, ↓dn_i2l, ↓dn_args0, ↓dn_args1, og_pad, og_ent, og_rlt, og_rle, og_rgt, og_rge, og_req, og_rne, og_padd, og_psub, og_pmul, List.getD_cons_zero, List.getD_cons_succ, List.set_cons_zero, List.set_cons_succ, List.length_cons, List.length_nil, List.cons_append, List.nil_append, List.replicate, List.append_nil, Nat.reduceAdd, Nat.reduceSub, Nat.reduceEqDiff, if_true, if_false, reduceIte, Int.reduceAdd, Int.reduceSub, Int.reduceMul, Int.reduceNeg, Int.reduceLT, Int.reduceLE, Int.cast_ofNat_Int, true_or, or_true, true_and, and_true, false_and, List.mem_cons, List.not_mem_nil, or_false, false_or, ne_eq]
  exact k_failAtF h7 hK
theorem k_goesOn (hK : K (if h 3 7 = 0 ∧ ¬ h 3 2 = 0 then 1 else 0) h) : m_Tokens_goesOn [3] h K := by
  unfold m_Tokens_goesOn
  simp -implicitDefEqProofs only [↓dn_den, ↓dn_loc, ↓dn_k, ↓dn_add, ↓dn_sub, ↓dn_mul, ↓dn_div, ↓dn_rem, ↓dn_bop, ↓dn_ladd, ↓dn_lsub, ↓dn_lmul, ↓dn_ldiv, ↓dn_lrem, ↓dn_land, ↓dn_l2i, ↓dn_neg, ↓dn_get, ↓dn_fix, ↓dn_ald, ↓dn_gld, ↓dn_yld, ↓dn_len, ↓dn_gln, ↓dn_cc, ↓dn_cb, ↓dn_and, ↓dn_or, ↓dn_not, ↓dn_cite, ↓dn_ec, ↓dn_ei, ↓dn_skip, ↓dn_seq, ↓dn_set, ↓dn_inc, ↓dn_putf, ↓dn_putz, ↓dn_ast, ↓dn_exp, ↓dn_if, ↓dn_ret, ↓dn_retz, ↓dn_retv, ↓dn_brk, ↓dn_cont, ↓dn_cs, ↓dn_sw, ↓dn_pop32, ↓dn_pop64, ↓dn_aop, ↓dn_call, ↓dn_max, ↓dn_min, ↓dn_acp, ↓dn_i2l, ↓dn_args0, ↓dn_args1, og_pad, og_ent, og_rlt, og_rle, og_rgt, og_rge, og_req, og_rne, og_padd, og_psub, og_pmul, List.getD_cons_zero, List.getD_cons_succ, List.set_cons_zero, List.set_cons_succ, List.length_cons, List.length_nil, List.cons_append, List.nil_append, List.replicate, List.append_nil, Nat.reduceAdd, Nat.reduceSub, Nat.reduceEqDiff, if_true, if_false, reduceIte, Int.reduceAdd, Int.reduceSub, Int.reduceMul, Int.reduceNeg, Int.reduceLT, Int.reduceLE, Int.cast_ofNat_Int, true_or, or_true, true_and, and_true, false_and, List.mem_cons, List.not_mem_nil, or_false, false_or, ne_eq]
  refine ⟨fun z => ⟨fun y => ?_, fun y => ?_⟩, fun z => ?_⟩
  · rw [if_pos ⟨z, y⟩] at hK; first | exact hK | exact ⟨by decide, hK⟩
  · rw [if_neg (fun q => y q.2)] at hK; first | exact hK | exact ⟨by decide, hK⟩
  · rw [if_neg (fun q => z q.1)] at hK; first | exact hK | exact ⟨by decide, hK⟩
theorem k_isNumber (hK : K (if h 3 2 = 2 then 1 else 0) h) : m_Tokens_isNumber [3] h K := by
  unfold m_Tokens_isNumber
  simp -implicitDefEqProofs only [↓dn_den, ↓dn_loc, ↓dn_k, ↓dn_add, ↓dn_sub, ↓dn_mul, ↓dn_div, ↓dn_rem, ↓dn_bop, ↓dn_ladd, ↓dn_lsub, ↓dn_lmul, ↓dn_ldiv, ↓dn_lrem, ↓dn_land, ↓dn_l2i, ↓dn_neg, ↓dn_get, ↓dn_fix, ↓dn_ald, ↓dn_gld, ↓dn_yld, ↓dn_len, ↓dn_gln, ↓dn_cc, ↓dn_cb, ↓dn_and, ↓dn_or, ↓dn_not, ↓dn_cite, ↓dn_ec, ↓dn_ei, ↓dn_skip, ↓dn_seq, ↓dn_set, ↓dn_inc, ↓dn_putf, ↓dn_putz, ↓dn_ast, ↓dn_exp, ↓dn_if, ↓dn_ret, ↓dn_retz, ↓dn_retv, ↓dn_brk, ↓dn_cont, ↓dn_cs, ↓dn_sw, ↓dn_pop32, ↓dn_pop64, ↓dn_aop, ↓dn_call, ↓dn_max, ↓dn_min, ↓dn_acp, ↓dn_i2l, ↓dn_args0, ↓dn_args1, og_pad, og_ent, og_rlt, og_rle, og_rgt, og_rge, og_req, og_rne, og_padd, og_psub, og_pmul, List.getD_cons_zero, List.getD_cons_succ, List.set_cons_zero, List.set_cons_succ, List.length_cons, List.length_nil, List.cons_append, List.nil_append, List.replicate, List.append_nil, Nat.reduceAdd, Nat.reduceSub, Nat.reduceEqDiff, if_true, if_false, reduceIte, Int.reduceAdd, Int.reduceSub, Int.reduceMul, Int.reduceNeg, Int.reduceLT, Int.reduceLE, Int.cast_ofNat_Int, true_or, or_true, true_and, and_true, false_and, List.mem_cons, List.not_mem_nil, or_false, false_or, ne_eq]
  refine ⟨fun z => ?_, fun z => ?_⟩
  · rw [if_pos z] at hK; first | exact hK | exact ⟨by decide, hK⟩
  · rw [if_neg z] at hK; first | exact hK | exact ⟨by decide, hK⟩
theorem k_isSign {x : Int} (hK : K (if h 3 2 = 3 ∧ h 3 5 = x then 1 else 0) h) : m_Tokens_isSign [3, x] h K := by
  unfold m_Tokens_isSign
  simp -implicitDefEqProofs only [↓dn_den, ↓dn_loc, ↓dn_k, ↓dn_add, ↓dn_sub, ↓dn_mul, ↓dn_div, ↓dn_rem, ↓dn_bop, ↓dn_ladd, ↓dn_lsub, ↓dn_lmul, ↓dn_ldiv, ↓dn_lrem, ↓dn_land, ↓dn_l2i, ↓dn_neg, ↓dn_get, ↓dn_fix, ↓dn_ald, ↓dn_gld, ↓dn_yld, ↓dn_len, ↓dn_gln, ↓dn_cc, ↓dn_cb, ↓dn_and, ↓dn_or, ↓dn_not, ↓dn_cite, ↓dn_ec, ↓dn_ei, ↓dn_skip, ↓dn_seq, ↓dn_set, ↓dn_inc, ↓dn_putf, ↓dn_putz, ↓dn_ast, ↓dn_exp, ↓dn_if, ↓dn_ret, ↓dn_retz, ↓dn_retv, ↓dn_brk, ↓dn_cont, ↓dn_cs, ↓dn_sw, ↓dn_pop32, ↓dn_pop64, ↓dn_aop, ↓dn_call, ↓dn_max, ↓dn_min, ↓dn_acp, ↓dn_i2l, ↓dn_args0, ↓dn_args1, og_pad, og_ent, og_rlt, og_rle, og_rgt, og_rge, og_req, og_rne, og_padd, og_psub, og_pmul, List.getD_cons_zero, List.getD_cons_succ, List.set_cons_zero, List.set_cons_succ, List.length_cons, List.length_nil, List.cons_append, List.nil_append, List.replicate, List.append_nil, Nat.reduceAdd, Nat.reduceSub, Nat.reduceEqDiff, if_true, if_false, reduceIte, Int.reduceAdd, Int.reduceSub, Int.reduceMul, Int.reduceNeg, Int.reduceLT, Int.reduceLE, Int.cast_ofNat_Int, true_or, or_true, true_and, and_true, false_and, List.mem_cons, List.not_mem_nil, or_false, false_or, ne_eq]
  refine ⟨fun z => ⟨fun y => ?_, fun y => ?_⟩, fun z => ?_⟩
  · rw [if_pos ⟨z, y⟩] at hK; first | exact hK | exact ⟨by decide, hK⟩
  · rw [if_neg (fun q => y q.2)] at hK; first | exact hK | exact ⟨by decide, hK⟩
  · rw [if_neg (fun q => z q.1)] at hK; first | exact hK | exact ⟨by decide, hK⟩
theorem k_isWord {x : Int} (hK : K (if h 3 2 = 1 ∧ h 3 5 = x then 1 else 0) h) : m_Tokens_isWord [3, x] h K := by
  unfold m_Tokens_isWord
  simp -implicitDefEqProofs only [↓dn_den, ↓dn_loc, ↓dn_k, ↓dn_add, ↓dn_sub, ↓dn_mul, ↓dn_div, ↓dn_rem, ↓dn_bop, ↓dn_ladd, ↓dn_lsub, ↓dn_lmul, ↓dn_ldiv, ↓dn_lrem, ↓dn_land, ↓dn_l2i, ↓dn_neg, ↓dn_get, ↓dn_fix, ↓dn_ald, ↓dn_gld, ↓dn_yld, ↓dn_len, ↓dn_gln, ↓dn_cc, ↓dn_cb, ↓dn_and, ↓dn_or, ↓dn_not, ↓dn_cite, ↓dn_ec, ↓dn_ei, ↓dn_skip, ↓dn_seq, ↓dn_set, ↓dn_inc, ↓dn_putf, ↓dn_putz, ↓dn_ast, ↓dn_exp, ↓dn_if, ↓dn_ret, ↓dn_retz, ↓dn_retv, ↓dn_brk, ↓dn_cont, ↓dn_cs, ↓dn_sw, ↓dn_pop32, ↓dn_pop64, ↓dn_aop, ↓dn_call, ↓dn_max, ↓dn_min, ↓dn_acp, ↓dn_i2l, ↓dn_args0, ↓dn_args1, og_pad, og_ent, og_rlt, og_rle, og_rgt, og_rge, og_req, og_rne, og_padd, og_psub, og_pmul, List.getD_cons_zero, List.getD_cons_succ, List.set_cons_zero, List.set_cons_succ, List.length_cons, List.length_nil, List.cons_append, List.nil_append, List.replicate, List.append_nil, Nat.reduceAdd, Nat.reduceSub, Nat.reduceEqDiff, if_true, if_false, reduceIte, Int.reduceAdd, Int.reduceSub, Int.reduceMul, Int.reduceNeg, Int.reduceLT, Int.reduceLE, Int.cast_ofNat_Int, true_or, or_true, true_and, and_true, false_and, List.mem_cons, List.not_mem_nil, or_false, false_or, ne_eq]
  refine ⟨fun z => ⟨fun y => ?_, fun y => ?_⟩, fun z => ?_⟩
  · rw [if_pos ⟨z, y⟩] at hK; first | exact hK | exact ⟨by decide, hK⟩
  · rw [if_neg (fun q => y q.2)] at hK; first | exact hK | exact ⟨by decide, hK⟩
  · rw [if_neg (fun q => z q.1)] at hK; first | exact hK | exact ⟨by decide, hK⟩
theorem k_word (hK : K (if h 3 2 = 1 then h 3 5 else -1) h) : m_Tokens_word [3] h K := by
  unfold m_Tokens_word
  simp -implicitDefEqProofs only [↓dn_den, ↓dn_loc, ↓dn_k, ↓dn_add, ↓dn_sub, ↓dn_mul, ↓dn_div, ↓dn_rem, ↓dn_bop, ↓dn_ladd, ↓dn_lsub, ↓dn_lmul, ↓dn_ldiv, ↓dn_lrem, ↓dn_land, ↓dn_l2i, ↓dn_neg, ↓dn_get, ↓dn_fix, ↓dn_ald, ↓dn_gld, ↓dn_yld, ↓dn_len, ↓dn_gln, ↓dn_cc, ↓dn_cb, ↓dn_and, ↓dn_or, ↓dn_not, ↓dn_cite, ↓dn_ec, ↓dn_ei, ↓dn_skip, ↓dn_seq, ↓dn_set, ↓dn_inc, ↓dn_putf, ↓dn_putz, ↓dn_ast, ↓dn_exp, ↓dn_if, ↓dn_ret, ↓dn_retz, ↓dn_retv, ↓dn_brk, ↓dn_cont, ↓dn_cs, ↓dn_sw, ↓dn_pop32, ↓dn_pop64, ↓dn_aop, ↓dn_call, ↓dn_max, ↓dn_min, ↓dn_acp, ↓dn_i2l, ↓dn_args0, ↓dn_args1, og_pad, og_ent, og_rlt, og_rle, og_rgt, og_rge, og_req, og_rne, og_padd, og_psub, og_pmul, List.getD_cons_zero, List.getD_cons_succ, List.set_cons_zero, List.set_cons_succ, List.length_cons, List.length_nil, List.cons_append, List.nil_append, List.replicate, List.append_nil, Nat.reduceAdd, Nat.reduceSub, Nat.reduceEqDiff, if_true, if_false, reduceIte, Int.reduceAdd, Int.reduceSub, Int.reduceMul, Int.reduceNeg, Int.reduceLT, Int.reduceLE, Int.cast_ofNat_Int, true_or, or_true, true_and, and_true, false_and, List.mem_cons, List.not_mem_nil, or_false, false_or, ne_eq]
  refine ⟨fun z => ?_, fun z => ?_⟩
  · rw [if_pos z] at hK; exact hK
  · rw [if_neg z] at hK; exact hK
theorem k_isName (hK : K (if h 3 2 = 1 ∧ (h 3 5 = -1 ∨ 25 ≤ h 3 5) then 1 else 0) h) : m_Tokens_isName [3] h K := by
  unfold m_Tokens_isName
  simp -implicitDefEqProofs only [↓dn_den, ↓dn_loc, ↓dn_k, ↓dn_add, ↓dn_sub, ↓dn_mul, ↓dn_div, ↓dn_rem, ↓dn_bop, ↓dn_ladd, ↓dn_lsub, ↓dn_lmul, ↓dn_ldiv, ↓dn_lrem, ↓dn_land, ↓dn_l2i, ↓dn_neg, ↓dn_get, ↓dn_fix, ↓dn_ald, ↓dn_gld, ↓dn_yld, ↓dn_len, ↓dn_gln, ↓dn_cc, ↓dn_cb, ↓dn_and, ↓dn_or, ↓dn_not, ↓dn_cite, ↓dn_ec, ↓dn_ei, ↓dn_skip, ↓dn_seq, ↓dn_set, ↓dn_inc, ↓dn_putf, ↓dn_putz, ↓dn_ast, ↓dn_exp, ↓dn_if, ↓dn_ret, ↓dn_retz, ↓dn_retv, ↓dn_brk, ↓dn_cont, ↓dn_cs, ↓dn_sw, ↓dn_pop32, ↓dn_pop64, ↓dn_aop, ↓dn_call, ↓dn_max, ↓dn_min, ↓dn_acp, ↓dn_i2l, ↓dn_args0, ↓dn_args1, og_pad, og_ent, og_rlt, og_rle, og_rgt, og_rge, og_req, og_rne, og_padd, og_psub, og_pmul, List.getD_cons_zero, List.getD_cons_succ, List.set_cons_zero, List.set_cons_succ, List.length_cons, List.length_nil, List.cons_append, List.nil_append, List.replicate, List.append_nil, Nat.reduceAdd, Nat.reduceSub, Nat.reduceEqDiff, if_true, if_false, reduceIte, Int.reduceAdd, Int.reduceSub, Int.reduceMul, Int.reduceNeg, Int.reduceLT, Int.reduceLE, Int.cast_ofNat_Int, true_or, or_true, true_and, and_true, false_and, List.mem_cons, List.not_mem_nil, or_false, false_or, ne_eq]
  refine ⟨fun z => ⟨fun y => ?_, fun y => ⟨fun x => ?_, fun x => ?_⟩⟩, fun z => ?_⟩
  · rw [if_pos ⟨z, Or.inl y⟩] at hK; first | exact hK | exact ⟨by decide, hK⟩
  · rw [if_pos ⟨z, Or.inr x⟩] at hK; first | exact hK | exact ⟨by decide, hK⟩
  · rw [if_neg (fun q => q.2.elim y x)] at hK; first | exact hK | exact ⟨by decide, hK⟩
  · rw [if_neg (fun q => z q.1)] at hK; first | exact hK | exact ⟨by decide, hK⟩
end
end
