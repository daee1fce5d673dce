theorem sNp_eq {A B : Yd} (h : B 0 1 = A 0 1) : sNp B = sNp A := by unfold sNp; rw [h]
theorem sNg_eq {A B : Yd} (h : B 0 0 = A 0 0) : sNg B = sNg A := by unfold sNg; rw [h]
theorem sTake_none {W : Int → Int} {B : Yd} : ∀ n : Nat, (∀ g : Nat, g < n → sAsk B g = true → B 3 g ≠ 0) → sTake W B n = (B, 0)
  | 0, _ => rfl
  | n + 1, h => by
    have ih := sTake_none (W := W) n (fun g hg => h g (by omega))
    rw [sTake_s, ih]
    have hf : sTakes B n W = false := by
      unfold sTakes
      by_cases q : sAsk B n = true
      · have := h n (by omega) q
        simp [this]
      · have : sAsk B n = false := by simpa using q
        rw [this]; rfl
    dsimp only
    unfold sTake1
    rw [hf]
    rfl
theorem isY_up2 {h : Hp} {y v : Int} {A : Yd} (hy : isY h y A) : isY (og_up h y 2 v) y (sUp A 0 2 v) := by
  have a1 := hy.1
  have a2 := hy.2.1
  have a3 := hy.2.2.1
  have a4 := hy.2.2.2
  have z : ∀ k', k' ≠ 2 → sUp A 0 2 v 0 k' = A 0 k' := fun k' hk => sUp_k hk
  have zy : ∀ k', k' ≠ 2 → og_up h y 2 v y k' = h y k' := fun k' hk => og_up_k hk
  refine ⟨⟨?_, ?_, ?_, ?_⟩, fun k' k0 k1 => ?_, fun k' k0 k1 => ?_, fun k' k0 k1 => ?_⟩
  · rw [z _ (by decide), zy _ (by decide)]; exact a1.1
  · rw [z _ (by decide), zy _ (by decide)]; exact a1.2.1
  · rw [sUp_eq, og_up_eq]
  · rw [z _ (by decide), zy _ (by decide)]; exact a1.2.2.2
  · rw [z _ (by decide)] at k1
    simp (disch := omega) only [og_up_i, sUp_c]
    exact a2 k' k0 k1
  · rw [z _ (by decide)] at k1
    simp (disch := omega) only [og_up_i, sUp_c]
    exact a3 k' k0 k1
  · rw [z _ (by decide)] at k1
    simp (disch := omega) only [og_up_i, sUp_c]
    exact a4 k' k0 k1
theorem frY_up2 {h h1 : Hp} {y v : Int} (hf : frY y h h1) : frY y h (og_up h1 y 2 v) := fun i k' a b d => by
  rw [og_up_i (by omega)]
  exact hf i k' a b d
-- what a month leaves alone
theorem sPass_sc {P : Pr} {A : Yd} : (sAge P A) 0 0 = A 0 0 ∧ (sAge P A) 0 1 = A 0 1 ∧ (sAge P A) 0 2 = A 0 2 ∧ ∀ k, (sAge P A) 1 k = A 1 k ∧ (sAge P A) 5 k = A 5 k ∧ (sAge P A) 2 k = A 2 k := by
  have b1 := sameB_come (P := P) (A := A) (n := sNp A)
  have b2 := sameD_near (A := sCome P A (sNp A)) (n := sNg A)
  have b3 := sameB_take (W := fun p => sVal (P 10) (sNear (sCome P A (sNp A)) (sNg A)) p 0) (A := sNear (sCome P A (sNp A)) (sNg A)) (n := sNg A)
  have b4 := sameC_heart (P := P) (t := (sTk P A).2) (A := (sTk P A).1) (n := sNp A)
  have b5 := sameC_old (A := sHt P A) (n := sNp A)
  have key : ∀ c k, c ≠ 6 → sAge P A c k = sHt P A c k := by
    intro c k hc
    unfold sAge
    split
    · exact b5 c k hc
    · rfl
  have k2 : ∀ c k, c ≠ 7 → sHt P A c k = (sTk P A).1 c k := fun c k hc => b4 c k hc
  refine ⟨?_, ?_, ?_, fun k => ⟨?_, ?_, ?_⟩⟩
  · rw [key _ _ (by decide), k2 _ _ (by decide)]; exact b3.1.trans ((b2 0 0 (by decide)).trans b1.1)
  · rw [key _ _ (by decide), k2 _ _ (by decide)]; exact b3.2.1.trans ((b2 0 1 (by decide)).trans b1.2.1)
  · rw [key _ _ (by decide), k2 _ _ (by decide)]; exact b3.2.2.1.trans ((b2 0 2 (by decide)).trans b1.2.2.1)
  · rw [key _ _ (by decide), k2 _ _ (by decide)]; exact (b3.2.2.2 1 k (by decide) (by decide) (by decide) (by decide)).trans ((b2 1 k (by decide)).trans (b1.2.2.2 1 k (by decide) (by decide) (by decide) (by decide)))
  · rw [key _ _ (by decide), k2 _ _ (by decide)]; exact (b3.2.2.2 5 k (by decide) (by decide) (by decide) (by decide)).trans ((b2 5 k (by decide)).trans (b1.2.2.2 5 k (by decide) (by decide) (by decide) (by decide)))
  · rw [key _ _ (by decide), k2 _ _ (by decide)]; exact (b3.2.2.2 2 k (by decide) (by decide) (by decide) (by decide)).trans ((b2 2 k (by decide)).trans (b1.2.2.2 2 k (by decide) (by decide) (by decide) (by decide)))
theorem okY_tk {P : Pr} {A : Yd} (ho : okY A) : okY (sTk P A).1 := okY_take (okY_near (okY_come ho (by have := ho.1; unfold sNp; omega)))
theorem tk_sc {P : Pr} {A : Yd} : (sTk P A).1 0 0 = A 0 0 ∧ (sTk P A).1 0 1 = A 0 1 ∧ (sTk P A).1 0 2 = A 0 2 := by
  have b1 := sameB_come (P := P) (A := A) (n := sNp A)
  have b2 := sameD_near (A := sCome P A (sNp A)) (n := sNg A)
  have b3 := sameB_take (W := fun p => sVal (P 10) (sNear (sCome P A (sNp A)) (sNg A)) p 0) (A := sNear (sCome P A (sNp A)) (sNg A)) (n := sNg A)
  exact ⟨b3.1.trans ((b2 0 0 (by decide)).trans b1.1), b3.2.1.trans ((b2 0 1 (by decide)).trans b1.2.1), b3.2.2.1.trans ((b2 0 2 (by decide)).trans b1.2.2.1)⟩
theorem okY_age {P : Pr} {A : Yd} (ho : okY A) : okY (sAge P A) := by
  unfold sAge
  have h1 : okY (sHt P A) := okY_heart (okY_tk ho)
  split
  · refine okY_old h1 ?_
    have : sHt P A 0 1 = A 0 1 := (sameC_heart 0 1 (by decide)).trans tk_sc.2.1
    have := ho.1
    unfold sNp
    omega
  · exact h1
theorem okY_pass {P : Pr} {A : Yd} (ho : okY A) (hm : A 0 2 < 2000) : okY (sPass P A) := by
  have h := okY_age (P := P) ho
  have sc := sPass_sc (P := P) (A := A)
  have h0 := ho.1
  unfold sPass
  have z : ∀ k', k' ≠ 2 → sUp (sAge P A) 0 2 (A 0 2 + 1) 0 k' = (sAge P A) 0 k' := fun k' hk => sUp_k hk
  refine ⟨?_, fun k k0 k1 => ?_, fun k k0 k1 => ?_⟩
  · rw [z 0 (by decide), z 1 (by decide), z 3 (by decide), sUp_eq]
    have := h.1
    omega
  · rw [z _ (by decide)] at k1
    simp (disch := omega) only [sUp_c, z _ (show (1 : Int) ≠ 2 by decide)]
    exact h.2.1 k k0 k1
  · rw [z _ (by decide)] at k1
    simp (disch := omega) only [sUp_c]
    exact h.2.2 k k0 k1
theorem s_Alm_pass {h : Hp} {s y : Int} {A : Yd} {P : Pr} {K : Int → Hp → Prop} (hR : hasR h s (A 0 1) P) (hP : okP P) (hs : 10 < s) (hs2 : s + 3 < y) (hy : isY h y A) (ho : okY A) (hm : A 0 2 < 999)
    (hK : ∀ h', isY h' y (sPass P A) → frY y h h' → K (sTk P A).2 h') : m_Almanac_pass [8, s, y] h K := by
  have h6 := ho.1
  unfold m_Almanac_pass
  simp only [og_den, og_pad, og_ent, og_loc, og_k, og_add, og_sub, og_mul, og_div, og_rem, og_bop, og_ladd, og_lsub, og_lmul, og_ldiv, og_lrem, og_land, og_i2l, og_l2i, og_neg, og_get, og_fix, og_ald, og_gld, og_yld, og_len, og_gln, og_cc, og_cb, og_and, og_or, og_not, og_cite, og_ec, og_ei, og_rlt, og_rle, og_rgt, og_rge, og_req, og_rne, og_skip, og_seq, og_set, og_inc, og_putf, og_putz, og_ast, og_exp, og_if, og_ret, og_retz, og_retv, og_brk, og_cont, og_cs, og_sw, og_pop32, og_pop64, og_aop, og_padd, og_psub, og_pmul, og_call, og_args, og_max, og_min, og_acp, List.getD_cons_zero, List.getD_cons_succ, List.set_cons_zero, List.set_cons_succ, List.length_cons, List.length_nil, List.cons_append, List.nil_append, List.replicate, List.append_nil, Nat.reduceAdd, Nat.reduceSub, Nat.reduceEqDiff, if_true, if_false, reduceIte, Int.reduceAdd, Int.reduceSub, Int.reduceMul, Int.reduceNeg, Int.reduceLT, Int.reduceLE, Int.cast_ofNat_Int, true_or, or_true, true_and, and_true, false_and, List.mem_cons, List.not_mem_nil, or_false, false_or, ne_eq]
  refine s_Alm_come hR hP hs hs2 hy ho (fun h1 hY1 hF1 => ?_)
  have b1 := sameB_come (P := P) (A := A) (n := sNp A)
  have o1 : okY (sCome P A (sNp A)) := okY_come ho (by unfold sNp; omega)
  have eg : sNg (sCome P A (sNp A)) = sNg A := sNg_sameB b1
  have ep : sNp (sCome P A (sNp A)) = sNp A := sNp_sameB b1
  refine ⟨fun e2 h2 => e2 = [8, s, y, (sTk P A).2] ∧ isY h2 y (sTk P A).1 ∧ frY y h h2, ?_, ?_⟩
  · simp only [og_den, og_pad, og_ent, og_loc, og_k, og_add, og_sub, og_mul, og_div, og_rem, og_bop, og_ladd, og_lsub, og_lmul, og_ldiv, og_lrem, og_land, og_i2l, og_l2i, og_neg, og_get, og_fix, og_ald, og_gld, og_yld, og_len, og_gln, og_cc, og_cb, og_and, og_or, og_not, og_cite, og_ec, og_ei, og_rlt, og_rle, og_rgt, og_rge, og_req, og_rne, og_skip, og_seq, og_set, og_inc, og_putf, og_putz, og_ast, og_exp, og_if, og_ret, og_retz, og_retv, og_brk, og_cont, og_cs, og_sw, og_pop32, og_pop64, og_aop, og_padd, og_psub, og_pmul, og_call, og_args, og_max, og_min, og_acp, List.getD_cons_zero, List.getD_cons_succ, List.set_cons_zero, List.set_cons_succ, List.length_cons, List.length_nil, List.cons_append, List.nil_append, List.replicate, List.append_nil, Nat.reduceAdd, Nat.reduceSub, Nat.reduceEqDiff, if_true, if_false, reduceIte, Int.reduceAdd, Int.reduceSub, Int.reduceMul, Int.reduceNeg, Int.reduceLT, Int.reduceLE, Int.cast_ofNat_Int, true_or, or_true, true_and, and_true, false_and, List.mem_cons, List.not_mem_nil, or_false, false_or, ne_eq]
    refine s_Alm_near (by omega) hY1 o1 (fun h2 b hY2 hF2 hb hb0 => ?_)
    rw [eg] at hY2 hb0
    have o2 : okY (sNear (sCome P A (sNp A)) (sNg A)) := okY_near o1
    have d2 := sameD_near (A := sCome P A (sNp A)) (n := sNg A)
    have hF12 := frY_tr hF1 hF2
    have ep2 : sNp (sNear (sCome P A (sNp A)) (sNg A)) = sNp A := sNp_eq ((d2 0 1 (by decide)).trans b1.2.1)
    have eg2 : sNg (sNear (sCome P A (sNp A)) (sNg A)) = sNg A := sNg_eq ((d2 0 0 (by decide)).trans b1.1)
    refine ⟨fun hb1 => ?_, fun hb1 => ?_⟩
    · refine s_Alm_weigh (hasR_N (hasR_fr hR hF12 hs hs2) ((d2 0 1 (by decide)).trans b1.2.1)) hP hs hs2 hY2 o2 (fun h3 hF3 hW3 => ?_)
      have hY3 := isY_79 hY2 (by omega) hF3
      refine s_Alm_take (W := fun p => sVal (P 10) (sNear (sCome P A (sNp A)) (sNg A)) p 0) (by omega) hY3 o2 hW3 (fun h4 hY4 hF4 => ?_)
      rw [eg2] at hY4 ⊢
      exact ⟨rfl, hY4, frY_tr hF12 (frY_tr (frY_79 hF3) hF4)⟩
    · have hnone : sTk P A = (sNear (sCome P A (sNp A)) (sNg A), 0) := by
        unfold sTk
        apply sTake_none
        intro g hg ha
        refine hb0 hb1 g hg ?_
        unfold sAsk at ha ⊢
        rw [d2 2 _ (by decide), d2 4 _ (by decide)] at ha
        exact ha
      rw [hnone]
      exact ⟨rfl, hY2, hF12⟩
  · rintro e2 h2 ⟨rfl, hY2, hF2⟩
    have o2 := okY_tk (P := P) ho
    have sc := tk_sc (P := P) (A := A)
    have ep3 : sNp (sTk P A).1 = sNp A := sNp_eq sc.2.1
    have tr := sTake_rg (W := fun p => sVal (P 10) (sNear (sCome P A (sNp A)) (sNg A)) p 0) (A := sNear (sCome P A (sNp A)) (sNg A)) (n := sNg A)
    have tr2 : 0 ≤ (sTk P A).2 ∧ (sTk P A).2 ≤ sNg A := tr
    have hng : sNg A = (A 0 0).toNat := rfl
    simp only [og_den, og_pad, og_ent, og_loc, og_k, og_add, og_sub, og_mul, og_div, og_rem, og_bop, og_ladd, og_lsub, og_lmul, og_ldiv, og_lrem, og_land, og_i2l, og_l2i, og_neg, og_get, og_fix, og_ald, og_gld, og_yld, og_len, og_gln, og_cc, og_cb, og_and, og_or, og_not, og_cite, og_ec, og_ei, og_rlt, og_rle, og_rgt, og_rge, og_req, og_rne, og_skip, og_seq, og_set, og_inc, og_putf, og_putz, og_ast, og_exp, og_if, og_ret, og_retz, og_retv, og_brk, og_cont, og_cs, og_sw, og_pop32, og_pop64, og_aop, og_padd, og_psub, og_pmul, og_call, og_args, og_max, og_min, og_acp, List.getD_cons_zero, List.getD_cons_succ, List.set_cons_zero, List.set_cons_succ, List.length_cons, List.length_nil, List.cons_append, List.nil_append, List.replicate, List.append_nil, Nat.reduceAdd, Nat.reduceSub, Nat.reduceEqDiff, if_true, if_false, reduceIte, Int.reduceAdd, Int.reduceSub, Int.reduceMul, Int.reduceNeg, Int.reduceLT, Int.reduceLE, Int.cast_ofNat_Int, true_or, or_true, true_and, and_true, false_and, List.mem_cons, List.not_mem_nil, or_false, false_or, ne_eq]
    refine s_Alm_hearts (hasR_N (hasR_fr hR hF2 hs hs2) sc.2.1) hP hs hs2 hY2 o2 (by omega) (fun h3 hY3 hF3 => ?_)
    rw [ep3] at hY3
    have hY3 : isY h3 y (sHt P A) := hY3
    have o3 : okY (sHt P A) := okY_heart o2
    have hm3 : h3 y 2 = A 0 2 := by rw [hY3.1.2.2.1]; exact (sameC_heart 0 2 (by decide)).trans sc.2.2
    have hF23 := frY_tr hF2 hF3
    have ep4 : sNp (sHt P A) = sNp A := by
      exact sNp_eq ((sameC_heart 0 1 (by decide)).trans sc.2.1)
    refine ⟨fun e4 h4 => e4 = [8, s, y, (sTk P A).2] ∧ isY h4 y (sAge P A) ∧ frY y h h4, ?_, ?_⟩
    · simp only [og_den, og_pad, og_ent, og_loc, og_k, og_add, og_sub, og_mul, og_div, og_rem, og_bop, og_ladd, og_lsub, og_lmul, og_ldiv, og_lrem, og_land, og_i2l, og_l2i, og_neg, og_get, og_fix, og_ald, og_gld, og_yld, og_len, og_gln, og_cc, og_cb, og_and, og_or, og_not, og_cite, og_ec, og_ei, og_rlt, og_rle, og_rgt, og_rge, og_req, og_rne, og_skip, og_seq, og_set, og_inc, og_putf, og_putz, og_ast, og_exp, og_if, og_ret, og_retz, og_retv, og_brk, og_cont, og_cs, og_sw, og_pop32, og_pop64, og_aop, og_padd, og_psub, og_pmul, og_call, og_args, og_max, og_min, og_acp, List.getD_cons_zero, List.getD_cons_succ, List.set_cons_zero, List.set_cons_succ, List.length_cons, List.length_nil, List.cons_append, List.nil_append, List.replicate, List.append_nil, Nat.reduceAdd, Nat.reduceSub, Nat.reduceEqDiff, if_true, if_false, reduceIte, Int.reduceAdd, Int.reduceSub, Int.reduceMul, Int.reduceNeg, Int.reduceLT, Int.reduceLE, Int.cast_ofNat_Int, true_or, or_true, true_and, and_true, false_and, List.mem_cons, List.not_mem_nil, or_false, false_or, ne_eq]
      have ht : (h3 y 2).tmod 12 = A 0 2 % 12 := by rw [hm3]; exact Int.tmod_eq_emod_of_nonneg h6.2.2.2.2.1
      rw [ht]
      refine ⟨by decide, fun e => ?_, fun e => ?_⟩
      · refine s_Alm_old (by omega) hY3 o3 (fun h5 hY5 hF5 => ⟨?_, frY_tr hF23 hF5⟩)
        rw [ep4] at hY5
        unfold sAge
        rw [if_pos e]
        exact hY5
      · refine ⟨?_, hF23⟩
        unfold sAge
        rw [if_neg e]
        exact hY3
    · rintro e4 h4 ⟨rfl, hY4, hF4⟩
      simp only [og_den, og_pad, og_ent, og_loc, og_k, og_add, og_sub, og_mul, og_div, og_rem, og_bop, og_ladd, og_lsub, og_lmul, og_ldiv, og_lrem, og_land, og_i2l, og_l2i, og_neg, og_get, og_fix, og_ald, og_gld, og_yld, og_len, og_gln, og_cc, og_cb, og_and, og_or, og_not, og_cite, og_ec, og_ei, og_rlt, og_rle, og_rgt, og_rge, og_req, og_rne, og_skip, og_seq, og_set, og_inc, og_putf, og_putz, og_ast, og_exp, og_if, og_ret, og_retz, og_retv, og_brk, og_cont, og_cs, og_sw, og_pop32, og_pop64, og_aop, og_padd, og_psub, og_pmul, og_call, og_args, og_max, og_min, og_acp, List.getD_cons_zero, List.getD_cons_succ, List.set_cons_zero, List.set_cons_succ, List.length_cons, List.length_nil, List.cons_append, List.nil_append, List.replicate, List.append_nil, Nat.reduceAdd, Nat.reduceSub, Nat.reduceEqDiff, if_true, if_false, reduceIte, Int.reduceAdd, Int.reduceSub, Int.reduceMul, Int.reduceNeg, Int.reduceLT, Int.reduceLE, Int.cast_ofNat_Int, true_or, or_true, true_and, and_true, false_and, List.mem_cons, List.not_mem_nil, or_false, false_or, ne_eq, og_i32]
      have sA := sPass_sc (P := P) (A := A)
      have hm4 : h4 y 2 = A 0 2 := by rw [hY4.1.2.2.1]; exact sA.2.2.1
      rw [hm4]
      have hmn : min 999 (A 0 2 + 1) = A 0 2 + 1 := by omega
      rw [hmn]
      refine ⟨by omega, hK _ (isY_up2 hY4) (frY_up2 hF4)⟩
