theorem isY_79 {h h' : Hp} {y : Int} {A : Yd} (hy : isY h y A) (hy9 : 10 < y) (h7 : ∀ i k, i ≠ 7 → i ≠ 9 → h' i k = h i k) : isY h' y A := by
  have a1 := hy.1
  have a2 := hy.2.1
  have a3 := hy.2.2.1
  have a4 := hy.2.2.2
  refine ⟨⟨?_, ?_, ?_, ?_⟩, fun k k0 k1 => ⟨?_, ?_, ?_, ?_⟩, fun k k0 k1 => ⟨?_, ?_, ?_, ?_⟩, fun k k0 k1 => ?_⟩ <;> rw [h7 _ _ (by omega) (by omega)] <;> grind
theorem frY_79 {h h' : Hp} {y : Int} (h7 : ∀ i k, i ≠ 7 → i ≠ 9 → h' i k = h i k) : frY y h h' := fun i k a b _ => h7 i k a b
def weighJ (h : Hp) (s y : Int) (A : Yd) (P : Pr) (i : Nat) (e1 : List Int) (h1 : Hp) : Prop := e1 = [8, s, y, (i : Int)] ∧ (∀ j k, j ≠ 7 → j ≠ 9 → h1 j k = h j k) ∧ ∀ p : Nat, p < i → sLive A p = true → h1 9 p = sVal (P 10) A p 0
theorem s_Alm_weigh {h : Hp} {s y : Int} {A : Yd} {P : Pr} {K : Int → Hp → Prop} (hR : hasR h s P) (hP : okP P) (hs : 10 < s) (hs2 : s + 3 < y) (hy : isY h y A) (ho : okY A)
    (hK : ∀ h', (∀ j k, j ≠ 7 → j ≠ 9 → h' j k = h j k) → (∀ p : Nat, p < sNp A → sLive A p = true → h' 9 p = sVal (P 10) A p 0) → K 0 h') : m_Almanac_weigh [8, s, y] h K := by
  have h6 := ho.1
  unfold m_Almanac_weigh
  simp only [og_den, og_pad, og_ent, og_loc, og_k, og_add, og_sub, og_mul, og_div, og_rem, og_bop, og_ladd, og_lsub, og_lmul, og_ldiv, og_lrem, og_land, og_i2l, og_l2i, og_neg, og_get, og_fix, og_ald, og_gld, og_yld, og_len, og_gln, og_cc, og_cb, og_and, og_or, og_not, og_cite, og_ec, og_ei, og_rlt, og_rle, og_rgt, og_rge, og_req, og_rne, og_skip, og_seq, og_set, og_inc, og_putf, og_putz, og_ast, og_exp, og_if, og_ret, og_retz, og_retv, og_brk, og_cont, og_cs, og_sw, og_pop32, og_pop64, og_aop, og_padd, og_psub, og_pmul, og_call, og_args, og_max, og_min, og_acp, List.getD_cons_zero, List.getD_cons_succ, List.set_cons_zero, List.set_cons_succ, List.length_cons, List.length_nil, List.cons_append, List.nil_append, List.replicate, List.append_nil, Nat.reduceAdd, Nat.reduceSub, Nat.reduceEqDiff, if_true, if_false, reduceIte, Int.reduceAdd, Int.reduceSub, Int.reduceMul, Int.reduceNeg, Int.reduceLT, Int.reduceLE, Int.cast_ofNat_Int, true_or, or_true, true_and, and_true, false_and, List.mem_cons, List.not_mem_nil, or_false, false_or, ne_eq]
  refine og_loop (sNp A) (weighJ h s y A P) ⟨rfl, fun _ _ _ _ => rfl, fun p hp => absurd hp (by omega)⟩ ?_
  rintro i e1 h1 hi ⟨rfl, hF, hW⟩
  simp only [og_den, og_pad, og_ent, og_loc, og_k, og_add, og_sub, og_mul, og_div, og_rem, og_bop, og_ladd, og_lsub, og_lmul, og_ldiv, og_lrem, og_land, og_i2l, og_l2i, og_neg, og_get, og_fix, og_ald, og_gld, og_yld, og_len, og_gln, og_cc, og_cb, og_and, og_or, og_not, og_cite, og_ec, og_ei, og_rlt, og_rle, og_rgt, og_rge, og_req, og_rne, og_skip, og_seq, og_set, og_inc, og_putf, og_putz, og_ast, og_exp, og_if, og_ret, og_retz, og_retv, og_brk, og_cont, og_cs, og_sw, og_pop32, og_pop64, og_aop, og_padd, og_psub, og_pmul, og_call, og_args, og_max, og_min, og_acp, List.getD_cons_zero, List.getD_cons_succ, List.set_cons_zero, List.set_cons_succ, List.length_cons, List.length_nil, List.cons_append, List.nil_append, List.replicate, List.append_nil, Nat.reduceAdd, Nat.reduceSub, Nat.reduceEqDiff, if_true, if_false, reduceIte, Int.reduceAdd, Int.reduceSub, Int.reduceMul, Int.reduceNeg, Int.reduceLT, Int.reduceLE, Int.cast_ofNat_Int, true_or, or_true, true_and, and_true, false_and, List.mem_cons, List.not_mem_nil, or_false, false_or, ne_eq, og_i32]
  have hY := isY_79 hy (by omega) hF
  have hnp : sNp A = (A 0 1).toNat := rfl
  have e1 := hY.1.2.1
  rw [e1]
  refine ⟨fun hlt => ?_, fun hge => ?_⟩
  · have hl8 := hY.2.2.1 i (by omega) hlt
    apply s_Yard_lives (by omega)
    refine ⟨fun hx => ?_, fun hx => ?_⟩
    · obtain ⟨u, hu, -⟩ := hP 10 (by decide) (by decide)
      refine s_Reck_value (isR_fr (hR 10 (by decide) (by decide)) (frY_79 (y := y) hF) hs hs2) (by decide) hs (by omega) hY ⟨ho, by omega, by omega⟩ (by decide) hu (fun h2 h7 => ?_)
      refine ⟨by omega, by omega, by omega, og_nx_mk (by omega) ⟨by simp, fun j k a b => ?_, fun p hp hlv => ?_⟩⟩
      · rw [og_up_i b, h7 j k a]; exact hF j k a b
      · by_cases e : p = i
        · subst e; rw [og_up_eq]
        · rw [og_up_k (by omega), h7 _ _ (by decide)]; exact hW p (by omega) hlv
    · refine ⟨by omega, og_nx_mk (by omega) ⟨by simp, hF, fun p hp hlv => ?_⟩⟩
      by_cases e : p = i
      · subst e
        unfold sLive at hlv
        grind
      · exact hW p (by omega) hlv
  · have : i = sNp A := by omega
    subst this
    exact hK h1 hF hW
theorem sHeavy_s (W : Int → Int) (A : Yd) (g : Int) (n : Nat) : sHeavy W A g (n + 1) = if sLive A (n : Int) && sFit A (n : Int) g && (decide (sHeavy W A g n = -1) || decide (W (sHeavy W A g n) < W (n : Int))) then (n : Int) else sHeavy W A g n := rfl
theorem sHeavy_rg (W : Int → Int) (A : Yd) (g : Int) (n : Nat) : (-1 ≤ sHeavy W A g n ∧ sHeavy W A g n < n) ∧ (sHeavy W A g n ≠ -1 → sLive A (sHeavy W A g n) = true ∧ sFit A (sHeavy W A g n) g = true) := by
  induction n with
  | zero => exact ⟨⟨Int.le_refl _, show (-1 : Int) < 0 by decide⟩, fun h => absurd rfl h⟩
  | succ n ih =>
    rw [sHeavy_s]
    split
    · rename_i hc
      simp only [Bool.and_eq_true] at hc
      exact ⟨by omega, fun _ => hc.1⟩
    · exact ⟨by omega, ih.2⟩
theorem s_Alm_heaviest {h : Hp} {y g : Int} {A : Yd} {W : Int → Int} {K : Int → Hp → Prop} (hy : isY h y A) (ho : okY A) (hg0 : 0 ≤ g) (hg1 : g < A 0 0) (hW : ∀ p : Nat, p < sNp A → sLive A p = true → h 9 p = W p) (hK : K (sHeavy W A g (sNp A)) h) : m_Almanac_heaviest [8, y, g] h K := by
  have h6 := ho.1
  unfold m_Almanac_heaviest
  simp only [og_den, og_pad, og_ent, og_loc, og_k, og_add, og_sub, og_mul, og_div, og_rem, og_bop, og_ladd, og_lsub, og_lmul, og_ldiv, og_lrem, og_land, og_i2l, og_l2i, og_neg, og_get, og_fix, og_ald, og_gld, og_yld, og_len, og_gln, og_cc, og_cb, og_and, og_or, og_not, og_cite, og_ec, og_ei, og_rlt, og_rle, og_rgt, og_rge, og_req, og_rne, og_skip, og_seq, og_set, og_inc, og_putf, og_putz, og_ast, og_exp, og_if, og_ret, og_retz, og_retv, og_brk, og_cont, og_cs, og_sw, og_pop32, og_pop64, og_aop, og_padd, og_psub, og_pmul, og_call, og_args, og_max, og_min, og_acp, List.getD_cons_zero, List.getD_cons_succ, List.set_cons_zero, List.set_cons_succ, List.length_cons, List.length_nil, List.cons_append, List.nil_append, List.replicate, List.append_nil, Nat.reduceAdd, Nat.reduceSub, Nat.reduceEqDiff, if_true, if_false, reduceIte, Int.reduceAdd, Int.reduceSub, Int.reduceMul, Int.reduceNeg, Int.reduceLT, Int.reduceLE, Int.cast_ofNat_Int, true_or, or_true, true_and, and_true, false_and, List.mem_cons, List.not_mem_nil, or_false, false_or, ne_eq]
  refine ⟨fun e1 h1 => e1 = [8, y, g, sHeavy W A g (sNp A), (sNp A : Int)] ∧ h1 = h, ?_, fun e1 h1 hh => by obtain ⟨rfl, rfl⟩ := hh; simpa only [og_den, og_pad, og_ent, og_loc, og_k, og_add, og_sub, og_mul, og_div, og_rem, og_bop, og_ladd, og_lsub, og_lmul, og_ldiv, og_lrem, og_land, og_i2l, og_l2i, og_neg, og_get, og_fix, og_ald, og_gld, og_yld, og_len, og_gln, og_cc, og_cb, og_and, og_or, og_not, og_cite, og_ec, og_ei, og_rlt, og_rle, og_rgt, og_rge, og_req, og_rne, og_skip, og_seq, og_set, og_inc, og_putf, og_putz, og_ast, og_exp, og_if, og_ret, og_retz, og_retv, og_brk, og_cont, og_cs, og_sw, og_pop32, og_pop64, og_aop, og_padd, og_psub, og_pmul, og_call, og_args, og_max, og_min, og_acp, List.getD_cons_zero, List.getD_cons_succ, List.set_cons_zero, List.set_cons_succ, List.length_cons, List.length_nil, List.cons_append, List.nil_append, List.replicate, List.append_nil, Nat.reduceAdd, Nat.reduceSub, Nat.reduceEqDiff, if_true, if_false, reduceIte, Int.reduceAdd, Int.reduceSub, Int.reduceMul, Int.reduceNeg, Int.reduceLT, Int.reduceLE, Int.cast_ofNat_Int, true_or, or_true, true_and, and_true, false_and, List.mem_cons, List.not_mem_nil, or_false, false_or, ne_eq] using hK⟩
  simp only [og_den, og_pad, og_ent, og_loc, og_k, og_add, og_sub, og_mul, og_div, og_rem, og_bop, og_ladd, og_lsub, og_lmul, og_ldiv, og_lrem, og_land, og_i2l, og_l2i, og_neg, og_get, og_fix, og_ald, og_gld, og_yld, og_len, og_gln, og_cc, og_cb, og_and, og_or, og_not, og_cite, og_ec, og_ei, og_rlt, og_rle, og_rgt, og_rge, og_req, og_rne, og_skip, og_seq, og_set, og_inc, og_putf, og_putz, og_ast, og_exp, og_if, og_ret, og_retz, og_retv, og_brk, og_cont, og_cs, og_sw, og_pop32, og_pop64, og_aop, og_padd, og_psub, og_pmul, og_call, og_args, og_max, og_min, og_acp, List.getD_cons_zero, List.getD_cons_succ, List.set_cons_zero, List.set_cons_succ, List.length_cons, List.length_nil, List.cons_append, List.nil_append, List.replicate, List.append_nil, Nat.reduceAdd, Nat.reduceSub, Nat.reduceEqDiff, if_true, if_false, reduceIte, Int.reduceAdd, Int.reduceSub, Int.reduceMul, Int.reduceNeg, Int.reduceLT, Int.reduceLE, Int.cast_ofNat_Int, true_or, or_true, true_and, and_true, false_and, List.mem_cons, List.not_mem_nil, or_false, false_or, ne_eq]
  refine og_loop (sNp A) (fun i e1 h1 => e1 = [8, y, g, sHeavy W A g i, (i : Int)] ∧ h1 = h) ⟨rfl, rfl⟩ ?_
  rintro i e1 h1 hi ⟨rfl, rfl⟩
  simp only [og_den, og_pad, og_ent, og_loc, og_k, og_add, og_sub, og_mul, og_div, og_rem, og_bop, og_ladd, og_lsub, og_lmul, og_ldiv, og_lrem, og_land, og_i2l, og_l2i, og_neg, og_get, og_fix, og_ald, og_gld, og_yld, og_len, og_gln, og_cc, og_cb, og_and, og_or, og_not, og_cite, og_ec, og_ei, og_rlt, og_rle, og_rgt, og_rge, og_req, og_rne, og_skip, og_seq, og_set, og_inc, og_putf, og_putz, og_ast, og_exp, og_if, og_ret, og_retz, og_retv, og_brk, og_cont, og_cs, og_sw, og_pop32, og_pop64, og_aop, og_padd, og_psub, og_pmul, og_call, og_args, og_max, og_min, og_acp, List.getD_cons_zero, List.getD_cons_succ, List.set_cons_zero, List.set_cons_succ, List.length_cons, List.length_nil, List.cons_append, List.nil_append, List.replicate, List.append_nil, Nat.reduceAdd, Nat.reduceSub, Nat.reduceEqDiff, if_true, if_false, reduceIte, Int.reduceAdd, Int.reduceSub, Int.reduceMul, Int.reduceNeg, Int.reduceLT, Int.reduceLE, Int.cast_ofNat_Int, true_or, or_true, true_and, and_true, false_and, List.mem_cons, List.not_mem_nil, or_false, false_or, ne_eq, og_i32]
  have hnp : sNp A = (A 0 1).toNat := rfl
  have e1 := hy.1.2.1
  rw [e1]
  have hh := sHeavy_rg W A g i
  refine ⟨fun hlt => ?_, fun hge => ?_⟩
  · have hl8 := hy.2.2.1 i (by omega) hlt
    have hgg := hy.2.1 g hg0 hg1
    have fin : ∀ v : Int, v = sHeavy W A g (i + 1) → og_nx (sNp A) (fun i e1 h2 => e1 = [8, y, g, sHeavy W A g i, (i : Int)] ∧ h2 = h1) i [8, y, g, v, (i : Int) + 1] h1 := by
      intro v hv
      refine og_nx_mk (by omega) ⟨?_, rfl⟩
      rw [hv]
      simp
    apply s_Yard_lives (by omega)
    refine ⟨fun hx => ?_, fun hx => ⟨by omega, fin _ ?_⟩⟩
    · have hlive : sLive A i = true := by unfold sLive; grind
      apply s_Yard_fits (by omega) (by omega) (by omega) (by omega)
      refine ⟨fun hx2 => ?_, fun hx2 => ⟨by omega, fin _ ?_⟩⟩
      · have hfit : sFit A i g = true := by unfold sFit; grind
        refine ⟨fun e => ⟨by omega, fin _ ?_⟩, fun e => ?_⟩
        · rw [sHeavy_s, hlive, hfit, e]; simp
        · have w1 := hW i (by omega) hlive
          have w2 : h1 9 (sHeavy W A g i) = W (sHeavy W A g i) := by
            have q := (hh.2 e).1
            have e2 : sHeavy W A g i = ((sHeavy W A g i).toNat : Int) := by omega
            rw [e2] at q ⊢
            exact hW _ (by omega) q
          rw [w1, w2]
          refine ⟨by omega, by omega, by omega, by omega, fun hd => ⟨by omega, fin _ ?_⟩, fun hd => ⟨by omega, fin _ ?_⟩⟩
          · rw [sHeavy_s, hlive, hfit]; simp [hd]
          · rw [sHeavy_s, hlive, hfit]; simp [e, hd]
      · have hfit : sFit A i g = false := by unfold sFit; grind
        rw [sHeavy_s, hfit]; simp
    · have hlive : sLive A i = false := by unfold sLive; grind
      rw [sHeavy_s, hlive]; simp
  · have e : i = sNp A := by omega
    rw [e]
    exact ⟨rfl, trivial⟩
