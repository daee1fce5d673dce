theorem isY_79 {h h' : Hp} {y : Int} {A : Yd} (hy : isY h y A) (hy9 : 10 < y) (h7 : ∀ i k, i ≠ 7 → i ≠ 9 → h' i k = h i k) : isY h' y A := by
  have a1 := hy.1
  have a2 := hy.2.1
  have a3 := hy.2.2.1
  have a4 := hy.2.2.2
  refine ⟨⟨?_, ?_, ?_, ?_⟩, fun k k0 k1 => ⟨?_, ?_, ?_, ?_⟩, fun k k0 k1 => ⟨?_, ?_, ?_, ?_⟩, fun k k0 k1 => ?_⟩ <;> rw [h7 _ _ (by omega) (by omega)] <;> grind
theorem frY_79 {h h' : Hp} {y : Int} (h7 : ∀ i k, i ≠ 7 → i ≠ 9 → h' i k = h i k) : frY y h h' := fun i k a b _ => h7 i k a b
def weighJ (h : Hp) (s y : Int) (A : Yd) (P : Pr) (i : Nat) (e1 : List Int) (h1 : Hp) : Prop := e1 = [8, s, y, (i : Int)] ∧ (∀ j k, j ≠ 7 → j ≠ 9 → h1 j k = h j k) ∧ ∀ p : Nat, p < i → sLive A p = true → h1 9 p = sVal (P 10) A p 0
theorem s_Alm_weigh {h : Hp} {s y : Int} {A : Yd} {P : Pr} {K : Int → Hp → Prop} (hR : hasR h s (A 0 1) P) (hP : okP P) (hs : 10 < s) (hs2 : s + 3 < y) (hy : isY h y A) (ho : okY A)
    (hK : ∀ h', (∀ j k, j ≠ 7 → j ≠ 9 → h' j k = h j k) → (∀ p : Nat, p < sNp A → sLive A p = true → h' 9 p = sVal (P 10) A p 0) → K 0 h') : m_Almanac_weigh [8, s, y] h K := by
  have h6 := ho.1
  unfold m_Almanac_weigh
  simp only [og_den, og_pad, og_ent, og_loc, og_k, og_add, og_sub, og_mul, og_div, og_rem, og_bop, og_ladd, og_lsub, og_lmul, og_ldiv, og_lrem, og_land, og_i2l, og_l2i, og_neg, og_get, og_fix, og_ald, og_gld, og_yld, og_len, og_gln, og_cc, og_cb, og_and, og_or, og_not, og_cite, og_ec, og_ei, og_rlt, og_rle, og_rgt, og_rge, og_req, og_rne, og_skip, og_seq, og_set, og_inc, og_putf, og_putz, og_ast, og_exp, og_if, og_ret, og_retz, og_retv, og_brk, og_cont, og_cs, og_sw, og_pop32, og_pop64, og_aop, og_padd, og_psub, og_pmul, og_call, og_args, og_max, og_min, og_acp, List.getD_cons_zero, List.getD_cons_succ, List.set_cons_zero, List.set_cons_succ, List.length_cons, List.length_nil, List.cons_append, List.nil_append, List.replicate, List.append_nil, Nat.reduceAdd, Nat.reduceSub, Nat.reduceEqDiff, if_true, if_false, reduceIte, Int.reduceAdd, Int.reduceSub, Int.reduceMul, Int.reduceNeg, Int.reduceLT, Int.reduceLE, Int.cast_ofNat_Int, true_or, or_true, true_and, and_true, false_and, List.mem_cons, List.not_mem_nil, or_false, false_or, ne_eq]
  refine og_loop (sNp A) (weighJ h s y A P) ⟨rfl, fun _ _ _ _ => rfl, fun p hp => absurd hp (by omega)⟩ ?_
  rintro i e1 h1 hi ⟨rfl, hF, hW⟩
  simp only [og_den, og_pad, og_ent, og_loc, og_k, og_add, og_sub, og_mul, og_div, og_rem, og_bop, og_ladd, og_lsub, og_lmul, og_ldiv, og_lrem, og_land, og_i2l, og_l2i, og_neg, og_get, og_fix, og_ald, og_gld, og_yld, og_len, og_gln, og_cc, og_cb, og_and, og_or, og_not, og_cite, og_ec, og_ei, og_rlt, og_rle, og_rgt, og_rge, og_req, og_rne, og_skip, og_seq, og_set, og_inc, og_putf, og_putz, og_ast, og_exp, og_if, og_ret, og_retz, og_retv, og_brk, og_cont, og_cs, og_sw, og_pop32, og_pop64, og_aop, og_padd, og_psub, og_pmul, og_call, og_args, og_max, og_min, og_acp, List.getD_cons_zero, List.getD_cons_succ, List.set_cons_zero, List.set_cons_succ, List.length_cons, List.length_nil, List.cons_append, List.nil_append, List.replicate, List.append_nil, Nat.reduceAdd, Nat.reduceSub, Nat.reduceEqDiff, if_true, if_false, reduceIte, Int.reduceAdd, Int.reduceSub, Int.reduceMul, Int.reduceNeg, Int.reduceLT, Int.reduceLE, Int.cast_ofNat_Int, true_or, or_true, true_and, and_true, false_and, List.mem_cons, List.not_mem_nil, or_false, false_or, ne_eq, og_i32]
  have hY := isY_79 hy (by omega) hF
  have hnp : sNp A = (A 0 1).toNat := rfl
  have e1 := hY.1.2.1
  rw [e1]
  refine ⟨fun hlt => ?_, fun hge => ?_⟩
  · have hl8 := hY.2.2.1 i (by omega) hlt
    apply s_Yard_lives (by omega)
    refine ⟨fun hx => ?_, fun hx => ?_⟩
    · obtain ⟨u, hu, -⟩ := hP 10 (by decide) (by decide)
      refine s_Reck_value (isR_fr (hR (by omega) 10 (by decide) (by decide)) (frY_79 (y := y) hF) hs hs2) (by decide) hs (by omega) hY ⟨ho, by omega, by omega⟩ (by decide) hu (fun h2 h7 => ?_)
      refine ⟨by omega, by omega, by omega, og_nx_mk (by omega) ⟨by simp, fun j k a b => ?_, fun p hp hlv => ?_⟩⟩
      · rw [og_up_i b, h7 j k a]; exact hF j k a b
      · by_cases e : p = i
        · subst e; rw [og_up_eq]
        · rw [og_up_k (by omega), h7 _ _ (by decide)]; exact hW p (by omega) hlv
    · refine ⟨by omega, og_nx_mk (by omega) ⟨by simp, hF, fun p hp hlv => ?_⟩⟩
      by_cases e : p = i
      · subst e
        unfold sLive at hlv
        grind
      · exact hW p (by omega) hlv
  · have : i = sNp A := by omega
    subst this
    exact hK h1 hF hW
theorem sHeavy_s (W : Int → Int) (A : Yd) (g : Int) (n : Nat) : sHeavy W A g (n + 1) = if sLive A (n : Int) && sFit A (n : Int) g && (decide (sHeavy W A g n = -1) || decide (W (sHeavy W A g n) < W (n : Int))) then (n : Int) else sHeavy W A g n := rfl
theorem sHeavy_rg (W : Int → Int) (A : Yd) (g : Int) (n : Nat) : (-1 ≤ sHeavy W A g n ∧ sHeavy W A g n < n) ∧ (sHeavy W A g n ≠ -1 → sLive A (sHeavy W A g n) = true ∧ sFit A (sHeavy W A g n) g = true) := by
  induction n with
  | zero => exact ⟨⟨Int.le_refl _, show (-1 : Int) < 0 by decide⟩, fun h => absurd rfl h⟩
  | succ n ih =>
    rw [sHeavy_s]
    split
    · rename_i hc
      simp only [Bool.and_eq_true] at hc
      exact ⟨by omega, fun _ => hc.1⟩
    · exact ⟨by omega, ih.2⟩
theorem s_Alm_heaviest {h : Hp} {y g : Int} {A : Yd} {W : Int → Int} {K : Int → Hp → Prop} (hy : isY h y A) (ho : okY A) (hg0 : 0 ≤ g) (hg1 : g < A 0 0) (hW : ∀ p : Nat, p < sNp A → sLive A p = true → h 9 p = W p) (hK : K (sHeavy W A g (sNp A)) h) : m_Almanac_heaviest [8, y, g] h K := by
  have h6 := ho.1
  unfold m_Almanac_heaviest
  simp only [og_den, og_pad, og_ent, og_loc, og_k, og_add, og_sub, og_mul, og_div, og_rem, og_bop, og_ladd, og_lsub, og_lmul, og_ldiv, og_lrem, og_land, og_i2l, og_l2i, og_neg, og_get, og_fix, og_ald, og_gld, og_yld, og_len, og_gln, og_cc, og_cb, og_and, og_or, og_not, og_cite, og_ec, og_ei, og_rlt, og_rle, og_rgt, og_rge, og_req, og_rne, og_skip, og_seq, og_set, og_inc, og_putf, og_putz, og_ast, og_exp, og_if, og_ret, og_retz, og_retv, og_brk, og_cont, og_cs, og_sw, og_pop32, og_pop64, og_aop, og_padd, og_psub, og_pmul, og_call, og_args, og_max, og_min, og_acp, List.getD_cons_zero, List.getD_cons_succ, List.set_cons_zero, List.set_cons_succ, List.length_cons, List.length_nil, List.cons_append, List.nil_append, List.replicate, List.append_nil, Nat.reduceAdd, Nat.reduceSub, Nat.reduceEqDiff, if_true, if_false, reduceIte, Int.reduceAdd, Int.reduceSub, Int.reduceMul, Int.reduceNeg, Int.reduceLT, Int.reduceLE, Int.cast_ofNat_Int, true_or, or_true, true_and, and_true, false_and, List.mem_cons, List.not_mem_nil, or_false, false_or, ne_eq]
  refine ⟨fun e1 h1 => e1 = [8, y, g, sHeavy W A g (sNp A), (sNp A : Int)] ∧ h1 = h, ?_, fun e1 h1 hh => by obtain ⟨rfl, rfl⟩ := hh; simpa only [og_den, og_pad, og_ent, og_loc, og_k, og_add, og_sub, og_mul, og_div, og_rem, og_bop, og_ladd, og_lsub, og_lmul, og_ldiv, og_lrem, og_land, og_i2l, og_l2i, og_neg, og_get, og_fix, og_ald, og_gld, og_yld, og_len, og_gln, og_cc, og_cb, og_and, og_or, og_not, og_cite, og_ec, og_ei, og_rlt, og_rle, og_rgt, og_rge, og_req, og_rne, og_skip, og_seq, og_set, og_inc, og_putf, og_putz, og_ast, og_exp, og_if, og_ret, og_retz, og_retv, og_brk, og_cont, og_cs, og_sw, og_pop32, og_pop64, og_aop, og_padd, og_psub, og_pmul, og_call, og_args, og_max, og_min, og_acp, List.getD_cons_zero, List.getD_cons_succ, List.set_cons_zero, List.set_cons_succ, List.length_cons, List.length_nil, List.cons_append, List.nil_append, List.replicate, List.append_nil, Nat.reduceAdd, Nat.reduceSub, Nat.reduceEqDiff, if_true, if_false, reduceIte, Int.reduceAdd, Int.reduceSub, Int.reduceMul, Int.reduceNeg, Int.reduceLT, Int.reduceLE, Int.cast_ofNat_Int, true_or, or_true, true_and, and_true, false_and, List.mem_cons, List.not_mem_nil, or_false, false_or, ne_eq] using hK⟩
  simp only [og_den, og_pad, og_ent, og_loc, og_k, og_add, og_sub, og_mul, og_div, og_rem, og_bop, og_ladd, og_lsub, og_lmul, og_ldiv, og_lrem, og_land, og_i2l, og_l2i, og_neg, og_get, og_fix, og_ald, og_gld, og_yld, og_len, og_gln, og_cc, og_cb, og_and, og_or, og_not, og_cite, og_ec, og_ei, og_rlt, og_rle, og_rgt, og_rge, og_req, og_rne, og_skip, og_seq, og_set, og_inc, og_putf, og_putz, og_ast, og_exp, og_if, og_ret, og_retz, og_retv, og_brk, og_cont, og_cs, og_sw, og_pop32, og_pop64, og_aop, og_padd, og_psub, og_pmul, og_call, og_args, og_max, og_min, og_acp, List.getD_cons_zero, List.getD_cons_succ, List.set_cons_zero, List.set_cons_succ, List.length_cons, List.length_nil, List.cons_append, List.nil_append, List.replicate, List.append_nil, Nat.reduceAdd, Nat.reduceSub, Nat.reduceEqDiff, if_true, if_false, reduceIte, Int.reduceAdd, Int.reduceSub, Int.reduceMul, Int.reduceNeg, Int.reduceLT, Int.reduceLE, Int.cast_ofNat_Int, true_or, or_true, true_and, and_true, false_and, List.mem_cons, List.not_mem_nil, or_false, false_or, ne_eq]
  refine og_loop (sNp A) (fun i e1 h1 => e1 = [8, y, g, sHeavy W A g i, (i : Int)] ∧ h1 = h) ⟨rfl, rfl⟩ ?_
  rintro i e1 h1 hi ⟨rfl, rfl⟩
  simp only [og_den, og_pad, og_ent, og_loc, og_k, og_add, og_sub, og_mul, og_div, og_rem, og_bop, og_ladd, og_lsub, og_lmul, og_ldiv, og_lrem, og_land, og_i2l, og_l2i, og_neg, og_get, og_fix, og_ald, og_gld, og_yld, og_len, og_gln, og_cc, og_cb, og_and, og_or, og_not, og_cite, og_ec, og_ei, og_rlt, og_rle, og_rgt, og_rge, og_req, og_rne, og_skip, og_seq, og_set, og_inc, og_putf, og_putz, og_ast, og_exp, og_if, og_ret, og_retz, og_retv, og_brk, og_cont, og_cs, og_sw, og_pop32, og_pop64, og_aop, og_padd, og_psub, og_pmul, og_call, og_args, og_max, og_min, og_acp, List.getD_cons_zero, List.getD_cons_succ, List.set_cons_zero, List.set_cons_succ, List.length_cons, List.length_nil, List.cons_append, List.nil_append, List.replicate, List.append_nil, Nat.reduceAdd, Nat.reduceSub, Nat.reduceEqDiff, if_true, if_false, reduceIte, Int.reduceAdd, Int.reduceSub, Int.reduceMul, Int.reduceNeg, Int.reduceLT, Int.reduceLE, Int.cast_ofNat_Int, true_or, or_true, true_and, and_true, false_and, List.mem_cons, List.not_mem_nil, or_false, false_or, ne_eq, og_i32]
  have hnp : sNp A = (A 0 1).toNat := rfl
  have e1 := hy.1.2.1
  rw [e1]
  have hh := sHeavy_rg W A g i
  refine ⟨fun hlt => ?_, fun hge => ?_⟩
  · have hl8 := hy.2.2.1 i (by omega) hlt
    have hgg := hy.2.1 g hg0 hg1
    have fin : ∀ v : Int, v = sHeavy W A g (i + 1) → og_nx (sNp A) (fun i e1 h2 => e1 = [8, y, g, sHeavy W A g i, (i : Int)] ∧ h2 = h1) i [8, y, g, v, (i : Int) + 1] h1 := by
      intro v hv
      refine og_nx_mk (by omega) ⟨?_, rfl⟩
      rw [hv]
      simp
    apply s_Yard_lives (by omega)
    refine ⟨fun hx => ?_, fun hx => ⟨by omega, fin _ ?_⟩⟩
    · have hlive : sLive A i = true := by unfold sLive; grind
      apply s_Yard_fits (by omega) (by omega) (by omega) (by omega)
      refine ⟨fun hx2 => ?_, fun hx2 => ⟨by omega, fin _ ?_⟩⟩
      · have hfit : sFit A i g = true := by unfold sFit; grind
        refine ⟨fun e => ⟨by omega, fin _ ?_⟩, fun e => ?_⟩
        · rw [sHeavy_s, hlive, hfit, e]; simp
        · have w1 := hW i (by omega) hlive
          have w2 : h1 9 (sHeavy W A g i) = W (sHeavy W A g i) := by
            have q := (hh.2 e).1
            have e2 : sHeavy W A g i = ((sHeavy W A g i).toNat : Int) := by omega
            rw [e2] at q ⊢
            exact hW _ (by omega) q
          rw [w1, w2]
          refine ⟨by omega, by omega, by omega, by omega, fun hd => ⟨by omega, fin _ ?_⟩, fun hd => ⟨by omega, fin _ ?_⟩⟩
          · rw [sHeavy_s, hlive, hfit]; simp [hd]
          · rw [sHeavy_s, hlive, hfit]; simp [e, hd]
      · have hfit : sFit A i g = false := by unfold sFit; grind
        rw [sHeavy_s, hfit]; simp
    · have hlive : sLive A i = false := by unfold sLive; grind
      rw [sHeavy_s, hlive]; simp
  · have e : i = sNp A := by omega
    rw [e]
theorem sTake_s (W : Int → Int) (A : Yd) (n : Nat) : sTake W A (n + 1) = (sTake1 W (sTake W A n).1 (n : Int), (sTake W A n).2 + if sTakes (sTake W A n).1 (n : Int) W then 1 else 0) := rfl
theorem sameB_take {W : Int → Int} {A : Yd} {n : Nat} : sameB A (sTake W A n).1 := by
  induction n with
  | zero => exact sameB_rf
  | succ n ih =>
    rw [sTake_s]
    show sameB A (sTake1 W (sTake W A n).1 n)
    unfold sTake1
    split
    · exact sameB_tr ih sameB_bury
    · exact ih
theorem sLive_bury {A : Yd} {p g how q : Int} (h : sLive (sBury A p g how) q = true) : sLive A q = true := by
  unfold sLive at h ⊢
  simp only [sBury] at h
  grind
theorem sLive_take {W : Int → Int} {A : Yd} {n : Nat} {q : Int} (h : sLive (sTake W A n).1 q = true) : sLive A q = true := by
  induction n with
  | zero => exact h
  | succ n ih =>
    rw [sTake_s] at h
    apply ih
    revert h
    show sLive (sTake1 W (sTake W A n).1 n) q = true → _
    unfold sTake1
    split
    · exact sLive_bury
    · exact id
theorem sNp_sameB {A B : Yd} (h : sameB A B) : sNp B = sNp A := by unfold sNp; rw [h.2.1]
theorem sNg_sameB {A B : Yd} (h : sameB A B) : sNg B = sNg A := by unfold sNg; rw [h.1]
theorem okY_take {W : Int → Int} {A : Yd} (ho : okY A) {n : Nat} : okY (sTake W A n).1 := by
  induction n with
  | zero => exact ho
  | succ n ih =>
    rw [sTake_s]
    show okY (sTake1 W (sTake W A n).1 n)
    unfold sTake1
    split
    · rename_i hc
      unfold sTakes at hc
      simp only [Bool.and_eq_true, decide_eq_true_eq] at hc
      have := sHeavy_rg W (sTake W A n).1 n (sNp (sTake W A n).1)
      have e : sNp (sTake W A n).1 = ((sTake W A n).1 0 1).toNat := rfl
      have := ih.1
      exact okY_bury ih (by omega) (by omega)
    · exact ih
theorem sTake_rg {W : Int → Int} {A : Yd} {n : Nat} : 0 ≤ (sTake W A n).2 ∧ (sTake W A n).2 ≤ n := by
  induction n with
  | zero => exact ⟨Int.le_refl _, Int.le_refl _⟩
  | succ n ih =>
    rw [sTake_s]
    dsimp only
    split <;> omega
def takeJ (h : Hp) (y : Int) (A : Yd) (W : Int → Int) (i : Nat) (e1 : List Int) (h1 : Hp) : Prop := ∃ c4, e1 = [8, y, (sTake W A i).2, (i : Int), c4] ∧ isY h1 y (sTake W A i).1 ∧ (∀ j k, (j < y ∨ y + 9 < j) → h1 j k = h j k)
theorem s_Alm_take {h : Hp} {y : Int} {A : Yd} {W : Int → Int} {K : Int → Hp → Prop} (hy9 : 10 < y) (hy : isY h y A) (ho : okY A) (hW : ∀ p : Nat, p < sNp A → sLive A p = true → h 9 p = W p)
    (hK : ∀ h', isY h' y (sTake W A (sNg A)).1 → frY y h h' → K (sTake W A (sNg A)).2 h') : m_Almanac_takeDue [8, y] h K := by
  have h6 := ho.1
  unfold m_Almanac_takeDue
  simp only [og_den, og_pad, og_ent, og_loc, og_k, og_add, og_sub, og_mul, og_div, og_rem, og_bop, og_ladd, og_lsub, og_lmul, og_ldiv, og_lrem, og_land, og_i2l, og_l2i, og_neg, og_get, og_fix, og_ald, og_gld, og_yld, og_len, og_gln, og_cc, og_cb, og_and, og_or, og_not, og_cite, og_ec, og_ei, og_rlt, og_rle, og_rgt, og_rge, og_req, og_rne, og_skip, og_seq, og_set, og_inc, og_putf, og_putz, og_ast, og_exp, og_if, og_ret, og_retz, og_retv, og_brk, og_cont, og_cs, og_sw, og_pop32, og_pop64, og_aop, og_padd, og_psub, og_pmul, og_call, og_args, og_max, og_min, og_acp, List.getD_cons_zero, List.getD_cons_succ, List.set_cons_zero, List.set_cons_succ, List.length_cons, List.length_nil, List.cons_append, List.nil_append, List.replicate, List.append_nil, Nat.reduceAdd, Nat.reduceSub, Nat.reduceEqDiff, if_true, if_false, reduceIte, Int.reduceAdd, Int.reduceSub, Int.reduceMul, Int.reduceNeg, Int.reduceLT, Int.reduceLE, Int.cast_ofNat_Int, true_or, or_true, true_and, and_true, false_and, List.mem_cons, List.not_mem_nil, or_false, false_or, ne_eq]
  refine ⟨takeJ h y A W (sNg A), ?_, ?_⟩
  · simp only [og_den, og_pad, og_ent, og_loc, og_k, og_add, og_sub, og_mul, og_div, og_rem, og_bop, og_ladd, og_lsub, og_lmul, og_ldiv, og_lrem, og_land, og_i2l, og_l2i, og_neg, og_get, og_fix, og_ald, og_gld, og_yld, og_len, og_gln, og_cc, og_cb, og_and, og_or, og_not, og_cite, og_ec, og_ei, og_rlt, og_rle, og_rgt, og_rge, og_req, og_rne, og_skip, og_seq, og_set, og_inc, og_putf, og_putz, og_ast, og_exp, og_if, og_ret, og_retz, og_retv, og_brk, og_cont, og_cs, og_sw, og_pop32, og_pop64, og_aop, og_padd, og_psub, og_pmul, og_call, og_args, og_max, og_min, og_acp, List.getD_cons_zero, List.getD_cons_succ, List.set_cons_zero, List.set_cons_succ, List.length_cons, List.length_nil, List.cons_append, List.nil_append, List.replicate, List.append_nil, Nat.reduceAdd, Nat.reduceSub, Nat.reduceEqDiff, if_true, if_false, reduceIte, Int.reduceAdd, Int.reduceSub, Int.reduceMul, Int.reduceNeg, Int.reduceLT, Int.reduceLE, Int.cast_ofNat_Int, true_or, or_true, true_and, and_true, false_and, List.mem_cons, List.not_mem_nil, or_false, false_or, ne_eq]
    refine og_loop (sNg A) (takeJ h y A W) ⟨0, rfl, hy, fun _ _ _ => rfl⟩ ?_
    rintro i e1 h1 hi ⟨c4, rfl, hY, hF⟩
    simp only [og_den, og_pad, og_ent, og_loc, og_k, og_add, og_sub, og_mul, og_div, og_rem, og_bop, og_ladd, og_lsub, og_lmul, og_ldiv, og_lrem, og_land, og_i2l, og_l2i, og_neg, og_get, og_fix, og_ald, og_gld, og_yld, og_len, og_gln, og_cc, og_cb, og_and, og_or, og_not, og_cite, og_ec, og_ei, og_rlt, og_rle, og_rgt, og_rge, og_req, og_rne, og_skip, og_seq, og_set, og_inc, og_putf, og_putz, og_ast, og_exp, og_if, og_ret, og_retz, og_retv, og_brk, og_cont, og_cs, og_sw, og_pop32, og_pop64, og_aop, og_padd, og_psub, og_pmul, og_call, og_args, og_max, og_min, og_acp, List.getD_cons_zero, List.getD_cons_succ, List.set_cons_zero, List.set_cons_succ, List.length_cons, List.length_nil, List.cons_append, List.nil_append, List.replicate, List.append_nil, Nat.reduceAdd, Nat.reduceSub, Nat.reduceEqDiff, if_true, if_false, reduceIte, Int.reduceAdd, Int.reduceSub, Int.reduceMul, Int.reduceNeg, Int.reduceLT, Int.reduceLE, Int.cast_ofNat_Int, true_or, or_true, true_and, and_true, false_and, List.mem_cons, List.not_mem_nil, or_false, false_or, ne_eq, og_i32]
    have sB := sameB_take (W := W) (A := A) (n := i)
    have sb0 := sB.1
    have sb1 := sB.2.1
    have hng : sNg A = (A 0 0).toNat := rfl
    have oi := okY_take (W := W) ho (n := i)
    have tr := sTake_rg (W := W) (A := A) (n := i)
    have e0 := hY.1.1
    rw [e0, sb0]
    refine ⟨fun hlt => ?_, fun hge => ?_⟩
    · have hg := hY.2.1 i (by omega) (by omega)
      have stay : ∀ h2 c4 t, sTakes (sTake W A i).1 i W = false → t = (sTake W A i).2 → isY h2 y (sTake W A i).1 → (∀ j k, (j < y ∨ y + 9 < j) → h2 j k = h j k) → og_nx (sNg A) (takeJ h y A W) i [8, y, t, (i : Int) + 1, c4] h2 := by
        intro h2 c4 t e et a b
        refine og_nx_mk (by omega) ⟨c4, ?_, ?_, b⟩
        · rw [sTake_s, e, et]; simp
        · rw [sTake_s]
          show isY h2 y (sTake1 W (sTake W A i).1 i)
          unfold sTake1
          rw [e]
          exact a
      apply s_Yard_asks (by omega) (by omega)
      refine ⟨fun hx => ?_, fun hx => ?_⟩
      · have hask : sAsk (sTake W A i).1 i = true := by unfold sAsk; grind
        refine ⟨by omega, by omega, fun hd => ?_, fun hd => ?_⟩
        · apply s_Alm_heaviest hY oi (by omega) (by omega) (W := W)
          · intro p hp hlv
            rw [hF _ _ (by omega)]
            exact hW p (by rw [← sNp_sameB sB]; exact hp) (sLive_take hlv)
          have hh := sHeavy_rg W (sTake W A i).1 i (sNp (sTake W A i).1)
          have e2 : sNp (sTake W A i).1 = ((sTake W A i).1 0 1).toNat := rfl
          have o1 := oi.1
          refine ⟨fun hp => ?_, fun hp => ?_⟩
          · have ht : sTakes (sTake W A i).1 i W = true := by unfold sTakes; rw [hask]; simp [hp]; omega
            refine s_Yard_bury' hY oi (by omega) (by omega) (by omega) (by omega) (fun h3 hY3 hF3 => ⟨by omega, by omega, og_nx_mk (by omega) ⟨sHeavy W (sTake W A i).1 i (sNp (sTake W A i).1), ?_, ?_, fun j k hj => (hF3 j k hj).trans (hF j k hj)⟩⟩)
            · rw [sTake_s, ht]; simp
            · rw [sTake_s]
              show isY h3 y (sTake1 W (sTake W A i).1 i)
              unfold sTake1
              rw [ht]
              exact hY3
          · exact ⟨by omega, stay _ _ _ (by unfold sTakes; simp [hp]) rfl hY hF⟩
        · refine ⟨fun z => absurd trivial z, fun _ => ⟨by omega, stay _ _ _ ?_ rfl hY hF⟩⟩
          unfold sTakes
          rw [← hg.2.2.1]
          simp [hd]
      · have hask : sAsk (sTake W A i).1 i = false := by unfold sAsk; grind
        refine ⟨fun z => absurd trivial z, fun _ => ⟨by omega, stay _ _ _ ?_ rfl hY hF⟩⟩
        unfold sTakes
        rw [hask]
        simp
    · have e : i = sNg A := by omega
      subst e
      exact ⟨c4, rfl, hY, hF⟩
  · rintro e1 h1 ⟨c4, rfl, hY, hF⟩
    simp only [og_den, og_pad, og_ent, og_loc, og_k, og_add, og_sub, og_mul, og_div, og_rem, og_bop, og_ladd, og_lsub, og_lmul, og_ldiv, og_lrem, og_land, og_i2l, og_l2i, og_neg, og_get, og_fix, og_ald, og_gld, og_yld, og_len, og_gln, og_cc, og_cb, og_and, og_or, og_not, og_cite, og_ec, og_ei, og_rlt, og_rle, og_rgt, og_rge, og_req, og_rne, og_skip, og_seq, og_set, og_inc, og_putf, og_putz, og_ast, og_exp, og_if, og_ret, og_retz, og_retv, og_brk, og_cont, og_cs, og_sw, og_pop32, og_pop64, og_aop, og_padd, og_psub, og_pmul, og_call, og_args, og_max, og_min, og_acp, List.getD_cons_zero, List.getD_cons_succ, List.set_cons_zero, List.set_cons_succ, List.length_cons, List.length_nil, List.cons_append, List.nil_append, List.replicate, List.append_nil, Nat.reduceAdd, Nat.reduceSub, Nat.reduceEqDiff, if_true, if_false, reduceIte, Int.reduceAdd, Int.reduceSub, Int.reduceMul, Int.reduceNeg, Int.reduceLT, Int.reduceLE, Int.cast_ofNat_Int, true_or, or_true, true_and, and_true, false_and, List.mem_cons, List.not_mem_nil, or_false, false_or, ne_eq]
    exact hK h1 hY (fun j k _ _ hj => hF j k hj)
theorem sCut_bd (x m : Int) (hm : 0 ≤ m) : 0 ≤ sCut x m ∧ sCut x m ≤ m := by unfold sCut; omega
theorem s_OG_cut {h : Hp} {x m : Int} {K : Int → Hp → Prop} (hK : K (sCut x m) h) : m_OG_cut [x, m] h K := by
  unfold m_OG_cut
  simp only [og_den, og_pad, og_ent, og_loc, og_k, og_add, og_sub, og_mul, og_div, og_rem, og_bop, og_ladd, og_lsub, og_lmul, og_ldiv, og_lrem, og_land, og_i2l, og_l2i, og_neg, og_get, og_fix, og_ald, og_gld, og_yld, og_len, og_gln, og_cc, og_cb, og_and, og_or, og_not, og_cite, og_ec, og_ei, og_rlt, og_rle, og_rgt, og_rge, og_req, og_rne, og_skip, og_seq, og_set, og_inc, og_putf, og_putz, og_ast, og_exp, og_if, og_ret, og_retz, og_retv, og_brk, og_cont, og_cs, og_sw, og_pop32, og_pop64, og_aop, og_padd, og_psub, og_pmul, og_call, og_args, og_max, og_min, og_acp, List.getD_cons_zero, List.getD_cons_succ, List.set_cons_zero, List.set_cons_succ, List.length_cons, List.length_nil, List.cons_append, List.nil_append, List.replicate, List.append_nil, Nat.reduceAdd, Nat.reduceSub, Nat.reduceEqDiff, if_true, if_false, reduceIte, Int.reduceAdd, Int.reduceSub, Int.reduceMul, Int.reduceNeg, Int.reduceLT, Int.reduceLE, Int.cast_ofNat_Int, true_or, or_true, true_and, and_true, false_and, List.mem_cons, List.not_mem_nil, or_false, false_or, ne_eq]
  unfold sCut at hK
  exact hK
/-- the same but for part c -/
def sameC (c : Int) (A B : Yd) : Prop := ∀ d k, d ≠ c → B d k = A d k
theorem sameC_up {c k v : Int} {A B : Yd} (h : sameC c A B) : sameC c A (sUp B c k v) := fun d k' hd => by rw [sUp_c hd]; exact h d k' hd
theorem sHeart_s (P : Pr) (t : Int) (A : Yd) (n : Nat) : sHeart P t A (n + 1) = sHeart1 P t (sHeart P t A n) n := rfl
theorem sameC_heart {P : Pr} {t : Int} {A : Yd} {n : Nat} : sameC 7 A (sHeart P t A n) := by
  induction n with
  | zero => exact fun _ _ _ => rfl
  | succ n ih =>
    rw [sHeart_s]
    unfold sHeart1
    split
    · exact sameC_up ih
    · exact ih
theorem okY_up7 {A : Yd} {k v : Int} (ho : okY A) (hv : 0 ≤ v ∧ v ≤ 9) : okY (sUp A 7 k v) := by
  have h1 := ho.1
  have h2 := ho.2.1
  have h3 := ho.2.2
  refine ⟨?_, fun k' k0 k1 => ?_, fun k' k0 k1 => ?_⟩
  · simp (disch := omega) only [sUp_c]; exact h1
  · simp (disch := omega) only [sUp_c] at k1 ⊢; exact h2 k' k0 k1
  · simp (disch := omega) only [sUp_c] at k1 ⊢
    have h3 := h3 k' k0 k1
    by_cases e : k' = k
    · subst e; rw [sUp_eq]; omega
    · rw [sUp_k e]; exact h3
theorem okY_up6 {A : Yd} {k v : Int} (ho : okY A) (hv : 0 ≤ v ∧ v ≤ 99) : okY (sUp A 6 k v) := by
  have h1 := ho.1
  have h2 := ho.2.1
  have h3 := ho.2.2
  refine ⟨?_, fun k' k0 k1 => ?_, fun k' k0 k1 => ?_⟩
  · simp (disch := omega) only [sUp_c]; exact h1
  · simp (disch := omega) only [sUp_c] at k1 ⊢; exact h2 k' k0 k1
  · simp (disch := omega) only [sUp_c] at k1 ⊢
    have h3 := h3 k' k0 k1
    by_cases e : k' = k
    · subst e; rw [sUp_eq]; omega
    · rw [sUp_k e]; exact h3
theorem okY_heart {P : Pr} {t : Int} {A : Yd} (ho : okY A) {n : Nat} : okY (sHeart P t A n) := by
  induction n with
  | zero => exact ho
  | succ n ih =>
    rw [sHeart_s]
    unfold sHeart1
    split
    · exact okY_up7 ih (sCut_bd _ _ (by decide))
    · exact ih
theorem s_Alm_hearts {h : Hp} {s y t : Int} {A : Yd} {P : Pr} {K : Int → Hp → Prop} (hR : hasR h s (A 0 1) P) (hP : okP P) (hs : 10 < s) (hs2 : s + 3 < y) (hy : isY h y A) (ho : okY A) (ht : 0 ≤ t ∧ t ≤ 100)
    (hK : ∀ h', isY h' y (sHeart P t A (sNp A)) → frY y h h' → K 0 h') : m_Almanac_changeHearts [8, s, y, t] h K := by
  have h6 := ho.1
  unfold m_Almanac_changeHearts
  simp only [og_den, og_pad, og_ent, og_loc, og_k, og_add, og_sub, og_mul, og_div, og_rem, og_bop, og_ladd, og_lsub, og_lmul, og_ldiv, og_lrem, og_land, og_i2l, og_l2i, og_neg, og_get, og_fix, og_ald, og_gld, og_yld, og_len, og_gln, og_cc, og_cb, og_and, og_or, og_not, og_cite, og_ec, og_ei, og_rlt, og_rle, og_rgt, og_rge, og_req, og_rne, og_skip, og_seq, og_set, og_inc, og_putf, og_putz, og_ast, og_exp, og_if, og_ret, og_retz, og_retv, og_brk, og_cont, og_cs, og_sw, og_pop32, og_pop64, og_aop, og_padd, og_psub, og_pmul, og_call, og_args, og_max, og_min, og_acp, List.getD_cons_zero, List.getD_cons_succ, List.set_cons_zero, List.set_cons_succ, List.length_cons, List.length_nil, List.cons_append, List.nil_append, List.replicate, List.append_nil, Nat.reduceAdd, Nat.reduceSub, Nat.reduceEqDiff, if_true, if_false, reduceIte, Int.reduceAdd, Int.reduceSub, Int.reduceMul, Int.reduceNeg, Int.reduceLT, Int.reduceLE, Int.cast_ofNat_Int, true_or, or_true, true_and, and_true, false_and, List.mem_cons, List.not_mem_nil, or_false, false_or, ne_eq]
  refine og_loop (sNp A) (fun i e1 h1 => e1 = [8, s, y, t, (i : Int)] ∧ isY h1 y (sHeart P t A i) ∧ frY y h h1) ⟨rfl, hy, frY_rf⟩ ?_
  rintro i e1 h1 hi ⟨rfl, hY, hF⟩
  simp only [og_den, og_pad, og_ent, og_loc, og_k, og_add, og_sub, og_mul, og_div, og_rem, og_bop, og_ladd, og_lsub, og_lmul, og_ldiv, og_lrem, og_land, og_i2l, og_l2i, og_neg, og_get, og_fix, og_ald, og_gld, og_yld, og_len, og_gln, og_cc, og_cb, og_and, og_or, og_not, og_cite, og_ec, og_ei, og_rlt, og_rle, og_rgt, og_rge, og_req, og_rne, og_skip, og_seq, og_set, og_inc, og_putf, og_putz, og_ast, og_exp, og_if, og_ret, og_retz, og_retv, og_brk, og_cont, og_cs, og_sw, og_pop32, og_pop64, og_aop, og_padd, og_psub, og_pmul, og_call, og_args, og_max, og_min, og_acp, List.getD_cons_zero, List.getD_cons_succ, List.set_cons_zero, List.set_cons_succ, List.length_cons, List.length_nil, List.cons_append, List.nil_append, List.replicate, List.append_nil, Nat.reduceAdd, Nat.reduceSub, Nat.reduceEqDiff, if_true, if_false, reduceIte, Int.reduceAdd, Int.reduceSub, Int.reduceMul, Int.reduceNeg, Int.reduceLT, Int.reduceLE, Int.cast_ofNat_Int, true_or, or_true, true_and, and_true, false_and, List.mem_cons, List.not_mem_nil, or_false, false_or, ne_eq, og_i32]
  have sC := sameC_heart (P := P) (t := t) (A := A) (n := i)
  have sb1 := sC 0 1 (by decide)
  have oi := okY_heart (P := P) (t := t) ho (n := i)
  have hnp : sNp A = (A 0 1).toNat := rfl
  have e1 := hY.1.2.1
  rw [e1, sb1]
  refine ⟨fun hlt => ?_, fun hge => ?_⟩
  · have hl8 := hY.2.2.1 i (by omega) (by omega)
    apply s_Yard_lives (by omega)
    refine ⟨fun hx => ?_, fun hx => ?_⟩
    · have hlive : sLive (sHeart P t A i) i = true := by unfold sLive; grind
      obtain ⟨u, hu, -⟩ := hP 11 (by decide) (by decide)
      refine s_Reck_value (isR_fr (hR (by omega) 11 (by decide) (by decide)) hF hs hs2) (by decide) hs (by omega) hY ⟨oi, by omega, by omega⟩ ht hu (fun h2 h7 => ?_)
      apply s_OG_cut
      refine ⟨by omega, by omega, by omega, og_nx_mk (by omega) ⟨by simp, ?_, frY_up (by decide) (frY_tr hF (frY_7 (y := y) h7))⟩⟩
      rw [sHeart_s]
      unfold sHeart1
      rw [if_pos hlive]
      exact isY_up (by decide) (isY_7 hY (by omega) h7)
    · refine ⟨by omega, og_nx_mk (by omega) ⟨by simp, ?_, hF⟩⟩
      rw [sHeart_s]
      unfold sHeart1
      rw [if_neg (by unfold sLive; grind)]
      exact hY
  · have e : i = sNp A := by omega
    subst e
    exact hK h1 hY hF
theorem sOld_s (A : Yd) (n : Nat) : sOld A (n + 1) = sOld1 (sOld A n) n := rfl
theorem sameC_old {A : Yd} {n : Nat} : sameC 6 A (sOld A n) := by
  induction n with
  | zero => exact fun _ _ _ => rfl
  | succ n ih =>
    rw [sOld_s]
    unfold sOld1
    split
    · exact sameC_up ih
    · exact ih
theorem okY_old {A : Yd} (ho : okY A) {n : Nat} (hn : (n : Int) ≤ A 0 1) : okY (sOld A n) := by
  induction n with
  | zero => exact ho
  | succ n ih =>
    have ih := ih (by omega)
    rw [sOld_s]
    unfold sOld1
    split
    · have := ih.2.2 n (by omega) (by rw [sameC_old 0 1 (by decide)]; omega)
      exact okY_up6 ih (by omega)
    · exact ih
theorem s_Alm_old {h : Hp} {y : Int} {A : Yd} {K : Int → Hp → Prop} (hy9 : 10 < y) (hy : isY h y A) (ho : okY A)
    (hK : ∀ h', isY h' y (sOld A (sNp A)) → frY y h h' → K 0 h') : m_Almanac_growOlder [y] h K := by
  have h6 := ho.1
  unfold m_Almanac_growOlder
  simp only [og_den, og_pad, og_ent, og_loc, og_k, og_add, og_sub, og_mul, og_div, og_rem, og_bop, og_ladd, og_lsub, og_lmul, og_ldiv, og_lrem, og_land, og_i2l, og_l2i, og_neg, og_get, og_fix, og_ald, og_gld, og_yld, og_len, og_gln, og_cc, og_cb, og_and, og_or, og_not, og_cite, og_ec, og_ei, og_rlt, og_rle, og_rgt, og_rge, og_req, og_rne, og_skip, og_seq, og_set, og_inc, og_putf, og_putz, og_ast, og_exp, og_if, og_ret, og_retz, og_retv, og_brk, og_cont, og_cs, og_sw, og_pop32, og_pop64, og_aop, og_padd, og_psub, og_pmul, og_call, og_args, og_max, og_min, og_acp, List.getD_cons_zero, List.getD_cons_succ, List.set_cons_zero, List.set_cons_succ, List.length_cons, List.length_nil, List.cons_append, List.nil_append, List.replicate, List.append_nil, Nat.reduceAdd, Nat.reduceSub, Nat.reduceEqDiff, if_true, if_false, reduceIte, Int.reduceAdd, Int.reduceSub, Int.reduceMul, Int.reduceNeg, Int.reduceLT, Int.reduceLE, Int.cast_ofNat_Int, true_or, or_true, true_and, and_true, false_and, List.mem_cons, List.not_mem_nil, or_false, false_or, ne_eq]
  refine og_loop (sNp A) (fun i e1 h1 => e1 = [y, (i : Int)] ∧ isY h1 y (sOld A i) ∧ frY y h h1) ⟨rfl, hy, frY_rf⟩ ?_
  rintro i e1 h1 hi ⟨rfl, hY, hF⟩
  simp only [og_den, og_pad, og_ent, og_loc, og_k, og_add, og_sub, og_mul, og_div, og_rem, og_bop, og_ladd, og_lsub, og_lmul, og_ldiv, og_lrem, og_land, og_i2l, og_l2i, og_neg, og_get, og_fix, og_ald, og_gld, og_yld, og_len, og_gln, og_cc, og_cb, og_and, og_or, og_not, og_cite, og_ec, og_ei, og_rlt, og_rle, og_rgt, og_rge, og_req, og_rne, og_skip, og_seq, og_set, og_inc, og_putf, og_putz, og_ast, og_exp, og_if, og_ret, og_retz, og_retv, og_brk, og_cont, og_cs, og_sw, og_pop32, og_pop64, og_aop, og_padd, og_psub, og_pmul, og_call, og_args, og_max, og_min, og_acp, List.getD_cons_zero, List.getD_cons_succ, List.set_cons_zero, List.set_cons_succ, List.length_cons, List.length_nil, List.cons_append, List.nil_append, List.replicate, List.append_nil, Nat.reduceAdd, Nat.reduceSub, Nat.reduceEqDiff, if_true, if_false, reduceIte, Int.reduceAdd, Int.reduceSub, Int.reduceMul, Int.reduceNeg, Int.reduceLT, Int.reduceLE, Int.cast_ofNat_Int, true_or, or_true, true_and, and_true, false_and, List.mem_cons, List.not_mem_nil, or_false, false_or, ne_eq, og_i32]
  have sC := sameC_old (A := A) (n := i)
  have sb1 := sC 0 1 (by decide)
  have hnp : sNp A = (A 0 1).toNat := rfl
  have oi := okY_old ho (n := i) (by omega)
  have e1 := hY.1.2.1
  rw [e1, sb1]
  refine ⟨fun hlt => ?_, fun hge => ?_⟩
  · have hl8 := hY.2.2.1 i (by omega) (by omega)
    have o8 := oi.2.2 i (by omega) (by omega)
    apply s_Yard_lives (by omega)
    refine ⟨fun hx => ?_, fun hx => ?_⟩
    · have hlive : sLive (sOld A i) i = true := by unfold sLive; grind
      rw [hl8.2.1]
      refine ⟨by omega, by omega, by omega, by omega, by omega, by omega, og_nx_mk (by omega) ⟨by simp, ?_, frY_up (by decide) hF⟩⟩
      rw [sOld_s]
      unfold sOld1
      rw [if_pos hlive]
      exact isY_up (by decide) hY
    · refine ⟨by omega, og_nx_mk (by omega) ⟨by simp, ?_, hF⟩⟩
      rw [sOld_s]
      unfold sOld1
      rw [if_neg (by unfold sLive; grind)]
      exact hY
  · have e : i = sNp A := by omega
    subst e
    exact hK h1 hY hF
