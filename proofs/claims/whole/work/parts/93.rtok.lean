section
-- the reference's reading of words, signs, numbers
def txM (h : Hp) (B : Int → Int) (n : Int) : Prop := h 1000 3 = n ∧ (∀ j, 0 ≤ j → j < n → h 1001 j = B j) ∧ (0 ≤ n ∧ n ≤ 1600 ∧ ∀ j, 0 ≤ j → j < n → 0 ≤ B j ∧ B j ≤ 255) ∧ ∀ w, idW w → ∀ j : Nat, j < (wdM w).length → h w (j : Int) = (wdM w).getD j 0
def aln (x : Int) : Bool := isL x || isD x
def gpo (B : Int → Int) (n a : Int) : Prop := (isL (bt B n (a - 1)) = true → isL (bt B n a) = false) ∧ (isD (bt B n (a - 1)) = true → isD (bt B n a) = false)
def refS (h : Hp) (B : Int → Int) (n a : Int) : Prop := (h 1000 5 = 0 ∧ h 1000 6 = -1) ∧ (0 ≤ a ∧ a ≤ n) ∧ gpo B n a ∧ (a ≤ h 1000 2 ∧ h 1000 2 ≤ tS B n a) ∧ (h 1000 4 ≤ a ∧ (h 1000 4 = a ↔ aln (bt B n (a - 1)) = true))
def fltM (h : Hp) (k p : Int) : Prop := h 1000 5 = k ∧ h 1000 6 = p ∧ k ≠ 0
def frX (h h' : Hp) : Prop := ∀ i k, (i ≠ 1000 ∨ ¬ (k = 2 ∨ k = 4 ∨ k = 5 ∨ k = 6 ∨ k = 10 ∨ k = 36)) → h' i k = h i k
theorem frX_rf {h : Hp} : frX h h := fun _ _ _ => rfl
theorem frX_tr {h h1 h2 : Hp} (a : frX h h1) (b : frX h1 h2) : frX h h2 := fun i k p => (b i k p).trans (a i k p)
theorem txM_fr {h h' : Hp} {B : Int → Int} {n : Int} (ht : txM h B n) (hf : ∀ i k, ((i = 1000 ∧ k = 3) ∨ i = 1001 ∨ idW i) → h' i k = h i k) : txM h' B n := by
  obtain ⟨a, b, c, d⟩ := ht
  exact ⟨by rw [hf _ _ (Or.inl ⟨rfl, rfl⟩)]; exact a, fun j h0 h1 => by rw [hf _ _ (Or.inr (Or.inl rfl))]; exact b j h0 h1, c, fun w hw j hj => by rw [hf _ _ (Or.inr (Or.inr hw))]; exact d w hw j hj⟩
theorem txM_X {h h' : Hp} {B : Int → Int} {n : Int} (ht : txM h B n) (hf : frX h h') : txM h' B n := txM_fr ht (fun i k hi => hf i k (by
  rcases hi with z | z | z
  · right; omega
  · left; omega
  · left; unfold idW at z; omega))
section
variable {h h0 h' : Hp} {B : Int → Int} {n a : Int} {K : Int → Hp → Prop}
theorem bt_no {k : Int} (hk : ¬ (0 ≤ k ∧ k < n)) : bt B n k = -1 := if_neg hk
theorem blank_no {x : Int} (h : isBl x = true) : aln x = false := by
  unfold isBl at h
  unfold aln isL isD
  simp only [Bool.or_eq_true, decide_eq_true_eq] at h
  rcases h with z | z <;> subst z <;> rfl
theorem before {ha : 0 ≤ a} (hlt : a < tS B n a) (hle : tS B n a ≤ n) : aln (bt B n (tS B n a - 1)) = false := by
  have sp := tS_sp B n a
  have := sp.2.1 (tS B n a - 1) (by omega) (by omega)
  rw [bt_in (by omega) this.1]
  exact blank_no this.2
theorem glue {hr : refS h B n a} (hlt : tS B n a < n) (hal : aln (B (tS B n a)) = true) : tS B n a = h 1000 4 ↔ ((isL (B (tS B n a)) = true ∧ isD (bt B n (tS B n a - 1)) = true) ∨ (isD (B (tS B n a)) = true ∧ isL (bt B n (tS B n a - 1)) = true)) := by
  obtain ⟨-, r1, r2, r3, r4⟩ := hr
  have sp := tS_sp B n a
  have hb : bt B n (tS B n a) = B (tS B n a) := bt_in (by omega) hlt
  constructor
  · intro e
    have ea : tS B n a = a := by omega
    have hal2 := r4.2.mp (by omega)
    rw [ea] at hal hb ⊢
    unfold aln at hal hal2
    rw [Bool.or_eq_true] at hal hal2
    rcases hal with x | x
    · rcases hal2 with y | y
      · have := r2.1 y
        rw [hb, x] at this; cases this
      · exact Or.inl ⟨x, y⟩
    · rcases hal2 with y | y
      · exact Or.inr ⟨x, y⟩
      · have := r2.2 y
        rw [hb, x] at this; cases this
  · intro e
    have hal2 : aln (bt B n (tS B n a - 1)) = true := by
      unfold aln
      rcases e with e | e
      · rw [e.2]; simp
      · rw [e.2]; simp
    have ea : tS B n a = a := by
      by_cases q : a < tS B n a
      · have := before (ha := r1.1) q (by omega)
        rw [this] at hal2; cases hal2
      · omega
    rw [ea] at hal2
    rw [ea]
    exact (r4.2.mpr hal2).symm
theorem refS_at (hr : refS h B n a) (h2 : h' 1000 2 = tS B n a) (hf : ∀ i k, ¬ (i = 1000 ∧ k = 2) → h' i k = h i k) : refS h' B n a := by
  obtain ⟨r0, r1, r2, r3, r4⟩ := hr
  have sp := tS_sp B n a
  exact ⟨by rw [hf _ _ (by decide), hf _ _ (by decide)]; exact r0, r1, r2, by rw [h2]; exact ⟨sp.1, Int.le_refl _⟩, by rw [hf _ _ (by decide)]; exact r4⟩
theorem r_fail {k p : Int} (h5 : h 1000 5 = 0) (hk : k ≠ 0) (hK : ∀ h', fltM h' k p → (∀ i j, ¬ (i = 1000 ∧ (j = 5 ∨ j = 6)) → h' i j = h i j) → K 0 h') : m_Model_fail [1000, k, p] h K := by
  unfold m_Model_fail
  simp -implicitDefEqProofs only [↓dn_den, ↓dn_loc, ↓dn_k, ↓dn_add, ↓dn_sub, ↓dn_mul, ↓dn_div, ↓dn_rem, ↓dn_bop, ↓dn_ladd, ↓dn_lsub, ↓dn_lmul, ↓dn_ldiv, ↓dn_lrem, ↓dn_land, ↓dn_l2i, ↓dn_neg, ↓dn_get, ↓dn_fix, ↓dn_ald, ↓dn_gld, ↓dn_yld, ↓dn_len, ↓dn_gln, ↓dn_cc, ↓dn_cb, ↓dn_and, ↓dn_or, ↓dn_not, ↓dn_cite, ↓dn_ec, ↓dn_ei, ↓dn_skip, ↓dn_seq, ↓dn_set, ↓dn_inc, ↓dn_putf, ↓dn_putz, ↓dn_ast, ↓dn_exp, ↓dn_if, ↓dn_ret, ↓dn_retz, ↓dn_retv, ↓dn_brk, ↓dn_cont, ↓dn_cs, ↓dn_sw, ↓dn_pop32, ↓dn_pop64, ↓dn_aop, ↓dn_call, ↓dn_max, ↓dn_min, ↓dn_acp, ↓dn_i2l, ↓dn_args0, ↓dn_args1, og_pad, og_ent, og_rlt, og_rle, og_rgt, og_rge, og_req, og_rne, og_padd, og_psub, og_pmul, List.getD_cons_zero, List.getD_cons_succ, List.set_cons_zero, List.set_cons_succ, List.length_cons, List.length_nil, List.cons_append, List.nil_append, List.replicate, List.append_nil, Nat.reduceAdd, Nat.reduceSub, Nat.reduceEqDiff, if_true, if_false, reduceIte, Int.reduceAdd, Int.reduceSub, Int.reduceMul, Int.reduceNeg, Int.reduceLT, Int.reduceLE, Int.cast_ofNat_Int, true_or, or_true, true_and, and_true, false_and, List.mem_cons, List.not_mem_nil, or_false, false_or, ne_eq]
  rw [h5]
  refine ⟨fun z => absurd (by trivial) z, fun _ => hK _ ⟨by rw [og_up_k (by decide), og_up_eq], og_up_eq, hk⟩ (fun i j hij => ?_)⟩
  unfold og_up
  rw [if_neg (by omega), if_neg (by omega)]
theorem r_failF {k p : Int} (h5 : h 1000 5 ≠ 0) (hK : K 0 h) : m_Model_fail [1000, k, p] h K := by
  unfold m_Model_fail
  simp -implicitDefEqProofs only [↓dn_den, ↓dn_loc, ↓dn_k, ↓dn_add, ↓dn_sub, ↓dn_mul, ↓dn_div, ↓dn_rem, ↓dn_bop, ↓dn_ladd, ↓dn_lsub, ↓dn_lmul, ↓dn_ldiv, ↓dn_lrem, ↓dn_land, ↓dn_l2i, ↓dn_neg, ↓dn_get, ↓dn_fix, ↓dn_ald, ↓dn_gld, ↓dn_yld, ↓dn_len, ↓dn_gln, ↓dn_cc, ↓dn_cb, ↓dn_and, ↓dn_or, ↓dn_not, ↓dn_cite, ↓dn_ec, ↓dn_ei, ↓dn_skip, ↓dn_seq, ↓dn_set, ↓dn_inc, ↓dn_putf, ↓dn_putz, ↓dn_ast, ↓dn_exp, ↓dn_if, ↓dn_ret, ↓dn_retz, ↓dn_retv, ↓dn_brk, ↓dn_cont, ↓dn_cs, ↓dn_sw, ↓dn_pop32, ↓dn_pop64, ↓dn_aop, ↓dn_call, ↓dn_max, ↓dn_min, ↓dn_acp, ↓dn_i2l, ↓dn_args0, ↓dn_args1, og_pad, og_ent, og_rlt, og_rle, og_rgt, og_rge, og_req, og_rne, og_padd, og_psub, og_pmul, List.getD_cons_zero, List.getD_cons_succ, List.set_cons_zero, List.set_cons_succ, List.length_cons, List.length_nil, List.cons_append, List.nil_append, List.replicate, List.append_nil, Nat.reduceAdd, Nat.reduceSub, Nat.reduceEqDiff, if_true, if_false, reduceIte, Int.reduceAdd, Int.reduceSub, Int.reduceMul, Int.reduceNeg, Int.reduceLT, Int.reduceLE, Int.cast_ofNat_Int, true_or, or_true, true_and, and_true, false_and, List.mem_cons, List.not_mem_nil, or_false, false_or, ne_eq]
  exact ⟨fun _ => hK, fun z => absurd h5 z⟩
theorem r_isLetter {x : Int} (hK : K (if isL x = true then 1 else 0) h) : m_Model_isLetter [x] h K := by
  unfold m_Model_isLetter
  simp -implicitDefEqProofs only [↓dn_den, ↓dn_loc, ↓dn_k, ↓dn_add, ↓dn_sub, ↓dn_mul, ↓dn_div, ↓dn_rem, ↓dn_bop, ↓dn_ladd, ↓dn_lsub, ↓dn_lmul, ↓dn_ldiv, ↓dn_lrem, ↓dn_land, ↓dn_l2i, ↓dn_neg, ↓dn_get, ↓dn_fix, ↓dn_ald, ↓dn_gld, ↓dn_yld, ↓dn_len, ↓dn_gln, ↓dn_cc, ↓dn_cb, ↓dn_and, ↓dn_or, ↓dn_not, ↓dn_cite, ↓dn_ec, ↓dn_ei, ↓dn_skip, ↓dn_seq, ↓dn_set, ↓dn_inc, ↓dn_putf, ↓dn_putz, ↓dn_ast, ↓dn_exp, ↓dn_if, ↓dn_ret, ↓dn_retz, ↓dn_retv, ↓dn_brk, ↓dn_cont, ↓dn_cs, ↓dn_sw, ↓dn_pop32, ↓dn_pop64, ↓dn_aop, ↓dn_call, ↓dn_max, ↓dn_min, ↓dn_acp, ↓dn_i2l, ↓dn_args0, ↓dn_args1, og_pad, og_ent, og_rlt, og_rle, og_rgt, og_rge, og_req, og_rne, og_padd, og_psub, og_pmul, List.getD_cons_zero, List.getD_cons_succ, List.set_cons_zero, List.set_cons_succ, List.length_cons, List.length_nil, List.cons_append, List.nil_append, List.replicate, List.append_nil, Nat.reduceAdd, Nat.reduceSub, Nat.reduceEqDiff, if_true, if_false, reduceIte, Int.reduceAdd, Int.reduceSub, Int.reduceMul, Int.reduceNeg, Int.reduceLT, Int.reduceLE, Int.cast_ofNat_Int, true_or, or_true, true_and, and_true, false_and, List.mem_cons, List.not_mem_nil, or_false, false_or, ne_eq]
  unfold isL at hK
  refine ⟨fun z => ⟨fun y => ?_, fun y => ?_⟩, fun z => ?_⟩
  · rw [if_pos (by simp [y, z])] at hK; first | exact hK | exact ⟨by decide, hK⟩
  · rw [if_neg (by simp [y])] at hK; first | exact hK | exact ⟨by decide, hK⟩
  · rw [if_neg (by simp [z])] at hK; first | exact hK | exact ⟨by decide, hK⟩
theorem r_isDigit {x : Int} (hK : K (if isD x = true then 1 else 0) h) : m_Model_isDigit [x] h K := by
  unfold m_Model_isDigit
  simp -implicitDefEqProofs only [↓dn_den, ↓dn_loc, ↓dn_k, ↓dn_add, ↓dn_sub, ↓dn_mul, ↓dn_div, ↓dn_rem, ↓dn_bop, ↓dn_ladd, ↓dn_lsub, ↓dn_lmul, ↓dn_ldiv, ↓dn_lrem, ↓dn_land, ↓dn_l2i, ↓dn_neg, ↓dn_get, ↓dn_fix, ↓dn_ald, ↓dn_gld, ↓dn_yld, ↓dn_len, ↓dn_gln, ↓dn_cc, ↓dn_cb, ↓dn_and, ↓dn_or, ↓dn_not, ↓dn_cite, ↓dn_ec, ↓dn_ei, ↓dn_skip, ↓dn_seq, ↓dn_set, ↓dn_inc, ↓dn_putf, ↓dn_putz, ↓dn_ast, ↓dn_exp, ↓dn_if, ↓dn_ret, ↓dn_retz, ↓dn_retv, ↓dn_brk, ↓dn_cont, ↓dn_cs, ↓dn_sw, ↓dn_pop32, ↓dn_pop64, ↓dn_aop, ↓dn_call, ↓dn_max, ↓dn_min, ↓dn_acp, ↓dn_i2l, ↓dn_args0, ↓dn_args1, og_pad, og_ent, og_rlt, og_rle, og_rgt, og_rge, og_req, og_rne, og_padd, og_psub, og_pmul, List.getD_cons_zero, List.getD_cons_succ, List.set_cons_zero, List.set_cons_succ, List.length_cons, List.length_nil, List.cons_append, List.nil_append, List.replicate, List.append_nil, Nat.reduceAdd, Nat.reduceSub, Nat.reduceEqDiff, if_true, if_false, reduceIte, Int.reduceAdd, Int.reduceSub, Int.reduceMul, Int.reduceNeg, Int.reduceLT, Int.reduceLE, Int.cast_ofNat_Int, true_or, or_true, true_and, and_true, false_and, List.mem_cons, List.not_mem_nil, or_false, false_or, ne_eq]
  unfold isD at hK
  refine ⟨fun z => ⟨fun y => ?_, fun y => ?_⟩, fun z => ?_⟩
  · rw [if_pos (by simp [y, z])] at hK; first | exact hK | exact ⟨by decide, hK⟩
  · rw [if_neg (by simp [y])] at hK; first | exact hK | exact ⟨by decide, hK⟩
  · rw [if_neg (by simp [z])] at hK; first | exact hK | exact ⟨by decide, hK⟩
theorem r_look (ht : txM h B n) (hr : refS h B n a) (hK : ∀ h', refS h' B n a → h' 1000 2 = tS B n a → (∀ i k, ¬ (i = 1000 ∧ k = 2) → h' i k = h i k) → K (bt B n (tS B n a)) h') : m_Model_look [1000] h K := by
  obtain ⟨r0, r1, r2, r3, r4⟩ := hr
  have hr : refS h B n a := ⟨r0, r1, r2, r3, r4⟩
  have sp := tS_sp B n a
  have le : tS B n a ≤ n := rn_le r1.2
  have hn := ht.2.2.1
  unfold m_Model_look
  simp -implicitDefEqProofs only [↓dn_den, ↓dn_loc, ↓dn_k, ↓dn_add, ↓dn_sub, ↓dn_mul, ↓dn_div, ↓dn_rem, ↓dn_bop, ↓dn_ladd, ↓dn_lsub, ↓dn_lmul, ↓dn_ldiv, ↓dn_lrem, ↓dn_land, ↓dn_l2i, ↓dn_neg, ↓dn_get, ↓dn_fix, ↓dn_ald, ↓dn_gld, ↓dn_yld, ↓dn_len, ↓dn_gln, ↓dn_cc, ↓dn_cb, ↓dn_and, ↓dn_or, ↓dn_not, ↓dn_cite, ↓dn_ec, ↓dn_ei, ↓dn_skip, ↓dn_seq, ↓dn_set, ↓dn_inc, ↓dn_putf, ↓dn_putz, ↓dn_ast, ↓dn_exp, ↓dn_if, ↓dn_ret, ↓dn_retz, ↓dn_retv, ↓dn_brk, ↓dn_cont, ↓dn_cs, ↓dn_sw, ↓dn_pop32, ↓dn_pop64, ↓dn_aop, ↓dn_call, ↓dn_max, ↓dn_min, ↓dn_acp, ↓dn_i2l, ↓dn_args0, ↓dn_args1, og_pad, og_ent, og_rlt, og_rle, og_rgt, og_rge, og_req, og_rne, og_padd, og_psub, og_pmul, List.getD_cons_zero, List.getD_cons_succ, List.set_cons_zero, List.set_cons_succ, List.length_cons, List.length_nil, List.cons_append, List.nil_append, List.replicate, List.append_nil, Nat.reduceAdd, Nat.reduceSub, Nat.reduceEqDiff, if_true, if_false, reduceIte, Int.reduceAdd, Int.reduceSub, Int.reduceMul, Int.reduceNeg, Int.reduceLT, Int.reduceLE, Int.cast_ofNat_Int, true_or, or_true, true_and, and_true, false_and, List.mem_cons, List.not_mem_nil, or_false, false_or, ne_eq]
  refine ⟨fun e2 h2 => e2 = [1000] ∧ h2 1000 2 = tS B n a ∧ (∀ i k, ¬ (i = 1000 ∧ k = 2) → h2 i k = h i k), ?_, ?_⟩
  · obtain ⟨L, hL⟩ : ∃ L : Nat, tS B n a = h 1000 2 + L := ⟨(tS B n a - h 1000 2).toNat, by omega⟩
    refine og_loop L (fun i e2 h2 => e2 = [1000] ∧ h2 1000 2 = h 1000 2 + i ∧ (∀ i k, ¬ (i = 1000 ∧ k = 2) → h2 i k = h i k)) ⟨rfl, by simp, fun _ _ _ => rfl⟩ ?_
    rintro i e2 h2 hi ⟨rfl, v1, hf⟩
    simp -implicitDefEqProofs only [↓dn_den, ↓dn_loc, ↓dn_k, ↓dn_add, ↓dn_sub, ↓dn_mul, ↓dn_div, ↓dn_rem, ↓dn_bop, ↓dn_ladd, ↓dn_lsub, ↓dn_lmul, ↓dn_ldiv, ↓dn_lrem, ↓dn_land, ↓dn_l2i, ↓dn_neg, ↓dn_get, ↓dn_fix, ↓dn_ald, ↓dn_gld, ↓dn_yld, ↓dn_len, ↓dn_gln, ↓dn_cc, ↓dn_cb, ↓dn_and, ↓dn_or, ↓dn_not, ↓dn_cite, ↓dn_ec, ↓dn_ei, ↓dn_skip, ↓dn_seq, ↓dn_set, ↓dn_inc, ↓dn_putf, ↓dn_putz, ↓dn_ast, ↓dn_exp, ↓dn_if, ↓dn_ret, ↓dn_retz, ↓dn_retv, ↓dn_brk, ↓dn_cont, ↓dn_cs, ↓dn_sw, ↓dn_pop32, ↓dn_pop64, ↓dn_aop, ↓dn_call, ↓dn_max, ↓dn_min, ↓dn_acp, ↓dn_i2l, ↓dn_args0, ↓dn_args1, og_pad, og_ent, og_rlt, og_rle, og_rgt, og_rge, og_req, og_rne, og_padd, og_psub, og_pmul, List.getD_cons_zero, List.getD_cons_succ, List.set_cons_zero, List.set_cons_succ, List.length_cons, List.length_nil, List.cons_append, List.nil_append, List.replicate, List.append_nil, Nat.reduceAdd, Nat.reduceSub, Nat.reduceEqDiff, if_true, if_false, reduceIte, Int.reduceAdd, Int.reduceSub, Int.reduceMul, Int.reduceNeg, Int.reduceLT, Int.reduceLE, Int.cast_ofNat_Int, true_or, or_true, true_and, and_true, false_and, List.mem_cons, List.not_mem_nil, or_false, false_or, ne_eq, og_i32]
    rw [v1, hf 1000 3 (by decide), ht.1, hf 1001 _ (by omega)]
    by_cases hiL : i < L
    · have hb := sp.2.1 (h 1000 2 + i) (by omega) (by omega)
      rw [ht.2.1 (h 1000 2 + i) (by omega) hb.1]
      have hb2 := hb.2
      unfold isBl at hb2
      simp only [Bool.or_eq_true, decide_eq_true_eq] at hb2
      have nx : (-2147483648 ≤ h 1000 2 + (i : Int) + 1 ∧ h 1000 2 + (i : Int) + 1 ≤ 2147483647) ∧ og_nx L (fun i e2 h2 => e2 = [1000] ∧ h2 1000 2 = h 1000 2 + i ∧ (∀ i k, ¬ (i = 1000 ∧ k = 2) → h2 i k = h i k)) i [1000] (og_up h2 1000 2 (h 1000 2 + (i : Int) + 1)) := ⟨by omega, og_nx_mk hiL ⟨rfl, by rw [og_up_eq]; omega, fun j k hjk => by
        have : og_up h2 1000 2 (h 1000 2 + (i : Int) + 1) j k = h2 j k := by unfold og_up; exact if_neg hjk
        rw [this]; exact hf j k hjk⟩⟩
      refine ⟨fun _ => ?_, fun z => by omega⟩
      refine ⟨by omega, by omega, fun z => ?_, fun z => ⟨by omega, by omega, fun y => ?_, fun y => absurd (hb2.elim (fun q => absurd q z) id) y⟩⟩
      · simpa only [true_and] using nx
      · simpa only [true_and] using nx
    · have e : i = L := by omega
      subst e
      have fin : h2 1000 2 = tS B n a := by rw [v1]; omega
      have e2 : h 1000 2 + (i : Int) = tS B n a := by omega
      rw [e2]
      refine ⟨fun hlt => ?_, fun _ => ?_⟩
      · have hb : ¬ isBl (B (tS B n a)) = true := fun z => sp.2.2 ⟨hlt, z⟩
        unfold isBl at hb
        simp only [Bool.or_eq_true, decide_eq_true_eq, not_or] at hb
        rw [ht.2.1 _ (by omega) hlt]
        refine ⟨by omega, by omega, fun z => absurd z hb.1, fun _ => ⟨by omega, by omega, fun z => absurd z hb.2, fun _ => ?_⟩⟩
        first | exact ⟨fin, hf⟩ | exact ⟨rfl, hf⟩
      · first | exact ⟨fin, hf⟩ | exact ⟨rfl, hf⟩
  · rintro e2 h2 ⟨rfl, v1, hf⟩
    simp -implicitDefEqProofs only [↓dn_den, ↓dn_loc, ↓dn_k, ↓dn_add, ↓dn_sub, ↓dn_mul, ↓dn_div, ↓dn_rem, ↓dn_bop, ↓dn_ladd, ↓dn_lsub, ↓dn_lmul, ↓dn_ldiv, ↓dn_lrem, ↓dn_land, ↓dn_l2i, ↓dn_neg, ↓dn_get, ↓dn_fix, ↓dn_ald, ↓dn_gld, ↓dn_yld, ↓dn_len, ↓dn_gln, ↓dn_cc, ↓dn_cb, ↓dn_and, ↓dn_or, ↓dn_not, ↓dn_cite, ↓dn_ec, ↓dn_ei, ↓dn_skip, ↓dn_seq, ↓dn_set, ↓dn_inc, ↓dn_putf, ↓dn_putz, ↓dn_ast, ↓dn_exp, ↓dn_if, ↓dn_ret, ↓dn_retz, ↓dn_retv, ↓dn_brk, ↓dn_cont, ↓dn_cs, ↓dn_sw, ↓dn_pop32, ↓dn_pop64, ↓dn_aop, ↓dn_call, ↓dn_max, ↓dn_min, ↓dn_acp, ↓dn_i2l, ↓dn_args0, ↓dn_args1, og_pad, og_ent, og_rlt, og_rle, og_rgt, og_rge, og_req, og_rne, og_padd, og_psub, og_pmul, List.getD_cons_zero, List.getD_cons_succ, List.set_cons_zero, List.set_cons_succ, List.length_cons, List.length_nil, List.cons_append, List.nil_append, List.replicate, List.append_nil, Nat.reduceAdd, Nat.reduceSub, Nat.reduceEqDiff, if_true, if_false, reduceIte, Int.reduceAdd, Int.reduceSub, Int.reduceMul, Int.reduceNeg, Int.reduceLT, Int.reduceLE, Int.cast_ofNat_Int, true_or, or_true, true_and, and_true, false_and, List.mem_cons, List.not_mem_nil, or_false, false_or, ne_eq]
    rw [v1, hf 1000 3 (by decide), ht.1, hf 1001 _ (by omega)]
    have res := hK h2 (refS_at hr v1 hf) v1 hf
    refine ⟨fun hlt => ?_, fun hge => ?_⟩
    · rw [ht.2.1 _ (by omega) hlt]
      rw [bt_in (by omega) hlt] at res
      exact ⟨by omega, by omega, res⟩
    · rw [bt_no (by omega)] at res
      exact res
theorem tK_1 (hr : refS h B n a) (hlt : tS B n a < n) (hl : isL (B (tS B n a)) = true) : tK B n a = (if tS B n a = h 1000 4 then 4 else 1) ∧ tE B n a = tLe B n (tS B n a) := by
  have g := glue (hr := hr) hlt (by unfold aln; rw [hl]; rfl)
  have nd : isD (B (tS B n a)) = false := by
    unfold isL at hl
    unfold isD
    simp only [Bool.and_eq_true, decide_eq_true_eq] at hl
    simp only [Bool.and_eq_false_iff, decide_eq_false_iff_not]
    omega
  refine ⟨?_, by unfold tE; rw [if_pos hlt, if_pos hl]⟩
  unfold tK
  rw [if_pos hlt, if_pos hl]
  by_cases q : isD (bt B n (tS B n a - 1)) = true
  · rw [if_pos q, if_pos (g.mpr (Or.inl ⟨hl, q⟩))]
  · rw [if_neg q, if_neg (fun z => (g.mp z).elim (fun y => q y.2) (fun y => by rw [nd] at y; cases y.1))]
theorem tK_2 (hr : refS h B n a) (hlt : tS B n a < n) (hl : isL (B (tS B n a)) = false) (hd : isD (B (tS B n a)) = true) : tK B n a = (if tS B n a = h 1000 4 then 4 else 2) ∧ tE B n a = tDe B n (tS B n a) := by
  have g := glue (hr := hr) hlt (by unfold aln; rw [hd]; simp)
  refine ⟨?_, by unfold tE; rw [if_pos hlt, if_neg (by rw [hl]; decide), if_pos hd]⟩
  unfold tK
  rw [if_pos hlt, if_neg (by rw [hl]; decide), if_pos hd]
  by_cases q : isL (bt B n (tS B n a - 1)) = true
  · rw [if_pos q, if_pos (g.mpr (Or.inr ⟨hd, q⟩))]
  · rw [if_neg q, if_neg (fun z => (g.mp z).elim (fun y => by rw [hl] at y; cases y.1) (fun y => q y.2))]
theorem tK_no1 (h : ¬ (tS B n a < n ∧ isL (B (tS B n a)) = true)) : ¬ tK B n a = 1 := by
  intro e
  unfold tK at e
  by_cases q : tS B n a < n
  · rw [if_pos q, if_neg (fun z => h ⟨q, z⟩)] at e
    split at e
    · split at e <;> omega
    · omega
  · rw [if_neg q] at e; omega
theorem r_isHere {w : Int} (hw : idW w) (ht : txM h B n) (hr : refS h B n a) (hK : ∀ h', refS h' B n a → h' 1000 2 = tS B n a → (∀ i k, ¬ (i = 1000 ∧ k = 2) → h' i k = h i k) → K (if wrd B n a = wnM w then 1 else 0) h') : m_Model_isHere [1000, w] h K := by
  have wi := wd_id hw
  have hn := ht.2.2.1
  have le : tS B n a ≤ n := rn_le hr.2.1.2
  unfold m_Model_isHere
  simp -implicitDefEqProofs only [↓dn_den, ↓dn_loc, ↓dn_k, ↓dn_add, ↓dn_sub, ↓dn_mul, ↓dn_div, ↓dn_rem, ↓dn_bop, ↓dn_ladd, ↓dn_lsub, ↓dn_lmul, ↓dn_ldiv, ↓dn_lrem, ↓dn_land, ↓dn_l2i, ↓dn_neg, ↓dn_get, ↓dn_fix, ↓dn_ald, ↓dn_gld, ↓dn_yld, ↓dn_len, ↓dn_gln, ↓dn_cc, ↓dn_cb, ↓dn_and, ↓dn_or, ↓dn_not, ↓dn_cite, ↓dn_ec, ↓dn_ei, ↓dn_skip, ↓dn_seq, ↓dn_set, ↓dn_inc, ↓dn_putf, ↓dn_putz, ↓dn_ast, ↓dn_exp, ↓dn_if, ↓dn_ret, ↓dn_retz, ↓dn_retv, ↓dn_brk, ↓dn_cont, ↓dn_cs, ↓dn_sw, ↓dn_pop32, ↓dn_pop64, ↓dn_aop, ↓dn_call, ↓dn_max, ↓dn_min, ↓dn_acp, ↓dn_i2l, ↓dn_args0, ↓dn_args1, og_pad, og_ent, og_rlt, og_rle, og_rgt, og_rge, og_req, og_rne, og_padd, og_psub, og_pmul, List.getD_cons_zero, List.getD_cons_succ, List.set_cons_zero, List.set_cons_succ, List.length_cons, List.length_nil, List.cons_append, List.nil_append, List.replicate, List.append_nil, Nat.reduceAdd, Nat.reduceSub, Nat.reduceEqDiff, if_true, if_false, reduceIte, Int.reduceAdd, Int.reduceSub, Int.reduceMul, Int.reduceNeg, Int.reduceLT, Int.reduceLE, Int.cast_ofNat_Int, true_or, or_true, true_and, and_true, false_and, List.mem_cons, List.not_mem_nil, or_false, false_or, ne_eq]
  rw [hr.1.1]
  refine ⟨fun z => absurd (by trivial) z, fun _ => ?_⟩
  refine r_look ht hr (fun h1 hr1 v1 f1 => ?_)
  have ht1 : txM h1 B n := txM_fr ht (fun i k hi => f1 i k (by unfold idW at hi; omega))
  have fin := hK h1 hr1 v1 f1
  have no : ¬ wrd B n a = wnM w → K 0 h1 := fun z => by rw [if_neg z] at fin; exact fin
  refine r_isLetter ⟨fun z => ?_, fun z => ?_⟩
  · have z := ite10 z
    have hlt : tS B n a < n := by
      by_cases q : tS B n a < n
      · exact q
      · rw [bt_no (by omega)] at z; cases z
    rw [bt_in (by have := hr.2.1; have := (tS_sp B n a).1; omega) hlt] at z
    have k1 := tK_1 hr1 hlt z
    rw [v1]
    refine ⟨fun y => ?_, fun y => ?_⟩
    · have := no (by
        unfold wrd
        rw [k1.1, if_pos y]
        have := wi.2.1
        simp; omega)
      first | exact this | exact ⟨by decide, this⟩
    have hk : tK B n a = 1 := by rw [k1.1, if_neg y]
    have wf := word_iff (B := B) (n := n) (a := a) (w := (wnM w).toNat) (by omega) hk
    rw [Int.toNat_of_nonneg wi.2.1, ← wi.1] at wf
    have sp := rn_sp (fun k => isL (B k)) n (tS B n a)
    have esp : rn (fun k => isL (B k)) n (tS B n a) = tE B n a := k1.2.symm
    rw [esp] at sp
    have te := tE_le (B := B) (n := n) hr.2.1.2
    have s0 : 0 ≤ tS B n a := by have := hr.2.1; have := (tS_sp B n a).1; omega
    refine ⟨fun e2 h2 => h2 = h1 ∧ ∃ c3, e2 = [1000, w, tE B n a, c3], ?_, ?_⟩
    · obtain ⟨L, hL⟩ : ∃ L : Nat, tE B n a = tS B n a + L := ⟨(tE B n a - tS B n a).toNat, by omega⟩
      refine og_loop L (fun i e2 h2 => h2 = h1 ∧ e2 = [1000, w, tS B n a + i, 0]) ⟨rfl, by simp⟩ ?_
      rintro i e2 h2 hi ⟨rfl, rfl⟩
      simp -implicitDefEqProofs only [↓dn_den, ↓dn_loc, ↓dn_k, ↓dn_add, ↓dn_sub, ↓dn_mul, ↓dn_div, ↓dn_rem, ↓dn_bop, ↓dn_ladd, ↓dn_lsub, ↓dn_lmul, ↓dn_ldiv, ↓dn_lrem, ↓dn_land, ↓dn_l2i, ↓dn_neg, ↓dn_get, ↓dn_fix, ↓dn_ald, ↓dn_gld, ↓dn_yld, ↓dn_len, ↓dn_gln, ↓dn_cc, ↓dn_cb, ↓dn_and, ↓dn_or, ↓dn_not, ↓dn_cite, ↓dn_ec, ↓dn_ei, ↓dn_skip, ↓dn_seq, ↓dn_set, ↓dn_inc, ↓dn_putf, ↓dn_putz, ↓dn_ast, ↓dn_exp, ↓dn_if, ↓dn_ret, ↓dn_retz, ↓dn_retv, ↓dn_brk, ↓dn_cont, ↓dn_cs, ↓dn_sw, ↓dn_pop32, ↓dn_pop64, ↓dn_aop, ↓dn_call, ↓dn_max, ↓dn_min, ↓dn_acp, ↓dn_i2l, ↓dn_args0, ↓dn_args1, og_pad, og_ent, og_rlt, og_rle, og_rgt, og_rge, og_req, og_rne, og_padd, og_psub, og_pmul, List.getD_cons_zero, List.getD_cons_succ, List.set_cons_zero, List.set_cons_succ, List.length_cons, List.length_nil, List.cons_append, List.nil_append, List.replicate, List.append_nil, Nat.reduceAdd, Nat.reduceSub, Nat.reduceEqDiff, if_true, if_false, reduceIte, Int.reduceAdd, Int.reduceSub, Int.reduceMul, Int.reduceNeg, Int.reduceLT, Int.reduceLE, Int.cast_ofNat_Int, true_or, or_true, true_and, and_true, false_and, List.mem_cons, List.not_mem_nil, or_false, false_or, ne_eq, og_i32]
      rw [ht1.1]
      by_cases hiL : i < L
      · have hb := sp.2.1 (tS B n a + i) (by omega) (by omega)
        rw [ht1.2.1 _ (by omega) hb.1]
        refine ⟨fun _ => ⟨by omega, by omega, r_isLetter ⟨fun _ => ⟨by omega, og_nx_mk hiL ⟨rfl, by simp; omega⟩⟩, fun q => absurd hb.2 (by rw [ite00 q]; decide)⟩⟩, fun q => by omega⟩
      · have e : i = L := by omega
        subst e
        rw [← hL]
        refine ⟨fun hlt2 => ?_, fun _ => by first | exact ⟨rfl, _, rfl⟩ | exact ⟨_, rfl⟩⟩
        rw [ht1.2.1 _ (by omega) hlt2]
        refine ⟨by omega, by omega, r_isLetter ⟨fun q => absurd ⟨hlt2, ite10 q⟩ sp.2.2, fun _ => by first | exact ⟨rfl, _, rfl⟩ | exact ⟨_, rfl⟩⟩⟩
    · rintro e2 h2 ⟨rfl, c3, rfl⟩
      simp -implicitDefEqProofs only [↓dn_den, ↓dn_loc, ↓dn_k, ↓dn_add, ↓dn_sub, ↓dn_mul, ↓dn_div, ↓dn_rem, ↓dn_bop, ↓dn_ladd, ↓dn_lsub, ↓dn_lmul, ↓dn_ldiv, ↓dn_lrem, ↓dn_land, ↓dn_l2i, ↓dn_neg, ↓dn_get, ↓dn_fix, ↓dn_ald, ↓dn_gld, ↓dn_yld, ↓dn_len, ↓dn_gln, ↓dn_cc, ↓dn_cb, ↓dn_and, ↓dn_or, ↓dn_not, ↓dn_cite, ↓dn_ec, ↓dn_ei, ↓dn_skip, ↓dn_seq, ↓dn_set, ↓dn_inc, ↓dn_putf, ↓dn_putz, ↓dn_ast, ↓dn_exp, ↓dn_if, ↓dn_ret, ↓dn_retz, ↓dn_retv, ↓dn_brk, ↓dn_cont, ↓dn_cs, ↓dn_sw, ↓dn_pop32, ↓dn_pop64, ↓dn_aop, ↓dn_call, ↓dn_max, ↓dn_min, ↓dn_acp, ↓dn_i2l, ↓dn_args0, ↓dn_args1, og_pad, og_ent, og_rlt, og_rle, og_rgt, og_rge, og_req, og_rne, og_padd, og_psub, og_pmul, List.getD_cons_zero, List.getD_cons_succ, List.set_cons_zero, List.set_cons_succ, List.length_cons, List.length_nil, List.cons_append, List.nil_append, List.replicate, List.append_nil, Nat.reduceAdd, Nat.reduceSub, Nat.reduceEqDiff, if_true, if_false, reduceIte, Int.reduceAdd, Int.reduceSub, Int.reduceMul, Int.reduceNeg, Int.reduceLT, Int.reduceLE, Int.cast_ofNat_Int, true_or, or_true, true_and, and_true, false_and, List.mem_cons, List.not_mem_nil, or_false, false_or, ne_eq, og_i32]
      rw [v1, wi.2.2.2]
      refine ⟨by omega, fun q => ?_, fun q => ?_⟩
      · have := no (fun e => q (wf.mp e).1)
        first | exact this | exact ⟨by decide, this⟩
      have q : tE B n a - tS B n a = ((wdM w).length : Int) := by simpa using q
      refine ⟨fun e3 h3 => h3 = h2 ∧ ∀ j : Nat, j < (wdM w).length → B (tS B n a + j) = (wdM w).getD j 0, ?_, ?_⟩
      · simp -implicitDefEqProofs only [↓dn_den, ↓dn_loc, ↓dn_k, ↓dn_add, ↓dn_sub, ↓dn_mul, ↓dn_div, ↓dn_rem, ↓dn_bop, ↓dn_ladd, ↓dn_lsub, ↓dn_lmul, ↓dn_ldiv, ↓dn_lrem, ↓dn_land, ↓dn_l2i, ↓dn_neg, ↓dn_get, ↓dn_fix, ↓dn_ald, ↓dn_gld, ↓dn_yld, ↓dn_len, ↓dn_gln, ↓dn_cc, ↓dn_cb, ↓dn_and, ↓dn_or, ↓dn_not, ↓dn_cite, ↓dn_ec, ↓dn_ei, ↓dn_skip, ↓dn_seq, ↓dn_set, ↓dn_inc, ↓dn_putf, ↓dn_putz, ↓dn_ast, ↓dn_exp, ↓dn_if, ↓dn_ret, ↓dn_retz, ↓dn_retv, ↓dn_brk, ↓dn_cont, ↓dn_cs, ↓dn_sw, ↓dn_pop32, ↓dn_pop64, ↓dn_aop, ↓dn_call, ↓dn_max, ↓dn_min, ↓dn_acp, ↓dn_i2l, ↓dn_args0, ↓dn_args1, og_pad, og_ent, og_rlt, og_rle, og_rgt, og_rge, og_req, og_rne, og_padd, og_psub, og_pmul, List.getD_cons_zero, List.getD_cons_succ, List.set_cons_zero, List.set_cons_succ, List.length_cons, List.length_nil, List.cons_append, List.nil_append, List.replicate, List.append_nil, Nat.reduceAdd, Nat.reduceSub, Nat.reduceEqDiff, if_true, if_false, reduceIte, Int.reduceAdd, Int.reduceSub, Int.reduceMul, Int.reduceNeg, Int.reduceLT, Int.reduceLE, Int.cast_ofNat_Int, true_or, or_true, true_and, and_true, false_and, List.mem_cons, List.not_mem_nil, or_false, false_or, ne_eq]
        refine og_loop (wdM w).length (fun i e3 h3 => h3 = h2 ∧ e3 = [1000, w, tE B n a, (i : Int)] ∧ ∀ j : Nat, j < i → B (tS B n a + j) = (wdM w).getD j 0) ⟨rfl, rfl, fun j hj => by omega⟩ ?_
        rintro i e3 h3 hi ⟨rfl, rfl, hj⟩
        simp -implicitDefEqProofs only [↓dn_den, ↓dn_loc, ↓dn_k, ↓dn_add, ↓dn_sub, ↓dn_mul, ↓dn_div, ↓dn_rem, ↓dn_bop, ↓dn_ladd, ↓dn_lsub, ↓dn_lmul, ↓dn_ldiv, ↓dn_lrem, ↓dn_land, ↓dn_l2i, ↓dn_neg, ↓dn_get, ↓dn_fix, ↓dn_ald, ↓dn_gld, ↓dn_yld, ↓dn_len, ↓dn_gln, ↓dn_cc, ↓dn_cb, ↓dn_and, ↓dn_or, ↓dn_not, ↓dn_cite, ↓dn_ec, ↓dn_ei, ↓dn_skip, ↓dn_seq, ↓dn_set, ↓dn_inc, ↓dn_putf, ↓dn_putz, ↓dn_ast, ↓dn_exp, ↓dn_if, ↓dn_ret, ↓dn_retz, ↓dn_retv, ↓dn_brk, ↓dn_cont, ↓dn_cs, ↓dn_sw, ↓dn_pop32, ↓dn_pop64, ↓dn_aop, ↓dn_call, ↓dn_max, ↓dn_min, ↓dn_acp, ↓dn_i2l, ↓dn_args0, ↓dn_args1, og_pad, og_ent, og_rlt, og_rle, og_rgt, og_rge, og_req, og_rne, og_padd, og_psub, og_pmul, List.getD_cons_zero, List.getD_cons_succ, List.set_cons_zero, List.set_cons_succ, List.length_cons, List.length_nil, List.cons_append, List.nil_append, List.replicate, List.append_nil, Nat.reduceAdd, Nat.reduceSub, Nat.reduceEqDiff, if_true, if_false, reduceIte, Int.reduceAdd, Int.reduceSub, Int.reduceMul, Int.reduceNeg, Int.reduceLT, Int.reduceLE, Int.cast_ofNat_Int, true_or, or_true, true_and, and_true, false_and, List.mem_cons, List.not_mem_nil, or_false, false_or, ne_eq, og_i32]
        rw [wi.2.2.2, v1]
        refine ⟨fun hlt3 => ?_, fun hge3 => ?_⟩
        · rw [ht1.2.1 _ (by omega) (by omega), ht1.2.2.2 w hw i (by omega)]
          refine ⟨by omega, by omega, by omega, by omega, by omega, fun x => ?_, fun x => ?_⟩
          · have := no (fun e => x ((wf.mp e).2 i (by omega)))
            first | exact this | exact ⟨by decide, this⟩
          · refine ⟨by omega, og_nx_mk (by omega) ⟨rfl, by simp, fun j hjj => ?_⟩⟩
            by_cases e : j = i
            · subst e; simpa using x
            · exact hj j (by omega)
        · have e : i = (wdM w).length := by omega
          subst e
          first | exact ⟨rfl, hj⟩ | exact hj
      · rintro e3 h3 ⟨rfl, hj⟩
        simp -implicitDefEqProofs only [↓dn_den, ↓dn_loc, ↓dn_k, ↓dn_add, ↓dn_sub, ↓dn_mul, ↓dn_div, ↓dn_rem, ↓dn_bop, ↓dn_ladd, ↓dn_lsub, ↓dn_lmul, ↓dn_ldiv, ↓dn_lrem, ↓dn_land, ↓dn_l2i, ↓dn_neg, ↓dn_get, ↓dn_fix, ↓dn_ald, ↓dn_gld, ↓dn_yld, ↓dn_len, ↓dn_gln, ↓dn_cc, ↓dn_cb, ↓dn_and, ↓dn_or, ↓dn_not, ↓dn_cite, ↓dn_ec, ↓dn_ei, ↓dn_skip, ↓dn_seq, ↓dn_set, ↓dn_inc, ↓dn_putf, ↓dn_putz, ↓dn_ast, ↓dn_exp, ↓dn_if, ↓dn_ret, ↓dn_retz, ↓dn_retv, ↓dn_brk, ↓dn_cont, ↓dn_cs, ↓dn_sw, ↓dn_pop32, ↓dn_pop64, ↓dn_aop, ↓dn_call, ↓dn_max, ↓dn_min, ↓dn_acp, ↓dn_i2l, ↓dn_args0, ↓dn_args1, og_pad, og_ent, og_rlt, og_rle, og_rgt, og_rge, og_req, og_rne, og_padd, og_psub, og_pmul, List.getD_cons_zero, List.getD_cons_succ, List.set_cons_zero, List.set_cons_succ, List.length_cons, List.length_nil, List.cons_append, List.nil_append, List.replicate, List.append_nil, Nat.reduceAdd, Nat.reduceSub, Nat.reduceEqDiff, if_true, if_false, reduceIte, Int.reduceAdd, Int.reduceSub, Int.reduceMul, Int.reduceNeg, Int.reduceLT, Int.reduceLE, Int.cast_ofNat_Int, true_or, or_true, true_and, and_true, false_and, List.mem_cons, List.not_mem_nil, or_false, false_or, ne_eq]
        rw [if_pos (wf.mpr ⟨q, hj⟩)] at fin
        first | exact fin | exact ⟨by decide, fin⟩
  · have z := ite00 z
    have hk : ¬ tK B n a = 1 := tK_no1 (fun q => by
      rw [bt_in (by have := hr.2.1; have := (tS_sp B n a).1; omega) q.1, q.2] at z
      cases z)
    have := no (by
      unfold wrd
      rw [if_neg hk]
      have := wi.2.1
      omega)
    first | exact this | exact ⟨by decide, this⟩
theorem r_isHereF {w : Int} (h5 : h 1000 5 ≠ 0) (hK : K 0 h) : m_Model_isHere [1000, w] h K := by
  unfold m_Model_isHere
  simp -implicitDefEqProofs only [↓dn_den, ↓dn_loc, ↓dn_k, ↓dn_add, ↓dn_sub, ↓dn_mul, ↓dn_div, ↓dn_rem, ↓dn_bop, ↓dn_ladd, ↓dn_lsub, ↓dn_lmul, ↓dn_ldiv, ↓dn_lrem, ↓dn_land, ↓dn_l2i, ↓dn_neg, ↓dn_get, ↓dn_fix, ↓dn_ald, ↓dn_gld, ↓dn_yld, ↓dn_len, ↓dn_gln, ↓dn_cc, ↓dn_cb, ↓dn_and, ↓dn_or, ↓dn_not, ↓dn_cite, ↓dn_ec, ↓dn_ei, ↓dn_skip, ↓dn_seq, ↓dn_set, ↓dn_inc, ↓dn_putf, ↓dn_putz, ↓dn_ast, ↓dn_exp, ↓dn_if, ↓dn_ret, ↓dn_retz, ↓dn_retv, ↓dn_brk, ↓dn_cont, ↓dn_cs, ↓dn_sw, ↓dn_pop32, ↓dn_pop64, ↓dn_aop, ↓dn_call, ↓dn_max, ↓dn_min, ↓dn_acp, ↓dn_i2l, ↓dn_args0, ↓dn_args1, og_pad, og_ent, og_rlt, og_rle, og_rgt, og_rge, og_req, og_rne, og_padd, og_psub, og_pmul, List.getD_cons_zero, List.getD_cons_succ, List.set_cons_zero, List.set_cons_succ, List.length_cons, List.length_nil, List.cons_append, List.nil_append, List.replicate, List.append_nil, Nat.reduceAdd, Nat.reduceSub, Nat.reduceEqDiff, if_true, if_false, reduceIte, Int.reduceAdd, Int.reduceSub, Int.reduceMul, Int.reduceNeg, Int.reduceLT, Int.reduceLE, Int.cast_ofNat_Int, true_or, or_true, true_and, and_true, false_and, List.mem_cons, List.not_mem_nil, or_false, false_or, ne_eq]
  refine ⟨fun _ => ?_, fun z => absurd h5 z⟩
  first | exact hK | exact ⟨by decide, hK⟩
end
end
