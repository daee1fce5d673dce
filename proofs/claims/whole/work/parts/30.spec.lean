-- the spec: a yard as numbers by (part, place): part 0: graves, people, month, kept rows; 1 long, 2 deep, 3 due, 4 who; 5 tall, 6 age, 7 will, 8 alive; 9 kept cells
abbrev Yd : Type := Int → Int → Int
def sAsk (A : Yd) (g : Int) : Bool := decide (6 ≤ A 2 g) && decide (A 4 g = -1)
def sFit (A : Yd) (p g : Int) : Bool := decide (A 5 p ≤ A 1 g)
def sLive (A : Yd) (p : Int) : Bool := decide (A 8 p = 1)
def sFill (A : Yd) (g : Int) : Bool := decide (A 4 g ≠ -1)
def sCnt (f : Int → Bool) : Nat → Int
  | 0 => 0
  | n + 1 => sCnt f n + (if f (n : Int) then 1 else 0)
def sNext (A : Yd) (p : Int) : Nat → Int
  | 0 => -1
  | n + 1 => if sAsk A (n : Int) && sFit A p (n : Int) && (decide (sNext A p n = -1) || decide (A 3 (n : Int) < A 3 (sNext A p n))) then (n : Int) else sNext A p n
def sUp (A : Yd) (c k v : Int) : Yd := fun c' k' => if c' = c ∧ k' = k then v else A c' k'
def isY (h : Hp) (y : Int) (A : Yd) : Prop := (h y 0 = A 0 0 ∧ h y 1 = A 0 1 ∧ h y 2 = A 0 2 ∧ h y 3 = A 0 3) ∧
  (∀ k, 0 ≤ k → k < A 0 0 → h (y + 1) k = A 1 k ∧ h (y + 2) k = A 2 k ∧ h (y + 3) k = A 3 k ∧ h (y + 4) k = A 4 k) ∧
  (∀ k, 0 ≤ k → k < A 0 1 → h (y + 5) k = A 5 k ∧ h (y + 6) k = A 6 k ∧ h (y + 7) k = A 7 k ∧ h (y + 8) k = A 8 k) ∧
  (∀ k, 0 ≤ k → k < 4 * A 0 3 → h (y + 9) k = A 9 k)
def okY (A : Yd) : Prop := (0 ≤ A 0 0 ∧ A 0 0 ≤ 6 ∧ 0 ≤ A 0 1 ∧ A 0 1 ≤ 8 ∧ 0 ≤ A 0 2 ∧ A 0 2 ≤ 2000 ∧ 0 ≤ A 0 3 ∧ A 0 3 ≤ 8) ∧
  (∀ k, 0 ≤ k → k < A 0 0 → 1 ≤ A 1 k ∧ A 1 k ≤ 9 ∧ 0 ≤ A 2 k ∧ A 2 k ≤ 9 ∧ 0 ≤ A 3 k ∧ A 3 k ≤ 30 ∧ -1 ≤ A 4 k ∧ A 4 k < A 0 1) ∧
  (∀ k, 0 ≤ k → k < A 0 1 → 1 ≤ A 5 k ∧ A 5 k ≤ 9 ∧ 0 ≤ A 6 k ∧ A 6 k ≤ 99 ∧ 0 ≤ A 7 k ∧ A 7 k ≤ 9 ∧ 0 ≤ A 8 k ∧ A 8 k ≤ 1)
theorem sCnt_le (f : Int → Bool) (n : Nat) : 0 ≤ sCnt f n ∧ sCnt f n ≤ n := by
  induction n with
  | zero => exact ⟨Int.le_refl 0, Int.le_refl 0⟩
  | succ n ih =>
    unfold sCnt
    split <;> omega
theorem sNext_rg (A : Yd) (p : Int) (n : Nat) : -1 ≤ sNext A p n ∧ sNext A p n < n := by
  induction n with
  | zero => exact ⟨Int.le_refl _, show (-1 : Int) < 0 by decide⟩
  | succ n ih =>
    unfold sNext
    split <;> omega
theorem og_up_eq {h : Hp} {i k v : Int} : og_up h i k v i k = v := by unfold og_up; exact if_pos ⟨rfl, rfl⟩
theorem og_up_i {h : Hp} {i k v i' k' : Int} (hi : i' ≠ i) : og_up h i k v i' k' = h i' k' := by unfold og_up; exact if_neg (fun z => hi z.1)
theorem og_up_k {h : Hp} {i k v i' k' : Int} (hi : k' ≠ k) : og_up h i k v i' k' = h i' k' := by unfold og_up; exact if_neg (fun z => hi z.2)
theorem sCnt_s (f : Int → Bool) (n : Nat) : sCnt f (n + 1) = sCnt f n + (if f (n : Int) then 1 else 0) := rfl
theorem sNext_s (A : Yd) (p : Int) (n : Nat) : sNext A p (n + 1) = if sAsk A (n : Int) && sFit A p (n : Int) && (decide (sNext A p n = -1) || decide (A 3 (n : Int) < A 3 (sNext A p n))) then (n : Int) else sNext A p n := rfl
def og_nx (N : Nat) (J : Nat → List Int → Hp → Prop) (i : Nat) (e : List Int) (h : Hp) : Prop := ∃ m, m < N - i ∧ ∃ j, j ≤ N ∧ m = N - j ∧ J j e h
theorem og_nx_mk {N : Nat} {J : Nat → List Int → Hp → Prop} {i : Nat} {e : List Int} {h : Hp} (hi : i < N) (hJ : J (i + 1) e h) : og_nx N J i e h := ⟨N - (i + 1), by omega, i + 1, hi, rfl, hJ⟩
theorem og_loop {c : og_Cd} {s st : og_St} {env : List Int} {h : Hp} {K : List Int → Hp → Prop} {R : Int → Hp → Prop} {B C : List Int → Hp → Prop} (N : Nat) (J : Nat → List Int → Hp → Prop) (h0 : J 0 env h)
    (hs : ∀ i e1 h1, i ≤ N → J i e1 h1 → c e1 h1 (fun h2 => s e1 h2 (fun e3 h3 => st e3 h3 (og_nx N J i) R (fun _ _ => False) (fun _ _ => False)) R K (fun e3 h3 => st e3 h3 (og_nx N J i) R (fun _ _ => False) (fun _ _ => False))) (fun h2 => K e1 h2)) : og_while c s st env h K R B C := by
  refine ⟨fun n e h => ∃ i, i ≤ N ∧ n = N - i ∧ J i e h, ⟨_, 0, Nat.zero_le _, rfl, h0⟩, ?_⟩
  rintro n e1 h1 ⟨i, hi, rfl, hJ⟩
  exact hs i e1 h1 hi hJ
theorem og_sum {x y : Int} (h1 : -1000000000 ≤ x) (h2 : x ≤ 1000000000) (h3 : -1000000000 ≤ y) (h4 : y ≤ 1000000000) : og_i32 (x + y) := ⟨by omega, by omega⟩
-- ===== the class's yard
theorem s_Yard_isGrave {h : Hp} {y g : Int} {K : Int → Hp → Prop} (hK : K (if 0 ≤ g ∧ g < h y 0 then 1 else 0) h) : m_Yard_isGrave [y, g] h K := by
  unfold m_Yard_isGrave
  simp only [og_den, og_pad, og_ent, og_loc, og_k, og_add, og_sub, og_mul, og_div, og_rem, og_bop, og_ladd, og_lsub, og_lmul, og_ldiv, og_lrem, og_land, og_i2l, og_l2i, og_neg, og_get, og_fix, og_ald, og_gld, og_yld, og_len, og_gln, og_cc, og_cb, og_and, og_or, og_not, og_cite, og_ec, og_ei, og_rlt, og_rle, og_rgt, og_rge, og_req, og_rne, og_skip, og_seq, og_set, og_inc, og_putf, og_putz, og_ast, og_exp, og_if, og_ret, og_retz, og_retv, og_brk, og_cont, og_cs, og_sw, og_pop32, og_pop64, og_aop, og_padd, og_psub, og_pmul, og_call, og_args, og_max, og_min, og_acp, List.getD_cons_zero, List.getD_cons_succ, List.set_cons_zero, List.set_cons_succ, List.length_cons, List.length_nil, List.cons_append, List.nil_append, List.replicate, List.append_nil, Nat.reduceAdd, Nat.reduceSub, Nat.reduceEqDiff, if_true, if_false, reduceIte, Int.reduceAdd, Int.reduceSub, Int.reduceMul, Int.reduceNeg, Int.reduceLT, Int.reduceLE, Int.cast_ofNat_Int, true_or, or_true, true_and, and_true, false_and, List.mem_cons, List.not_mem_nil, or_false, false_or, ne_eq]
  grind
theorem s_Yard_isPerson {h : Hp} {y g : Int} {K : Int → Hp → Prop} (hK : K (if 0 ≤ g ∧ g < h y 1 then 1 else 0) h) : m_Yard_isPerson [y, g] h K := by
  unfold m_Yard_isPerson
  simp only [og_den, og_pad, og_ent, og_loc, og_k, og_add, og_sub, og_mul, og_div, og_rem, og_bop, og_ladd, og_lsub, og_lmul, og_ldiv, og_lrem, og_land, og_i2l, og_l2i, og_neg, og_get, og_fix, og_ald, og_gld, og_yld, og_len, og_gln, og_cc, og_cb, og_and, og_or, og_not, og_cite, og_ec, og_ei, og_rlt, og_rle, og_rgt, og_rge, og_req, og_rne, og_skip, og_seq, og_set, og_inc, og_putf, og_putz, og_ast, og_exp, og_if, og_ret, og_retz, og_retv, og_brk, og_cont, og_cs, og_sw, og_pop32, og_pop64, og_aop, og_padd, og_psub, og_pmul, og_call, og_args, og_max, og_min, og_acp, List.getD_cons_zero, List.getD_cons_succ, List.set_cons_zero, List.set_cons_succ, List.length_cons, List.length_nil, List.cons_append, List.nil_append, List.replicate, List.append_nil, Nat.reduceAdd, Nat.reduceSub, Nat.reduceEqDiff, if_true, if_false, reduceIte, Int.reduceAdd, Int.reduceSub, Int.reduceMul, Int.reduceNeg, Int.reduceLT, Int.reduceLE, Int.cast_ofNat_Int, true_or, or_true, true_and, and_true, false_and, List.mem_cons, List.not_mem_nil, or_false, false_or, ne_eq]
  grind
theorem s_Yard_asks {h : Hp} {y g : Int} {K : Int → Hp → Prop} (h0 : 0 ≤ g) (h1 : g < 6) (hK : K (if 6 ≤ h (y + 2) g ∧ h (y + 4) g = -1 then 1 else 0) h) : m_Yard_asks [y, g] h K := by
  unfold m_Yard_asks
  simp only [og_den, og_pad, og_ent, og_loc, og_k, og_add, og_sub, og_mul, og_div, og_rem, og_bop, og_ladd, og_lsub, og_lmul, og_ldiv, og_lrem, og_land, og_i2l, og_l2i, og_neg, og_get, og_fix, og_ald, og_gld, og_yld, og_len, og_gln, og_cc, og_cb, og_and, og_or, og_not, og_cite, og_ec, og_ei, og_rlt, og_rle, og_rgt, og_rge, og_req, og_rne, og_skip, og_seq, og_set, og_inc, og_putf, og_putz, og_ast, og_exp, og_if, og_ret, og_retz, og_retv, og_brk, og_cont, og_cs, og_sw, og_pop32, og_pop64, og_aop, og_padd, og_psub, og_pmul, og_call, og_args, og_max, og_min, og_acp, List.getD_cons_zero, List.getD_cons_succ, List.set_cons_zero, List.set_cons_succ, List.length_cons, List.length_nil, List.cons_append, List.nil_append, List.replicate, List.append_nil, Nat.reduceAdd, Nat.reduceSub, Nat.reduceEqDiff, if_true, if_false, reduceIte, Int.reduceAdd, Int.reduceSub, Int.reduceMul, Int.reduceNeg, Int.reduceLT, Int.reduceLE, Int.cast_ofNat_Int, true_or, or_true, true_and, and_true, false_and, List.mem_cons, List.not_mem_nil, or_false, false_or, ne_eq]
  grind
theorem s_Yard_isFilled {h : Hp} {y g : Int} {K : Int → Hp → Prop} (h0 : 0 ≤ g) (h1 : g < 6) (hK : K (if h (y + 4) g ≠ -1 then 1 else 0) h) : m_Yard_isFilled [y, g] h K := by
  unfold m_Yard_isFilled
  simp only [og_den, og_pad, og_ent, og_loc, og_k, og_add, og_sub, og_mul, og_div, og_rem, og_bop, og_ladd, og_lsub, og_lmul, og_ldiv, og_lrem, og_land, og_i2l, og_l2i, og_neg, og_get, og_fix, og_ald, og_gld, og_yld, og_len, og_gln, og_cc, og_cb, og_and, og_or, og_not, og_cite, og_ec, og_ei, og_rlt, og_rle, og_rgt, og_rge, og_req, og_rne, og_skip, og_seq, og_set, og_inc, og_putf, og_putz, og_ast, og_exp, og_if, og_ret, og_retz, og_retv, og_brk, og_cont, og_cs, og_sw, og_pop32, og_pop64, og_aop, og_padd, og_psub, og_pmul, og_call, og_args, og_max, og_min, og_acp, List.getD_cons_zero, List.getD_cons_succ, List.set_cons_zero, List.set_cons_succ, List.length_cons, List.length_nil, List.cons_append, List.nil_append, List.replicate, List.append_nil, Nat.reduceAdd, Nat.reduceSub, Nat.reduceEqDiff, if_true, if_false, reduceIte, Int.reduceAdd, Int.reduceSub, Int.reduceMul, Int.reduceNeg, Int.reduceLT, Int.reduceLE, Int.cast_ofNat_Int, true_or, or_true, true_and, and_true, false_and, List.mem_cons, List.not_mem_nil, or_false, false_or, ne_eq]
  grind
theorem s_Yard_fits {h : Hp} {y p g : Int} {K : Int → Hp → Prop} (h0 : 0 ≤ g) (h1 : g < 6) (h2 : 0 ≤ p) (h3 : p < 8) (hK : K (if h (y + 5) p ≤ h (y + 1) g then 1 else 0) h) : m_Yard_fits [y, p, g] h K := by
  unfold m_Yard_fits
  simp only [og_den, og_pad, og_ent, og_loc, og_k, og_add, og_sub, og_mul, og_div, og_rem, og_bop, og_ladd, og_lsub, og_lmul, og_ldiv, og_lrem, og_land, og_i2l, og_l2i, og_neg, og_get, og_fix, og_ald, og_gld, og_yld, og_len, og_gln, og_cc, og_cb, og_and, og_or, og_not, og_cite, og_ec, og_ei, og_rlt, og_rle, og_rgt, og_rge, og_req, og_rne, og_skip, og_seq, og_set, og_inc, og_putf, og_putz, og_ast, og_exp, og_if, og_ret, og_retz, og_retv, og_brk, og_cont, og_cs, og_sw, og_pop32, og_pop64, og_aop, og_padd, og_psub, og_pmul, og_call, og_args, og_max, og_min, og_acp, List.getD_cons_zero, List.getD_cons_succ, List.set_cons_zero, List.set_cons_succ, List.length_cons, List.length_nil, List.cons_append, List.nil_append, List.replicate, List.append_nil, Nat.reduceAdd, Nat.reduceSub, Nat.reduceEqDiff, if_true, if_false, reduceIte, Int.reduceAdd, Int.reduceSub, Int.reduceMul, Int.reduceNeg, Int.reduceLT, Int.reduceLE, Int.cast_ofNat_Int, true_or, or_true, true_and, and_true, false_and, List.mem_cons, List.not_mem_nil, or_false, false_or, ne_eq]
  grind
theorem s_Yard_canBeDug {h : Hp} {y g : Int} {K : Int → Hp → Prop} (h0 : 0 ≤ g) (h1 : g < 6) (hK : K (if h (y + 4) g = -1 ∧ h (y + 2) g < 9 then 1 else 0) h) : m_Yard_canBeDug [y, g] h K := by
  unfold m_Yard_canBeDug
  simp only [og_den, og_pad, og_ent, og_loc, og_k, og_add, og_sub, og_mul, og_div, og_rem, og_bop, og_ladd, og_lsub, og_lmul, og_ldiv, og_lrem, og_land, og_i2l, og_l2i, og_neg, og_get, og_fix, og_ald, og_gld, og_yld, og_len, og_gln, og_cc, og_cb, og_and, og_or, og_not, og_cite, og_ec, og_ei, og_rlt, og_rle, og_rgt, og_rge, og_req, og_rne, og_skip, og_seq, og_set, og_inc, og_putf, og_putz, og_ast, og_exp, og_if, og_ret, og_retz, og_retv, og_brk, og_cont, og_cs, og_sw, og_pop32, og_pop64, og_aop, og_padd, og_psub, og_pmul, og_call, og_args, og_max, og_min, og_acp, List.getD_cons_zero, List.getD_cons_succ, List.set_cons_zero, List.set_cons_succ, List.length_cons, List.length_nil, List.cons_append, List.nil_append, List.replicate, List.append_nil, Nat.reduceAdd, Nat.reduceSub, Nat.reduceEqDiff, if_true, if_false, reduceIte, Int.reduceAdd, Int.reduceSub, Int.reduceMul, Int.reduceNeg, Int.reduceLT, Int.reduceLE, Int.cast_ofNat_Int, true_or, or_true, true_and, and_true, false_and, List.mem_cons, List.not_mem_nil, or_false, false_or, ne_eq]
  grind
theorem s_Yard_lives {h : Hp} {y p : Int} {K : Int → Hp → Prop} (h1 : h y 1 ≤ 8) (hK : K (if (0 ≤ p ∧ p < h y 1) ∧ h (y + 8) p = 1 then 1 else 0) h) : m_Yard_lives [y, p] h K := by
  unfold m_Yard_lives
  simp only [og_den, og_pad, og_ent, og_loc, og_k, og_add, og_sub, og_mul, og_div, og_rem, og_bop, og_ladd, og_lsub, og_lmul, og_ldiv, og_lrem, og_land, og_i2l, og_l2i, og_neg, og_get, og_fix, og_ald, og_gld, og_yld, og_len, og_gln, og_cc, og_cb, og_and, og_or, og_not, og_cite, og_ec, og_ei, og_rlt, og_rle, og_rgt, og_rge, og_req, og_rne, og_skip, og_seq, og_set, og_inc, og_putf, og_putz, og_ast, og_exp, og_if, og_ret, og_retz, og_retv, og_brk, og_cont, og_cs, og_sw, og_pop32, og_pop64, og_aop, og_padd, og_psub, og_pmul, og_call, og_args, og_max, og_min, og_acp, List.getD_cons_zero, List.getD_cons_succ, List.set_cons_zero, List.set_cons_succ, List.length_cons, List.length_nil, List.cons_append, List.nil_append, List.replicate, List.append_nil, Nat.reduceAdd, Nat.reduceSub, Nat.reduceEqDiff, if_true, if_false, reduceIte, Int.reduceAdd, Int.reduceSub, Int.reduceMul, Int.reduceNeg, Int.reduceLT, Int.reduceLE, Int.cast_ofNat_Int, true_or, or_true, true_and, and_true, false_and, List.mem_cons, List.not_mem_nil, or_false, false_or, ne_eq]
  apply s_Yard_isPerson
  grind
theorem s_Yard_keptCell {h : Hp} {y r w : Int} {K : Int → Hp → Prop} (h0 : 0 ≤ r) (h1 : r < 8) (h2 : 0 ≤ w) (h3 : w < 4) (hK : K (h (y + 9) (4 * r + w)) h) : m_Yard_keptCell [y, r, w] h K := by
  unfold m_Yard_keptCell
  simp only [og_den, og_pad, og_ent, og_loc, og_k, og_add, og_sub, og_mul, og_div, og_rem, og_bop, og_ladd, og_lsub, og_lmul, og_ldiv, og_lrem, og_land, og_i2l, og_l2i, og_neg, og_get, og_fix, og_ald, og_gld, og_yld, og_len, og_gln, og_cc, og_cb, og_and, og_or, og_not, og_cite, og_ec, og_ei, og_rlt, og_rle, og_rgt, og_rge, og_req, og_rne, og_skip, og_seq, og_set, og_inc, og_putf, og_putz, og_ast, og_exp, og_if, og_ret, og_retz, og_retv, og_brk, og_cont, og_cs, og_sw, og_pop32, og_pop64, og_aop, og_padd, og_psub, og_pmul, og_call, og_args, og_max, og_min, og_acp, List.getD_cons_zero, List.getD_cons_succ, List.set_cons_zero, List.set_cons_succ, List.length_cons, List.length_nil, List.cons_append, List.nil_append, List.replicate, List.append_nil, Nat.reduceAdd, Nat.reduceSub, Nat.reduceEqDiff, if_true, if_false, reduceIte, Int.reduceAdd, Int.reduceSub, Int.reduceMul, Int.reduceNeg, Int.reduceLT, Int.reduceLE, Int.cast_ofNat_Int, true_or, or_true, true_and, and_true, false_and, List.mem_cons, List.not_mem_nil, or_false, false_or, ne_eq, og_i32]
  grind
theorem s_Yard_countAsking {h : Hp} {y : Int} {A : Yd} {K : Int → Hp → Prop} (hy : isY h y A) (ho : okY A) (hK : K (sCnt (sAsk A) (A 0 0).toNat) h) : m_Yard_countAsking [y] h K := by
  unfold m_Yard_countAsking
  simp only [og_den, og_pad, og_ent, og_loc, og_k, og_add, og_sub, og_mul, og_div, og_rem, og_bop, og_ladd, og_lsub, og_lmul, og_ldiv, og_lrem, og_land, og_i2l, og_l2i, og_neg, og_get, og_fix, og_ald, og_gld, og_yld, og_len, og_gln, og_cc, og_cb, og_and, og_or, og_not, og_cite, og_ec, og_ei, og_rlt, og_rle, og_rgt, og_rge, og_req, og_rne, og_skip, og_seq, og_set, og_inc, og_putf, og_putz, og_ast, og_exp, og_if, og_ret, og_retz, og_retv, og_brk, og_cont, og_cs, og_sw, og_pop32, og_pop64, og_aop, og_padd, og_psub, og_pmul, og_call, og_args, og_max, og_min, og_acp, List.getD_cons_zero, List.getD_cons_succ, List.set_cons_zero, List.set_cons_succ, List.length_cons, List.length_nil, List.cons_append, List.nil_append, List.replicate, List.append_nil, Nat.reduceAdd, Nat.reduceSub, Nat.reduceEqDiff, if_true, if_false, reduceIte, Int.reduceAdd, Int.reduceSub, Int.reduceMul, Int.reduceNeg, Int.reduceLT, Int.reduceLE, Int.cast_ofNat_Int, true_or, or_true, true_and, and_true, false_and, List.mem_cons, List.not_mem_nil, or_false, false_or, ne_eq]
  refine ⟨fun e1 h1 => e1 = [y, sCnt (sAsk A) (A 0 0).toNat, A 0 0] ∧ h1 = h, ?_, fun e1 h1 hh => by obtain ⟨rfl, rfl⟩ := hh; simpa only [og_den, og_pad, og_ent, og_loc, og_k, og_add, og_sub, og_mul, og_div, og_rem, og_bop, og_ladd, og_lsub, og_lmul, og_ldiv, og_lrem, og_land, og_i2l, og_l2i, og_neg, og_get, og_fix, og_ald, og_gld, og_yld, og_len, og_gln, og_cc, og_cb, og_and, og_or, og_not, og_cite, og_ec, og_ei, og_rlt, og_rle, og_rgt, og_rge, og_req, og_rne, og_skip, og_seq, og_set, og_inc, og_putf, og_putz, og_ast, og_exp, og_if, og_ret, og_retz, og_retv, og_brk, og_cont, og_cs, og_sw, og_pop32, og_pop64, og_aop, og_padd, og_psub, og_pmul, og_call, og_args, og_max, og_min, og_acp, List.getD_cons_zero, List.getD_cons_succ, List.set_cons_zero, List.set_cons_succ, List.length_cons, List.length_nil, List.cons_append, List.nil_append, List.replicate, List.append_nil, Nat.reduceAdd, Nat.reduceSub, Nat.reduceEqDiff, if_true, if_false, reduceIte, Int.reduceAdd, Int.reduceSub, Int.reduceMul, Int.reduceNeg, Int.reduceLT, Int.reduceLE, Int.cast_ofNat_Int, true_or, or_true, true_and, and_true, false_and, List.mem_cons, List.not_mem_nil, or_false, false_or, ne_eq] using hK⟩
  simp only [og_den, og_pad, og_ent, og_loc, og_k, og_add, og_sub, og_mul, og_div, og_rem, og_bop, og_ladd, og_lsub, og_lmul, og_ldiv, og_lrem, og_land, og_i2l, og_l2i, og_neg, og_get, og_fix, og_ald, og_gld, og_yld, og_len, og_gln, og_cc, og_cb, og_and, og_or, og_not, og_cite, og_ec, og_ei, og_rlt, og_rle, og_rgt, og_rge, og_req, og_rne, og_skip, og_seq, og_set, og_inc, og_putf, og_putz, og_ast, og_exp, og_if, og_ret, og_retz, og_retv, og_brk, og_cont, og_cs, og_sw, og_pop32, og_pop64, og_aop, og_padd, og_psub, og_pmul, og_call, og_args, og_max, og_min, og_acp, List.getD_cons_zero, List.getD_cons_succ, List.set_cons_zero, List.set_cons_succ, List.length_cons, List.length_nil, List.cons_append, List.nil_append, List.replicate, List.append_nil, Nat.reduceAdd, Nat.reduceSub, Nat.reduceEqDiff, if_true, if_false, reduceIte, Int.reduceAdd, Int.reduceSub, Int.reduceMul, Int.reduceNeg, Int.reduceLT, Int.reduceLE, Int.cast_ofNat_Int, true_or, or_true, true_and, and_true, false_and, List.mem_cons, List.not_mem_nil, or_false, false_or, ne_eq]
  refine og_loop (A 0 0).toNat (fun i e1 h1 => e1 = [y, sCnt (sAsk A) i, (i : Int)] ∧ h1 = h) ⟨rfl, rfl⟩ ?_
  rintro i e1 h1 hi ⟨rfl, rfl⟩
  simp only [og_den, og_pad, og_ent, og_loc, og_k, og_add, og_sub, og_mul, og_div, og_rem, og_bop, og_ladd, og_lsub, og_lmul, og_ldiv, og_lrem, og_land, og_i2l, og_l2i, og_neg, og_get, og_fix, og_ald, og_gld, og_yld, og_len, og_gln, og_cc, og_cb, og_and, og_or, og_not, og_cite, og_ec, og_ei, og_rlt, og_rle, og_rgt, og_rge, og_req, og_rne, og_skip, og_seq, og_set, og_inc, og_putf, og_putz, og_ast, og_exp, og_if, og_ret, og_retz, og_retv, og_brk, og_cont, og_cs, og_sw, og_pop32, og_pop64, og_aop, og_padd, og_psub, og_pmul, og_call, og_args, og_max, og_min, og_acp, List.getD_cons_zero, List.getD_cons_succ, List.set_cons_zero, List.set_cons_succ, List.length_cons, List.length_nil, List.cons_append, List.nil_append, List.replicate, List.append_nil, Nat.reduceAdd, Nat.reduceSub, Nat.reduceEqDiff, if_true, if_false, reduceIte, Int.reduceAdd, Int.reduceSub, Int.reduceMul, Int.reduceNeg, Int.reduceLT, Int.reduceLE, Int.cast_ofNat_Int, true_or, or_true, true_and, and_true, false_and, List.mem_cons, List.not_mem_nil, or_false, false_or, ne_eq, og_i32]
  have h6 := ho.1
  have hg := hy.1
  have hc := sCnt_le (sAsk A) i
  have hA := hy.2.1 i (by omega)
  have hO := ho.2.1 i (by omega)
  refine ⟨fun hlt => ?_, fun hge => ?_⟩
  · apply s_Yard_asks (by omega) (by omega)
    refine ⟨fun hx => ?_, fun hx => ?_⟩
    · refine ⟨by omega, by omega, og_nx_mk (by omega) ⟨?_, rfl⟩⟩
      simp only [sCnt_s, List.cons.injEq, true_and, and_true]
      grind [sAsk]
    · refine ⟨by omega, og_nx_mk (by omega) ⟨?_, rfl⟩⟩
      simp only [sCnt_s, List.cons.injEq, true_and, and_true]
      grind [sAsk]
  · have : (i : Int) = A 0 0 := by omega
    have e : i = (A 0 0).toNat := by omega
    rw [← e, ← this]
theorem s_Yard_countFilled {h : Hp} {y : Int} {A : Yd} {K : Int → Hp → Prop} (hy : isY h y A) (ho : okY A) (hK : K (sCnt (sFill A) (A 0 0).toNat) h) : m_Yard_countFilled [y] h K := by
  unfold m_Yard_countFilled
  simp only [og_den, og_pad, og_ent, og_loc, og_k, og_add, og_sub, og_mul, og_div, og_rem, og_bop, og_ladd, og_lsub, og_lmul, og_ldiv, og_lrem, og_land, og_i2l, og_l2i, og_neg, og_get, og_fix, og_ald, og_gld, og_yld, og_len, og_gln, og_cc, og_cb, og_and, og_or, og_not, og_cite, og_ec, og_ei, og_rlt, og_rle, og_rgt, og_rge, og_req, og_rne, og_skip, og_seq, og_set, og_inc, og_putf, og_putz, og_ast, og_exp, og_if, og_ret, og_retz, og_retv, og_brk, og_cont, og_cs, og_sw, og_pop32, og_pop64, og_aop, og_padd, og_psub, og_pmul, og_call, og_args, og_max, og_min, og_acp, List.getD_cons_zero, List.getD_cons_succ, List.set_cons_zero, List.set_cons_succ, List.length_cons, List.length_nil, List.cons_append, List.nil_append, List.replicate, List.append_nil, Nat.reduceAdd, Nat.reduceSub, Nat.reduceEqDiff, if_true, if_false, reduceIte, Int.reduceAdd, Int.reduceSub, Int.reduceMul, Int.reduceNeg, Int.reduceLT, Int.reduceLE, Int.cast_ofNat_Int, true_or, or_true, true_and, and_true, false_and, List.mem_cons, List.not_mem_nil, or_false, false_or, ne_eq]
  refine ⟨fun e1 h1 => e1 = [y, sCnt (sFill A) (A 0 0).toNat, A 0 0] ∧ h1 = h, ?_, fun e1 h1 hh => by obtain ⟨rfl, rfl⟩ := hh; simpa only [og_den, og_pad, og_ent, og_loc, og_k, og_add, og_sub, og_mul, og_div, og_rem, og_bop, og_ladd, og_lsub, og_lmul, og_ldiv, og_lrem, og_land, og_i2l, og_l2i, og_neg, og_get, og_fix, og_ald, og_gld, og_yld, og_len, og_gln, og_cc, og_cb, og_and, og_or, og_not, og_cite, og_ec, og_ei, og_rlt, og_rle, og_rgt, og_rge, og_req, og_rne, og_skip, og_seq, og_set, og_inc, og_putf, og_putz, og_ast, og_exp, og_if, og_ret, og_retz, og_retv, og_brk, og_cont, og_cs, og_sw, og_pop32, og_pop64, og_aop, og_padd, og_psub, og_pmul, og_call, og_args, og_max, og_min, og_acp, List.getD_cons_zero, List.getD_cons_succ, List.set_cons_zero, List.set_cons_succ, List.length_cons, List.length_nil, List.cons_append, List.nil_append, List.replicate, List.append_nil, Nat.reduceAdd, Nat.reduceSub, Nat.reduceEqDiff, if_true, if_false, reduceIte, Int.reduceAdd, Int.reduceSub, Int.reduceMul, Int.reduceNeg, Int.reduceLT, Int.reduceLE, Int.cast_ofNat_Int, true_or, or_true, true_and, and_true, false_and, List.mem_cons, List.not_mem_nil, or_false, false_or, ne_eq] using hK⟩
  simp only [og_den, og_pad, og_ent, og_loc, og_k, og_add, og_sub, og_mul, og_div, og_rem, og_bop, og_ladd, og_lsub, og_lmul, og_ldiv, og_lrem, og_land, og_i2l, og_l2i, og_neg, og_get, og_fix, og_ald, og_gld, og_yld, og_len, og_gln, og_cc, og_cb, og_and, og_or, og_not, og_cite, og_ec, og_ei, og_rlt, og_rle, og_rgt, og_rge, og_req, og_rne, og_skip, og_seq, og_set, og_inc, og_putf, og_putz, og_ast, og_exp, og_if, og_ret, og_retz, og_retv, og_brk, og_cont, og_cs, og_sw, og_pop32, og_pop64, og_aop, og_padd, og_psub, og_pmul, og_call, og_args, og_max, og_min, og_acp, List.getD_cons_zero, List.getD_cons_succ, List.set_cons_zero, List.set_cons_succ, List.length_cons, List.length_nil, List.cons_append, List.nil_append, List.replicate, List.append_nil, Nat.reduceAdd, Nat.reduceSub, Nat.reduceEqDiff, if_true, if_false, reduceIte, Int.reduceAdd, Int.reduceSub, Int.reduceMul, Int.reduceNeg, Int.reduceLT, Int.reduceLE, Int.cast_ofNat_Int, true_or, or_true, true_and, and_true, false_and, List.mem_cons, List.not_mem_nil, or_false, false_or, ne_eq]
  refine og_loop (A 0 0).toNat (fun i e1 h1 => e1 = [y, sCnt (sFill A) i, (i : Int)] ∧ h1 = h) ⟨rfl, rfl⟩ ?_
  rintro i e1 h1 hi ⟨rfl, rfl⟩
  simp only [og_den, og_pad, og_ent, og_loc, og_k, og_add, og_sub, og_mul, og_div, og_rem, og_bop, og_ladd, og_lsub, og_lmul, og_ldiv, og_lrem, og_land, og_i2l, og_l2i, og_neg, og_get, og_fix, og_ald, og_gld, og_yld, og_len, og_gln, og_cc, og_cb, og_and, og_or, og_not, og_cite, og_ec, og_ei, og_rlt, og_rle, og_rgt, og_rge, og_req, og_rne, og_skip, og_seq, og_set, og_inc, og_putf, og_putz, og_ast, og_exp, og_if, og_ret, og_retz, og_retv, og_brk, og_cont, og_cs, og_sw, og_pop32, og_pop64, og_aop, og_padd, og_psub, og_pmul, og_call, og_args, og_max, og_min, og_acp, List.getD_cons_zero, List.getD_cons_succ, List.set_cons_zero, List.set_cons_succ, List.length_cons, List.length_nil, List.cons_append, List.nil_append, List.replicate, List.append_nil, Nat.reduceAdd, Nat.reduceSub, Nat.reduceEqDiff, if_true, if_false, reduceIte, Int.reduceAdd, Int.reduceSub, Int.reduceMul, Int.reduceNeg, Int.reduceLT, Int.reduceLE, Int.cast_ofNat_Int, true_or, or_true, true_and, and_true, false_and, List.mem_cons, List.not_mem_nil, or_false, false_or, ne_eq, og_i32]
  have h6 := ho.1
  have hg := hy.1
  have hc := sCnt_le (sFill A) i
  have hA := hy.2.1 i (by omega)
  have hO := ho.2.1 i (by omega)
  refine ⟨fun hlt => ?_, fun hge => ?_⟩
  · apply s_Yard_isFilled (by omega) (by omega)
    refine ⟨fun hx => ?_, fun hx => ?_⟩
    · refine ⟨by omega, by omega, og_nx_mk (by omega) ⟨?_, rfl⟩⟩
      simp only [sCnt_s, List.cons.injEq, true_and, and_true]
      grind [sFill]
    · refine ⟨by omega, og_nx_mk (by omega) ⟨?_, rfl⟩⟩
      simp only [sCnt_s, List.cons.injEq, true_and, and_true]
      grind [sFill]
  · have : (i : Int) = A 0 0 := by omega
    have e : i = (A 0 0).toNat := by omega
    rw [← e, ← this]
theorem s_Yard_countAlive {h : Hp} {y : Int} {A : Yd} {K : Int → Hp → Prop} (hy : isY h y A) (ho : okY A) (hK : K (sCnt (sLive A) (A 0 1).toNat) h) : m_Yard_countAlive [y] h K := by
  unfold m_Yard_countAlive
  simp only [og_den, og_pad, og_ent, og_loc, og_k, og_add, og_sub, og_mul, og_div, og_rem, og_bop, og_ladd, og_lsub, og_lmul, og_ldiv, og_lrem, og_land, og_i2l, og_l2i, og_neg, og_get, og_fix, og_ald, og_gld, og_yld, og_len, og_gln, og_cc, og_cb, og_and, og_or, og_not, og_cite, og_ec, og_ei, og_rlt, og_rle, og_rgt, og_rge, og_req, og_rne, og_skip, og_seq, og_set, og_inc, og_putf, og_putz, og_ast, og_exp, og_if, og_ret, og_retz, og_retv, og_brk, og_cont, og_cs, og_sw, og_pop32, og_pop64, og_aop, og_padd, og_psub, og_pmul, og_call, og_args, og_max, og_min, og_acp, List.getD_cons_zero, List.getD_cons_succ, List.set_cons_zero, List.set_cons_succ, List.length_cons, List.length_nil, List.cons_append, List.nil_append, List.replicate, List.append_nil, Nat.reduceAdd, Nat.reduceSub, Nat.reduceEqDiff, if_true, if_false, reduceIte, Int.reduceAdd, Int.reduceSub, Int.reduceMul, Int.reduceNeg, Int.reduceLT, Int.reduceLE, Int.cast_ofNat_Int, true_or, or_true, true_and, and_true, false_and, List.mem_cons, List.not_mem_nil, or_false, false_or, ne_eq]
  refine ⟨fun e1 h1 => e1 = [y, sCnt (sLive A) (A 0 1).toNat, A 0 1] ∧ h1 = h, ?_, fun e1 h1 hh => by obtain ⟨rfl, rfl⟩ := hh; simpa only [og_den, og_pad, og_ent, og_loc, og_k, og_add, og_sub, og_mul, og_div, og_rem, og_bop, og_ladd, og_lsub, og_lmul, og_ldiv, og_lrem, og_land, og_i2l, og_l2i, og_neg, og_get, og_fix, og_ald, og_gld, og_yld, og_len, og_gln, og_cc, og_cb, og_and, og_or, og_not, og_cite, og_ec, og_ei, og_rlt, og_rle, og_rgt, og_rge, og_req, og_rne, og_skip, og_seq, og_set, og_inc, og_putf, og_putz, og_ast, og_exp, og_if, og_ret, og_retz, og_retv, og_brk, og_cont, og_cs, og_sw, og_pop32, og_pop64, og_aop, og_padd, og_psub, og_pmul, og_call, og_args, og_max, og_min, og_acp, List.getD_cons_zero, List.getD_cons_succ, List.set_cons_zero, List.set_cons_succ, List.length_cons, List.length_nil, List.cons_append, List.nil_append, List.replicate, List.append_nil, Nat.reduceAdd, Nat.reduceSub, Nat.reduceEqDiff, if_true, if_false, reduceIte, Int.reduceAdd, Int.reduceSub, Int.reduceMul, Int.reduceNeg, Int.reduceLT, Int.reduceLE, Int.cast_ofNat_Int, true_or, or_true, true_and, and_true, false_and, List.mem_cons, List.not_mem_nil, or_false, false_or, ne_eq] using hK⟩
  simp only [og_den, og_pad, og_ent, og_loc, og_k, og_add, og_sub, og_mul, og_div, og_rem, og_bop, og_ladd, og_lsub, og_lmul, og_ldiv, og_lrem, og_land, og_i2l, og_l2i, og_neg, og_get, og_fix, og_ald, og_gld, og_yld, og_len, og_gln, og_cc, og_cb, og_and, og_or, og_not, og_cite, og_ec, og_ei, og_rlt, og_rle, og_rgt, og_rge, og_req, og_rne, og_skip, og_seq, og_set, og_inc, og_putf, og_putz, og_ast, og_exp, og_if, og_ret, og_retz, og_retv, og_brk, og_cont, og_cs, og_sw, og_pop32, og_pop64, og_aop, og_padd, og_psub, og_pmul, og_call, og_args, og_max, og_min, og_acp, List.getD_cons_zero, List.getD_cons_succ, List.set_cons_zero, List.set_cons_succ, List.length_cons, List.length_nil, List.cons_append, List.nil_append, List.replicate, List.append_nil, Nat.reduceAdd, Nat.reduceSub, Nat.reduceEqDiff, if_true, if_false, reduceIte, Int.reduceAdd, Int.reduceSub, Int.reduceMul, Int.reduceNeg, Int.reduceLT, Int.reduceLE, Int.cast_ofNat_Int, true_or, or_true, true_and, and_true, false_and, List.mem_cons, List.not_mem_nil, or_false, false_or, ne_eq]
  refine og_loop (A 0 1).toNat (fun i e1 h1 => e1 = [y, sCnt (sLive A) i, (i : Int)] ∧ h1 = h) ⟨rfl, rfl⟩ ?_
  rintro i e1 h1 hi ⟨rfl, rfl⟩
  simp only [og_den, og_pad, og_ent, og_loc, og_k, og_add, og_sub, og_mul, og_div, og_rem, og_bop, og_ladd, og_lsub, og_lmul, og_ldiv, og_lrem, og_land, og_i2l, og_l2i, og_neg, og_get, og_fix, og_ald, og_gld, og_yld, og_len, og_gln, og_cc, og_cb, og_and, og_or, og_not, og_cite, og_ec, og_ei, og_rlt, og_rle, og_rgt, og_rge, og_req, og_rne, og_skip, og_seq, og_set, og_inc, og_putf, og_putz, og_ast, og_exp, og_if, og_ret, og_retz, og_retv, og_brk, og_cont, og_cs, og_sw, og_pop32, og_pop64, og_aop, og_padd, og_psub, og_pmul, og_call, og_args, og_max, og_min, og_acp, List.getD_cons_zero, List.getD_cons_succ, List.set_cons_zero, List.set_cons_succ, List.length_cons, List.length_nil, List.cons_append, List.nil_append, List.replicate, List.append_nil, Nat.reduceAdd, Nat.reduceSub, Nat.reduceEqDiff, if_true, if_false, reduceIte, Int.reduceAdd, Int.reduceSub, Int.reduceMul, Int.reduceNeg, Int.reduceLT, Int.reduceLE, Int.cast_ofNat_Int, true_or, or_true, true_and, and_true, false_and, List.mem_cons, List.not_mem_nil, or_false, false_or, ne_eq, og_i32]
  have h6 := ho.1
  have hg := hy.1
  have hc := sCnt_le (sLive A) i
  have hA := hy.2.2.1 i (by omega)
  have hO := ho.2.2 i (by omega)
  refine ⟨fun hlt => ?_, fun hge => ?_⟩
  · refine ⟨by omega, by omega, by omega, by omega, og_nx_mk (by omega) ⟨?_, rfl⟩⟩
    simp only [sCnt_s, List.cons.injEq, true_and, and_true]
    grind [sLive]
  · have : (i : Int) = A 0 1 := by omega
    have e : i = (A 0 1).toNat := by omega
    rw [← e, ← this]
theorem s_Yard_nextGrave {h : Hp} {y p : Int} {A : Yd} {K : Int → Hp → Prop} (hy : isY h y A) (ho : okY A) (hp0 : 0 ≤ p) (hp1 : p < A 0 1) (hK : K (sNext A p (A 0 0).toNat) h) : m_Yard_nextGrave [y, p] h K := by
  unfold m_Yard_nextGrave
  simp only [og_den, og_pad, og_ent, og_loc, og_k, og_add, og_sub, og_mul, og_div, og_rem, og_bop, og_ladd, og_lsub, og_lmul, og_ldiv, og_lrem, og_land, og_i2l, og_l2i, og_neg, og_get, og_fix, og_ald, og_gld, og_yld, og_len, og_gln, og_cc, og_cb, og_and, og_or, og_not, og_cite, og_ec, og_ei, og_rlt, og_rle, og_rgt, og_rge, og_req, og_rne, og_skip, og_seq, og_set, og_inc, og_putf, og_putz, og_ast, og_exp, og_if, og_ret, og_retz, og_retv, og_brk, og_cont, og_cs, og_sw, og_pop32, og_pop64, og_aop, og_padd, og_psub, og_pmul, og_call, og_args, og_max, og_min, og_acp, List.getD_cons_zero, List.getD_cons_succ, List.set_cons_zero, List.set_cons_succ, List.length_cons, List.length_nil, List.cons_append, List.nil_append, List.replicate, List.append_nil, Nat.reduceAdd, Nat.reduceSub, Nat.reduceEqDiff, if_true, if_false, reduceIte, Int.reduceAdd, Int.reduceSub, Int.reduceMul, Int.reduceNeg, Int.reduceLT, Int.reduceLE, Int.cast_ofNat_Int, true_or, or_true, true_and, and_true, false_and, List.mem_cons, List.not_mem_nil, or_false, false_or, ne_eq]
  refine ⟨fun e1 h1 => e1 = [y, p, sNext A p (A 0 0).toNat, A 0 0] ∧ h1 = h, ?_, fun e1 h1 hh => by obtain ⟨rfl, rfl⟩ := hh; simpa only [og_den, og_pad, og_ent, og_loc, og_k, og_add, og_sub, og_mul, og_div, og_rem, og_bop, og_ladd, og_lsub, og_lmul, og_ldiv, og_lrem, og_land, og_i2l, og_l2i, og_neg, og_get, og_fix, og_ald, og_gld, og_yld, og_len, og_gln, og_cc, og_cb, og_and, og_or, og_not, og_cite, og_ec, og_ei, og_rlt, og_rle, og_rgt, og_rge, og_req, og_rne, og_skip, og_seq, og_set, og_inc, og_putf, og_putz, og_ast, og_exp, og_if, og_ret, og_retz, og_retv, og_brk, og_cont, og_cs, og_sw, og_pop32, og_pop64, og_aop, og_padd, og_psub, og_pmul, og_call, og_args, og_max, og_min, og_acp, List.getD_cons_zero, List.getD_cons_succ, List.set_cons_zero, List.set_cons_succ, List.length_cons, List.length_nil, List.cons_append, List.nil_append, List.replicate, List.append_nil, Nat.reduceAdd, Nat.reduceSub, Nat.reduceEqDiff, if_true, if_false, reduceIte, Int.reduceAdd, Int.reduceSub, Int.reduceMul, Int.reduceNeg, Int.reduceLT, Int.reduceLE, Int.cast_ofNat_Int, true_or, or_true, true_and, and_true, false_and, List.mem_cons, List.not_mem_nil, or_false, false_or, ne_eq] using hK⟩
  simp only [og_den, og_pad, og_ent, og_loc, og_k, og_add, og_sub, og_mul, og_div, og_rem, og_bop, og_ladd, og_lsub, og_lmul, og_ldiv, og_lrem, og_land, og_i2l, og_l2i, og_neg, og_get, og_fix, og_ald, og_gld, og_yld, og_len, og_gln, og_cc, og_cb, og_and, og_or, og_not, og_cite, og_ec, og_ei, og_rlt, og_rle, og_rgt, og_rge, og_req, og_rne, og_skip, og_seq, og_set, og_inc, og_putf, og_putz, og_ast, og_exp, og_if, og_ret, og_retz, og_retv, og_brk, og_cont, og_cs, og_sw, og_pop32, og_pop64, og_aop, og_padd, og_psub, og_pmul, og_call, og_args, og_max, og_min, og_acp, List.getD_cons_zero, List.getD_cons_succ, List.set_cons_zero, List.set_cons_succ, List.length_cons, List.length_nil, List.cons_append, List.nil_append, List.replicate, List.append_nil, Nat.reduceAdd, Nat.reduceSub, Nat.reduceEqDiff, if_true, if_false, reduceIte, Int.reduceAdd, Int.reduceSub, Int.reduceMul, Int.reduceNeg, Int.reduceLT, Int.reduceLE, Int.cast_ofNat_Int, true_or, or_true, true_and, and_true, false_and, List.mem_cons, List.not_mem_nil, or_false, false_or, ne_eq]
  refine og_loop (A 0 0).toNat (fun i e1 h1 => e1 = [y, p, sNext A p i, (i : Int)] ∧ h1 = h) ⟨rfl, rfl⟩ ?_
  rintro i e1 h1 hi ⟨rfl, rfl⟩
  simp only [og_den, og_pad, og_ent, og_loc, og_k, og_add, og_sub, og_mul, og_div, og_rem, og_bop, og_ladd, og_lsub, og_lmul, og_ldiv, og_lrem, og_land, og_i2l, og_l2i, og_neg, og_get, og_fix, og_ald, og_gld, og_yld, og_len, og_gln, og_cc, og_cb, og_and, og_or, og_not, og_cite, og_ec, og_ei, og_rlt, og_rle, og_rgt, og_rge, og_req, og_rne, og_skip, og_seq, og_set, og_inc, og_putf, og_putz, og_ast, og_exp, og_if, og_ret, og_retz, og_retv, og_brk, og_cont, og_cs, og_sw, og_pop32, og_pop64, og_aop, og_padd, og_psub, og_pmul, og_call, og_args, og_max, og_min, og_acp, List.getD_cons_zero, List.getD_cons_succ, List.set_cons_zero, List.set_cons_succ, List.length_cons, List.length_nil, List.cons_append, List.nil_append, List.replicate, List.append_nil, Nat.reduceAdd, Nat.reduceSub, Nat.reduceEqDiff, if_true, if_false, reduceIte, Int.reduceAdd, Int.reduceSub, Int.reduceMul, Int.reduceNeg, Int.reduceLT, Int.reduceLE, Int.cast_ofNat_Int, true_or, or_true, true_and, and_true, false_and, List.mem_cons, List.not_mem_nil, or_false, false_or, ne_eq, og_i32]
  have h6 := ho.1
  have hg := hy.1
  have hn := sNext_rg A p i
  have hA := hy.2.1 i (by omega)
  have hB := hy.2.1 (sNext A p i)
  have hQ := hy.2.2.1 p hp0 hp1
  refine ⟨fun hlt => ?_, fun hge => ?_⟩
  · have fin : ∀ v : Int, v = sNext A p (i + 1) → og_nx (A 0 0).toNat (fun i e1 h2 => e1 = [y, p, sNext A p i, (i : Int)] ∧ h2 = h1) i [y, p, v, (i : Int) + 1] h1 := by
      intro v hv
      refine og_nx_mk (by omega) ⟨?_, rfl⟩
      rw [hv]
      simp
    apply s_Yard_asks (by omega) (by omega)
    refine ⟨fun hx => ?_, fun hx => ⟨by omega, fin _ ?_⟩⟩
    · apply s_Yard_fits (by omega) (by omega) (by omega) (by omega)
      refine ⟨fun hx2 => ?_, fun hx2 => ⟨by omega, fin _ ?_⟩⟩
      · refine ⟨fun e => ⟨by omega, fin _ ?_⟩, fun e => ⟨by omega, by omega, by omega, by omega, fun hd => ⟨by omega, fin _ ?_⟩, fun hd => ⟨by omega, fin _ ?_⟩⟩⟩ <;> rw [sNext_s] <;> grind [sAsk, sFit]
      · rw [sNext_s]; grind [sAsk, sFit]
    · rw [sNext_s]; grind [sAsk, sFit]
  · have : (i : Int) = A 0 0 := by omega
    have e : i = (A 0 0).toNat := by omega
    rw [← e, ← this]
