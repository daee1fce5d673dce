section
-- images
def mxN (f : Int → Int) : Nat → Int
  | 0 => 241
  | n + 1 => (3 * mxN f n + f (n : Int)) % 251
theorem mxN_s (f : Int → Int) (n : Nat) : mxN f (n + 1) = (3 * mxN f n + f (n : Int)) % 251 := rfl
theorem mxN_rg (f : Int → Int) : ∀ n : Nat, 0 ≤ mxN f n ∧ mxN f n ≤ 250
  | 0 => ⟨by show (0 : Int) ≤ 241; decide, by show (241 : Int) ≤ 250; decide⟩
  | n + 1 => by rw [mxN_s]; omega
theorem mxN_congr {f g : Int → Int} : ∀ n : Nat, (∀ k : Nat, k < n → f k = g k) → mxN f n = mxN g n
  | 0, _ => rfl
  | n + 1, h => by rw [mxN_s, mxN_s, mxN_congr n (fun k hk => h k (by omega)), h n (by omega)]
def imG (A : Yd) (j : Int) : Int := if j % 3 = 0 then A 2 (j / 3) else if j % 3 = 1 then A 3 (j / 3) else if A 4 (j / 3) = -1 then 255 else A 4 (j / 3)
def imP (A : Yd) (j : Int) : Int := if j % 3 = 0 then A 8 (j / 3) else if j % 3 = 1 then A 6 (j / 3) else A 7 (j / 3)
def imB (A : Yd) (i : Int) : Int := if i = 0 then A 0 2 / 256 else if i = 1 then A 0 2 % 256 else if i < 2 + 3 * A 0 0 then imG A (i - 2) else imP A (i - 2 - 3 * A 0 0)
def imS (A : Yd) : Int := 2 + 3 * A 0 0 + 3 * A 0 1
def sIm (A X : Yd) : Yd := fun c k => if c = 0 ∧ k = 5 then imS A + 1 else if c = 4 then (if k < imS A then imB A k else mxN (imB A) (imS A).toNat) else X c k
theorem sIm_row {A X : Yd} {c : Int} (h0 : c ≠ 0) (h1 : c ≠ 4) : sIm A X c = X c := by
  funext k
  unfold sIm
  rw [if_neg (fun z => h0 z.1), if_neg h1]
theorem sIm_0 {A X : Yd} {k : Int} (h0 : k ≠ 5) : sIm A X 0 k = X 0 k := by
  unfold sIm
  rw [if_neg (fun z => h0 z.2), if_neg (by decide)]
theorem sIm_05 {A X : Yd} : sIm A X 0 5 = imS A + 1 := by unfold sIm; rw [if_pos ⟨rfl, rfl⟩]
theorem sIm_4 {A X : Yd} {k : Int} : sIm A X 4 k = if k < imS A then imB A k else mxN (imB A) (imS A).toNat := by unfold sIm; rw [if_neg (by omega), if_pos rfl]
theorem imB_rg {A : Yd} (ho : okY A) {i : Int} (h0 : 0 ≤ i) (h1 : i < imS A) : 0 ≤ imB A i ∧ imB A i ≤ 255 := by
  have h6 := ho.1
  unfold imS at h1
  unfold imB
  split
  · omega
  split
  · omega
  split
  · have og := ho.2.1 ((i - 2) / 3) (by omega) (by omega)
    unfold imG
    split
    · omega
    split
    · omega
    split <;> omega
  · have op := ho.2.2 ((i - 2 - 3 * A 0 0) / 3) (by omega) (by omega)
    unfold imP
    split
    · omega
    split <;> omega
theorem og_siz23 : og_siz 23 = 45 := rfl
theorem og_siz2 : og_siz 2 = 1600 := rfl
theorem og_siz1073 : og_siz 1073 = 45 := rfl
theorem og_siz1001 : og_siz 1001 = 1600 := rfl
section
variable {q h h0 h' : Hp} {A : Yd} {P : Pr} {U : List Yd} {X : Yd} {n M : Int} {K : Int → Hp → Prop}
theorem s_mixed {a : Int} {m : Nat} {f : Int → Int} (hm : (m : Int) ≤ og_siz a) (hm2 : m ≤ 1600) (hf : ∀ j : Nat, j < m → h a (j : Int) = f j ∧ 0 ≤ f j ∧ f j ≤ 255) (hK : K (mxN f m) h) : m_OG_mixed [a, (m : Int)] h K := by
  unfold m_OG_mixed
  simp -implicitDefEqProofs only [↓dn_den, ↓dn_loc, ↓dn_k, ↓dn_add, ↓dn_sub, ↓dn_mul, ↓dn_div, ↓dn_rem, ↓dn_bop, ↓dn_ladd, ↓dn_lsub, ↓dn_lmul, ↓dn_ldiv, ↓dn_lrem, ↓dn_land, ↓dn_l2i, ↓dn_neg, ↓dn_get, ↓dn_fix, ↓dn_ald, ↓dn_gld, ↓dn_yld, ↓dn_len, ↓dn_gln, ↓dn_cc, ↓dn_cb, ↓dn_and, ↓dn_or, ↓dn_not, ↓dn_cite, ↓dn_ec, ↓dn_ei, ↓dn_skip, ↓dn_seq, ↓dn_set, ↓dn_inc, ↓dn_putf, ↓dn_putz, ↓dn_ast, ↓dn_exp, ↓dn_if, ↓dn_ret, ↓dn_retz, ↓dn_retv, ↓dn_brk, ↓dn_cont, ↓dn_cs, ↓dn_sw, ↓dn_pop32, ↓dn_pop64, ↓dn_aop, ↓dn_call, ↓dn_max, ↓dn_min, ↓dn_acp, ↓dn_i2l, ↓dn_args0, ↓dn_args1, og_pad, og_ent, og_rlt, og_rle, og_rgt, og_rge, og_req, og_rne, og_padd, og_psub, og_pmul, List.getD_cons_zero, List.getD_cons_succ, List.set_cons_zero, List.set_cons_succ, List.length_cons, List.length_nil, List.cons_append, List.nil_append, List.replicate, List.append_nil, Nat.reduceAdd, Nat.reduceSub, Nat.reduceEqDiff, if_true, if_false, reduceIte, Int.reduceAdd, Int.reduceSub, Int.reduceMul, Int.reduceNeg, Int.reduceLT, Int.reduceLE, Int.cast_ofNat_Int, true_or, or_true, true_and, and_true, false_and, List.mem_cons, List.not_mem_nil, or_false, false_or, ne_eq]
  refine ⟨fun e1 h1 => h1 = h ∧ ∃ c3, e1 = [a, (m : Int), mxN f m, c3], ?_, ?_⟩
  · simp -implicitDefEqProofs only [↓dn_den, ↓dn_loc, ↓dn_k, ↓dn_add, ↓dn_sub, ↓dn_mul, ↓dn_div, ↓dn_rem, ↓dn_bop, ↓dn_ladd, ↓dn_lsub, ↓dn_lmul, ↓dn_ldiv, ↓dn_lrem, ↓dn_land, ↓dn_l2i, ↓dn_neg, ↓dn_get, ↓dn_fix, ↓dn_ald, ↓dn_gld, ↓dn_yld, ↓dn_len, ↓dn_gln, ↓dn_cc, ↓dn_cb, ↓dn_and, ↓dn_or, ↓dn_not, ↓dn_cite, ↓dn_ec, ↓dn_ei, ↓dn_skip, ↓dn_seq, ↓dn_set, ↓dn_inc, ↓dn_putf, ↓dn_putz, ↓dn_ast, ↓dn_exp, ↓dn_if, ↓dn_ret, ↓dn_retz, ↓dn_retv, ↓dn_brk, ↓dn_cont, ↓dn_cs, ↓dn_sw, ↓dn_pop32, ↓dn_pop64, ↓dn_aop, ↓dn_call, ↓dn_max, ↓dn_min, ↓dn_acp, ↓dn_i2l, ↓dn_args0, ↓dn_args1, og_pad, og_ent, og_rlt, og_rle, og_rgt, og_rge, og_req, og_rne, og_padd, og_psub, og_pmul, List.getD_cons_zero, List.getD_cons_succ, List.set_cons_zero, List.set_cons_succ, List.length_cons, List.length_nil, List.cons_append, List.nil_append, List.replicate, List.append_nil, Nat.reduceAdd, Nat.reduceSub, Nat.reduceEqDiff, if_true, if_false, reduceIte, Int.reduceAdd, Int.reduceSub, Int.reduceMul, Int.reduceNeg, Int.reduceLT, Int.reduceLE, Int.cast_ofNat_Int, true_or, or_true, true_and, and_true, false_and, List.mem_cons, List.not_mem_nil, or_false, false_or, ne_eq]
    refine og_loop m (fun i e1 h1 => h1 = h ∧ e1 = [a, (m : Int), mxN f i, (i : Int)]) ⟨rfl, rfl⟩ ?_
    rintro i e1 h1 hi ⟨rfl, rfl⟩
    simp -implicitDefEqProofs only [↓dn_den, ↓dn_loc, ↓dn_k, ↓dn_add, ↓dn_sub, ↓dn_mul, ↓dn_div, ↓dn_rem, ↓dn_bop, ↓dn_ladd, ↓dn_lsub, ↓dn_lmul, ↓dn_ldiv, ↓dn_lrem, ↓dn_land, ↓dn_l2i, ↓dn_neg, ↓dn_get, ↓dn_fix, ↓dn_ald, ↓dn_gld, ↓dn_yld, ↓dn_len, ↓dn_gln, ↓dn_cc, ↓dn_cb, ↓dn_and, ↓dn_or, ↓dn_not, ↓dn_cite, ↓dn_ec, ↓dn_ei, ↓dn_skip, ↓dn_seq, ↓dn_set, ↓dn_inc, ↓dn_putf, ↓dn_putz, ↓dn_ast, ↓dn_exp, ↓dn_if, ↓dn_ret, ↓dn_retz, ↓dn_retv, ↓dn_brk, ↓dn_cont, ↓dn_cs, ↓dn_sw, ↓dn_pop32, ↓dn_pop64, ↓dn_aop, ↓dn_call, ↓dn_max, ↓dn_min, ↓dn_acp, ↓dn_i2l, ↓dn_args0, ↓dn_args1, og_pad, og_ent, og_rlt, og_rle, og_rgt, og_rge, og_req, og_rne, og_padd, og_psub, og_pmul, List.getD_cons_zero, List.getD_cons_succ, List.set_cons_zero, List.set_cons_succ, List.length_cons, List.length_nil, List.cons_append, List.nil_append, List.replicate, List.append_nil, Nat.reduceAdd, Nat.reduceSub, Nat.reduceEqDiff, if_true, if_false, reduceIte, Int.reduceAdd, Int.reduceSub, Int.reduceMul, Int.reduceNeg, Int.reduceLT, Int.reduceLE, Int.cast_ofNat_Int, true_or, or_true, true_and, and_true, false_and, List.mem_cons, List.not_mem_nil, or_false, false_or, ne_eq, og_i32]
    have rg := mxN_rg f i
    refine ⟨fun hlt => ⟨fun hlt2 => ?_, fun hge2 => by omega⟩, fun hge => ?_⟩
    · have v := hf i (by omega)
      rw [v.1]
      have em : (3 * mxN f i + f i).tmod 251 = mxN f (i + 1) := by rw [Int.tmod_eq_emod_of_nonneg (by omega)]; rfl
      rw [em]
      repeat (refine And.intro (by omega) ?_)
      first | exact og_nx_mk (by omega) ⟨rfl, by simp⟩ | exact ⟨by decide, by omega, og_nx_mk (by omega) ⟨rfl, by simp⟩⟩
    · have e : i = m := by omega
      subst e
      first | exact ⟨rfl, _, rfl⟩ | exact ⟨_, rfl⟩
  · rintro e1 h1 ⟨rfl, c3, rfl⟩
    simp -implicitDefEqProofs only [↓dn_den, ↓dn_loc, ↓dn_k, ↓dn_add, ↓dn_sub, ↓dn_mul, ↓dn_div, ↓dn_rem, ↓dn_bop, ↓dn_ladd, ↓dn_lsub, ↓dn_lmul, ↓dn_ldiv, ↓dn_lrem, ↓dn_land, ↓dn_l2i, ↓dn_neg, ↓dn_get, ↓dn_fix, ↓dn_ald, ↓dn_gld, ↓dn_yld, ↓dn_len, ↓dn_gln, ↓dn_cc, ↓dn_cb, ↓dn_and, ↓dn_or, ↓dn_not, ↓dn_cite, ↓dn_ec, ↓dn_ei, ↓dn_skip, ↓dn_seq, ↓dn_set, ↓dn_inc, ↓dn_putf, ↓dn_putz, ↓dn_ast, ↓dn_exp, ↓dn_if, ↓dn_ret, ↓dn_retz, ↓dn_retv, ↓dn_brk, ↓dn_cont, ↓dn_cs, ↓dn_sw, ↓dn_pop32, ↓dn_pop64, ↓dn_aop, ↓dn_call, ↓dn_max, ↓dn_min, ↓dn_acp, ↓dn_i2l, ↓dn_args0, ↓dn_args1, og_pad, og_ent, og_rlt, og_rle, og_rgt, og_rge, og_req, og_rne, og_padd, og_psub, og_pmul, List.getD_cons_zero, List.getD_cons_succ, List.set_cons_zero, List.set_cons_succ, List.length_cons, List.length_nil, List.cons_append, List.nil_append, List.replicate, List.append_nil, Nat.reduceAdd, Nat.reduceSub, Nat.reduceEqDiff, if_true, if_false, reduceIte, Int.reduceAdd, Int.reduceSub, Int.reduceMul, Int.reduceNeg, Int.reduceLT, Int.reduceLE, Int.cast_ofNat_Int, true_or, or_true, true_and, and_true, false_and, List.mem_cons, List.not_mem_nil, or_false, false_or, ne_eq]
    exact hK
theorem r_checked {a : Int} {m : Nat} {f : Int → Int} (hm : (m : Int) ≤ og_siz a) (hm2 : m ≤ 1600) (hf : ∀ j : Nat, j < m → h a (j : Int) = f j ∧ 0 ≤ f j ∧ f j ≤ 255) (hK : K (mxN f m) h) : m_Model_checked [a, (m : Int)] h K := by
  unfold m_Model_checked
  simp -implicitDefEqProofs only [↓dn_den, ↓dn_loc, ↓dn_k, ↓dn_add, ↓dn_sub, ↓dn_mul, ↓dn_div, ↓dn_rem, ↓dn_bop, ↓dn_ladd, ↓dn_lsub, ↓dn_lmul, ↓dn_ldiv, ↓dn_lrem, ↓dn_land, ↓dn_l2i, ↓dn_neg, ↓dn_get, ↓dn_fix, ↓dn_ald, ↓dn_gld, ↓dn_yld, ↓dn_len, ↓dn_gln, ↓dn_cc, ↓dn_cb, ↓dn_and, ↓dn_or, ↓dn_not, ↓dn_cite, ↓dn_ec, ↓dn_ei, ↓dn_skip, ↓dn_seq, ↓dn_set, ↓dn_inc, ↓dn_putf, ↓dn_putz, ↓dn_ast, ↓dn_exp, ↓dn_if, ↓dn_ret, ↓dn_retz, ↓dn_retv, ↓dn_brk, ↓dn_cont, ↓dn_cs, ↓dn_sw, ↓dn_pop32, ↓dn_pop64, ↓dn_aop, ↓dn_call, ↓dn_max, ↓dn_min, ↓dn_acp, ↓dn_i2l, ↓dn_args0, ↓dn_args1, og_pad, og_ent, og_rlt, og_rle, og_rgt, og_rge, og_req, og_rne, og_padd, og_psub, og_pmul, List.getD_cons_zero, List.getD_cons_succ, List.set_cons_zero, List.set_cons_succ, List.length_cons, List.length_nil, List.cons_append, List.nil_append, List.replicate, List.append_nil, Nat.reduceAdd, Nat.reduceSub, Nat.reduceEqDiff, if_true, if_false, reduceIte, Int.reduceAdd, Int.reduceSub, Int.reduceMul, Int.reduceNeg, Int.reduceLT, Int.reduceLE, Int.cast_ofNat_Int, true_or, or_true, true_and, and_true, false_and, List.mem_cons, List.not_mem_nil, or_false, false_or, ne_eq]
  refine ⟨fun e1 h1 => h1 = h ∧ ∃ c3, e1 = [a, (m : Int), mxN f m, c3], ?_, ?_⟩
  · simp -implicitDefEqProofs only [↓dn_den, ↓dn_loc, ↓dn_k, ↓dn_add, ↓dn_sub, ↓dn_mul, ↓dn_div, ↓dn_rem, ↓dn_bop, ↓dn_ladd, ↓dn_lsub, ↓dn_lmul, ↓dn_ldiv, ↓dn_lrem, ↓dn_land, ↓dn_l2i, ↓dn_neg, ↓dn_get, ↓dn_fix, ↓dn_ald, ↓dn_gld, ↓dn_yld, ↓dn_len, ↓dn_gln, ↓dn_cc, ↓dn_cb, ↓dn_and, ↓dn_or, ↓dn_not, ↓dn_cite, ↓dn_ec, ↓dn_ei, ↓dn_skip, ↓dn_seq, ↓dn_set, ↓dn_inc, ↓dn_putf, ↓dn_putz, ↓dn_ast, ↓dn_exp, ↓dn_if, ↓dn_ret, ↓dn_retz, ↓dn_retv, ↓dn_brk, ↓dn_cont, ↓dn_cs, ↓dn_sw, ↓dn_pop32, ↓dn_pop64, ↓dn_aop, ↓dn_call, ↓dn_max, ↓dn_min, ↓dn_acp, ↓dn_i2l, ↓dn_args0, ↓dn_args1, og_pad, og_ent, og_rlt, og_rle, og_rgt, og_rge, og_req, og_rne, og_padd, og_psub, og_pmul, List.getD_cons_zero, List.getD_cons_succ, List.set_cons_zero, List.set_cons_succ, List.length_cons, List.length_nil, List.cons_append, List.nil_append, List.replicate, List.append_nil, Nat.reduceAdd, Nat.reduceSub, Nat.reduceEqDiff, if_true, if_false, reduceIte, Int.reduceAdd, Int.reduceSub, Int.reduceMul, Int.reduceNeg, Int.reduceLT, Int.reduceLE, Int.cast_ofNat_Int, true_or, or_true, true_and, and_true, false_and, List.mem_cons, List.not_mem_nil, or_false, false_or, ne_eq]
    refine og_loop m (fun i e1 h1 => h1 = h ∧ e1 = [a, (m : Int), mxN f i, (i : Int)]) ⟨rfl, rfl⟩ ?_
    rintro i e1 h1 hi ⟨rfl, rfl⟩
    simp -implicitDefEqProofs only [↓dn_den, ↓dn_loc, ↓dn_k, ↓dn_add, ↓dn_sub, ↓dn_mul, ↓dn_div, ↓dn_rem, ↓dn_bop, ↓dn_ladd, ↓dn_lsub, ↓dn_lmul, ↓dn_ldiv, ↓dn_lrem, ↓dn_land, ↓dn_l2i, ↓dn_neg, ↓dn_get, ↓dn_fix, ↓dn_ald, ↓dn_gld, ↓dn_yld, ↓dn_len, ↓dn_gln, ↓dn_cc, ↓dn_cb, ↓dn_and, ↓dn_or, ↓dn_not, ↓dn_cite, ↓dn_ec, ↓dn_ei, ↓dn_skip, ↓dn_seq, ↓dn_set, ↓dn_inc, ↓dn_putf, ↓dn_putz, ↓dn_ast, ↓dn_exp, ↓dn_if, ↓dn_ret, ↓dn_retz, ↓dn_retv, ↓dn_brk, ↓dn_cont, ↓dn_cs, ↓dn_sw, ↓dn_pop32, ↓dn_pop64, ↓dn_aop, ↓dn_call, ↓dn_max, ↓dn_min, ↓dn_acp, ↓dn_i2l, ↓dn_args0, ↓dn_args1, og_pad, og_ent, og_rlt, og_rle, og_rgt, og_rge, og_req, og_rne, og_padd, og_psub, og_pmul, List.getD_cons_zero, List.getD_cons_succ, List.set_cons_zero, List.set_cons_succ, List.length_cons, List.length_nil, List.cons_append, List.nil_append, List.replicate, List.append_nil, Nat.reduceAdd, Nat.reduceSub, Nat.reduceEqDiff, if_true, if_false, reduceIte, Int.reduceAdd, Int.reduceSub, Int.reduceMul, Int.reduceNeg, Int.reduceLT, Int.reduceLE, Int.cast_ofNat_Int, true_or, or_true, true_and, and_true, false_and, List.mem_cons, List.not_mem_nil, or_false, false_or, ne_eq, og_i32]
    have rg := mxN_rg f i
    refine ⟨fun hlt => ?_, fun hge => ?_⟩
    · have v := hf i (by omega)
      rw [v.1]
      have em : (3 * mxN f i + f i).tmod 251 = mxN f (i + 1) := by rw [Int.tmod_eq_emod_of_nonneg (by omega)]; rfl
      rw [em]
      repeat (refine And.intro (by omega) ?_)
      first | exact og_nx_mk (by omega) ⟨rfl, by simp⟩ | exact ⟨by decide, by omega, og_nx_mk (by omega) ⟨rfl, by simp⟩⟩
    · have e : i = m := by omega
      subst e
      first | exact ⟨rfl, _, rfl⟩ | exact ⟨_, rfl⟩
  · rintro e1 h1 ⟨rfl, c3, rfl⟩
    simp -implicitDefEqProofs only [↓dn_den, ↓dn_loc, ↓dn_k, ↓dn_add, ↓dn_sub, ↓dn_mul, ↓dn_div, ↓dn_rem, ↓dn_bop, ↓dn_ladd, ↓dn_lsub, ↓dn_lmul, ↓dn_ldiv, ↓dn_lrem, ↓dn_land, ↓dn_l2i, ↓dn_neg, ↓dn_get, ↓dn_fix, ↓dn_ald, ↓dn_gld, ↓dn_yld, ↓dn_len, ↓dn_gln, ↓dn_cc, ↓dn_cb, ↓dn_and, ↓dn_or, ↓dn_not, ↓dn_cite, ↓dn_ec, ↓dn_ei, ↓dn_skip, ↓dn_seq, ↓dn_set, ↓dn_inc, ↓dn_putf, ↓dn_putz, ↓dn_ast, ↓dn_exp, ↓dn_if, ↓dn_ret, ↓dn_retz, ↓dn_retv, ↓dn_brk, ↓dn_cont, ↓dn_cs, ↓dn_sw, ↓dn_pop32, ↓dn_pop64, ↓dn_aop, ↓dn_call, ↓dn_max, ↓dn_min, ↓dn_acp, ↓dn_i2l, ↓dn_args0, ↓dn_args1, og_pad, og_ent, og_rlt, og_rle, og_rgt, og_rge, og_req, og_rne, og_padd, og_psub, og_pmul, List.getD_cons_zero, List.getD_cons_succ, List.set_cons_zero, List.set_cons_succ, List.length_cons, List.length_nil, List.cons_append, List.nil_append, List.replicate, List.append_nil, Nat.reduceAdd, Nat.reduceSub, Nat.reduceEqDiff, if_true, if_false, reduceIte, Int.reduceAdd, Int.reduceSub, Int.reduceMul, Int.reduceNeg, Int.reduceLT, Int.reduceLE, Int.cast_ofNat_Int, true_or, or_true, true_and, and_true, false_and, List.mem_cons, List.not_mem_nil, or_false, false_or, ne_eq]
    exact hK
/-- the first k octets are written -/
def picC (h0 h : Hp) (f : Int → Int) (k : Int) : Prop := h 0 11 = k ∧ (∀ j, 0 ≤ j → j < k → h 23 j = f j) ∧ ∀ i j, i ≠ 23 → ¬ (i = 0 ∧ j = 11) → h i j = h0 i j
theorem c_write {f : Int → Int} {k v : Int} (hp : picC h0 h f k) (hk : 0 ≤ k ∧ k < 45) (hv : v = f k) (hK : ∀ h', picC h0 h' f (k + 1) → K 0 h') : m_OG_write [0, v] h K := by
  obtain ⟨a, b, c⟩ := hp
  unfold m_OG_write
  simp -implicitDefEqProofs only [↓dn_den, ↓dn_loc, ↓dn_k, ↓dn_add, ↓dn_sub, ↓dn_mul, ↓dn_div, ↓dn_rem, ↓dn_bop, ↓dn_ladd, ↓dn_lsub, ↓dn_lmul, ↓dn_ldiv, ↓dn_lrem, ↓dn_land, ↓dn_l2i, ↓dn_neg, ↓dn_get, ↓dn_fix, ↓dn_ald, ↓dn_gld, ↓dn_yld, ↓dn_len, ↓dn_gln, ↓dn_cc, ↓dn_cb, ↓dn_and, ↓dn_or, ↓dn_not, ↓dn_cite, ↓dn_ec, ↓dn_ei, ↓dn_skip, ↓dn_seq, ↓dn_set, ↓dn_inc, ↓dn_putf, ↓dn_putz, ↓dn_ast, ↓dn_exp, ↓dn_if, ↓dn_ret, ↓dn_retz, ↓dn_retv, ↓dn_brk, ↓dn_cont, ↓dn_cs, ↓dn_sw, ↓dn_pop32, ↓dn_pop64, ↓dn_aop, ↓dn_call, ↓dn_max, ↓dn_min, ↓dn_acp, ↓dn_i2l, ↓dn_args0, ↓dn_args1, og_pad, og_ent, og_rlt, og_rle, og_rgt, og_rge, og_req, og_rne, og_padd, og_psub, og_pmul, List.getD_cons_zero, List.getD_cons_succ, List.set_cons_zero, List.set_cons_succ, List.length_cons, List.length_nil, List.cons_append, List.nil_append, List.replicate, List.append_nil, Nat.reduceAdd, Nat.reduceSub, Nat.reduceEqDiff, if_true, if_false, reduceIte, Int.reduceAdd, Int.reduceSub, Int.reduceMul, Int.reduceNeg, Int.reduceLT, Int.reduceLE, Int.cast_ofNat_Int, true_or, or_true, true_and, and_true, false_and, List.mem_cons, List.not_mem_nil, or_false, false_or, ne_eq, og_i32]
  rw [a, og_up_i (by decide), a]
  refine ⟨fun _ => ?_, fun z => by omega⟩
  repeat (refine And.intro (by omega) ?_)
  refine hK _ ⟨by rw [og_up_eq], fun j j0 j1 => ?_, fun i j hi hj => ?_⟩
  · rw [og_up_i (by decide)]
    by_cases e : j = k
    · subst e; rw [og_up_eq, hv]
    · rw [og_up_k e]; exact b j j0 (by omega)
  · have : ∀ w : Int, og_up (og_up h 23 k v) 0 11 w i j = h i j := fun w => by unfold og_up; rw [if_neg hj, if_neg (fun z => hi z.1)]
    rw [this]; exact c i j hi hj
def picM (h0 h : Hp) (f : Int → Int) (k : Int) : Prop := h 1000 101 = k ∧ (∀ j, 0 ≤ j → j < k → h 1073 j = f j) ∧ ∀ i j, i ≠ 1073 → ¬ (i = 1000 ∧ j = 101) → h i j = h0 i j
theorem r_writes {f : Int → Int} {k v : Int} (hp : picM h0 h f k) (hk : 0 ≤ k ∧ k < 45) (hv : f k = if v = -1 then 255 else v) (hK : ∀ h', picM h0 h' f (k + 1) → K 0 h') : m_Model_writes [1000, v] h K := by
  obtain ⟨a, b, c⟩ := hp
  unfold m_Model_writes
  simp -implicitDefEqProofs only [↓dn_den, ↓dn_loc, ↓dn_k, ↓dn_add, ↓dn_sub, ↓dn_mul, ↓dn_div, ↓dn_rem, ↓dn_bop, ↓dn_ladd, ↓dn_lsub, ↓dn_lmul, ↓dn_ldiv, ↓dn_lrem, ↓dn_land, ↓dn_l2i, ↓dn_neg, ↓dn_get, ↓dn_fix, ↓dn_ald, ↓dn_gld, ↓dn_yld, ↓dn_len, ↓dn_gln, ↓dn_cc, ↓dn_cb, ↓dn_and, ↓dn_or, ↓dn_not, ↓dn_cite, ↓dn_ec, ↓dn_ei, ↓dn_skip, ↓dn_seq, ↓dn_set, ↓dn_inc, ↓dn_putf, ↓dn_putz, ↓dn_ast, ↓dn_exp, ↓dn_if, ↓dn_ret, ↓dn_retz, ↓dn_retv, ↓dn_brk, ↓dn_cont, ↓dn_cs, ↓dn_sw, ↓dn_pop32, ↓dn_pop64, ↓dn_aop, ↓dn_call, ↓dn_max, ↓dn_min, ↓dn_acp, ↓dn_i2l, ↓dn_args0, ↓dn_args1, og_pad, og_ent, og_rlt, og_rle, og_rgt, og_rge, og_req, og_rne, og_padd, og_psub, og_pmul, List.getD_cons_zero, List.getD_cons_succ, List.set_cons_zero, List.set_cons_succ, List.length_cons, List.length_nil, List.cons_append, List.nil_append, List.replicate, List.append_nil, Nat.reduceAdd, Nat.reduceSub, Nat.reduceEqDiff, if_true, if_false, reduceIte, Int.reduceAdd, Int.reduceSub, Int.reduceMul, Int.reduceNeg, Int.reduceLT, Int.reduceLE, Int.cast_ofNat_Int, true_or, or_true, true_and, and_true, false_and, List.mem_cons, List.not_mem_nil, or_false, false_or, ne_eq, og_i32]
  rw [a]
  have fin : ∀ w : Int, w = f k → ∀ h', h' = og_up (og_up h 1073 k w) 1000 101 (k + 1) → K 0 h' := by
    intro w hw h' eh
    subst eh
    refine hK _ ⟨by rw [og_up_eq], fun j j0 j1 => ?_, fun i j hi hj => ?_⟩
    · rw [og_up_i (by decide)]
      by_cases e : j = k
      · subst e; rw [og_up_eq, hw]
      · rw [og_up_k e]; exact b j j0 (by omega)
    · have : ∀ x : Int, og_up (og_up h 1073 k w) 1000 101 x i j = h i j := fun x => by unfold og_up; rw [if_neg hj, if_neg (fun z => hi z.1)]
      rw [this]; exact c i j hi hj
  refine ⟨fun z => ?_, fun z => ?_⟩
  · rw [if_pos z] at hv
    rw [og_up_i (by decide), a]
    repeat (refine And.intro (by omega) ?_)
    exact fin _ hv.symm _ rfl
  · rw [if_neg z] at hv
    rw [og_up_i (by decide), a]
    repeat (refine And.intro (by omega) ?_)
    exact fin _ hv.symm _ rfl
theorem relC_pic (hr : relC q h A P U X) (hf : ∀ i j, i ≠ 23 → ¬ (i = 0 ∧ j = 11) → h' i j = h i j) (h1 : h' 0 11 = imS A + 1) (h2 : ∀ j, 0 ≤ j → j < imS A + 1 → h' 23 j = if j < imS A then imB A j else mxN (imB A) (imS A).toNat) : relC q h' A P U (sIm A X) := by
  obtain ⟨y, p, r, f⟩ := hr
  refine ⟨isY_fr y (fun i k a b => hf i k (by omega) (by omega)), pastC_fr p (fun i k hi => hf i k (by omega) (by omega)), ?_, fun i k hi => (hf i k (by omega) (by omega)).trans (f i k hi)⟩
  refine restC_new r (fun i k hi => hf i k (by omega) (by omega)) (fun j => by rw [sIm_row (by decide) (by decide)]) ?_ ?_ ?_ ?_ ?_
  · rw [sIm_row (by decide) (by decide), sIm_0 (by decide)]; exact ⟨by rw [hf _ _ (by omega) (by omega)]; exact r.2.1.1, fun j a b => by rw [hf _ _ (by omega) (by omega)]; exact r.2.1.2 j a b⟩
  · rw [sIm_row (c := 2) (by decide) (by decide), sIm_0 (by decide)]; exact ⟨by rw [hf _ _ (by omega) (by omega)]; exact r.2.2.1.1, fun j a b => by rw [hf _ _ (by omega) (by omega)]; exact r.2.2.1.2 j a b⟩
  · intro k a b; rw [sIm_row (by decide) (by decide), hf _ _ (by omega) (by omega)]; exact r.2.2.2.1 k a b
  · rw [sIm_0 (by decide), sIm_0 (by decide), sIm_0 (by decide), hf _ _ (by omega) (by omega), hf _ _ (by omega) (by omega), hf _ _ (by omega) (by omega)]; exact r.2.2.2.2.1
  · rw [sIm_05]; exact ⟨h1, fun j a b => by rw [sIm_4]; exact h2 j a b⟩
theorem relM_pic (ho : okY A) (hr : relM q h M A P U X) (hf : ∀ i j, i ≠ 1073 → ¬ (i = 1000 ∧ j = 101) → h' i j = h i j) (h1 : h' 1000 101 = imS A + 1) (h2 : ∀ j, 0 ≤ j → j < imS A + 1 → h' 1073 j = if j < imS A then imB A j else mxN (imB A) (imS A).toNat) : relM q h' M A P U (sIm A X) := by
  obtain ⟨⟨y, z1, t⟩, p, r, f⟩ := hr
  have z' : h' 1000 53 = 0 := (hf _ _ (by omega) (by omega)).trans z1
  refine ⟨⟨isN_fr y ho z1 z' (fun i k hi => hf i k (by omega) (by omega)), z', by unfold tmB; rw [hf _ _ (by omega) (by omega)]; exact t⟩, pastM_fr p (fun i k hi => hf i k (by omega) (by omega)), ?_, fun i k hi => (hf i k (by omega) (by omega)).trans (f i k hi)⟩
  refine restM_new r (fun i k hi => hf i k (by omega) (by omega)) (fun j => by rw [sIm_row (by decide) (by decide)]) ?_ ?_ ?_ ?_ ?_
  · rw [sIm_row (by decide) (by decide), sIm_0 (by decide)]; exact ⟨by rw [hf _ _ (by omega) (by omega)]; exact r.2.1.1, fun j a b => by rw [hf _ _ (by omega) (by omega)]; exact r.2.1.2 j a b⟩
  · rw [sIm_row (c := 2) (by decide) (by decide), sIm_0 (by decide)]; exact ⟨by rw [hf _ _ (by omega) (by omega)]; exact r.2.2.1.1, fun j a b => by rw [hf _ _ (by omega) (by omega)]; exact r.2.2.1.2 j a b⟩
  · intro k a b; rw [sIm_row (by decide) (by decide), hf _ _ (by omega) (by omega)]; exact r.2.2.2.1 k a b
  · rw [sIm_0 (by decide), sIm_0 (by decide), sIm_0 (by decide), hf _ _ (by omega) (by omega), hf _ _ (by omega) (by omega), hf _ _ (by omega) (by omega)]; exact r.2.2.2.2.1
  · rw [sIm_05]; exact ⟨h1, fun j a b => by rw [sIm_4]; exact h2 j a b⟩
theorem imB_g {A : Yd} {g r : Int} (hr : 0 ≤ r ∧ r < 3) (h0 : 0 ≤ g) (h1 : g < A 0 0) : imB A (2 + 3 * g + r) = if r = 0 then A 2 g else if r = 1 then A 3 g else if A 4 g = -1 then 255 else A 4 g := by
  unfold imB imG
  rw [if_neg (by omega), if_neg (by omega), if_pos (by omega)]
  have e1 : (2 + 3 * g + r - 2) % 3 = r := by omega
  have e2 : (2 + 3 * g + r - 2) / 3 = g := by omega
  rw [e1, e2]
theorem imB_p {A : Yd} {p r : Int} (hA : 0 ≤ A 0 0) (hr : 0 ≤ r ∧ r < 3) (h0 : 0 ≤ p) : imB A (2 + 3 * A 0 0 + 3 * p + r) = if r = 0 then A 8 p else if r = 1 then A 6 p else A 7 p := by
  unfold imB imP
  rw [if_neg (by omega), if_neg (by omega), if_neg (by omega)]
  have e1 : (2 + 3 * A 0 0 + 3 * p + r - 2 - 3 * A 0 0) % 3 = r := by omega
  have e2 : (2 + 3 * A 0 0 + 3 * p + r - 2 - 3 * A 0 0) / 3 = p := by omega
  rw [e1, e2]
theorem c_image (hr : relC q h A P U X) (hx : okX n A P U X) (hK : ∀ h', relC q h' A P U (sIm A X) → K (imS A + 1) h') : m_OG_image [0] h K := by
  have ho := hx.1.1
  have h6 := ho.1
  have hng : sNg A = (A 0 0).toNat := rfl
  have hnp : sNp A = (A 0 1).toNat := rfl
  have yf : ∀ {h1 : Hp} {f : Int → Int} {k : Int}, picC h h1 f k → isY h1 100 A := fun hp => isY_fr hr.1 (fun i k a b => hp.2.2 i k (by omega) (by omega))
  generalize hf : (fun j => if j < imS A then imB A j else mxN (imB A) (imS A).toNat) = f
  have fv : ∀ j, j < imS A → f j = imB A j := fun j hj => by rw [← hf]; exact if_pos hj
  have fs : f (imS A) = mxN (imB A) (imS A).toNat := by rw [← hf]; exact if_neg (Int.lt_irrefl _)
  have es : imS A = 2 + 3 * A 0 0 + 3 * A 0 1 := rfl
  unfold m_OG_image
  simp -implicitDefEqProofs only [↓dn_den, ↓dn_loc, ↓dn_k, ↓dn_add, ↓dn_sub, ↓dn_mul, ↓dn_div, ↓dn_rem, ↓dn_bop, ↓dn_ladd, ↓dn_lsub, ↓dn_lmul, ↓dn_ldiv, ↓dn_lrem, ↓dn_land, ↓dn_l2i, ↓dn_neg, ↓dn_get, ↓dn_fix, ↓dn_ald, ↓dn_gld, ↓dn_yld, ↓dn_len, ↓dn_gln, ↓dn_cc, ↓dn_cb, ↓dn_and, ↓dn_or, ↓dn_not, ↓dn_cite, ↓dn_ec, ↓dn_ei, ↓dn_skip, ↓dn_seq, ↓dn_set, ↓dn_inc, ↓dn_putf, ↓dn_putz, ↓dn_ast, ↓dn_exp, ↓dn_if, ↓dn_ret, ↓dn_retz, ↓dn_retv, ↓dn_brk, ↓dn_cont, ↓dn_cs, ↓dn_sw, ↓dn_pop32, ↓dn_pop64, ↓dn_aop, ↓dn_call, ↓dn_max, ↓dn_min, ↓dn_acp, ↓dn_i2l, ↓dn_args0, ↓dn_args1, og_pad, og_ent, og_rlt, og_rle, og_rgt, og_rge, og_req, og_rne, og_padd, og_psub, og_pmul, List.getD_cons_zero, List.getD_cons_succ, List.set_cons_zero, List.set_cons_succ, List.length_cons, List.length_nil, List.cons_append, List.nil_append, List.replicate, List.append_nil, Nat.reduceAdd, Nat.reduceSub, Nat.reduceEqDiff, if_true, if_false, reduceIte, Int.reduceAdd, Int.reduceSub, Int.reduceMul, Int.reduceNeg, Int.reduceLT, Int.reduceLE, Int.cast_ofNat_Int, true_or, or_true, true_and, and_true, false_and, List.mem_cons, List.not_mem_nil, or_false, false_or, ne_eq, og_i32]
  have e2 : ∀ v : Int, og_up h 0 11 v 100 2 = A 0 2 := fun v => by rw [og_up_i (by decide)]; exact hr.1.1.2.2.1
  rw [e2]
  have p0 : picC h (og_up h 0 11 0) f 0 := ⟨og_up_eq, fun j a b => by omega, fun i j hi hj => by unfold og_up; exact if_neg hj⟩
  have ed : (A 0 2).tdiv 256 = A 0 2 / 256 := Int.tdiv_eq_ediv_of_nonneg (by omega)
  have em : (A 0 2).tmod 256 = A 0 2 % 256 := Int.tmod_eq_emod_of_nonneg (by omega)
  rw [ed]
  refine ⟨by decide, by omega, ?_⟩
  refine c_write p0 (by omega) (by rw [fv _ (by omega)]; rfl) (fun h1 p1 => ?_)
  rw [(yf p1).1.2.2.1, em]
  refine ⟨by decide, ?_⟩
  refine c_write p1 (by omega) (by rw [fv _ (by omega)]; rfl) (fun h2 p2 => ?_)
  refine ⟨fun e3 h3 => (∃ c1, e3 = [0, c1]) ∧ picC h h3 f (2 + 3 * A 0 0), ?_, ?_⟩
  · simp -implicitDefEqProofs only [↓dn_den, ↓dn_loc, ↓dn_k, ↓dn_add, ↓dn_sub, ↓dn_mul, ↓dn_div, ↓dn_rem, ↓dn_bop, ↓dn_ladd, ↓dn_lsub, ↓dn_lmul, ↓dn_ldiv, ↓dn_lrem, ↓dn_land, ↓dn_l2i, ↓dn_neg, ↓dn_get, ↓dn_fix, ↓dn_ald, ↓dn_gld, ↓dn_yld, ↓dn_len, ↓dn_gln, ↓dn_cc, ↓dn_cb, ↓dn_and, ↓dn_or, ↓dn_not, ↓dn_cite, ↓dn_ec, ↓dn_ei, ↓dn_skip, ↓dn_seq, ↓dn_set, ↓dn_inc, ↓dn_putf, ↓dn_putz, ↓dn_ast, ↓dn_exp, ↓dn_if, ↓dn_ret, ↓dn_retz, ↓dn_retv, ↓dn_brk, ↓dn_cont, ↓dn_cs, ↓dn_sw, ↓dn_pop32, ↓dn_pop64, ↓dn_aop, ↓dn_call, ↓dn_max, ↓dn_min, ↓dn_acp, ↓dn_i2l, ↓dn_args0, ↓dn_args1, og_pad, og_ent, og_rlt, og_rle, og_rgt, og_rge, og_req, og_rne, og_padd, og_psub, og_pmul, List.getD_cons_zero, List.getD_cons_succ, List.set_cons_zero, List.set_cons_succ, List.length_cons, List.length_nil, List.cons_append, List.nil_append, List.replicate, List.append_nil, Nat.reduceAdd, Nat.reduceSub, Nat.reduceEqDiff, if_true, if_false, reduceIte, Int.reduceAdd, Int.reduceSub, Int.reduceMul, Int.reduceNeg, Int.reduceLT, Int.reduceLE, Int.cast_ofNat_Int, true_or, or_true, true_and, and_true, false_and, List.mem_cons, List.not_mem_nil, or_false, false_or, ne_eq]
    refine og_loop (sNg A) (fun i e3 h3 => e3 = [0, (i : Int)] ∧ picC h h3 f (2 + 3 * i)) ⟨rfl, by simpa using p2⟩ ?_
    rintro i e3 h3 hi ⟨rfl, p3⟩
    simp -implicitDefEqProofs only [↓dn_den, ↓dn_loc, ↓dn_k, ↓dn_add, ↓dn_sub, ↓dn_mul, ↓dn_div, ↓dn_rem, ↓dn_bop, ↓dn_ladd, ↓dn_lsub, ↓dn_lmul, ↓dn_ldiv, ↓dn_lrem, ↓dn_land, ↓dn_l2i, ↓dn_neg, ↓dn_get, ↓dn_fix, ↓dn_ald, ↓dn_gld, ↓dn_yld, ↓dn_len, ↓dn_gln, ↓dn_cc, ↓dn_cb, ↓dn_and, ↓dn_or, ↓dn_not, ↓dn_cite, ↓dn_ec, ↓dn_ei, ↓dn_skip, ↓dn_seq, ↓dn_set, ↓dn_inc, ↓dn_putf, ↓dn_putz, ↓dn_ast, ↓dn_exp, ↓dn_if, ↓dn_ret, ↓dn_retz, ↓dn_retv, ↓dn_brk, ↓dn_cont, ↓dn_cs, ↓dn_sw, ↓dn_pop32, ↓dn_pop64, ↓dn_aop, ↓dn_call, ↓dn_max, ↓dn_min, ↓dn_acp, ↓dn_i2l, ↓dn_args0, ↓dn_args1, og_pad, og_ent, og_rlt, og_rle, og_rgt, og_rge, og_req, og_rne, og_padd, og_psub, og_pmul, List.getD_cons_zero, List.getD_cons_succ, List.set_cons_zero, List.set_cons_succ, List.length_cons, List.length_nil, List.cons_append, List.nil_append, List.replicate, List.append_nil, Nat.reduceAdd, Nat.reduceSub, Nat.reduceEqDiff, if_true, if_false, reduceIte, Int.reduceAdd, Int.reduceSub, Int.reduceMul, Int.reduceNeg, Int.reduceLT, Int.reduceLE, Int.cast_ofNat_Int, true_or, or_true, true_and, and_true, false_and, List.mem_cons, List.not_mem_nil, or_false, false_or, ne_eq, og_i32]
    rw [(yf p3).1.1]
    refine ⟨fun hlt => ?_, fun hge => ?_⟩
    · have y3 := (yf p3).2.1 i (by omega) hlt
      simp only [Int.reduceAdd] at y3
      rw [y3.2.1]
      refine ⟨by omega, by omega, c_write p3 (by omega) (by rw [fv _ (by omega)]; have := imB_g (A := A) (g := i) (r := 0) (by omega) (by omega) hlt; simp at this; rw [this]) (fun h4 p4 => ?_)⟩
      have y4 := (yf p4).2.1 i (by omega) hlt
      simp only [Int.reduceAdd] at y4
      rw [y4.2.2.1]
      refine ⟨by omega, by omega, c_write p4 (by omega) (by rw [fv _ (by omega)]; have := imB_g (A := A) (g := i) (r := 1) (by omega) (by omega) hlt; simp at this; rw [this]) (fun h5 p5 => ?_)⟩
      have y5 := (yf p5).2.1 i (by omega) hlt
      have e6 : 2 + 3 * (i : Int) + 1 + 1 + 1 = 2 + 3 * ((i + 1 : Nat) : Int) := by omega
      have v2 := imB_g (A := A) (g := i) (r := 2) (by omega) (by omega) hlt
      simp at v2
      have e7 : 2 + 3 * (i : Int) + 1 + 1 = 2 + 3 * (i : Int) + 2 := by omega
      refine s_Yard_isFilled (by omega) (by omega) ⟨fun a => ?_, fun a => ?_⟩
      · have a := iteP1 a
        rw [y5.2.2.2] at a
        simp only [Int.reduceAdd] at y5
        rw [y5.2.2.2]
        refine ⟨by omega, by omega, c_write p5 (by omega) (by rw [fv _ (by omega), e7, v2, if_neg a]) (fun h6' p6 => ?_)⟩
        rw [e6] at p6
        exact ⟨by omega, og_nx_mk (by omega) ⟨by simp, p6⟩⟩
      · have a := iteP0 a
        rw [y5.2.2.2] at a
        refine c_write p5 (by omega) (by rw [fv _ (by omega), e7, v2, if_pos (by simpa using a)]) (fun h6' p6 => ?_)
        rw [e6] at p6
        exact ⟨by omega, og_nx_mk (by omega) ⟨by simp, p6⟩⟩
    · have e : i = sNg A := by omega
      have e2 : (i : Int) = A 0 0 := by omega
      rw [e2] at p3
      exact ⟨⟨_, rfl⟩, p3⟩
  · rintro e3 h3 ⟨⟨c1, rfl⟩, p3⟩
    refine ⟨fun e4 h4 => (∃ c1, e4 = [0, c1]) ∧ picC h h4 f (imS A), ?_, ?_⟩
    · simp -implicitDefEqProofs only [↓dn_den, ↓dn_loc, ↓dn_k, ↓dn_add, ↓dn_sub, ↓dn_mul, ↓dn_div, ↓dn_rem, ↓dn_bop, ↓dn_ladd, ↓dn_lsub, ↓dn_lmul, ↓dn_ldiv, ↓dn_lrem, ↓dn_land, ↓dn_l2i, ↓dn_neg, ↓dn_get, ↓dn_fix, ↓dn_ald, ↓dn_gld, ↓dn_yld, ↓dn_len, ↓dn_gln, ↓dn_cc, ↓dn_cb, ↓dn_and, ↓dn_or, ↓dn_not, ↓dn_cite, ↓dn_ec, ↓dn_ei, ↓dn_skip, ↓dn_seq, ↓dn_set, ↓dn_inc, ↓dn_putf, ↓dn_putz, ↓dn_ast, ↓dn_exp, ↓dn_if, ↓dn_ret, ↓dn_retz, ↓dn_retv, ↓dn_brk, ↓dn_cont, ↓dn_cs, ↓dn_sw, ↓dn_pop32, ↓dn_pop64, ↓dn_aop, ↓dn_call, ↓dn_max, ↓dn_min, ↓dn_acp, ↓dn_i2l, ↓dn_args0, ↓dn_args1, og_pad, og_ent, og_rlt, og_rle, og_rgt, og_rge, og_req, og_rne, og_padd, og_psub, og_pmul, List.getD_cons_zero, List.getD_cons_succ, List.set_cons_zero, List.set_cons_succ, List.length_cons, List.length_nil, List.cons_append, List.nil_append, List.replicate, List.append_nil, Nat.reduceAdd, Nat.reduceSub, Nat.reduceEqDiff, if_true, if_false, reduceIte, Int.reduceAdd, Int.reduceSub, Int.reduceMul, Int.reduceNeg, Int.reduceLT, Int.reduceLE, Int.cast_ofNat_Int, true_or, or_true, true_and, and_true, false_and, List.mem_cons, List.not_mem_nil, or_false, false_or, ne_eq]
      refine og_loop (sNp A) (fun i e4 h4 => e4 = [0, (i : Int)] ∧ picC h h4 f (2 + 3 * A 0 0 + 3 * i)) ⟨rfl, by simpa using p3⟩ ?_
      rintro i e4 h4 hi ⟨rfl, p4⟩
      simp -implicitDefEqProofs only [↓dn_den, ↓dn_loc, ↓dn_k, ↓dn_add, ↓dn_sub, ↓dn_mul, ↓dn_div, ↓dn_rem, ↓dn_bop, ↓dn_ladd, ↓dn_lsub, ↓dn_lmul, ↓dn_ldiv, ↓dn_lrem, ↓dn_land, ↓dn_l2i, ↓dn_neg, ↓dn_get, ↓dn_fix, ↓dn_ald, ↓dn_gld, ↓dn_yld, ↓dn_len, ↓dn_gln, ↓dn_cc, ↓dn_cb, ↓dn_and, ↓dn_or, ↓dn_not, ↓dn_cite, ↓dn_ec, ↓dn_ei, ↓dn_skip, ↓dn_seq, ↓dn_set, ↓dn_inc, ↓dn_putf, ↓dn_putz, ↓dn_ast, ↓dn_exp, ↓dn_if, ↓dn_ret, ↓dn_retz, ↓dn_retv, ↓dn_brk, ↓dn_cont, ↓dn_cs, ↓dn_sw, ↓dn_pop32, ↓dn_pop64, ↓dn_aop, ↓dn_call, ↓dn_max, ↓dn_min, ↓dn_acp, ↓dn_i2l, ↓dn_args0, ↓dn_args1, og_pad, og_ent, og_rlt, og_rle, og_rgt, og_rge, og_req, og_rne, og_padd, og_psub, og_pmul, List.getD_cons_zero, List.getD_cons_succ, List.set_cons_zero, List.set_cons_succ, List.length_cons, List.length_nil, List.cons_append, List.nil_append, List.replicate, List.append_nil, Nat.reduceAdd, Nat.reduceSub, Nat.reduceEqDiff, if_true, if_false, reduceIte, Int.reduceAdd, Int.reduceSub, Int.reduceMul, Int.reduceNeg, Int.reduceLT, Int.reduceLE, Int.cast_ofNat_Int, true_or, or_true, true_and, and_true, false_and, List.mem_cons, List.not_mem_nil, or_false, false_or, ne_eq, og_i32]
      rw [(yf p4).1.2.1]
      refine ⟨fun hlt => ?_, fun hge => ?_⟩
      · have y4 := (yf p4).2.2.1 i (by omega) hlt
        simp only [Int.reduceAdd] at y4
        rw [y4.2.2.2]
        refine ⟨by omega, by omega, c_write p4 (by omega) (by rw [fv _ (by omega)]; have := imB_p (A := A) (p := i) (r := 0) (by omega) (by omega) (by omega); simp at this; rw [this]) (fun h5 p5 => ?_)⟩
        have y5 := (yf p5).2.2.1 i (by omega) hlt
        simp only [Int.reduceAdd] at y5
        rw [y5.2.1]
        refine ⟨by omega, by omega, c_write p5 (by omega) (by rw [fv _ (by omega)]; have := imB_p (A := A) (p := i) (r := 1) (by omega) (by omega) (by omega); simp at this; rw [this]) (fun h6' p6 => ?_)⟩
        have y6 := (yf p6).2.2.1 i (by omega) hlt
        simp only [Int.reduceAdd] at y6
        rw [y6.2.2.1]
        have e7 : 2 + 3 * A 0 0 + 3 * (i : Int) + 1 + 1 = 2 + 3 * A 0 0 + 3 * (i : Int) + 2 := by omega
        refine ⟨by omega, by omega, c_write p6 (by omega) (by rw [fv _ (by omega), e7]; have := imB_p (A := A) (p := i) (r := 2) (by omega) (by omega) (by omega); simp at this; rw [this]) (fun h7 p7 => ?_)⟩
        have e8 : 2 + 3 * A 0 0 + 3 * (i : Int) + 1 + 1 + 1 = 2 + 3 * A 0 0 + 3 * ((i + 1 : Nat) : Int) := by omega
        rw [e8] at p7
        exact ⟨by omega, og_nx_mk (by omega) ⟨by simp, p7⟩⟩
      · have e : i = sNp A := by omega
        have e2 : (i : Int) = A 0 1 := by omega
        rw [e2] at p4
        exact ⟨⟨_, rfl⟩, p4⟩
    · rintro e4 h4 ⟨⟨c1', rfl⟩, p4⟩
      simp -implicitDefEqProofs only [↓dn_den, ↓dn_loc, ↓dn_k, ↓dn_add, ↓dn_sub, ↓dn_mul, ↓dn_div, ↓dn_rem, ↓dn_bop, ↓dn_ladd, ↓dn_lsub, ↓dn_lmul, ↓dn_ldiv, ↓dn_lrem, ↓dn_land, ↓dn_l2i, ↓dn_neg, ↓dn_get, ↓dn_fix, ↓dn_ald, ↓dn_gld, ↓dn_yld, ↓dn_len, ↓dn_gln, ↓dn_cc, ↓dn_cb, ↓dn_and, ↓dn_or, ↓dn_not, ↓dn_cite, ↓dn_ec, ↓dn_ei, ↓dn_skip, ↓dn_seq, ↓dn_set, ↓dn_inc, ↓dn_putf, ↓dn_putz, ↓dn_ast, ↓dn_exp, ↓dn_if, ↓dn_ret, ↓dn_retz, ↓dn_retv, ↓dn_brk, ↓dn_cont, ↓dn_cs, ↓dn_sw, ↓dn_pop32, ↓dn_pop64, ↓dn_aop, ↓dn_call, ↓dn_max, ↓dn_min, ↓dn_acp, ↓dn_i2l, ↓dn_args0, ↓dn_args1, og_pad, og_ent, og_rlt, og_rle, og_rgt, og_rge, og_req, og_rne, og_padd, og_psub, og_pmul, List.getD_cons_zero, List.getD_cons_succ, List.set_cons_zero, List.set_cons_succ, List.length_cons, List.length_nil, List.cons_append, List.nil_append, List.replicate, List.append_nil, Nat.reduceAdd, Nat.reduceSub, Nat.reduceEqDiff, if_true, if_false, reduceIte, Int.reduceAdd, Int.reduceSub, Int.reduceMul, Int.reduceNeg, Int.reduceLT, Int.reduceLE, Int.cast_ofNat_Int, true_or, or_true, true_and, and_true, false_and, List.mem_cons, List.not_mem_nil, or_false, false_or, ne_eq]
      rw [p4.1]
      have ec : imS A = ((imS A).toNat : Int) := by omega
      have hmx : ∀ {K : Int → Hp → Prop}, K (mxN (imB A) (imS A).toNat) h4 → m_OG_mixed [23, imS A] h4 K := by
        intro K hK
        have := s_mixed (h := h4) (a := 23) (m := (imS A).toNat) (f := imB A) (K := K) (by rw [og_siz23]; omega) (by omega) (fun j hj => ⟨by rw [p4.2.1 j (by omega) (by omega)]; exact fv _ (by omega), imB_rg ho (by omega) (by omega)⟩) hK
        rw [← ec] at this
        exact this
      refine hmx ?_
      refine c_write p4 (by omega) fs.symm (fun h5 p5 => ?_)
      rw [p5.1]
      refine hK h5 (relC_pic hr p5.2.2 p5.1 (fun j a b => ?_))
      rw [p5.2.1 j a b, ← hf]
theorem m_image (hr : relM q h M A P U X) (hx : okX n A P U X) (hK : ∀ h', relM q h' M A P U (sIm A X) → K (imS A + 1) h') : m_Model_image [1000] h K := by
  have ho := hx.1.1
  have h6 := ho.1
  have hng : sNg A = (A 0 0).toNat := rfl
  have hnp : sNp A = (A 0 1).toNat := rfl
  have yf : ∀ {h1 : Hp} {f : Int → Int} {k : Int}, picM h h1 f k → isM h1 A := fun hp => isM_fr hr.1.1.1 (fun i k hi => hp.2.2 i k (by omega) (by omega))
  generalize hf : (fun j => if j < imS A then imB A j else mxN (imB A) (imS A).toNat) = f
  have fv : ∀ j, j < imS A → f j = imB A j := fun j hj => by rw [← hf]; exact if_pos hj
  have fs : f (imS A) = mxN (imB A) (imS A).toNat := by rw [← hf]; exact if_neg (Int.lt_irrefl _)
  have es : imS A = 2 + 3 * A 0 0 + 3 * A 0 1 := rfl
  unfold m_Model_image
  simp -implicitDefEqProofs only [↓dn_den, ↓dn_loc, ↓dn_k, ↓dn_add, ↓dn_sub, ↓dn_mul, ↓dn_div, ↓dn_rem, ↓dn_bop, ↓dn_ladd, ↓dn_lsub, ↓dn_lmul, ↓dn_ldiv, ↓dn_lrem, ↓dn_land, ↓dn_l2i, ↓dn_neg, ↓dn_get, ↓dn_fix, ↓dn_ald, ↓dn_gld, ↓dn_yld, ↓dn_len, ↓dn_gln, ↓dn_cc, ↓dn_cb, ↓dn_and, ↓dn_or, ↓dn_not, ↓dn_cite, ↓dn_ec, ↓dn_ei, ↓dn_skip, ↓dn_seq, ↓dn_set, ↓dn_inc, ↓dn_putf, ↓dn_putz, ↓dn_ast, ↓dn_exp, ↓dn_if, ↓dn_ret, ↓dn_retz, ↓dn_retv, ↓dn_brk, ↓dn_cont, ↓dn_cs, ↓dn_sw, ↓dn_pop32, ↓dn_pop64, ↓dn_aop, ↓dn_call, ↓dn_max, ↓dn_min, ↓dn_acp, ↓dn_i2l, ↓dn_args0, ↓dn_args1, og_pad, og_ent, og_rlt, og_rle, og_rgt, og_rge, og_req, og_rne, og_padd, og_psub, og_pmul, List.getD_cons_zero, List.getD_cons_succ, List.set_cons_zero, List.set_cons_succ, List.length_cons, List.length_nil, List.cons_append, List.nil_append, List.replicate, List.append_nil, Nat.reduceAdd, Nat.reduceSub, Nat.reduceEqDiff, if_true, if_false, reduceIte, Int.reduceAdd, Int.reduceSub, Int.reduceMul, Int.reduceNeg, Int.reduceLT, Int.reduceLE, Int.cast_ofNat_Int, true_or, or_true, true_and, and_true, false_and, List.mem_cons, List.not_mem_nil, or_false, false_or, ne_eq, og_i32]
  have e2 : ∀ v : Int, og_up h 1000 101 v 1037 0 = A 0 2 := fun v => by rw [og_up_i (by decide)]; exact hr.1.1.1.1.2.2
  rw [e2]
  have p0 : picM h (og_up h 1000 101 0) f 0 := ⟨og_up_eq, fun j a b => by omega, fun i j hi hj => by unfold og_up; exact if_neg hj⟩
  have ed : (A 0 2).tdiv 256 = A 0 2 / 256 := Int.tdiv_eq_ediv_of_nonneg (by omega)
  have em : (A 0 2).tmod 256 = A 0 2 % 256 := Int.tmod_eq_emod_of_nonneg (by omega)
  rw [ed]
  refine ⟨by decide, by omega, ?_⟩
  refine r_writes p0 (by omega) (by rw [fv _ (by omega), if_neg (by omega)]; rfl) (fun h1 p1 => ?_)
  rw [(yf p1).1.2.2, em]
  refine ⟨by decide, ?_⟩
  refine r_writes p1 (by omega) (by rw [fv _ (by omega), if_neg (by omega)]; rfl) (fun h2 p2 => ?_)
  refine ⟨fun e3 h3 => (∃ c1, e3 = [1000, c1]) ∧ picM h h3 f (2 + 3 * A 0 0), ?_, ?_⟩
  · simp -implicitDefEqProofs only [↓dn_den, ↓dn_loc, ↓dn_k, ↓dn_add, ↓dn_sub, ↓dn_mul, ↓dn_div, ↓dn_rem, ↓dn_bop, ↓dn_ladd, ↓dn_lsub, ↓dn_lmul, ↓dn_ldiv, ↓dn_lrem, ↓dn_land, ↓dn_l2i, ↓dn_neg, ↓dn_get, ↓dn_fix, ↓dn_ald, ↓dn_gld, ↓dn_yld, ↓dn_len, ↓dn_gln, ↓dn_cc, ↓dn_cb, ↓dn_and, ↓dn_or, ↓dn_not, ↓dn_cite, ↓dn_ec, ↓dn_ei, ↓dn_skip, ↓dn_seq, ↓dn_set, ↓dn_inc, ↓dn_putf, ↓dn_putz, ↓dn_ast, ↓dn_exp, ↓dn_if, ↓dn_ret, ↓dn_retz, ↓dn_retv, ↓dn_brk, ↓dn_cont, ↓dn_cs, ↓dn_sw, ↓dn_pop32, ↓dn_pop64, ↓dn_aop, ↓dn_call, ↓dn_max, ↓dn_min, ↓dn_acp, ↓dn_i2l, ↓dn_args0, ↓dn_args1, og_pad, og_ent, og_rlt, og_rle, og_rgt, og_rge, og_req, og_rne, og_padd, og_psub, og_pmul, List.getD_cons_zero, List.getD_cons_succ, List.set_cons_zero, List.set_cons_succ, List.length_cons, List.length_nil, List.cons_append, List.nil_append, List.replicate, List.append_nil, Nat.reduceAdd, Nat.reduceSub, Nat.reduceEqDiff, if_true, if_false, reduceIte, Int.reduceAdd, Int.reduceSub, Int.reduceMul, Int.reduceNeg, Int.reduceLT, Int.reduceLE, Int.cast_ofNat_Int, true_or, or_true, true_and, and_true, false_and, List.mem_cons, List.not_mem_nil, or_false, false_or, ne_eq]
    refine og_loop (3 * sNg A) (fun i e3 h3 => e3 = [1000, (i : Int)] ∧ picM h h3 f (2 + i)) ⟨rfl, by simpa using p2⟩ ?_
    rintro i e3 h3 hi ⟨rfl, p3⟩
    simp -implicitDefEqProofs only [↓dn_den, ↓dn_loc, ↓dn_k, ↓dn_add, ↓dn_sub, ↓dn_mul, ↓dn_div, ↓dn_rem, ↓dn_bop, ↓dn_ladd, ↓dn_lsub, ↓dn_lmul, ↓dn_ldiv, ↓dn_lrem, ↓dn_land, ↓dn_l2i, ↓dn_neg, ↓dn_get, ↓dn_fix, ↓dn_ald, ↓dn_gld, ↓dn_yld, ↓dn_len, ↓dn_gln, ↓dn_cc, ↓dn_cb, ↓dn_and, ↓dn_or, ↓dn_not, ↓dn_cite, ↓dn_ec, ↓dn_ei, ↓dn_skip, ↓dn_seq, ↓dn_set, ↓dn_inc, ↓dn_putf, ↓dn_putz, ↓dn_ast, ↓dn_exp, ↓dn_if, ↓dn_ret, ↓dn_retz, ↓dn_retv, ↓dn_brk, ↓dn_cont, ↓dn_cs, ↓dn_sw, ↓dn_pop32, ↓dn_pop64, ↓dn_aop, ↓dn_call, ↓dn_max, ↓dn_min, ↓dn_acp, ↓dn_i2l, ↓dn_args0, ↓dn_args1, og_pad, og_ent, og_rlt, og_rle, og_rgt, og_rge, og_req, og_rne, og_padd, og_psub, og_pmul, List.getD_cons_zero, List.getD_cons_succ, List.set_cons_zero, List.set_cons_succ, List.length_cons, List.length_nil, List.cons_append, List.nil_append, List.replicate, List.append_nil, Nat.reduceAdd, Nat.reduceSub, Nat.reduceEqDiff, if_true, if_false, reduceIte, Int.reduceAdd, Int.reduceSub, Int.reduceMul, Int.reduceNeg, Int.reduceLT, Int.reduceLE, Int.cast_ofNat_Int, true_or, or_true, true_and, and_true, false_and, List.mem_cons, List.not_mem_nil, or_false, false_or, ne_eq, og_i32]
    refine r_graveMany (yf p3) ⟨by omega, fun hlt => ?_, fun hge => ?_⟩
    · have y3 := (yf p3).2.1 ((i : Int) / 3) (by omega) (by omega)
      have og := ho.2.1 ((i : Int) / 3) (by omega) (by omega)
      have v := imB_g (A := A) (g := (i : Int) / 3) (r := (i : Int) % 3) (by omega) (by omega) (by omega)
      have ei : 2 + 3 * ((i : Int) / 3) + (i : Int) % 3 = 2 + i := by omega
      rw [ei] at v
      have cell : f (2 + i) = if h3 1037 (1 + i) = -1 then 255 else h3 1037 (1 + i) := by
        rw [fv _ (by omega), v]
        by_cases r0 : (i : Int) % 3 = 0
        · have ek : 1 + 3 * ((i : Int) / 3) = 1 + i := by omega
          rw [ek] at y3
          rw [if_pos r0, y3.2.1, if_neg (by omega)]
        · by_cases r1 : (i : Int) % 3 = 1
          · have ek : 2 + 3 * ((i : Int) / 3) = 1 + i := by omega
            rw [ek] at y3
            rw [if_neg r0, if_pos r1, y3.2.2.1, if_neg (by omega)]
          · have ek : 3 + 3 * ((i : Int) / 3) = 1 + i := by omega
            rw [ek] at y3
            rw [if_neg r0, if_neg r1, y3.2.2.2]
      refine ⟨by omega, by omega, by omega, r_writes p3 (by omega) cell (fun h4 p4 => ?_)⟩
      have e8 : 2 + (i : Int) + 1 = 2 + ((i + 1 : Nat) : Int) := by omega
      rw [e8] at p4
      exact ⟨by omega, og_nx_mk (by omega) ⟨by simp, p4⟩⟩
    · have e2 : (i : Int) = 3 * A 0 0 := by omega
      rw [e2] at p3
      exact ⟨⟨_, rfl⟩, p3⟩
  · rintro e3 h3 ⟨⟨c1, rfl⟩, p3⟩
    refine ⟨fun e4 h4 => (∃ c1, e4 = [1000, c1]) ∧ picM h h4 f (imS A), ?_, ?_⟩
    · simp -implicitDefEqProofs only [↓dn_den, ↓dn_loc, ↓dn_k, ↓dn_add, ↓dn_sub, ↓dn_mul, ↓dn_div, ↓dn_rem, ↓dn_bop, ↓dn_ladd, ↓dn_lsub, ↓dn_lmul, ↓dn_ldiv, ↓dn_lrem, ↓dn_land, ↓dn_l2i, ↓dn_neg, ↓dn_get, ↓dn_fix, ↓dn_ald, ↓dn_gld, ↓dn_yld, ↓dn_len, ↓dn_gln, ↓dn_cc, ↓dn_cb, ↓dn_and, ↓dn_or, ↓dn_not, ↓dn_cite, ↓dn_ec, ↓dn_ei, ↓dn_skip, ↓dn_seq, ↓dn_set, ↓dn_inc, ↓dn_putf, ↓dn_putz, ↓dn_ast, ↓dn_exp, ↓dn_if, ↓dn_ret, ↓dn_retz, ↓dn_retv, ↓dn_brk, ↓dn_cont, ↓dn_cs, ↓dn_sw, ↓dn_pop32, ↓dn_pop64, ↓dn_aop, ↓dn_call, ↓dn_max, ↓dn_min, ↓dn_acp, ↓dn_i2l, ↓dn_args0, ↓dn_args1, og_pad, og_ent, og_rlt, og_rle, og_rgt, og_rge, og_req, og_rne, og_padd, og_psub, og_pmul, List.getD_cons_zero, List.getD_cons_succ, List.set_cons_zero, List.set_cons_succ, List.length_cons, List.length_nil, List.cons_append, List.nil_append, List.replicate, List.append_nil, Nat.reduceAdd, Nat.reduceSub, Nat.reduceEqDiff, if_true, if_false, reduceIte, Int.reduceAdd, Int.reduceSub, Int.reduceMul, Int.reduceNeg, Int.reduceLT, Int.reduceLE, Int.cast_ofNat_Int, true_or, or_true, true_and, and_true, false_and, List.mem_cons, List.not_mem_nil, or_false, false_or, ne_eq]
      refine og_loop (3 * sNp A) (fun i e4 h4 => e4 = [1000, (i : Int)] ∧ picM h h4 f (2 + 3 * A 0 0 + i)) ⟨rfl, by simpa using p3⟩ ?_
      rintro i e4 h4 hi ⟨rfl, p4⟩
      simp -implicitDefEqProofs only [↓dn_den, ↓dn_loc, ↓dn_k, ↓dn_add, ↓dn_sub, ↓dn_mul, ↓dn_div, ↓dn_rem, ↓dn_bop, ↓dn_ladd, ↓dn_lsub, ↓dn_lmul, ↓dn_ldiv, ↓dn_lrem, ↓dn_land, ↓dn_l2i, ↓dn_neg, ↓dn_get, ↓dn_fix, ↓dn_ald, ↓dn_gld, ↓dn_yld, ↓dn_len, ↓dn_gln, ↓dn_cc, ↓dn_cb, ↓dn_and, ↓dn_or, ↓dn_not, ↓dn_cite, ↓dn_ec, ↓dn_ei, ↓dn_skip, ↓dn_seq, ↓dn_set, ↓dn_inc, ↓dn_putf, ↓dn_putz, ↓dn_ast, ↓dn_exp, ↓dn_if, ↓dn_ret, ↓dn_retz, ↓dn_retv, ↓dn_brk, ↓dn_cont, ↓dn_cs, ↓dn_sw, ↓dn_pop32, ↓dn_pop64, ↓dn_aop, ↓dn_call, ↓dn_max, ↓dn_min, ↓dn_acp, ↓dn_i2l, ↓dn_args0, ↓dn_args1, og_pad, og_ent, og_rlt, og_rle, og_rgt, og_rge, og_req, og_rne, og_padd, og_psub, og_pmul, List.getD_cons_zero, List.getD_cons_succ, List.set_cons_zero, List.set_cons_succ, List.length_cons, List.length_nil, List.cons_append, List.nil_append, List.replicate, List.append_nil, Nat.reduceAdd, Nat.reduceSub, Nat.reduceEqDiff, if_true, if_false, reduceIte, Int.reduceAdd, Int.reduceSub, Int.reduceMul, Int.reduceNeg, Int.reduceLT, Int.reduceLE, Int.cast_ofNat_Int, true_or, or_true, true_and, and_true, false_and, List.mem_cons, List.not_mem_nil, or_false, false_or, ne_eq, og_i32]
      refine r_personMany (yf p4) ⟨by omega, fun hlt => ?_, fun hge => ?_⟩
      · have y4 := (yf p4).2.2 ((i : Int) / 3) (by omega) (by omega)
        have op := ho.2.2 ((i : Int) / 3) (by omega) (by omega)
        have v := imB_p (A := A) (p := (i : Int) / 3) (r := (i : Int) % 3) (by omega) (by omega) (by omega)
        have ei : 2 + 3 * A 0 0 + 3 * ((i : Int) / 3) + (i : Int) % 3 = 2 + 3 * A 0 0 + i := by omega
        rw [ei] at v
        have cell : f (2 + 3 * A 0 0 + i) = if h4 1037 (19 + i) = -1 then 255 else h4 1037 (19 + i) := by
          rw [fv _ (by omega), v]
          by_cases r0 : (i : Int) % 3 = 0
          · have ek : 19 + 3 * ((i : Int) / 3) = 19 + i := by omega
            rw [ek] at y4
            rw [if_pos r0, y4.2.2.2, if_neg (by omega)]
          · by_cases r1 : (i : Int) % 3 = 1
            · have ek : 20 + 3 * ((i : Int) / 3) = 19 + i := by omega
              rw [ek] at y4
              rw [if_neg r0, if_pos r1, y4.2.1, if_neg (by omega)]
            · have ek : 21 + 3 * ((i : Int) / 3) = 19 + i := by omega
              rw [ek] at y4
              rw [if_neg r0, if_neg r1, y4.2.2.1, if_neg (by omega)]
        refine ⟨by omega, by omega, by omega, r_writes p4 (by omega) cell (fun h5 p5 => ?_)⟩
        have e8 : 2 + 3 * A 0 0 + (i : Int) + 1 = 2 + 3 * A 0 0 + ((i + 1 : Nat) : Int) := by omega
        rw [e8] at p5
        exact ⟨by omega, og_nx_mk (by omega) ⟨by simp, p5⟩⟩
      · have e2 : (i : Int) = 3 * A 0 1 := by omega
        rw [e2] at p4
        exact ⟨⟨_, rfl⟩, p4⟩
    · rintro e4 h4 ⟨⟨c1', rfl⟩, p4⟩
      simp -implicitDefEqProofs only [↓dn_den, ↓dn_loc, ↓dn_k, ↓dn_add, ↓dn_sub, ↓dn_mul, ↓dn_div, ↓dn_rem, ↓dn_bop, ↓dn_ladd, ↓dn_lsub, ↓dn_lmul, ↓dn_ldiv, ↓dn_lrem, ↓dn_land, ↓dn_l2i, ↓dn_neg, ↓dn_get, ↓dn_fix, ↓dn_ald, ↓dn_gld, ↓dn_yld, ↓dn_len, ↓dn_gln, ↓dn_cc, ↓dn_cb, ↓dn_and, ↓dn_or, ↓dn_not, ↓dn_cite, ↓dn_ec, ↓dn_ei, ↓dn_skip, ↓dn_seq, ↓dn_set, ↓dn_inc, ↓dn_putf, ↓dn_putz, ↓dn_ast, ↓dn_exp, ↓dn_if, ↓dn_ret, ↓dn_retz, ↓dn_retv, ↓dn_brk, ↓dn_cont, ↓dn_cs, ↓dn_sw, ↓dn_pop32, ↓dn_pop64, ↓dn_aop, ↓dn_call, ↓dn_max, ↓dn_min, ↓dn_acp, ↓dn_i2l, ↓dn_args0, ↓dn_args1, og_pad, og_ent, og_rlt, og_rle, og_rgt, og_rge, og_req, og_rne, og_padd, og_psub, og_pmul, List.getD_cons_zero, List.getD_cons_succ, List.set_cons_zero, List.set_cons_succ, List.length_cons, List.length_nil, List.cons_append, List.nil_append, List.replicate, List.append_nil, Nat.reduceAdd, Nat.reduceSub, Nat.reduceEqDiff, if_true, if_false, reduceIte, Int.reduceAdd, Int.reduceSub, Int.reduceMul, Int.reduceNeg, Int.reduceLT, Int.reduceLE, Int.cast_ofNat_Int, true_or, or_true, true_and, and_true, false_and, List.mem_cons, List.not_mem_nil, or_false, false_or, ne_eq]
      rw [p4.1]
      have ec : imS A = ((imS A).toNat : Int) := by omega
      have mr := mxN_rg (imB A) (imS A).toNat
      have hmx : ∀ {K : Int → Hp → Prop}, K (mxN (imB A) (imS A).toNat) h4 → m_Model_checked [1073, imS A] h4 K := by
        intro K hK
        have := r_checked (h := h4) (a := 1073) (m := (imS A).toNat) (f := imB A) (K := K) (by rw [og_siz1073]; omega) (by omega) (fun j hj => ⟨by rw [p4.2.1 j (by omega) (by omega)]; exact fv _ (by omega), imB_rg ho (by omega) (by omega)⟩) hK
        rw [← ec] at this
        exact this
      refine hmx ?_
      refine r_writes p4 (by omega) (by rw [fs, if_neg (by omega)]) (fun h5 p5 => ?_)
      rw [p5.1]
      refine hK h5 (relM_pic ho hr p5.2.2 p5.1 (fun j a b => ?_))
      rw [p5.2.1 j a b, ← hf]
end
end
