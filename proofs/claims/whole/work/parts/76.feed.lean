section
-- feeding
def fArg (a b c d e i : Int) : Int := if i < 4 then a else if i < 8 then b else if i < 12 then c else if i < 16 then d else e
def fByte (a b c d e i : Int) : Int := og_bit og_oand (og_bit og_oshr (fArg a b c d e i) (8 * (3 - i % 4))) 255
theorem fByte_rg {a b c d e i : Int} : 0 ≤ fByte a b c d e i ∧ fByte a b c d e i ≤ 255 := by
  unfold fByte
  rw [and255]
  omega
def sFd (X : Yd) (a b c d e : Int) : Yd := fun c' k => if c' = 0 ∧ k = 1 then X 0 1 + 20 else if c' = 2 ∧ X 0 1 ≤ k then fByte a b c d e (k - X 0 1) else X c' k
theorem sFd_row {X : Yd} {a b c d e c' : Int} (h0 : c' ≠ 0) (h2 : c' ≠ 2) : sFd X a b c d e c' = X c' := by
  funext k
  unfold sFd
  rw [if_neg (fun z => h0 z.1), if_neg (fun z => h2 z.1)]
theorem sFd_0 {X : Yd} {a b c d e k : Int} (h : k ≠ 1) : sFd X a b c d e 0 k = X 0 k := by
  unfold sFd
  rw [if_neg (fun z => h z.2), if_neg (by omega)]
theorem sFd_1 {X : Yd} {a b c d e : Int} : sFd X a b c d e 0 1 = X 0 1 + 20 := by
  unfold sFd
  rw [if_pos ⟨rfl, rfl⟩]
theorem sFd_2 {X : Yd} {a b c d e k : Int} : sFd X a b c d e 2 k = if X 0 1 ≤ k then fByte a b c d e (k - X 0 1) else X 2 k := by
  unfold sFd
  rw [if_neg (by omega)]
  by_cases z : X 0 1 ≤ k
  · rw [if_pos ⟨rfl, z⟩, if_pos z]
  · rw [if_neg (fun y => z y.2), if_neg z]
section
variable {q h h0 h' : Hp} {A : Yd} {P : Pr} {U : List Yd} {X : Yd} {n M : Int} {K : Int → Hp → Prop} {a b c d e : Int}
theorem s_Tape_add {x t k : Int} {F : Int → Int} (hx : og_i32 x) (ht : h 1 1 = t + 4 * k) (h0 : 0 ≤ t ∧ 0 ≤ k) (h1 : t + 4 * k + 4 ≤ 1600) (hF : ∀ j : Nat, j < 4 → F (4 * k + j) = og_bit og_oand (og_bit og_oshr x (24 - 8 * (j : Int))) 255) (hp : ∀ j, 0 ≤ j → j < 4 * k → h 2 (t + j) = F j)
    (hK : ∀ h', h' 1 1 = t + 4 * (k + 1) → (∀ j, 0 ≤ j → j < 4 * (k + 1) → h' 2 (t + j) = F j) → (∀ i k', ¬ ((i = 1 ∧ k' = 1) ∨ (i = 2 ∧ t ≤ k')) → h' i k' = h i k') → K 0 h') : m_Tape_add [1, x] h K := by
  unfold m_Tape_add
  simp -implicitDefEqProofs only [↓dn_den, ↓dn_loc, ↓dn_k, ↓dn_add, ↓dn_sub, ↓dn_mul, ↓dn_div, ↓dn_rem, ↓dn_bop, ↓dn_ladd, ↓dn_lsub, ↓dn_lmul, ↓dn_ldiv, ↓dn_lrem, ↓dn_land, ↓dn_l2i, ↓dn_neg, ↓dn_get, ↓dn_fix, ↓dn_ald, ↓dn_gld, ↓dn_yld, ↓dn_len, ↓dn_gln, ↓dn_cc, ↓dn_cb, ↓dn_and, ↓dn_or, ↓dn_not, ↓dn_cite, ↓dn_ec, ↓dn_ei, ↓dn_skip, ↓dn_seq, ↓dn_set, ↓dn_inc, ↓dn_putf, ↓dn_putz, ↓dn_ast, ↓dn_exp, ↓dn_if, ↓dn_ret, ↓dn_retz, ↓dn_retv, ↓dn_brk, ↓dn_cont, ↓dn_cs, ↓dn_sw, ↓dn_pop32, ↓dn_pop64, ↓dn_aop, ↓dn_call, ↓dn_max, ↓dn_min, ↓dn_acp, ↓dn_i2l, ↓dn_args0, ↓dn_args1, og_pad, og_ent, og_rlt, og_rle, og_rgt, og_rge, og_req, og_rne, og_padd, og_psub, og_pmul, List.getD_cons_zero, List.getD_cons_succ, List.set_cons_zero, List.set_cons_succ, List.length_cons, List.length_nil, List.cons_append, List.nil_append, List.replicate, List.append_nil, Nat.reduceAdd, Nat.reduceSub, Nat.reduceEqDiff, if_true, if_false, reduceIte, Int.reduceAdd, Int.reduceSub, Int.reduceMul, Int.reduceNeg, Int.reduceLT, Int.reduceLE, Int.cast_ofNat_Int, true_or, or_true, true_and, and_true, false_and, List.mem_cons, List.not_mem_nil, or_false, false_or, ne_eq]
  refine og_loop 4 (fun i e1 h1 => e1 = [1, x, 24 - 8 * (i : Int)] ∧ h1 1 1 = t + 4 * k + i ∧ (∀ j, 0 ≤ j → j < 4 * k + i → h1 2 (t + j) = F j) ∧ (∀ i k', ¬ ((i = 1 ∧ k' = 1) ∨ (i = 2 ∧ t ≤ k')) → h1 i k' = h i k')) ⟨by simp, by rw [ht]; simp, fun j a b => hp j a (by omega), fun _ _ _ => rfl⟩ ?_
  rintro i e1 h1 hi ⟨rfl, hs, hv, hf⟩
  simp -implicitDefEqProofs only [↓dn_den, ↓dn_loc, ↓dn_k, ↓dn_add, ↓dn_sub, ↓dn_mul, ↓dn_div, ↓dn_rem, ↓dn_bop, ↓dn_ladd, ↓dn_lsub, ↓dn_lmul, ↓dn_ldiv, ↓dn_lrem, ↓dn_land, ↓dn_l2i, ↓dn_neg, ↓dn_get, ↓dn_fix, ↓dn_ald, ↓dn_gld, ↓dn_yld, ↓dn_len, ↓dn_gln, ↓dn_cc, ↓dn_cb, ↓dn_and, ↓dn_or, ↓dn_not, ↓dn_cite, ↓dn_ec, ↓dn_ei, ↓dn_skip, ↓dn_seq, ↓dn_set, ↓dn_inc, ↓dn_putf, ↓dn_putz, ↓dn_ast, ↓dn_exp, ↓dn_if, ↓dn_ret, ↓dn_retz, ↓dn_retv, ↓dn_brk, ↓dn_cont, ↓dn_cs, ↓dn_sw, ↓dn_pop32, ↓dn_pop64, ↓dn_aop, ↓dn_call, ↓dn_max, ↓dn_min, ↓dn_acp, ↓dn_i2l, ↓dn_args0, ↓dn_args1, og_pad, og_ent, og_rlt, og_rle, og_rgt, og_rge, og_req, og_rne, og_padd, og_psub, og_pmul, List.getD_cons_zero, List.getD_cons_succ, List.set_cons_zero, List.set_cons_succ, List.length_cons, List.length_nil, List.cons_append, List.nil_append, List.replicate, List.append_nil, Nat.reduceAdd, Nat.reduceSub, Nat.reduceEqDiff, if_true, if_false, reduceIte, Int.reduceAdd, Int.reduceSub, Int.reduceMul, Int.reduceNeg, Int.reduceLT, Int.reduceLE, Int.cast_ofNat_Int, true_or, or_true, true_and, and_true, false_and, List.mem_cons, List.not_mem_nil, or_false, false_or, ne_eq, og_i32]
  rw [hs]
  refine ⟨fun hge => ⟨fun hlt => ?_, fun hge2 => by omega⟩, fun hlt => ?_⟩
  · have es : (24 - 8 * (i : Int)) = ((24 - 8 * i : Nat) : Int) := by omega
    rw [og_up_i (by decide), hs]
    rw [es, feedB hx (by omega), ← es]
    repeat (refine And.intro (by omega) ?_)
    refine og_nx_mk (by omega) ⟨by simp; omega, by rw [og_up_eq]; simp; omega, fun j a b => ?_, fun a k' hak => ?_⟩
    · by_cases e : j = 4 * k + i
      · subst e
        rw [og_up_i (by decide)]
        have e2 : t + 4 * k + (i : Int) = t + (4 * k + (i : Int)) := by omega
        rw [e2, og_up_eq, hF i (by omega)]
      · rw [og_up_i (by decide), og_up_k (by omega)]; exact hv j a (by omega)
    · have e1 : ∀ v w : Int, og_up (og_up h1 2 (t + 4 * k + (i : Int)) v) 1 1 w a k' = h1 a k' := fun v w => by unfold og_up; rw [if_neg (by omega), if_neg (by omega)]
      rw [e1]
      exact hf a k' hak
  · have e : i = 4 := by omega
    subst e
    exact hK h1 (by rw [hs]; omega) (fun j a b => hv j a (by omega)) hf
theorem c_feed (ha : og_i32 a) (hb : og_i32 b) (hc : og_i32 c) (hd : og_i32 d) (he : og_i32 e) (hn : n ≤ 1000000) (hr : relC q h A P U X) (hx : okX n A P U X) (hK0 : 1600 < X 0 1 + 20 → ∀ h', relC q h' A P U (sRf X 0) → K (-1) h') (hK1 : ¬ 1600 < X 0 1 + 20 → ∀ h', relC q h' A P U (sFd X a b c d e) → K (X 0 1 + 20) h') : m_OG_feed [0, a, b, c, d, e] h K := by
  have e0 := hr.2.2.1.2.2.1.1
  have x1 := hx.2.2.2.2.1.1
  unfold m_OG_feed
  simp -implicitDefEqProofs only [↓dn_den, ↓dn_loc, ↓dn_k, ↓dn_add, ↓dn_sub, ↓dn_mul, ↓dn_div, ↓dn_rem, ↓dn_bop, ↓dn_ladd, ↓dn_lsub, ↓dn_lmul, ↓dn_ldiv, ↓dn_lrem, ↓dn_land, ↓dn_l2i, ↓dn_neg, ↓dn_get, ↓dn_fix, ↓dn_ald, ↓dn_gld, ↓dn_yld, ↓dn_len, ↓dn_gln, ↓dn_cc, ↓dn_cb, ↓dn_and, ↓dn_or, ↓dn_not, ↓dn_cite, ↓dn_ec, ↓dn_ei, ↓dn_skip, ↓dn_seq, ↓dn_set, ↓dn_inc, ↓dn_putf, ↓dn_putz, ↓dn_ast, ↓dn_exp, ↓dn_if, ↓dn_ret, ↓dn_retz, ↓dn_retv, ↓dn_brk, ↓dn_cont, ↓dn_cs, ↓dn_sw, ↓dn_pop32, ↓dn_pop64, ↓dn_aop, ↓dn_call, ↓dn_max, ↓dn_min, ↓dn_acp, ↓dn_i2l, ↓dn_args0, ↓dn_args1, og_pad, og_ent, og_rlt, og_rle, og_rgt, og_rge, og_req, og_rne, og_padd, og_psub, og_pmul, List.getD_cons_zero, List.getD_cons_succ, List.set_cons_zero, List.set_cons_succ, List.length_cons, List.length_nil, List.cons_append, List.nil_append, List.replicate, List.append_nil, Nat.reduceAdd, Nat.reduceSub, Nat.reduceEqDiff, if_true, if_false, reduceIte, Int.reduceAdd, Int.reduceSub, Int.reduceMul, Int.reduceNeg, Int.reduceLT, Int.reduceLE, Int.cast_ofNat_Int, true_or, or_true, true_and, and_true, false_and, List.mem_cons, List.not_mem_nil, or_false, false_or, ne_eq, og_i32]
  rw [e0]
  refine ⟨by omega, fun z => c_refuse (by decide) hn hr hx (hK0 z), fun z => ?_⟩
  have idx : ∀ (k : Int) (j : Nat), j < 4 → 8 * (3 - (4 * k + (j : Int)) % 4) = 24 - 8 * (j : Int) := fun k j hj => by omega
  refine s_Tape_add (t := X 0 1) (k := 0) (F := fByte a b c d e) ha (by rw [e0]; simp) (by omega) (by omega) (fun j hj => by unfold fByte fArg; rw [if_pos (by omega), idx 0 j hj]) (fun j a b => by omega) (fun h1 s1 v1 f1 => ?_)
  refine s_Tape_add (t := X 0 1) (k := 1) (F := fByte a b c d e) hb (by rw [s1]; omega) (by omega) (by omega) (fun j hj => by unfold fByte fArg; rw [if_neg (by omega), if_pos (by omega), idx 1 j hj]) (fun j a b => v1 j a (by omega)) (fun h2 s2 v2 f2 => ?_)
  refine s_Tape_add (t := X 0 1) (k := 2) (F := fByte a b c d e) hc (by rw [s2]; omega) (by omega) (by omega) (fun j hj => by unfold fByte fArg; rw [if_neg (by omega), if_neg (by omega), if_pos (by omega), idx 2 j hj]) (fun j a b => v2 j a (by omega)) (fun h3 s3 v3 f3 => ?_)
  refine s_Tape_add (t := X 0 1) (k := 3) (F := fByte a b c d e) hd (by rw [s3]; omega) (by omega) (by omega) (fun j hj => by unfold fByte fArg; rw [if_neg (by omega), if_neg (by omega), if_neg (by omega), if_pos (by omega), idx 3 j hj]) (fun j a b => v3 j a (by omega)) (fun h4 s4 v4 f4 => ?_)
  refine s_Tape_add (t := X 0 1) (k := 4) (F := fByte a b c d e) he (by rw [s4]; omega) (by omega) (by omega) (fun j hj => by unfold fByte fArg; rw [if_neg (by omega), if_neg (by omega), if_neg (by omega), if_neg (by omega), idx 4 j hj]) (fun j a b => v4 j a (by omega)) (fun h5 s5 v5 f5 => ?_)
  have hf : ∀ i k', ¬ ((i = 1 ∧ k' = 1) ∨ (i = 2 ∧ X 0 1 ≤ k')) → h5 i k' = h i k' := fun i k' hi => by rw [f5 i k' hi, f4 i k' hi, f3 i k' hi, f2 i k' hi, f1 i k' hi]
  rw [s5]
  have e5 : X 0 1 + 4 * (4 + 1) = X 0 1 + 20 := by omega
  rw [e5]
  obtain ⟨y, p, r, f⟩ := hr
  refine hK1 z h5 ⟨isY_fr y (fun i k a b => hf i k (by omega)), pastC_fr p (fun i k hi => hf i k (by omega)), ?_, fun i k hi => (hf i k (by omega)).trans (f i k hi)⟩
  refine restC_new r (fun i k hi => hf i k (by omega)) (fun j => by rw [sFd_row (by decide) (by decide)]) ?_ ?_ ?_ ?_ ?_
  · simp (disch := decide) only [sFd_row, sFd_0, sFd_1]; exact ⟨by rw [hf _ _ (by omega)]; exact r.2.1.1, fun j a b => by rw [hf _ _ (by omega)]; exact r.2.1.2 j a b⟩
  · rw [sFd_1]
    refine ⟨by rw [s5]; omega, fun j a b => ?_⟩
    rw [sFd_2]
    by_cases zj : X 0 1 ≤ j
    · rw [if_pos zj]
      have := v5 (j - X 0 1) (by omega) (by omega)
      have ej : X 0 1 + (j - X 0 1) = j := by omega
      rw [ej] at this
      exact this
    · rw [if_neg zj, hf _ _ (by omega)]; exact r.2.2.1.2 j a (by omega)
  · intro k a b; rw [sFd_row (by decide) (by decide), hf _ _ (by omega)]; exact r.2.2.2.1 k a b
  · rw [sFd_0 (by decide), sFd_0 (by decide), sFd_0 (by decide), hf _ _ (by omega), hf _ _ (by omega), hf _ _ (by omega)]; exact r.2.2.2.2.1
  · simp (disch := decide) only [sFd_row, sFd_0, sFd_1]; exact ⟨by rw [hf _ _ (by omega)]; exact r.2.2.2.2.2.1.1, fun j a b => by rw [hf _ _ (by omega)]; exact r.2.2.2.2.2.1.2 j a b⟩
theorem m_feed (hn : n ≤ 1000000) (hr : relM q h M A P U X) (hx : okX n A P U X) (hK0 : 1600 < X 0 1 + 20 → ∀ h', relM q h' M A P U (sRf X 0) → K (-1) h') (hK1 : ¬ 1600 < X 0 1 + 20 → ∀ h', relM q h' M A P U (sFd X a b c d e) → K (X 0 1 + 20) h') : m_Model_feed [1000, a, b, c, d, e] h K := by
  have e0 := hr.2.2.1.2.2.1.1
  have x1 := hx.2.2.2.2.1.1
  have e1 := m_rfE (j := 0) (by decide) hn hr hx
  unfold m_Model_feed
  simp -implicitDefEqProofs only [↓dn_den, ↓dn_loc, ↓dn_k, ↓dn_add, ↓dn_sub, ↓dn_mul, ↓dn_div, ↓dn_rem, ↓dn_bop, ↓dn_ladd, ↓dn_lsub, ↓dn_lmul, ↓dn_ldiv, ↓dn_lrem, ↓dn_land, ↓dn_l2i, ↓dn_neg, ↓dn_get, ↓dn_fix, ↓dn_ald, ↓dn_gld, ↓dn_yld, ↓dn_len, ↓dn_gln, ↓dn_cc, ↓dn_cb, ↓dn_and, ↓dn_or, ↓dn_not, ↓dn_cite, ↓dn_ec, ↓dn_ei, ↓dn_skip, ↓dn_seq, ↓dn_set, ↓dn_inc, ↓dn_putf, ↓dn_putz, ↓dn_ast, ↓dn_exp, ↓dn_if, ↓dn_ret, ↓dn_retz, ↓dn_retv, ↓dn_brk, ↓dn_cont, ↓dn_cs, ↓dn_sw, ↓dn_pop32, ↓dn_pop64, ↓dn_aop, ↓dn_call, ↓dn_max, ↓dn_min, ↓dn_acp, ↓dn_i2l, ↓dn_args0, ↓dn_args1, og_pad, og_ent, og_rlt, og_rle, og_rgt, og_rge, og_req, og_rne, og_padd, og_psub, og_pmul, List.getD_cons_zero, List.getD_cons_succ, List.set_cons_zero, List.set_cons_succ, List.length_cons, List.length_nil, List.cons_append, List.nil_append, List.replicate, List.append_nil, Nat.reduceAdd, Nat.reduceSub, Nat.reduceEqDiff, if_true, if_false, reduceIte, Int.reduceAdd, Int.reduceSub, Int.reduceMul, Int.reduceNeg, Int.reduceLT, Int.reduceLE, Int.cast_ofNat_Int, true_or, or_true, true_and, and_true, false_and, List.mem_cons, List.not_mem_nil, or_false, false_or, ne_eq, og_i32]
  rw [e0, e1.1]
  refine ⟨by omega, fun z => ?_, fun z => ?_⟩
  · repeat (refine And.intro (by omega) ?_)
    exact hK0 z _ (relM_rf hx.1.1 hr)
  refine ⟨fun e2 h2 => (∃ c6 c7, e2 = [1000, a, b, c, d, e, c6, c7]) ∧ h2 1000 1 = X 0 1 + 20 ∧ (∀ j, 0 ≤ j → j < 20 → h2 1001 (X 0 1 + j) = fByte a b c d e j) ∧ (∀ i k', ¬ ((i = 1000 ∧ k' = 1) ∨ (i = 1001 ∧ X 0 1 ≤ k')) → h2 i k' = h i k'), ?_, ?_⟩
  · simp -implicitDefEqProofs only [↓dn_den, ↓dn_loc, ↓dn_k, ↓dn_add, ↓dn_sub, ↓dn_mul, ↓dn_div, ↓dn_rem, ↓dn_bop, ↓dn_ladd, ↓dn_lsub, ↓dn_lmul, ↓dn_ldiv, ↓dn_lrem, ↓dn_land, ↓dn_l2i, ↓dn_neg, ↓dn_get, ↓dn_fix, ↓dn_ald, ↓dn_gld, ↓dn_yld, ↓dn_len, ↓dn_gln, ↓dn_cc, ↓dn_cb, ↓dn_and, ↓dn_or, ↓dn_not, ↓dn_cite, ↓dn_ec, ↓dn_ei, ↓dn_skip, ↓dn_seq, ↓dn_set, ↓dn_inc, ↓dn_putf, ↓dn_putz, ↓dn_ast, ↓dn_exp, ↓dn_if, ↓dn_ret, ↓dn_retz, ↓dn_retv, ↓dn_brk, ↓dn_cont, ↓dn_cs, ↓dn_sw, ↓dn_pop32, ↓dn_pop64, ↓dn_aop, ↓dn_call, ↓dn_max, ↓dn_min, ↓dn_acp, ↓dn_i2l, ↓dn_args0, ↓dn_args1, og_pad, og_ent, og_rlt, og_rle, og_rgt, og_rge, og_req, og_rne, og_padd, og_psub, og_pmul, List.getD_cons_zero, List.getD_cons_succ, List.set_cons_zero, List.set_cons_succ, List.length_cons, List.length_nil, List.cons_append, List.nil_append, List.replicate, List.append_nil, Nat.reduceAdd, Nat.reduceSub, Nat.reduceEqDiff, if_true, if_false, reduceIte, Int.reduceAdd, Int.reduceSub, Int.reduceMul, Int.reduceNeg, Int.reduceLT, Int.reduceLE, Int.cast_ofNat_Int, true_or, or_true, true_and, and_true, false_and, List.mem_cons, List.not_mem_nil, or_false, false_or, ne_eq]
    refine og_loop 20 (fun i e2 h2 => (∃ c7, e2 = [1000, a, b, c, d, e, (i : Int), c7]) ∧ h2 1000 1 = X 0 1 + i ∧ (∀ j : Int, 0 ≤ j → j < i → h2 1001 (X 0 1 + j) = fByte a b c d e j) ∧ (∀ i k', ¬ ((i = 1000 ∧ k' = 1) ∨ (i = 1001 ∧ X 0 1 ≤ k')) → h2 i k' = h i k')) ⟨⟨0, rfl⟩, by rw [e0]; simp, fun j a b => by omega, fun _ _ _ => rfl⟩ ?_
    rintro i e2 h2 hi ⟨⟨c7, rfl⟩, hs, hv, hf⟩
    simp -implicitDefEqProofs only [↓dn_den, ↓dn_loc, ↓dn_k, ↓dn_add, ↓dn_sub, ↓dn_mul, ↓dn_div, ↓dn_rem, ↓dn_bop, ↓dn_ladd, ↓dn_lsub, ↓dn_lmul, ↓dn_ldiv, ↓dn_lrem, ↓dn_land, ↓dn_l2i, ↓dn_neg, ↓dn_get, ↓dn_fix, ↓dn_ald, ↓dn_gld, ↓dn_yld, ↓dn_len, ↓dn_gln, ↓dn_cc, ↓dn_cb, ↓dn_and, ↓dn_or, ↓dn_not, ↓dn_cite, ↓dn_ec, ↓dn_ei, ↓dn_skip, ↓dn_seq, ↓dn_set, ↓dn_inc, ↓dn_putf, ↓dn_putz, ↓dn_ast, ↓dn_exp, ↓dn_if, ↓dn_ret, ↓dn_retz, ↓dn_retv, ↓dn_brk, ↓dn_cont, ↓dn_cs, ↓dn_sw, ↓dn_pop32, ↓dn_pop64, ↓dn_aop, ↓dn_call, ↓dn_max, ↓dn_min, ↓dn_acp, ↓dn_i2l, ↓dn_args0, ↓dn_args1, og_pad, og_ent, og_rlt, og_rle, og_rgt, og_rge, og_req, og_rne, og_padd, og_psub, og_pmul, List.getD_cons_zero, List.getD_cons_succ, List.set_cons_zero, List.set_cons_succ, List.length_cons, List.length_nil, List.cons_append, List.nil_append, List.replicate, List.append_nil, Nat.reduceAdd, Nat.reduceSub, Nat.reduceEqDiff, if_true, if_false, reduceIte, Int.reduceAdd, Int.reduceSub, Int.reduceMul, Int.reduceNeg, Int.reduceLT, Int.reduceLE, Int.cast_ofNat_Int, true_or, or_true, true_and, and_true, false_and, List.mem_cons, List.not_mem_nil, or_false, false_or, ne_eq, og_i32]
    rw [hs]
    refine ⟨fun hlt => ?_, fun hge => ?_⟩
    · have em : (i : Int).tmod 4 = (i : Int) % 4 := Int.tmod_eq_emod_of_nonneg (by omega)
      rw [em]
      have fin : ∀ v : Int, v = fArg a b c d e i → (-2147483648 ≤ 3 - (i : Int) % 4 ∧ 3 - (i : Int) % 4 ≤ 2147483647) ∧ (-2147483648 ≤ 8 * (3 - (i : Int) % 4) ∧ 8 * (3 - (i : Int) % 4) ≤ 2147483647) ∧ 0 ≤ X 0 1 + (i : Int) ∧ X 0 1 + (i : Int) < 1600 ∧ (-2147483648 ≤ og_up h2 1001 (X 0 1 + (i : Int)) (og_bit og_oand (og_bit og_oshr v (8 * (3 - (i : Int) % 4))) 255) 1000 1 + 1 ∧ og_up h2 1001 (X 0 1 + (i : Int)) (og_bit og_oand (og_bit og_oshr v (8 * (3 - (i : Int) % 4))) 255) 1000 1 + 1 ≤ 2147483647) ∧ (-2147483648 ≤ (i : Int) + 1 ∧ (i : Int) + 1 ≤ 2147483647) ∧ og_nx 20 (fun i e2 h2 => (∃ c7, e2 = [1000, a, b, c, d, e, (i : Int), c7]) ∧ h2 1000 1 = X 0 1 + i ∧ (∀ j : Int, 0 ≤ j → j < i → h2 1001 (X 0 1 + j) = fByte a b c d e j) ∧ (∀ i k', ¬ ((i = 1000 ∧ k' = 1) ∨ (i = 1001 ∧ X 0 1 ≤ k')) → h2 i k' = h i k')) i [1000, a, b, c, d, e, (i : Int) + 1, v] (og_up (og_up h2 1001 (X 0 1 + (i : Int)) (og_bit og_oand (og_bit og_oshr v (8 * (3 - (i : Int) % 4))) 255)) 1000 1 (og_up h2 1001 (X 0 1 + (i : Int)) (og_bit og_oand (og_bit og_oshr v (8 * (3 - (i : Int) % 4))) 255) 1000 1 + 1)) := by
        intro v hv'
        have e5 : og_up h2 1001 (X 0 1 + (i : Int)) (og_bit og_oand (og_bit og_oshr v (8 * (3 - (i : Int) % 4))) 255) 1000 1 = X 0 1 + i := by rw [og_up_i (by decide)]; exact hs
        rw [e5]
        repeat (refine And.intro (by omega) ?_)
        refine og_nx_mk (by omega) ⟨⟨v, by simp⟩, by rw [og_up_eq]; simp; omega, fun j a' b' => ?_, fun j k' hjk => ?_⟩
        · by_cases e : j = i
          · subst e
            rw [og_up_i (by decide), og_up_eq, hv']
            rfl
          · rw [og_up_i (by decide), og_up_k (by omega)]; exact hv j a' (by omega)
        · have e6 : ∀ w x : Int, og_up (og_up h2 1001 (X 0 1 + (i : Int)) w) 1000 1 x j k' = h2 j k' := fun w x => by unfold og_up; rw [if_neg (by omega), if_neg (by omega)]
          rw [e6]
          exact hf j k' hjk
      refine ⟨fun c1 => ?_, fun c1 => ⟨fun c2 => ?_, fun c2 => ⟨fun c3 => ?_, fun c3 => ⟨fun c4 => ?_, fun c4 => ?_⟩⟩⟩⟩
      · exact ⟨by decide, fin a (by unfold fArg; rw [if_pos c1])⟩
      · exact ⟨by decide, fin b (by unfold fArg; rw [if_neg c1, if_pos c2])⟩
      · exact ⟨by decide, fin c (by unfold fArg; rw [if_neg c1, if_neg c2, if_pos c3])⟩
      · exact ⟨by decide, fin d (by unfold fArg; rw [if_neg c1, if_neg c2, if_neg c3, if_pos c4])⟩
      · exact ⟨by decide, fin e (by unfold fArg; rw [if_neg c1, if_neg c2, if_neg c3, if_neg c4])⟩
    · have e : i = 20 := by omega
      subst e
      exact ⟨⟨_, _, rfl⟩, by first | rfl | (rw [hs]; rfl), hv, hf⟩
  · rintro e2 h2 ⟨⟨c6, c7, rfl⟩, hs, hv, hf⟩
    simp -implicitDefEqProofs only [↓dn_den, ↓dn_loc, ↓dn_k, ↓dn_add, ↓dn_sub, ↓dn_mul, ↓dn_div, ↓dn_rem, ↓dn_bop, ↓dn_ladd, ↓dn_lsub, ↓dn_lmul, ↓dn_ldiv, ↓dn_lrem, ↓dn_land, ↓dn_l2i, ↓dn_neg, ↓dn_get, ↓dn_fix, ↓dn_ald, ↓dn_gld, ↓dn_yld, ↓dn_len, ↓dn_gln, ↓dn_cc, ↓dn_cb, ↓dn_and, ↓dn_or, ↓dn_not, ↓dn_cite, ↓dn_ec, ↓dn_ei, ↓dn_skip, ↓dn_seq, ↓dn_set, ↓dn_inc, ↓dn_putf, ↓dn_putz, ↓dn_ast, ↓dn_exp, ↓dn_if, ↓dn_ret, ↓dn_retz, ↓dn_retv, ↓dn_brk, ↓dn_cont, ↓dn_cs, ↓dn_sw, ↓dn_pop32, ↓dn_pop64, ↓dn_aop, ↓dn_call, ↓dn_max, ↓dn_min, ↓dn_acp, ↓dn_i2l, ↓dn_args0, ↓dn_args1, og_pad, og_ent, og_rlt, og_rle, og_rgt, og_rge, og_req, og_rne, og_padd, og_psub, og_pmul, List.getD_cons_zero, List.getD_cons_succ, List.set_cons_zero, List.set_cons_succ, List.length_cons, List.length_nil, List.cons_append, List.nil_append, List.replicate, List.append_nil, Nat.reduceAdd, Nat.reduceSub, Nat.reduceEqDiff, if_true, if_false, reduceIte, Int.reduceAdd, Int.reduceSub, Int.reduceMul, Int.reduceNeg, Int.reduceLT, Int.reduceLE, Int.cast_ofNat_Int, true_or, or_true, true_and, and_true, false_and, List.mem_cons, List.not_mem_nil, or_false, false_or, ne_eq]
    rw [hs]
    obtain ⟨⟨y, z1, t⟩, p, r, f⟩ := hr
    have z' : h2 1000 53 = 0 := (hf _ _ (by omega)).trans z1
    refine hK1 z h2 ⟨⟨isN_fr y hx.1.1 z1 z' (fun i k hi => hf i k (by omega)), z', by unfold tmB; rw [hf _ _ (by omega)]; exact t⟩, pastM_fr p (fun i k hi => hf i k (by omega)), ?_, fun i k hi => (hf i k (by omega)).trans (f i k hi)⟩
    refine restM_new r (fun i k hi => hf i k (by omega)) (fun j => by rw [sFd_row (by decide) (by decide)]) ?_ ?_ ?_ ?_ ?_
    · simp (disch := decide) only [sFd_row, sFd_0, sFd_1]; exact ⟨by rw [hf _ _ (by omega)]; exact r.2.1.1, fun j a b => by rw [hf _ _ (by omega)]; exact r.2.1.2 j a b⟩
    · rw [sFd_1]
      refine ⟨hs, fun j a b => ?_⟩
      rw [sFd_2]
      by_cases zj : X 0 1 ≤ j
      · rw [if_pos zj]
        have := hv (j - X 0 1) (by omega) (by omega)
        have ej : X 0 1 + (j - X 0 1) = j := by omega
        rw [ej] at this
        exact this
      · rw [if_neg zj, hf _ _ (by omega)]; exact r.2.2.1.2 j a (by omega)
    · intro k a b; rw [sFd_row (by decide) (by decide), hf _ _ (by omega)]; exact r.2.2.2.1 k a b
    · rw [sFd_0 (by decide), sFd_0 (by decide), sFd_0 (by decide), hf _ _ (by omega), hf _ _ (by omega), hf _ _ (by omega)]; exact r.2.2.2.2.1
    · simp (disch := decide) only [sFd_row, sFd_0, sFd_1]; exact ⟨by rw [hf _ _ (by omega)]; exact r.2.2.2.2.2.1.1, fun j a b => by rw [hf _ _ (by omega)]; exact r.2.2.2.2.2.1.2 j a b⟩
end
end
