section
-- months with draws
theorem lbit31 {x : Int} (h0 : 0 ≤ x) (h1 : x < 9223372036854775808) : og_lbit x 2147483647 = x % 2147483648 := by
  obtain ⟨n, rfl⟩ := Int.eq_ofNat_of_zero_le h0
  unfold og_lbit
  show (Int64.ofInt (n : Int) &&& Int64.ofInt 2147483647).toBitVec.toInt = _
  rw [Int64.toBitVec_and, Int64.toBitVec_ofInt, Int64.toBitVec_ofInt]
  have e1 : (BitVec.ofInt 64 (n : Int)).toNat = n := by rw [BitVec.toNat_ofInt]; omega
  have e2 : (BitVec.ofInt 64 (2147483647 : Int)).toNat = 2147483647 := by decide
  have e3 : (BitVec.ofInt 64 (n : Int) &&& BitVec.ofInt 64 2147483647).toNat = n % 2147483648 := by
    rw [BitVec.toNat_and, e1, e2]
    exact Nat.and_two_pow_sub_one_eq_mod n 31
  rw [BitVec.toInt_eq_toNat_of_lt (by rw [e3]; omega), e3]
  omega
def drw (l : Int) : Int := (1103515245 * l + 12345) % 2147483648
theorem drw_rg (l : Int) : 0 ≤ drw l ∧ drw l ≤ 2147483647 := by unfold drw; omega
abbrev ChS : Type := Yd × Int × Int
def sCh1 (P : Pr) (s : ChS) (p : Int) : ChS := if sLive s.1 p = true then (if drw s.2.1 / 64 % 100 < sCut (sVal (P 8) s.1 p 0) 100 then (sBury s.1 p (sNext s.1 p (sNg s.1)) 2, drw s.2.1, s.2.2 + 1) else (s.1, drw s.2.1, s.2.2)) else s
def sChP (P : Pr) (s : ChS) : Nat → ChS
  | 0 => s
  | n + 1 => sCh1 P (sChP P s n) (n : Int)
def sChM (P : Pr) (s : ChS) : Nat → ChS
  | 0 => s
  | n + 1 => (sPass P (sChP P (sChM P s n) (sNp s.1)).1, (sChP P (sChM P s n) (sNp s.1)).2)
theorem sChP_s (P : Pr) (s : ChS) (n : Nat) : sChP P s (n + 1) = sCh1 P (sChP P s n) (n : Int) := rfl
theorem sChM_s (P : Pr) (s : ChS) (n : Nat) : sChM P s (n + 1) = (sPass P (sChP P (sChM P s n) (sNp s.1)).1, (sChP P (sChM P s n) (sNp s.1)).2) := rfl
def chI (A : Yd) (m d : Int) (s : ChS) : Prop := okY s.1 ∧ okK s.1 ∧ (s.1 0 0 = A 0 0 ∧ s.1 0 1 = A 0 1 ∧ s.1 0 2 = m) ∧ (∀ k, s.1 1 k = A 1 k ∧ s.1 5 k = A 5 k) ∧ (0 ≤ s.2.1 ∧ s.2.1 ≤ 2147483647) ∧ 0 ≤ s.2.2 ∧ s.2.2 ≤ d
theorem chI_1 {P : Pr} {A : Yd} {m d p : Int} {s : ChS} (hp : 0 ≤ p ∧ p < A 0 1) (h : chI A m d s) : chI A m (d + 1) (sCh1 P s p) := by
  obtain ⟨a, b, ⟨c0, c1, c2⟩, e, l, f⟩ := h
  have dr := drw_rg s.2.1
  unfold sCh1
  split
  · rename_i hl
    split
    · have sb := sameB_bury (A := s.1) (p := p) (g := sNext s.1 p (sNg s.1)) (how := 2)
      exact ⟨okY_bury a hp.1 (by omega), okK_bury a b hp.1 (by omega) hl, ⟨sb.1.trans c0, sb.2.1.trans c1, sb.2.2.1.trans c2⟩, fun k => ⟨(sb.2.2.2 1 k (by decide) (by decide) (by decide) (by decide)).trans (e k).1, (sb.2.2.2 5 k (by decide) (by decide) (by decide) (by decide)).trans (e k).2⟩, dr, by show 0 ≤ s.2.2 + 1; omega, by show s.2.2 + 1 ≤ d + 1; omega⟩
    · exact ⟨a, b, ⟨c0, c1, c2⟩, e, dr, f.1, by show s.2.2 ≤ d + 1; omega⟩
  · exact ⟨a, b, ⟨c0, c1, c2⟩, e, l, f.1, by omega⟩
theorem chI_P {P : Pr} {A : Yd} {m d : Int} {s : ChS} (h : chI A m d s) : ∀ n : Nat, (n : Int) ≤ A 0 1 → chI A m (d + n) (sChP P s n)
  | 0, _ => by
    have : d + ((0 : Nat) : Int) = d := by omega
    rw [this]; exact h
  | n + 1, hn => by
    have ih := chI_P (P := P) h n (by omega)
    have e : d + ((n + 1 : Nat) : Int) = d + n + 1 := by omega
    rw [e]
    exact chI_1 ⟨by omega, by omega⟩ ih
theorem chI_M {P : Pr} {A : Yd} {s : ChS} (ho : okY A) (hs : sNp s.1 = sNp A) (h : chI A (A 0 2) 0 s) : ∀ n : Nat, A 0 2 + n ≤ 1999 → chI A (A 0 2 + n) (8 * n) (sChM P s n)
  | 0, _ => by
    have e : A 0 2 + ((0 : Nat) : Int) = A 0 2 := by omega
    have e2 : 8 * ((0 : Nat) : Int) = 0 := by omega
    rw [e, e2]; exact h
  | n + 1, hn => by
    have h6 := ho.1
    have hnp : sNp A = (A 0 1).toNat := rfl
    have ih := chI_P (P := P) (chI_M (P := P) ho hs h n (by omega)) (sNp A) (by omega)
    rw [sChM_s, hs]
    obtain ⟨a, b, ⟨c0, c1, c2⟩, e, l, f⟩ := ih
    have p0 := sPass_0 (P := P) (A := (sChP P (sChM P s n) (sNp A)).1)
    exact ⟨okY_pass a (by omega), okK_pass a b, ⟨p0.1.trans c0, p0.2.1.trans c1, by show sPass P _ 0 2 = _; rw [p0.2.2, c2]; omega⟩, fun k => ⟨(sPass_c (P := P) (k := k)).1.trans (e k).1, (sPass_c (P := P) (k := k)).2.1.trans (e k).2⟩, l, f.1, by show (sChP P (sChM P s n) (sNp A)).2.2 ≤ _; omega⟩
section
variable {q h h' : Hp} {A B : Yd} {P : Pr} {U : List Yd} {X : Yd} {n M : Int} {K : Int → Hp → Prop}
theorem c_drawOfHundred {l : Int} (hl : h 0 12 = l) (hr : 0 ≤ l ∧ l ≤ 2147483647) (hK : K (drw l / 64 % 100) (og_up h 0 12 (drw l))) : m_OG_drawOfHundred [0] h K := by
  have dr := drw_rg l
  unfold m_OG_drawOfHundred
  simp -implicitDefEqProofs only [↓dn_den, ↓dn_loc, ↓dn_k, ↓dn_add, ↓dn_sub, ↓dn_mul, ↓dn_div, ↓dn_rem, ↓dn_bop, ↓dn_ladd, ↓dn_lsub, ↓dn_lmul, ↓dn_ldiv, ↓dn_lrem, ↓dn_land, ↓dn_l2i, ↓dn_neg, ↓dn_get, ↓dn_fix, ↓dn_ald, ↓dn_gld, ↓dn_yld, ↓dn_len, ↓dn_gln, ↓dn_cc, ↓dn_cb, ↓dn_and, ↓dn_or, ↓dn_not, ↓dn_cite, ↓dn_ec, ↓dn_ei, ↓dn_skip, ↓dn_seq, ↓dn_set, ↓dn_inc, ↓dn_putf, ↓dn_putz, ↓dn_ast, ↓dn_exp, ↓dn_if, ↓dn_ret, ↓dn_retz, ↓dn_retv, ↓dn_brk, ↓dn_cont, ↓dn_cs, ↓dn_sw, ↓dn_pop32, ↓dn_pop64, ↓dn_aop, ↓dn_call, ↓dn_max, ↓dn_min, ↓dn_acp, ↓dn_i2l, ↓dn_args0, ↓dn_args1, og_pad, og_ent, og_rlt, og_rle, og_rgt, og_rge, og_req, og_rne, og_padd, og_psub, og_pmul, List.getD_cons_zero, List.getD_cons_succ, List.set_cons_zero, List.set_cons_succ, List.length_cons, List.length_nil, List.cons_append, List.nil_append, List.replicate, List.append_nil, Nat.reduceAdd, Nat.reduceSub, Nat.reduceEqDiff, if_true, if_false, reduceIte, Int.reduceAdd, Int.reduceSub, Int.reduceMul, Int.reduceNeg, Int.reduceLT, Int.reduceLE, Int.cast_ofNat_Int, true_or, or_true, true_and, and_true, false_and, List.mem_cons, List.not_mem_nil, or_false, false_or, ne_eq, og_i32, og_i64]
  rw [hl, lbit31 (by omega) (by omega)]
  have e : (1103515245 * l + 12345) % 2147483648 = drw l := rfl
  rw [e, og_up_eq]
  have e2 : (drw l).tdiv 64 = drw l / 64 := Int.tdiv_eq_ediv_of_nonneg dr.1
  have e3 : (drw l / 64).tmod 100 = drw l / 64 % 100 := Int.tmod_eq_emod_of_nonneg (by omega)
  rw [e2, e3]
  repeat (refine And.intro (by omega) ?_)
  first | exact hK | exact ⟨by decide, by omega, by decide, hK⟩ | exact ⟨by decide, hK⟩
theorem r_drawOf {l : Int} (hl : h 1000 67 = l) (hr : 0 ≤ l ∧ l ≤ 2147483647) (hK : K (drw l / 64 % 100) (og_up h 1000 67 (drw l))) : m_Model_drawOf [1000, 100] h K := by
  have dr := drw_rg l
  unfold m_Model_drawOf
  simp -implicitDefEqProofs only [↓dn_den, ↓dn_loc, ↓dn_k, ↓dn_add, ↓dn_sub, ↓dn_mul, ↓dn_div, ↓dn_rem, ↓dn_bop, ↓dn_ladd, ↓dn_lsub, ↓dn_lmul, ↓dn_ldiv, ↓dn_lrem, ↓dn_land, ↓dn_l2i, ↓dn_neg, ↓dn_get, ↓dn_fix, ↓dn_ald, ↓dn_gld, ↓dn_yld, ↓dn_len, ↓dn_gln, ↓dn_cc, ↓dn_cb, ↓dn_and, ↓dn_or, ↓dn_not, ↓dn_cite, ↓dn_ec, ↓dn_ei, ↓dn_skip, ↓dn_seq, ↓dn_set, ↓dn_inc, ↓dn_putf, ↓dn_putz, ↓dn_ast, ↓dn_exp, ↓dn_if, ↓dn_ret, ↓dn_retz, ↓dn_retv, ↓dn_brk, ↓dn_cont, ↓dn_cs, ↓dn_sw, ↓dn_pop32, ↓dn_pop64, ↓dn_aop, ↓dn_call, ↓dn_max, ↓dn_min, ↓dn_acp, ↓dn_i2l, ↓dn_args0, ↓dn_args1, og_pad, og_ent, og_rlt, og_rle, og_rgt, og_rge, og_req, og_rne, og_padd, og_psub, og_pmul, List.getD_cons_zero, List.getD_cons_succ, List.set_cons_zero, List.set_cons_succ, List.length_cons, List.length_nil, List.cons_append, List.nil_append, List.replicate, List.append_nil, Nat.reduceAdd, Nat.reduceSub, Nat.reduceEqDiff, if_true, if_false, reduceIte, Int.reduceAdd, Int.reduceSub, Int.reduceMul, Int.reduceNeg, Int.reduceLT, Int.reduceLE, Int.cast_ofNat_Int, true_or, or_true, true_and, and_true, false_and, List.mem_cons, List.not_mem_nil, or_false, false_or, ne_eq, og_i32, og_i64]
  rw [hl]
  have e0 : (1103515245 * l + 12345).tmod 2147483648 = drw l := Int.tmod_eq_emod_of_nonneg (by omega)
  rw [e0, og_up_eq]
  have e2 : (drw l).tdiv 64 = drw l / 64 := Int.tdiv_eq_ediv_of_nonneg dr.1
  have e3 : (drw l / 64).tmod 100 = drw l / 64 % 100 := Int.tmod_eq_emod_of_nonneg (by omega)
  rw [e2, e3]
  repeat (refine And.intro (by omega) ?_)
  first | exact hK | exact ⟨by decide, by omega, by decide, hK⟩ | exact ⟨by decide, hK⟩
theorem c_drawDeaths {m d l : Int} (hA : okY A) (hc : isC h B P) (hP : okP P) (hl : h 0 12 = l) (hI : chI A m d (B, l, 0))
    (hK : ∀ h', isY h' 100 (sChP P (B, l, 0) (sNp A)).1 → h' 0 12 = (sChP P (B, l, 0) (sNp A)).2.1 → (∀ i k, ¬ (i = 7 ∨ i = 9 ∨ (100 ≤ i ∧ i ≤ 109) ∨ (i = 0 ∧ k = 12)) → h' i k = h i k) → K (sChP P (B, l, 0) (sNp A)).2.2 h') : m_OG_drawDeaths [0] h K := by
  have h6 := hA.1
  have hnp : sNp A = (A 0 1).toNat := rfl
  have ht := hc.2.1
  unfold toldOK at ht
  have hI0 : chI A m 0 (B, l, 0) := ⟨hI.1, hI.2.1, hI.2.2.1, hI.2.2.2.1, hI.2.2.2.2.1, Int.le_refl 0, Int.le_refl 0⟩
  unfold m_OG_drawDeaths
  simp -implicitDefEqProofs only [↓dn_den, ↓dn_loc, ↓dn_k, ↓dn_add, ↓dn_sub, ↓dn_mul, ↓dn_div, ↓dn_rem, ↓dn_bop, ↓dn_ladd, ↓dn_lsub, ↓dn_lmul, ↓dn_ldiv, ↓dn_lrem, ↓dn_land, ↓dn_l2i, ↓dn_neg, ↓dn_get, ↓dn_fix, ↓dn_ald, ↓dn_gld, ↓dn_yld, ↓dn_len, ↓dn_gln, ↓dn_cc, ↓dn_cb, ↓dn_and, ↓dn_or, ↓dn_not, ↓dn_cite, ↓dn_ec, ↓dn_ei, ↓dn_skip, ↓dn_seq, ↓dn_set, ↓dn_inc, ↓dn_putf, ↓dn_putz, ↓dn_ast, ↓dn_exp, ↓dn_if, ↓dn_ret, ↓dn_retz, ↓dn_retv, ↓dn_brk, ↓dn_cont, ↓dn_cs, ↓dn_sw, ↓dn_pop32, ↓dn_pop64, ↓dn_aop, ↓dn_call, ↓dn_max, ↓dn_min, ↓dn_acp, ↓dn_i2l, ↓dn_args0, ↓dn_args1, og_pad, og_ent, og_rlt, og_rle, og_rgt, og_rge, og_req, og_rne, og_padd, og_psub, og_pmul, List.getD_cons_zero, List.getD_cons_succ, List.set_cons_zero, List.set_cons_succ, List.length_cons, List.length_nil, List.cons_append, List.nil_append, List.replicate, List.append_nil, Nat.reduceAdd, Nat.reduceSub, Nat.reduceEqDiff, if_true, if_false, reduceIte, Int.reduceAdd, Int.reduceSub, Int.reduceMul, Int.reduceNeg, Int.reduceLT, Int.reduceLE, Int.cast_ofNat_Int, true_or, or_true, true_and, and_true, false_and, List.mem_cons, List.not_mem_nil, or_false, false_or, ne_eq]
  refine ⟨fun e1 h1 => (∃ c2, e1 = [0, (sChP P (B, l, 0) (sNp A)).2.2, c2]) ∧ isY h1 100 (sChP P (B, l, 0) (sNp A)).1 ∧ h1 0 12 = (sChP P (B, l, 0) (sNp A)).2.1 ∧ (∀ i k, ¬ (i = 7 ∨ i = 9 ∨ (100 ≤ i ∧ i ≤ 109) ∨ (i = 0 ∧ k = 12)) → h1 i k = h i k), ?_, ?_⟩
  · simp -implicitDefEqProofs only [↓dn_den, ↓dn_loc, ↓dn_k, ↓dn_add, ↓dn_sub, ↓dn_mul, ↓dn_div, ↓dn_rem, ↓dn_bop, ↓dn_ladd, ↓dn_lsub, ↓dn_lmul, ↓dn_ldiv, ↓dn_lrem, ↓dn_land, ↓dn_l2i, ↓dn_neg, ↓dn_get, ↓dn_fix, ↓dn_ald, ↓dn_gld, ↓dn_yld, ↓dn_len, ↓dn_gln, ↓dn_cc, ↓dn_cb, ↓dn_and, ↓dn_or, ↓dn_not, ↓dn_cite, ↓dn_ec, ↓dn_ei, ↓dn_skip, ↓dn_seq, ↓dn_set, ↓dn_inc, ↓dn_putf, ↓dn_putz, ↓dn_ast, ↓dn_exp, ↓dn_if, ↓dn_ret, ↓dn_retz, ↓dn_retv, ↓dn_brk, ↓dn_cont, ↓dn_cs, ↓dn_sw, ↓dn_pop32, ↓dn_pop64, ↓dn_aop, ↓dn_call, ↓dn_max, ↓dn_min, ↓dn_acp, ↓dn_i2l, ↓dn_args0, ↓dn_args1, og_pad, og_ent, og_rlt, og_rle, og_rgt, og_rge, og_req, og_rne, og_padd, og_psub, og_pmul, List.getD_cons_zero, List.getD_cons_succ, List.set_cons_zero, List.set_cons_succ, List.length_cons, List.length_nil, List.cons_append, List.nil_append, List.replicate, List.append_nil, Nat.reduceAdd, Nat.reduceSub, Nat.reduceEqDiff, if_true, if_false, reduceIte, Int.reduceAdd, Int.reduceSub, Int.reduceMul, Int.reduceNeg, Int.reduceLT, Int.reduceLE, Int.cast_ofNat_Int, true_or, or_true, true_and, and_true, false_and, List.mem_cons, List.not_mem_nil, or_false, false_or, ne_eq]
    refine og_loop (sNp A) (fun i e1 h1 => e1 = [0, (sChP P (B, l, 0) i).2.2, (i : Int)] ∧ isY h1 100 (sChP P (B, l, 0) i).1 ∧ h1 0 12 = (sChP P (B, l, 0) i).2.1 ∧ (∀ i k, ¬ (i = 7 ∨ i = 9 ∨ (100 ≤ i ∧ i ≤ 109) ∨ (i = 0 ∧ k = 12)) → h1 i k = h i k)) ⟨rfl, hc.1, hl, fun _ _ _ => rfl⟩ ?_
    rintro i e1 h1 hi ⟨rfl, hy1, hl1, hf1⟩
    simp -implicitDefEqProofs only [↓dn_den, ↓dn_loc, ↓dn_k, ↓dn_add, ↓dn_sub, ↓dn_mul, ↓dn_div, ↓dn_rem, ↓dn_bop, ↓dn_ladd, ↓dn_lsub, ↓dn_lmul, ↓dn_ldiv, ↓dn_lrem, ↓dn_land, ↓dn_l2i, ↓dn_neg, ↓dn_get, ↓dn_fix, ↓dn_ald, ↓dn_gld, ↓dn_yld, ↓dn_len, ↓dn_gln, ↓dn_cc, ↓dn_cb, ↓dn_and, ↓dn_or, ↓dn_not, ↓dn_cite, ↓dn_ec, ↓dn_ei, ↓dn_skip, ↓dn_seq, ↓dn_set, ↓dn_inc, ↓dn_putf, ↓dn_putz, ↓dn_ast, ↓dn_exp, ↓dn_if, ↓dn_ret, ↓dn_retz, ↓dn_retv, ↓dn_brk, ↓dn_cont, ↓dn_cs, ↓dn_sw, ↓dn_pop32, ↓dn_pop64, ↓dn_aop, ↓dn_call, ↓dn_max, ↓dn_min, ↓dn_acp, ↓dn_i2l, ↓dn_args0, ↓dn_args1, og_pad, og_ent, og_rlt, og_rle, og_rgt, og_rge, og_req, og_rne, og_padd, og_psub, og_pmul, List.getD_cons_zero, List.getD_cons_succ, List.set_cons_zero, List.set_cons_succ, List.length_cons, List.length_nil, List.cons_append, List.nil_append, List.replicate, List.append_nil, Nat.reduceAdd, Nat.reduceSub, Nat.reduceEqDiff, if_true, if_false, reduceIte, Int.reduceAdd, Int.reduceSub, Int.reduceMul, Int.reduceNeg, Int.reduceLT, Int.reduceLE, Int.cast_ofNat_Int, true_or, or_true, true_and, and_true, false_and, List.mem_cons, List.not_mem_nil, or_false, false_or, ne_eq, og_i32]
    obtain ⟨o1, k1, ⟨c0, c1, c2⟩, e1, l1, d1⟩ := chI_P (P := P) hI0 i (by omega)
    have hsx := sChP_s P (B, l, 0) i
    rw [hy1.1.2.1, c1]
    refine ⟨fun hlt => ?_, fun hge => ?_⟩
    · generalize sChP P (B, l, 0) i = s at *
      refine c_lives hy1 o1 ⟨fun a => ?_, fun a => ?_⟩
      · have hlv := (iteP1 a).2
        refine c_drawOfHundred hl1 l1 ?_
        have hf2 : ∀ j k, (j ≠ 0 ∨ k ≠ 12) → og_up h1 0 12 (drw s.2.1) j k = h1 j k := fun j k hj => by unfold og_up; exact if_neg (by omega)
        have hc2 : isC (og_up h1 0 12 (drw s.2.1)) s.1 P := by
          have e15 : og_up h1 0 12 (drw s.2.1) 0 15 = h 0 15 := by rw [hf2 _ _ (by decide), hf1 _ _ (by omega)]
          refine ⟨isY_fr hy1 (fun j k a b => hf2 j k (by omega)), by unfold toldOK; rw [e15]; exact ht, ?_⟩
          rw [e15]
          exact fun n0 r r0 r1 => isR_eq (hc.2.2 (by have : B 0 1 = A 0 1 := hI.2.2.1.2.1; omega) r r0 r1) (fun j k p q => by rw [hf2 j k (by omega), hf1 j k (by omega)])
        refine c_dyingOf hc2 hP ⟨o1, by omega, by omega⟩ (fun h3 hf3 => ?_)
        have hy3 : isY h3 100 s.1 := isY_fr hc2.1 (fun j k a b => hf3 j k (by omega))
        have hl3 : h3 0 12 = drw s.2.1 := by rw [hf3 _ _ (by decide), og_up_eq]
        have hf13 : ∀ j k, ¬ (j = 7 ∨ j = 9 ∨ (100 ≤ j ∧ j ≤ 109) ∨ (j = 0 ∧ k = 12)) → h3 j k = h j k := fun j k hj => by rw [hf3 j k (by omega), hf2 j k (by omega)]; exact hf1 j k hj
        refine ⟨fun hlt2 => ?_, fun hge2 => ?_⟩
        · have e1 : sCh1 P s i = (sBury s.1 i (sNext s.1 i (sNg s.1)) 2, drw s.2.1, s.2.2 + 1) := by unfold sCh1; rw [if_pos hlv, if_pos hlt2]
          have rg := sNext_rg s.1 i (s.1 0 0).toNat
          refine s_Yard_nextGrave hy3 o1 (by omega) (by omega) ?_
          refine s_Yard_bury hy3 o1 (by omega) (by omega) rg.1 (by omega) (fun h4 hy4 hf4 => ?_)
          repeat (refine And.intro (by omega) ?_)
          refine og_nx_mk (by omega) ?_
          rw [hsx, e1]
          exact ⟨by simp, hy4, by rw [hf4 _ _ (by decide) (by decide) (by decide)]; exact hl3, fun j k hj => by rw [hf4 j k (by omega) (by omega) (by omega)]; exact hf13 j k hj⟩
        · have e1 : sCh1 P s i = (s.1, drw s.2.1, s.2.2) := by unfold sCh1; rw [if_pos hlv, if_neg hge2]
          refine ⟨by omega, og_nx_mk (by omega) ?_⟩
          rw [hsx, e1]
          exact ⟨by simp, hy3, hl3, hf13⟩
      · have hlv : ¬ sLive s.1 i = true := fun z => iteP0 a ⟨⟨by omega, by omega⟩, z⟩
        have e1 : sCh1 P s i = s := by unfold sCh1; rw [if_neg hlv]
        refine ⟨by omega, og_nx_mk (by omega) ?_⟩
        rw [hsx, e1]
        exact ⟨by simp, hy1, hl1, hf1⟩
    · have e : i = sNp A := by omega
      subst e
      exact ⟨⟨_, rfl⟩, hy1, hl1, hf1⟩
  · rintro e1 h1 ⟨⟨c2, rfl⟩, hy1, hl1, hf1⟩
    simp -implicitDefEqProofs only [↓dn_den, ↓dn_loc, ↓dn_k, ↓dn_add, ↓dn_sub, ↓dn_mul, ↓dn_div, ↓dn_rem, ↓dn_bop, ↓dn_ladd, ↓dn_lsub, ↓dn_lmul, ↓dn_ldiv, ↓dn_lrem, ↓dn_land, ↓dn_l2i, ↓dn_neg, ↓dn_get, ↓dn_fix, ↓dn_ald, ↓dn_gld, ↓dn_yld, ↓dn_len, ↓dn_gln, ↓dn_cc, ↓dn_cb, ↓dn_and, ↓dn_or, ↓dn_not, ↓dn_cite, ↓dn_ec, ↓dn_ei, ↓dn_skip, ↓dn_seq, ↓dn_set, ↓dn_inc, ↓dn_putf, ↓dn_putz, ↓dn_ast, ↓dn_exp, ↓dn_if, ↓dn_ret, ↓dn_retz, ↓dn_retv, ↓dn_brk, ↓dn_cont, ↓dn_cs, ↓dn_sw, ↓dn_pop32, ↓dn_pop64, ↓dn_aop, ↓dn_call, ↓dn_max, ↓dn_min, ↓dn_acp, ↓dn_i2l, ↓dn_args0, ↓dn_args1, og_pad, og_ent, og_rlt, og_rle, og_rgt, og_rge, og_req, og_rne, og_padd, og_psub, og_pmul, List.getD_cons_zero, List.getD_cons_succ, List.set_cons_zero, List.set_cons_succ, List.length_cons, List.length_nil, List.cons_append, List.nil_append, List.replicate, List.append_nil, Nat.reduceAdd, Nat.reduceSub, Nat.reduceEqDiff, if_true, if_false, reduceIte, Int.reduceAdd, Int.reduceSub, Int.reduceMul, Int.reduceNeg, Int.reduceLT, Int.reduceLE, Int.cast_ofNat_Int, true_or, or_true, true_and, and_true, false_and, List.mem_cons, List.not_mem_nil, or_false, false_or, ne_eq]
    exact hK h1 hy1 hl1 hf1
theorem sChP_d {P : Pr} {B : Yd} {l d : Int} : ∀ n : Nat, sChP P (B, l, d) n = ((sChP P (B, l, 0) n).1, (sChP P (B, l, 0) n).2.1, d + (sChP P (B, l, 0) n).2.2)
  | 0 => by show (B, l, d) = (B, l, d + 0); rw [Int.add_zero]
  | n + 1 => by
    rw [sChP_s, sChP_d n, sChP_s]
    generalize sChP P (B, l, 0) n = s
    unfold sCh1
    dsimp only
    split
    · split
      · dsimp only; rw [Int.add_assoc]
      · rfl
    · rfl
theorem relC_luck {v : Int} (hr : relC q h A P U X) : relC q (og_up h 0 12 v) A P U (sUp X 0 2 v) := by
  obtain ⟨y, p, r, f⟩ := hr
  have hf : ∀ i k, (i ≠ 0 ∨ k ≠ 12) → og_up h 0 12 v i k = h i k := fun i k hi => by unfold og_up; exact if_neg (by omega)
  refine ⟨isY_fr y (fun i k a b => hf i k (by omega)), pastC_fr p (fun i k hi => hf i k (by omega)), ?_, fun i k hi => (hf i k (by omega)).trans (f i k hi)⟩
  refine restC_new r (fun i k hi => hf i k (by omega)) (fun j => sUp_c (by decide)) ?_ ?_ ?_ ?_ ?_
  · simp (disch := decide) only [sUp_row, sUp_c, sUp_k, sUp_eq]; exact ⟨by rw [hf _ _ (by omega)]; exact r.2.1.1, fun j a b => by rw [hf _ _ (by omega)]; exact r.2.1.2 j a b⟩
  · simp (disch := decide) only [sUp_row, sUp_c, sUp_k, sUp_eq]; exact ⟨by rw [hf _ _ (by omega)]; exact r.2.2.1.1, fun j a b => by rw [hf _ _ (by omega)]; exact r.2.2.1.2 j a b⟩
  · intro k a b; rw [sUp_c (by decide), hf _ _ (by omega)]; exact r.2.2.2.1 k a b
  · simp (disch := decide) only [sUp_row, sUp_c, sUp_k, sUp_eq]; rw [og_up_eq, hf _ _ (by omega), hf _ _ (by omega)]; exact ⟨rfl, r.2.2.2.2.1.2.1, r.2.2.2.2.1.2.2⟩
  · simp (disch := decide) only [sUp_row, sUp_c, sUp_k, sUp_eq]; exact ⟨by rw [hf _ _ (by omega)]; exact r.2.2.2.2.2.1.1, fun j a b => by rw [hf _ _ (by omega)]; exact r.2.2.2.2.2.1.2 j a b⟩
theorem c_chance {m : Int} (hn : n ≤ 1000000) (hr : relC q h A P U X) (hx : okX n A P U X) (hK0 : ¬ monthsOK A m → ∀ h', relC q h' A P U (sRf X 3) → K (-1) h') (hK1 : monthsOK A m → ∀ h', relC q h' (sChM P (A, X 0 2, 0) m.toNat).1 P (sKp U A) (sUp X 0 2 (sChM P (A, X 0 2, 0) m.toNat).2.1) → K (sChM P (A, X 0 2, 0) m.toNat).2.2 h') : m_OG_chance [0, m] h K := by
  have ho := hx.1.1
  have h6 := ho.1
  have hm0 := hx.1.2.2
  have hP := hx.2.1.1
  have hc := relC_isC hr
  have ht := hc.2.1
  have hlk := hr.2.2.1.2.2.2.2.1.1
  unfold toldOK at ht
  have hI0 : chI A (A 0 2) 0 (A, X 0 2, 0) := ⟨ho, hx.1.2.1, ⟨rfl, rfl, rfl⟩, fun _ => ⟨rfl, rfl⟩, hx.2.2.2.2.2.2.1, Int.le_refl 0, Int.le_refl 0⟩
  unfold m_OG_chance
  simp -implicitDefEqProofs only [↓dn_den, ↓dn_loc, ↓dn_k, ↓dn_add, ↓dn_sub, ↓dn_mul, ↓dn_div, ↓dn_rem, ↓dn_bop, ↓dn_ladd, ↓dn_lsub, ↓dn_lmul, ↓dn_ldiv, ↓dn_lrem, ↓dn_land, ↓dn_l2i, ↓dn_neg, ↓dn_get, ↓dn_fix, ↓dn_ald, ↓dn_gld, ↓dn_yld, ↓dn_len, ↓dn_gln, ↓dn_cc, ↓dn_cb, ↓dn_and, ↓dn_or, ↓dn_not, ↓dn_cite, ↓dn_ec, ↓dn_ei, ↓dn_skip, ↓dn_seq, ↓dn_set, ↓dn_inc, ↓dn_putf, ↓dn_putz, ↓dn_ast, ↓dn_exp, ↓dn_if, ↓dn_ret, ↓dn_retz, ↓dn_retv, ↓dn_brk, ↓dn_cont, ↓dn_cs, ↓dn_sw, ↓dn_pop32, ↓dn_pop64, ↓dn_aop, ↓dn_call, ↓dn_max, ↓dn_min, ↓dn_acp, ↓dn_i2l, ↓dn_args0, ↓dn_args1, og_pad, og_ent, og_rlt, og_rle, og_rgt, og_rge, og_req, og_rne, og_padd, og_psub, og_pmul, List.getD_cons_zero, List.getD_cons_succ, List.set_cons_zero, List.set_cons_succ, List.length_cons, List.length_nil, List.cons_append, List.nil_append, List.replicate, List.append_nil, Nat.reduceAdd, Nat.reduceSub, Nat.reduceEqDiff, if_true, if_false, reduceIte, Int.reduceAdd, Int.reduceSub, Int.reduceMul, Int.reduceNeg, Int.reduceLT, Int.reduceLE, Int.cast_ofNat_Int, true_or, or_true, true_and, and_true, false_and, List.mem_cons, List.not_mem_nil, or_false, false_or, ne_eq, og_i32]
  refine c_canPass hr.1 (by omega) ⟨fun a => ?_, fun a => c_refuse (by decide) hn hr hx (hK0 (iteP0 a))⟩
  have hm := iteP1 a
  refine c_keep hr.1 ho hr.2.1 (fun h1 hy1 hp1 hf1 => ?_)
  refine ⟨fun e2 h2 => (∃ c3, e2 = [0, m, (sChM P (A, X 0 2, 0) m.toNat).2.2, c3]) ∧ isY h2 100 (sChM P (A, X 0 2, 0) m.toNat).1 ∧ h2 0 12 = (sChM P (A, X 0 2, 0) m.toNat).2.1 ∧ (∀ i k, ¬ (i = 7 ∨ i = 9 ∨ (100 ≤ i ∧ i ≤ 109) ∨ (i = 0 ∧ k = 12)) → h2 i k = h1 i k), ?_, ?_⟩
  · simp -implicitDefEqProofs only [↓dn_den, ↓dn_loc, ↓dn_k, ↓dn_add, ↓dn_sub, ↓dn_mul, ↓dn_div, ↓dn_rem, ↓dn_bop, ↓dn_ladd, ↓dn_lsub, ↓dn_lmul, ↓dn_ldiv, ↓dn_lrem, ↓dn_land, ↓dn_l2i, ↓dn_neg, ↓dn_get, ↓dn_fix, ↓dn_ald, ↓dn_gld, ↓dn_yld, ↓dn_len, ↓dn_gln, ↓dn_cc, ↓dn_cb, ↓dn_and, ↓dn_or, ↓dn_not, ↓dn_cite, ↓dn_ec, ↓dn_ei, ↓dn_skip, ↓dn_seq, ↓dn_set, ↓dn_inc, ↓dn_putf, ↓dn_putz, ↓dn_ast, ↓dn_exp, ↓dn_if, ↓dn_ret, ↓dn_retz, ↓dn_retv, ↓dn_brk, ↓dn_cont, ↓dn_cs, ↓dn_sw, ↓dn_pop32, ↓dn_pop64, ↓dn_aop, ↓dn_call, ↓dn_max, ↓dn_min, ↓dn_acp, ↓dn_i2l, ↓dn_args0, ↓dn_args1, og_pad, og_ent, og_rlt, og_rle, og_rgt, og_rge, og_req, og_rne, og_padd, og_psub, og_pmul, List.getD_cons_zero, List.getD_cons_succ, List.set_cons_zero, List.set_cons_succ, List.length_cons, List.length_nil, List.cons_append, List.nil_append, List.replicate, List.append_nil, Nat.reduceAdd, Nat.reduceSub, Nat.reduceEqDiff, if_true, if_false, reduceIte, Int.reduceAdd, Int.reduceSub, Int.reduceMul, Int.reduceNeg, Int.reduceLT, Int.reduceLE, Int.cast_ofNat_Int, true_or, or_true, true_and, and_true, false_and, List.mem_cons, List.not_mem_nil, or_false, false_or, ne_eq]
    refine og_loop m.toNat (fun i e2 h2 => e2 = [0, m, (sChM P (A, X 0 2, 0) i).2.2, (i : Int)] ∧ isY h2 100 (sChM P (A, X 0 2, 0) i).1 ∧ h2 0 12 = (sChM P (A, X 0 2, 0) i).2.1 ∧ (∀ i k, ¬ (i = 7 ∨ i = 9 ∨ (100 ≤ i ∧ i ≤ 109) ∨ (i = 0 ∧ k = 12)) → h2 i k = h1 i k)) ⟨rfl, hy1, by rw [hf1 _ _ (by omega)]; exact hlk, fun _ _ _ => rfl⟩ ?_
    rintro i e2 h2 hi ⟨rfl, hy2, hl2, hf2⟩
    simp -implicitDefEqProofs only [↓dn_den, ↓dn_loc, ↓dn_k, ↓dn_add, ↓dn_sub, ↓dn_mul, ↓dn_div, ↓dn_rem, ↓dn_bop, ↓dn_ladd, ↓dn_lsub, ↓dn_lmul, ↓dn_ldiv, ↓dn_lrem, ↓dn_land, ↓dn_l2i, ↓dn_neg, ↓dn_get, ↓dn_fix, ↓dn_ald, ↓dn_gld, ↓dn_yld, ↓dn_len, ↓dn_gln, ↓dn_cc, ↓dn_cb, ↓dn_and, ↓dn_or, ↓dn_not, ↓dn_cite, ↓dn_ec, ↓dn_ei, ↓dn_skip, ↓dn_seq, ↓dn_set, ↓dn_inc, ↓dn_putf, ↓dn_putz, ↓dn_ast, ↓dn_exp, ↓dn_if, ↓dn_ret, ↓dn_retz, ↓dn_retv, ↓dn_brk, ↓dn_cont, ↓dn_cs, ↓dn_sw, ↓dn_pop32, ↓dn_pop64, ↓dn_aop, ↓dn_call, ↓dn_max, ↓dn_min, ↓dn_acp, ↓dn_i2l, ↓dn_args0, ↓dn_args1, og_pad, og_ent, og_rlt, og_rle, og_rgt, og_rge, og_req, og_rne, og_padd, og_psub, og_pmul, List.getD_cons_zero, List.getD_cons_succ, List.set_cons_zero, List.set_cons_succ, List.length_cons, List.length_nil, List.cons_append, List.nil_append, List.replicate, List.append_nil, Nat.reduceAdd, Nat.reduceSub, Nat.reduceEqDiff, if_true, if_false, reduceIte, Int.reduceAdd, Int.reduceSub, Int.reduceMul, Int.reduceNeg, Int.reduceLT, Int.reduceLE, Int.cast_ofNat_Int, true_or, or_true, true_and, and_true, false_and, List.mem_cons, List.not_mem_nil, or_false, false_or, ne_eq, og_i32]
    have hI := chI_M (P := P) ho rfl hI0 i (by omega)
    have hsx := sChM_s P (A, X 0 2, 0) i
    dsimp only at hsx
    refine ⟨fun hlt => ?_, fun hge => ?_⟩
    · generalize sChM P (A, X 0 2, 0) i = s at *
      obtain ⟨B, l, d⟩ := s
      have e15 : h2 0 15 = h 0 15 := by rw [hf2 _ _ (by omega), hf1 _ _ (by omega)]
      have hc2 : isC h2 B P := ⟨hy2, by unfold toldOK; rw [e15]; exact ht, by rw [e15]; exact fun n0 r r0 r1 => isR_eq (hc.2.2 (by have : B 0 1 = A 0 1 := hI.2.2.1.2.1; omega) r r0 r1) (fun j k p q => by rw [hf2 j k (by omega), hf1 j k (by omega)])⟩
      refine c_drawDeaths (m := A 0 2 + i) (d := 0) ho hc2 hP hl2 ⟨hI.1, hI.2.1, hI.2.2.1, hI.2.2.2.1, hI.2.2.2.2.1, Int.le_refl 0, Int.le_refl 0⟩ (fun h3 hy3 hl3 hf3 => ?_)
      have hIp := chI_P (P := P) hI (sNp A) (by have : sNp A = (A 0 1).toNat := rfl; omega)
      rw [sChP_d] at hIp hsx
      have dd := hI.2.2.2.2.2
      obtain ⟨o3, -, ⟨c0, c1, c2⟩, -, l3, d3⟩ := hIp
      dsimp only at o3 c0 c1 c2 l3 d3 dd hsx
      generalize sChP P (B, l, 0) (sNp A) = s3 at *
      have hnp : (sNp A : Int) ≤ 8 := by have : sNp A = (A 0 1).toNat := rfl; omega
      have e15b : h3 0 15 = h 0 15 := by rw [hf3 _ _ (by omega)]; exact e15
      rw [e15b]
      have hR3 : hasR h3 (h 0 15 + 2) (A 0 1) P := fun n0 r r0 r1 => isR_eq (hc.2.2 n0 r r0 r1) (fun j k p q => by rw [hf3 j k (by omega), hf2 j k (by omega), hf1 j k (by omega)])
      dsimp only
      repeat (refine And.intro (by omega) ?_)
      refine s_Alm_pass (hasR_N hR3 (by omega)) hP (by omega) (by omega) hy3 o3 (by omega) (fun h4 hy4 hf4 => ?_)
      repeat (refine And.intro (by omega) ?_)
      refine og_nx_mk (by omega) ?_
      rw [hsx]
      exact ⟨by simp, hy4, by rw [hf4 _ _ (by decide) (by decide) (by decide)]; exact hl3, fun j k hj => by rw [hf4 j k (by omega) (by omega) (by omega), hf3 j k hj]; exact hf2 j k hj⟩
    · have e : i = m.toNat := by omega
      subst e
      exact ⟨⟨_, rfl⟩, hy2, hl2, hf2⟩
  · rintro e2 h2 ⟨⟨c3, rfl⟩, hy2, hl2, hf2⟩
    simp -implicitDefEqProofs only [↓dn_den, ↓dn_loc, ↓dn_k, ↓dn_add, ↓dn_sub, ↓dn_mul, ↓dn_div, ↓dn_rem, ↓dn_bop, ↓dn_ladd, ↓dn_lsub, ↓dn_lmul, ↓dn_ldiv, ↓dn_lrem, ↓dn_land, ↓dn_l2i, ↓dn_neg, ↓dn_get, ↓dn_fix, ↓dn_ald, ↓dn_gld, ↓dn_yld, ↓dn_len, ↓dn_gln, ↓dn_cc, ↓dn_cb, ↓dn_and, ↓dn_or, ↓dn_not, ↓dn_cite, ↓dn_ec, ↓dn_ei, ↓dn_skip, ↓dn_seq, ↓dn_set, ↓dn_inc, ↓dn_putf, ↓dn_putz, ↓dn_ast, ↓dn_exp, ↓dn_if, ↓dn_ret, ↓dn_retz, ↓dn_retv, ↓dn_brk, ↓dn_cont, ↓dn_cs, ↓dn_sw, ↓dn_pop32, ↓dn_pop64, ↓dn_aop, ↓dn_call, ↓dn_max, ↓dn_min, ↓dn_acp, ↓dn_i2l, ↓dn_args0, ↓dn_args1, og_pad, og_ent, og_rlt, og_rle, og_rgt, og_rge, og_req, og_rne, og_padd, og_psub, og_pmul, List.getD_cons_zero, List.getD_cons_succ, List.set_cons_zero, List.set_cons_succ, List.length_cons, List.length_nil, List.cons_append, List.nil_append, List.replicate, List.append_nil, Nat.reduceAdd, Nat.reduceSub, Nat.reduceEqDiff, if_true, if_false, reduceIte, Int.reduceAdd, Int.reduceSub, Int.reduceMul, Int.reduceNeg, Int.reduceLT, Int.reduceLE, Int.cast_ofNat_Int, true_or, or_true, true_and, and_true, false_and, List.mem_cons, List.not_mem_nil, or_false, false_or, ne_eq]
    have hI := chI_M (P := P) ho rfl hI0 m.toNat (by omega)
    have hr2 := relC_act (h' := og_up h2 0 12 (X 0 2)) (A' := (sChM P (A, X 0 2, 0) m.toNat).1) (U' := sKp U A) hr hI.2.2.1.1 hI.2.2.1.2.1 (isY_fr hy2 (fun j k a b => og_up_i (by omega))) (pastC_fr hp1 (fun j k hj => by rw [og_up_i (by omega)]; exact hf2 j k (by omega))) (fun j k hj => by
      by_cases z : j = 0 ∧ k = 12
      · rw [z.1, z.2, og_up_eq]; exact hlk.symm
      · have : og_up h2 0 12 (X 0 2) j k = h2 j k := by unfold og_up; exact if_neg z
        rw [this, hf2 j k (by omega), hf1 j k (by omega)])
    have hr3 := relC_luck (v := (sChM P (A, X 0 2, 0) m.toNat).2.1) hr2
    have ee : og_up (og_up h2 0 12 (X 0 2)) 0 12 (sChM P (A, X 0 2, 0) m.toNat).2.1 = h2 := by
      funext j k
      unfold og_up
      by_cases z : j = 0 ∧ k = 12
      · rw [if_pos z, z.1, z.2]; exact hl2.symm
      · rw [if_neg z, if_neg z]
    rw [ee] at hr3
    exact hK1 hm h2 hr3
end
end
