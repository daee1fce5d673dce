-- rows of graves: choosing, and the row
theorem rU_s (A : Yd) (H : Nat → Int) (i : Nat) : rU A H (i + 1) = if rCh A H (sNg A - (i + 1)) (rU A H i) = -1 then rU A H i else rU A H i ||| 2 ^ (rCh A H (sNg A - (i + 1)) (rU A H i)).toNat := rfl
def rC (A : Yd) (H : Nat → Int) (i : Nat) : Int := rCh A H (sNg A - (i + 1)) (rU A H i)
theorem rC_rg {A : Yd} {H : Nat → Int} {i : Nat} : -1 ≤ rC A H i ∧ rC A H i < sNp A := by
  unfold rC
  rcases rCh_cases (A := A) (H := H) (j := sNg A - (i + 1)) (u := rU A H i) with ⟨z, -⟩ | ⟨n, z, hn, -⟩ <;> omega
/-- what is gained by the first graves -/
def rN (A : Yd) (H : Nat → Int) : Nat → Int
  | 0 => 0
  | i + 1 => rN A H i + (if rC A H i = -1 then 0 else 1)
def rW (A : Yd) (H : Nat → Int) : Nat → Int
  | 0 => 0
  | i + 1 => rW A H i + (if rC A H i = -1 then 0 else H (rC A H i).toNat)
theorem rN_s (A : Yd) (H : Nat → Int) (i : Nat) : rN A H (i + 1) = rN A H i + (if rC A H i = -1 then 0 else 1) := rfl
theorem rW_s (A : Yd) (H : Nat → Int) (i : Nat) : rW A H (i + 1) = rW A H i + (if rC A H i = -1 then 0 else H (rC A H i).toNat) := rfl
theorem rN_rg {A : Yd} {H : Nat → Int} (hH : ∀ p, 0 ≤ H p ∧ H p ≤ 999) : ∀ i, 0 ≤ rN A H i ∧ rN A H i ≤ i ∧ 0 ≤ rW A H i ∧ rW A H i ≤ 999 * rN A H i
  | 0 => ⟨Int.le_refl 0, Int.le_refl 0, Int.le_refl 0, Int.le_refl 0⟩
  | i + 1 => by
    have ih := rN_rg (A := A) hH i
    have := hH (rC A H i).toNat
    rw [rN_s, rW_s]
    split <;> omega
theorem rTel {A : Yd} {H : Nat → Int} (ho : okY A) : ∀ i, i ≤ sNg A → rB A H (sNg A) 0 = 10000 * rN A H i - rW A H i + rB A H (sNg A - i) (rU A H i)
  | 0, _ => by
    show rB A H (sNg A) 0 = 10000 * 0 - 0 + rB A H (sNg A - 0) 0
    simp
  | i + 1, hi => by
    have ih := rTel (H := H) ho i (by omega)
    have ej : sNg A - i = (sNg A - (i + 1)) + 1 := by omega
    rw [ej] at ih
    rw [ih, rN_s, rW_s, rU_s]
    unfold rC
    rcases rCh_cases (A := A) (H := H) (j := sNg A - (i + 1)) (u := rU A H i) with ⟨z, e⟩ | ⟨n, z, hn, hf, -, -⟩
    · rw [if_pos z, if_pos z, if_pos z, e]; omega
    · rw [if_neg (by omega), if_neg (by omega), if_neg (by omega), z]
      unfold rFb at hf
      simp only [Bool.and_eq_true, decide_eq_true_eq] at hf
      rw [← hf.2]
      simp only [Int.toNat_natCast]
      omega
theorem rTot {A : Yd} {H : Nat → Int} (ho : okY A) (hH : ∀ p, 0 ≤ H p ∧ H p ≤ 999) : rMo (rB A H (sNg A) 0) = rN A H (sNg A) ∧ rHa (rB A H (sNg A) 0) = rW A H (sNg A) := by
  have h6 := ho.1
  have hng : sNg A = (A 0 0).toNat := rfl
  have t := rTel (H := H) ho (sNg A) (Nat.le_refl _)
  have e : rB A H (sNg A - sNg A) (rU A H (sNg A)) = 0 := by rw [Nat.sub_self]; rfl
  rw [e, Int.add_zero] at t
  have r := rN_rg (A := A) hH (sNg A)
  rw [t]
  exact rMo_eq (j := sNg A) (by omega) r.1 r.2.1 r.2.2.1 r.2.2.2
def sHm (P : Pr) (A : Yd) (p : Nat) : Int := sCut (sVal (P 12) A (p : Int) 0) 999
theorem sHm_rg {P : Pr} {A : Yd} (p : Nat) : 0 ≤ sHm P A p ∧ sHm P A p ≤ 999 := sCut_bd _ 999 (by decide)
def sRow (P : Pr) (A : Yd) (w : Int) : Int := if 0 ≤ w ∧ w < 2 + A 0 0 then (if w = 0 then rN A (sHm P A) (sNg A) else if w = 1 then rW A (sHm P A) (sNg A) else rC A (sHm P A) (w - 2).toNat) else -1
section
variable {h : Hp} {A : Yd} {P : Pr} {H : Nat → Int} {K : Int → Hp → Prop}
theorem s_Rows_choose (hy : isY h 100 A) (ho : okY A) (hh : harmOK h A H) (hH : ∀ p, 0 ≤ H p ∧ H p ≤ 999)
    (hK : ∀ h', (∀ i k, i ≠ 18 → i ≠ 19 → h' i k = h i k) → (∀ g : Nat, g < sNg A → h' 18 (g : Int) = rC A H g) → K 0 h') : m_Rows_choose [16, 100] h K := by
  have h6 := ho.1
  have hnp : sNp A = (A 0 1).toNat := rfl
  have hng : sNg A = (A 0 0).toNat := rfl
  have h2 := two_np ho
  unfold m_Rows_choose
  simp -implicitDefEqProofs only [↓dn_den, ↓dn_loc, ↓dn_k, ↓dn_add, ↓dn_sub, ↓dn_mul, ↓dn_div, ↓dn_rem, ↓dn_bop, ↓dn_ladd, ↓dn_lsub, ↓dn_lmul, ↓dn_ldiv, ↓dn_lrem, ↓dn_land, ↓dn_l2i, ↓dn_neg, ↓dn_get, ↓dn_fix, ↓dn_ald, ↓dn_gld, ↓dn_yld, ↓dn_len, ↓dn_gln, ↓dn_cc, ↓dn_cb, ↓dn_and, ↓dn_or, ↓dn_not, ↓dn_cite, ↓dn_ec, ↓dn_ei, ↓dn_skip, ↓dn_seq, ↓dn_set, ↓dn_inc, ↓dn_putf, ↓dn_putz, ↓dn_ast, ↓dn_exp, ↓dn_if, ↓dn_ret, ↓dn_retz, ↓dn_retv, ↓dn_brk, ↓dn_cont, ↓dn_cs, ↓dn_sw, ↓dn_pop32, ↓dn_pop64, ↓dn_aop, ↓dn_call, ↓dn_max, ↓dn_min, ↓dn_acp, ↓dn_i2l, ↓dn_args0, ↓dn_args1, og_pad, og_ent, og_rlt, og_rle, og_rgt, og_rge, og_req, og_rne, og_padd, og_psub, og_pmul, List.getD_cons_zero, List.getD_cons_succ, List.set_cons_zero, List.set_cons_succ, List.length_cons, List.length_nil, List.cons_append, List.nil_append, List.replicate, List.append_nil, Nat.reduceAdd, Nat.reduceSub, Nat.reduceEqDiff, if_true, if_false, reduceIte, Int.reduceAdd, Int.reduceSub, Int.reduceMul, Int.reduceNeg, Int.reduceLT, Int.reduceLE, Int.cast_ofNat_Int, true_or, or_true, true_and, and_true, false_and, List.mem_cons, List.not_mem_nil, or_false, false_or, ne_eq, og_i32]
  refine ⟨fun e1 h1 => e1 = [16, 100, 256, 0, 0] ∧ (∀ i k, i ≠ 19 → h1 i k = h i k) ∧ ∀ u : Nat, u < 256 → h1 19 (256 * A 0 0 + u) = 0, ?_, ?_⟩
  · simp -implicitDefEqProofs only [↓dn_den, ↓dn_loc, ↓dn_k, ↓dn_add, ↓dn_sub, ↓dn_mul, ↓dn_div, ↓dn_rem, ↓dn_bop, ↓dn_ladd, ↓dn_lsub, ↓dn_lmul, ↓dn_ldiv, ↓dn_lrem, ↓dn_land, ↓dn_l2i, ↓dn_neg, ↓dn_get, ↓dn_fix, ↓dn_ald, ↓dn_gld, ↓dn_yld, ↓dn_len, ↓dn_gln, ↓dn_cc, ↓dn_cb, ↓dn_and, ↓dn_or, ↓dn_not, ↓dn_cite, ↓dn_ec, ↓dn_ei, ↓dn_skip, ↓dn_seq, ↓dn_set, ↓dn_inc, ↓dn_putf, ↓dn_putz, ↓dn_ast, ↓dn_exp, ↓dn_if, ↓dn_ret, ↓dn_retz, ↓dn_retv, ↓dn_brk, ↓dn_cont, ↓dn_cs, ↓dn_sw, ↓dn_pop32, ↓dn_pop64, ↓dn_aop, ↓dn_call, ↓dn_max, ↓dn_min, ↓dn_acp, ↓dn_i2l, ↓dn_args0, ↓dn_args1, og_pad, og_ent, og_rlt, og_rle, og_rgt, og_rge, og_req, og_rne, og_padd, og_psub, og_pmul, List.getD_cons_zero, List.getD_cons_succ, List.set_cons_zero, List.set_cons_succ, List.length_cons, List.length_nil, List.cons_append, List.nil_append, List.replicate, List.append_nil, Nat.reduceAdd, Nat.reduceSub, Nat.reduceEqDiff, if_true, if_false, reduceIte, Int.reduceAdd, Int.reduceSub, Int.reduceMul, Int.reduceNeg, Int.reduceLT, Int.reduceLE, Int.cast_ofNat_Int, true_or, or_true, true_and, and_true, false_and, List.mem_cons, List.not_mem_nil, or_false, false_or, ne_eq]
    refine og_loop 256 (fun i e1 h1 => e1 = [16, 100, (i : Int), 0, 0] ∧ (∀ i k, i ≠ 19 → h1 i k = h i k) ∧ ∀ u : Nat, u < i → h1 19 (256 * A 0 0 + u) = 0) ⟨rfl, fun _ _ _ => rfl, fun u hu => by omega⟩ ?_
    rintro i e1 h1 hi ⟨rfl, hfr, hz⟩
    simp -implicitDefEqProofs only [↓dn_den, ↓dn_loc, ↓dn_k, ↓dn_add, ↓dn_sub, ↓dn_mul, ↓dn_div, ↓dn_rem, ↓dn_bop, ↓dn_ladd, ↓dn_lsub, ↓dn_lmul, ↓dn_ldiv, ↓dn_lrem, ↓dn_land, ↓dn_l2i, ↓dn_neg, ↓dn_get, ↓dn_fix, ↓dn_ald, ↓dn_gld, ↓dn_yld, ↓dn_len, ↓dn_gln, ↓dn_cc, ↓dn_cb, ↓dn_and, ↓dn_or, ↓dn_not, ↓dn_cite, ↓dn_ec, ↓dn_ei, ↓dn_skip, ↓dn_seq, ↓dn_set, ↓dn_inc, ↓dn_putf, ↓dn_putz, ↓dn_ast, ↓dn_exp, ↓dn_if, ↓dn_ret, ↓dn_retz, ↓dn_retv, ↓dn_brk, ↓dn_cont, ↓dn_cs, ↓dn_sw, ↓dn_pop32, ↓dn_pop64, ↓dn_aop, ↓dn_call, ↓dn_max, ↓dn_min, ↓dn_acp, ↓dn_i2l, ↓dn_args0, ↓dn_args1, og_pad, og_ent, og_rlt, og_rle, og_rgt, og_rge, og_req, og_rne, og_padd, og_psub, og_pmul, List.getD_cons_zero, List.getD_cons_succ, List.set_cons_zero, List.set_cons_succ, List.length_cons, List.length_nil, List.cons_append, List.nil_append, List.replicate, List.append_nil, Nat.reduceAdd, Nat.reduceSub, Nat.reduceEqDiff, if_true, if_false, reduceIte, Int.reduceAdd, Int.reduceSub, Int.reduceMul, Int.reduceNeg, Int.reduceLT, Int.reduceLE, Int.cast_ofNat_Int, true_or, or_true, true_and, and_true, false_and, List.mem_cons, List.not_mem_nil, or_false, false_or, ne_eq, og_i32]
    rw [hfr 100 0 (by decide), hy.1.1]
    refine ⟨fun hlt => ?_, fun hge => ?_⟩
    · refine ⟨by omega, by omega, by omega, by omega, by omega, og_nx_mk (by omega) ⟨by simp, fun j k hj => by rw [og_up_i hj]; exact hfr j k hj, fun u hu => ?_⟩⟩
      by_cases e : u = i
      · subst e; rw [og_up_eq]
      · rw [og_up_k (by omega)]; exact hz u (by omega)
    · have e : i = 256 := by omega
      subst e
      exact ⟨rfl, hfr, hz⟩
  · rintro e1 h1 ⟨rfl, hfr, hz⟩
    have hy1 : isY h1 100 A := isY_fr hy (fun i k a b => hfr i k (by omega))
    simp -implicitDefEqProofs only [↓dn_den, ↓dn_loc, ↓dn_k, ↓dn_add, ↓dn_sub, ↓dn_mul, ↓dn_div, ↓dn_rem, ↓dn_bop, ↓dn_ladd, ↓dn_lsub, ↓dn_lmul, ↓dn_ldiv, ↓dn_lrem, ↓dn_land, ↓dn_l2i, ↓dn_neg, ↓dn_get, ↓dn_fix, ↓dn_ald, ↓dn_gld, ↓dn_yld, ↓dn_len, ↓dn_gln, ↓dn_cc, ↓dn_cb, ↓dn_and, ↓dn_or, ↓dn_not, ↓dn_cite, ↓dn_ec, ↓dn_ei, ↓dn_skip, ↓dn_seq, ↓dn_set, ↓dn_inc, ↓dn_putf, ↓dn_putz, ↓dn_ast, ↓dn_exp, ↓dn_if, ↓dn_ret, ↓dn_retz, ↓dn_retv, ↓dn_brk, ↓dn_cont, ↓dn_cs, ↓dn_sw, ↓dn_pop32, ↓dn_pop64, ↓dn_aop, ↓dn_call, ↓dn_max, ↓dn_min, ↓dn_acp, ↓dn_i2l, ↓dn_args0, ↓dn_args1, og_pad, og_ent, og_rlt, og_rle, og_rgt, og_rge, og_req, og_rne, og_padd, og_psub, og_pmul, List.getD_cons_zero, List.getD_cons_succ, List.set_cons_zero, List.set_cons_succ, List.length_cons, List.length_nil, List.cons_append, List.nil_append, List.replicate, List.append_nil, Nat.reduceAdd, Nat.reduceSub, Nat.reduceEqDiff, if_true, if_false, reduceIte, Int.reduceAdd, Int.reduceSub, Int.reduceMul, Int.reduceNeg, Int.reduceLT, Int.reduceLE, Int.cast_ofNat_Int, true_or, or_true, true_and, and_true, false_and, List.mem_cons, List.not_mem_nil, or_false, false_or, ne_eq, og_i32]
    have eshl : og_bit og_oshl 1 (h1 100 1) = ((2 ^ sNp A : Nat) : Int) := by
      rw [hy1.1.2.1]
      have := bt_shl (sNp A) (by omega)
      rw [hnp, Int.toNat_of_nonneg (by omega)] at this
      exact this
    rw [eshl]
    refine ⟨fun e2 h2 => (∃ c3 c4, e2 = [16, 100, ((2 ^ sNp A : Nat) : Int), c3, c4]) ∧ (∀ i k, i ≠ 19 → h2 i k = h i k) ∧ bestOK h2 A H 0, ?_, ?_⟩
    · simp -implicitDefEqProofs only [↓dn_den, ↓dn_loc, ↓dn_k, ↓dn_add, ↓dn_sub, ↓dn_mul, ↓dn_div, ↓dn_rem, ↓dn_bop, ↓dn_ladd, ↓dn_lsub, ↓dn_lmul, ↓dn_ldiv, ↓dn_lrem, ↓dn_land, ↓dn_l2i, ↓dn_neg, ↓dn_get, ↓dn_fix, ↓dn_ald, ↓dn_gld, ↓dn_yld, ↓dn_len, ↓dn_gln, ↓dn_cc, ↓dn_cb, ↓dn_and, ↓dn_or, ↓dn_not, ↓dn_cite, ↓dn_ec, ↓dn_ei, ↓dn_skip, ↓dn_seq, ↓dn_set, ↓dn_inc, ↓dn_putf, ↓dn_putz, ↓dn_ast, ↓dn_exp, ↓dn_if, ↓dn_ret, ↓dn_retz, ↓dn_retv, ↓dn_brk, ↓dn_cont, ↓dn_cs, ↓dn_sw, ↓dn_pop32, ↓dn_pop64, ↓dn_aop, ↓dn_call, ↓dn_max, ↓dn_min, ↓dn_acp, ↓dn_i2l, ↓dn_args0, ↓dn_args1, og_pad, og_ent, og_rlt, og_rle, og_rgt, og_rge, og_req, og_rne, og_padd, og_psub, og_pmul, List.getD_cons_zero, List.getD_cons_succ, List.set_cons_zero, List.set_cons_succ, List.length_cons, List.length_nil, List.cons_append, List.nil_append, List.replicate, List.append_nil, Nat.reduceAdd, Nat.reduceSub, Nat.reduceEqDiff, if_true, if_false, reduceIte, Int.reduceAdd, Int.reduceSub, Int.reduceMul, Int.reduceNeg, Int.reduceLT, Int.reduceLE, Int.cast_ofNat_Int, true_or, or_true, true_and, and_true, false_and, List.mem_cons, List.not_mem_nil, or_false, false_or, ne_eq, og_i32]
      rw [hy1.1.1]
      refine ⟨by omega, ?_⟩
      refine og_loop (sNg A) (fun t e2 h2 => (∃ c4, e2 = [16, 100, ((2 ^ sNp A : Nat) : Int), A 0 0 - 1 - t, c4]) ∧ (∀ i k, i ≠ 19 → h2 i k = h i k) ∧ bestOK h2 A H (A 0 0 - t)) ⟨⟨0, by simp⟩, hfr, fun g a b u hu => ?_⟩ ?_
      · have : g = A 0 0 := by omega
        subst this
        rw [hz u (by omega), Int.sub_self]
        rfl
      rintro t e2 h2 ht ⟨⟨c4, rfl⟩, hfr2, hb2⟩
      have hy2 : isY h2 100 A := isY_fr hy (fun i k a b => hfr2 i k (by omega))
      simp -implicitDefEqProofs only [↓dn_den, ↓dn_loc, ↓dn_k, ↓dn_add, ↓dn_sub, ↓dn_mul, ↓dn_div, ↓dn_rem, ↓dn_bop, ↓dn_ladd, ↓dn_lsub, ↓dn_lmul, ↓dn_ldiv, ↓dn_lrem, ↓dn_land, ↓dn_l2i, ↓dn_neg, ↓dn_get, ↓dn_fix, ↓dn_ald, ↓dn_gld, ↓dn_yld, ↓dn_len, ↓dn_gln, ↓dn_cc, ↓dn_cb, ↓dn_and, ↓dn_or, ↓dn_not, ↓dn_cite, ↓dn_ec, ↓dn_ei, ↓dn_skip, ↓dn_seq, ↓dn_set, ↓dn_inc, ↓dn_putf, ↓dn_putz, ↓dn_ast, ↓dn_exp, ↓dn_if, ↓dn_ret, ↓dn_retz, ↓dn_retv, ↓dn_brk, ↓dn_cont, ↓dn_cs, ↓dn_sw, ↓dn_pop32, ↓dn_pop64, ↓dn_aop, ↓dn_call, ↓dn_max, ↓dn_min, ↓dn_acp, ↓dn_i2l, ↓dn_args0, ↓dn_args1, og_pad, og_ent, og_rlt, og_rle, og_rgt, og_rge, og_req, og_rne, og_padd, og_psub, og_pmul, List.getD_cons_zero, List.getD_cons_succ, List.set_cons_zero, List.set_cons_succ, List.length_cons, List.length_nil, List.cons_append, List.nil_append, List.replicate, List.append_nil, Nat.reduceAdd, Nat.reduceSub, Nat.reduceEqDiff, if_true, if_false, reduceIte, Int.reduceAdd, Int.reduceSub, Int.reduceMul, Int.reduceNeg, Int.reduceLT, Int.reduceLE, Int.cast_ofNat_Int, true_or, or_true, true_and, and_true, false_and, List.mem_cons, List.not_mem_nil, or_false, false_or, ne_eq, og_i32]
      refine ⟨fun hge => ?_, fun hlt => ?_⟩
      · refine og_loop (2 ^ sNp A) (fun q e3 h3 => e3 = [16, 100, ((2 ^ sNp A : Nat) : Int), A 0 0 - 1 - t, (q : Int)] ∧ (∀ i k, i ≠ 19 → h3 i k = h i k) ∧ bestOK h3 A H (A 0 0 - t) ∧ ∀ u : Nat, u < q → h3 19 (256 * (A 0 0 - 1 - t) + u) = rB A H (t + 1) u) ⟨rfl, hfr2, hb2, fun u hu => by omega⟩ ?_
        rintro q e3 h3 hq ⟨rfl, hfr3, hb3, hz3⟩
        have hy3 : isY h3 100 A := isY_fr hy (fun i k a b => hfr3 i k (by omega))
        simp -implicitDefEqProofs only [↓dn_den, ↓dn_loc, ↓dn_k, ↓dn_add, ↓dn_sub, ↓dn_mul, ↓dn_div, ↓dn_rem, ↓dn_bop, ↓dn_ladd, ↓dn_lsub, ↓dn_lmul, ↓dn_ldiv, ↓dn_lrem, ↓dn_land, ↓dn_l2i, ↓dn_neg, ↓dn_get, ↓dn_fix, ↓dn_ald, ↓dn_gld, ↓dn_yld, ↓dn_len, ↓dn_gln, ↓dn_cc, ↓dn_cb, ↓dn_and, ↓dn_or, ↓dn_not, ↓dn_cite, ↓dn_ec, ↓dn_ei, ↓dn_skip, ↓dn_seq, ↓dn_set, ↓dn_inc, ↓dn_putf, ↓dn_putz, ↓dn_ast, ↓dn_exp, ↓dn_if, ↓dn_ret, ↓dn_retz, ↓dn_retv, ↓dn_brk, ↓dn_cont, ↓dn_cs, ↓dn_sw, ↓dn_pop32, ↓dn_pop64, ↓dn_aop, ↓dn_call, ↓dn_max, ↓dn_min, ↓dn_acp, ↓dn_i2l, ↓dn_args0, ↓dn_args1, og_pad, og_ent, og_rlt, og_rle, og_rgt, og_rge, og_req, og_rne, og_padd, og_psub, og_pmul, List.getD_cons_zero, List.getD_cons_succ, List.set_cons_zero, List.set_cons_succ, List.length_cons, List.length_nil, List.cons_append, List.nil_append, List.replicate, List.append_nil, Nat.reduceAdd, Nat.reduceSub, Nat.reduceEqDiff, if_true, if_false, reduceIte, Int.reduceAdd, Int.reduceSub, Int.reduceMul, Int.reduceNeg, Int.reduceLT, Int.reduceLE, Int.cast_ofNat_Int, true_or, or_true, true_and, and_true, false_and, List.mem_cons, List.not_mem_nil, or_false, false_or, ne_eq, og_i32]
        refine ⟨fun hlt => ?_, fun hge2 => ?_⟩
        · refine ⟨by omega, by omega, ?_⟩
          refine s_Rows_bestFrom (A := A) (H := H) (u := q) hy3 ho (fun g a b u hu => hb3 g (by omega) b u hu) (fun p hp => by rw [hfr3 _ _ (by decide)]; exact hh p hp) hH ⟨by omega, by omega⟩ (by omega) ?_
          have ej : (A 0 0 - (A 0 0 - 1 - (t : Int))).toNat = t + 1 := by omega
          rw [ej]
          refine ⟨by omega, by omega, by omega, og_nx_mk (by omega) ⟨by simp, fun j k hj => by rw [og_up_i hj]; exact hfr3 j k hj, fun g a b u hu => ?_, fun u hu => ?_⟩⟩
          · rw [og_up_k (by omega)]; exact hb3 g a b u hu
          · by_cases e : u = q
            · subst e; rw [og_up_eq]
            · rw [og_up_k (by omega)]; exact hz3 u (by omega)
        · refine ⟨by omega, og_nx_mk (by omega) ⟨⟨(q : Int), by simp; omega⟩, hfr3, fun g a b u hu => ?_⟩⟩
          by_cases e : g = A 0 0 - 1 - t
          · subst e
            have ej : (A 0 0 - (A 0 0 - 1 - (t : Int))).toNat = t + 1 := by omega
            rw [ej]; exact hz3 u (by omega)
          · exact hb3 g (by omega) b u hu
      · exact ⟨⟨_, _, rfl⟩, hfr2, fun g a b u hu => hb2 g (by omega) b u hu⟩
    · rintro e2 h2 ⟨⟨c3, c4, rfl⟩, hfr2, hb2⟩
      simp -implicitDefEqProofs only [↓dn_den, ↓dn_loc, ↓dn_k, ↓dn_add, ↓dn_sub, ↓dn_mul, ↓dn_div, ↓dn_rem, ↓dn_bop, ↓dn_ladd, ↓dn_lsub, ↓dn_lmul, ↓dn_ldiv, ↓dn_lrem, ↓dn_land, ↓dn_l2i, ↓dn_neg, ↓dn_get, ↓dn_fix, ↓dn_ald, ↓dn_gld, ↓dn_yld, ↓dn_len, ↓dn_gln, ↓dn_cc, ↓dn_cb, ↓dn_and, ↓dn_or, ↓dn_not, ↓dn_cite, ↓dn_ec, ↓dn_ei, ↓dn_skip, ↓dn_seq, ↓dn_set, ↓dn_inc, ↓dn_putf, ↓dn_putz, ↓dn_ast, ↓dn_exp, ↓dn_if, ↓dn_ret, ↓dn_retz, ↓dn_retv, ↓dn_brk, ↓dn_cont, ↓dn_cs, ↓dn_sw, ↓dn_pop32, ↓dn_pop64, ↓dn_aop, ↓dn_call, ↓dn_max, ↓dn_min, ↓dn_acp, ↓dn_i2l, ↓dn_args0, ↓dn_args1, og_pad, og_ent, og_rlt, og_rle, og_rgt, og_rge, og_req, og_rne, og_padd, og_psub, og_pmul, List.getD_cons_zero, List.getD_cons_succ, List.set_cons_zero, List.set_cons_succ, List.length_cons, List.length_nil, List.cons_append, List.nil_append, List.replicate, List.append_nil, Nat.reduceAdd, Nat.reduceSub, Nat.reduceEqDiff, if_true, if_false, reduceIte, Int.reduceAdd, Int.reduceSub, Int.reduceMul, Int.reduceNeg, Int.reduceLT, Int.reduceLE, Int.cast_ofNat_Int, true_or, or_true, true_and, and_true, false_and, List.mem_cons, List.not_mem_nil, or_false, false_or, ne_eq, og_i32]
      refine og_loop (sNg A) (fun i e3 h3 => e3 = [16, 100, ((2 ^ sNp A : Nat) : Int), (rU A H i : Int), (i : Int)] ∧ (∀ j k, j ≠ 18 → j ≠ 19 → h3 j k = h j k) ∧ bestOK h3 A H 0 ∧ ∀ g : Nat, g < i → h3 18 g = rC A H g) ⟨rfl, fun j k _ b => hfr2 j k b, hb2, fun g hg => by omega⟩ ?_
      rintro i e3 h3 hi ⟨rfl, hfr3, hb3, hc3⟩
      have hy3 : isY h3 100 A := isY_fr hy (fun i k a b => hfr3 i k (by omega) (by omega))
      simp -implicitDefEqProofs only [↓dn_den, ↓dn_loc, ↓dn_k, ↓dn_add, ↓dn_sub, ↓dn_mul, ↓dn_div, ↓dn_rem, ↓dn_bop, ↓dn_ladd, ↓dn_lsub, ↓dn_lmul, ↓dn_ldiv, ↓dn_lrem, ↓dn_land, ↓dn_l2i, ↓dn_neg, ↓dn_get, ↓dn_fix, ↓dn_ald, ↓dn_gld, ↓dn_yld, ↓dn_len, ↓dn_gln, ↓dn_cc, ↓dn_cb, ↓dn_and, ↓dn_or, ↓dn_not, ↓dn_cite, ↓dn_ec, ↓dn_ei, ↓dn_skip, ↓dn_seq, ↓dn_set, ↓dn_inc, ↓dn_putf, ↓dn_putz, ↓dn_ast, ↓dn_exp, ↓dn_if, ↓dn_ret, ↓dn_retz, ↓dn_retv, ↓dn_brk, ↓dn_cont, ↓dn_cs, ↓dn_sw, ↓dn_pop32, ↓dn_pop64, ↓dn_aop, ↓dn_call, ↓dn_max, ↓dn_min, ↓dn_acp, ↓dn_i2l, ↓dn_args0, ↓dn_args1, og_pad, og_ent, og_rlt, og_rle, og_rgt, og_rge, og_req, og_rne, og_padd, og_psub, og_pmul, List.getD_cons_zero, List.getD_cons_succ, List.set_cons_zero, List.set_cons_succ, List.length_cons, List.length_nil, List.cons_append, List.nil_append, List.replicate, List.append_nil, Nat.reduceAdd, Nat.reduceSub, Nat.reduceEqDiff, if_true, if_false, reduceIte, Int.reduceAdd, Int.reduceSub, Int.reduceMul, Int.reduceNeg, Int.reduceLT, Int.reduceLE, Int.cast_ofNat_Int, true_or, or_true, true_and, and_true, false_and, List.mem_cons, List.not_mem_nil, or_false, false_or, ne_eq, og_i32]
      rw [hy3.1.1]
      refine ⟨fun hlt => ?_, fun hge => ?_⟩
      · have hu := rU_lt (A := A) (H := H) i
        refine s_Rows_firstBest (A := A) (H := H) (u := rU A H i) hy3 ho (fun g a b u hu => hb3 g (by omega) b u hu) (fun p hp => by rw [hfr3 _ _ (by decide) (by decide)]; exact hh p hp) hH ⟨by omega, by omega⟩ hu ?_
        have ej : (A 0 0 - ((i : Int) + 1)).toNat = sNg A - (i + 1) := by omega
        rw [ej]
        have hcr := rC_rg (A := A) (H := H) (i := i)
        unfold rC at hcr
        rw [og_up_eq]
        have fin : ∀ v : Int, v = (rU A H (i + 1) : Int) → og_nx (sNg A) (fun i e3 h3 => e3 = [16, 100, ((2 ^ sNp A : Nat) : Int), (rU A H i : Int), (i : Int)] ∧ (∀ j k, j ≠ 18 → j ≠ 19 → h3 j k = h j k) ∧ bestOK h3 A H 0 ∧ ∀ g : Nat, g < i → h3 18 g = rC A H g) i [16, 100, ((2 ^ sNp A : Nat) : Int), v, (i : Int) + 1] (og_up h3 18 (i : Int) (rCh A H (sNg A - (i + 1)) (rU A H i))) := by
          intro v hv
          refine og_nx_mk (by omega) ⟨by rw [hv]; simp, fun j k a b => by rw [og_up_i a]; exact hfr3 j k a b, fun g a b u hu => by rw [og_up_i (by decide)]; exact hb3 g a b u hu, fun g hg => ?_⟩
          by_cases e : g = i
          · subst e; rw [og_up_eq]; rfl
          · rw [og_up_k (by omega)]; exact hc3 g (by omega)
        refine ⟨by omega, by omega, by omega, by omega, fun hne => ?_, fun he => ?_⟩
        · have hbo := bt_or (rU A H i) (by omega) (rCh A H (sNg A - (i + 1)) (rU A H i)).toNat (by omega)
          rw [Int.toNat_of_nonneg (by omega)] at hbo
          rw [hbo]
          refine ⟨by omega, by omega, by omega, fin _ ?_⟩
          rw [rU_s, if_neg hne]
        · refine ⟨by omega, fin _ ?_⟩
          rw [rU_s, if_pos (by simpa using he)]
      · have e : i = sNg A := by omega
        subst e
        exact hK h3 hfr3 hc3
theorem s_Rows_countFilled (hy : isY h 100 A) (ho : okY A) (hc : ∀ g : Nat, g < sNg A → h 18 (g : Int) = rC A H g) (hK : K (rN A H (sNg A)) h) : m_Rows_countFilled [16, 100] h K := by
  have h6 := ho.1
  have hng : sNg A = (A 0 0).toNat := rfl
  have rg : ∀ i, 0 ≤ rN A H i ∧ rN A H i ≤ i := by
    intro i
    induction i with
    | zero => exact ⟨Int.le_refl 0, Int.le_refl 0⟩
    | succ i ih => rw [rN_s]; split <;> omega
  unfold m_Rows_countFilled
  simp -implicitDefEqProofs only [↓dn_den, ↓dn_loc, ↓dn_k, ↓dn_add, ↓dn_sub, ↓dn_mul, ↓dn_div, ↓dn_rem, ↓dn_bop, ↓dn_ladd, ↓dn_lsub, ↓dn_lmul, ↓dn_ldiv, ↓dn_lrem, ↓dn_land, ↓dn_l2i, ↓dn_neg, ↓dn_get, ↓dn_fix, ↓dn_ald, ↓dn_gld, ↓dn_yld, ↓dn_len, ↓dn_gln, ↓dn_cc, ↓dn_cb, ↓dn_and, ↓dn_or, ↓dn_not, ↓dn_cite, ↓dn_ec, ↓dn_ei, ↓dn_skip, ↓dn_seq, ↓dn_set, ↓dn_inc, ↓dn_putf, ↓dn_putz, ↓dn_ast, ↓dn_exp, ↓dn_if, ↓dn_ret, ↓dn_retz, ↓dn_retv, ↓dn_brk, ↓dn_cont, ↓dn_cs, ↓dn_sw, ↓dn_pop32, ↓dn_pop64, ↓dn_aop, ↓dn_call, ↓dn_max, ↓dn_min, ↓dn_acp, ↓dn_i2l, ↓dn_args0, ↓dn_args1, og_pad, og_ent, og_rlt, og_rle, og_rgt, og_rge, og_req, og_rne, og_padd, og_psub, og_pmul, List.getD_cons_zero, List.getD_cons_succ, List.set_cons_zero, List.set_cons_succ, List.length_cons, List.length_nil, List.cons_append, List.nil_append, List.replicate, List.append_nil, Nat.reduceAdd, Nat.reduceSub, Nat.reduceEqDiff, if_true, if_false, reduceIte, Int.reduceAdd, Int.reduceSub, Int.reduceMul, Int.reduceNeg, Int.reduceLT, Int.reduceLE, Int.cast_ofNat_Int, true_or, or_true, true_and, and_true, false_and, List.mem_cons, List.not_mem_nil, or_false, false_or, ne_eq]
  refine ⟨fun e1 h1 => h1 = h ∧ ∃ c3, e1 = [16, 100, rN A H (sNg A), c3], ?_, ?_⟩
  · simp -implicitDefEqProofs only [↓dn_den, ↓dn_loc, ↓dn_k, ↓dn_add, ↓dn_sub, ↓dn_mul, ↓dn_div, ↓dn_rem, ↓dn_bop, ↓dn_ladd, ↓dn_lsub, ↓dn_lmul, ↓dn_ldiv, ↓dn_lrem, ↓dn_land, ↓dn_l2i, ↓dn_neg, ↓dn_get, ↓dn_fix, ↓dn_ald, ↓dn_gld, ↓dn_yld, ↓dn_len, ↓dn_gln, ↓dn_cc, ↓dn_cb, ↓dn_and, ↓dn_or, ↓dn_not, ↓dn_cite, ↓dn_ec, ↓dn_ei, ↓dn_skip, ↓dn_seq, ↓dn_set, ↓dn_inc, ↓dn_putf, ↓dn_putz, ↓dn_ast, ↓dn_exp, ↓dn_if, ↓dn_ret, ↓dn_retz, ↓dn_retv, ↓dn_brk, ↓dn_cont, ↓dn_cs, ↓dn_sw, ↓dn_pop32, ↓dn_pop64, ↓dn_aop, ↓dn_call, ↓dn_max, ↓dn_min, ↓dn_acp, ↓dn_i2l, ↓dn_args0, ↓dn_args1, og_pad, og_ent, og_rlt, og_rle, og_rgt, og_rge, og_req, og_rne, og_padd, og_psub, og_pmul, List.getD_cons_zero, List.getD_cons_succ, List.set_cons_zero, List.set_cons_succ, List.length_cons, List.length_nil, List.cons_append, List.nil_append, List.replicate, List.append_nil, Nat.reduceAdd, Nat.reduceSub, Nat.reduceEqDiff, if_true, if_false, reduceIte, Int.reduceAdd, Int.reduceSub, Int.reduceMul, Int.reduceNeg, Int.reduceLT, Int.reduceLE, Int.cast_ofNat_Int, true_or, or_true, true_and, and_true, false_and, List.mem_cons, List.not_mem_nil, or_false, false_or, ne_eq]
    refine og_loop (sNg A) (fun i e1 h1 => h1 = h ∧ e1 = [16, 100, rN A H i, (i : Int)]) ⟨rfl, rfl⟩ ?_
    rintro i e1 h1 hi ⟨rfl, rfl⟩
    simp -implicitDefEqProofs only [↓dn_den, ↓dn_loc, ↓dn_k, ↓dn_add, ↓dn_sub, ↓dn_mul, ↓dn_div, ↓dn_rem, ↓dn_bop, ↓dn_ladd, ↓dn_lsub, ↓dn_lmul, ↓dn_ldiv, ↓dn_lrem, ↓dn_land, ↓dn_l2i, ↓dn_neg, ↓dn_get, ↓dn_fix, ↓dn_ald, ↓dn_gld, ↓dn_yld, ↓dn_len, ↓dn_gln, ↓dn_cc, ↓dn_cb, ↓dn_and, ↓dn_or, ↓dn_not, ↓dn_cite, ↓dn_ec, ↓dn_ei, ↓dn_skip, ↓dn_seq, ↓dn_set, ↓dn_inc, ↓dn_putf, ↓dn_putz, ↓dn_ast, ↓dn_exp, ↓dn_if, ↓dn_ret, ↓dn_retz, ↓dn_retv, ↓dn_brk, ↓dn_cont, ↓dn_cs, ↓dn_sw, ↓dn_pop32, ↓dn_pop64, ↓dn_aop, ↓dn_call, ↓dn_max, ↓dn_min, ↓dn_acp, ↓dn_i2l, ↓dn_args0, ↓dn_args1, og_pad, og_ent, og_rlt, og_rle, og_rgt, og_rge, og_req, og_rne, og_padd, og_psub, og_pmul, List.getD_cons_zero, List.getD_cons_succ, List.set_cons_zero, List.set_cons_succ, List.length_cons, List.length_nil, List.cons_append, List.nil_append, List.replicate, List.append_nil, Nat.reduceAdd, Nat.reduceSub, Nat.reduceEqDiff, if_true, if_false, reduceIte, Int.reduceAdd, Int.reduceSub, Int.reduceMul, Int.reduceNeg, Int.reduceLT, Int.reduceLE, Int.cast_ofNat_Int, true_or, or_true, true_and, and_true, false_and, List.mem_cons, List.not_mem_nil, or_false, false_or, ne_eq, og_i32]
    rw [hy.1.1]
    have r := rg i
    refine ⟨fun hlt => ?_, fun hge => ?_⟩
    · rw [hc i (by omega)]
      refine ⟨by omega, by omega, fun hz => ⟨by omega, by omega, og_nx_mk (by omega) ⟨rfl, ?_⟩⟩, fun hz => ⟨by omega, og_nx_mk (by omega) ⟨rfl, ?_⟩⟩⟩
      · rw [rN_s, if_neg hz]; simp
      · rw [rN_s, if_pos (by simpa using hz)]; simp
    · have e : i = sNg A := by omega
      subst e
      exact ⟨_, rfl⟩
  · rintro e1 h1 ⟨rfl, c3, rfl⟩
    simp -implicitDefEqProofs only [↓dn_den, ↓dn_loc, ↓dn_k, ↓dn_add, ↓dn_sub, ↓dn_mul, ↓dn_div, ↓dn_rem, ↓dn_bop, ↓dn_ladd, ↓dn_lsub, ↓dn_lmul, ↓dn_ldiv, ↓dn_lrem, ↓dn_land, ↓dn_l2i, ↓dn_neg, ↓dn_get, ↓dn_fix, ↓dn_ald, ↓dn_gld, ↓dn_yld, ↓dn_len, ↓dn_gln, ↓dn_cc, ↓dn_cb, ↓dn_and, ↓dn_or, ↓dn_not, ↓dn_cite, ↓dn_ec, ↓dn_ei, ↓dn_skip, ↓dn_seq, ↓dn_set, ↓dn_inc, ↓dn_putf, ↓dn_putz, ↓dn_ast, ↓dn_exp, ↓dn_if, ↓dn_ret, ↓dn_retz, ↓dn_retv, ↓dn_brk, ↓dn_cont, ↓dn_cs, ↓dn_sw, ↓dn_pop32, ↓dn_pop64, ↓dn_aop, ↓dn_call, ↓dn_max, ↓dn_min, ↓dn_acp, ↓dn_i2l, ↓dn_args0, ↓dn_args1, og_pad, og_ent, og_rlt, og_rle, og_rgt, og_rge, og_req, og_rne, og_padd, og_psub, og_pmul, List.getD_cons_zero, List.getD_cons_succ, List.set_cons_zero, List.set_cons_succ, List.length_cons, List.length_nil, List.cons_append, List.nil_append, List.replicate, List.append_nil, Nat.reduceAdd, Nat.reduceSub, Nat.reduceEqDiff, if_true, if_false, reduceIte, Int.reduceAdd, Int.reduceSub, Int.reduceMul, Int.reduceNeg, Int.reduceLT, Int.reduceLE, Int.cast_ofNat_Int, true_or, or_true, true_and, and_true, false_and, List.mem_cons, List.not_mem_nil, or_false, false_or, ne_eq]
    exact hK
theorem s_Rows_wholeHarm (hy : isY h 100 A) (ho : okY A) (hh : harmOK h A H) (hH : ∀ p, 0 ≤ H p ∧ H p ≤ 999) (hc : ∀ g : Nat, g < sNg A → h 18 (g : Int) = rC A H g) (hK : K (rW A H (sNg A)) h) : m_Rows_wholeHarm [16, 100] h K := by
  have h6 := ho.1
  have hng : sNg A = (A 0 0).toNat := rfl
  have hnp : sNp A = (A 0 1).toNat := rfl
  unfold m_Rows_wholeHarm
  simp -implicitDefEqProofs only [↓dn_den, ↓dn_loc, ↓dn_k, ↓dn_add, ↓dn_sub, ↓dn_mul, ↓dn_div, ↓dn_rem, ↓dn_bop, ↓dn_ladd, ↓dn_lsub, ↓dn_lmul, ↓dn_ldiv, ↓dn_lrem, ↓dn_land, ↓dn_l2i, ↓dn_neg, ↓dn_get, ↓dn_fix, ↓dn_ald, ↓dn_gld, ↓dn_yld, ↓dn_len, ↓dn_gln, ↓dn_cc, ↓dn_cb, ↓dn_and, ↓dn_or, ↓dn_not, ↓dn_cite, ↓dn_ec, ↓dn_ei, ↓dn_skip, ↓dn_seq, ↓dn_set, ↓dn_inc, ↓dn_putf, ↓dn_putz, ↓dn_ast, ↓dn_exp, ↓dn_if, ↓dn_ret, ↓dn_retz, ↓dn_retv, ↓dn_brk, ↓dn_cont, ↓dn_cs, ↓dn_sw, ↓dn_pop32, ↓dn_pop64, ↓dn_aop, ↓dn_call, ↓dn_max, ↓dn_min, ↓dn_acp, ↓dn_i2l, ↓dn_args0, ↓dn_args1, og_pad, og_ent, og_rlt, og_rle, og_rgt, og_rge, og_req, og_rne, og_padd, og_psub, og_pmul, List.getD_cons_zero, List.getD_cons_succ, List.set_cons_zero, List.set_cons_succ, List.length_cons, List.length_nil, List.cons_append, List.nil_append, List.replicate, List.append_nil, Nat.reduceAdd, Nat.reduceSub, Nat.reduceEqDiff, if_true, if_false, reduceIte, Int.reduceAdd, Int.reduceSub, Int.reduceMul, Int.reduceNeg, Int.reduceLT, Int.reduceLE, Int.cast_ofNat_Int, true_or, or_true, true_and, and_true, false_and, List.mem_cons, List.not_mem_nil, or_false, false_or, ne_eq]
  refine ⟨fun e1 h1 => h1 = h ∧ ∃ c3, e1 = [16, 100, rW A H (sNg A), c3], ?_, ?_⟩
  · simp -implicitDefEqProofs only [↓dn_den, ↓dn_loc, ↓dn_k, ↓dn_add, ↓dn_sub, ↓dn_mul, ↓dn_div, ↓dn_rem, ↓dn_bop, ↓dn_ladd, ↓dn_lsub, ↓dn_lmul, ↓dn_ldiv, ↓dn_lrem, ↓dn_land, ↓dn_l2i, ↓dn_neg, ↓dn_get, ↓dn_fix, ↓dn_ald, ↓dn_gld, ↓dn_yld, ↓dn_len, ↓dn_gln, ↓dn_cc, ↓dn_cb, ↓dn_and, ↓dn_or, ↓dn_not, ↓dn_cite, ↓dn_ec, ↓dn_ei, ↓dn_skip, ↓dn_seq, ↓dn_set, ↓dn_inc, ↓dn_putf, ↓dn_putz, ↓dn_ast, ↓dn_exp, ↓dn_if, ↓dn_ret, ↓dn_retz, ↓dn_retv, ↓dn_brk, ↓dn_cont, ↓dn_cs, ↓dn_sw, ↓dn_pop32, ↓dn_pop64, ↓dn_aop, ↓dn_call, ↓dn_max, ↓dn_min, ↓dn_acp, ↓dn_i2l, ↓dn_args0, ↓dn_args1, og_pad, og_ent, og_rlt, og_rle, og_rgt, og_rge, og_req, og_rne, og_padd, og_psub, og_pmul, List.getD_cons_zero, List.getD_cons_succ, List.set_cons_zero, List.set_cons_succ, List.length_cons, List.length_nil, List.cons_append, List.nil_append, List.replicate, List.append_nil, Nat.reduceAdd, Nat.reduceSub, Nat.reduceEqDiff, if_true, if_false, reduceIte, Int.reduceAdd, Int.reduceSub, Int.reduceMul, Int.reduceNeg, Int.reduceLT, Int.reduceLE, Int.cast_ofNat_Int, true_or, or_true, true_and, and_true, false_and, List.mem_cons, List.not_mem_nil, or_false, false_or, ne_eq]
    refine og_loop (sNg A) (fun i e1 h1 => h1 = h ∧ e1 = [16, 100, rW A H i, (i : Int)]) ⟨rfl, rfl⟩ ?_
    rintro i e1 h1 hi ⟨rfl, rfl⟩
    simp -implicitDefEqProofs only [↓dn_den, ↓dn_loc, ↓dn_k, ↓dn_add, ↓dn_sub, ↓dn_mul, ↓dn_div, ↓dn_rem, ↓dn_bop, ↓dn_ladd, ↓dn_lsub, ↓dn_lmul, ↓dn_ldiv, ↓dn_lrem, ↓dn_land, ↓dn_l2i, ↓dn_neg, ↓dn_get, ↓dn_fix, ↓dn_ald, ↓dn_gld, ↓dn_yld, ↓dn_len, ↓dn_gln, ↓dn_cc, ↓dn_cb, ↓dn_and, ↓dn_or, ↓dn_not, ↓dn_cite, ↓dn_ec, ↓dn_ei, ↓dn_skip, ↓dn_seq, ↓dn_set, ↓dn_inc, ↓dn_putf, ↓dn_putz, ↓dn_ast, ↓dn_exp, ↓dn_if, ↓dn_ret, ↓dn_retz, ↓dn_retv, ↓dn_brk, ↓dn_cont, ↓dn_cs, ↓dn_sw, ↓dn_pop32, ↓dn_pop64, ↓dn_aop, ↓dn_call, ↓dn_max, ↓dn_min, ↓dn_acp, ↓dn_i2l, ↓dn_args0, ↓dn_args1, og_pad, og_ent, og_rlt, og_rle, og_rgt, og_rge, og_req, og_rne, og_padd, og_psub, og_pmul, List.getD_cons_zero, List.getD_cons_succ, List.set_cons_zero, List.set_cons_succ, List.length_cons, List.length_nil, List.cons_append, List.nil_append, List.replicate, List.append_nil, Nat.reduceAdd, Nat.reduceSub, Nat.reduceEqDiff, if_true, if_false, reduceIte, Int.reduceAdd, Int.reduceSub, Int.reduceMul, Int.reduceNeg, Int.reduceLT, Int.reduceLE, Int.cast_ofNat_Int, true_or, or_true, true_and, and_true, false_and, List.mem_cons, List.not_mem_nil, or_false, false_or, ne_eq, og_i32]
    rw [hy.1.1]
    have r := rN_rg (A := A) hH i
    have rc := rC_rg (A := A) (H := H) (i := i)
    refine ⟨fun hlt => ?_, fun hge => ?_⟩
    · rw [hc i (by omega)]
      refine ⟨by omega, by omega, fun hz => ?_, fun hz => ⟨by omega, og_nx_mk (by omega) ⟨rfl, ?_⟩⟩⟩
      · have hp := hh (rC A H i).toNat (by omega)
        rw [Int.toNat_of_nonneg (by omega)] at hp
        have := hH (rC A H i).toNat
        rw [hp]
        refine ⟨by omega, by omega, by omega, by omega, by omega, by omega, og_nx_mk (by omega) ⟨rfl, ?_⟩⟩
        rw [rW_s, if_neg hz]; simp
      · rw [rW_s, if_pos (by simpa using hz)]; simp
    · have e : i = sNg A := by omega
      subst e
      exact ⟨_, rfl⟩
  · rintro e1 h1 ⟨rfl, c3, rfl⟩
    simp -implicitDefEqProofs only [↓dn_den, ↓dn_loc, ↓dn_k, ↓dn_add, ↓dn_sub, ↓dn_mul, ↓dn_div, ↓dn_rem, ↓dn_bop, ↓dn_ladd, ↓dn_lsub, ↓dn_lmul, ↓dn_ldiv, ↓dn_lrem, ↓dn_land, ↓dn_l2i, ↓dn_neg, ↓dn_get, ↓dn_fix, ↓dn_ald, ↓dn_gld, ↓dn_yld, ↓dn_len, ↓dn_gln, ↓dn_cc, ↓dn_cb, ↓dn_and, ↓dn_or, ↓dn_not, ↓dn_cite, ↓dn_ec, ↓dn_ei, ↓dn_skip, ↓dn_seq, ↓dn_set, ↓dn_inc, ↓dn_putf, ↓dn_putz, ↓dn_ast, ↓dn_exp, ↓dn_if, ↓dn_ret, ↓dn_retz, ↓dn_retv, ↓dn_brk, ↓dn_cont, ↓dn_cs, ↓dn_sw, ↓dn_pop32, ↓dn_pop64, ↓dn_aop, ↓dn_call, ↓dn_max, ↓dn_min, ↓dn_acp, ↓dn_i2l, ↓dn_args0, ↓dn_args1, og_pad, og_ent, og_rlt, og_rle, og_rgt, og_rge, og_req, og_rne, og_padd, og_psub, og_pmul, List.getD_cons_zero, List.getD_cons_succ, List.set_cons_zero, List.set_cons_succ, List.length_cons, List.length_nil, List.cons_append, List.nil_append, List.replicate, List.append_nil, Nat.reduceAdd, Nat.reduceSub, Nat.reduceEqDiff, if_true, if_false, reduceIte, Int.reduceAdd, Int.reduceSub, Int.reduceMul, Int.reduceNeg, Int.reduceLT, Int.reduceLE, Int.cast_ofNat_Int, true_or, or_true, true_and, and_true, false_and, List.mem_cons, List.not_mem_nil, or_false, false_or, ne_eq]
    exact hK
theorem c_row {w : Int} (hw : -2147483648 ≤ w ∧ w ≤ 2147483647) (hc : isC h A P) (hP : okP P) (ho : okY A) (hK : ∀ h', frS h h' → K (sRow P A w) h') : m_OG_row [0, w] h K := by
  have h6 := ho.1
  have hng : sNg A = (A 0 0).toNat := rfl
  have hnp : sNp A = (A 0 1).toNat := rfl
  unfold m_OG_row
  simp -implicitDefEqProofs only [↓dn_den, ↓dn_loc, ↓dn_k, ↓dn_add, ↓dn_sub, ↓dn_mul, ↓dn_div, ↓dn_rem, ↓dn_bop, ↓dn_ladd, ↓dn_lsub, ↓dn_lmul, ↓dn_ldiv, ↓dn_lrem, ↓dn_land, ↓dn_l2i, ↓dn_neg, ↓dn_get, ↓dn_fix, ↓dn_ald, ↓dn_gld, ↓dn_yld, ↓dn_len, ↓dn_gln, ↓dn_cc, ↓dn_cb, ↓dn_and, ↓dn_or, ↓dn_not, ↓dn_cite, ↓dn_ec, ↓dn_ei, ↓dn_skip, ↓dn_seq, ↓dn_set, ↓dn_inc, ↓dn_putf, ↓dn_putz, ↓dn_ast, ↓dn_exp, ↓dn_if, ↓dn_ret, ↓dn_retz, ↓dn_retv, ↓dn_brk, ↓dn_cont, ↓dn_cs, ↓dn_sw, ↓dn_pop32, ↓dn_pop64, ↓dn_aop, ↓dn_call, ↓dn_max, ↓dn_min, ↓dn_acp, ↓dn_i2l, ↓dn_args0, ↓dn_args1, og_pad, og_ent, og_rlt, og_rle, og_rgt, og_rge, og_req, og_rne, og_padd, og_psub, og_pmul, List.getD_cons_zero, List.getD_cons_succ, List.set_cons_zero, List.set_cons_succ, List.length_cons, List.length_nil, List.cons_append, List.nil_append, List.replicate, List.append_nil, Nat.reduceAdd, Nat.reduceSub, Nat.reduceEqDiff, if_true, if_false, reduceIte, Int.reduceAdd, Int.reduceSub, Int.reduceMul, Int.reduceNeg, Int.reduceLT, Int.reduceLE, Int.cast_ofNat_Int, true_or, or_true, true_and, and_true, false_and, List.mem_cons, List.not_mem_nil, or_false, false_or, ne_eq, og_i32]
  rw [hc.1.1.1]
  unfold sRow at hK
  refine ⟨fun z => ?_, fun n1 => ⟨by omega, fun z => ?_, fun n2 => ?_⟩⟩
  · rw [if_neg (by omega)] at hK; exact hK h frS_rf
  · rw [if_neg (by omega)] at hK; exact hK h frS_rf
  rw [if_pos (by omega)] at hK
  refine ⟨fun e1 h1 => (∃ c2, e1 = [0, w, c2]) ∧ frS h h1 ∧ harmOK h1 A (sHm P A), ?_, ?_⟩
  · simp -implicitDefEqProofs only [↓dn_den, ↓dn_loc, ↓dn_k, ↓dn_add, ↓dn_sub, ↓dn_mul, ↓dn_div, ↓dn_rem, ↓dn_bop, ↓dn_ladd, ↓dn_lsub, ↓dn_lmul, ↓dn_ldiv, ↓dn_lrem, ↓dn_land, ↓dn_l2i, ↓dn_neg, ↓dn_get, ↓dn_fix, ↓dn_ald, ↓dn_gld, ↓dn_yld, ↓dn_len, ↓dn_gln, ↓dn_cc, ↓dn_cb, ↓dn_and, ↓dn_or, ↓dn_not, ↓dn_cite, ↓dn_ec, ↓dn_ei, ↓dn_skip, ↓dn_seq, ↓dn_set, ↓dn_inc, ↓dn_putf, ↓dn_putz, ↓dn_ast, ↓dn_exp, ↓dn_if, ↓dn_ret, ↓dn_retz, ↓dn_retv, ↓dn_brk, ↓dn_cont, ↓dn_cs, ↓dn_sw, ↓dn_pop32, ↓dn_pop64, ↓dn_aop, ↓dn_call, ↓dn_max, ↓dn_min, ↓dn_acp, ↓dn_i2l, ↓dn_args0, ↓dn_args1, og_pad, og_ent, og_rlt, og_rle, og_rgt, og_rge, og_req, og_rne, og_padd, og_psub, og_pmul, List.getD_cons_zero, List.getD_cons_succ, List.set_cons_zero, List.set_cons_succ, List.length_cons, List.length_nil, List.cons_append, List.nil_append, List.replicate, List.append_nil, Nat.reduceAdd, Nat.reduceSub, Nat.reduceEqDiff, if_true, if_false, reduceIte, Int.reduceAdd, Int.reduceSub, Int.reduceMul, Int.reduceNeg, Int.reduceLT, Int.reduceLE, Int.cast_ofNat_Int, true_or, or_true, true_and, and_true, false_and, List.mem_cons, List.not_mem_nil, or_false, false_or, ne_eq]
    refine og_loop (sNp A) (fun i e1 h1 => e1 = [0, w, (i : Int)] ∧ frS h h1 ∧ ∀ p : Nat, p < i → h1 17 p = sHm P A p) ⟨rfl, frS_rf, fun p hp => by omega⟩ ?_
    rintro i e1 h1 hi ⟨rfl, hS, hz⟩
    have hc1 := isC_S hc hS
    simp -implicitDefEqProofs only [↓dn_den, ↓dn_loc, ↓dn_k, ↓dn_add, ↓dn_sub, ↓dn_mul, ↓dn_div, ↓dn_rem, ↓dn_bop, ↓dn_ladd, ↓dn_lsub, ↓dn_lmul, ↓dn_ldiv, ↓dn_lrem, ↓dn_land, ↓dn_l2i, ↓dn_neg, ↓dn_get, ↓dn_fix, ↓dn_ald, ↓dn_gld, ↓dn_yld, ↓dn_len, ↓dn_gln, ↓dn_cc, ↓dn_cb, ↓dn_and, ↓dn_or, ↓dn_not, ↓dn_cite, ↓dn_ec, ↓dn_ei, ↓dn_skip, ↓dn_seq, ↓dn_set, ↓dn_inc, ↓dn_putf, ↓dn_putz, ↓dn_ast, ↓dn_exp, ↓dn_if, ↓dn_ret, ↓dn_retz, ↓dn_retv, ↓dn_brk, ↓dn_cont, ↓dn_cs, ↓dn_sw, ↓dn_pop32, ↓dn_pop64, ↓dn_aop, ↓dn_call, ↓dn_max, ↓dn_min, ↓dn_acp, ↓dn_i2l, ↓dn_args0, ↓dn_args1, og_pad, og_ent, og_rlt, og_rle, og_rgt, og_rge, og_req, og_rne, og_padd, og_psub, og_pmul, List.getD_cons_zero, List.getD_cons_succ, List.set_cons_zero, List.set_cons_succ, List.length_cons, List.length_nil, List.cons_append, List.nil_append, List.replicate, List.append_nil, Nat.reduceAdd, Nat.reduceSub, Nat.reduceEqDiff, if_true, if_false, reduceIte, Int.reduceAdd, Int.reduceSub, Int.reduceMul, Int.reduceNeg, Int.reduceLT, Int.reduceLE, Int.cast_ofNat_Int, true_or, or_true, true_and, and_true, false_and, List.mem_cons, List.not_mem_nil, or_false, false_or, ne_eq, og_i32]
    rw [hc1.1.1.2.1]
    refine ⟨fun hlt => ?_, fun hge => ?_⟩
    · refine c_harmOf hc1 hP ⟨ho, by omega, hlt⟩ (fun h2 hf2 => ?_)
      refine ⟨by omega, by omega, by omega, og_nx_mk (by omega) ⟨by simp, fun j k hj => ?_, fun p hp => ?_⟩⟩
      · rw [og_up_i (by omega), hf2 j k (by omega)]; exact hS j k hj
      · by_cases e : p = i
        · subst e; rw [og_up_eq]; rfl
        · rw [og_up_k (by omega), hf2 _ _ (by decide)]; exact hz p (by omega)
    · have e : i = sNp A := by omega
      subst e
      exact ⟨⟨_, rfl⟩, hS, hz⟩
  · rintro e1 h1 ⟨⟨c2, rfl⟩, hS, hh⟩
    have hc1 := isC_S hc hS
    simp -implicitDefEqProofs only [↓dn_den, ↓dn_loc, ↓dn_k, ↓dn_add, ↓dn_sub, ↓dn_mul, ↓dn_div, ↓dn_rem, ↓dn_bop, ↓dn_ladd, ↓dn_lsub, ↓dn_lmul, ↓dn_ldiv, ↓dn_lrem, ↓dn_land, ↓dn_l2i, ↓dn_neg, ↓dn_get, ↓dn_fix, ↓dn_ald, ↓dn_gld, ↓dn_yld, ↓dn_len, ↓dn_gln, ↓dn_cc, ↓dn_cb, ↓dn_and, ↓dn_or, ↓dn_not, ↓dn_cite, ↓dn_ec, ↓dn_ei, ↓dn_skip, ↓dn_seq, ↓dn_set, ↓dn_inc, ↓dn_putf, ↓dn_putz, ↓dn_ast, ↓dn_exp, ↓dn_if, ↓dn_ret, ↓dn_retz, ↓dn_retv, ↓dn_brk, ↓dn_cont, ↓dn_cs, ↓dn_sw, ↓dn_pop32, ↓dn_pop64, ↓dn_aop, ↓dn_call, ↓dn_max, ↓dn_min, ↓dn_acp, ↓dn_i2l, ↓dn_args0, ↓dn_args1, og_pad, og_ent, og_rlt, og_rle, og_rgt, og_rge, og_req, og_rne, og_padd, og_psub, og_pmul, List.getD_cons_zero, List.getD_cons_succ, List.set_cons_zero, List.set_cons_succ, List.length_cons, List.length_nil, List.cons_append, List.nil_append, List.replicate, List.append_nil, Nat.reduceAdd, Nat.reduceSub, Nat.reduceEqDiff, if_true, if_false, reduceIte, Int.reduceAdd, Int.reduceSub, Int.reduceMul, Int.reduceNeg, Int.reduceLT, Int.reduceLE, Int.cast_ofNat_Int, true_or, or_true, true_and, and_true, false_and, List.mem_cons, List.not_mem_nil, or_false, false_or, ne_eq, og_i32]
    refine s_Rows_choose hc1.1 ho hh sHm_rg (fun h2 hf2 hch => ?_)
    have hS2 : frS h h2 := fun j k hj => by rw [hf2 j k (by omega) (by omega)]; exact hS j k hj
    have hc2 := isC_S hc hS2
    have hK2 := hK h2 hS2
    have hh2 : harmOK h2 A (sHm P A) := fun p hp => by rw [hf2 _ _ (by decide) (by decide)]; exact hh p hp
    refine ⟨fun e => ?_, fun m0 => ⟨fun e => ?_, fun m1 => ?_⟩⟩
    · rw [if_pos e] at hK2
      exact s_Rows_countFilled hc2.1 ho hch hK2
    · rw [if_neg m0, if_pos e] at hK2
      exact s_Rows_wholeHarm hc2.1 ho hh2 sHm_rg hch hK2
    · rw [if_neg m0, if_neg m1] at hK2
      have := hch (w - 2).toNat (by omega)
      rw [Int.toNat_of_nonneg (by omega)] at this
      rw [this]
      exact ⟨by omega, by omega, by omega, hK2⟩
end
