section
-- how willing one was: the reference
def asG (Sn : Int → Int) (B : Yd) (m : Int) (k : Nat) : Bool := !(decide (Sn (3 * k) = m) && (decide (999 < B 0 2) || (sFill B (Sn (3 * k + 1)) != decide (Sn (3 * k + 2) = 1))))
theorem sAgr_G {P : Pr} {A : Yd} {Sn : Int → Int} {R p w : Int} (hk : okS A Sn R) : sAgr P A Sn R p w = sAll (fun m => sAll (asG Sn (sIt P (sUp A 7 p w) m) m) R.toNat) 31 := by
  have hkR := hk.1
  have s0 : ∀ m : Nat, sIt P (sUp A 7 p w) m 0 2 = A 0 2 + m := fun m => (sIt_0 (P := P) (A := sUp A 7 p w) m).2.2
  rw [Bool.eq_iff_iff]
  unfold sAgr sAs
  simp only [Bool.and_eq_true, sAll_iff, decide_eq_true_eq]
  constructor
  · rintro ⟨a, b⟩ m hm k hk'
    have b1 := b m hm k hk'
    have a1 := a k hk'
    unfold asF at b1
    unfold asG
    rw [s0]
    by_cases e : Sn (3 * k) = m
    · have : ¬ 999 < A 0 2 + (m : Int) := by omega
      simp only [this, decide_false, Bool.false_or]
      exact b1
    · simp [e]
  · intro a
    refine ⟨fun k hk' => ?_, fun m hm k hk' => ?_⟩
    · have k1 := (hk.2 k (by omega) (by omega)).1
      have a1 := a (Sn (3 * k)).toNat (by omega) k hk'
      unfold asG at a1
      rw [s0, Int.toNat_of_nonneg k1.1] at a1
      by_cases z : 999 < A 0 2 + Sn (3 * k)
      · simp [z] at a1
      · omega
    · have a1 := a m hm k hk'
      unfold asG at a1
      unfold asF
      by_cases e : Sn (3 * k) = m
      · by_cases z : 999 < sIt P (sUp A 7 p w) m 0 2
        · simp [e, z] at a1
        · simp only [z, decide_false, Bool.false_or] at a1
          exact a1
      · simp [e]
section
variable {h h0 : Hp} {A B : Yd} {P : Pr} {Sn : Int → Int} {R : Int} {K : Int → Hp → Prop}
theorem r_isAsSeen {m : Int} (hS : isSm h Sn R) (hk : okS B Sn R) (hm : isM h B) (ho : okY B) (hK : K (if sAll (asG Sn B m) R.toNat = true then 1 else 0) h) : m_Model_isAsSeen [1000, m] h K := by
  have h6 := ho.1
  have hkR := hk.1
  have yes : sAll (asG Sn B m) R.toNat = true → K 1 h := fun z => by rw [if_pos z] at hK; exact hK
  have no : sAll (asG Sn B m) R.toNat = false → K 0 h := fun z => by rw [if_neg (by rw [z]; decide)] at hK; exact hK
  unfold m_Model_isAsSeen
  simp -implicitDefEqProofs only [↓dn_den, ↓dn_loc, ↓dn_k, ↓dn_add, ↓dn_sub, ↓dn_mul, ↓dn_div, ↓dn_rem, ↓dn_bop, ↓dn_ladd, ↓dn_lsub, ↓dn_lmul, ↓dn_ldiv, ↓dn_lrem, ↓dn_land, ↓dn_l2i, ↓dn_neg, ↓dn_get, ↓dn_fix, ↓dn_ald, ↓dn_gld, ↓dn_yld, ↓dn_len, ↓dn_gln, ↓dn_cc, ↓dn_cb, ↓dn_and, ↓dn_or, ↓dn_not, ↓dn_cite, ↓dn_ec, ↓dn_ei, ↓dn_skip, ↓dn_seq, ↓dn_set, ↓dn_inc, ↓dn_putf, ↓dn_putz, ↓dn_ast, ↓dn_exp, ↓dn_if, ↓dn_ret, ↓dn_retz, ↓dn_retv, ↓dn_brk, ↓dn_cont, ↓dn_cs, ↓dn_sw, ↓dn_pop32, ↓dn_pop64, ↓dn_aop, ↓dn_call, ↓dn_max, ↓dn_min, ↓dn_acp, ↓dn_i2l, ↓dn_args0, ↓dn_args1, og_pad, og_ent, og_rlt, og_rle, og_rgt, og_rge, og_req, og_rne, og_padd, og_psub, og_pmul, List.getD_cons_zero, List.getD_cons_succ, List.set_cons_zero, List.set_cons_succ, List.length_cons, List.length_nil, List.cons_append, List.nil_append, List.replicate, List.append_nil, Nat.reduceAdd, Nat.reduceSub, Nat.reduceEqDiff, if_true, if_false, reduceIte, Int.reduceAdd, Int.reduceSub, Int.reduceMul, Int.reduceNeg, Int.reduceLT, Int.reduceLE, Int.cast_ofNat_Int, true_or, or_true, true_and, and_true, false_and, List.mem_cons, List.not_mem_nil, or_false, false_or, ne_eq]
  refine ⟨fun e1 h1 => h1 = h ∧ sAll (asG Sn B m) R.toNat = true, ?_, ?_⟩
  · simp -implicitDefEqProofs only [↓dn_den, ↓dn_loc, ↓dn_k, ↓dn_add, ↓dn_sub, ↓dn_mul, ↓dn_div, ↓dn_rem, ↓dn_bop, ↓dn_ladd, ↓dn_lsub, ↓dn_lmul, ↓dn_ldiv, ↓dn_lrem, ↓dn_land, ↓dn_l2i, ↓dn_neg, ↓dn_get, ↓dn_fix, ↓dn_ald, ↓dn_gld, ↓dn_yld, ↓dn_len, ↓dn_gln, ↓dn_cc, ↓dn_cb, ↓dn_and, ↓dn_or, ↓dn_not, ↓dn_cite, ↓dn_ec, ↓dn_ei, ↓dn_skip, ↓dn_seq, ↓dn_set, ↓dn_inc, ↓dn_putf, ↓dn_putz, ↓dn_ast, ↓dn_exp, ↓dn_if, ↓dn_ret, ↓dn_retz, ↓dn_retv, ↓dn_brk, ↓dn_cont, ↓dn_cs, ↓dn_sw, ↓dn_pop32, ↓dn_pop64, ↓dn_aop, ↓dn_call, ↓dn_max, ↓dn_min, ↓dn_acp, ↓dn_i2l, ↓dn_args0, ↓dn_args1, og_pad, og_ent, og_rlt, og_rle, og_rgt, og_rge, og_req, og_rne, og_padd, og_psub, og_pmul, List.getD_cons_zero, List.getD_cons_succ, List.set_cons_zero, List.set_cons_succ, List.length_cons, List.length_nil, List.cons_append, List.nil_append, List.replicate, List.append_nil, Nat.reduceAdd, Nat.reduceSub, Nat.reduceEqDiff, if_true, if_false, reduceIte, Int.reduceAdd, Int.reduceSub, Int.reduceMul, Int.reduceNeg, Int.reduceLT, Int.reduceLE, Int.cast_ofNat_Int, true_or, or_true, true_and, and_true, false_and, List.mem_cons, List.not_mem_nil, or_false, false_or, ne_eq]
    refine og_loop R.toNat (fun i e1 h1 => h1 = h ∧ e1 = [1000, m, (i : Int)] ∧ sAll (asG Sn B m) i = true) ⟨rfl, rfl, rfl⟩ ?_
    rintro i e1 h1 hi ⟨rfl, rfl, ha⟩
    simp -implicitDefEqProofs only [↓dn_den, ↓dn_loc, ↓dn_k, ↓dn_add, ↓dn_sub, ↓dn_mul, ↓dn_div, ↓dn_rem, ↓dn_bop, ↓dn_ladd, ↓dn_lsub, ↓dn_lmul, ↓dn_ldiv, ↓dn_lrem, ↓dn_land, ↓dn_l2i, ↓dn_neg, ↓dn_get, ↓dn_fix, ↓dn_ald, ↓dn_gld, ↓dn_yld, ↓dn_len, ↓dn_gln, ↓dn_cc, ↓dn_cb, ↓dn_and, ↓dn_or, ↓dn_not, ↓dn_cite, ↓dn_ec, ↓dn_ei, ↓dn_skip, ↓dn_seq, ↓dn_set, ↓dn_inc, ↓dn_putf, ↓dn_putz, ↓dn_ast, ↓dn_exp, ↓dn_if, ↓dn_ret, ↓dn_retz, ↓dn_retv, ↓dn_brk, ↓dn_cont, ↓dn_cs, ↓dn_sw, ↓dn_pop32, ↓dn_pop64, ↓dn_aop, ↓dn_call, ↓dn_max, ↓dn_min, ↓dn_acp, ↓dn_i2l, ↓dn_args0, ↓dn_args1, og_pad, og_ent, og_rlt, og_rle, og_rgt, og_rge, og_req, og_rne, og_padd, og_psub, og_pmul, List.getD_cons_zero, List.getD_cons_succ, List.set_cons_zero, List.set_cons_succ, List.length_cons, List.length_nil, List.cons_append, List.nil_append, List.replicate, List.append_nil, Nat.reduceAdd, Nat.reduceSub, Nat.reduceEqDiff, if_true, if_false, reduceIte, Int.reduceAdd, Int.reduceSub, Int.reduceMul, Int.reduceNeg, Int.reduceLT, Int.reduceLE, Int.cast_ofNat_Int, true_or, or_true, true_and, and_true, false_and, List.mem_cons, List.not_mem_nil, or_false, false_or, ne_eq, og_i32]
    rw [hS.1]
    refine ⟨fun hlt => ?_, fun hge => ?_⟩
    · have k1 := hk.2 i (by omega) hlt
      have nx : asG Sn B m i = true → (-2147483648 ≤ (i : Int) + 1 ∧ (i : Int) + 1 ≤ 2147483647) ∧ og_nx R.toNat (fun i e1 h2 => h2 = h1 ∧ e1 = [1000, m, (i : Int)] ∧ sAll (asG Sn B m) i = true) i [1000, m, (i : Int) + 1] h1 := by
        intro z
        exact ⟨by omega, og_nx_mk (by omega) ⟨rfl, by simp, by rw [sAll_s, ha, z]; rfl⟩⟩
      have st : asG Sn B m i = false → K 0 h1 := fun z => no (sAll_f (by omega) z)
      rw [hS.2 (3 * i) (by omega) (by omega), hm.1.2.2]
      repeat (refine And.intro (by omega) ?_)
      refine ⟨fun em => ?_, fun em => nx (by unfold asG; simp [em])⟩
      refine ⟨fun hbig => st (by unfold asG; simp [em, hbig]), fun hsm => ?_⟩
      rw [hS.2 (3 * i + 1) (by omega) (by omega)]
      repeat (refine And.intro (by omega) ?_)
      refine r_inGrave hm ho k1.2.1.1 k1.2.1.2 ?_
      rw [hS.2 (3 * i + 2) (by omega) (by omega)]
      have e0 : asG Sn B m i = !(sFill B (Sn (3 * i + 1)) != decide (Sn (3 * i + 2) = 1)) := by unfold asG; simp [em, hsm]
      refine ⟨fun hf => ?_, fun hf => ?_⟩
      · have ef : sFill B (Sn (3 * i + 1)) = true := by unfold sFill; simpa using hf
        rw [ef] at e0
        repeat (refine And.intro (by omega) ?_)
        exact ⟨fun e1 => ⟨fun z => absurd (by trivial) z, fun _ => nx (by rw [e0, e1]; rfl)⟩, fun e1 => ⟨fun _ => st (by rw [e0, decide_eq_false e1]; rfl), fun z => absurd (by decide) z⟩⟩
      · have ef : sFill B (Sn (3 * i + 1)) = false := by unfold sFill; simpa using hf
        rw [ef] at e0
        repeat (refine And.intro (by omega) ?_)
        exact ⟨fun e1 => ⟨fun _ => st (by rw [e0, e1]; rfl), fun z => absurd (by decide) z⟩, fun e1 => ⟨fun z => absurd (by trivial) z, fun _ => nx (by rw [e0, decide_eq_false e1]; rfl)⟩⟩
    · have e : i = R.toNat := by omega
      subst e
      first | exact ⟨rfl, ha⟩ | exact ha
  · rintro e1 h1 ⟨rfl, hz⟩
    simp -implicitDefEqProofs only [↓dn_den, ↓dn_loc, ↓dn_k, ↓dn_add, ↓dn_sub, ↓dn_mul, ↓dn_div, ↓dn_rem, ↓dn_bop, ↓dn_ladd, ↓dn_lsub, ↓dn_lmul, ↓dn_ldiv, ↓dn_lrem, ↓dn_land, ↓dn_l2i, ↓dn_neg, ↓dn_get, ↓dn_fix, ↓dn_ald, ↓dn_gld, ↓dn_yld, ↓dn_len, ↓dn_gln, ↓dn_cc, ↓dn_cb, ↓dn_and, ↓dn_or, ↓dn_not, ↓dn_cite, ↓dn_ec, ↓dn_ei, ↓dn_skip, ↓dn_seq, ↓dn_set, ↓dn_inc, ↓dn_putf, ↓dn_putz, ↓dn_ast, ↓dn_exp, ↓dn_if, ↓dn_ret, ↓dn_retz, ↓dn_retv, ↓dn_brk, ↓dn_cont, ↓dn_cs, ↓dn_sw, ↓dn_pop32, ↓dn_pop64, ↓dn_aop, ↓dn_call, ↓dn_max, ↓dn_min, ↓dn_acp, ↓dn_i2l, ↓dn_args0, ↓dn_args1, og_pad, og_ent, og_rlt, og_rle, og_rgt, og_rge, og_req, og_rne, og_padd, og_psub, og_pmul, List.getD_cons_zero, List.getD_cons_succ, List.set_cons_zero, List.set_cons_succ, List.length_cons, List.length_nil, List.cons_append, List.nil_append, List.replicate, List.append_nil, Nat.reduceAdd, Nat.reduceSub, Nat.reduceEqDiff, if_true, if_false, reduceIte, Int.reduceAdd, Int.reduceSub, Int.reduceMul, Int.reduceNeg, Int.reduceLT, Int.reduceLE, Int.cast_ofNat_Int, true_or, or_true, true_and, and_true, false_and, List.mem_cons, List.not_mem_nil, or_false, false_or, ne_eq]
    exact yes hz
theorem r_fillSet (hm : isM h A) (ho : okY A) (hK : K (sSet (sFill A) (sNg A) : Int) h) : m_Model_fillSet [1000] h K := by
  have h6 := ho.1
  have hng : sNg A = (A 0 0).toNat := rfl
  unfold m_Model_fillSet
  simp -implicitDefEqProofs only [↓dn_den, ↓dn_loc, ↓dn_k, ↓dn_add, ↓dn_sub, ↓dn_mul, ↓dn_div, ↓dn_rem, ↓dn_bop, ↓dn_ladd, ↓dn_lsub, ↓dn_lmul, ↓dn_ldiv, ↓dn_lrem, ↓dn_land, ↓dn_l2i, ↓dn_neg, ↓dn_get, ↓dn_fix, ↓dn_ald, ↓dn_gld, ↓dn_yld, ↓dn_len, ↓dn_gln, ↓dn_cc, ↓dn_cb, ↓dn_and, ↓dn_or, ↓dn_not, ↓dn_cite, ↓dn_ec, ↓dn_ei, ↓dn_skip, ↓dn_seq, ↓dn_set, ↓dn_inc, ↓dn_putf, ↓dn_putz, ↓dn_ast, ↓dn_exp, ↓dn_if, ↓dn_ret, ↓dn_retz, ↓dn_retv, ↓dn_brk, ↓dn_cont, ↓dn_cs, ↓dn_sw, ↓dn_pop32, ↓dn_pop64, ↓dn_aop, ↓dn_call, ↓dn_max, ↓dn_min, ↓dn_acp, ↓dn_i2l, ↓dn_args0, ↓dn_args1, og_pad, og_ent, og_rlt, og_rle, og_rgt, og_rge, og_req, og_rne, og_padd, og_psub, og_pmul, List.getD_cons_zero, List.getD_cons_succ, List.set_cons_zero, List.set_cons_succ, List.length_cons, List.length_nil, List.cons_append, List.nil_append, List.replicate, List.append_nil, Nat.reduceAdd, Nat.reduceSub, Nat.reduceEqDiff, if_true, if_false, reduceIte, Int.reduceAdd, Int.reduceSub, Int.reduceMul, Int.reduceNeg, Int.reduceLT, Int.reduceLE, Int.cast_ofNat_Int, true_or, or_true, true_and, and_true, false_and, List.mem_cons, List.not_mem_nil, or_false, false_or, ne_eq]
  refine ⟨fun e1 h1 => h1 = h ∧ ∃ c2, e1 = [1000, (sSet (sFill A) (sNg A) : Int), c2], ?_, ?_⟩
  · simp -implicitDefEqProofs only [↓dn_den, ↓dn_loc, ↓dn_k, ↓dn_add, ↓dn_sub, ↓dn_mul, ↓dn_div, ↓dn_rem, ↓dn_bop, ↓dn_ladd, ↓dn_lsub, ↓dn_lmul, ↓dn_ldiv, ↓dn_lrem, ↓dn_land, ↓dn_l2i, ↓dn_neg, ↓dn_get, ↓dn_fix, ↓dn_ald, ↓dn_gld, ↓dn_yld, ↓dn_len, ↓dn_gln, ↓dn_cc, ↓dn_cb, ↓dn_and, ↓dn_or, ↓dn_not, ↓dn_cite, ↓dn_ec, ↓dn_ei, ↓dn_skip, ↓dn_seq, ↓dn_set, ↓dn_inc, ↓dn_putf, ↓dn_putz, ↓dn_ast, ↓dn_exp, ↓dn_if, ↓dn_ret, ↓dn_retz, ↓dn_retv, ↓dn_brk, ↓dn_cont, ↓dn_cs, ↓dn_sw, ↓dn_pop32, ↓dn_pop64, ↓dn_aop, ↓dn_call, ↓dn_max, ↓dn_min, ↓dn_acp, ↓dn_i2l, ↓dn_args0, ↓dn_args1, og_pad, og_ent, og_rlt, og_rle, og_rgt, og_rge, og_req, og_rne, og_padd, og_psub, og_pmul, List.getD_cons_zero, List.getD_cons_succ, List.set_cons_zero, List.set_cons_succ, List.length_cons, List.length_nil, List.cons_append, List.nil_append, List.replicate, List.append_nil, Nat.reduceAdd, Nat.reduceSub, Nat.reduceEqDiff, if_true, if_false, reduceIte, Int.reduceAdd, Int.reduceSub, Int.reduceMul, Int.reduceNeg, Int.reduceLT, Int.reduceLE, Int.cast_ofNat_Int, true_or, or_true, true_and, and_true, false_and, List.mem_cons, List.not_mem_nil, or_false, false_or, ne_eq]
    refine og_loop (sNg A) (fun i e1 h1 => h1 = h ∧ e1 = [1000, (sSet (sFill A) i : Int), (i : Int)]) ⟨rfl, rfl⟩ ?_
    rintro i e1 h1 hi ⟨rfl, rfl⟩
    simp -implicitDefEqProofs only [↓dn_den, ↓dn_loc, ↓dn_k, ↓dn_add, ↓dn_sub, ↓dn_mul, ↓dn_div, ↓dn_rem, ↓dn_bop, ↓dn_ladd, ↓dn_lsub, ↓dn_lmul, ↓dn_ldiv, ↓dn_lrem, ↓dn_land, ↓dn_l2i, ↓dn_neg, ↓dn_get, ↓dn_fix, ↓dn_ald, ↓dn_gld, ↓dn_yld, ↓dn_len, ↓dn_gln, ↓dn_cc, ↓dn_cb, ↓dn_and, ↓dn_or, ↓dn_not, ↓dn_cite, ↓dn_ec, ↓dn_ei, ↓dn_skip, ↓dn_seq, ↓dn_set, ↓dn_inc, ↓dn_putf, ↓dn_putz, ↓dn_ast, ↓dn_exp, ↓dn_if, ↓dn_ret, ↓dn_retz, ↓dn_retv, ↓dn_brk, ↓dn_cont, ↓dn_cs, ↓dn_sw, ↓dn_pop32, ↓dn_pop64, ↓dn_aop, ↓dn_call, ↓dn_max, ↓dn_min, ↓dn_acp, ↓dn_i2l, ↓dn_args0, ↓dn_args1, og_pad, og_ent, og_rlt, og_rle, og_rgt, og_rge, og_req, og_rne, og_padd, og_psub, og_pmul, List.getD_cons_zero, List.getD_cons_succ, List.set_cons_zero, List.set_cons_succ, List.length_cons, List.length_nil, List.cons_append, List.nil_append, List.replicate, List.append_nil, Nat.reduceAdd, Nat.reduceSub, Nat.reduceEqDiff, if_true, if_false, reduceIte, Int.reduceAdd, Int.reduceSub, Int.reduceMul, Int.reduceNeg, Int.reduceLT, Int.reduceLE, Int.cast_ofNat_Int, true_or, or_true, true_and, and_true, false_and, List.mem_cons, List.not_mem_nil, or_false, false_or, ne_eq, og_i32]
    refine r_graveMany hm ⟨fun hlt => ?_, fun hge => ?_⟩
    · refine r_inGrave hm ho (by omega) hlt ⟨fun hf => ?_, fun hf => ?_⟩
      · have ef : sFill A i = true := by unfold sFill; simpa using hf
        rw [bt_or _ (sSet_le (f := sFill A) (n := i) (m := 10) (by omega) (by omega)) i (by omega)]
        exact ⟨by omega, og_nx_mk (by omega) ⟨rfl, by rw [sSet_s, if_pos ef]; simp⟩⟩
      · have ef : sFill A i = false := by unfold sFill; simpa using hf
        exact ⟨by omega, og_nx_mk (by omega) ⟨rfl, by rw [sSet_s, ef]; simp⟩⟩
    · have e : i = sNg A := by omega
      subst e
      exact ⟨rfl, _, rfl⟩
  · rintro e1 h1 ⟨rfl, c2, rfl⟩
    simp -implicitDefEqProofs only [↓dn_den, ↓dn_loc, ↓dn_k, ↓dn_add, ↓dn_sub, ↓dn_mul, ↓dn_div, ↓dn_rem, ↓dn_bop, ↓dn_ladd, ↓dn_lsub, ↓dn_lmul, ↓dn_ldiv, ↓dn_lrem, ↓dn_land, ↓dn_l2i, ↓dn_neg, ↓dn_get, ↓dn_fix, ↓dn_ald, ↓dn_gld, ↓dn_yld, ↓dn_len, ↓dn_gln, ↓dn_cc, ↓dn_cb, ↓dn_and, ↓dn_or, ↓dn_not, ↓dn_cite, ↓dn_ec, ↓dn_ei, ↓dn_skip, ↓dn_seq, ↓dn_set, ↓dn_inc, ↓dn_putf, ↓dn_putz, ↓dn_ast, ↓dn_exp, ↓dn_if, ↓dn_ret, ↓dn_retz, ↓dn_retv, ↓dn_brk, ↓dn_cont, ↓dn_cs, ↓dn_sw, ↓dn_pop32, ↓dn_pop64, ↓dn_aop, ↓dn_call, ↓dn_max, ↓dn_min, ↓dn_acp, ↓dn_i2l, ↓dn_args0, ↓dn_args1, og_pad, og_ent, og_rlt, og_rle, og_rgt, og_rge, og_req, og_rne, og_padd, og_psub, og_pmul, List.getD_cons_zero, List.getD_cons_succ, List.set_cons_zero, List.set_cons_succ, List.length_cons, List.length_nil, List.cons_append, List.nil_append, List.replicate, List.append_nil, Nat.reduceAdd, Nat.reduceSub, Nat.reduceEqDiff, if_true, if_false, reduceIte, Int.reduceAdd, Int.reduceSub, Int.reduceMul, Int.reduceNeg, Int.reduceLT, Int.reduceLE, Int.cast_ofNat_Int, true_or, or_true, true_and, and_true, false_and, List.mem_cons, List.not_mem_nil, or_false, false_or, ne_eq]
    exact hK
/-- the fillings that the reference keeps -/
def flOK (h : Hp) (P : Pr) (A : Yd) (p : Int) (n : Nat) : Prop := ∀ w m : Nat, w < n → m < 31 → h 1046 (31 * (w : Int) + (m : Int)) = (sSet (sFill (sIt P (sUp A 7 p w) m)) (sNg A) : Int)
theorem r_willSet {p M : Int} (hR : hasM h P) (hP : okQ P) (hn : isN h A) (ho : okY A) (hk : okK A) (h53 : h 1000 53 = 0) (hm0 : A 0 2 ≤ 999) (hM : M ≤ 10000000) (hb : tmB M h) (hS : isSm h Sn R) (hkS : okS A Sn R) (hp : 0 ≤ p ∧ p < A 0 1)
    (hK : ∀ h', frQ h h' → tmB (M + 2000) h' → flOK h' P A p 10 → K (sWl P A Sn R p : Int) h') : m_Model_willSet [1000, p] h K := by
  have h6 := ho.1
  have hng : sNg A = (A 0 0).toNat := rfl
  unfold m_Model_willSet
  simp -implicitDefEqProofs only [↓dn_den, ↓dn_loc, ↓dn_k, ↓dn_add, ↓dn_sub, ↓dn_mul, ↓dn_div, ↓dn_rem, ↓dn_bop, ↓dn_ladd, ↓dn_lsub, ↓dn_lmul, ↓dn_ldiv, ↓dn_lrem, ↓dn_land, ↓dn_l2i, ↓dn_neg, ↓dn_get, ↓dn_fix, ↓dn_ald, ↓dn_gld, ↓dn_yld, ↓dn_len, ↓dn_gln, ↓dn_cc, ↓dn_cb, ↓dn_and, ↓dn_or, ↓dn_not, ↓dn_cite, ↓dn_ec, ↓dn_ei, ↓dn_skip, ↓dn_seq, ↓dn_set, ↓dn_inc, ↓dn_putf, ↓dn_putz, ↓dn_ast, ↓dn_exp, ↓dn_if, ↓dn_ret, ↓dn_retz, ↓dn_retv, ↓dn_brk, ↓dn_cont, ↓dn_cs, ↓dn_sw, ↓dn_pop32, ↓dn_pop64, ↓dn_aop, ↓dn_call, ↓dn_max, ↓dn_min, ↓dn_acp, ↓dn_i2l, ↓dn_args0, ↓dn_args1, og_pad, og_ent, og_rlt, og_rle, og_rgt, og_rge, og_req, og_rne, og_padd, og_psub, og_pmul, List.getD_cons_zero, List.getD_cons_succ, List.set_cons_zero, List.set_cons_succ, List.length_cons, List.length_nil, List.cons_append, List.nil_append, List.replicate, List.append_nil, Nat.reduceAdd, Nat.reduceSub, Nat.reduceEqDiff, if_true, if_false, reduceIte, Int.reduceAdd, Int.reduceSub, Int.reduceMul, Int.reduceNeg, Int.reduceLT, Int.reduceLE, Int.cast_ofNat_Int, true_or, or_true, true_and, and_true, false_and, List.mem_cons, List.not_mem_nil, or_false, false_or, ne_eq]
  refine r_putsAside' ho hn (fun h1 hT1 hN1 e1 q1 => ?_)
  have hb1 : tmB M h1 := by unfold tmB; rw [e1]; exact hb
  have hSm : ∀ {h3 : Hp}, inTh h h3 → isSm h3 Sn R := fun hT => ⟨by rw [hT.2.2.2 _ _ (by decide) (fun _ => by decide)]; exact hS.1, fun j a b => by rw [hT.2.2.2 _ _ (by decide) (fun z => absurd z (by decide))]; exact hS.2 j a b⟩
  refine ⟨fun e2 h2 => (∃ c3 c4 c5, e2 = [1000, p, (sWl P A Sn R p : Int), c3, c4, c5]) ∧ inTh h h2 ∧ tmB (M + 2000) h2 ∧ flOK h2 P A p 10, ?_, ?_⟩
  · simp -implicitDefEqProofs only [↓dn_den, ↓dn_loc, ↓dn_k, ↓dn_add, ↓dn_sub, ↓dn_mul, ↓dn_div, ↓dn_rem, ↓dn_bop, ↓dn_ladd, ↓dn_lsub, ↓dn_lmul, ↓dn_ldiv, ↓dn_lrem, ↓dn_land, ↓dn_l2i, ↓dn_neg, ↓dn_get, ↓dn_fix, ↓dn_ald, ↓dn_gld, ↓dn_yld, ↓dn_len, ↓dn_gln, ↓dn_cc, ↓dn_cb, ↓dn_and, ↓dn_or, ↓dn_not, ↓dn_cite, ↓dn_ec, ↓dn_ei, ↓dn_skip, ↓dn_seq, ↓dn_set, ↓dn_inc, ↓dn_putf, ↓dn_putz, ↓dn_ast, ↓dn_exp, ↓dn_if, ↓dn_ret, ↓dn_retz, ↓dn_retv, ↓dn_brk, ↓dn_cont, ↓dn_cs, ↓dn_sw, ↓dn_pop32, ↓dn_pop64, ↓dn_aop, ↓dn_call, ↓dn_max, ↓dn_min, ↓dn_acp, ↓dn_i2l, ↓dn_args0, ↓dn_args1, og_pad, og_ent, og_rlt, og_rle, og_rgt, og_rge, og_req, og_rne, og_padd, og_psub, og_pmul, List.getD_cons_zero, List.getD_cons_succ, List.set_cons_zero, List.set_cons_succ, List.length_cons, List.length_nil, List.cons_append, List.nil_append, List.replicate, List.append_nil, Nat.reduceAdd, Nat.reduceSub, Nat.reduceEqDiff, if_true, if_false, reduceIte, Int.reduceAdd, Int.reduceSub, Int.reduceMul, Int.reduceNeg, Int.reduceLT, Int.reduceLE, Int.cast_ofNat_Int, true_or, or_true, true_and, and_true, false_and, List.mem_cons, List.not_mem_nil, or_false, false_or, ne_eq]
    refine og_loop 10 (fun i e2 h2 => (∃ c4 c5, e2 = [1000, p, (sSet (fun w => sAgr P A Sn R p w) i : Int), (i : Int), c4, c5]) ∧ inTh h h2 ∧ isN h2 A ∧ tmB (M + 186 * i) h2 ∧ flOK h2 P A p i) ⟨⟨0, 0, rfl⟩, hT1, hN1, by simpa using hb1, fun w m hw hm => by omega⟩ ?_
    rintro i e2 h2 hi ⟨⟨c4, c5, rfl⟩, hT2, hN2, hb2, hf2⟩
    simp -implicitDefEqProofs only [↓dn_den, ↓dn_loc, ↓dn_k, ↓dn_add, ↓dn_sub, ↓dn_mul, ↓dn_div, ↓dn_rem, ↓dn_bop, ↓dn_ladd, ↓dn_lsub, ↓dn_lmul, ↓dn_ldiv, ↓dn_lrem, ↓dn_land, ↓dn_l2i, ↓dn_neg, ↓dn_get, ↓dn_fix, ↓dn_ald, ↓dn_gld, ↓dn_yld, ↓dn_len, ↓dn_gln, ↓dn_cc, ↓dn_cb, ↓dn_and, ↓dn_or, ↓dn_not, ↓dn_cite, ↓dn_ec, ↓dn_ei, ↓dn_skip, ↓dn_seq, ↓dn_set, ↓dn_inc, ↓dn_putf, ↓dn_putz, ↓dn_ast, ↓dn_exp, ↓dn_if, ↓dn_ret, ↓dn_retz, ↓dn_retv, ↓dn_brk, ↓dn_cont, ↓dn_cs, ↓dn_sw, ↓dn_pop32, ↓dn_pop64, ↓dn_aop, ↓dn_call, ↓dn_max, ↓dn_min, ↓dn_acp, ↓dn_i2l, ↓dn_args0, ↓dn_args1, og_pad, og_ent, og_rlt, og_rle, og_rgt, og_rge, og_req, og_rne, og_padd, og_psub, og_pmul, List.getD_cons_zero, List.getD_cons_succ, List.set_cons_zero, List.set_cons_succ, List.length_cons, List.length_nil, List.cons_append, List.nil_append, List.replicate, List.append_nil, Nat.reduceAdd, Nat.reduceSub, Nat.reduceEqDiff, if_true, if_false, reduceIte, Int.reduceAdd, Int.reduceSub, Int.reduceMul, Int.reduceNeg, Int.reduceLT, Int.reduceLE, Int.cast_ofNat_Int, true_or, or_true, true_and, and_true, false_and, List.mem_cons, List.not_mem_nil, or_false, false_or, ne_eq, og_i32]
    refine ⟨fun hle => ?_, fun hgt => ?_⟩
    · repeat (refine And.intro (by omega) ?_)
      generalize hA' : sUp A 7 p (i : Int) = A'
      have hoA' : okY A' := by rw [← hA']; exact okY_up7 ho (by omega)
      have hkA' : okK A' := by rw [← hA']; exact okK_same hk (fun c k hc => sUp_c (by omega))
      have e02 : A' 0 2 = A 0 2 := by rw [← hA']; rfl
      have e00 : A' 0 0 = A 0 0 := by rw [← hA']; rfl
      have hN3 : isN (og_up h2 1037 (21 + 3 * p) (i : Int)) A' := by rw [← hA']; exact isN_upP (c := 7) (d := 21) (by omega) ho hp.1 hp.2 hN2
      have hF3 : frM h2 (og_up h2 1037 (21 + 3 * p) (i : Int)) := frM_up frM_rf (by omega)
      have agr := sAgr_G (P := P) (p := p) (w := i) hkS
      rw [hA'] at agr
      refine ⟨fun e4 h4 => (∃ c5, e4 = [1000, p, (sSet (fun w => sAgr P A Sn R p w) i : Int), (i : Int), (if sAgr P A Sn R p i = true then 1 else 0), c5]) ∧ inTh h h4 ∧ tmB (M + 186 * i + 186) h4 ∧ flOK h4 P A p (i + 1), ?_, ?_⟩
      · simp -implicitDefEqProofs only [↓dn_den, ↓dn_loc, ↓dn_k, ↓dn_add, ↓dn_sub, ↓dn_mul, ↓dn_div, ↓dn_rem, ↓dn_bop, ↓dn_ladd, ↓dn_lsub, ↓dn_lmul, ↓dn_ldiv, ↓dn_lrem, ↓dn_land, ↓dn_l2i, ↓dn_neg, ↓dn_get, ↓dn_fix, ↓dn_ald, ↓dn_gld, ↓dn_yld, ↓dn_len, ↓dn_gln, ↓dn_cc, ↓dn_cb, ↓dn_and, ↓dn_or, ↓dn_not, ↓dn_cite, ↓dn_ec, ↓dn_ei, ↓dn_skip, ↓dn_seq, ↓dn_set, ↓dn_inc, ↓dn_putf, ↓dn_putz, ↓dn_ast, ↓dn_exp, ↓dn_if, ↓dn_ret, ↓dn_retz, ↓dn_retv, ↓dn_brk, ↓dn_cont, ↓dn_cs, ↓dn_sw, ↓dn_pop32, ↓dn_pop64, ↓dn_aop, ↓dn_call, ↓dn_max, ↓dn_min, ↓dn_acp, ↓dn_i2l, ↓dn_args0, ↓dn_args1, og_pad, og_ent, og_rlt, og_rle, og_rgt, og_rge, og_req, og_rne, og_padd, og_psub, og_pmul, List.getD_cons_zero, List.getD_cons_succ, List.set_cons_zero, List.set_cons_succ, List.length_cons, List.length_nil, List.cons_append, List.nil_append, List.replicate, List.append_nil, Nat.reduceAdd, Nat.reduceSub, Nat.reduceEqDiff, if_true, if_false, reduceIte, Int.reduceAdd, Int.reduceSub, Int.reduceMul, Int.reduceNeg, Int.reduceLT, Int.reduceLE, Int.cast_ofNat_Int, true_or, or_true, true_and, and_true, false_and, List.mem_cons, List.not_mem_nil, or_false, false_or, ne_eq]
        refine og_loop 31 (fun j e4 h4 => e4 = [1000, p, (sSet (fun w => sAgr P A Sn R p w) i : Int), (i : Int), (if sAll (fun m => sAll (asG Sn (sIt P A' m) m) R.toNat) j = true then 1 else 0), (j : Int)] ∧ inTh h h4 ∧ isN h4 (sIt P A' j) ∧ tmB (M + 186 * i + 6 * j) h4 ∧ flOK h4 P A p i ∧ ∀ m : Nat, m < j → h4 1046 (31 * (i : Int) + (m : Int)) = (sSet (sFill (sIt P A' m)) (sNg A) : Int)) ⟨rfl, inTh_M hT2 hF3, hN3, ?_, ?_, fun m hm => by omega⟩ ?_
        · unfold tmB; rw [og_up_i (by decide)]; exact ⟨hb2.1, by have := hb2.2; omega⟩
        · intro w m hw hm; rw [og_up_i (by decide)]; exact hf2 w m hw hm
        rintro j e4 h4 hj ⟨rfl, hT4, hN4, hb4, hfo4, hfn4⟩
        simp -implicitDefEqProofs only [↓dn_den, ↓dn_loc, ↓dn_k, ↓dn_add, ↓dn_sub, ↓dn_mul, ↓dn_div, ↓dn_rem, ↓dn_bop, ↓dn_ladd, ↓dn_lsub, ↓dn_lmul, ↓dn_ldiv, ↓dn_lrem, ↓dn_land, ↓dn_l2i, ↓dn_neg, ↓dn_get, ↓dn_fix, ↓dn_ald, ↓dn_gld, ↓dn_yld, ↓dn_len, ↓dn_gln, ↓dn_cc, ↓dn_cb, ↓dn_and, ↓dn_or, ↓dn_not, ↓dn_cite, ↓dn_ec, ↓dn_ei, ↓dn_skip, ↓dn_seq, ↓dn_set, ↓dn_inc, ↓dn_putf, ↓dn_putz, ↓dn_ast, ↓dn_exp, ↓dn_if, ↓dn_ret, ↓dn_retz, ↓dn_retv, ↓dn_brk, ↓dn_cont, ↓dn_cs, ↓dn_sw, ↓dn_pop32, ↓dn_pop64, ↓dn_aop, ↓dn_call, ↓dn_max, ↓dn_min, ↓dn_acp, ↓dn_i2l, ↓dn_args0, ↓dn_args1, og_pad, og_ent, og_rlt, og_rle, og_rgt, og_rge, og_req, og_rne, og_padd, og_psub, og_pmul, List.getD_cons_zero, List.getD_cons_succ, List.set_cons_zero, List.set_cons_succ, List.length_cons, List.length_nil, List.cons_append, List.nil_append, List.replicate, List.append_nil, Nat.reduceAdd, Nat.reduceSub, Nat.reduceEqDiff, if_true, if_false, reduceIte, Int.reduceAdd, Int.reduceSub, Int.reduceMul, Int.reduceNeg, Int.reduceLT, Int.reduceLE, Int.cast_ofNat_Int, true_or, or_true, true_and, and_true, false_and, List.mem_cons, List.not_mem_nil, or_false, false_or, ne_eq, og_i32]
        have s0 := sIt_0 (P := P) (A := A') j
        have oj := okY_it (P := P) hoA' j (by omega)
        have kj := okK_it (P := P) hoA' hkA' j (by omega)
        have ngj : sNg (sIt P A' j) = sNg A := by unfold sNg; rw [s0.1, e00]
        refine ⟨fun hle2 => ?_, fun hgt => ?_⟩
        · by_cases hq : sAll (fun m => sAll (asG Sn (sIt P A' m) m) R.toNat) j = true
          · rw [if_pos hq]
            refine ⟨fun _ => ?_, fun z => absurd z (by decide)⟩
            refine r_isAsSeen (m := j) (hSm hT4) (okS_eq hkS (s0.1.trans e00)) hN4.1 oj ⟨fun hx => ?_, fun hx => ?_⟩
            · have hx := ite10 hx
              have hv : sAll (fun m => sAll (asG Sn (sIt P A' m) m) R.toNat) (j + 1) = true := by rw [sAll_s, hq, hx]; rfl
              repeat (refine And.intro (by omega) ?_)
              refine r_fillSet hN4.1 oj ?_
              rw [ngj]
              have hsf := sSet_le (f := sFill (sIt P A' j)) (n := sNg A) (m := 10) (by omega) (by omega)
              repeat (refine And.intro (by omega) ?_)
              have hsc : ∀ q k, ¬ ((1039 ≤ q ∧ q ≤ 1044) ∨ q = 1046) → og_up h4 1046 (31 * (i : Int) + (j : Int)) (sSet (sFill (sIt P A' j)) (sNg A) : Int) q k = h4 q k := fun q k hq => og_up_i (by omega)
              refine r_monthGoes (hasM_T hR (inTh_sc hT4 hsc)) hP (isN_sc hN4 hsc) oj kj (by omega) (by rw [og_up_i (by decide)]; exact ⟨hb4.1, by have := hb4.2; omega⟩) (fun h5 hN5 hF5 e5 => ?_)
              rw [← sIt_s] at hN5
              rw [og_up_i (by decide)] at e5
              have tg := sTk_rg (P := P) oj
              refine ⟨by omega, og_nx_mk (by omega) ⟨by rw [if_pos hv]; simp, inTh_M (inTh_sc hT4 hsc) hF5, hN5, ⟨by rw [e5]; have := hb4.1; omega, by rw [e5]; have := hb4.2; omega⟩, fun w m hw hm => ?_, fun m hm => ?_⟩⟩
              · rw [hF5.1 _ _ (by decide) (by decide) (fun z => absurd z (by decide)), og_up_k (by omega)]; exact hfo4 w m hw hm
              · rw [hF5.1 _ _ (by decide) (by decide) (fun z => absurd z (by decide))]
                by_cases e : m = j
                · subst e; rw [og_up_eq]
                · rw [og_up_k (by omega)]; exact hfn4 m (by omega)
            · have hx := ite00 hx
              have hv : sAll (fun m => sAll (asG Sn (sIt P A' m) m) R.toNat) (j + 1) = false := by rw [sAll_s, hx]; simp
              repeat (refine And.intro (by omega) ?_)
              refine r_fillSet hN4.1 oj ?_
              rw [ngj]
              have hsf := sSet_le (f := sFill (sIt P A' j)) (n := sNg A) (m := 10) (by omega) (by omega)
              repeat (refine And.intro (by omega) ?_)
              have hsc : ∀ q k, ¬ ((1039 ≤ q ∧ q ≤ 1044) ∨ q = 1046) → og_up h4 1046 (31 * (i : Int) + (j : Int)) (sSet (sFill (sIt P A' j)) (sNg A) : Int) q k = h4 q k := fun q k hq => og_up_i (by omega)
              refine r_monthGoes (hasM_T hR (inTh_sc hT4 hsc)) hP (isN_sc hN4 hsc) oj kj (by omega) (by rw [og_up_i (by decide)]; exact ⟨hb4.1, by have := hb4.2; omega⟩) (fun h5 hN5 hF5 e5 => ?_)
              rw [← sIt_s] at hN5
              rw [og_up_i (by decide)] at e5
              have tg := sTk_rg (P := P) oj
              refine ⟨by omega, og_nx_mk (by omega) ⟨by rw [hv]; simp, inTh_M (inTh_sc hT4 hsc) hF5, hN5, ⟨by rw [e5]; have := hb4.1; omega, by rw [e5]; have := hb4.2; omega⟩, fun w m hw hm => ?_, fun m hm => ?_⟩⟩
              · rw [hF5.1 _ _ (by decide) (by decide) (fun z => absurd z (by decide)), og_up_k (by omega)]; exact hfo4 w m hw hm
              · rw [hF5.1 _ _ (by decide) (by decide) (fun z => absurd z (by decide))]
                by_cases e : m = j
                · subst e; rw [og_up_eq]
                · rw [og_up_k (by omega)]; exact hfn4 m (by omega)
          · rw [if_neg hq]
            refine ⟨fun z => absurd (by trivial) z, fun _ => ?_⟩
            have hv : sAll (fun m => sAll (asG Sn (sIt P A' m) m) R.toNat) (j + 1) = false := by rw [sAll_s]; simp [hq]
            repeat (refine And.intro (by omega) ?_)
            refine r_fillSet hN4.1 oj ?_
            rw [ngj]
            have hsf := sSet_le (f := sFill (sIt P A' j)) (n := sNg A) (m := 10) (by omega) (by omega)
            repeat (refine And.intro (by omega) ?_)
            have hsc : ∀ q k, ¬ ((1039 ≤ q ∧ q ≤ 1044) ∨ q = 1046) → og_up h4 1046 (31 * (i : Int) + (j : Int)) (sSet (sFill (sIt P A' j)) (sNg A) : Int) q k = h4 q k := fun q k hq => og_up_i (by omega)
            refine r_monthGoes (hasM_T hR (inTh_sc hT4 hsc)) hP (isN_sc hN4 hsc) oj kj (by omega) (by rw [og_up_i (by decide)]; exact ⟨hb4.1, by have := hb4.2; omega⟩) (fun h5 hN5 hF5 e5 => ?_)
            rw [← sIt_s] at hN5
            rw [og_up_i (by decide)] at e5
            have tg := sTk_rg (P := P) oj
            refine ⟨by omega, og_nx_mk (by omega) ⟨by rw [hv]; simp, inTh_M (inTh_sc hT4 hsc) hF5, hN5, ⟨by rw [e5]; have := hb4.1; omega, by rw [e5]; have := hb4.2; omega⟩, fun w m hw hm => ?_, fun m hm => ?_⟩⟩
            · rw [hF5.1 _ _ (by decide) (by decide) (fun z => absurd z (by decide)), og_up_k (by omega)]; exact hfo4 w m hw hm
            · rw [hF5.1 _ _ (by decide) (by decide) (fun z => absurd z (by decide))]
              by_cases e : m = j
              · subst e; rw [og_up_eq]
              · rw [og_up_k (by omega)]; exact hfn4 m (by omega)
        · have e : j = 31 := by omega
          subst e
          refine ⟨⟨_, by rw [agr]⟩, hT4, ⟨hb4.1, by have := hb4.2; omega⟩, fun w m hw hm => ?_⟩
          by_cases e : w = i
          · subst e; rw [hA']; exact hfn4 m hm
          · exact hfo4 w m (by omega) hm
      · rintro e4 h4 ⟨⟨c5', rfl⟩, hT4, hb4, hf4⟩
        simp -implicitDefEqProofs only [↓dn_den, ↓dn_loc, ↓dn_k, ↓dn_add, ↓dn_sub, ↓dn_mul, ↓dn_div, ↓dn_rem, ↓dn_bop, ↓dn_ladd, ↓dn_lsub, ↓dn_lmul, ↓dn_ldiv, ↓dn_lrem, ↓dn_land, ↓dn_l2i, ↓dn_neg, ↓dn_get, ↓dn_fix, ↓dn_ald, ↓dn_gld, ↓dn_yld, ↓dn_len, ↓dn_gln, ↓dn_cc, ↓dn_cb, ↓dn_and, ↓dn_or, ↓dn_not, ↓dn_cite, ↓dn_ec, ↓dn_ei, ↓dn_skip, ↓dn_seq, ↓dn_set, ↓dn_inc, ↓dn_putf, ↓dn_putz, ↓dn_ast, ↓dn_exp, ↓dn_if, ↓dn_ret, ↓dn_retz, ↓dn_retv, ↓dn_brk, ↓dn_cont, ↓dn_cs, ↓dn_sw, ↓dn_pop32, ↓dn_pop64, ↓dn_aop, ↓dn_call, ↓dn_max, ↓dn_min, ↓dn_acp, ↓dn_i2l, ↓dn_args0, ↓dn_args1, og_pad, og_ent, og_rlt, og_rle, og_rgt, og_rge, og_req, og_rne, og_padd, og_psub, og_pmul, List.getD_cons_zero, List.getD_cons_succ, List.set_cons_zero, List.set_cons_succ, List.length_cons, List.length_nil, List.cons_append, List.nil_append, List.replicate, List.append_nil, Nat.reduceAdd, Nat.reduceSub, Nat.reduceEqDiff, if_true, if_false, reduceIte, Int.reduceAdd, Int.reduceSub, Int.reduceMul, Int.reduceNeg, Int.reduceLT, Int.reduceLE, Int.cast_ofNat_Int, true_or, or_true, true_and, and_true, false_and, List.mem_cons, List.not_mem_nil, or_false, false_or, ne_eq, og_i32]
        refine r_triesAnew ho hT4 hn.1 (fun h5 hT5 hN5 e5 _ hfr5 => ?_)
        have fin : ∀ (v c4 c5 : Int), v = (sSet (fun w => sAgr P A Sn R p w) (i + 1) : Int) → og_nx 10 (fun i e2 h2 => (∃ c4 c5, e2 = [1000, p, (sSet (fun w => sAgr P A Sn R p w) i : Int), (i : Int), c4, c5]) ∧ inTh h h2 ∧ isN h2 A ∧ tmB (M + 186 * i) h2 ∧ flOK h2 P A p i) i [1000, p, v, (i : Int) + 1, c4, c5] h5 := by
          intro v c4 c5 hv
          exact og_nx_mk (by omega) ⟨⟨c4, c5, by rw [hv]; simp⟩, hT5, hN5, by unfold tmB; rw [e5]; exact ⟨hb4.1, by have := hb4.2; omega⟩, fun w m hw hm => by rw [hfr5 _ _ (by decide)]; exact hf4 w m hw hm⟩
        refine ⟨fun hx => ?_, fun hx => ?_⟩
        · have hx := ite10 hx
          rw [bt_or _ (sSet_le (f := fun w => sAgr P A Sn R p w) (n := i) (m := 10) (by omega) (by omega)) i (by omega)]
          exact ⟨by omega, fin _ _ _ (by rw [sSet_s, if_pos hx])⟩
        · have hx := ite00 hx
          exact ⟨by omega, fin _ _ _ (by rw [sSet_s, hx]; rfl)⟩
    · have e : i = 10 := by omega
      subst e
      exact ⟨⟨_, _, _, rfl⟩, hT2, ⟨hb2.1, by have := hb2.2; omega⟩, hf2⟩
  · rintro e2 h2 ⟨⟨c3, c4, c5, rfl⟩, hT2, hb2, hf2⟩
    simp -implicitDefEqProofs only [↓dn_den, ↓dn_loc, ↓dn_k, ↓dn_add, ↓dn_sub, ↓dn_mul, ↓dn_div, ↓dn_rem, ↓dn_bop, ↓dn_ladd, ↓dn_lsub, ↓dn_lmul, ↓dn_ldiv, ↓dn_lrem, ↓dn_land, ↓dn_l2i, ↓dn_neg, ↓dn_get, ↓dn_fix, ↓dn_ald, ↓dn_gld, ↓dn_yld, ↓dn_len, ↓dn_gln, ↓dn_cc, ↓dn_cb, ↓dn_and, ↓dn_or, ↓dn_not, ↓dn_cite, ↓dn_ec, ↓dn_ei, ↓dn_skip, ↓dn_seq, ↓dn_set, ↓dn_inc, ↓dn_putf, ↓dn_putz, ↓dn_ast, ↓dn_exp, ↓dn_if, ↓dn_ret, ↓dn_retz, ↓dn_retv, ↓dn_brk, ↓dn_cont, ↓dn_cs, ↓dn_sw, ↓dn_pop32, ↓dn_pop64, ↓dn_aop, ↓dn_call, ↓dn_max, ↓dn_min, ↓dn_acp, ↓dn_i2l, ↓dn_args0, ↓dn_args1, og_pad, og_ent, og_rlt, og_rle, og_rgt, og_rge, og_req, og_rne, og_padd, og_psub, og_pmul, List.getD_cons_zero, List.getD_cons_succ, List.set_cons_zero, List.set_cons_succ, List.length_cons, List.length_nil, List.cons_append, List.nil_append, List.replicate, List.append_nil, Nat.reduceAdd, Nat.reduceSub, Nat.reduceEqDiff, if_true, if_false, reduceIte, Int.reduceAdd, Int.reduceSub, Int.reduceMul, Int.reduceNeg, Int.reduceLT, Int.reduceLE, Int.cast_ofNat_Int, true_or, or_true, true_and, and_true, false_and, List.mem_cons, List.not_mem_nil, or_false, false_or, ne_eq]
    refine r_takesBack ho hT2 hn.1 h53 (fun h3 hQ3 e3 hfr3 => ?_)
    exact hK h3 hQ3 (by unfold tmB; rw [e3]; exact hb2) (fun w m hw hm => by rw [hfr3 _ _ (by decide) (by decide)]; exact hf2 w m hw hm)
theorem r_wills {p M : Int} (hR : hasM h P) (hP : okQ P) (hn : isN h A) (ho : okY A) (hk : okK A) (h53 : h 1000 53 = 0) (hm0 : A 0 2 ≤ 999) (hM : M ≤ 10000000) (hb : tmB M h) (hS : isSm h Sn R) (hkS : okS A Sn R)
    (hK : ∀ h', frQ h h' → tmB (M + 2000) h' → K (sWills P A Sn R p) h') : m_Model_wills [1000, p] h K := by
  unfold m_Model_wills
  simp -implicitDefEqProofs only [↓dn_den, ↓dn_loc, ↓dn_k, ↓dn_add, ↓dn_sub, ↓dn_mul, ↓dn_div, ↓dn_rem, ↓dn_bop, ↓dn_ladd, ↓dn_lsub, ↓dn_lmul, ↓dn_ldiv, ↓dn_lrem, ↓dn_land, ↓dn_l2i, ↓dn_neg, ↓dn_get, ↓dn_fix, ↓dn_ald, ↓dn_gld, ↓dn_yld, ↓dn_len, ↓dn_gln, ↓dn_cc, ↓dn_cb, ↓dn_and, ↓dn_or, ↓dn_not, ↓dn_cite, ↓dn_ec, ↓dn_ei, ↓dn_skip, ↓dn_seq, ↓dn_set, ↓dn_inc, ↓dn_putf, ↓dn_putz, ↓dn_ast, ↓dn_exp, ↓dn_if, ↓dn_ret, ↓dn_retz, ↓dn_retv, ↓dn_brk, ↓dn_cont, ↓dn_cs, ↓dn_sw, ↓dn_pop32, ↓dn_pop64, ↓dn_aop, ↓dn_call, ↓dn_max, ↓dn_min, ↓dn_acp, ↓dn_i2l, ↓dn_args0, ↓dn_args1, og_pad, og_ent, og_rlt, og_rle, og_rgt, og_rge, og_req, og_rne, og_padd, og_psub, og_pmul, List.getD_cons_zero, List.getD_cons_succ, List.set_cons_zero, List.set_cons_succ, List.length_cons, List.length_nil, List.cons_append, List.nil_append, List.replicate, List.append_nil, Nat.reduceAdd, Nat.reduceSub, Nat.reduceEqDiff, if_true, if_false, reduceIte, Int.reduceAdd, Int.reduceSub, Int.reduceMul, Int.reduceNeg, Int.reduceLT, Int.reduceLE, Int.cast_ofNat_Int, true_or, or_true, true_and, and_true, false_and, List.mem_cons, List.not_mem_nil, or_false, false_or, ne_eq]
  unfold sWills at hK
  refine r_isLiving hn.1 ho ⟨fun a => ?_, fun a => ?_⟩
  · have hl := iteP1 a
    rw [if_pos hl] at hK
    exact r_willSet hR hP hn ho hk h53 hm0 hM hb hS hkS hl.1 (fun h1 hQ hb1 _ => hK h1 hQ hb1)
  · rw [if_neg (iteP0 a)] at hK
    exact hK h frQ_rf ⟨hb.1, by have := hb.2; omega⟩
end
end
