-- bits of small sets
theorem bt_and : ∀ s, s < 1024 → ∀ p, p < 10 → og_bit og_oand (og_bit og_oshr ((s : Nat) : Int) ((p : Nat) : Int)) 1 = if s.testBit p then 1 else 0 := by decide +kernel
theorem bt_or : ∀ s, s < 1024 → ∀ p, p < 10 → og_bit og_oor ((s : Nat) : Int) (og_bit og_oshl 1 ((p : Nat) : Int)) = ((s ||| 2 ^ p : Nat) : Int) := by decide +kernel
theorem bt_shl : ∀ p, p < 16 → og_bit og_oshl 1 ((p : Nat) : Int) = ((2 ^ p : Nat) : Int) := by decide +kernel
theorem bt_or_lt {s p n : Nat} (hs : s < 2 ^ n) (hp : p < n) : s ||| 2 ^ p < 2 ^ n := Nat.or_lt_two_pow hs (Nat.pow_lt_pow_right (by decide) hp)
theorem bt_tb {s p q : Nat} : (s ||| 2 ^ p).testBit q = (s.testBit q || decide (p = q)) := by rw [Nat.testBit_or, Nat.testBit_two_pow]
/-- a set out of a test -/
def sSet (f : Int → Bool) : Nat → Nat
  | 0 => 0
  | n + 1 => if f (n : Int) then sSet f n ||| 2 ^ n else sSet f n
theorem sSet_s (f : Int → Bool) (n : Nat) : sSet f (n + 1) = if f (n : Int) then sSet f n ||| 2 ^ n else sSet f n := rfl
theorem sSet_lt (f : Int → Bool) : ∀ n : Nat, sSet f n < 2 ^ n
  | 0 => Nat.zero_lt_one
  | n + 1 => by
    have h := sSet_lt f n
    have h2 : sSet f n < 2 ^ (n + 1) := Nat.lt_of_lt_of_le h (Nat.pow_le_pow_right (by decide) (by omega))
    rw [sSet_s]
    split
    · exact bt_or_lt h2 (by omega)
    · exact h2
theorem sSet_tb (f : Int → Bool) (q : Nat) : ∀ n : Nat, (sSet f n).testBit q = (decide (q < n) && f (q : Int))
  | 0 => by simp [sSet]
  | n + 1 => by
    have ih := sSet_tb f q n
    rw [sSet_s]
    by_cases e : q = n
    · subst e
      cases hf : f (q : Int)
      · rw [if_neg (by decide), ih]; simp
      · rw [if_pos rfl, bt_tb]; simp
    · have e1 : decide (q < n + 1) = decide (q < n) := by
        rw [decide_eq_decide]; omega
      have e2 : decide (n = q) = false := by simpa using fun z => e z.symm
      rw [e1]
      cases hf : f (n : Int)
      · rw [if_neg (by decide), ih]
      · rw [if_pos rfl, bt_tb, ih, e2]; simp
theorem sSet_le {f : Int → Bool} {n m : Nat} (h : n ≤ m) (hm : m ≤ 10) : sSet f n < 1024 := Nat.lt_of_lt_of_le (sSet_lt f n) (Nat.le_trans (Nat.pow_le_pow_right (by decide) (Nat.le_trans h hm)) (by decide))
def sBc (b : Nat) : Int := sCnt (fun k => b.testBit k.toNat) 10
theorem s_J_bitCount' : ∀ b, b < 1024 → (let x := ((b : Nat) : Int)
    let y1 := og_bit og_oand (og_bit og_oushr x 1) 1431655765
    let x1 := x - y1
    let y2 := og_bit og_oand x1 858993459
    let y3 := og_bit og_oand (og_bit og_oushr x1 2) 858993459
    let x2 := y2 + y3
    let y4 := og_bit og_oushr x2 4
    let x3 := og_bit og_oand (x2 + y4) 252645135
    let y5 := og_bit og_oushr x3 8
    let x4 := x3 + y5
    let y6 := og_bit og_oushr x4 16
    let x5 := x4 + y6
    ((-2147483648 ≤ x1 ∧ x1 ≤ 2147483647) ∧ (-2147483648 ≤ x2 ∧ x2 ≤ 2147483647) ∧ (-2147483648 ≤ x2 + y4 ∧ x2 + y4 ≤ 2147483647) ∧ (-2147483648 ≤ x4 ∧ x4 ≤ 2147483647) ∧ (-2147483648 ≤ x5 ∧ x5 ≤ 2147483647)) ∧ og_bit og_oand x5 63 = sBc b) := by decide +kernel
theorem s_J_bitCount {h : Hp} {b : Nat} {K : Int → Hp → Prop} (hb : b < 1024) (hK : K (sBc b) h) : m_J_bitCount [(b : Int)] h K := by
  have hh := s_J_bitCount' b hb
  unfold m_J_bitCount
  simp -implicitDefEqProofs only [↓dn_den, ↓dn_loc, ↓dn_k, ↓dn_add, ↓dn_sub, ↓dn_mul, ↓dn_div, ↓dn_rem, ↓dn_bop, ↓dn_ladd, ↓dn_lsub, ↓dn_lmul, ↓dn_ldiv, ↓dn_lrem, ↓dn_land, ↓dn_l2i, ↓dn_neg, ↓dn_get, ↓dn_fix, ↓dn_ald, ↓dn_gld, ↓dn_yld, ↓dn_len, ↓dn_gln, ↓dn_cc, ↓dn_cb, ↓dn_and, ↓dn_or, ↓dn_not, ↓dn_cite, ↓dn_ec, ↓dn_ei, ↓dn_skip, ↓dn_seq, ↓dn_set, ↓dn_inc, ↓dn_putf, ↓dn_putz, ↓dn_ast, ↓dn_exp, ↓dn_if, ↓dn_ret, ↓dn_retz, ↓dn_retv, ↓dn_brk, ↓dn_cont, ↓dn_cs, ↓dn_sw, ↓dn_pop32, ↓dn_pop64, ↓dn_aop, ↓dn_call, ↓dn_max, ↓dn_min, ↓dn_acp, ↓dn_i2l, ↓dn_args0, ↓dn_args1, og_pad, og_ent, og_rlt, og_rle, og_rgt, og_rge, og_req, og_rne, og_padd, og_psub, og_pmul, List.getD_cons_zero, List.getD_cons_succ, List.set_cons_zero, List.set_cons_succ, List.length_cons, List.length_nil, List.cons_append, List.nil_append, List.replicate, List.append_nil, Nat.reduceAdd, Nat.reduceSub, Nat.reduceEqDiff, if_true, if_false, reduceIte, Int.reduceAdd, Int.reduceSub, Int.reduceMul, Int.reduceNeg, Int.reduceLT, Int.reduceLE, Int.cast_ofNat_Int, true_or, or_true, true_and, and_true, false_and, List.mem_cons, List.not_mem_nil, or_false, false_or, ne_eq, og_i32]
  obtain ⟨⟨h1, h2, h3, h4, h5⟩, h6⟩ := hh
  exact ⟨h1, h2, h3, h4, h5, by rw [h6]; exact hK⟩
-- persuading
def sPf (P : Pr) (A : Yd) (p : Int) (m : Nat) : Bool := decide (sVal (P 9) (sUp A 7 p (A 7 p + m)) p (sAsked A) ≠ 0)
def sPersuade (P : Pr) (A : Yd) (p : Int) : Int := if (0 ≤ p ∧ p < A 0 1) ∧ sLive A p = true then (if sPf P A p (sLf (sPf P A p) (9 - A 7 p).toNat) = true then A 7 p + sLf (sPf P A p) (9 - A 7 p).toNat else -1) else -1
theorem sAsked_up7 {A : Yd} {k v : Int} : sAsked (sUp A 7 k v) = sAsked A := by
  have e : sAsk (sUp A 7 k v) = sAsk A := by funext g; unfold sAsk; rw [sUp_c (by decide), sUp_c (by decide)]
  unfold sAsked sNg
  rw [e, sUp_c (by decide)]
section
variable {h : Hp} {A : Yd} {P : Pr} {K : Int → Hp → Prop}
theorem s_Out_leastWill {s p : Int} (hR : hasR h s (A 0 1) P) (hP : okP P) (hs : 10 < s) (hs2 : s + 3 < 100) (hy : isY h 100 A) (ho : okY A) (hp : 0 ≤ p ∧ p < A 0 1) (hl : sLive A p = true)
    (hK : ∀ h', frY 110 h h' → K (sPersuade P A p) h') : m_Outlook_leastWill [10, s, 100, p] h K := by
  have h6 := ho.1
  have o8 := ho.2.2 p hp.1 hp.2
  obtain ⟨u, hu, -⟩ := hP 9 (by decide) (by decide)
  have hca := sCnt_le (sAsk A) (A 0 0).toNat
  unfold sPersuade at hK
  rw [if_pos ⟨hp, hl⟩] at hK
  unfold m_Outlook_leastWill
  simp -implicitDefEqProofs only [↓dn_den, ↓dn_loc, ↓dn_k, ↓dn_add, ↓dn_sub, ↓dn_mul, ↓dn_div, ↓dn_rem, ↓dn_bop, ↓dn_ladd, ↓dn_lsub, ↓dn_lmul, ↓dn_ldiv, ↓dn_lrem, ↓dn_land, ↓dn_l2i, ↓dn_neg, ↓dn_get, ↓dn_fix, ↓dn_ald, ↓dn_gld, ↓dn_yld, ↓dn_len, ↓dn_gln, ↓dn_cc, ↓dn_cb, ↓dn_and, ↓dn_or, ↓dn_not, ↓dn_cite, ↓dn_ec, ↓dn_ei, ↓dn_skip, ↓dn_seq, ↓dn_set, ↓dn_inc, ↓dn_putf, ↓dn_putz, ↓dn_ast, ↓dn_exp, ↓dn_if, ↓dn_ret, ↓dn_retz, ↓dn_retv, ↓dn_brk, ↓dn_cont, ↓dn_cs, ↓dn_sw, ↓dn_pop32, ↓dn_pop64, ↓dn_aop, ↓dn_call, ↓dn_max, ↓dn_min, ↓dn_acp, ↓dn_i2l, ↓dn_args0, ↓dn_args1, og_pad, og_ent, og_rlt, og_rle, og_rgt, og_rge, og_req, og_rne, og_padd, og_psub, og_pmul, List.getD_cons_zero, List.getD_cons_succ, List.set_cons_zero, List.set_cons_succ, List.length_cons, List.length_nil, List.cons_append, List.nil_append, List.replicate, List.append_nil, Nat.reduceAdd, Nat.reduceSub, Nat.reduceEqDiff, if_true, if_false, reduceIte, Int.reduceAdd, Int.reduceSub, Int.reduceMul, Int.reduceNeg, Int.reduceLT, Int.reduceLE, Int.cast_ofNat_Int, true_or, or_true, true_and, and_true, false_and, List.mem_cons, List.not_mem_nil, or_false, false_or, ne_eq, og_i32]
  refine s_Yard_become (by omega) hy ho (fun h1 hY1 hF1 => ?_)
  have hy1 : isY h1 100 A := isY_fr hy (fun i k a b => hF1 i k (by omega) (by omega) (by omega))
  refine s_Yard_countAsking hy1 ho ?_
  refine ⟨fun e2 h2 => frY 110 h h2 ∧ sLf (sPf P A p) (9 - A 7 p).toNat = 9 - A 7 p ∧ ¬ sPf P A p (sLf (sPf P A p) (9 - A 7 p).toNat) = true, ?_, ?_⟩
  · have e7 := (hy1.2.2.1 p hp.1 hp.2).2.2.1
    simp -implicitDefEqProofs only [↓dn_den, ↓dn_loc, ↓dn_k, ↓dn_add, ↓dn_sub, ↓dn_mul, ↓dn_div, ↓dn_rem, ↓dn_bop, ↓dn_ladd, ↓dn_lsub, ↓dn_lmul, ↓dn_ldiv, ↓dn_lrem, ↓dn_land, ↓dn_l2i, ↓dn_neg, ↓dn_get, ↓dn_fix, ↓dn_ald, ↓dn_gld, ↓dn_yld, ↓dn_len, ↓dn_gln, ↓dn_cc, ↓dn_cb, ↓dn_and, ↓dn_or, ↓dn_not, ↓dn_cite, ↓dn_ec, ↓dn_ei, ↓dn_skip, ↓dn_seq, ↓dn_set, ↓dn_inc, ↓dn_putf, ↓dn_putz, ↓dn_ast, ↓dn_exp, ↓dn_if, ↓dn_ret, ↓dn_retz, ↓dn_retv, ↓dn_brk, ↓dn_cont, ↓dn_cs, ↓dn_sw, ↓dn_pop32, ↓dn_pop64, ↓dn_aop, ↓dn_call, ↓dn_max, ↓dn_min, ↓dn_acp, ↓dn_i2l, ↓dn_args0, ↓dn_args1, og_pad, og_ent, og_rlt, og_rle, og_rgt, og_rge, og_req, og_rne, og_padd, og_psub, og_pmul, List.getD_cons_zero, List.getD_cons_succ, List.set_cons_zero, List.set_cons_succ, List.length_cons, List.length_nil, List.cons_append, List.nil_append, List.replicate, List.append_nil, Nat.reduceAdd, Nat.reduceSub, Nat.reduceEqDiff, if_true, if_false, reduceIte, Int.reduceAdd, Int.reduceSub, Int.reduceMul, Int.reduceNeg, Int.reduceLT, Int.reduceLE, Int.cast_ofNat_Int, true_or, or_true, true_and, and_true, false_and, List.mem_cons, List.not_mem_nil, or_false, false_or, ne_eq, og_i32]
    simp only [Int.reduceAdd] at e7
    rw [e7]
    refine ⟨hp.1, by omega, ?_⟩
    refine og_loop (9 - A 7 p + 1).toNat (fun i e1 h1 => e1 = [10, s, 100, p, sCnt (sAsk A) (A 0 0).toNat, A 7 p + i] ∧ isY h1 110 (if i = 0 then A else sUp A 7 p (A 7 p + (i - 1))) ∧ frY 110 h h1 ∧ (∀ m, m < i → sPf P A p m = false)) ⟨by simp, hY1, hF1, fun m hm => absurd hm (by omega)⟩ ?_
    rintro i e1 h2 hi ⟨rfl, hY, hF, hno⟩
    simp -implicitDefEqProofs only [↓dn_den, ↓dn_loc, ↓dn_k, ↓dn_add, ↓dn_sub, ↓dn_mul, ↓dn_div, ↓dn_rem, ↓dn_bop, ↓dn_ladd, ↓dn_lsub, ↓dn_lmul, ↓dn_ldiv, ↓dn_lrem, ↓dn_land, ↓dn_l2i, ↓dn_neg, ↓dn_get, ↓dn_fix, ↓dn_ald, ↓dn_gld, ↓dn_yld, ↓dn_len, ↓dn_gln, ↓dn_cc, ↓dn_cb, ↓dn_and, ↓dn_or, ↓dn_not, ↓dn_cite, ↓dn_ec, ↓dn_ei, ↓dn_skip, ↓dn_seq, ↓dn_set, ↓dn_inc, ↓dn_putf, ↓dn_putz, ↓dn_ast, ↓dn_exp, ↓dn_if, ↓dn_ret, ↓dn_retz, ↓dn_retv, ↓dn_brk, ↓dn_cont, ↓dn_cs, ↓dn_sw, ↓dn_pop32, ↓dn_pop64, ↓dn_aop, ↓dn_call, ↓dn_max, ↓dn_min, ↓dn_acp, ↓dn_i2l, ↓dn_args0, ↓dn_args1, og_pad, og_ent, og_rlt, og_rle, og_rgt, og_rge, og_req, og_rne, og_padd, og_psub, og_pmul, List.getD_cons_zero, List.getD_cons_succ, List.set_cons_zero, List.set_cons_succ, List.length_cons, List.length_nil, List.cons_append, List.nil_append, List.replicate, List.append_nil, Nat.reduceAdd, Nat.reduceSub, Nat.reduceEqDiff, if_true, if_false, reduceIte, Int.reduceAdd, Int.reduceSub, Int.reduceMul, Int.reduceNeg, Int.reduceLT, Int.reduceLE, Int.cast_ofNat_Int, true_or, or_true, true_and, and_true, false_and, List.mem_cons, List.not_mem_nil, or_false, false_or, ne_eq, og_i32]
    refine ⟨fun hlt => ?_, fun hge => ?_⟩
    · refine ⟨hp.1, by omega, ?_⟩
      have hB : isY (og_up h2 117 p (A 7 p + i)) 110 (sUp A 7 p (A 7 p + i)) := by
        have := isY_up (h := h2) (y := 110) (c := 7) (k := p) (v := A 7 p + i) (by decide) hY
        simp only [Int.reduceAdd] at this
        have e : sUp (if i = 0 then A else sUp A 7 p (A 7 p + (i - 1))) 7 p (A 7 p + i) = sUp A 7 p (A 7 p + i) := by
          funext c k
          by_cases z : i = 0
          · rw [if_pos z]
          · rw [if_neg z]; unfold sUp; split <;> rfl
        rw [e] at this
        exact this
      have hFB : frY 110 h (og_up h2 117 p (A 7 p + i)) := frY_up (y := 110) (c := 7) (by decide) hF
      have oB : okY (sUp A 7 p (A 7 p + i)) := okY_up7 ho (by omega)
      refine s_Reck_value (A := sUp A 7 p (A 7 p + i)) (hasR_fr hR hFB hs (by omega) (by omega) 9 (by decide) (by decide)) (by decide) hs (by decide) hB ⟨oB, hp.1, by rw [sUp_c (by decide)]; exact hp.2⟩ (by omega) hu (fun h3 hf3 => ?_)
      have hF3 : frY 110 h h3 := frY_tr hFB (frY_7 hf3)
      refine ⟨fun hv => ?_, fun hv => ?_⟩
      · have hpf : sPf P A p i = true := by unfold sPf sAsked sNg; simpa using hv
        have hu := sLf_un (f := sPf P A p) (n := i) (last := (9 - A 7 p).toNat) hno (by omega) (Or.inl hpf)
        rw [hu, if_pos hpf] at hK
        exact hK h3 hF3
      · have hpf : sPf P A p i = false := by unfold sPf sAsked sNg; simpa using hv
        refine ⟨by omega, og_nx_mk (by omega) ⟨by simp; omega, ?_, hF3, fun m hm => ?_⟩⟩
        · rw [if_neg (by omega)]
          have e : A 7 p + (((i + 1 : Nat) : Int) - 1) = A 7 p + i := by omega
          rw [e]
          exact isY_7 hB (by decide) hf3
        · by_cases e : m = i
          · subst e; exact hpf
          · exact hno m (by omega)
    · have e : i = (9 - A 7 p + 1).toNat := by omega
      have hl1 := sLf_un (f := sPf P A p) (n := (9 - A 7 p).toNat) (last := (9 - A 7 p).toNat) (fun m hm => hno m (by omega)) (Nat.le_refl _) (Or.inr rfl)
      refine ⟨hF, by rw [hl1]; omega, ?_⟩
      rw [hl1, hno _ (by omega)]
      decide
  · rintro e2 h2 ⟨hF, hl1, hl2⟩
    simp -implicitDefEqProofs only [↓dn_den, ↓dn_loc, ↓dn_k, ↓dn_add, ↓dn_sub, ↓dn_mul, ↓dn_div, ↓dn_rem, ↓dn_bop, ↓dn_ladd, ↓dn_lsub, ↓dn_lmul, ↓dn_ldiv, ↓dn_lrem, ↓dn_land, ↓dn_l2i, ↓dn_neg, ↓dn_get, ↓dn_fix, ↓dn_ald, ↓dn_gld, ↓dn_yld, ↓dn_len, ↓dn_gln, ↓dn_cc, ↓dn_cb, ↓dn_and, ↓dn_or, ↓dn_not, ↓dn_cite, ↓dn_ec, ↓dn_ei, ↓dn_skip, ↓dn_seq, ↓dn_set, ↓dn_inc, ↓dn_putf, ↓dn_putz, ↓dn_ast, ↓dn_exp, ↓dn_if, ↓dn_ret, ↓dn_retz, ↓dn_retv, ↓dn_brk, ↓dn_cont, ↓dn_cs, ↓dn_sw, ↓dn_pop32, ↓dn_pop64, ↓dn_aop, ↓dn_call, ↓dn_max, ↓dn_min, ↓dn_acp, ↓dn_i2l, ↓dn_args0, ↓dn_args1, og_pad, og_ent, og_rlt, og_rle, og_rgt, og_rge, og_req, og_rne, og_padd, og_psub, og_pmul, List.getD_cons_zero, List.getD_cons_succ, List.set_cons_zero, List.set_cons_succ, List.length_cons, List.length_nil, List.cons_append, List.nil_append, List.replicate, List.append_nil, Nat.reduceAdd, Nat.reduceSub, Nat.reduceEqDiff, if_true, if_false, reduceIte, Int.reduceAdd, Int.reduceSub, Int.reduceMul, Int.reduceNeg, Int.reduceLT, Int.reduceLE, Int.cast_ofNat_Int, true_or, or_true, true_and, and_true, false_and, List.mem_cons, List.not_mem_nil, or_false, false_or, ne_eq]
    rw [if_neg hl2] at hK
    exact hK h2 hF
theorem c_persuade {p : Int} (hc : isC h A P) (hP : okP P) (ho : okY A) (hK : ∀ h', frS h h' → K (sPersuade P A p) h') : m_OG_persuade [0, p] h K := by
  have ht := hc.2.1
  unfold toldOK at ht
  unfold m_OG_persuade
  simp -implicitDefEqProofs only [↓dn_den, ↓dn_loc, ↓dn_k, ↓dn_add, ↓dn_sub, ↓dn_mul, ↓dn_div, ↓dn_rem, ↓dn_bop, ↓dn_ladd, ↓dn_lsub, ↓dn_lmul, ↓dn_ldiv, ↓dn_lrem, ↓dn_land, ↓dn_l2i, ↓dn_neg, ↓dn_get, ↓dn_fix, ↓dn_ald, ↓dn_gld, ↓dn_yld, ↓dn_len, ↓dn_gln, ↓dn_cc, ↓dn_cb, ↓dn_and, ↓dn_or, ↓dn_not, ↓dn_cite, ↓dn_ec, ↓dn_ei, ↓dn_skip, ↓dn_seq, ↓dn_set, ↓dn_inc, ↓dn_putf, ↓dn_putz, ↓dn_ast, ↓dn_exp, ↓dn_if, ↓dn_ret, ↓dn_retz, ↓dn_retv, ↓dn_brk, ↓dn_cont, ↓dn_cs, ↓dn_sw, ↓dn_pop32, ↓dn_pop64, ↓dn_aop, ↓dn_call, ↓dn_max, ↓dn_min, ↓dn_acp, ↓dn_i2l, ↓dn_args0, ↓dn_args1, og_pad, og_ent, og_rlt, og_rle, og_rgt, og_rge, og_req, og_rne, og_padd, og_psub, og_pmul, List.getD_cons_zero, List.getD_cons_succ, List.set_cons_zero, List.set_cons_succ, List.length_cons, List.length_nil, List.cons_append, List.nil_append, List.replicate, List.append_nil, Nat.reduceAdd, Nat.reduceSub, Nat.reduceEqDiff, if_true, if_false, reduceIte, Int.reduceAdd, Int.reduceSub, Int.reduceMul, Int.reduceNeg, Int.reduceLT, Int.reduceLE, Int.cast_ofNat_Int, true_or, or_true, true_and, and_true, false_and, List.mem_cons, List.not_mem_nil, or_false, false_or, ne_eq]
  apply c_lives hc.1 ho
  refine ⟨fun hx => ?_, fun hx => ?_⟩
  · have hg := iteP1 hx
    exact s_Out_leastWill hc.2.2 hP (by omega) (by omega) hc.1 ho hg.1 hg.2 (fun h1 hF => hK h1 (frS_Y hF))
  · have := hK h frS_rf
    unfold sPersuade at this
    rw [if_neg (iteP0 hx)] at this
    exact this
theorem r_persuade {p : Int} (hR : hasM h P) (hP : okQ P) (hn : isN h A) (ho : okY A) (hK : ∀ h', frQ h h' → h' 1000 54 = h 1000 54 → K (sPersuade P A p) h') : m_Model_persuade [1000, p] h K := by
  have h6 := ho.1
  unfold m_Model_persuade
  simp -implicitDefEqProofs only [↓dn_den, ↓dn_loc, ↓dn_k, ↓dn_add, ↓dn_sub, ↓dn_mul, ↓dn_div, ↓dn_rem, ↓dn_bop, ↓dn_ladd, ↓dn_lsub, ↓dn_lmul, ↓dn_ldiv, ↓dn_lrem, ↓dn_land, ↓dn_l2i, ↓dn_neg, ↓dn_get, ↓dn_fix, ↓dn_ald, ↓dn_gld, ↓dn_yld, ↓dn_len, ↓dn_gln, ↓dn_cc, ↓dn_cb, ↓dn_and, ↓dn_or, ↓dn_not, ↓dn_cite, ↓dn_ec, ↓dn_ei, ↓dn_skip, ↓dn_seq, ↓dn_set, ↓dn_inc, ↓dn_putf, ↓dn_putz, ↓dn_ast, ↓dn_exp, ↓dn_if, ↓dn_ret, ↓dn_retz, ↓dn_retv, ↓dn_brk, ↓dn_cont, ↓dn_cs, ↓dn_sw, ↓dn_pop32, ↓dn_pop64, ↓dn_aop, ↓dn_call, ↓dn_max, ↓dn_min, ↓dn_acp, ↓dn_i2l, ↓dn_args0, ↓dn_args1, og_pad, og_ent, og_rlt, og_rle, og_rgt, og_rge, og_req, og_rne, og_padd, og_psub, og_pmul, List.getD_cons_zero, List.getD_cons_succ, List.set_cons_zero, List.set_cons_succ, List.length_cons, List.length_nil, List.cons_append, List.nil_append, List.replicate, List.append_nil, Nat.reduceAdd, Nat.reduceSub, Nat.reduceEqDiff, if_true, if_false, reduceIte, Int.reduceAdd, Int.reduceSub, Int.reduceMul, Int.reduceNeg, Int.reduceLT, Int.reduceLE, Int.cast_ofNat_Int, true_or, or_true, true_and, and_true, false_and, List.mem_cons, List.not_mem_nil, or_false, false_or, ne_eq, og_i32]
  apply r_isLiving hn.1 ho
  unfold sPersuade at hK
  refine ⟨fun hx => ?_, fun hx => ?_⟩
  · have hg := iteP1 hx
    rw [if_pos hg] at hK
    have o8 := ho.2.2 p hg.1.1 hg.1.2
    have e7 := (hn.1.2.2 p hg.1.1 hg.1.2).2.2.1
    apply r_willOf hn.1 ho hg.1.1 hg.1.2
    refine ⟨fun e2 h2 => (∃ c4, e2 = [1000, p, A 7 p, if sPf P A p (sLf (sPf P A p) (9 - A 7 p).toNat) = true then A 7 p + sLf (sPf P A p) (9 - A 7 p).toNat else -1, c4]) ∧ frE h (og_up h2 1037 (21 + 3 * p) (A 7 p)), ?_, ?_⟩
    · simp -implicitDefEqProofs only [↓dn_den, ↓dn_loc, ↓dn_k, ↓dn_add, ↓dn_sub, ↓dn_mul, ↓dn_div, ↓dn_rem, ↓dn_bop, ↓dn_ladd, ↓dn_lsub, ↓dn_lmul, ↓dn_ldiv, ↓dn_lrem, ↓dn_land, ↓dn_l2i, ↓dn_neg, ↓dn_get, ↓dn_fix, ↓dn_ald, ↓dn_gld, ↓dn_yld, ↓dn_len, ↓dn_gln, ↓dn_cc, ↓dn_cb, ↓dn_and, ↓dn_or, ↓dn_not, ↓dn_cite, ↓dn_ec, ↓dn_ei, ↓dn_skip, ↓dn_seq, ↓dn_set, ↓dn_inc, ↓dn_putf, ↓dn_putz, ↓dn_ast, ↓dn_exp, ↓dn_if, ↓dn_ret, ↓dn_retz, ↓dn_retv, ↓dn_brk, ↓dn_cont, ↓dn_cs, ↓dn_sw, ↓dn_pop32, ↓dn_pop64, ↓dn_aop, ↓dn_call, ↓dn_max, ↓dn_min, ↓dn_acp, ↓dn_i2l, ↓dn_args0, ↓dn_args1, og_pad, og_ent, og_rlt, og_rle, og_rgt, og_rge, og_req, og_rne, og_padd, og_psub, og_pmul, List.getD_cons_zero, List.getD_cons_succ, List.set_cons_zero, List.set_cons_succ, List.length_cons, List.length_nil, List.cons_append, List.nil_append, List.replicate, List.append_nil, Nat.reduceAdd, Nat.reduceSub, Nat.reduceEqDiff, if_true, if_false, reduceIte, Int.reduceAdd, Int.reduceSub, Int.reduceMul, Int.reduceNeg, Int.reduceLT, Int.reduceLE, Int.cast_ofNat_Int, true_or, or_true, true_and, and_true, false_and, List.mem_cons, List.not_mem_nil, or_false, false_or, ne_eq]
      refine og_loop (9 - A 7 p + 2).toNat (fun i e1 h1 => ∃ v, e1 = [1000, p, A 7 p, v, A 7 p + i] ∧ frE h (og_up h1 1037 (21 + 3 * p) (A 7 p)) ∧ ((v = -1 ∧ i ≤ (9 - A 7 p + 1).toNat ∧ ∀ m, m < i → sPf P A p m = false) ∨ (1 ≤ i ∧ v = A 7 p + (i - 1) ∧ i - 1 ≤ (9 - A 7 p).toNat ∧ sPf P A p (i - 1) = true ∧ ∀ m, m < i - 1 → sPf P A p m = false))) ⟨-1, by simp, ?_, Or.inl ⟨rfl, by omega, fun m hm => absurd hm (by omega)⟩⟩ ?_
      · intro i k a b
        unfold og_up
        split
        · rename_i z; rw [z.1, z.2, e7]
        · rfl
      rintro i e1 h2 hi ⟨v, rfl, hF, hor⟩
      simp -implicitDefEqProofs only [↓dn_den, ↓dn_loc, ↓dn_k, ↓dn_add, ↓dn_sub, ↓dn_mul, ↓dn_div, ↓dn_rem, ↓dn_bop, ↓dn_ladd, ↓dn_lsub, ↓dn_lmul, ↓dn_ldiv, ↓dn_lrem, ↓dn_land, ↓dn_l2i, ↓dn_neg, ↓dn_get, ↓dn_fix, ↓dn_ald, ↓dn_gld, ↓dn_yld, ↓dn_len, ↓dn_gln, ↓dn_cc, ↓dn_cb, ↓dn_and, ↓dn_or, ↓dn_not, ↓dn_cite, ↓dn_ec, ↓dn_ei, ↓dn_skip, ↓dn_seq, ↓dn_set, ↓dn_inc, ↓dn_putf, ↓dn_putz, ↓dn_ast, ↓dn_exp, ↓dn_if, ↓dn_ret, ↓dn_retz, ↓dn_retv, ↓dn_brk, ↓dn_cont, ↓dn_cs, ↓dn_sw, ↓dn_pop32, ↓dn_pop64, ↓dn_aop, ↓dn_call, ↓dn_max, ↓dn_min, ↓dn_acp, ↓dn_i2l, ↓dn_args0, ↓dn_args1, og_pad, og_ent, og_rlt, og_rle, og_rgt, og_rge, og_req, og_rne, og_padd, og_psub, og_pmul, List.getD_cons_zero, List.getD_cons_succ, List.set_cons_zero, List.set_cons_succ, List.length_cons, List.length_nil, List.cons_append, List.nil_append, List.replicate, List.append_nil, Nat.reduceAdd, Nat.reduceSub, Nat.reduceEqDiff, if_true, if_false, reduceIte, Int.reduceAdd, Int.reduceSub, Int.reduceMul, Int.reduceNeg, Int.reduceLT, Int.reduceLE, Int.cast_ofNat_Int, true_or, or_true, true_and, and_true, false_and, List.mem_cons, List.not_mem_nil, or_false, false_or, ne_eq, og_i32]
      have done : ¬ (A 7 p + i ≤ 9 ∧ v = -1) → (∃ c4, [1000, p, A 7 p, v, A 7 p + i] = [1000, p, A 7 p, if sPf P A p (sLf (sPf P A p) (9 - A 7 p).toNat) = true then A 7 p + sLf (sPf P A p) (9 - A 7 p).toNat else -1, c4]) ∧ frE h (og_up h2 1037 (21 + 3 * p) (A 7 p)) := by
        intro hz
        refine ⟨⟨A 7 p + i, ?_⟩, hF⟩
        rcases hor with ⟨rfl, h1, h2⟩ | ⟨h1, rfl, h3, h4, h5⟩
        · have hl1 := sLf_un (f := sPf P A p) (n := (9 - A 7 p).toNat) (last := (9 - A 7 p).toNat) (fun m hm => h2 m (by omega)) (Nat.le_refl _) (Or.inr rfl)
          rw [hl1, if_neg (by rw [h2 _ (by omega)]; decide)]
        · have hl1 := sLf_un (f := sPf P A p) (n := i - 1) (last := (9 - A 7 p).toNat) h5 h3 (Or.inl h4)
          rw [hl1, if_pos h4]
          have : (((i - 1 : Nat) : Int)) = (i : Int) - 1 := by omega
          rw [this]
      refine ⟨fun hlt => ⟨fun hv => ?_, fun hv => done (fun z => hv z.2)⟩, fun hge => done (fun z => hge z.1)⟩
      rcases hor with ⟨-, h1, hno⟩ | ⟨h1, z, h3, h4, h5⟩
      · refine ⟨by omega, by omega, by omega, by omega, ?_⟩
        have hB : isN (og_up h2 1037 (21 + 3 * p) (A 7 p + i)) (sUp A 7 p (A 7 p + i)) := by
          have e := isN_upP (h := og_up h2 1037 (21 + 3 * p) (A 7 p)) (c := 7) (d := 21) (k := p) (v := A 7 p + i) (by omega) ho hg.1.1 hg.1.2 (isN_E hn hF)
          have : og_up (og_up h2 1037 (21 + 3 * p) (A 7 p)) 1037 (21 + 3 * p) (A 7 p + i) = og_up h2 1037 (21 + 3 * p) (A 7 p + i) := by
            funext a b; unfold og_up; split <;> rfl
          rw [this] at e
          exact e
        have oB : okY (sUp A 7 p (A 7 p + i)) := okY_up7 ho (by omega)
        have hRB : hasM (og_up h2 1037 (21 + 3 * p) (A 7 p + i)) P := by
          refine hasM_fr (hasM_E hR hF) (fun j k hj => ?_)
          rw [og_up_i (by omega), og_up_i (by omega)]
        refine r_doesCome hRB hP hB.1 ⟨oB, hg.1.1, by rw [sUp_c (by decide)]; exact hg.1.2⟩ (fun h3 hf3 => ?_)
        rw [sAsked_up7]
        have hF3 : frE h (og_up h3 1037 (21 + 3 * p) (A 7 p)) := by
          intro j k a b
          by_cases z : j = 1037 ∧ k = 21 + 3 * p
          · rw [z.1, z.2, og_up_eq, e7]
          · have e1 : og_up h3 1037 (21 + 3 * p) (A 7 p) j k = h3 j k := by unfold og_up; exact if_neg z
            have e2 := hf3 j k a b
            have e3 : og_up h2 1037 (21 + 3 * p) (A 7 p + i) j k = h2 j k := by unfold og_up; exact if_neg z
            have e4 : og_up h2 1037 (21 + 3 * p) (A 7 p) j k = h2 j k := by unfold og_up; exact if_neg z
            rw [e1, e2, e3, ← e4]
            exact hF j k a b
        refine ⟨fun hz => ?_, fun hz => ?_⟩
        · have hq := iteP1 hz
          have hpf : sPf P A p i = true := by unfold sPf; simpa using hq
          refine ⟨by omega, og_nx_mk (by omega) ⟨A 7 p + i, ?_, hF3, Or.inr ⟨by omega, by omega, by omega, ?_, fun m hm => hno m (by omega)⟩⟩⟩
          · simp; omega
          · have : i + 1 - 1 = i := by omega
            rw [this]; exact hpf
        · have hq := iteP0 hz
          have hpf : sPf P A p i = false := by unfold sPf; simpa using hq
          refine ⟨by omega, og_nx_mk (by omega) ⟨v, ?_, hF3, Or.inl ⟨hv, by omega, fun m hm => ?_⟩⟩⟩
          · simp; omega
          · by_cases e : m = i
            · subst e; exact hpf
            · exact hno m (by omega)
      · omega
    · rintro e2 h2 ⟨⟨c4, rfl⟩, hF⟩
      simp -implicitDefEqProofs only [↓dn_den, ↓dn_loc, ↓dn_k, ↓dn_add, ↓dn_sub, ↓dn_mul, ↓dn_div, ↓dn_rem, ↓dn_bop, ↓dn_ladd, ↓dn_lsub, ↓dn_lmul, ↓dn_ldiv, ↓dn_lrem, ↓dn_land, ↓dn_l2i, ↓dn_neg, ↓dn_get, ↓dn_fix, ↓dn_ald, ↓dn_gld, ↓dn_yld, ↓dn_len, ↓dn_gln, ↓dn_cc, ↓dn_cb, ↓dn_and, ↓dn_or, ↓dn_not, ↓dn_cite, ↓dn_ec, ↓dn_ei, ↓dn_skip, ↓dn_seq, ↓dn_set, ↓dn_inc, ↓dn_putf, ↓dn_putz, ↓dn_ast, ↓dn_exp, ↓dn_if, ↓dn_ret, ↓dn_retz, ↓dn_retv, ↓dn_brk, ↓dn_cont, ↓dn_cs, ↓dn_sw, ↓dn_pop32, ↓dn_pop64, ↓dn_aop, ↓dn_call, ↓dn_max, ↓dn_min, ↓dn_acp, ↓dn_i2l, ↓dn_args0, ↓dn_args1, og_pad, og_ent, og_rlt, og_rle, og_rgt, og_rge, og_req, og_rne, og_padd, og_psub, og_pmul, List.getD_cons_zero, List.getD_cons_succ, List.set_cons_zero, List.set_cons_succ, List.length_cons, List.length_nil, List.cons_append, List.nil_append, List.replicate, List.append_nil, Nat.reduceAdd, Nat.reduceSub, Nat.reduceEqDiff, if_true, if_false, reduceIte, Int.reduceAdd, Int.reduceSub, Int.reduceMul, Int.reduceNeg, Int.reduceLT, Int.reduceLE, Int.cast_ofNat_Int, true_or, or_true, true_and, and_true, false_and, List.mem_cons, List.not_mem_nil, or_false, false_or, ne_eq, og_i32]
      exact ⟨by omega, by omega, by omega, by omega, hK _ (frQ_E hF) (hF _ _ (by decide) (fun _ => by decide))⟩
  · rw [if_neg (iteP0 hx)] at hK
    exact hK h frQ_rf rfl
end
