-- the simple questions, class and reference
/-- queries of the class change these alone -/
def frS (h h' : Hp) : Prop := ∀ i k, ¬ (i = 7 ∨ i = 9 ∨ (12 ≤ i ∧ i ≤ 19) ∨ (110 ≤ i ∧ i ≤ 119)) → h' i k = h i k
theorem frS_rf {h : Hp} : frS h h := fun _ _ _ => rfl
theorem frS_tr {h h1 h2 : Hp} (a : frS h h1) (b : frS h1 h2) : frS h h2 := fun i k p => (b i k p).trans (a i k p)
theorem frS_Y {h h' : Hp} (a : frY 110 h h') : frS h h' := fun i k p => a i k (by omega) (by omega) (by omega)
theorem frS_7 {h h' : Hp} (a : ∀ i k, i ≠ 7 → h' i k = h i k) : frS h h' := fun i k p => a i k (by omega)
theorem isY_fr {h h' : Hp} {y : Int} {A : Yd} (hy : isY h y A) (hf : ∀ i k, y ≤ i → i ≤ y + 9 → h' i k = h i k) : isY h' y A := by
  obtain ⟨a1, a2, a3, a4⟩ := hy
  refine ⟨⟨?_, ?_, ?_, ?_⟩, fun k k0 k1 => ⟨?_, ?_, ?_, ?_⟩, fun k k0 k1 => ⟨?_, ?_, ?_, ?_⟩, fun k k0 k1 => ?_⟩ <;> rw [hf _ _ (by omega) (by omega)]
  · exact a1.1
  · exact a1.2.1
  · exact a1.2.2.1
  · exact a1.2.2.2
  · exact (a2 k k0 k1).1
  · exact (a2 k k0 k1).2.1
  · exact (a2 k k0 k1).2.2.1
  · exact (a2 k k0 k1).2.2.2
  · exact (a3 k k0 k1).1
  · exact (a3 k k0 k1).2.1
  · exact (a3 k k0 k1).2.2.1
  · exact (a3 k k0 k1).2.2.2
  · exact a4 k k0 k1
theorem isR_eq {h h' : Hp} {s r : Int} {prog : List Int} (hR : isR h s r prog) (hf : ∀ i k, s < i → i ≤ s + 3 → h' i k = h i k) : isR h' s r prog := by
  obtain ⟨a, b, c, d⟩ := hR
  have e2 : ∀ k, h' (s + 2) k = h (s + 2) k := fun k => hf _ _ (by omega) (by omega)
  have e3 : ∀ k, h' (s + 3) k = h (s + 3) k := fun k => hf _ _ (by omega) (by omega)
  have e1 : ∀ k, h' (s + 1) k = h (s + 1) k := fun k => hf _ _ (by omega) (by omega)
  unfold isR
  simp only [e1, e2, e3]
  exact ⟨a, b, c, d⟩
def toldOK (h : Hp) : Prop := h 0 15 = 30 ∨ h 0 15 = 40
/-- the class, as it stands: its yard, its rules -/
def isC (h : Hp) (A : Yd) (P : Pr) : Prop := isY h 100 A ∧ toldOK h ∧ hasR h (h 0 15 + 2) (A 0 1) P
theorem isC_S {h h' : Hp} {A : Yd} {P : Pr} (hc : isC h A P) (hf : frS h h') : isC h' A P := by
  obtain ⟨a, b, c⟩ := hc
  have e : h' 0 15 = h 0 15 := hf _ _ (by decide)
  refine ⟨isY_fr a (fun i k p q => hf i k (by omega)), by unfold toldOK; rw [e]; exact b, ?_⟩
  rw [e]
  unfold toldOK at b
  exact fun n0 r r0 r1 => isR_eq (c n0 r r0 r1) (fun i k p q => hf i k (by omega))
def sHas (A : Yd) (r u w : Int) : Int := if w = 0 then A 0 0 else if w = 1 then A 0 1 else if w = 2 then A 0 2 else if w = 3 then sCnt (sLive A) (sNp A) else if w = 4 then sAsked A else if w = 5 then sCnt (sFill A) (sNg A) else if w = 6 then A 0 3 else if w = 7 then r else if w = 8 then u else -1
def sGrave (A : Yd) (g w : Int) : Int := if 0 ≤ g ∧ g < A 0 0 then (if w = 0 then A 1 g else if w = 1 then A 2 g else if w = 2 then A 3 g else if w = 3 then A 4 g else if w = 4 then (if sAsk A g then 1 else 0) else -1) else -1
def sPerson (A : Yd) (p w : Int) : Int := if 0 ≤ p ∧ p < A 0 1 then (if w = 0 then A 5 p else if w = 1 then A 6 p else if w = 2 then A 7 p else if w = 3 then A 8 p else -1) else -1
def sCounts (P : Pr) (A : Yd) (p w : Int) : Int := if 0 ≤ p ∧ p < A 0 1 then (if w = 0 then sCut (sVal (P 8) A p 0) 100 else if w = 1 then sVal (P 10) A p 0 else if w = 2 then sCut (sVal (P 12) A p 0) 999 else -1000000000000000) else -1000000000000000
def sNextQ (A : Yd) (p : Int) : Int := if (0 ≤ p ∧ p < A 0 1) ∧ sLive A p = true then sNext A p (sNg A) else -1
def sKept (A : Yd) (k w : Int) : Int := if (0 ≤ k ∧ k < A 0 3) ∧ 0 ≤ w ∧ w ≤ 3 then A 9 (4 * k + w) else -1
section
variable {h : Hp} {A : Yd} {P : Pr} {K : Int → Hp → Prop}
theorem c_has {w : Int} (hy : isY h 100 A) (ho : okY A) (hK : K (sHas A (h 10 4) (h 20 1) w) h) : m_OG_has [0, w] h K := by
  unfold m_OG_has
  simp -implicitDefEqProofs only [↓dn_den, ↓dn_loc, ↓dn_k, ↓dn_add, ↓dn_sub, ↓dn_mul, ↓dn_div, ↓dn_rem, ↓dn_bop, ↓dn_ladd, ↓dn_lsub, ↓dn_lmul, ↓dn_ldiv, ↓dn_lrem, ↓dn_land, ↓dn_l2i, ↓dn_neg, ↓dn_get, ↓dn_fix, ↓dn_ald, ↓dn_gld, ↓dn_yld, ↓dn_len, ↓dn_gln, ↓dn_cc, ↓dn_cb, ↓dn_and, ↓dn_or, ↓dn_not, ↓dn_cite, ↓dn_ec, ↓dn_ei, ↓dn_skip, ↓dn_seq, ↓dn_set, ↓dn_inc, ↓dn_putf, ↓dn_putz, ↓dn_ast, ↓dn_exp, ↓dn_if, ↓dn_ret, ↓dn_retz, ↓dn_retv, ↓dn_brk, ↓dn_cont, ↓dn_cs, ↓dn_sw, ↓dn_pop32, ↓dn_pop64, ↓dn_aop, ↓dn_call, ↓dn_max, ↓dn_min, ↓dn_acp, ↓dn_i2l, ↓dn_args0, ↓dn_args1, og_pad, og_ent, og_rlt, og_rle, og_rgt, og_rge, og_req, og_rne, og_padd, og_psub, og_pmul, List.getD_cons_zero, List.getD_cons_succ, List.set_cons_zero, List.set_cons_succ, List.length_cons, List.length_nil, List.cons_append, List.nil_append, List.replicate, List.append_nil, Nat.reduceAdd, Nat.reduceSub, Nat.reduceEqDiff, if_true, if_false, reduceIte, Int.reduceAdd, Int.reduceSub, Int.reduceMul, Int.reduceNeg, Int.reduceLT, Int.reduceLE, Int.cast_ofNat_Int, true_or, or_true, true_and, and_true, false_and, List.mem_cons, List.not_mem_nil, or_false, false_or, ne_eq]
  refine ⟨fun e => ?_, fun n0 => ⟨fun e => ?_, fun n1 => ⟨fun e => ?_, fun n2 => ⟨fun e => ?_, fun n3 => ⟨fun e => ?_, fun n4 => ⟨fun e => ?_, fun n5 => ⟨fun e => ?_, fun n6 => ⟨fun e => ?_, fun n7 => ⟨fun e => ?_, fun n8 => ?_⟩⟩⟩⟩⟩⟩⟩⟩⟩
  · subst e; rw [hy.1.1]; simpa [sHas] using hK
  · subst e; rw [hy.1.2.1]; simpa [sHas] using hK
  · subst e; rw [hy.1.2.2.1]; simpa [sHas] using hK
  · subst e; exact s_Yard_countAlive hy ho (by simpa [sHas, sNp, sNg, sAsked] using hK)
  · subst e; exact s_Yard_countAsking hy ho (by simpa [sHas, sNp, sNg, sAsked] using hK)
  · subst e; exact s_Yard_countFilled hy ho (by simpa [sHas, sNp, sNg, sAsked] using hK)
  · subst e; rw [hy.1.2.2.2]; simpa [sHas] using hK
  · subst e; simpa [sHas] using hK
  · subst e; simpa [sHas] using hK
  · simpa [sHas, n0, n1, n2, n3, n4, n5, n6, n7, n8] using hK
theorem r_has {w : Int} (hn : isN h A) (h53 : h 1000 53 = 0) (ho : okY A) (hK : K (sHas A (h 1000 61) (h 1000 65) w) h) : m_Model_has [1000, w] h K := by
  have hm := hn.1
  unfold m_Model_has
  simp -implicitDefEqProofs only [↓dn_den, ↓dn_loc, ↓dn_k, ↓dn_add, ↓dn_sub, ↓dn_mul, ↓dn_div, ↓dn_rem, ↓dn_bop, ↓dn_ladd, ↓dn_lsub, ↓dn_lmul, ↓dn_ldiv, ↓dn_lrem, ↓dn_land, ↓dn_l2i, ↓dn_neg, ↓dn_get, ↓dn_fix, ↓dn_ald, ↓dn_gld, ↓dn_yld, ↓dn_len, ↓dn_gln, ↓dn_cc, ↓dn_cb, ↓dn_and, ↓dn_or, ↓dn_not, ↓dn_cite, ↓dn_ec, ↓dn_ei, ↓dn_skip, ↓dn_seq, ↓dn_set, ↓dn_inc, ↓dn_putf, ↓dn_putz, ↓dn_ast, ↓dn_exp, ↓dn_if, ↓dn_ret, ↓dn_retz, ↓dn_retv, ↓dn_brk, ↓dn_cont, ↓dn_cs, ↓dn_sw, ↓dn_pop32, ↓dn_pop64, ↓dn_aop, ↓dn_call, ↓dn_max, ↓dn_min, ↓dn_acp, ↓dn_i2l, ↓dn_args0, ↓dn_args1, og_pad, og_ent, og_rlt, og_rle, og_rgt, og_rge, og_req, og_rne, og_padd, og_psub, og_pmul, List.getD_cons_zero, List.getD_cons_succ, List.set_cons_zero, List.set_cons_succ, List.length_cons, List.length_nil, List.cons_append, List.nil_append, List.replicate, List.append_nil, Nat.reduceAdd, Nat.reduceSub, Nat.reduceEqDiff, if_true, if_false, reduceIte, Int.reduceAdd, Int.reduceSub, Int.reduceMul, Int.reduceNeg, Int.reduceLT, Int.reduceLE, Int.cast_ofNat_Int, true_or, or_true, true_and, and_true, false_and, List.mem_cons, List.not_mem_nil, or_false, false_or, ne_eq, og_i32]
  refine ⟨fun e => ?_, fun n0 => ⟨fun e => ?_, fun n2 => ⟨fun e => ?_, fun n3 => ⟨fun e => ?_, fun n4 => ⟨fun e => ?_, fun n5 => ⟨fun e => ?_, fun n6 => ⟨fun e => ?_, fun n7 => ⟨fun e => ?_, fun n8 => ?_⟩⟩⟩⟩⟩⟩⟩⟩
  · rcases e with e | e
    · subst e; refine ⟨by decide, by decide, by decide, ?_⟩; rw [show (2 : Int) + 0 = 2 by decide, hm.1.1]; simpa [sHas] using hK
    · subst e; refine ⟨by decide, by decide, by decide, ?_⟩; rw [show (2 : Int) + 1 = 3 by decide, hm.1.2.1]; simpa [sHas] using hK
  · subst e; rw [hm.1.2.2]; simpa [sHas] using hK
  · subst e; exact r_aliveMany hm ho (by simpa [sHas, sNp, sNg, sAsked] using hK)
  · subst e; exact r_askingMany hm ho (by simpa [sHas, sNp, sNg, sAsked] using hK)
  · subst e; exact r_filledMany hm ho (by simpa [sHas, sNp, sNg, sAsked] using hK)
  · subst e; rw [(hn.2 h53).1]; simpa [sHas] using hK
  · subst e; simpa [sHas] using hK
  · subst e; simpa [sHas] using hK
  · have m0 : ¬ w = 0 := fun z => n0 (Or.inl z)
    have m1 : ¬ w = 1 := fun z => n0 (Or.inr z)
    simpa [sHas, m0, m1, n2, n3, n4, n5, n6, n7, n8] using hK
theorem c_grave {g w : Int} (hy : isY h 100 A) (ho : okY A) (hK : K (sGrave A g w) h) : m_OG_grave [0, g, w] h K := by
  have h6 := ho.1
  unfold m_OG_grave
  simp -implicitDefEqProofs only [↓dn_den, ↓dn_loc, ↓dn_k, ↓dn_add, ↓dn_sub, ↓dn_mul, ↓dn_div, ↓dn_rem, ↓dn_bop, ↓dn_ladd, ↓dn_lsub, ↓dn_lmul, ↓dn_ldiv, ↓dn_lrem, ↓dn_land, ↓dn_l2i, ↓dn_neg, ↓dn_get, ↓dn_fix, ↓dn_ald, ↓dn_gld, ↓dn_yld, ↓dn_len, ↓dn_gln, ↓dn_cc, ↓dn_cb, ↓dn_and, ↓dn_or, ↓dn_not, ↓dn_cite, ↓dn_ec, ↓dn_ei, ↓dn_skip, ↓dn_seq, ↓dn_set, ↓dn_inc, ↓dn_putf, ↓dn_putz, ↓dn_ast, ↓dn_exp, ↓dn_if, ↓dn_ret, ↓dn_retz, ↓dn_retv, ↓dn_brk, ↓dn_cont, ↓dn_cs, ↓dn_sw, ↓dn_pop32, ↓dn_pop64, ↓dn_aop, ↓dn_call, ↓dn_max, ↓dn_min, ↓dn_acp, ↓dn_i2l, ↓dn_args0, ↓dn_args1, og_pad, og_ent, og_rlt, og_rle, og_rgt, og_rge, og_req, og_rne, og_padd, og_psub, og_pmul, List.getD_cons_zero, List.getD_cons_succ, List.set_cons_zero, List.set_cons_succ, List.length_cons, List.length_nil, List.cons_append, List.nil_append, List.replicate, List.append_nil, Nat.reduceAdd, Nat.reduceSub, Nat.reduceEqDiff, if_true, if_false, reduceIte, Int.reduceAdd, Int.reduceSub, Int.reduceMul, Int.reduceNeg, Int.reduceLT, Int.reduceLE, Int.cast_ofNat_Int, true_or, or_true, true_and, and_true, false_and, List.mem_cons, List.not_mem_nil, or_false, false_or, ne_eq]
  apply s_Yard_isGrave
  rw [hy.1.1]
  unfold sGrave at hK
  refine ⟨fun hx => ?_, fun hx => ?_⟩
  · have hg := iteP1 hx
    rw [if_pos hg] at hK
    have hw := hy.2.1 g hg.1 hg.2
    rw [show (100 : Int) + 1 = 101 by decide] at hw
    have b0 : g < 6 := by omega
    refine ⟨fun e => ⟨hg.1, b0, ?_⟩, fun n0 => ⟨fun e => ⟨hg.1, b0, ?_⟩, fun n1 => ⟨fun e => ⟨hg.1, b0, ?_⟩, fun n2 => ⟨fun e => ⟨hg.1, b0, ?_⟩, fun n3 => ⟨fun e => ?_, fun n4 => ?_⟩⟩⟩⟩⟩
    · subst e; rw [hw.1]; simpa using hK
    · subst e; have := hw.2.1; simp at this; rw [this]; simpa using hK
    · subst e; have := hw.2.2.1; simp at this; rw [this]; simpa using hK
    · subst e; have := hw.2.2.2; simp at this; rw [this]; simpa using hK
    · subst e
      apply s_Yard_asks hg.1 b0
      have a1 := hw.2.1
      have a2 := hw.2.2.2
      rw [a1, a2]
      have e0 : (6 ≤ A 2 g ∧ A 4 g = -1) ↔ sAsk A g = true := by unfold sAsk; simp
      refine ⟨fun z => ?_, fun z => ?_⟩
      · have := e0.mp (iteP1 z); simpa [this] using hK
      · have : ¬ sAsk A g = true := fun q => iteP0 z (e0.mpr q)
        simpa [this] using hK
    · simpa [n0, n1, n2, n3, n4] using hK
  · rw [if_neg (iteP0 hx)] at hK
    exact hK
theorem r_grave {g w : Int} (hm : isM h A) (ho : okY A) (hK : K (sGrave A g w) h) : m_Model_grave [1000, g, w] h K := by
  have h6 := ho.1
  unfold m_Model_grave
  simp -implicitDefEqProofs only [↓dn_den, ↓dn_loc, ↓dn_k, ↓dn_add, ↓dn_sub, ↓dn_mul, ↓dn_div, ↓dn_rem, ↓dn_bop, ↓dn_ladd, ↓dn_lsub, ↓dn_lmul, ↓dn_ldiv, ↓dn_lrem, ↓dn_land, ↓dn_l2i, ↓dn_neg, ↓dn_get, ↓dn_fix, ↓dn_ald, ↓dn_gld, ↓dn_yld, ↓dn_len, ↓dn_gln, ↓dn_cc, ↓dn_cb, ↓dn_and, ↓dn_or, ↓dn_not, ↓dn_cite, ↓dn_ec, ↓dn_ei, ↓dn_skip, ↓dn_seq, ↓dn_set, ↓dn_inc, ↓dn_putf, ↓dn_putz, ↓dn_ast, ↓dn_exp, ↓dn_if, ↓dn_ret, ↓dn_retz, ↓dn_retv, ↓dn_brk, ↓dn_cont, ↓dn_cs, ↓dn_sw, ↓dn_pop32, ↓dn_pop64, ↓dn_aop, ↓dn_call, ↓dn_max, ↓dn_min, ↓dn_acp, ↓dn_i2l, ↓dn_args0, ↓dn_args1, og_pad, og_ent, og_rlt, og_rle, og_rgt, og_rge, og_req, og_rne, og_padd, og_psub, og_pmul, List.getD_cons_zero, List.getD_cons_succ, List.set_cons_zero, List.set_cons_succ, List.length_cons, List.length_nil, List.cons_append, List.nil_append, List.replicate, List.append_nil, Nat.reduceAdd, Nat.reduceSub, Nat.reduceEqDiff, if_true, if_false, reduceIte, Int.reduceAdd, Int.reduceSub, Int.reduceMul, Int.reduceNeg, Int.reduceLT, Int.reduceLE, Int.cast_ofNat_Int, true_or, or_true, true_and, and_true, false_and, List.mem_cons, List.not_mem_nil, or_false, false_or, ne_eq, og_i32]
  apply r_isGrave hm ho
  unfold sGrave at hK
  refine ⟨fun hx => ?_, fun hx => ?_⟩
  · have hg := iteP1 hx
    rw [if_pos hg] at hK
    refine ⟨fun e => ⟨by omega, by omega, by omega, ?_⟩, fun n0 => ⟨fun e => ?_, fun n1 => ⟨fun e => ?_, fun n2 => ⟨fun e => ?_, fun n3 => ⟨fun e => ?_, fun n4 => ?_⟩⟩⟩⟩⟩
    · subst e; rw [(hm.2.1 g hg.1 hg.2).1]; simpa using hK
    · subst e; exact r_deepOf hm ho hg.1 hg.2 (by simpa using hK)
    · subst e; exact r_dueOf hm ho hg.1 hg.2 (by simpa using hK)
    · subst e; exact r_inGrave hm ho hg.1 hg.2 (by simpa using hK)
    · subst e
      apply r_doesAsk hm ho hg.1 hg.2
      refine ⟨fun z => ?_, fun z => ?_⟩
      · have := ite10 z; simpa [this] using hK
      · have := ite00 z; simpa [this] using hK
    · simpa [n0, n1, n2, n3, n4] using hK
  · rw [if_neg (iteP0 hx)] at hK
    exact hK
theorem c_person {p w : Int} (hy : isY h 100 A) (ho : okY A) (hK : K (sPerson A p w) h) : m_OG_person [0, p, w] h K := by
  have h6 := ho.1
  unfold m_OG_person
  simp -implicitDefEqProofs only [↓dn_den, ↓dn_loc, ↓dn_k, ↓dn_add, ↓dn_sub, ↓dn_mul, ↓dn_div, ↓dn_rem, ↓dn_bop, ↓dn_ladd, ↓dn_lsub, ↓dn_lmul, ↓dn_ldiv, ↓dn_lrem, ↓dn_land, ↓dn_l2i, ↓dn_neg, ↓dn_get, ↓dn_fix, ↓dn_ald, ↓dn_gld, ↓dn_yld, ↓dn_len, ↓dn_gln, ↓dn_cc, ↓dn_cb, ↓dn_and, ↓dn_or, ↓dn_not, ↓dn_cite, ↓dn_ec, ↓dn_ei, ↓dn_skip, ↓dn_seq, ↓dn_set, ↓dn_inc, ↓dn_putf, ↓dn_putz, ↓dn_ast, ↓dn_exp, ↓dn_if, ↓dn_ret, ↓dn_retz, ↓dn_retv, ↓dn_brk, ↓dn_cont, ↓dn_cs, ↓dn_sw, ↓dn_pop32, ↓dn_pop64, ↓dn_aop, ↓dn_call, ↓dn_max, ↓dn_min, ↓dn_acp, ↓dn_i2l, ↓dn_args0, ↓dn_args1, og_pad, og_ent, og_rlt, og_rle, og_rgt, og_rge, og_req, og_rne, og_padd, og_psub, og_pmul, List.getD_cons_zero, List.getD_cons_succ, List.set_cons_zero, List.set_cons_succ, List.length_cons, List.length_nil, List.cons_append, List.nil_append, List.replicate, List.append_nil, Nat.reduceAdd, Nat.reduceSub, Nat.reduceEqDiff, if_true, if_false, reduceIte, Int.reduceAdd, Int.reduceSub, Int.reduceMul, Int.reduceNeg, Int.reduceLT, Int.reduceLE, Int.cast_ofNat_Int, true_or, or_true, true_and, and_true, false_and, List.mem_cons, List.not_mem_nil, or_false, false_or, ne_eq]
  apply s_Yard_isPerson
  rw [hy.1.2.1]
  unfold sPerson at hK
  refine ⟨fun hx => ?_, fun hx => ?_⟩
  · have hg := iteP1 hx
    rw [if_pos hg] at hK
    have hw := hy.2.2.1 p hg.1 hg.2
    have b0 : p < 8 := by omega
    refine ⟨fun e => ⟨hg.1, b0, ?_⟩, fun n0 => ⟨fun e => ⟨hg.1, b0, ?_⟩, fun n1 => ⟨fun e => ⟨hg.1, b0, ?_⟩, fun n2 => ⟨fun e => ⟨hg.1, b0, ?_⟩, fun n3 => ?_⟩⟩⟩⟩
    · subst e; have := hw.1; simp at this; rw [this]; simpa using hK
    · subst e; have := hw.2.1; simp at this; rw [this]; simpa using hK
    · subst e; have := hw.2.2.1; simp at this; rw [this]; simpa using hK
    · subst e; have := hw.2.2.2; simp at this; rw [this]; simpa using hK
    · simpa [n0, n1, n2, n3] using hK
  · rw [if_neg (iteP0 hx)] at hK
    exact hK
theorem r_person {p w : Int} (hm : isM h A) (ho : okY A) (hK : K (sPerson A p w) h) : m_Model_person [1000, p, w] h K := by
  have h6 := ho.1
  unfold m_Model_person
  simp -implicitDefEqProofs only [↓dn_den, ↓dn_loc, ↓dn_k, ↓dn_add, ↓dn_sub, ↓dn_mul, ↓dn_div, ↓dn_rem, ↓dn_bop, ↓dn_ladd, ↓dn_lsub, ↓dn_lmul, ↓dn_ldiv, ↓dn_lrem, ↓dn_land, ↓dn_l2i, ↓dn_neg, ↓dn_get, ↓dn_fix, ↓dn_ald, ↓dn_gld, ↓dn_yld, ↓dn_len, ↓dn_gln, ↓dn_cc, ↓dn_cb, ↓dn_and, ↓dn_or, ↓dn_not, ↓dn_cite, ↓dn_ec, ↓dn_ei, ↓dn_skip, ↓dn_seq, ↓dn_set, ↓dn_inc, ↓dn_putf, ↓dn_putz, ↓dn_ast, ↓dn_exp, ↓dn_if, ↓dn_ret, ↓dn_retz, ↓dn_retv, ↓dn_brk, ↓dn_cont, ↓dn_cs, ↓dn_sw, ↓dn_pop32, ↓dn_pop64, ↓dn_aop, ↓dn_call, ↓dn_max, ↓dn_min, ↓dn_acp, ↓dn_i2l, ↓dn_args0, ↓dn_args1, og_pad, og_ent, og_rlt, og_rle, og_rgt, og_rge, og_req, og_rne, og_padd, og_psub, og_pmul, List.getD_cons_zero, List.getD_cons_succ, List.set_cons_zero, List.set_cons_succ, List.length_cons, List.length_nil, List.cons_append, List.nil_append, List.replicate, List.append_nil, Nat.reduceAdd, Nat.reduceSub, Nat.reduceEqDiff, if_true, if_false, reduceIte, Int.reduceAdd, Int.reduceSub, Int.reduceMul, Int.reduceNeg, Int.reduceLT, Int.reduceLE, Int.cast_ofNat_Int, true_or, or_true, true_and, and_true, false_and, List.mem_cons, List.not_mem_nil, or_false, false_or, ne_eq, og_i32]
  apply r_isPerson hm ho
  unfold sPerson at hK
  refine ⟨fun hx => ?_, fun hx => ?_⟩
  · have hg := iteP1 hx
    rw [if_pos hg] at hK
    have hw := hm.2.2 p hg.1 hg.2
    refine ⟨fun e => ⟨by omega, by omega, by omega, ?_⟩, fun n0 => ⟨fun e => ?_, fun n1 => ⟨fun e => ?_, fun n2 => ⟨fun e => ⟨by omega, by omega, by omega, by omega, ?_⟩, fun n3 => ?_⟩⟩⟩⟩
    · subst e; rw [hw.1]; simpa using hK
    · subst e; exact r_ageOf hm ho hg.1 hg.2 (by simpa using hK)
    · subst e; exact r_willOf hm ho hg.1 hg.2 (by simpa using hK)
    · subst e; rw [hw.2.2.2]; simpa using hK
    · simpa [n0, n1, n2, n3] using hK
  · rw [if_neg (iteP0 hx)] at hK
    exact hK
theorem c_value {r p cnt : Int} (hc : isC h A P) (hP : okP P) (hr : 8 ≤ r ∧ r ≤ 12) (ho : okV A p) (hct : 0 ≤ cnt ∧ cnt ≤ 100) (hK : ∀ h', (∀ i k, i ≠ 7 → h' i k = h i k) → K (sVal (P r) A p cnt) h') : m_Reckoner_value [6, h 0 15 + 2, r, 100, p, cnt] h K := by
  obtain ⟨u, hu, -⟩ := hP r hr.1 hr.2
  have ht := hc.2.1
  unfold toldOK at ht
  exact s_Reck_value (hc.2.2 (by have := ho.2; omega) r hr.1 hr.2) (by omega) (by omega) (by decide) hc.1 ho hct hu hK
theorem c_dyingOf {p : Int} (hc : isC h A P) (hP : okP P) (ho : okV A p) (hK : ∀ h', (∀ i k, i ≠ 7 → h' i k = h i k) → K (sCut (sVal (P 8) A p 0) 100) h') : m_OG_dyingOf [0, p] h K := by
  unfold m_OG_dyingOf
  simp -implicitDefEqProofs only [↓dn_den, ↓dn_loc, ↓dn_k, ↓dn_add, ↓dn_sub, ↓dn_mul, ↓dn_div, ↓dn_rem, ↓dn_bop, ↓dn_ladd, ↓dn_lsub, ↓dn_lmul, ↓dn_ldiv, ↓dn_lrem, ↓dn_land, ↓dn_l2i, ↓dn_neg, ↓dn_get, ↓dn_fix, ↓dn_ald, ↓dn_gld, ↓dn_yld, ↓dn_len, ↓dn_gln, ↓dn_cc, ↓dn_cb, ↓dn_and, ↓dn_or, ↓dn_not, ↓dn_cite, ↓dn_ec, ↓dn_ei, ↓dn_skip, ↓dn_seq, ↓dn_set, ↓dn_inc, ↓dn_putf, ↓dn_putz, ↓dn_ast, ↓dn_exp, ↓dn_if, ↓dn_ret, ↓dn_retz, ↓dn_retv, ↓dn_brk, ↓dn_cont, ↓dn_cs, ↓dn_sw, ↓dn_pop32, ↓dn_pop64, ↓dn_aop, ↓dn_call, ↓dn_max, ↓dn_min, ↓dn_acp, ↓dn_i2l, ↓dn_args0, ↓dn_args1, og_pad, og_ent, og_rlt, og_rle, og_rgt, og_rge, og_req, og_rne, og_padd, og_psub, og_pmul, List.getD_cons_zero, List.getD_cons_succ, List.set_cons_zero, List.set_cons_succ, List.length_cons, List.length_nil, List.cons_append, List.nil_append, List.replicate, List.append_nil, Nat.reduceAdd, Nat.reduceSub, Nat.reduceEqDiff, if_true, if_false, reduceIte, Int.reduceAdd, Int.reduceSub, Int.reduceMul, Int.reduceNeg, Int.reduceLT, Int.reduceLE, Int.cast_ofNat_Int, true_or, or_true, true_and, and_true, false_and, List.mem_cons, List.not_mem_nil, or_false, false_or, ne_eq]
  exact c_value hc hP (by decide) ho (by decide) (fun h1 hf => s_OG_cut (hK h1 hf))
theorem c_harmOf {p : Int} (hc : isC h A P) (hP : okP P) (ho : okV A p) (hK : ∀ h', (∀ i k, i ≠ 7 → h' i k = h i k) → K (sCut (sVal (P 12) A p 0) 999) h') : m_OG_harmOf [0, p] h K := by
  unfold m_OG_harmOf
  simp -implicitDefEqProofs only [↓dn_den, ↓dn_loc, ↓dn_k, ↓dn_add, ↓dn_sub, ↓dn_mul, ↓dn_div, ↓dn_rem, ↓dn_bop, ↓dn_ladd, ↓dn_lsub, ↓dn_lmul, ↓dn_ldiv, ↓dn_lrem, ↓dn_land, ↓dn_l2i, ↓dn_neg, ↓dn_get, ↓dn_fix, ↓dn_ald, ↓dn_gld, ↓dn_yld, ↓dn_len, ↓dn_gln, ↓dn_cc, ↓dn_cb, ↓dn_and, ↓dn_or, ↓dn_not, ↓dn_cite, ↓dn_ec, ↓dn_ei, ↓dn_skip, ↓dn_seq, ↓dn_set, ↓dn_inc, ↓dn_putf, ↓dn_putz, ↓dn_ast, ↓dn_exp, ↓dn_if, ↓dn_ret, ↓dn_retz, ↓dn_retv, ↓dn_brk, ↓dn_cont, ↓dn_cs, ↓dn_sw, ↓dn_pop32, ↓dn_pop64, ↓dn_aop, ↓dn_call, ↓dn_max, ↓dn_min, ↓dn_acp, ↓dn_i2l, ↓dn_args0, ↓dn_args1, og_pad, og_ent, og_rlt, og_rle, og_rgt, og_rge, og_req, og_rne, og_padd, og_psub, og_pmul, List.getD_cons_zero, List.getD_cons_succ, List.set_cons_zero, List.set_cons_succ, List.length_cons, List.length_nil, List.cons_append, List.nil_append, List.replicate, List.append_nil, Nat.reduceAdd, Nat.reduceSub, Nat.reduceEqDiff, if_true, if_false, reduceIte, Int.reduceAdd, Int.reduceSub, Int.reduceMul, Int.reduceNeg, Int.reduceLT, Int.reduceLE, Int.cast_ofNat_Int, true_or, or_true, true_and, and_true, false_and, List.mem_cons, List.not_mem_nil, or_false, false_or, ne_eq]
  exact c_value hc hP (by decide) ho (by decide) (fun h1 hf => s_OG_cut (hK h1 hf))
theorem c_counts {p w : Int} (hc : isC h A P) (hP : okP P) (ho : okY A) (hK : ∀ h', frS h h' → K (sCounts P A p w) h') : m_OG_counts [0, p, w] h K := by
  unfold m_OG_counts
  simp -implicitDefEqProofs only [↓dn_den, ↓dn_loc, ↓dn_k, ↓dn_add, ↓dn_sub, ↓dn_mul, ↓dn_div, ↓dn_rem, ↓dn_bop, ↓dn_ladd, ↓dn_lsub, ↓dn_lmul, ↓dn_ldiv, ↓dn_lrem, ↓dn_land, ↓dn_l2i, ↓dn_neg, ↓dn_get, ↓dn_fix, ↓dn_ald, ↓dn_gld, ↓dn_yld, ↓dn_len, ↓dn_gln, ↓dn_cc, ↓dn_cb, ↓dn_and, ↓dn_or, ↓dn_not, ↓dn_cite, ↓dn_ec, ↓dn_ei, ↓dn_skip, ↓dn_seq, ↓dn_set, ↓dn_inc, ↓dn_putf, ↓dn_putz, ↓dn_ast, ↓dn_exp, ↓dn_if, ↓dn_ret, ↓dn_retz, ↓dn_retv, ↓dn_brk, ↓dn_cont, ↓dn_cs, ↓dn_sw, ↓dn_pop32, ↓dn_pop64, ↓dn_aop, ↓dn_call, ↓dn_max, ↓dn_min, ↓dn_acp, ↓dn_i2l, ↓dn_args0, ↓dn_args1, og_pad, og_ent, og_rlt, og_rle, og_rgt, og_rge, og_req, og_rne, og_padd, og_psub, og_pmul, List.getD_cons_zero, List.getD_cons_succ, List.set_cons_zero, List.set_cons_succ, List.length_cons, List.length_nil, List.cons_append, List.nil_append, List.replicate, List.append_nil, Nat.reduceAdd, Nat.reduceSub, Nat.reduceEqDiff, if_true, if_false, reduceIte, Int.reduceAdd, Int.reduceSub, Int.reduceMul, Int.reduceNeg, Int.reduceLT, Int.reduceLE, Int.cast_ofNat_Int, true_or, or_true, true_and, and_true, false_and, List.mem_cons, List.not_mem_nil, or_false, false_or, ne_eq]
  apply s_Yard_isPerson
  rw [hc.1.1.2.1]
  unfold sCounts at hK
  refine ⟨fun hx => ?_, fun hx => ?_⟩
  · have hg := iteP1 hx
    rw [if_pos hg] at hK
    refine ⟨fun e => ?_, fun n0 => ⟨fun e => ?_, fun n1 => ⟨fun e => ?_, fun n2 => ?_⟩⟩⟩
    · subst e; exact c_dyingOf hc hP ⟨ho, hg⟩ (fun h1 hf => by simpa using hK h1 (frS_7 hf))
    · subst e; exact c_value hc hP (by decide) ⟨ho, hg⟩ (by decide) (fun h1 hf => by simpa using hK h1 (frS_7 hf))
    · subst e; exact c_harmOf hc hP ⟨ho, hg⟩ (fun h1 hf => by simpa using hK h1 (frS_7 hf))
    · simpa [n0, n1, n2] using hK h frS_rf
  · rw [if_neg (iteP0 hx)] at hK
    exact hK h frS_rf
theorem r_counts {p w : Int} (hR : hasM h P) (hP : okQ P) (hm : isM h A) (ho : okY A) (hK : ∀ h', frE h h' → K (sCounts P A p w) h') : m_Model_counts [1000, p, w] h K := by
  unfold m_Model_counts
  simp -implicitDefEqProofs only [↓dn_den, ↓dn_loc, ↓dn_k, ↓dn_add, ↓dn_sub, ↓dn_mul, ↓dn_div, ↓dn_rem, ↓dn_bop, ↓dn_ladd, ↓dn_lsub, ↓dn_lmul, ↓dn_ldiv, ↓dn_lrem, ↓dn_land, ↓dn_l2i, ↓dn_neg, ↓dn_get, ↓dn_fix, ↓dn_ald, ↓dn_gld, ↓dn_yld, ↓dn_len, ↓dn_gln, ↓dn_cc, ↓dn_cb, ↓dn_and, ↓dn_or, ↓dn_not, ↓dn_cite, ↓dn_ec, ↓dn_ei, ↓dn_skip, ↓dn_seq, ↓dn_set, ↓dn_inc, ↓dn_putf, ↓dn_putz, ↓dn_ast, ↓dn_exp, ↓dn_if, ↓dn_ret, ↓dn_retz, ↓dn_retv, ↓dn_brk, ↓dn_cont, ↓dn_cs, ↓dn_sw, ↓dn_pop32, ↓dn_pop64, ↓dn_aop, ↓dn_call, ↓dn_max, ↓dn_min, ↓dn_acp, ↓dn_i2l, ↓dn_args0, ↓dn_args1, og_pad, og_ent, og_rlt, og_rle, og_rgt, og_rge, og_req, og_rne, og_padd, og_psub, og_pmul, List.getD_cons_zero, List.getD_cons_succ, List.set_cons_zero, List.set_cons_succ, List.length_cons, List.length_nil, List.cons_append, List.nil_append, List.replicate, List.append_nil, Nat.reduceAdd, Nat.reduceSub, Nat.reduceEqDiff, if_true, if_false, reduceIte, Int.reduceAdd, Int.reduceSub, Int.reduceMul, Int.reduceNeg, Int.reduceLT, Int.reduceLE, Int.cast_ofNat_Int, true_or, or_true, true_and, and_true, false_and, List.mem_cons, List.not_mem_nil, or_false, false_or, ne_eq]
  apply r_isPerson hm ho
  unfold sCounts at hK
  refine ⟨fun hx => ?_, fun hx => ?_⟩
  · have hg := iteP1 hx
    rw [if_pos hg] at hK
    refine ⟨fun e => ?_, fun n0 => ⟨fun e => ?_, fun n1 => ⟨fun e => ?_, fun n2 => ?_⟩⟩⟩
    · subst e; exact r_diesOf hR hP hm ⟨ho, hg⟩ (fun h1 hf => by simpa using hK h1 hf)
    · subst e; exact r_takesOf hR hP hm ⟨ho, hg⟩ (fun h1 hf => by simpa using hK h1 hf)
    · subst e; exact r_harmOf hR hP hm ⟨ho, hg⟩ (fun h1 hf => by simpa using hK h1 hf)
    · simpa [n0, n1, n2] using hK h frE_rf
  · rw [if_neg (iteP0 hx)] at hK
    exact hK h frE_rf
theorem c_lives {p : Int} (hy : isY h 100 A) (ho : okY A) (hK : K (if (0 ≤ p ∧ p < A 0 1) ∧ sLive A p = true then 1 else 0) h) : m_Yard_lives [100, p] h K := by
  have h6 := ho.1
  have e1 := hy.1.2.1
  apply s_Yard_lives (by omega)
  rw [e1]
  have e : ((0 ≤ p ∧ p < A 0 1) ∧ h (100 + 8) p = 1) ↔ ((0 ≤ p ∧ p < A 0 1) ∧ sLive A p = true) := by
    constructor
    · intro z
      have := (hy.2.2.1 p z.1.1 z.1.2).2.2.2
      exact ⟨z.1, by unfold sLive; rw [← this]; simpa using z.2⟩
    · intro z
      have := (hy.2.2.1 p z.1.1 z.1.2).2.2.2
      exact ⟨z.1, by rw [this]; simpa [sLive] using z.2⟩
  by_cases q : (0 ≤ p ∧ p < A 0 1) ∧ sLive A p = true
  · rw [if_pos (e.mpr q)]; rw [if_pos q] at hK; exact hK
  · rw [if_neg (fun z => q (e.mp z))]; rw [if_neg q] at hK; exact hK
theorem c_next {p : Int} (hy : isY h 100 A) (ho : okY A) (hK : K (sNextQ A p) h) : m_OG_next [0, p] h K := by
  unfold m_OG_next
  simp -implicitDefEqProofs only [↓dn_den, ↓dn_loc, ↓dn_k, ↓dn_add, ↓dn_sub, ↓dn_mul, ↓dn_div, ↓dn_rem, ↓dn_bop, ↓dn_ladd, ↓dn_lsub, ↓dn_lmul, ↓dn_ldiv, ↓dn_lrem, ↓dn_land, ↓dn_l2i, ↓dn_neg, ↓dn_get, ↓dn_fix, ↓dn_ald, ↓dn_gld, ↓dn_yld, ↓dn_len, ↓dn_gln, ↓dn_cc, ↓dn_cb, ↓dn_and, ↓dn_or, ↓dn_not, ↓dn_cite, ↓dn_ec, ↓dn_ei, ↓dn_skip, ↓dn_seq, ↓dn_set, ↓dn_inc, ↓dn_putf, ↓dn_putz, ↓dn_ast, ↓dn_exp, ↓dn_if, ↓dn_ret, ↓dn_retz, ↓dn_retv, ↓dn_brk, ↓dn_cont, ↓dn_cs, ↓dn_sw, ↓dn_pop32, ↓dn_pop64, ↓dn_aop, ↓dn_call, ↓dn_max, ↓dn_min, ↓dn_acp, ↓dn_i2l, ↓dn_args0, ↓dn_args1, og_pad, og_ent, og_rlt, og_rle, og_rgt, og_rge, og_req, og_rne, og_padd, og_psub, og_pmul, List.getD_cons_zero, List.getD_cons_succ, List.set_cons_zero, List.set_cons_succ, List.length_cons, List.length_nil, List.cons_append, List.nil_append, List.replicate, List.append_nil, Nat.reduceAdd, Nat.reduceSub, Nat.reduceEqDiff, if_true, if_false, reduceIte, Int.reduceAdd, Int.reduceSub, Int.reduceMul, Int.reduceNeg, Int.reduceLT, Int.reduceLE, Int.cast_ofNat_Int, true_or, or_true, true_and, and_true, false_and, List.mem_cons, List.not_mem_nil, or_false, false_or, ne_eq]
  apply c_lives hy ho
  unfold sNextQ at hK
  refine ⟨fun hx => ?_, fun hx => ?_⟩
  · have hg := iteP1 hx
    rw [if_pos hg] at hK
    exact s_Yard_nextGrave hy ho hg.1.1 hg.1.2 hK
  · rw [if_neg (iteP0 hx)] at hK
    exact hK
theorem r_next {p : Int} (hm : isM h A) (ho : okY A) (hK : K (sNextQ A p) h) : m_Model_next [1000, p] h K := by
  unfold m_Model_next
  simp -implicitDefEqProofs only [↓dn_den, ↓dn_loc, ↓dn_k, ↓dn_add, ↓dn_sub, ↓dn_mul, ↓dn_div, ↓dn_rem, ↓dn_bop, ↓dn_ladd, ↓dn_lsub, ↓dn_lmul, ↓dn_ldiv, ↓dn_lrem, ↓dn_land, ↓dn_l2i, ↓dn_neg, ↓dn_get, ↓dn_fix, ↓dn_ald, ↓dn_gld, ↓dn_yld, ↓dn_len, ↓dn_gln, ↓dn_cc, ↓dn_cb, ↓dn_and, ↓dn_or, ↓dn_not, ↓dn_cite, ↓dn_ec, ↓dn_ei, ↓dn_skip, ↓dn_seq, ↓dn_set, ↓dn_inc, ↓dn_putf, ↓dn_putz, ↓dn_ast, ↓dn_exp, ↓dn_if, ↓dn_ret, ↓dn_retz, ↓dn_retv, ↓dn_brk, ↓dn_cont, ↓dn_cs, ↓dn_sw, ↓dn_pop32, ↓dn_pop64, ↓dn_aop, ↓dn_call, ↓dn_max, ↓dn_min, ↓dn_acp, ↓dn_i2l, ↓dn_args0, ↓dn_args1, og_pad, og_ent, og_rlt, og_rle, og_rgt, og_rge, og_req, og_rne, og_padd, og_psub, og_pmul, List.getD_cons_zero, List.getD_cons_succ, List.set_cons_zero, List.set_cons_succ, List.length_cons, List.length_nil, List.cons_append, List.nil_append, List.replicate, List.append_nil, Nat.reduceAdd, Nat.reduceSub, Nat.reduceEqDiff, if_true, if_false, reduceIte, Int.reduceAdd, Int.reduceSub, Int.reduceMul, Int.reduceNeg, Int.reduceLT, Int.reduceLE, Int.cast_ofNat_Int, true_or, or_true, true_and, and_true, false_and, List.mem_cons, List.not_mem_nil, or_false, false_or, ne_eq]
  apply r_isLiving hm ho
  unfold sNextQ at hK
  refine ⟨fun hx => ?_, fun hx => ?_⟩
  · have hg := iteP1 hx
    rw [if_pos hg] at hK
    exact r_nextFor hm ho hg.1.1 hg.1.2 hK
  · rw [if_neg (iteP0 hx)] at hK
    exact hK
theorem c_kept {k w : Int} (hy : isY h 100 A) (ho : okY A) (hK : K (sKept A k w) h) : m_OG_kept [0, k, w] h K := by
  have h6 := ho.1
  have e3 := hy.1.2.2.2
  unfold m_OG_kept
  simp -implicitDefEqProofs only [↓dn_den, ↓dn_loc, ↓dn_k, ↓dn_add, ↓dn_sub, ↓dn_mul, ↓dn_div, ↓dn_rem, ↓dn_bop, ↓dn_ladd, ↓dn_lsub, ↓dn_lmul, ↓dn_ldiv, ↓dn_lrem, ↓dn_land, ↓dn_l2i, ↓dn_neg, ↓dn_get, ↓dn_fix, ↓dn_ald, ↓dn_gld, ↓dn_yld, ↓dn_len, ↓dn_gln, ↓dn_cc, ↓dn_cb, ↓dn_and, ↓dn_or, ↓dn_not, ↓dn_cite, ↓dn_ec, ↓dn_ei, ↓dn_skip, ↓dn_seq, ↓dn_set, ↓dn_inc, ↓dn_putf, ↓dn_putz, ↓dn_ast, ↓dn_exp, ↓dn_if, ↓dn_ret, ↓dn_retz, ↓dn_retv, ↓dn_brk, ↓dn_cont, ↓dn_cs, ↓dn_sw, ↓dn_pop32, ↓dn_pop64, ↓dn_aop, ↓dn_call, ↓dn_max, ↓dn_min, ↓dn_acp, ↓dn_i2l, ↓dn_args0, ↓dn_args1, og_pad, og_ent, og_rlt, og_rle, og_rgt, og_rge, og_req, og_rne, og_padd, og_psub, og_pmul, List.getD_cons_zero, List.getD_cons_succ, List.set_cons_zero, List.set_cons_succ, List.length_cons, List.length_nil, List.cons_append, List.nil_append, List.replicate, List.append_nil, Nat.reduceAdd, Nat.reduceSub, Nat.reduceEqDiff, if_true, if_false, reduceIte, Int.reduceAdd, Int.reduceSub, Int.reduceMul, Int.reduceNeg, Int.reduceLT, Int.reduceLE, Int.cast_ofNat_Int, true_or, or_true, true_and, and_true, false_and, List.mem_cons, List.not_mem_nil, or_false, false_or, ne_eq]
  rw [e3]
  unfold sKept at hK
  by_cases q : (0 ≤ k ∧ k < A 0 3) ∧ 0 ≤ w ∧ w ≤ 3
  · rw [if_pos q] at hK
    refine ⟨fun z => by omega, fun _ => ⟨fun z => by omega, fun _ => ⟨fun z => by omega, fun _ => ⟨fun z => by omega, fun _ => ?_⟩⟩⟩⟩
    apply s_Yard_keptCell (by omega) (by omega) (by omega) (by omega)
    rw [hy.2.2.2 _ (by omega) (by omega)]
    exact hK
  · rw [if_neg q] at hK
    exact ⟨fun _ => hK, fun _ => ⟨fun _ => hK, fun _ => ⟨fun _ => hK, fun _ => ⟨fun _ => hK, fun _ => absurd (by omega) q⟩⟩⟩⟩
theorem r_kept {k w : Int} (hn : isN h A) (h53 : h 1000 53 = 0) (ho : okY A) (hK : K (sKept A k w) h) : m_Model_kept [1000, k, w] h K := by
  have h6 := ho.1
  have mk := hn.2 h53
  unfold m_Model_kept
  simp -implicitDefEqProofs only [↓dn_den, ↓dn_loc, ↓dn_k, ↓dn_add, ↓dn_sub, ↓dn_mul, ↓dn_div, ↓dn_rem, ↓dn_bop, ↓dn_ladd, ↓dn_lsub, ↓dn_lmul, ↓dn_ldiv, ↓dn_lrem, ↓dn_land, ↓dn_l2i, ↓dn_neg, ↓dn_get, ↓dn_fix, ↓dn_ald, ↓dn_gld, ↓dn_yld, ↓dn_len, ↓dn_gln, ↓dn_cc, ↓dn_cb, ↓dn_and, ↓dn_or, ↓dn_not, ↓dn_cite, ↓dn_ec, ↓dn_ei, ↓dn_skip, ↓dn_seq, ↓dn_set, ↓dn_inc, ↓dn_putf, ↓dn_putz, ↓dn_ast, ↓dn_exp, ↓dn_if, ↓dn_ret, ↓dn_retz, ↓dn_retv, ↓dn_brk, ↓dn_cont, ↓dn_cs, ↓dn_sw, ↓dn_pop32, ↓dn_pop64, ↓dn_aop, ↓dn_call, ↓dn_max, ↓dn_min, ↓dn_acp, ↓dn_i2l, ↓dn_args0, ↓dn_args1, og_pad, og_ent, og_rlt, og_rle, og_rgt, og_rge, og_req, og_rne, og_padd, og_psub, og_pmul, List.getD_cons_zero, List.getD_cons_succ, List.set_cons_zero, List.set_cons_succ, List.length_cons, List.length_nil, List.cons_append, List.nil_append, List.replicate, List.append_nil, Nat.reduceAdd, Nat.reduceSub, Nat.reduceEqDiff, if_true, if_false, reduceIte, Int.reduceAdd, Int.reduceSub, Int.reduceMul, Int.reduceNeg, Int.reduceLT, Int.reduceLE, Int.cast_ofNat_Int, true_or, or_true, true_and, and_true, false_and, List.mem_cons, List.not_mem_nil, or_false, false_or, ne_eq, og_i32]
  rw [mk.1]
  refine ⟨by omega, r_isIn ?_⟩
  unfold sKept at hK
  refine ⟨fun hx => r_isIn ⟨fun hz => ?_, fun hz => ?_⟩, fun hx => ?_⟩
  · have a := iteP1 hx
    have b := iteP1 hz
    rw [if_pos ⟨⟨a.1, by omega⟩, b⟩] at hK
    have e : 44 + 4 * k + w = 44 + (4 * k + w) := by omega
    refine ⟨by omega, by omega, by omega, by omega, by omega, ?_⟩
    rw [e, mk.2 _ (by omega) (by omega)]
    exact hK
  · rw [if_neg (fun z => iteP0 hz z.2)] at hK
    exact hK
  · rw [if_neg (fun z => iteP0 hx ⟨z.1.1, by omega⟩)] at hK
    exact hK
theorem c_comesAhead {n : Int} (hy : isY h 100 A) (hA : 0 ≤ A 0 2 ∧ A 0 2 ≤ 999) (hK : K (if (0 ≤ n ∧ n ≤ 60) ∧ A 0 2 + n ≤ 999 then 1 else 0) h) : m_OG_comesAhead [0, n] h K := by
  unfold m_OG_comesAhead
  simp -implicitDefEqProofs only [↓dn_den, ↓dn_loc, ↓dn_k, ↓dn_add, ↓dn_sub, ↓dn_mul, ↓dn_div, ↓dn_rem, ↓dn_bop, ↓dn_ladd, ↓dn_lsub, ↓dn_lmul, ↓dn_ldiv, ↓dn_lrem, ↓dn_land, ↓dn_l2i, ↓dn_neg, ↓dn_get, ↓dn_fix, ↓dn_ald, ↓dn_gld, ↓dn_yld, ↓dn_len, ↓dn_gln, ↓dn_cc, ↓dn_cb, ↓dn_and, ↓dn_or, ↓dn_not, ↓dn_cite, ↓dn_ec, ↓dn_ei, ↓dn_skip, ↓dn_seq, ↓dn_set, ↓dn_inc, ↓dn_putf, ↓dn_putz, ↓dn_ast, ↓dn_exp, ↓dn_if, ↓dn_ret, ↓dn_retz, ↓dn_retv, ↓dn_brk, ↓dn_cont, ↓dn_cs, ↓dn_sw, ↓dn_pop32, ↓dn_pop64, ↓dn_aop, ↓dn_call, ↓dn_max, ↓dn_min, ↓dn_acp, ↓dn_i2l, ↓dn_args0, ↓dn_args1, og_pad, og_ent, og_rlt, og_rle, og_rgt, og_rge, og_req, og_rne, og_padd, og_psub, og_pmul, List.getD_cons_zero, List.getD_cons_succ, List.set_cons_zero, List.set_cons_succ, List.length_cons, List.length_nil, List.cons_append, List.nil_append, List.replicate, List.append_nil, Nat.reduceAdd, Nat.reduceSub, Nat.reduceEqDiff, if_true, if_false, reduceIte, Int.reduceAdd, Int.reduceSub, Int.reduceMul, Int.reduceNeg, Int.reduceLT, Int.reduceLE, Int.cast_ofNat_Int, true_or, or_true, true_and, and_true, false_and, List.mem_cons, List.not_mem_nil, or_false, false_or, ne_eq, og_i32]
  rw [hy.1.2.2.1]
  grind
theorem c_canPass {n : Int} (hy : isY h 100 A) (hA : 0 ≤ A 0 2 ∧ A 0 2 ≤ 999) (hK : K (if (1 ≤ n ∧ n ≤ 100) ∧ A 0 2 + n ≤ 999 then 1 else 0) h) : m_OG_canPass [0, n] h K := by
  unfold m_OG_canPass
  simp -implicitDefEqProofs only [↓dn_den, ↓dn_loc, ↓dn_k, ↓dn_add, ↓dn_sub, ↓dn_mul, ↓dn_div, ↓dn_rem, ↓dn_bop, ↓dn_ladd, ↓dn_lsub, ↓dn_lmul, ↓dn_ldiv, ↓dn_lrem, ↓dn_land, ↓dn_l2i, ↓dn_neg, ↓dn_get, ↓dn_fix, ↓dn_ald, ↓dn_gld, ↓dn_yld, ↓dn_len, ↓dn_gln, ↓dn_cc, ↓dn_cb, ↓dn_and, ↓dn_or, ↓dn_not, ↓dn_cite, ↓dn_ec, ↓dn_ei, ↓dn_skip, ↓dn_seq, ↓dn_set, ↓dn_inc, ↓dn_putf, ↓dn_putz, ↓dn_ast, ↓dn_exp, ↓dn_if, ↓dn_ret, ↓dn_retz, ↓dn_retv, ↓dn_brk, ↓dn_cont, ↓dn_cs, ↓dn_sw, ↓dn_pop32, ↓dn_pop64, ↓dn_aop, ↓dn_call, ↓dn_max, ↓dn_min, ↓dn_acp, ↓dn_i2l, ↓dn_args0, ↓dn_args1, og_pad, og_ent, og_rlt, og_rle, og_rgt, og_rge, og_req, og_rne, og_padd, og_psub, og_pmul, List.getD_cons_zero, List.getD_cons_succ, List.set_cons_zero, List.set_cons_succ, List.length_cons, List.length_nil, List.cons_append, List.nil_append, List.replicate, List.append_nil, Nat.reduceAdd, Nat.reduceSub, Nat.reduceEqDiff, if_true, if_false, reduceIte, Int.reduceAdd, Int.reduceSub, Int.reduceMul, Int.reduceNeg, Int.reduceLT, Int.reduceLE, Int.cast_ofNat_Int, true_or, or_true, true_and, and_true, false_and, List.mem_cons, List.not_mem_nil, or_false, false_or, ne_eq, og_i32]
  rw [hy.1.2.2.1]
  grind
theorem c_later {g n : Int} (hc : isC h A P) (hP : okP P) (ho : okY A) (hm0 : A 0 2 ≤ 999) (hK : ∀ h', frS h h' → K (sLater P A g n) h') : m_OG_later [0, g, n] h K := by
  have h6 := ho.1
  have ht := hc.2.1
  unfold toldOK at ht
  unfold m_OG_later
  simp -implicitDefEqProofs only [↓dn_den, ↓dn_loc, ↓dn_k, ↓dn_add, ↓dn_sub, ↓dn_mul, ↓dn_div, ↓dn_rem, ↓dn_bop, ↓dn_ladd, ↓dn_lsub, ↓dn_lmul, ↓dn_ldiv, ↓dn_lrem, ↓dn_land, ↓dn_l2i, ↓dn_neg, ↓dn_get, ↓dn_fix, ↓dn_ald, ↓dn_gld, ↓dn_yld, ↓dn_len, ↓dn_gln, ↓dn_cc, ↓dn_cb, ↓dn_and, ↓dn_or, ↓dn_not, ↓dn_cite, ↓dn_ec, ↓dn_ei, ↓dn_skip, ↓dn_seq, ↓dn_set, ↓dn_inc, ↓dn_putf, ↓dn_putz, ↓dn_ast, ↓dn_exp, ↓dn_if, ↓dn_ret, ↓dn_retz, ↓dn_retv, ↓dn_brk, ↓dn_cont, ↓dn_cs, ↓dn_sw, ↓dn_pop32, ↓dn_pop64, ↓dn_aop, ↓dn_call, ↓dn_max, ↓dn_min, ↓dn_acp, ↓dn_i2l, ↓dn_args0, ↓dn_args1, og_pad, og_ent, og_rlt, og_rle, og_rgt, og_rge, og_req, og_rne, og_padd, og_psub, og_pmul, List.getD_cons_zero, List.getD_cons_succ, List.set_cons_zero, List.set_cons_succ, List.length_cons, List.length_nil, List.cons_append, List.nil_append, List.replicate, List.append_nil, Nat.reduceAdd, Nat.reduceSub, Nat.reduceEqDiff, if_true, if_false, reduceIte, Int.reduceAdd, Int.reduceSub, Int.reduceMul, Int.reduceNeg, Int.reduceLT, Int.reduceLE, Int.cast_ofNat_Int, true_or, or_true, true_and, and_true, false_and, List.mem_cons, List.not_mem_nil, or_false, false_or, ne_eq]
  apply s_Yard_isGrave
  rw [hc.1.1.1]
  unfold sLater at hK
  refine ⟨fun hx => ?_, fun hx => ?_⟩
  · have hg := iteP1 hx
    refine c_comesAhead hc.1 (by omega) ?_
    refine ⟨fun hy => ?_, fun hy => ?_⟩
    · have hnn := iteP1 hy
      rw [if_pos ⟨hg, hnn⟩] at hK
      refine s_Out_takenIn hc.2.2 hP (by omega) (by omega) hc.1 ho (by omega) (by omega) hm0 (fun h1 B hB hB0 hB4 hF => ?_)
      have := (hB.2.1 g hg.1 (by rw [hB0]; exact hg.2)).2.2.2
      simp only [Int.reduceAdd] at this
      refine ⟨by omega, by omega, ?_⟩
      rw [this, hB4]
      exact hK h1 (frS_Y hF)
    · rw [if_neg (fun z => iteP0 hy z.2)] at hK
      exact hK h frS_rf
  · rw [if_neg (fun z => iteP0 hx z.1)] at hK
    exact hK h frS_rf
theorem c_taken {n : Int} (hc : isC h A P) (hP : okP P) (ho : okY A) (hm0 : A 0 2 ≤ 999) (hK : ∀ h', frS h h' → K (sTaken P A n) h') : m_OG_taken [0, n] h K := by
  have h6 := ho.1
  have ht := hc.2.1
  unfold toldOK at ht
  unfold m_OG_taken
  simp -implicitDefEqProofs only [↓dn_den, ↓dn_loc, ↓dn_k, ↓dn_add, ↓dn_sub, ↓dn_mul, ↓dn_div, ↓dn_rem, ↓dn_bop, ↓dn_ladd, ↓dn_lsub, ↓dn_lmul, ↓dn_ldiv, ↓dn_lrem, ↓dn_land, ↓dn_l2i, ↓dn_neg, ↓dn_get, ↓dn_fix, ↓dn_ald, ↓dn_gld, ↓dn_yld, ↓dn_len, ↓dn_gln, ↓dn_cc, ↓dn_cb, ↓dn_and, ↓dn_or, ↓dn_not, ↓dn_cite, ↓dn_ec, ↓dn_ei, ↓dn_skip, ↓dn_seq, ↓dn_set, ↓dn_inc, ↓dn_putf, ↓dn_putz, ↓dn_ast, ↓dn_exp, ↓dn_if, ↓dn_ret, ↓dn_retz, ↓dn_retv, ↓dn_brk, ↓dn_cont, ↓dn_cs, ↓dn_sw, ↓dn_pop32, ↓dn_pop64, ↓dn_aop, ↓dn_call, ↓dn_max, ↓dn_min, ↓dn_acp, ↓dn_i2l, ↓dn_args0, ↓dn_args1, og_pad, og_ent, og_rlt, og_rle, og_rgt, og_rge, og_req, og_rne, og_padd, og_psub, og_pmul, List.getD_cons_zero, List.getD_cons_succ, List.set_cons_zero, List.set_cons_succ, List.length_cons, List.length_nil, List.cons_append, List.nil_append, List.replicate, List.append_nil, Nat.reduceAdd, Nat.reduceSub, Nat.reduceEqDiff, if_true, if_false, reduceIte, Int.reduceAdd, Int.reduceSub, Int.reduceMul, Int.reduceNeg, Int.reduceLT, Int.reduceLE, Int.cast_ofNat_Int, true_or, or_true, true_and, and_true, false_and, List.mem_cons, List.not_mem_nil, or_false, false_or, ne_eq]
  unfold sTaken at hK
  refine c_comesAhead hc.1 (by omega) ?_
  refine ⟨fun hy => ?_, fun hy => ?_⟩
  · have hnn := iteP1 hy
    rw [if_pos hnn] at hK
    exact s_Out_takenIn hc.2.2 hP (by omega) (by omega) hc.1 ho (by omega) (by omega) hm0 (fun h1 B hB hB0 hB4 hF => hK h1 (frS_Y hF))
  · rw [if_neg (iteP0 hy)] at hK
    exact hK h frS_rf
theorem c_filled {g : Int} (hc : isC h A P) (hP : okP P) (ho : okY A) (hm0 : A 0 2 ≤ 999) (hK : ∀ h', frS h h' → K (sFld P A g) h') : m_OG_filled [0, g] h K := by
  have h6 := ho.1
  have ht := hc.2.1
  unfold toldOK at ht
  unfold m_OG_filled
  simp -implicitDefEqProofs only [↓dn_den, ↓dn_loc, ↓dn_k, ↓dn_add, ↓dn_sub, ↓dn_mul, ↓dn_div, ↓dn_rem, ↓dn_bop, ↓dn_ladd, ↓dn_lsub, ↓dn_lmul, ↓dn_ldiv, ↓dn_lrem, ↓dn_land, ↓dn_l2i, ↓dn_neg, ↓dn_get, ↓dn_fix, ↓dn_ald, ↓dn_gld, ↓dn_yld, ↓dn_len, ↓dn_gln, ↓dn_cc, ↓dn_cb, ↓dn_and, ↓dn_or, ↓dn_not, ↓dn_cite, ↓dn_ec, ↓dn_ei, ↓dn_skip, ↓dn_seq, ↓dn_set, ↓dn_inc, ↓dn_putf, ↓dn_putz, ↓dn_ast, ↓dn_exp, ↓dn_if, ↓dn_ret, ↓dn_retz, ↓dn_retv, ↓dn_brk, ↓dn_cont, ↓dn_cs, ↓dn_sw, ↓dn_pop32, ↓dn_pop64, ↓dn_aop, ↓dn_call, ↓dn_max, ↓dn_min, ↓dn_acp, ↓dn_i2l, ↓dn_args0, ↓dn_args1, og_pad, og_ent, og_rlt, og_rle, og_rgt, og_rge, og_req, og_rne, og_padd, og_psub, og_pmul, List.getD_cons_zero, List.getD_cons_succ, List.set_cons_zero, List.set_cons_succ, List.length_cons, List.length_nil, List.cons_append, List.nil_append, List.replicate, List.append_nil, Nat.reduceAdd, Nat.reduceSub, Nat.reduceEqDiff, if_true, if_false, reduceIte, Int.reduceAdd, Int.reduceSub, Int.reduceMul, Int.reduceNeg, Int.reduceLT, Int.reduceLE, Int.cast_ofNat_Int, true_or, or_true, true_and, and_true, false_and, List.mem_cons, List.not_mem_nil, or_false, false_or, ne_eq]
  apply s_Yard_isGrave
  rw [hc.1.1.1]
  unfold sFld at hK
  refine ⟨fun hx => ?_, fun hx => ?_⟩
  · have hg := iteP1 hx
    rw [if_pos hg] at hK
    exact s_Out_filledBehind hc.2.2 hP (by omega) (by omega) hc.1 ho hm0 hg.1 hg.2 (fun h1 hF => hK h1 (frS_Y hF))
  · rw [if_neg (iteP0 hx)] at hK
    exact hK h frS_rf
end
