section
-- the class: names, a grave, a person
section
variable {h h0 h' : Hp} {B : Int → Int} {n a : Int} {t : TS} {K : Int → Hp → Prop} {D : Yd}
theorem w_readName {p j : Int} (hp : p = 30 ∨ p = 40) (hj : 0 ≤ j ∧ j < 14) (ht : txC h B n) (hk : tokC h B n a) (hn : nmC h p D) (hK : ∀ h', tkC h' B n (tb B n (.inl a) (pNam B n (thB D))) → (pNam B n (thB D) a = none → h' (p + 1) j = nPad (nmV B n a)) → (∀ i k, i ≠ 3 → ¬ (i = p + 1 ∧ k = j) → h' i k = h i k) → K 0 h') : m_Parish_readName [p, 3, j] h K := by
  have hk0 := hk
  obtain ⟨t1, t2, t3, t4, t5, t6⟩ := hk
  have te := tE_le (B := B) (n := n) (a := a) t1.2
  have tg := tE_ge B n a
  have ts := tS_sp B n a
  have hnn := ht.2.2
  have tbv : ∀ z, pNam B n (thB D) a = some z → tb B n (.inl a) (pNam B n (thB D)) = .inr z := fun z e => by unfold tb; dsimp only; rw [e]
  have ff : ∀ {g : Hp}, (∀ i k, i ≠ 3 → g i k = h i k) → ∀ i k, i ≠ 3 → ¬ (i = p + 1 ∧ k = j) → g i k = h i k := fun q i k a _ => q i k a
  unfold m_Parish_readName
  simp -implicitDefEqProofs only [↓dn_den, ↓dn_loc, ↓dn_k, ↓dn_add, ↓dn_sub, ↓dn_mul, ↓dn_div, ↓dn_rem, ↓dn_bop, ↓dn_ladd, ↓dn_lsub, ↓dn_lmul, ↓dn_ldiv, ↓dn_lrem, ↓dn_land, ↓dn_l2i, ↓dn_neg, ↓dn_get, ↓dn_fix, ↓dn_ald, ↓dn_gld, ↓dn_yld, ↓dn_len, ↓dn_gln, ↓dn_cc, ↓dn_cb, ↓dn_and, ↓dn_or, ↓dn_not, ↓dn_cite, ↓dn_ec, ↓dn_ei, ↓dn_skip, ↓dn_seq, ↓dn_set, ↓dn_inc, ↓dn_putf, ↓dn_putz, ↓dn_ast, ↓dn_exp, ↓dn_if, ↓dn_ret, ↓dn_retz, ↓dn_retv, ↓dn_brk, ↓dn_cont, ↓dn_cs, ↓dn_sw, ↓dn_pop32, ↓dn_pop64, ↓dn_aop, ↓dn_call, ↓dn_max, ↓dn_min, ↓dn_acp, ↓dn_i2l, ↓dn_args0, ↓dn_args1, og_pad, og_ent, og_rlt, og_rle, og_rgt, og_rge, og_req, og_rne, og_padd, og_psub, og_pmul, List.getD_cons_zero, List.getD_cons_succ, List.set_cons_zero, List.set_cons_succ, List.length_cons, List.length_nil, List.cons_append, List.nil_append, List.replicate, List.append_nil, Nat.reduceAdd, Nat.reduceSub, Nat.reduceEqDiff, if_true, if_false, reduceIte, Int.reduceAdd, Int.reduceSub, Int.reduceMul, Int.reduceNeg, Int.reduceLT, Int.reduceLE, Int.cast_ofNat_Int, true_or, or_true, true_and, and_true, false_and, List.mem_cons, List.not_mem_nil, or_false, false_or, ne_eq, og_i32]
  refine k_isName ?_
  rw [t3.1]
  by_cases q : tK B n a = 1
  · have t4 := t4 q
    have ew : wrd B n a = tW B n a := by unfold wrd; rw [if_pos q]
    have wr := tW_rg B n a
    rw [t4.1]
    by_cases qn : tW B n a = -1 ∨ 25 ≤ tW B n a
    · rw [if_pos ⟨q, qn⟩]
      have qn2 : tK B n a = 1 ∧ ¬ (0 ≤ wrd B n a ∧ wrd B n a ≤ 24) := ⟨q, by omega⟩
      refine ⟨fun _ => ?_, fun z => absurd z (by decide)⟩
      rw [t4.2.1]
      refine ⟨fun z => ?_, fun z => ?_⟩
      · have e : pNam B n (thB D) a = some (1, tS B n a + 6) := by unfold pNam; rw [if_pos qn2, if_pos z]
        rw [t3.2.1]
        refine ⟨by omega, k_failAt (by decide) t2.1 (fun h1 l1 f1 => hK h1 ?_ (fun y => by rw [e] at y; cases y) (ff f1))⟩
        rw [tbv _ e]; exact l1
      · have nk := nmV_ok t1.1 t1.2 q (by omega)
        refine w_isThere (v := nmV B n a) hn (t4.2.2.trans nk.2) nk.1 ⟨fun y => ?_, fun y => ?_⟩
        · have e : pNam B n (thB D) a = some (3, tS B n a) := by unfold pNam; rw [if_pos qn2, if_neg z, if_pos (ite10 y)]
          refine w_fail (by decide) hk0 (fun h1 l1 f1 => hK h1 ?_ (fun y => by rw [e] at y; cases y) (ff f1))
          rw [tbv _ e]; exact l1
        · have e : pNam B n (thB D) a = none := by unfold pNam; rw [if_pos qn2, if_neg z, if_neg (by rw [ite00 y]; decide)]
          rw [t4.2.2]
          refine ⟨by omega, by omega, w_step (txC_fr ht (fun i k hi => og_up_i (by omega))) (tokC_fr hk0 (fun k => og_up_i (by omega))) (fun h1 k1 f1 => hK h1 ?_ (fun _ => ?_) (fun i k p1 p2 => ?_))⟩
          · unfold tb
            dsimp only
            rw [e]; exact k1
          · rw [f1 _ _ (by omega), og_up_eq]; exact nk.2
          · rw [f1 i k p1]; unfold og_up; exact if_neg p2
    · rw [if_neg (fun z => qn z.2)]
      refine ⟨fun z => absurd (by trivial) z, fun _ => ?_⟩
      have e : pNam B n (thB D) a = some (1, tS B n a) := by unfold pNam; rw [if_neg (by omega)]
      refine w_fail (by decide) hk0 (fun h1 l1 f1 => hK h1 ?_ (fun y => by rw [e] at y; cases y) (ff f1))
      rw [tbv _ e]; exact l1
  · rw [if_neg (fun z => q z.1)]
    refine ⟨fun z => absurd (by trivial) z, fun _ => ?_⟩
    have e : pNam B n (thB D) a = some (1, tS B n a) := by unfold pNam; rw [if_neg (fun z => q z.1)]
    refine w_fail (by decide) hk0 (fun h1 l1 f1 => hK h1 ?_ (fun y => by rw [e] at y; cases y) (ff f1))
    rw [tbv _ e]; exact l1
set_option maxHeartbeats 200000 in
theorem w_readGrave {p g : Int} (hp : p = 30 ∨ p = 40) (hg : 0 ≤ g ∧ g < 6) (hgd : g = D 0 0) (ht : txC h B n) (hk : tokC h B n a) (hn : nmC h p D)
    (hK : ∀ h', tkC h' B n (pGrv B n D a) → h' (p + 90) 0 = g + 1 → (∀ b, pGrv B n D a = .inl b → h' (p + 1) g = nPad (nmV B n a) ∧ h' (p + 90 + 1) g = tN B n (tI B n a 2) ∧ h' (p + 90 + 2) g = tN B n (tI B n a 4) ∧ h' (p + 90 + 3) g = tN B n (tI B n a 6) ∧ h' (p + 90 + 4) g = -1) → (∀ i k, i ≠ 3 → ¬ ((i = p + 1 ∨ (p + 91 ≤ i ∧ i ≤ p + 94)) ∧ k = g) → ¬ (i = p + 90 ∧ k = 0) → h' i k = h i k) → K 0 h') : m_Parish_readGrave [p, 3, g] h K := by
  unfold m_Parish_readGrave
  simp -implicitDefEqProofs only [↓dn_den, ↓dn_loc, ↓dn_k, ↓dn_add, ↓dn_sub, ↓dn_mul, ↓dn_div, ↓dn_rem, ↓dn_bop, ↓dn_ladd, ↓dn_lsub, ↓dn_lmul, ↓dn_ldiv, ↓dn_lrem, ↓dn_land, ↓dn_l2i, ↓dn_neg, ↓dn_get, ↓dn_fix, ↓dn_ald, ↓dn_gld, ↓dn_yld, ↓dn_len, ↓dn_gln, ↓dn_cc, ↓dn_cb, ↓dn_and, ↓dn_or, ↓dn_not, ↓dn_cite, ↓dn_ec, ↓dn_ei, ↓dn_skip, ↓dn_seq, ↓dn_set, ↓dn_inc, ↓dn_putf, ↓dn_putz, ↓dn_ast, ↓dn_exp, ↓dn_if, ↓dn_ret, ↓dn_retz, ↓dn_retv, ↓dn_brk, ↓dn_cont, ↓dn_cs, ↓dn_sw, ↓dn_pop32, ↓dn_pop64, ↓dn_aop, ↓dn_call, ↓dn_max, ↓dn_min, ↓dn_acp, ↓dn_i2l, ↓dn_args0, ↓dn_args1, og_pad, og_ent, og_rlt, og_rle, og_rgt, og_rge, og_req, og_rne, og_padd, og_psub, og_pmul, List.getD_cons_zero, List.getD_cons_succ, List.set_cons_zero, List.set_cons_succ, List.length_cons, List.length_nil, List.cons_append, List.nil_append, List.replicate, List.append_nil, Nat.reduceAdd, Nat.reduceSub, Nat.reduceEqDiff, if_true, if_false, reduceIte, Int.reduceAdd, Int.reduceSub, Int.reduceMul, Int.reduceNeg, Int.reduceLT, Int.reduceLE, Int.cast_ofNat_Int, true_or, or_true, true_and, and_true, false_and, List.mem_cons, List.not_mem_nil, or_false, false_or, ne_eq, og_i32]
  refine w_readName hp (by omega) ht hk hn (fun h1 k1 v1 f1 => ?_)
  refine w_tail (i1 := p + 90 + 1) (i2 := p + 90 + 2) (i3 := p + 90 + 3) (by decide) hg (by omega) (txC_fr ht (fun i k hi => f1 i k (by omega) (by omega))) k1 (fun x7 h7 h2 eh k2 v2 f2 => ?_)
  rw [← eh]
  refine ⟨hg.1, hg.2, ?_⟩
  have e0 : og_up h2 (p + 90 + 4) g (-1) (p + 90) 0 = g := by rw [og_up_i (by omega), f2 _ _ (by omega) (by omega), f1 _ _ (by omega) (by omega), hn.1.1, hgd]
  rw [e0]
  have u : ∀ i k, ¬ (i = p + 94 ∧ k = g) → ¬ (i = p + 90 ∧ k = 0) → og_up (og_up h2 (p + 90 + 4) g (-1)) (p + 90) 0 (g + 1) i k = h2 i k := fun i k q r => by
    unfold og_up
    rw [if_neg r, if_neg (by omega)]
  have w4 : og_up (og_up h2 (p + 90 + 4) g (-1)) (p + 90) 0 (g + 1) (p + 90 + 4) g = -1 := by
    rw [og_up_i (by omega), og_up_eq]
  have w0 : og_up (og_up h2 (p + 90 + 4) g (-1)) (p + 90) 0 (g + 1) (p + 90) 0 = g + 1 := og_up_eq
  generalize og_up (og_up h2 (p + 90 + 4) g (-1)) (p + 90) 0 (g + 1) = h3 at u w4 w0
  refine ⟨by omega, hK h3 (tkC_fr k2 (fun k => u _ _ (by omega) (by omega))) w0 (fun b hb => ?_) (fun i k p1 p2 p3 => ?_)⟩
  · obtain ⟨a1, q1, x1, x2, x3⟩ := v2 b hb
    obtain ⟨a0, q0, g0, r0⟩ := tb_l q1
    have := Sum.inl.inj q0
    subst this
    rw [r0] at x1 x2 x3
    refine ⟨?_, ?_, ?_, ?_, w4⟩
    · rw [u _ _ (by omega) (by omega), f2 _ _ (by omega) (by omega)]; exact v1 g0
    · rw [u _ _ (by omega) (by omega), x1]; rfl
    · rw [u _ _ (by omega) (by omega), x2]; rfl
    · rw [u _ _ (by omega) (by omega), x3]; rfl
  · rw [u _ _ (by omega) (by omega), f2 i k p1 (by omega), f1 i k p1 (by omega)]
set_option maxHeartbeats 200000 in
theorem w_readPerson {p g : Int} (hp : p = 30 ∨ p = 40) (hg : 0 ≤ g ∧ g < 8) (hgd : g = D 0 1) (ht : txC h B n) (hk : tokC h B n a) (hn : nmC h p D)
    (hK : ∀ h', tkC h' B n (pPrs B n D a) → h' (p + 90) 1 = g + 1 → (∀ b, pPrs B n D a = .inl b → h' (p + 1) (6 + g) = nPad (nmV B n a) ∧ h' (p + 90 + 5) g = tN B n (tI B n a 2) ∧ h' (p + 90 + 6) g = tN B n (tI B n a 4) ∧ h' (p + 90 + 7) g = tN B n (tI B n a 6) ∧ h' (p + 90 + 8) g = 1) → (∀ i k, i ≠ 3 → ¬ (i = p + 1 ∧ k = 6 + g) → ¬ ((p + 95 ≤ i ∧ i ≤ p + 98) ∧ k = g) → ¬ (i = p + 90 ∧ k = 1) → h' i k = h i k) → K 0 h') : m_Parish_readPerson [p, 3, g] h K := by
  unfold m_Parish_readPerson
  simp -implicitDefEqProofs only [↓dn_den, ↓dn_loc, ↓dn_k, ↓dn_add, ↓dn_sub, ↓dn_mul, ↓dn_div, ↓dn_rem, ↓dn_bop, ↓dn_ladd, ↓dn_lsub, ↓dn_lmul, ↓dn_ldiv, ↓dn_lrem, ↓dn_land, ↓dn_l2i, ↓dn_neg, ↓dn_get, ↓dn_fix, ↓dn_ald, ↓dn_gld, ↓dn_yld, ↓dn_len, ↓dn_gln, ↓dn_cc, ↓dn_cb, ↓dn_and, ↓dn_or, ↓dn_not, ↓dn_cite, ↓dn_ec, ↓dn_ei, ↓dn_skip, ↓dn_seq, ↓dn_set, ↓dn_inc, ↓dn_putf, ↓dn_putz, ↓dn_ast, ↓dn_exp, ↓dn_if, ↓dn_ret, ↓dn_retz, ↓dn_retv, ↓dn_brk, ↓dn_cont, ↓dn_cs, ↓dn_sw, ↓dn_pop32, ↓dn_pop64, ↓dn_aop, ↓dn_call, ↓dn_max, ↓dn_min, ↓dn_acp, ↓dn_i2l, ↓dn_args0, ↓dn_args1, og_pad, og_ent, og_rlt, og_rle, og_rgt, og_rge, og_req, og_rne, og_padd, og_psub, og_pmul, List.getD_cons_zero, List.getD_cons_succ, List.set_cons_zero, List.set_cons_succ, List.length_cons, List.length_nil, List.cons_append, List.nil_append, List.replicate, List.append_nil, Nat.reduceAdd, Nat.reduceSub, Nat.reduceEqDiff, if_true, if_false, reduceIte, Int.reduceAdd, Int.reduceSub, Int.reduceMul, Int.reduceNeg, Int.reduceLT, Int.reduceLE, Int.cast_ofNat_Int, true_or, or_true, true_and, and_true, false_and, List.mem_cons, List.not_mem_nil, or_false, false_or, ne_eq, og_i32]
  refine ⟨by omega, w_readName hp (by omega) ht hk hn (fun h1 k1 v1 f1 => ?_)⟩
  refine w_tail (i1 := p + 90 + 5) (i2 := p + 90 + 6) (i3 := p + 90 + 7) (by decide) hg (by omega) (txC_fr ht (fun i k hi => f1 i k (by omega) (by omega))) k1 (fun x7 h7 h2 eh k2 v2 f2 => ?_)
  rw [← eh]
  refine ⟨hg.1, hg.2, ?_⟩
  have e0 : og_up h2 (p + 90 + 8) g 1 (p + 90) 1 = g := by rw [og_up_i (by omega), f2 _ _ (by omega) (by omega), f1 _ _ (by omega) (by omega), hn.1.2, hgd]
  rw [e0]
  have u : ∀ i k, ¬ (i = p + 98 ∧ k = g) → ¬ (i = p + 90 ∧ k = 1) → og_up (og_up h2 (p + 90 + 8) g 1) (p + 90) 1 (g + 1) i k = h2 i k := fun i k q r => by
    unfold og_up
    rw [if_neg r, if_neg (by omega)]
  have w4 : og_up (og_up h2 (p + 90 + 8) g 1) (p + 90) 1 (g + 1) (p + 90 + 8) g = 1 := by
    rw [og_up_i (by omega), og_up_eq]
  have w0 : og_up (og_up h2 (p + 90 + 8) g 1) (p + 90) 1 (g + 1) (p + 90) 1 = g + 1 := og_up_eq
  generalize og_up (og_up h2 (p + 90 + 8) g 1) (p + 90) 1 (g + 1) = h3 at u w4 w0
  refine ⟨by omega, hK h3 (tkC_fr k2 (fun k => u _ _ (by omega) (by omega))) w0 (fun b hb => ?_) (fun i k p1 p2 p3 p4 => ?_)⟩
  · obtain ⟨a1, q1, x1, x2, x3⟩ := v2 b hb
    obtain ⟨a0, q0, g0, r0⟩ := tb_l q1
    have := Sum.inl.inj q0
    subst this
    rw [r0] at x1 x2 x3
    refine ⟨?_, ?_, ?_, ?_, w4⟩
    · rw [u _ _ (by omega) (by omega), f2 _ _ (by omega) (by omega)]; exact v1 g0
    · rw [u _ _ (by omega) (by omega), x1]; rfl
    · rw [u _ _ (by omega) (by omega), x2]; rfl
    · rw [u _ _ (by omega) (by omega), x3]; rfl
  · rw [u _ _ (by omega) (by omega), f2 i k p1 (by omega), f1 i k p1 (by omega)]
end
end
