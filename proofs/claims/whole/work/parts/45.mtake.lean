theorem sRun_same {A B : Yd} {p cnt : Int} (hs : sameB A B) : ∀ (prog st : List Int), -18 ∉ prog → sRun B p cnt prog st = sRun A p cnt prog st
  | [], _, _ => rfl
  | c :: prog, st, hn => by
    have h1 : sStep B p cnt st c = sStep A p cnt st c := by
      obtain ⟨e0, e1, e2, e3⟩ := hs
      have hc : c ≠ -18 := fun z => hn (by rw [z]; exact List.mem_cons_self)
      have hp : sPlain B p cnt (-1 - c) = sPlain A p cnt (-1 - c) := by
        unfold sPlain
        rw [e3 6 p (by decide) (by decide) (by decide) (by decide), e3 5 p (by decide) (by decide) (by decide) (by decide), e3 7 p (by decide) (by decide) (by decide) (by decide), e2]
        have : ¬ (-1 - c = 17) := by omega
        rw [if_neg this, if_neg this]
      have hss : ∀ v, sSingle B p (-1 - c) v = sSingle A p (-1 - c) v := by
        intro v
        unfold sSingle
        rw [e0, e3 3 v (by decide) (by decide) (by decide) (by decide), e3 5 p (by decide) (by decide) (by decide) (by decide), e3 1 v (by decide) (by decide) (by decide) (by decide)]
      unfold sStep
      rw [hp]
      simp only [hss]
    show sRun B p cnt prog (sStep B p cnt st c) = sRun A p cnt prog (sStep A p cnt st c)
    rw [h1]
    exact sRun_same hs prog _ (fun z => hn (List.mem_cons_of_mem _ z))
theorem sVal_same {A B : Yd} {p cnt : Int} {prog : List Int} (hs : sameB A B) (hn : -18 ∉ prog) : sVal prog B p cnt = sVal prog A p cnt := by
  unfold sVal
  rw [sRun_same hs prog [] hn]
theorem ite10 {b : Bool} (h : ¬ (if b = true then (1 : Int) else 0) = 0) : b = true := by cases b <;> simp at h ⊢
theorem ite00 {b : Bool} (h : (if b = true then (1 : Int) else 0) = 0) : b = false := by cases b <;> simp at h ⊢
theorem iteP1 {p : Prop} {_ : Decidable p} (h : ¬ (if p then (1 : Int) else 0) = 0) : p := by by_cases q : p; exact q; rw [if_neg q] at h; exact absurd rfl h
theorem iteP0 {p : Prop} {_ : Decidable p} (h : (if p then (1 : Int) else 0) = 0) : ¬ p := by intro q; rw [if_pos q] at h; exact absurd h (by decide)
section
variable {h : Hp} {A : Yd} {P : Pr} {K : Int → Hp → Prop}
theorem r_comes {p : Int} (hR : hasM h P) (hP : okQ P) (hn : isN h A) (ho : okY A) (hk : okK A) (hp0 : 0 ≤ p) (hp1 : p < A 0 1)
    (hK : ∀ h', isN h' (sCome1 P A p) → frM h h' → h' 1000 52 = h 1000 52 → h' 1000 54 = h 1000 54 → K 0 h') : m_Model_comes [1000, p] h K := by
  have h6 := ho.1
  have hm := hn.1
  unfold m_Model_comes
  simp -implicitDefEqProofs only [↓dn_den, ↓dn_loc, ↓dn_k, ↓dn_add, ↓dn_sub, ↓dn_mul, ↓dn_div, ↓dn_rem, ↓dn_bop, ↓dn_ladd, ↓dn_lsub, ↓dn_lmul, ↓dn_ldiv, ↓dn_lrem, ↓dn_land, ↓dn_l2i, ↓dn_neg, ↓dn_get, ↓dn_fix, ↓dn_ald, ↓dn_gld, ↓dn_yld, ↓dn_len, ↓dn_gln, ↓dn_cc, ↓dn_cb, ↓dn_and, ↓dn_or, ↓dn_not, ↓dn_cite, ↓dn_ec, ↓dn_ei, ↓dn_skip, ↓dn_seq, ↓dn_set, ↓dn_inc, ↓dn_putf, ↓dn_putz, ↓dn_ast, ↓dn_exp, ↓dn_if, ↓dn_ret, ↓dn_retz, ↓dn_retv, ↓dn_brk, ↓dn_cont, ↓dn_cs, ↓dn_sw, ↓dn_pop32, ↓dn_pop64, ↓dn_aop, ↓dn_call, ↓dn_max, ↓dn_min, ↓dn_acp, ↓dn_i2l, ↓dn_args0, ↓dn_args1, og_pad, og_ent, og_rlt, og_rle, og_rgt, og_rge, og_req, og_rne, og_padd, og_psub, og_pmul, List.getD_cons_zero, List.getD_cons_succ, List.set_cons_zero, List.set_cons_succ, List.length_cons, List.length_nil, List.cons_append, List.nil_append, List.replicate, List.append_nil, Nat.reduceAdd, Nat.reduceSub, Nat.reduceEqDiff, if_true, if_false, reduceIte, Int.reduceAdd, Int.reduceSub, Int.reduceMul, Int.reduceNeg, Int.reduceLT, Int.reduceLE, Int.cast_ofNat_Int, true_or, or_true, true_and, and_true, false_and, List.mem_cons, List.not_mem_nil, or_false, false_or]
  apply r_isAlive hm ho hp0 hp1
  refine ⟨fun hx => ?_, fun hx => ?_⟩
  · have hl : sLive A p = true := ite10 hx
    refine r_doesCome hR hP hm ⟨ho, hp0, hp1⟩ (fun h1 hf => ?_)
    have hN1 := isN_E hn hf
    have e52 : h1 1000 52 = h 1000 52 := hf _ _ (by decide) (fun _ => by decide)
    have e54 : h1 1000 54 = h 1000 54 := hf _ _ (by decide) (fun _ => by decide)
    refine ⟨fun hy => ?_, fun hy => ?_⟩
    · have hv : sVal (P 9) A p (sAsked A) ≠ 0 := iteP1 hy
      apply r_nextFor hN1.1 ho hp0 hp1
      have hg := sNext_rg A p (sNg A)
      have hng : sNg A = (A 0 0).toNat := rfl
      refine ⟨fun hz => ?_, fun hz => ?_⟩
      · refine r_goesInto hN1 ho hk hp0 hp1 hl (by omega) (fun h2 hN2 hF2 hE2 => hK h2 ?_ (frM_tr (frM_E hf) hF2) ?_ ?_)
        · unfold sCome1
          rw [if_pos ⟨hl, hv, hz⟩]
          exact hN2
        · rw [hE2 _ _ (by decide)]; exact e52
        · rw [hE2 _ _ (by decide)]; exact e54
      · refine hK h1 ?_ (frM_E hf) e52 e54
        unfold sCome1
        rw [if_neg (fun z => z.2.2 (Classical.not_not.mp hz))]
        exact hN1
    · refine hK h1 ?_ (frM_E hf) e52 e54
      unfold sCome1
      rw [if_neg (fun z => iteP0 hy z.2.1)]
      exact hN1
  · refine hK h ?_ frM_rf rfl rfl
    unfold sCome1
    rw [if_neg (fun z => by rw [ite00 hx] at z; exact absurd z.1 (by decide))]
    exact hn
def hvJ (h : Hp) (g : Int) (A : Yd) (W : Int → Int) (i : Nat) (e1 : List Int) (h1 : Hp) : Prop := ∃ mo v, e1 = [1000, g, sHeavy W A g i, mo, 0, (i : Int), v, 0] ∧ (sHeavy W A g i ≠ -1 → mo = W (sHeavy W A g i)) ∧ frE h h1
theorem r_graveTakes {g : Int} {W : Int → Int} (hR : hasM h P) (hP : okQ P) (hn : isN h A) (ho : okY A) (hk : okK A) (hg0 : 0 ≤ g) (hg1 : g < A 0 0) (hW : ∀ p, 0 ≤ p → p < A 0 1 → W p = sVal (P 10) A p 0) (hb : 0 ≤ h 1000 52 ∧ h 1000 52 ≤ 100)
    (hK : ∀ h', isN h' (sTake1 W A g) → frM h h' → h' 1000 52 = h 1000 52 + (if sTakes A g W then 1 else 0) → h' 1000 54 = h 1000 54 → K 0 h') : m_Model_graveTakes [1000, g] h K := by
  have h6 := ho.1
  have hm := hn.1
  have hng : sNp A = (A 0 1).toNat := rfl
  have no : sTakes A g W = false → K 0 h := fun e => hK h (by unfold sTake1; rw [e]; exact hn) frM_rf (by rw [e]; simp) rfl
  unfold m_Model_graveTakes
  simp -implicitDefEqProofs only [↓dn_den, ↓dn_loc, ↓dn_k, ↓dn_add, ↓dn_sub, ↓dn_mul, ↓dn_div, ↓dn_rem, ↓dn_bop, ↓dn_ladd, ↓dn_lsub, ↓dn_lmul, ↓dn_ldiv, ↓dn_lrem, ↓dn_land, ↓dn_l2i, ↓dn_neg, ↓dn_get, ↓dn_fix, ↓dn_ald, ↓dn_gld, ↓dn_yld, ↓dn_len, ↓dn_gln, ↓dn_cc, ↓dn_cb, ↓dn_and, ↓dn_or, ↓dn_not, ↓dn_cite, ↓dn_ec, ↓dn_ei, ↓dn_skip, ↓dn_seq, ↓dn_set, ↓dn_inc, ↓dn_putf, ↓dn_putz, ↓dn_ast, ↓dn_exp, ↓dn_if, ↓dn_ret, ↓dn_retz, ↓dn_retv, ↓dn_brk, ↓dn_cont, ↓dn_cs, ↓dn_sw, ↓dn_pop32, ↓dn_pop64, ↓dn_aop, ↓dn_call, ↓dn_max, ↓dn_min, ↓dn_acp, ↓dn_i2l, ↓dn_args0, ↓dn_args1, og_pad, og_ent, og_rlt, og_rle, og_rgt, og_rge, og_req, og_rne, og_padd, og_psub, og_pmul, List.getD_cons_zero, List.getD_cons_succ, List.set_cons_zero, List.set_cons_succ, List.length_cons, List.length_nil, List.cons_append, List.nil_append, List.replicate, List.append_nil, Nat.reduceAdd, Nat.reduceSub, Nat.reduceEqDiff, if_true, if_false, reduceIte, Int.reduceAdd, Int.reduceSub, Int.reduceMul, Int.reduceNeg, Int.reduceLT, Int.reduceLE, Int.cast_ofNat_Int, true_or, or_true, true_and, and_true, false_and, List.mem_cons, List.not_mem_nil, or_false, false_or]
  apply r_doesAsk hm ho hg0 hg1
  refine ⟨fun hx => ?_, fun hx => no (by unfold sTakes; rw [ite00 hx]; rfl)⟩
  have hask : sAsk A g = true := ite10 hx
  apply r_dueOf hm ho hg0 hg1
  have od := ho.2.1 g hg0 hg1
  refine ⟨fun hd => no (by unfold sTakes; simp; omega), fun hd => ?_⟩
  have hd0 : A 3 g = 0 := by omega
  refine ⟨hvJ h g A W (sNp A), ?_, ?_⟩
  · simp -implicitDefEqProofs only [↓dn_den, ↓dn_loc, ↓dn_k, ↓dn_add, ↓dn_sub, ↓dn_mul, ↓dn_div, ↓dn_rem, ↓dn_bop, ↓dn_ladd, ↓dn_lsub, ↓dn_lmul, ↓dn_ldiv, ↓dn_lrem, ↓dn_land, ↓dn_l2i, ↓dn_neg, ↓dn_get, ↓dn_fix, ↓dn_ald, ↓dn_gld, ↓dn_yld, ↓dn_len, ↓dn_gln, ↓dn_cc, ↓dn_cb, ↓dn_and, ↓dn_or, ↓dn_not, ↓dn_cite, ↓dn_ec, ↓dn_ei, ↓dn_skip, ↓dn_seq, ↓dn_set, ↓dn_inc, ↓dn_putf, ↓dn_putz, ↓dn_ast, ↓dn_exp, ↓dn_if, ↓dn_ret, ↓dn_retz, ↓dn_retv, ↓dn_brk, ↓dn_cont, ↓dn_cs, ↓dn_sw, ↓dn_pop32, ↓dn_pop64, ↓dn_aop, ↓dn_call, ↓dn_max, ↓dn_min, ↓dn_acp, ↓dn_i2l, ↓dn_args0, ↓dn_args1, og_pad, og_ent, og_rlt, og_rle, og_rgt, og_rge, og_req, og_rne, og_padd, og_psub, og_pmul, List.getD_cons_zero, List.getD_cons_succ, List.set_cons_zero, List.set_cons_succ, List.length_cons, List.length_nil, List.cons_append, List.nil_append, List.replicate, List.append_nil, Nat.reduceAdd, Nat.reduceSub, Nat.reduceEqDiff, if_true, if_false, reduceIte, Int.reduceAdd, Int.reduceSub, Int.reduceMul, Int.reduceNeg, Int.reduceLT, Int.reduceLE, Int.cast_ofNat_Int, true_or, or_true, true_and, and_true, false_and, List.mem_cons, List.not_mem_nil, or_false, false_or]
    refine og_loop (sNp A) (hvJ h g A W) ⟨0, 0, rfl, fun z => absurd rfl z, frE_rf⟩ ?_
    rintro i e1 h1 hi ⟨mo, v, rfl, hmo, hf⟩
    simp -implicitDefEqProofs only [↓dn_den, ↓dn_loc, ↓dn_k, ↓dn_add, ↓dn_sub, ↓dn_mul, ↓dn_div, ↓dn_rem, ↓dn_bop, ↓dn_ladd, ↓dn_lsub, ↓dn_lmul, ↓dn_ldiv, ↓dn_lrem, ↓dn_land, ↓dn_l2i, ↓dn_neg, ↓dn_get, ↓dn_fix, ↓dn_ald, ↓dn_gld, ↓dn_yld, ↓dn_len, ↓dn_gln, ↓dn_cc, ↓dn_cb, ↓dn_and, ↓dn_or, ↓dn_not, ↓dn_cite, ↓dn_ec, ↓dn_ei, ↓dn_skip, ↓dn_seq, ↓dn_set, ↓dn_inc, ↓dn_putf, ↓dn_putz, ↓dn_ast, ↓dn_exp, ↓dn_if, ↓dn_ret, ↓dn_retz, ↓dn_retv, ↓dn_brk, ↓dn_cont, ↓dn_cs, ↓dn_sw, ↓dn_pop32, ↓dn_pop64, ↓dn_aop, ↓dn_call, ↓dn_max, ↓dn_min, ↓dn_acp, ↓dn_i2l, ↓dn_args0, ↓dn_args1, og_pad, og_ent, og_rlt, og_rle, og_rgt, og_rge, og_req, og_rne, og_padd, og_psub, og_pmul, List.getD_cons_zero, List.getD_cons_succ, List.set_cons_zero, List.set_cons_succ, List.length_cons, List.length_nil, List.cons_append, List.nil_append, List.replicate, List.append_nil, Nat.reduceAdd, Nat.reduceSub, Nat.reduceEqDiff, if_true, if_false, reduceIte, Int.reduceAdd, Int.reduceSub, Int.reduceMul, Int.reduceNeg, Int.reduceLT, Int.reduceLE, Int.cast_ofNat_Int, true_or, or_true, true_and, and_true, false_and, List.mem_cons, List.not_mem_nil, or_false, false_or, og_i32]
    have hN1 := isN_E hn hf
    have hM1 := hN1.1
    apply r_personMany hM1
    have hr := sHeavy_rg W A g i
    refine ⟨fun hlt => ?_, fun hge => ?_⟩
    · have fin : ∀ h2 b mo v, b = sHeavy W A g (i + 1) → (b ≠ -1 → mo = W b) → frE h h2 → og_nx (sNp A) (hvJ h g A W) i [1000, g, b, mo, 0, (i : Int) + 1, v, 0] h2 := by
        intro h2 b mo v e1 e2 e3
        refine og_nx_mk (by omega) ⟨mo, v, ?_, ?_, e3⟩
        · rw [e1]; simp
        · rw [← e1]; exact e2
      apply r_isAlive hM1 ho (by omega) hlt
      refine ⟨fun hx1 => ?_, fun hx1 => ⟨by omega, fin _ _ _ _ ?_ hmo hf⟩⟩
      · have hl : sLive A i = true := ite10 hx1
        apply r_doesFit hM1 ho (by omega) hlt hg0 hg1
        refine ⟨fun hx2 => ?_, fun hx2 => ⟨by omega, fin _ _ _ _ ?_ hmo hf⟩⟩
        · have hft : sFit A i g = true := ite10 hx2
          refine r_takesOf (hasM_E hR hf) hP hM1 ⟨ho, by omega, hlt⟩ (fun h2 hf2 => ?_)
          have hw : sVal (P 10) A i 0 = W i := (hW i (by omega) hlt).symm
          rw [hw]
          have hf12 := frE_tr hf hf2
          refine ⟨fun hne => ?_, fun he => ?_⟩
          · have e2 := hmo hne
            subst e2
            refine ⟨fun hle => ⟨by omega, fin _ _ _ _ ?_ (fun _ => rfl) hf12⟩, fun hle => ⟨by omega, fin _ _ _ _ ?_ (fun _ => rfl) hf12⟩⟩
            · rw [sHeavy_s, hl, hft]; simp [hne]; omega
            · rw [sHeavy_s, hl, hft]; simp; omega
          · refine ⟨by omega, fin _ _ _ _ ?_ (fun _ => rfl) hf12⟩
            rw [sHeavy_s, hl, hft]; simp; omega
        · have hft : sFit A i g = false := ite00 hx2
          rw [sHeavy_s, hft]; simp
      · have hl : sLive A i = false := ite00 hx1
        rw [sHeavy_s, hl]; simp
    · have e : i = sNp A := by omega
      subst e
      exact ⟨mo, v, rfl, hmo, hf⟩
  · rintro e1 h1 ⟨mo, v, rfl, hmo, hf⟩
    simp -implicitDefEqProofs only [↓dn_den, ↓dn_loc, ↓dn_k, ↓dn_add, ↓dn_sub, ↓dn_mul, ↓dn_div, ↓dn_rem, ↓dn_bop, ↓dn_ladd, ↓dn_lsub, ↓dn_lmul, ↓dn_ldiv, ↓dn_lrem, ↓dn_land, ↓dn_l2i, ↓dn_neg, ↓dn_get, ↓dn_fix, ↓dn_ald, ↓dn_gld, ↓dn_yld, ↓dn_len, ↓dn_gln, ↓dn_cc, ↓dn_cb, ↓dn_and, ↓dn_or, ↓dn_not, ↓dn_cite, ↓dn_ec, ↓dn_ei, ↓dn_skip, ↓dn_seq, ↓dn_set, ↓dn_inc, ↓dn_putf, ↓dn_putz, ↓dn_ast, ↓dn_exp, ↓dn_if, ↓dn_ret, ↓dn_retz, ↓dn_retv, ↓dn_brk, ↓dn_cont, ↓dn_cs, ↓dn_sw, ↓dn_pop32, ↓dn_pop64, ↓dn_aop, ↓dn_call, ↓dn_max, ↓dn_min, ↓dn_acp, ↓dn_i2l, ↓dn_args0, ↓dn_args1, og_pad, og_ent, og_rlt, og_rle, og_rgt, og_rge, og_req, og_rne, og_padd, og_psub, og_pmul, List.getD_cons_zero, List.getD_cons_succ, List.set_cons_zero, List.set_cons_succ, List.length_cons, List.length_nil, List.cons_append, List.nil_append, List.replicate, List.append_nil, Nat.reduceAdd, Nat.reduceSub, Nat.reduceEqDiff, if_true, if_false, reduceIte, Int.reduceAdd, Int.reduceSub, Int.reduceMul, Int.reduceNeg, Int.reduceLT, Int.reduceLE, Int.cast_ofNat_Int, true_or, or_true, true_and, and_true, false_and, List.mem_cons, List.not_mem_nil, or_false, false_or, og_i32]
    have hN1 := isN_E hn hf
    have hr := sHeavy_rg W A g (sNp A)
    have e52 : h1 1000 52 = h 1000 52 := hf _ _ (by decide) (fun _ => by decide)
    have e54 : h1 1000 54 = h 1000 54 := hf _ _ (by decide) (fun _ => by decide)
    refine ⟨fun hz => ?_, fun hz => ?_⟩
    · have ht : sTakes A g W = false := by unfold sTakes; simp [hz]
      refine hK h1 ?_ (frM_E hf) ?_ e54
      · unfold sTake1; rw [ht]; exact hN1
      · rw [ht, e52]; simp
    · have ht : sTakes A g W = true := by unfold sTakes; rw [hask]; simp [hz, hd0]
      refine r_goesInto hN1 ho hk (by omega) (by omega) (hr.2 hz).1 (by omega) (fun h2 hN2 hF2 hE2 => ?_)
      have f52 : h2 1000 52 = h 1000 52 := by rw [hE2 _ _ (by decide)]; exact e52
      rw [f52]
      refine ⟨by omega, hK _ ?_ ?_ ?_ ?_⟩
      · have : isN (og_up h2 1000 52 (h 1000 52 + 1)) (sBury A (sHeavy W A g (sNp A)) g 1) := by
          have e : ∀ i k, i ≠ 1000 → og_up h2 1000 52 (h 1000 52 + 1) i k = h2 i k := fun i k hi => og_up_i hi
          refine ⟨isM_fr hN2.1 (fun i k hi => e i k (by omega)), fun z => ?_⟩
          rw [og_up_k (by decide)] at z
          have m := hN2.2 z
          exact ⟨by rw [e _ _ (by decide)]; exact m.1, fun k k0 k1 => by rw [e _ _ (by decide)]; exact m.2 k k0 k1⟩
        unfold sTake1
        rw [ht]
        exact this
      · refine frM_tr (frM_tr (frM_E hf) hF2) ⟨fun i k a b c => ?_, fun _ k _ => og_up_i (by decide)⟩
        by_cases e : i = 1000
        · exact og_up_k (by have := c e; omega)
        · exact og_up_i e
      · rw [ht, og_up_eq]; simp
      · rw [og_up_k (by decide), hE2 _ _ (by decide)]; exact e54
end
