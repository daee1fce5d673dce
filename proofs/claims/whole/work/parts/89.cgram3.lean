section
-- the class's grammar, third part: parts, facts, all levels
section
variable {h h0 h' : Hp} {B : Int → Int} {n s pu a o : Int} {c : List Int} {r : PS} {K : Int → Hp → Prop}
theorem len_gTk {x : Int} (hx : 0 ≤ x) (hl : lenOK n r) : lenOK n (bnd r (gTk B n x)) := by
  cases r with
  | inr z => exact trivial
  | inl q =>
    obtain ⟨a, c⟩ := q
    have l1 : 0 ≤ a ∧ a ≤ n ∧ (c.length : Int) ≤ a := hl
    rw [bnd_l]
    unfold gTk
    split
    · rename_i z
      have g := sgn_go (B := B) (n := n) (a := a) (by omega)
      have te := tE_le (B := B) l1.2.1
      exact ⟨by show 0 ≤ tE B n a; omega, te, by show (c.length : Int) ≤ tE B n a; omega⟩
    · exact trivial
theorem g_pair {k : Nat} {can : Bool} {S : PT} {w : Int} (ho : (0 ≤ o ∧ o ≤ 5 ∧ can = true) ∨ (o = 6 ∧ can = false)) (hw : 0 ≤ w ∧ w ≤ 100) (hm : can = true → OKg B n s pu (m_gr k 4) [5, o + 1] S) (hS : can = true → Adv n S) (hc : ctG h B n s pu) (hl : lenOK n (.inl (a, c))) (hs : st0 h s B n (.inl (a, c))) (hK : ∀ h', st0 h' s B n (gPair B n can S w a c) → frG s h h' → K 0 h') : m_gr (k + 1) 7 [5, o, w] h K := by
  have hn := hc.1.2.2
  have l1 : 0 ≤ a ∧ a ≤ n ∧ (c.length : Int) ≤ a := hl
  rw [mgr_7]
  simp -implicitDefEqProofs only [↓dn_den, ↓dn_loc, ↓dn_k, ↓dn_add, ↓dn_sub, ↓dn_mul, ↓dn_div, ↓dn_rem, ↓dn_bop, ↓dn_ladd, ↓dn_lsub, ↓dn_lmul, ↓dn_ldiv, ↓dn_lrem, ↓dn_land, ↓dn_l2i, ↓dn_neg, ↓dn_get, ↓dn_fix, ↓dn_ald, ↓dn_gld, ↓dn_yld, ↓dn_len, ↓dn_gln, ↓dn_cc, ↓dn_cb, ↓dn_and, ↓dn_or, ↓dn_not, ↓dn_cite, ↓dn_ec, ↓dn_ei, ↓dn_skip, ↓dn_seq, ↓dn_set, ↓dn_inc, ↓dn_putf, ↓dn_putz, ↓dn_ast, ↓dn_exp, ↓dn_if, ↓dn_ret, ↓dn_retz, ↓dn_retv, ↓dn_brk, ↓dn_cont, ↓dn_cs, ↓dn_sw, ↓dn_pop32, ↓dn_pop64, ↓dn_aop, ↓dn_call, ↓dn_max, ↓dn_min, ↓dn_acp, ↓dn_i2l, ↓dn_args0, ↓dn_args1, og_pad, og_ent, og_rlt, og_rle, og_rgt, og_rge, og_req, og_rne, og_padd, og_psub, og_pmul, List.getD_cons_zero, List.getD_cons_succ, List.set_cons_zero, List.set_cons_succ, List.length_cons, List.length_nil, List.cons_append, List.nil_append, List.replicate, List.append_nil, Nat.reduceAdd, Nat.reduceSub, Nat.reduceEqDiff, if_true, if_false, reduceIte, Int.reduceAdd, Int.reduceSub, Int.reduceMul, Int.reduceNeg, Int.reduceLT, Int.reduceLE, Int.cast_ofNat_Int, true_or, or_true, true_and, and_true, false_and, List.mem_cons, List.not_mem_nil, or_false, false_or, ne_eq, og_i32]
  unfold gPair at hK
  refine g_isSign (by decide) hs ⟨fun z => ?_, fun z => ?_⟩
  · have z := iteP1 z
    rw [if_pos z] at hK
    have sg := sgn_go (B := B) (n := n) (a := a) (by omega)
    have te := tE_le (B := B) l1.2.1
    refine g_opens (by omega) hc hl hs (fun o6 h1 hs1 f1 => ?_) (fun o6 h1 hs1 f1 => ?_)
    · have hcan : can = true := ho.elim (fun q => q.2.2) (fun q => by omega)
      rw [if_pos hcan] at hK
      refine ⟨fun _ => ?_, fun q => absurd q (by decide)⟩
      have hl1 : lenOK n (.inl (tE B n a, c)) := ⟨by show 0 ≤ tE B n a; omega, te, by show (c.length : Int) ≤ tE B n a; omega⟩
      have hc1 := ctG_fr hc f1
      refine ⟨by omega, hm hcan h1 _ _ hc1 hs1 hl1 (fun h2 hs2 f2 => ?_)⟩
      have hl2 := len_bnd (hS hcan) hl1
      have hc2 := ctG_fr hc1 f2
      refine g_takeSign (by decide) h2 _ _ hc2 hs2 hl2 (fun h3 hs3 f3 => ?_)
      have hc3 := ctG_fr hc2 f3
      have hl3 : lenOK n (bnd (bnd (.inl (tE B n a, c)) S) (gTk B n 44)) := len_gTk (by decide) hl2
      refine ⟨by omega, hm hcan h3 _ _ hc3 hs3 hl3 (fun h4 hs4 f4 => ?_)⟩
      have hl4 := len_bnd (hS hcan) hl3
      have hc4 := ctG_fr hc3 f4
      refine g_takeSign (by decide) h4 _ _ hc4 hs4 hl4 (fun h5 hs5 f5 => ?_)
      have hc5 := ctG_fr hc4 f5
      have hl5 : lenOK n (bnd (bnd (bnd (bnd (.inl (tE B n a, c)) S) (gTk B n 44)) S) (gTk B n 41)) := len_gTk (by decide) hl4
      rw [hc5.2.1.1]
      exact g_add (by omega) hc.2.2 hn.2.1 hs5 hl5 (fun h6 hs6 f6 => hK h6 hs6 (frG_tr f1 (frG_tr f2 (frG_tr f3 (frG_tr f4 (frG_tr f5 f6))))))
    · have hcan : ¬ can = true := ho.elim (fun q => by omega) (fun q => by rw [q.2]; decide)
      rw [if_neg hcan] at hK
      exact ⟨fun q => absurd (by trivial) q, fun _ => hK h1 hs1 f1⟩
  · rw [if_neg (iteP0 z)] at hK
    exact g_fail (by decide) hc hl hs hK
theorem g_part {k : Nat} {can : Bool} {S Q : PT} (ho : (0 ≤ o ∧ o ≤ 5 ∧ can = true) ∨ (o = 6 ∧ can = false)) (hm : can = true → OKg B n s pu (m_gr k 4) [5, o + 1] S) (hS : can = true → Adv n S) (hq : can = true → OKg B n s pu (m_gr (k + 1) 6) [5, o + 1] Q) (hQ : can = true → Adv n Q) (hm2 : can = true → OKg B n s pu (m_gr (k + 1) 4) [5, o + 1] S) : OKg B n s pu (m_gr (k + 2) 6) [5, o] (gPart B n pu can S Q) := by
  intro h K r hc hs hl hK
  have hn := hc.1.2.2
  rw [mgr_6]
  simp -implicitDefEqProofs only [↓dn_den, ↓dn_loc, ↓dn_k, ↓dn_add, ↓dn_sub, ↓dn_mul, ↓dn_div, ↓dn_rem, ↓dn_bop, ↓dn_ladd, ↓dn_lsub, ↓dn_lmul, ↓dn_ldiv, ↓dn_lrem, ↓dn_land, ↓dn_l2i, ↓dn_neg, ↓dn_get, ↓dn_fix, ↓dn_ald, ↓dn_gld, ↓dn_yld, ↓dn_len, ↓dn_gln, ↓dn_cc, ↓dn_cb, ↓dn_and, ↓dn_or, ↓dn_not, ↓dn_cite, ↓dn_ec, ↓dn_ei, ↓dn_skip, ↓dn_seq, ↓dn_set, ↓dn_inc, ↓dn_putf, ↓dn_putz, ↓dn_ast, ↓dn_exp, ↓dn_if, ↓dn_ret, ↓dn_retz, ↓dn_retv, ↓dn_brk, ↓dn_cont, ↓dn_cs, ↓dn_sw, ↓dn_pop32, ↓dn_pop64, ↓dn_aop, ↓dn_call, ↓dn_max, ↓dn_min, ↓dn_acp, ↓dn_i2l, ↓dn_args0, ↓dn_args1, og_pad, og_ent, og_rlt, og_rle, og_rgt, og_rge, og_req, og_rne, og_padd, og_psub, og_pmul, List.getD_cons_zero, List.getD_cons_succ, List.set_cons_zero, List.set_cons_succ, List.length_cons, List.length_nil, List.cons_append, List.nil_append, List.replicate, List.append_nil, Nat.reduceAdd, Nat.reduceSub, Nat.reduceEqDiff, if_true, if_false, reduceIte, Int.reduceAdd, Int.reduceSub, Int.reduceMul, Int.reduceNeg, Int.reduceLT, Int.reduceLE, Int.cast_ofNat_Int, true_or, or_true, true_and, and_true, false_and, List.mem_cons, List.not_mem_nil, or_false, false_or, ne_eq, og_i32]
  cases r with
  | inr z =>
    have fin : K 0 h := hK h hs frG_rf
    have e2 := hs.1.2.2.2
    refine k_word ?_
    rw [if_neg (by omega)]
    refine k_isNumber ?_
    rw [if_neg (by omega)]
    refine ⟨fun q => absurd (by trivial) q, fun _ => g_isSignF hs ⟨fun q => absurd (by trivial) q, fun _ => ⟨fun q => absurd q (by decide), fun _ => ⟨fun q => absurd q (by decide), fun _ => ⟨fun q => absurd q (by decide), fun _ => ⟨fun q => absurd q (by decide), fun _ => g_isKnown hc ⟨fun q => ?_, fun _ => g_failF hs fin⟩⟩⟩⟩⟩⟩⟩
    have := ite10 q
    unfold gKn at this
    simp at this
  | inl q =>
    obtain ⟨a, c⟩ := q
    rw [bnd_l] at hK
    have l1 : 0 ≤ a ∧ a ≤ n ∧ (c.length : Int) ≤ a := hl
    have te := tE_le (B := B) l1.2.1
    have hl1 : a < tE B n a → lenOK n (.inl (tE B n a, c)) := fun z => ⟨by show 0 ≤ tE B n a; omega, te, by show (c.length : Int) ≤ tE B n a; omega⟩
    have t3 := hs.1.2.2.1
    have wr : (if h 3 2 = 1 then h 3 5 else -1) = wrd B n a := by
      unfold wrd
      rw [t3.1]
      by_cases z : tK B n a = 1
      · rw [if_pos z, if_pos z]; exact (hs.1.2.2.2.1 z).1
      · rw [if_neg z, if_neg z]
    have wrg : -1 ≤ wrd B n a ∧ wrd B n a ≤ 30 := by
      unfold wrd
      have := tW_rg B n a
      split <;> omega
    refine k_word ?_
    rw [wr]
    refine k_isNumber ?_
    rw [t3.1]
    unfold gPart at hK
    refine ⟨fun z => ?_, fun z => ?_⟩
    · have z := iteP1 z
      rw [if_pos z] at hK
      unfold gNum at hK
      have g := num_go z
      rw [hc.2.1.1]
      refine g_takeNum hc hl hs z (fun y h1 hs1 f1 => ?_) (fun y h1 hs1 f1 => ?_)
      · rw [if_neg y] at hK
        have := g_addN (v := tN B n a) hc.2.2 hn.2.1 hs1 (hl1 g.1) (K := K) (fun h2 hs2 f2 => hK h2 hs2 (frG_tr f1 f2))
        exact this
      · rw [if_pos y] at hK
        have := g_addN (v := 0) hc.2.2 hn.2.1 hs1 trivial (K := K) (fun h2 hs2 f2 => hK h2 hs2 (frG_tr f1 f2))
        exact this
    have z := iteP0 z
    rw [if_neg z] at hK
    refine g_isSign (by decide) hs ⟨fun y => ?_, fun y => ?_⟩
    · have y := iteP1 y
      rw [if_pos y] at hK
      have sg := sgn_go (B := B) (n := n) (a := a) (by omega)
      refine g_opens (by omega) hc hl hs (fun o6 h1 hs1 f1 => ?_) (fun o6 h1 hs1 f1 => ?_)
      · have hcan : can = true := ho.elim (fun q => q.2.2) (fun q => by omega)
        rw [if_pos hcan] at hK
        refine ⟨fun _ => ?_, fun q => absurd q (by decide)⟩
        have hc1 := ctG_fr hc f1
        refine ⟨by omega, hm2 hcan h1 _ _ hc1 hs1 (hl1 sg.1) (fun h2 hs2 f2 => ?_)⟩
        exact g_takeSign (by decide) h2 _ _ (ctG_fr hc1 f2) hs2 (len_bnd (hS hcan) (hl1 sg.1)) (fun h3 hs3 f3 => hK h3 hs3 (frG_tr f1 (frG_tr f2 f3)))
      · have hcan : ¬ can = true := ho.elim (fun q => by omega) (fun q => by rw [q.2]; decide)
        rw [if_neg hcan] at hK
        exact ⟨fun q => absurd (by trivial) q, fun _ => hK h1 hs1 f1⟩
    have y := iteP0 y
    rw [if_neg y] at hK
    refine (fun (bd : (wrd B n a = 23 ∨ wrd B n a = 24) → _) (nx : ¬ (wrd B n a = 23 ∨ wrd B n a = 24) → _) => ⟨fun q => bd (Or.inl q), fun q => ⟨fun q2 => bd (Or.inr q2), fun q2 => nx (fun x => x.elim q q2)⟩⟩) ?_ ?_
    · intro x
      rw [if_pos x] at hK
      have wg := wrd_go (B := B) (n := n) (a := a) (by omega)
      refine g_step hc hs (fun h1 hs1 f1 => ?_)
      exact g_pair ho (by omega) hm hS (ctG_fr hc f1) (hl1 wg.1) hs1 (fun h2 hs2 f2 => hK h2 hs2 (frG_tr f1 f2))
    intro x
    rw [if_neg x, ← hc.2.1.2] at hK
    refine (fun (bd : ((wrd B n a = 18 ∨ wrd B n a = 3) ∧ h 5 2 = 13) → _) (nx : ¬ ((wrd B n a = 18 ∨ wrd B n a = 3) ∧ h 5 2 = 13) → _) => ⟨fun q => ⟨fun q3 => bd ⟨Or.inl q, q3⟩, fun q3 => nx (fun v => q3 v.2)⟩, fun q => ⟨fun q2 => ⟨fun q3 => bd ⟨Or.inr q2, q3⟩, fun q3 => nx (fun v => q3 v.2)⟩, fun q2 => nx (fun v => v.1.elim q q2)⟩⟩) ?_ ?_
    · intro v
      rw [if_pos v] at hK
      have wg := wrd_go (B := B) (n := n) (a := a) (by omega)
      refine g_opens (by omega) hc hl hs (fun o6 h1 hs1 f1 => ?_) (fun o6 h1 hs1 f1 => ?_)
      · have hcan : can = true := ho.elim (fun q => q.2.2) (fun q => by omega)
        rw [if_pos hcan] at hK
        refine ⟨fun _ => ?_, fun q => absurd q (by decide)⟩
        have hc1 := ctG_fr hc f1
        refine ⟨by omega, hq hcan h1 _ _ hc1 hs1 (hl1 wg.1) (fun h2 hs2 f2 => ?_)⟩
        have hc2 := ctG_fr hc1 f2
        rw [hc2.2.1.1]
        exact g_add (by omega) hc.2.2 hn.2.1 hs2 (len_bnd (hQ hcan) (hl1 wg.1)) (fun h3 hs3 f3 => hK h3 hs3 (frG_tr f1 (frG_tr f2 f3)))
      · have hcan : ¬ can = true := ho.elim (fun q => by omega) (fun q => by rw [q.2]; decide)
        rw [if_neg hcan] at hK
        exact ⟨fun q => absurd (by trivial) q, fun _ => hK h1 hs1 f1⟩
    intro v
    rw [if_neg v, hc.2.1.2] at hK
    refine g_isKnown hc ⟨fun q => ?_, fun q => ?_⟩
    · have q := ite10 q
      rw [if_pos q] at hK
      have hw : 0 ≤ wrd B n a := by
        unfold gKn at q
        simp only [Bool.or_eq_true, Bool.and_eq_true, decide_eq_true_eq] at q
        omega
      have wg := wrd_go hw
      refine g_step hc hs (fun h1 hs1 f1 => ?_)
      rw [(ctG_fr hc f1).2.1.1]
      exact g_add (by omega) hc.2.2 hn.2.1 hs1 (hl1 wg.1) (fun h2 hs2 f2 => hK h2 hs2 (frG_tr f1 f2))
    · rw [if_neg (by rw [ite00 q]; decide)] at hK
      exact g_fail (by decide) hc hl hs hK
theorem g_fact {k : Nat} {can : Bool} {S T F : PT} (ho : (0 ≤ o ∧ o ≤ 5 ∧ can = true) ∨ (o = 6 ∧ can = false)) (hm : OKg B n s pu (m_gr k 4) [5, o] S) (hS : Adv n S) (ht : can = true → OKg B n s pu (m_gr (k + 1) 0) [5, o + 1] T) (hT : can = true → Adv n T) (hf : can = true → OKg B n s pu (m_gr (k + 1) 2) [5, o + 1] F) (hF : can = true → Adv n F) : OKg B n s pu (m_gr (k + 2) 2) [5, o] (gFact B n can S T F) := by
  intro h K r hc hs hl hK
  have hn := hc.1.2.2
  have hcm := g_cmp hm hS
  rw [mgr_2]
  simp -implicitDefEqProofs only [↓dn_den, ↓dn_loc, ↓dn_k, ↓dn_add, ↓dn_sub, ↓dn_mul, ↓dn_div, ↓dn_rem, ↓dn_bop, ↓dn_ladd, ↓dn_lsub, ↓dn_lmul, ↓dn_ldiv, ↓dn_lrem, ↓dn_land, ↓dn_l2i, ↓dn_neg, ↓dn_get, ↓dn_fix, ↓dn_ald, ↓dn_gld, ↓dn_yld, ↓dn_len, ↓dn_gln, ↓dn_cc, ↓dn_cb, ↓dn_and, ↓dn_or, ↓dn_not, ↓dn_cite, ↓dn_ec, ↓dn_ei, ↓dn_skip, ↓dn_seq, ↓dn_set, ↓dn_inc, ↓dn_putf, ↓dn_putz, ↓dn_ast, ↓dn_exp, ↓dn_if, ↓dn_ret, ↓dn_retz, ↓dn_retv, ↓dn_brk, ↓dn_cont, ↓dn_cs, ↓dn_sw, ↓dn_pop32, ↓dn_pop64, ↓dn_aop, ↓dn_call, ↓dn_max, ↓dn_min, ↓dn_acp, ↓dn_i2l, ↓dn_args0, ↓dn_args1, og_pad, og_ent, og_rlt, og_rle, og_rgt, og_rge, og_req, og_rne, og_padd, og_psub, og_pmul, List.getD_cons_zero, List.getD_cons_succ, List.set_cons_zero, List.set_cons_succ, List.length_cons, List.length_nil, List.cons_append, List.nil_append, List.replicate, List.append_nil, Nat.reduceAdd, Nat.reduceSub, Nat.reduceEqDiff, if_true, if_false, reduceIte, Int.reduceAdd, Int.reduceSub, Int.reduceMul, Int.reduceNeg, Int.reduceLT, Int.reduceLE, Int.cast_ofNat_Int, true_or, or_true, true_and, and_true, false_and, List.mem_cons, List.not_mem_nil, or_false, false_or, ne_eq, og_i32]
  cases r with
  | inr z =>
    refine g_isWordF hs ⟨fun q => absurd (by trivial) q, fun _ => g_isSignF hs ⟨fun q => absurd (by trivial) q, fun _ => g_isWordF hs ⟨fun q => absurd (by trivial) q, fun _ => ?_⟩⟩⟩
    exact hcm h _ (.inr z) hc hs hl hK
  | inl q =>
    obtain ⟨a, c⟩ := q
    rw [bnd_l] at hK
    have l1 : 0 ≤ a ∧ a ≤ n ∧ (c.length : Int) ≤ a := hl
    have te := tE_le (B := B) l1.2.1
    have hl1 : a < tE B n a → lenOK n (.inl (tE B n a, c)) := fun z => ⟨by show 0 ≤ tE B n a; omega, te, by show (c.length : Int) ≤ tE B n a; omega⟩
    unfold gFact at hK
    refine g_isWord (by decide) hs ⟨fun y => ?_, fun y => ?_⟩
    · have y := iteP1 y
      rw [if_pos y] at hK
      have wg := wrd_go (B := B) (n := n) (a := a) (by omega)
      refine g_opens (by omega) hc hl hs (fun o6 h1 hs1 f1 => ?_) (fun o6 h1 hs1 f1 => ?_)
      · have hcan : can = true := ho.elim (fun q => q.2.2) (fun q => by omega)
        rw [if_pos hcan] at hK
        refine ⟨fun _ => ?_, fun q => absurd q (by decide)⟩
        have hc1 := ctG_fr hc f1
        refine ⟨by omega, hf hcan h1 _ _ hc1 hs1 (hl1 wg.1) (fun h2 hs2 f2 => ?_)⟩
        have hc2 := ctG_fr hc1 f2
        rw [hc2.2.1.1]
        exact g_add (x := 21) (by decide) hc.2.2 hn.2.1 hs2 (len_bnd (hF hcan) (hl1 wg.1)) (fun h3 hs3 f3 => hK h3 hs3 (frG_tr f1 (frG_tr f2 f3)))
      · have hcan : ¬ can = true := ho.elim (fun q => by omega) (fun q => by rw [q.2]; decide)
        rw [if_neg hcan] at hK
        exact ⟨fun q => absurd (by trivial) q, fun _ => hK h1 hs1 f1⟩
    have y := iteP0 y
    rw [if_neg y] at hK
    refine g_isSign (by decide) hs ⟨fun x => ?_, fun x => ?_⟩
    · have x := iteP1 x
      rw [if_pos x] at hK
      have sg := sgn_go (B := B) (n := n) (a := a) (by omega)
      refine g_opens (by omega) hc hl hs (fun o6 h1 hs1 f1 => ?_) (fun o6 h1 hs1 f1 => ?_)
      · have hcan : can = true := ho.elim (fun q => q.2.2) (fun q => by omega)
        rw [if_pos hcan] at hK
        refine ⟨fun _ => ?_, fun q => absurd q (by decide)⟩
        have hc1 := ctG_fr hc f1
        refine ⟨by omega, ht hcan h1 _ _ hc1 hs1 (hl1 sg.1) (fun h2 hs2 f2 => ?_)⟩
        exact g_takeSign (by decide) h2 _ _ (ctG_fr hc1 f2) hs2 (len_bnd (hT hcan) (hl1 sg.1)) (fun h3 hs3 f3 => hK h3 hs3 (frG_tr f1 (frG_tr f2 f3)))
      · have hcan : ¬ can = true := ho.elim (fun q => by omega) (fun q => by rw [q.2]; decide)
        rw [if_neg hcan] at hK
        exact ⟨fun q => absurd (by trivial) q, fun _ => hK h1 hs1 f1⟩
    have x := iteP0 x
    rw [if_neg x] at hK
    refine g_isWord (by decide) hs ⟨fun v => ?_, fun v => ?_⟩
    · have v := iteP1 v
      rw [if_pos v] at hK
      have wg := wrd_go (B := B) (n := n) (a := a) (by omega)
      refine g_step hc hs (fun h1 hs1 f1 => ?_)
      rw [(ctG_fr hc f1).2.1.1]
      exact g_addN (v := 1) hc.2.2 hn.2.1 hs1 (hl1 wg.1) (fun h2 hs2 f2 => hK h2 hs2 (frG_tr f1 f2))
    · rw [if_neg (iteP0 v)] at hK
      exact hcm h _ (.inl (a, c)) hc hs hl hK
theorem g_P : ∀ (d k : Nat), d ≤ 6 → 4 * d + 2 ≤ k → OKg B n s pu (m_gr k 6) [5, 6 - (d : Int)] (gP B n pu d)
  | 0, k, hd, hk => by
    obtain ⟨k, rfl⟩ : ∃ j, k = j + 2 := ⟨k - 2, by omega⟩
    exact g_part (can := false) (Or.inr ⟨rfl, rfl⟩) (fun z => by cases z) (fun z => by cases z) (fun z => by cases z) (fun z => by cases z) (fun z => by cases z)
  | d + 1, k, hd, hk => by
    obtain ⟨k, rfl⟩ : ∃ j, k = j + 4 := ⟨k - 4, by omega⟩
    have eo : 6 - ((d + 1 : Nat) : Int) + 1 = 6 - (d : Int) := by omega
    have s1 := g_sum (g_P d k (by omega) (by omega)) (adv_gP d)
    have s2 := g_sum (g_P d (k + 1) (by omega) (by omega)) (adv_gP d)
    have q1 := g_P d (k + 3) (by omega) (by omega)
    rw [← eo] at s1 s2 q1
    exact g_part (k := k + 2) (can := true) (Or.inl ⟨by omega, by omega, rfl⟩) (fun _ => s1) (fun _ => adv_gSum (adv_gP d)) (fun _ => q1) (fun _ => adv_gP d) (fun _ => s2)
theorem g_S (d k : Nat) (hd : d ≤ 6) (hk : 4 * d + 4 ≤ k) : OKg B n s pu (m_gr k 4) [5, 6 - (d : Int)] (gS B n pu d) := by
  obtain ⟨k, rfl⟩ : ∃ j, k = j + 2 := ⟨k - 2, by omega⟩
  exact g_sum (g_P d k hd (by omega)) (adv_gP d)
theorem g_F : ∀ (d k : Nat), d ≤ 6 → 4 * d + 8 ≤ k → OKg B n s pu (m_gr k 2) [5, 6 - (d : Int)] (gF B n pu d)
  | 0, k, hd, hk => by
    obtain ⟨k, rfl⟩ : ∃ j, k = j + 2 := ⟨k - 2, by omega⟩
    exact g_fact (can := false) (Or.inr ⟨rfl, rfl⟩) (g_S 0 k (by omega) (by omega)) (adv_gS 0) (fun z => by cases z) (fun z => by cases z) (fun z => by cases z) (fun z => by cases z)
  | d + 1, k, hd, hk => by
    obtain ⟨k, rfl⟩ : ∃ j, k = j + 4 := ⟨k - 4, by omega⟩
    have eo : 6 - ((d + 1 : Nat) : Int) + 1 = 6 - (d : Int) := by omega
    have t1 := g_test (g_F d (k + 1) (by omega) (by omega)) (adv_gF d)
    have f1 := g_F d (k + 3) (by omega) (by omega)
    rw [← eo] at t1 f1
    exact g_fact (k := k + 2) (can := true) (Or.inl ⟨by omega, by omega, rfl⟩) (g_S (d + 1) (k + 2) hd (by omega)) (adv_gS (d + 1)) (fun _ => t1) (fun _ => adv_gTest (adv_gF d)) (fun _ => f1) (fun _ => adv_gF d)
theorem g_T (d k : Nat) (hd : d ≤ 6) (hk : 4 * d + 10 ≤ k) : OKg B n s pu (m_gr k 0) [5, 6 - (d : Int)] (gT B n pu d) := by
  obtain ⟨k, rfl⟩ : ∃ j, k = j + 2 := ⟨k - 2, by omega⟩
  exact g_test (g_F d k hd (by omega)) (adv_gF d)
theorem g_sumTop : OKg B n s pu m_Grammar_sum [5, 0] (gS B n pu 6) := g_S 6 80 (by omega) (by omega)
theorem g_testTop : OKg B n s pu m_Grammar_test [5, 0] (gT B n pu 6) := g_T 6 80 (by omega) (by omega)
end
end
