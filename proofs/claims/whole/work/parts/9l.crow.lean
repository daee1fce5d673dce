section
-- the class: a grave's or a person's row
def tkC (h : Hp) (B : Int → Int) (n : Int) (t : TS) : Prop := match t with
  | .inl a => tokC h B n a
  | .inr z => fltC h z.1 z.2
section
variable {h h0 h' : Hp} {B : Int → Int} {n a : Int} {t : TS} {K : Int → Hp → Prop} {D : Yd}
theorem tokC_fr (hk : tokC h B n a) (h3 : ∀ k, h' 3 k = h 3 k) : tokC h' B n a := by
  obtain ⟨t1, t2, t3, t4, t5, t6⟩ := hk
  exact ⟨t1, by rw [h3, h3]; exact t2, by rw [h3, h3, h3]; exact t3, by rw [h3, h3, h3]; exact t4, by rw [h3, h3]; exact t5, by rw [h3]; exact t6⟩
theorem tkC_fr (hk : tkC h B n t) (h3 : ∀ k, h' 3 k = h 3 k) : tkC h' B n t := by
  cases t with
  | inl a => exact tokC_fr hk h3
  | inr z =>
    obtain ⟨a, b, c, d⟩ := hk
    exact ⟨by rw [h3]; exact a, by rw [h3]; exact b, c, by rw [h3]; exact d⟩
theorem w_step (ht : txC h B n) (hk : tokC h B n a) (hK : ∀ h', tokC h' B n (tE B n a) → (∀ i k, i ≠ 3 → h' i k = h i k) → K 0 h') : m_Tokens_step [3] h K := by
  obtain ⟨t1, t2, t3, -⟩ := hk
  have te := tE_le (B := B) (n := n) (a := a) t1.2
  have tg := tE_ge B n a
  have ts := tS_sp B n a
  exact k_step (a := tE B n a) ht (by omega) t3.2.2 t2.1 t2.2 hK
theorem w_fail {k : Int} (hk0 : k ≠ 0) (hk : tokC h B n a) (hK : ∀ h', fltC h' k (tS B n a) → (∀ i k, i ≠ 3 → h' i k = h i k) → K 0 h') : m_Tokens_fail [3, k] h K :=
  k_fail hk0 hk.2.1.1 (fun h1 fl f => hK h1 (by rw [hk.2.2.1.2.1] at fl; exact fl) f)
theorem w_takeWord {w : Int} (hw : 0 ≤ w) (ht : txC h B n) (hk : tkC h B n t) (hK : ∀ h', tkC h' B n (tb B n t (pWrd B n w)) → (∀ i k, i ≠ 3 → h' i k = h i k) → K 0 h') : m_Tokens_takeWord [3, w] h K := by
  unfold m_Tokens_takeWord
  simp -implicitDefEqProofs only [↓dn_den, ↓dn_loc, ↓dn_k, ↓dn_add, ↓dn_sub, ↓dn_mul, ↓dn_div, ↓dn_rem, ↓dn_bop, ↓dn_ladd, ↓dn_lsub, ↓dn_lmul, ↓dn_ldiv, ↓dn_lrem, ↓dn_land, ↓dn_l2i, ↓dn_neg, ↓dn_get, ↓dn_fix, ↓dn_ald, ↓dn_gld, ↓dn_yld, ↓dn_len, ↓dn_gln, ↓dn_cc, ↓dn_cb, ↓dn_and, ↓dn_or, ↓dn_not, ↓dn_cite, ↓dn_ec, ↓dn_ei, ↓dn_skip, ↓dn_seq, ↓dn_set, ↓dn_inc, ↓dn_putf, ↓dn_putz, ↓dn_ast, ↓dn_exp, ↓dn_if, ↓dn_ret, ↓dn_retz, ↓dn_retv, ↓dn_brk, ↓dn_cont, ↓dn_cs, ↓dn_sw, ↓dn_pop32, ↓dn_pop64, ↓dn_aop, ↓dn_call, ↓dn_max, ↓dn_min, ↓dn_acp, ↓dn_i2l, ↓dn_args0, ↓dn_args1, og_pad, og_ent, og_rlt, og_rle, og_rgt, og_rge, og_req, og_rne, og_padd, og_psub, og_pmul, List.getD_cons_zero, List.getD_cons_succ, List.set_cons_zero, List.set_cons_succ, List.length_cons, List.length_nil, List.cons_append, List.nil_append, List.replicate, List.append_nil, Nat.reduceAdd, Nat.reduceSub, Nat.reduceEqDiff, if_true, if_false, reduceIte, Int.reduceAdd, Int.reduceSub, Int.reduceMul, Int.reduceNeg, Int.reduceLT, Int.reduceLE, Int.cast_ofNat_Int, true_or, or_true, true_and, and_true, false_and, List.mem_cons, List.not_mem_nil, or_false, false_or, ne_eq]
  refine k_isWord ?_
  cases t with
  | inr z =>
    obtain ⟨z1, z2, z3, z4⟩ := hk
    rw [if_neg (by rw [z4]; omega)]
    refine ⟨fun q => absurd (by trivial) q, fun _ => k_failF (by rw [z1]; exact z3) (hK h ⟨z1, z2, z3, z4⟩ (fun _ _ _ => rfl))⟩
  | inl a =>
    have hi := wd_iff (B := B) (n := n) (a := a) hw hk
    unfold tb pWrd at hK
    dsimp only at hK
    by_cases q : wrd B n a = w
    · rw [if_pos (hi.mpr q)]
      rw [if_pos q] at hK
      exact ⟨fun _ => w_step ht hk hK, fun z => absurd z (by decide)⟩
    · rw [if_neg (fun z => q (hi.mp z))]
      rw [if_neg q] at hK
      exact ⟨fun z => absurd (by trivial) z, fun _ => w_fail (by decide) hk hK⟩
theorem w_takeNum {l m : Int} (ht : txC h B n) (hk : tkC h B n t) (hK : ∀ v h', (∀ a, t = .inl a → pNum B n l m a = none → v = tN B n a) → tkC h' B n (tb B n t (pNum B n l m)) → (∀ i k, i ≠ 3 → h' i k = h i k) → K v h') : m_Tokens_takeNumber [3, l, m] h K := by
  unfold m_Tokens_takeNumber
  simp -implicitDefEqProofs only [↓dn_den, ↓dn_loc, ↓dn_k, ↓dn_add, ↓dn_sub, ↓dn_mul, ↓dn_div, ↓dn_rem, ↓dn_bop, ↓dn_ladd, ↓dn_lsub, ↓dn_lmul, ↓dn_ldiv, ↓dn_lrem, ↓dn_land, ↓dn_l2i, ↓dn_neg, ↓dn_get, ↓dn_fix, ↓dn_ald, ↓dn_gld, ↓dn_yld, ↓dn_len, ↓dn_gln, ↓dn_cc, ↓dn_cb, ↓dn_and, ↓dn_or, ↓dn_not, ↓dn_cite, ↓dn_ec, ↓dn_ei, ↓dn_skip, ↓dn_seq, ↓dn_set, ↓dn_inc, ↓dn_putf, ↓dn_putz, ↓dn_ast, ↓dn_exp, ↓dn_if, ↓dn_ret, ↓dn_retz, ↓dn_retv, ↓dn_brk, ↓dn_cont, ↓dn_cs, ↓dn_sw, ↓dn_pop32, ↓dn_pop64, ↓dn_aop, ↓dn_call, ↓dn_max, ↓dn_min, ↓dn_acp, ↓dn_i2l, ↓dn_args0, ↓dn_args1, og_pad, og_ent, og_rlt, og_rle, og_rgt, og_rge, og_req, og_rne, og_padd, og_psub, og_pmul, List.getD_cons_zero, List.getD_cons_succ, List.set_cons_zero, List.set_cons_succ, List.length_cons, List.length_nil, List.cons_append, List.nil_append, List.replicate, List.append_nil, Nat.reduceAdd, Nat.reduceSub, Nat.reduceEqDiff, if_true, if_false, reduceIte, Int.reduceAdd, Int.reduceSub, Int.reduceMul, Int.reduceNeg, Int.reduceLT, Int.reduceLE, Int.cast_ofNat_Int, true_or, or_true, true_and, and_true, false_and, List.mem_cons, List.not_mem_nil, or_false, false_or, ne_eq]
  refine ⟨fun e1 h1 => (∃ x, e1 = [3, l, m, x]) ∧ (∀ a, t = .inl a → pNum B n l m a ≠ none) ∧ tkC h1 B n (tb B n t (pNum B n l m)) ∧ (∀ i k, i ≠ 3 → h1 i k = h i k), ?_, ?_⟩
  · simp -implicitDefEqProofs only [↓dn_den, ↓dn_loc, ↓dn_k, ↓dn_add, ↓dn_sub, ↓dn_mul, ↓dn_div, ↓dn_rem, ↓dn_bop, ↓dn_ladd, ↓dn_lsub, ↓dn_lmul, ↓dn_ldiv, ↓dn_lrem, ↓dn_land, ↓dn_l2i, ↓dn_neg, ↓dn_get, ↓dn_fix, ↓dn_ald, ↓dn_gld, ↓dn_yld, ↓dn_len, ↓dn_gln, ↓dn_cc, ↓dn_cb, ↓dn_and, ↓dn_or, ↓dn_not, ↓dn_cite, ↓dn_ec, ↓dn_ei, ↓dn_skip, ↓dn_seq, ↓dn_set, ↓dn_inc, ↓dn_putf, ↓dn_putz, ↓dn_ast, ↓dn_exp, ↓dn_if, ↓dn_ret, ↓dn_retz, ↓dn_retv, ↓dn_brk, ↓dn_cont, ↓dn_cs, ↓dn_sw, ↓dn_pop32, ↓dn_pop64, ↓dn_aop, ↓dn_call, ↓dn_max, ↓dn_min, ↓dn_acp, ↓dn_i2l, ↓dn_args0, ↓dn_args1, og_pad, og_ent, og_rlt, og_rle, og_rgt, og_rge, og_req, og_rne, og_padd, og_psub, og_pmul, List.getD_cons_zero, List.getD_cons_succ, List.set_cons_zero, List.set_cons_succ, List.length_cons, List.length_nil, List.cons_append, List.nil_append, List.replicate, List.append_nil, Nat.reduceAdd, Nat.reduceSub, Nat.reduceEqDiff, if_true, if_false, reduceIte, Int.reduceAdd, Int.reduceSub, Int.reduceMul, Int.reduceNeg, Int.reduceLT, Int.reduceLE, Int.cast_ofNat_Int, true_or, or_true, true_and, and_true, false_and, List.mem_cons, List.not_mem_nil, or_false, false_or, ne_eq, og_i32]
    cases t with
    | inr z =>
      obtain ⟨z1, z2, z3, z4⟩ := hk
      refine ⟨fun _ => k_failF (by rw [z1]; exact z3) ⟨⟨_, rfl⟩, (fun a q => by cases q), ⟨z1, z2, z3, z4⟩, fun _ _ _ => rfl⟩, fun q => absurd (by rw [z4]; decide) q⟩
    | inl a =>
      have hk' : tokC h B n a := hk
      obtain ⟨t1, t2, t3, t4, t5, t6⟩ := hk'
      have te := tE_le (B := B) (n := n) (a := a) t1.2
      have tg := tE_ge B n a
      have ts := tS_sp B n a
      have hn := ht.2.2
      have inv : ∀ z, pNum B n l m a = some z → ∀ a', (.inl a : TS) = .inl a' → pNum B n l m a' ≠ none := fun z e a' q => by
        rw [← Sum.inl.inj q, e]; exact fun z => by cases z
      have tbv : ∀ z, pNum B n l m a = some z → tb B n (.inl a) (pNum B n l m) = .inr z := fun z e => by unfold tb; dsimp only; rw [e]
      rw [t3.1]
      refine ⟨fun q => ?_, fun q => ?_⟩
      · have e : pNum B n l m a = some (1, tS B n a) := by unfold pNum; rw [if_neg q]
        refine w_fail (by decide) hk (fun h1 l1 f1 => ⟨⟨_, rfl⟩, inv _ e, ?_, f1⟩)
        rw [tbv _ e]; exact l1
      · have q : tK B n a = 2 := by simpa using q
        have t5 := t5 q
        rw [t5.2, t3.2.1]
        refine ⟨fun p => ?_, fun p => ?_⟩
        · have e : pNum B n l m a = some (1, tS B n a + 4) := by unfold pNum; rw [if_pos q, if_pos p]
          refine ⟨by omega, k_failAt (by decide) t2.1 (fun h1 l1 f1 => ⟨⟨_, rfl⟩, inv _ e, ?_, f1⟩)⟩
          rw [tbv _ e]; exact l1
        · rw [t5.1]
          have bad : ¬ (l ≤ tN B n a ∧ tN B n a ≤ m) → m_Tokens_fail [3, 2] h (fun _ h' => (∃ x, [3, l, m, tN B n a] = [3, l, m, x]) ∧ (∀ a', (.inl a : TS) = .inl a' → pNum B n l m a' ≠ none) ∧ tkC h' B n (tb B n (.inl a) (pNum B n l m)) ∧ (∀ i k, i ≠ 3 → h' i k = h i k)) := fun r => by
            have e : pNum B n l m a = some (2, tS B n a) := by unfold pNum; rw [if_pos q, if_neg p, if_neg r]
            refine w_fail (by decide) hk (fun h1 l1 f1 => ⟨⟨_, rfl⟩, inv _ e, ?_, f1⟩)
            rw [tbv _ e]; exact l1
          refine ⟨fun r => bad (by omega), fun r => ⟨fun r2 => bad (by omega), fun r2 => ?_⟩⟩
          have e : pNum B n l m a = none := by unfold pNum; rw [if_pos q, if_neg p, if_pos (by omega)]
          refine w_step ht hk (fun h1 k1 f1 => hK _ h1 (fun a' q' _ => by rw [← Sum.inl.inj q']) ?_ f1)
          unfold tb
          dsimp only
          rw [e]; exact k1
  · rintro e1 h1 ⟨⟨x, rfl⟩, p1, p2, p3⟩
    simp -implicitDefEqProofs only [↓dn_den, ↓dn_loc, ↓dn_k, ↓dn_add, ↓dn_sub, ↓dn_mul, ↓dn_div, ↓dn_rem, ↓dn_bop, ↓dn_ladd, ↓dn_lsub, ↓dn_lmul, ↓dn_ldiv, ↓dn_lrem, ↓dn_land, ↓dn_l2i, ↓dn_neg, ↓dn_get, ↓dn_fix, ↓dn_ald, ↓dn_gld, ↓dn_yld, ↓dn_len, ↓dn_gln, ↓dn_cc, ↓dn_cb, ↓dn_and, ↓dn_or, ↓dn_not, ↓dn_cite, ↓dn_ec, ↓dn_ei, ↓dn_skip, ↓dn_seq, ↓dn_set, ↓dn_inc, ↓dn_putf, ↓dn_putz, ↓dn_ast, ↓dn_exp, ↓dn_if, ↓dn_ret, ↓dn_retz, ↓dn_retv, ↓dn_brk, ↓dn_cont, ↓dn_cs, ↓dn_sw, ↓dn_pop32, ↓dn_pop64, ↓dn_aop, ↓dn_call, ↓dn_max, ↓dn_min, ↓dn_acp, ↓dn_i2l, ↓dn_args0, ↓dn_args1, og_pad, og_ent, og_rlt, og_rle, og_rgt, og_rge, og_req, og_rne, og_padd, og_psub, og_pmul, List.getD_cons_zero, List.getD_cons_succ, List.set_cons_zero, List.set_cons_succ, List.length_cons, List.length_nil, List.cons_append, List.nil_append, List.replicate, List.append_nil, Nat.reduceAdd, Nat.reduceSub, Nat.reduceEqDiff, if_true, if_false, reduceIte, Int.reduceAdd, Int.reduceSub, Int.reduceMul, Int.reduceNeg, Int.reduceLT, Int.reduceLE, Int.cast_ofNat_Int, true_or, or_true, true_and, and_true, false_and, List.mem_cons, List.not_mem_nil, or_false, false_or, ne_eq]
    exact hK l h1 (fun a e q => absurd q (p1 a e)) p2 p3
theorem w_tail {w1 l1 m1 w2 l2 m2 w3 l3 m3 i1 i2 i3 g G : Int} {K' : Int → Hp → Prop} (hw : 0 ≤ w1 ∧ 0 ≤ w2 ∧ 0 ≤ w3) (hg : 0 ≤ g ∧ g < G) (hi : (100 ≤ i1 ∧ 100 ≤ i2 ∧ 100 ≤ i3) ∧ i1 ≠ i2 ∧ i1 ≠ i3 ∧ i2 ≠ i3) (ht : txC h B n) (hk : tkC h B n t)
    (hK : ∀ x h7 h', h' = og_up h7 i3 g x → tkC h' B n (tb B n (tb B n (tb B n (tb B n (tb B n (tb B n t (pWrd B n w1)) (pNum B n l1 m1)) (pWrd B n w2)) (pNum B n l2 m2)) (pWrd B n w3)) (pNum B n l3 m3)) → (∀ b, tb B n (tb B n (tb B n (tb B n (tb B n (tb B n t (pWrd B n w1)) (pNum B n l1 m1)) (pWrd B n w2)) (pNum B n l2 m2)) (pWrd B n w3)) (pNum B n l3 m3) = .inl b → ∃ a, t = .inl a ∧ h' i1 g = tN B n (tI B n a 1) ∧ h' i2 g = tN B n (tI B n a 3) ∧ h' i3 g = tN B n (tI B n a 5)) → (∀ i k, i ≠ 3 → ¬ ((i = i1 ∨ i = i2 ∨ i = i3) ∧ k = g) → h' i k = h i k) → K' x h7) :
    m_Tokens_takeWord [3, w1] h (fun _ h2 => m_Tokens_takeNumber [3, l1, m1] h2 (fun x h3 => 0 ≤ g ∧ g < G ∧ m_Tokens_takeWord [3, w2] (og_up h3 i1 g x) (fun _ h4 => m_Tokens_takeNumber [3, l2, m2] h4 (fun x h5 => 0 ≤ g ∧ g < G ∧ m_Tokens_takeWord [3, w3] (og_up h5 i2 g x) (fun _ h6 => m_Tokens_takeNumber [3, l3, m3] h6 (fun x h7 => 0 ≤ g ∧ g < G ∧ K' x h7)))))) := by
  refine w_takeWord hw.1 ht hk (fun h2 k2 f2 => ?_)
  have t2 := txC_fr ht (fun i k hi => f2 i k (by omega))
  refine w_takeNum t2 k2 (fun x3 h3 v3 k3 f3 => ⟨hg.1, hg.2, ?_⟩)
  have u3 : ∀ i k, ¬ (i = i1 ∧ k = g) → og_up h3 i1 g x3 i k = h3 i k := fun i k q => by unfold og_up; exact if_neg q
  have e3 : og_up h3 i1 g x3 i1 g = x3 := og_up_eq
  generalize og_up h3 i1 g x3 = g3 at u3 e3
  have F3 : ∀ i k, i ≠ 3 → ¬ (i = i1 ∧ k = g) → g3 i k = h i k := fun i k p q => by rw [u3 i k q, f3 i k p, f2 i k p]
  refine w_takeWord hw.2.1 (txC_fr ht (fun i k hi => F3 i k (by omega) (by omega))) (tkC_fr k3 (fun k => u3 _ _ (by omega))) (fun h4 k4 f4 => ?_)
  have F4 : ∀ i k, i ≠ 3 → ¬ (i = i1 ∧ k = g) → h4 i k = h i k := fun i k p q => (f4 i k p).trans (F3 i k p q)
  refine w_takeNum (txC_fr ht (fun i k hi => F4 i k (by omega) (by omega))) k4 (fun x5 h5 v5 k5 f5 => ⟨hg.1, hg.2, ?_⟩)
  have u5 : ∀ i k, ¬ (i = i2 ∧ k = g) → og_up h5 i2 g x5 i k = h5 i k := fun i k q => by unfold og_up; exact if_neg q
  have e5 : og_up h5 i2 g x5 i2 g = x5 := og_up_eq
  generalize og_up h5 i2 g x5 = g5 at u5 e5
  have F5 : ∀ i k, i ≠ 3 → ¬ ((i = i1 ∨ i = i2) ∧ k = g) → g5 i k = h i k := fun i k p q => by rw [u5 i k (by omega), f5 i k p, F4 i k p (by omega)]
  have e51 : g5 i1 g = x3 := by rw [u5 _ _ (by omega), f5 _ _ (by omega), f4 _ _ (by omega)]; exact e3
  refine w_takeWord hw.2.2 (txC_fr ht (fun i k hi => F5 i k (by omega) (by omega))) (tkC_fr k5 (fun k => u5 _ _ (by omega))) (fun h6 k6 f6 => ?_)
  have F6 : ∀ i k, i ≠ 3 → ¬ ((i = i1 ∨ i = i2) ∧ k = g) → h6 i k = h i k := fun i k p q => (f6 i k p).trans (F5 i k p q)
  refine w_takeNum (txC_fr ht (fun i k hi => F6 i k (by omega) (by omega))) k6 (fun x7 h7 v7 k7 f7 => ⟨hg.1, hg.2, ?_⟩)
  have u7 : ∀ i k, ¬ (i = i3 ∧ k = g) → og_up h7 i3 g x7 i k = h7 i k := fun i k q => by unfold og_up; exact if_neg q
  have e7 : og_up h7 i3 g x7 i3 g = x7 := og_up_eq
  generalize eg : og_up h7 i3 g x7 = g7 at u7 e7
  refine hK x7 h7 g7 eg.symm (tkC_fr k7 (fun k => u7 _ _ (by omega))) (fun b hb => ?_) (fun i k p q => by rw [u7 i k (by omega), f7 i k p, F6 i k p (by omega)])
  obtain ⟨a6, q6, p6, -⟩ := tb_l hb
  obtain ⟨a5, q5, p5, r5⟩ := tb_l q6
  obtain ⟨a4, q4, p4, r4⟩ := tb_l q5
  obtain ⟨a3, q3, p3, r3⟩ := tb_l q4
  obtain ⟨a2, q2, p2, r2⟩ := tb_l q3
  obtain ⟨a1, q1, p1, r1⟩ := tb_l q2
  refine ⟨a1, q1, ?_, ?_, ?_⟩
  · rw [u7 _ _ (by omega), f7 _ _ (by omega), f6 _ _ (by omega), e51, v3 a2 q2 p2, r1]; rfl
  · rw [u7 _ _ (by omega), f7 _ _ (by omega), f6 _ _ (by omega), e5, v5 a4 q4 p4, r3, r2, r1]; rfl
  · rw [e7, v7 a6 q6 p6, r5, r4, r3, r2, r1]; rfl
/-- names as the class keeps them -/
def nmC (h : Hp) (p : Int) (D : Yd) : Prop := (h (p + 90) 0 = D 0 0 ∧ h (p + 90) 1 = D 0 1) ∧ (0 ≤ D 0 0 ∧ D 0 0 ≤ 6 ∧ 0 ≤ D 0 1 ∧ D 0 1 ≤ 8) ∧ (∀ j, (0 ≤ j ∧ j < D 0 0) ∨ (6 ≤ j ∧ j < 6 + D 0 1) → h (p + 1) j = nPad (D 10 j) ∧ okNm (D 10 j))
theorem w_isThere {p x v : Int} (hn : nmC h p D) (hx : x = nPad v) (hv : okNm v) (hK : K (if thB D v = true then 1 else 0) h) : m_Parish_isThere [p, x] h K := by
  obtain ⟨⟨d0, d1⟩, ⟨g0, g1, g2, g3⟩, nm⟩ := hn
  have ti := thB_iff (D := D) (v := v) g0 g2
  have yes : (∃ j, ((0 ≤ j ∧ j < D 0 0) ∨ (6 ≤ j ∧ j < 6 + D 0 1)) ∧ h (p + 1) j = x) → K 1 h := by
    rintro ⟨j, hj, e⟩
    rw [if_pos (ti.mpr ⟨j, hj, nPad_inj (nm j hj).2 hv (by rw [← (nm j hj).1, e, hx])⟩)] at hK
    exact hK
  have no : (∀ j, ((0 ≤ j ∧ j < D 0 0) ∨ (6 ≤ j ∧ j < 6 + D 0 1)) → ¬ h (p + 1) j = x) → K 0 h := by
    intro q
    rw [if_neg (fun z => by
      obtain ⟨j, hj, e⟩ := ti.mp z
      exact q j hj (by rw [(nm j hj).1, e, hx]))] at hK
    exact hK
  unfold m_Parish_isThere
  simp -implicitDefEqProofs only [↓dn_den, ↓dn_loc, ↓dn_k, ↓dn_add, ↓dn_sub, ↓dn_mul, ↓dn_div, ↓dn_rem, ↓dn_bop, ↓dn_ladd, ↓dn_lsub, ↓dn_lmul, ↓dn_ldiv, ↓dn_lrem, ↓dn_land, ↓dn_l2i, ↓dn_neg, ↓dn_get, ↓dn_fix, ↓dn_ald, ↓dn_gld, ↓dn_yld, ↓dn_len, ↓dn_gln, ↓dn_cc, ↓dn_cb, ↓dn_and, ↓dn_or, ↓dn_not, ↓dn_cite, ↓dn_ec, ↓dn_ei, ↓dn_skip, ↓dn_seq, ↓dn_set, ↓dn_inc, ↓dn_putf, ↓dn_putz, ↓dn_ast, ↓dn_exp, ↓dn_if, ↓dn_ret, ↓dn_retz, ↓dn_retv, ↓dn_brk, ↓dn_cont, ↓dn_cs, ↓dn_sw, ↓dn_pop32, ↓dn_pop64, ↓dn_aop, ↓dn_call, ↓dn_max, ↓dn_min, ↓dn_acp, ↓dn_i2l, ↓dn_args0, ↓dn_args1, og_pad, og_ent, og_rlt, og_rle, og_rgt, og_rge, og_req, og_rne, og_padd, og_psub, og_pmul, List.getD_cons_zero, List.getD_cons_succ, List.set_cons_zero, List.set_cons_succ, List.length_cons, List.length_nil, List.cons_append, List.nil_append, List.replicate, List.append_nil, Nat.reduceAdd, Nat.reduceSub, Nat.reduceEqDiff, if_true, if_false, reduceIte, Int.reduceAdd, Int.reduceSub, Int.reduceMul, Int.reduceNeg, Int.reduceLT, Int.reduceLE, Int.cast_ofNat_Int, true_or, or_true, true_and, and_true, false_and, List.mem_cons, List.not_mem_nil, or_false, false_or, ne_eq]
  refine ⟨fun e1 h1 => h1 = h ∧ ∃ f c3, e1 = [p, x, f, c3] ∧ ((f = 0 ∧ ∀ j, 0 ≤ j → j < D 0 0 → ¬ h (p + 1) j = x) ∨ (f = 1 ∧ ∃ j, ((0 ≤ j ∧ j < D 0 0) ∨ (6 ≤ j ∧ j < 6 + D 0 1)) ∧ h (p + 1) j = x)), ?_, ?_⟩
  · simp -implicitDefEqProofs only [↓dn_den, ↓dn_loc, ↓dn_k, ↓dn_add, ↓dn_sub, ↓dn_mul, ↓dn_div, ↓dn_rem, ↓dn_bop, ↓dn_ladd, ↓dn_lsub, ↓dn_lmul, ↓dn_ldiv, ↓dn_lrem, ↓dn_land, ↓dn_l2i, ↓dn_neg, ↓dn_get, ↓dn_fix, ↓dn_ald, ↓dn_gld, ↓dn_yld, ↓dn_len, ↓dn_gln, ↓dn_cc, ↓dn_cb, ↓dn_and, ↓dn_or, ↓dn_not, ↓dn_cite, ↓dn_ec, ↓dn_ei, ↓dn_skip, ↓dn_seq, ↓dn_set, ↓dn_inc, ↓dn_putf, ↓dn_putz, ↓dn_ast, ↓dn_exp, ↓dn_if, ↓dn_ret, ↓dn_retz, ↓dn_retv, ↓dn_brk, ↓dn_cont, ↓dn_cs, ↓dn_sw, ↓dn_pop32, ↓dn_pop64, ↓dn_aop, ↓dn_call, ↓dn_max, ↓dn_min, ↓dn_acp, ↓dn_i2l, ↓dn_args0, ↓dn_args1, og_pad, og_ent, og_rlt, og_rle, og_rgt, og_rge, og_req, og_rne, og_padd, og_psub, og_pmul, List.getD_cons_zero, List.getD_cons_succ, List.set_cons_zero, List.set_cons_succ, List.length_cons, List.length_nil, List.cons_append, List.nil_append, List.replicate, List.append_nil, Nat.reduceAdd, Nat.reduceSub, Nat.reduceEqDiff, if_true, if_false, reduceIte, Int.reduceAdd, Int.reduceSub, Int.reduceMul, Int.reduceNeg, Int.reduceLT, Int.reduceLE, Int.cast_ofNat_Int, true_or, or_true, true_and, and_true, false_and, List.mem_cons, List.not_mem_nil, or_false, false_or, ne_eq]
    refine og_loop (D 0 0).toNat (fun i e1 h1 => h1 = h ∧ ∃ f, e1 = [p, x, f, (i : Int)] ∧ ((f = 0 ∧ ∀ j, 0 ≤ j → j < (i : Int) → ¬ h (p + 1) j = x) ∨ (f = 1 ∧ ∃ j, ((0 ≤ j ∧ j < D 0 0) ∨ (6 ≤ j ∧ j < 6 + D 0 1)) ∧ h (p + 1) j = x))) ⟨rfl, 0, rfl, Or.inl ⟨rfl, fun j a b => by omega⟩⟩ ?_
    rintro i e1 h1 hi ⟨rfl, f, rfl, hf⟩
    simp -implicitDefEqProofs only [↓dn_den, ↓dn_loc, ↓dn_k, ↓dn_add, ↓dn_sub, ↓dn_mul, ↓dn_div, ↓dn_rem, ↓dn_bop, ↓dn_ladd, ↓dn_lsub, ↓dn_lmul, ↓dn_ldiv, ↓dn_lrem, ↓dn_land, ↓dn_l2i, ↓dn_neg, ↓dn_get, ↓dn_fix, ↓dn_ald, ↓dn_gld, ↓dn_yld, ↓dn_len, ↓dn_gln, ↓dn_cc, ↓dn_cb, ↓dn_and, ↓dn_or, ↓dn_not, ↓dn_cite, ↓dn_ec, ↓dn_ei, ↓dn_skip, ↓dn_seq, ↓dn_set, ↓dn_inc, ↓dn_putf, ↓dn_putz, ↓dn_ast, ↓dn_exp, ↓dn_if, ↓dn_ret, ↓dn_retz, ↓dn_retv, ↓dn_brk, ↓dn_cont, ↓dn_cs, ↓dn_sw, ↓dn_pop32, ↓dn_pop64, ↓dn_aop, ↓dn_call, ↓dn_max, ↓dn_min, ↓dn_acp, ↓dn_i2l, ↓dn_args0, ↓dn_args1, og_pad, og_ent, og_rlt, og_rle, og_rgt, og_rge, og_req, og_rne, og_padd, og_psub, og_pmul, List.getD_cons_zero, List.getD_cons_succ, List.set_cons_zero, List.set_cons_succ, List.length_cons, List.length_nil, List.cons_append, List.nil_append, List.replicate, List.append_nil, Nat.reduceAdd, Nat.reduceSub, Nat.reduceEqDiff, if_true, if_false, reduceIte, Int.reduceAdd, Int.reduceSub, Int.reduceMul, Int.reduceNeg, Int.reduceLT, Int.reduceLE, Int.cast_ofNat_Int, true_or, or_true, true_and, and_true, false_and, List.mem_cons, List.not_mem_nil, or_false, false_or, ne_eq, og_i32]
    rw [d0]
    refine ⟨fun z => ⟨fun y => ?_, fun y => ?_⟩, fun z => ?_⟩
    · rcases hf with ⟨e, hf⟩ | ⟨e, hf⟩
      · exact absurd e y
      · first | exact ⟨rfl, f, _, rfl, Or.inr ⟨e, hf⟩⟩ | exact ⟨f, _, rfl, Or.inr ⟨e, hf⟩⟩
    · have y : f = 0 := by simpa using y
      rcases hf with ⟨e, hf⟩ | ⟨e, hf⟩
      · refine ⟨by omega, by omega, fun q => ⟨by omega, og_nx_mk (by omega) ⟨rfl, 1, by simp, Or.inr ⟨rfl, (i : Int), Or.inl ⟨by omega, by omega⟩, q⟩⟩⟩, fun q => ⟨by omega, og_nx_mk (by omega) ⟨rfl, 0, by simp, Or.inl ⟨rfl, fun j j0 j1 => ?_⟩⟩⟩⟩
        by_cases e2 : j = i
        · rw [e2]; exact q
        · exact hf j j0 (by omega)
      · omega
    · rcases hf with ⟨e, hf⟩ | ⟨e, hf⟩
      · first | exact ⟨rfl, f, _, rfl, Or.inl ⟨e, fun j j0 j1 => hf j j0 (by omega)⟩⟩ | exact ⟨f, _, rfl, Or.inl ⟨e, fun j j0 j1 => hf j j0 (by omega)⟩⟩
      · first | exact ⟨rfl, f, _, rfl, Or.inr ⟨e, hf⟩⟩ | exact ⟨f, _, rfl, Or.inr ⟨e, hf⟩⟩
  · rintro e1 h1 ⟨rfl, f, c3, rfl, hf⟩
    refine ⟨fun e2 h2 => h2 = h1 ∧ ∃ f c3, e2 = [p, x, f, c3] ∧ ((f = 0 ∧ ∀ j, ((0 ≤ j ∧ j < D 0 0) ∨ (6 ≤ j ∧ j < 6 + D 0 1)) → ¬ h1 (p + 1) j = x) ∨ (f = 1 ∧ ∃ j, ((0 ≤ j ∧ j < D 0 0) ∨ (6 ≤ j ∧ j < 6 + D 0 1)) ∧ h1 (p + 1) j = x)), ?_, ?_⟩
    · simp -implicitDefEqProofs only [↓dn_den, ↓dn_loc, ↓dn_k, ↓dn_add, ↓dn_sub, ↓dn_mul, ↓dn_div, ↓dn_rem, ↓dn_bop, ↓dn_ladd, ↓dn_lsub, ↓dn_lmul, ↓dn_ldiv, ↓dn_lrem, ↓dn_land, ↓dn_l2i, ↓dn_neg, ↓dn_get, ↓dn_fix, ↓dn_ald, ↓dn_gld, ↓dn_yld, ↓dn_len, ↓dn_gln, ↓dn_cc, ↓dn_cb, ↓dn_and, ↓dn_or, ↓dn_not, ↓dn_cite, ↓dn_ec, ↓dn_ei, ↓dn_skip, ↓dn_seq, ↓dn_set, ↓dn_inc, ↓dn_putf, ↓dn_putz, ↓dn_ast, ↓dn_exp, ↓dn_if, ↓dn_ret, ↓dn_retz, ↓dn_retv, ↓dn_brk, ↓dn_cont, ↓dn_cs, ↓dn_sw, ↓dn_pop32, ↓dn_pop64, ↓dn_aop, ↓dn_call, ↓dn_max, ↓dn_min, ↓dn_acp, ↓dn_i2l, ↓dn_args0, ↓dn_args1, og_pad, og_ent, og_rlt, og_rle, og_rgt, og_rge, og_req, og_rne, og_padd, og_psub, og_pmul, List.getD_cons_zero, List.getD_cons_succ, List.set_cons_zero, List.set_cons_succ, List.length_cons, List.length_nil, List.cons_append, List.nil_append, List.replicate, List.append_nil, Nat.reduceAdd, Nat.reduceSub, Nat.reduceEqDiff, if_true, if_false, reduceIte, Int.reduceAdd, Int.reduceSub, Int.reduceMul, Int.reduceNeg, Int.reduceLT, Int.reduceLE, Int.cast_ofNat_Int, true_or, or_true, true_and, and_true, false_and, List.mem_cons, List.not_mem_nil, or_false, false_or, ne_eq]
      refine og_loop (D 0 1).toNat (fun i e1 h2 => h2 = h1 ∧ ∃ f, e1 = [p, x, f, (i : Int)] ∧ ((f = 0 ∧ ∀ j, ((0 ≤ j ∧ j < D 0 0) ∨ (6 ≤ j ∧ j < 6 + (i : Int))) → ¬ h1 (p + 1) j = x) ∨ (f = 1 ∧ ∃ j, ((0 ≤ j ∧ j < D 0 0) ∨ (6 ≤ j ∧ j < 6 + D 0 1)) ∧ h1 (p + 1) j = x))) ⟨rfl, f, rfl, hf.elim (fun q => Or.inl ⟨q.1, fun j hj => q.2 j (by omega) (by omega)⟩) Or.inr⟩ ?_
      clear hf
      rintro i e1 h2 hi ⟨rfl, f, rfl, hf⟩
      simp -implicitDefEqProofs only [↓dn_den, ↓dn_loc, ↓dn_k, ↓dn_add, ↓dn_sub, ↓dn_mul, ↓dn_div, ↓dn_rem, ↓dn_bop, ↓dn_ladd, ↓dn_lsub, ↓dn_lmul, ↓dn_ldiv, ↓dn_lrem, ↓dn_land, ↓dn_l2i, ↓dn_neg, ↓dn_get, ↓dn_fix, ↓dn_ald, ↓dn_gld, ↓dn_yld, ↓dn_len, ↓dn_gln, ↓dn_cc, ↓dn_cb, ↓dn_and, ↓dn_or, ↓dn_not, ↓dn_cite, ↓dn_ec, ↓dn_ei, ↓dn_skip, ↓dn_seq, ↓dn_set, ↓dn_inc, ↓dn_putf, ↓dn_putz, ↓dn_ast, ↓dn_exp, ↓dn_if, ↓dn_ret, ↓dn_retz, ↓dn_retv, ↓dn_brk, ↓dn_cont, ↓dn_cs, ↓dn_sw, ↓dn_pop32, ↓dn_pop64, ↓dn_aop, ↓dn_call, ↓dn_max, ↓dn_min, ↓dn_acp, ↓dn_i2l, ↓dn_args0, ↓dn_args1, og_pad, og_ent, og_rlt, og_rle, og_rgt, og_rge, og_req, og_rne, og_padd, og_psub, og_pmul, List.getD_cons_zero, List.getD_cons_succ, List.set_cons_zero, List.set_cons_succ, List.length_cons, List.length_nil, List.cons_append, List.nil_append, List.replicate, List.append_nil, Nat.reduceAdd, Nat.reduceSub, Nat.reduceEqDiff, if_true, if_false, reduceIte, Int.reduceAdd, Int.reduceSub, Int.reduceMul, Int.reduceNeg, Int.reduceLT, Int.reduceLE, Int.cast_ofNat_Int, true_or, or_true, true_and, and_true, false_and, List.mem_cons, List.not_mem_nil, or_false, false_or, ne_eq, og_i32]
      rw [d1]
      refine ⟨fun z => ⟨fun y => ?_, fun y => ?_⟩, fun z => ?_⟩
      · rcases hf with ⟨e, hf⟩ | ⟨e, hf⟩
        · exact absurd e y
        · first | exact ⟨rfl, f, _, rfl, Or.inr ⟨e, hf⟩⟩ | exact ⟨f, _, rfl, Or.inr ⟨e, hf⟩⟩
      · have y : f = 0 := by simpa using y
        rcases hf with ⟨e, hf⟩ | ⟨e, hf⟩
        · refine ⟨by omega, by omega, by omega, fun q => ⟨by omega, og_nx_mk (by omega) ⟨rfl, 1, by simp, Or.inr ⟨rfl, 6 + (i : Int), Or.inr ⟨by omega, by omega⟩, q⟩⟩⟩, fun q => ⟨by omega, og_nx_mk (by omega) ⟨rfl, 0, by simp, Or.inl ⟨rfl, fun j hj => ?_⟩⟩⟩⟩
          by_cases e2 : j = 6 + i
          · rw [e2]; exact q
          · exact hf j (by omega)
        · omega
      · rcases hf with ⟨e, hf⟩ | ⟨e, hf⟩
        · first | exact ⟨rfl, f, _, rfl, Or.inl ⟨e, fun j hj => hf j (by omega)⟩⟩ | exact ⟨f, _, rfl, Or.inl ⟨e, fun j hj => hf j (by omega)⟩⟩
        · first | exact ⟨rfl, f, _, rfl, Or.inr ⟨e, hf⟩⟩ | exact ⟨f, _, rfl, Or.inr ⟨e, hf⟩⟩
    · rintro e2 h2 ⟨rfl, f, c3, rfl, hf⟩
      simp -implicitDefEqProofs only [↓dn_den, ↓dn_loc, ↓dn_k, ↓dn_add, ↓dn_sub, ↓dn_mul, ↓dn_div, ↓dn_rem, ↓dn_bop, ↓dn_ladd, ↓dn_lsub, ↓dn_lmul, ↓dn_ldiv, ↓dn_lrem, ↓dn_land, ↓dn_l2i, ↓dn_neg, ↓dn_get, ↓dn_fix, ↓dn_ald, ↓dn_gld, ↓dn_yld, ↓dn_len, ↓dn_gln, ↓dn_cc, ↓dn_cb, ↓dn_and, ↓dn_or, ↓dn_not, ↓dn_cite, ↓dn_ec, ↓dn_ei, ↓dn_skip, ↓dn_seq, ↓dn_set, ↓dn_inc, ↓dn_putf, ↓dn_putz, ↓dn_ast, ↓dn_exp, ↓dn_if, ↓dn_ret, ↓dn_retz, ↓dn_retv, ↓dn_brk, ↓dn_cont, ↓dn_cs, ↓dn_sw, ↓dn_pop32, ↓dn_pop64, ↓dn_aop, ↓dn_call, ↓dn_max, ↓dn_min, ↓dn_acp, ↓dn_i2l, ↓dn_args0, ↓dn_args1, og_pad, og_ent, og_rlt, og_rle, og_rgt, og_rge, og_req, og_rne, og_padd, og_psub, og_pmul, List.getD_cons_zero, List.getD_cons_succ, List.set_cons_zero, List.set_cons_succ, List.length_cons, List.length_nil, List.cons_append, List.nil_append, List.replicate, List.append_nil, Nat.reduceAdd, Nat.reduceSub, Nat.reduceEqDiff, if_true, if_false, reduceIte, Int.reduceAdd, Int.reduceSub, Int.reduceMul, Int.reduceNeg, Int.reduceLT, Int.reduceLE, Int.cast_ofNat_Int, true_or, or_true, true_and, and_true, false_and, List.mem_cons, List.not_mem_nil, or_false, false_or, ne_eq]
      rcases hf with ⟨e, hf⟩ | ⟨e, hf⟩
      · rw [e]; exact ⟨by simp, no hf⟩
      · rw [e]; exact ⟨by simp, yes hf⟩
end
end
