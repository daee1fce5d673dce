section
-- the class: a parish's text whole, second part
def pCt (r : PQ) : Int := match r with
  | .inl q => q.1
  | .inr _ => -1
section
variable {h h0 h' : Hp} {B : Int → Int} {n a p s : Int} {t : TS} {K : Int → Hp → Prop} {D : Yd} {R : Pr} {c : List Int}
theorem pAll_s {k : Nat} {i : Int} {s : QS} : pAll B n (k + 1) i s = if tS B n s.1 < n then (match pSt B n s with
    | .inl s' => pAll B n k (i + 1) s'
    | .inr z => .inr z) else .inl (i, s.2) := rfl
theorem pAll_ok {i : Int} {q : QS} : ∀ (k : Nat) (i : Int) (s : QS), okD n s → pAll B n k i s = .inl q → (∃ a, okD n (a, q.2)) ∧ i ≤ q.1 ∧ q.1 ≤ i + k
  | 0, i, s, hd, h => by
    have e := Sum.inl.inj h
    subst e
    exact ⟨⟨s.1, hd⟩, Int.le_refl _, by simp⟩
  | k + 1, i, s, hd, h => by
    rw [pAll_s] at h
    by_cases q : tS B n s.1 < n
    · rw [if_pos q] at h
      cases e : pSt B n s with
      | inr z => rw [e] at h; cases h
      | inl s' =>
        rw [e] at h
        have r := pAll_ok (i := i) k (i + 1) s' (pSt_ok hd e).1 h
        exact ⟨r.1, by omega, by omega⟩
    · rw [if_neg q] at h
      have e := Sum.inl.inj h
      subst e
      exact ⟨⟨s.1, hd⟩, Int.le_refl _, by simp; omega⟩
theorem okD_0 (hn : 0 ≤ n) : okD n (0, (fun _ _ => 0), (fun _ => [])) := by
  refine ⟨⟨Int.le_refl _, hn⟩, ⟨by decide, fun k a b => ?_, fun k a b => ?_⟩, by decide, fun k a b => ?_, fun k a b => ?_, fun j hj => ?_, fun r _ _ => Or.inl rfl⟩
  · dsimp only at b; omega
  · dsimp only at b; omega
  · dsimp only at b; omega
  · dsimp only at b; omega
  · dsimp only at hj; omega
theorem w_ydclear {y : Int} (hK : ∀ h', (h' y 0 = 0 ∧ h' y 1 = 0 ∧ h' y 2 = 0 ∧ h' y 3 = 0) → (∀ i k, i ≠ y → h' i k = h i k) → K 0 h') : m_Yard_clear [y] h K := by
  unfold m_Yard_clear
  simp -implicitDefEqProofs only [↓dn_den, ↓dn_loc, ↓dn_k, ↓dn_add, ↓dn_sub, ↓dn_mul, ↓dn_div, ↓dn_rem, ↓dn_bop, ↓dn_ladd, ↓dn_lsub, ↓dn_lmul, ↓dn_ldiv, ↓dn_lrem, ↓dn_land, ↓dn_l2i, ↓dn_neg, ↓dn_get, ↓dn_fix, ↓dn_ald, ↓dn_gld, ↓dn_yld, ↓dn_len, ↓dn_gln, ↓dn_cc, ↓dn_cb, ↓dn_and, ↓dn_or, ↓dn_not, ↓dn_cite, ↓dn_ec, ↓dn_ei, ↓dn_skip, ↓dn_seq, ↓dn_set, ↓dn_inc, ↓dn_putf, ↓dn_putz, ↓dn_ast, ↓dn_exp, ↓dn_if, ↓dn_ret, ↓dn_retz, ↓dn_retv, ↓dn_brk, ↓dn_cont, ↓dn_cs, ↓dn_sw, ↓dn_pop32, ↓dn_pop64, ↓dn_aop, ↓dn_call, ↓dn_max, ↓dn_min, ↓dn_acp, ↓dn_i2l, ↓dn_args0, ↓dn_args1, og_pad, og_ent, og_rlt, og_rle, og_rgt, og_rge, og_req, og_rne, og_padd, og_psub, og_pmul, List.getD_cons_zero, List.getD_cons_succ, List.set_cons_zero, List.set_cons_succ, List.length_cons, List.length_nil, List.cons_append, List.nil_append, List.replicate, List.append_nil, Nat.reduceAdd, Nat.reduceSub, Nat.reduceEqDiff, if_true, if_false, reduceIte, Int.reduceAdd, Int.reduceSub, Int.reduceMul, Int.reduceNeg, Int.reduceLT, Int.reduceLE, Int.cast_ofNat_Int, true_or, or_true, true_and, and_true, false_and, List.mem_cons, List.not_mem_nil, or_false, false_or, ne_eq]
  refine hK _ ⟨?_, ?_, ?_, ?_⟩ (fun i k hi => by rw [og_up_i hi, og_up_i hi, og_up_i hi, og_up_i hi])
  · rw [og_up_k (by decide), og_up_k (by decide), og_up_k (by decide), og_up_eq]
  · rw [og_up_k (by decide), og_up_k (by decide), og_up_eq]
  · rw [og_up_k (by decide), og_up_eq]
  · rw [og_up_eq]
theorem tK_0 : tK B n a = 0 ↔ ¬ tS B n a < n := by
  constructor
  · intro e q
    unfold tK at e
    rw [if_pos q] at e
    repeat' split at e
    all_goals omega
  · intro q
    unfold tK
    rw [if_neg q]
theorem w_read (hp : p = 30 ∨ p = 40) (ht : txC h B n) (hK : ∀ h', (∀ z, pTx B n = .inr z → h' 3 7 = z.1 ∧ h' 3 8 = z.2 ∧ z.1 ≠ 0) → (∀ q, pTx B n = .inl q → (h' 3 7 = 0 ∧ h' 3 8 = -1) ∧ isY h' (p + 90) q.2.1 ∧ (∀ j, (0 ≤ j ∧ j < q.2.1 0 0) ∨ (6 ≤ j ∧ j < 6 + q.2.1 0 1) → h' (p + 1) j = nPad (q.2.1 10 j)) ∧ hasR h' (p + 2) (q.2.1 0 1) (fuP q.2.2)) → frH p h h' → K (pCt (pTx B n)) h') : m_Parish_read [p, 3, 5] h K := by
  have hn := ht.2.2
  unfold m_Parish_read
  simp -implicitDefEqProofs only [↓dn_den, ↓dn_loc, ↓dn_k, ↓dn_add, ↓dn_sub, ↓dn_mul, ↓dn_div, ↓dn_rem, ↓dn_bop, ↓dn_ladd, ↓dn_lsub, ↓dn_lmul, ↓dn_ldiv, ↓dn_lrem, ↓dn_land, ↓dn_l2i, ↓dn_neg, ↓dn_get, ↓dn_fix, ↓dn_ald, ↓dn_gld, ↓dn_yld, ↓dn_len, ↓dn_gln, ↓dn_cc, ↓dn_cb, ↓dn_and, ↓dn_or, ↓dn_not, ↓dn_cite, ↓dn_ec, ↓dn_ei, ↓dn_skip, ↓dn_seq, ↓dn_set, ↓dn_inc, ↓dn_putf, ↓dn_putz, ↓dn_ast, ↓dn_exp, ↓dn_if, ↓dn_ret, ↓dn_retz, ↓dn_retv, ↓dn_brk, ↓dn_cont, ↓dn_cs, ↓dn_sw, ↓dn_pop32, ↓dn_pop64, ↓dn_aop, ↓dn_call, ↓dn_max, ↓dn_min, ↓dn_acp, ↓dn_i2l, ↓dn_args0, ↓dn_args1, og_pad, og_ent, og_rlt, og_rle, og_rgt, og_rge, og_req, og_rne, og_padd, og_psub, og_pmul, List.getD_cons_zero, List.getD_cons_succ, List.set_cons_zero, List.set_cons_succ, List.length_cons, List.length_nil, List.cons_append, List.nil_append, List.replicate, List.append_nil, Nat.reduceAdd, Nat.reduceSub, Nat.reduceEqDiff, if_true, if_false, reduceIte, Int.reduceAdd, Int.reduceSub, Int.reduceMul, Int.reduceNeg, Int.reduceLT, Int.reduceLE, Int.cast_ofNat_Int, true_or, or_true, true_and, and_true, false_and, List.mem_cons, List.not_mem_nil, or_false, false_or, ne_eq]
  refine w_ydclear (fun h1 z1 f1 => w_clear (by omega) (fun h2 z2 z3 f2 => k_begin (B := B) (n := n) (txC_fr ht (fun i k hi => by rw [f2 i k (by omega) (by omega) (by omega), f1 i k (by omega)])) (fun h3 k3 f3 => ?_)))
  have F3 : frH p h h3 := fun i k p1 p2 p3 p4 => by rw [f3 i k p1, f2 i k (by omega) (by omega) (by omega), f1 i k (by omega)]
  have s3 : stP h3 p B n (.inl (0, (fun _ _ => 0), (fun _ => []))) := by
    refine ⟨k3, ⟨?_, fun k a b => ?_, fun k a b => ?_, fun k a b => ?_⟩, fun j hj => ?_, [], by simp, ⟨?_, fun j hj => ?_⟩, fun r r0 r1 => Or.inl ⟨rfl, ?_, ?_⟩⟩
    · dsimp only
      rw [f3 _ _ (by omega), f3 _ _ (by omega), f3 _ _ (by omega), f3 _ _ (by omega), f2 _ _ (by omega) (by omega) (by omega), f2 _ _ (by omega) (by omega) (by omega), f2 _ _ (by omega) (by omega) (by omega), f2 _ _ (by omega) (by omega) (by omega)]
      exact z1
    · dsimp only at b; omega
    · dsimp only at b; omega
    · dsimp only at b; omega
    · dsimp only at hj; omega
    · rw [f3 _ _ (by omega), z2]; rfl
    · exact absurd hj (by simp)
    · rw [f3 _ _ (by omega)]; exact (z3 r (by omega) (by omega)).1
    · rw [f3 _ _ (by omega)]; exact (z3 r (by omega) (by omega)).2
  refine ⟨fun e4 h4 => ∃ r x, e4 = [p, 3, 5, x] ∧ stP h4 p B n r ∧ frH p h h4 ∧ (∀ s, r = .inl s → okD n s ∧ pTx B n = .inl (x, s.2)) ∧ (∀ z, r = .inr z → pTx B n = .inr z), ?_, ?_⟩
  · refine og_loop 1600 (fun i e4 h4 => ∃ r, e4 = [p, 3, 5, (i : Int)] ∧ stP h4 p B n r ∧ frH p h h4 ∧ (∀ s, r = .inl s → okD n s ∧ (i : Int) ≤ s.1 ∧ pAll B n (1601 - i) i s = pTx B n) ∧ (∀ z, r = .inr z → pTx B n = .inr z)) ⟨.inl (0, (fun _ _ => 0), (fun _ => [])), rfl, s3, F3, fun s e => by
      have e := Sum.inl.inj e
      subst e
      exact ⟨okD_0 hn.1, Int.le_refl _, rfl⟩, fun z e => by cases e⟩ ?_
    rintro i e4 h4 hi ⟨r, rfl, s4, F4, g1, g2⟩
    simp -implicitDefEqProofs only [↓dn_den, ↓dn_loc, ↓dn_k, ↓dn_add, ↓dn_sub, ↓dn_mul, ↓dn_div, ↓dn_rem, ↓dn_bop, ↓dn_ladd, ↓dn_lsub, ↓dn_lmul, ↓dn_ldiv, ↓dn_lrem, ↓dn_land, ↓dn_l2i, ↓dn_neg, ↓dn_get, ↓dn_fix, ↓dn_ald, ↓dn_gld, ↓dn_yld, ↓dn_len, ↓dn_gln, ↓dn_cc, ↓dn_cb, ↓dn_and, ↓dn_or, ↓dn_not, ↓dn_cite, ↓dn_ec, ↓dn_ei, ↓dn_skip, ↓dn_seq, ↓dn_set, ↓dn_inc, ↓dn_putf, ↓dn_putz, ↓dn_ast, ↓dn_exp, ↓dn_if, ↓dn_ret, ↓dn_retz, ↓dn_retv, ↓dn_brk, ↓dn_cont, ↓dn_cs, ↓dn_sw, ↓dn_pop32, ↓dn_pop64, ↓dn_aop, ↓dn_call, ↓dn_max, ↓dn_min, ↓dn_acp, ↓dn_i2l, ↓dn_args0, ↓dn_args1, og_pad, og_ent, og_rlt, og_rle, og_rgt, og_rge, og_req, og_rne, og_padd, og_psub, og_pmul, List.getD_cons_zero, List.getD_cons_succ, List.set_cons_zero, List.set_cons_succ, List.length_cons, List.length_nil, List.cons_append, List.nil_append, List.replicate, List.append_nil, Nat.reduceAdd, Nat.reduceSub, Nat.reduceEqDiff, if_true, if_false, reduceIte, Int.reduceAdd, Int.reduceSub, Int.reduceMul, Int.reduceNeg, Int.reduceLT, Int.reduceLE, Int.cast_ofNat_Int, true_or, or_true, true_and, and_true, false_and, List.mem_cons, List.not_mem_nil, or_false, false_or, ne_eq, og_i32]
    have ht4 := txC_H hp ht F4
    have exit : (∀ s, r = .inl s → ¬ tS B n s.1 < n) → ∃ r x, [p, 3, 5, (i : Int)] = [p, 3, 5, x] ∧ stP h4 p B n r ∧ frH p h h4 ∧ (∀ s, r = .inl s → okD n s ∧ pTx B n = .inl (x, s.2)) ∧ (∀ z, r = .inr z → pTx B n = .inr z) := fun hq => by
      refine ⟨r, i, rfl, s4, F4, fun s e => ?_, g2⟩
      have g := g1 s e
      refine ⟨g.1, ?_⟩
      rw [← g.2.2, show 1601 - i = (1600 - i) + 1 by omega, pAll_s, if_neg (hq s e)]
    refine ⟨fun hlt => k_goesOn ?_, fun hge => exit (fun s e => ?_)⟩
    · cases r with
      | inr z =>
        obtain ⟨⟨a1, a2, a3, a4⟩, -⟩ := s4
        rw [if_neg (fun q => a3 (a1.symm.trans q.1))]
        exact ⟨fun q => absurd (by trivial) q, fun _ => exit (fun s e => by cases e)⟩
      | inl s =>
        have g := g1 s rfl
        have k4 := s4.1
        rw [k4.2.1.1, k4.2.2.1.1]
        by_cases q : tS B n s.1 < n
        · rw [if_pos ⟨rfl, fun z => tK_0.mp z q⟩]
          refine ⟨fun _ => ?_, fun z => absurd z (by decide)⟩
          obtain ⟨a, D, R⟩ := s
          refine w_readStatement hp ht4 s4 g.1 (fun h5 s5 f5 => ?_)
          have ht5 := txC_H hp ht4 f5
          have nxt : pAll B n (1601 - i) i (a, D, R) = (match pSt B n (a, D, R) with
            | .inl s' => pAll B n (1600 - i) (i + 1) s'
            | .inr z => .inr z) := by
            rw [show 1601 - i = (1600 - i) + 1 by omega, pAll_s, if_pos q]
          cases e1 : pSt1 B n a D R with
          | inr z =>
            rw [e1] at s5
            refine w_takeSign (t := .inr z) (by decide) ht5 s5.1 (fun h6 k6 f6 => ⟨by omega, og_nx_mk (by omega) ⟨.inr z, by simp, ⟨k6, by rw [f6 _ _ (by omega)]; exact s5.2⟩, frH_tr F4 (frH_tr f5 (frH_3 f6)), (fun s e => by cases e), fun z' e => ?_⟩⟩)
            have e := Sum.inr.inj e
            subst e
            rw [← g.2.2, nxt]
            have : pSt B n (a, D, R) = .inr z := by unfold pSt; dsimp only; rw [e1]; rfl
            rw [this]
          | inl s1 =>
            rw [e1] at s5
            have ok1 := pSt1_ok g.1 e1
            refine w_takeSign (t := .inl s1.1) (by decide) ht5 s5.1 (fun h6 k6 f6 => ⟨by omega, og_nx_mk (by omega) ⟨pSt B n (a, D, R), by simp, ?_, frH_tr F4 (frH_tr f5 (frH_3 f6)), fun s e => ?_, fun z' e => ?_⟩⟩)
            · have : pSt B n (a, D, R) = pEnd B n (.inl s1) := by unfold pSt; dsimp only; rw [e1]
              rw [this]
              unfold pEnd
              unfold tb pSg at k6
              dsimp only at k6 ⊢
              by_cases sg : sgn B n s1.1 = 59
              · rw [if_pos sg] at k6 ⊢
                have dr := drC_fr s5.2 (fun i k hi => f6 i k (by omega))
                obtain ⟨d1, d2, c, d3, d4⟩ := dr
                have te := sgn_go (B := B) (n := n) (a := s1.1) (by omega)
                exact ⟨k6, d1, d2, c, by show (c.length : Int) ≤ tE B n s1.1; omega, d4⟩
              · rw [if_neg sg] at k6 ⊢
                exact ⟨k6, by rw [f6 _ _ (by omega)]; exact drC_size s5.2 ok1.1 hn.2.1⟩
            · have ok := pSt_ok g.1 e
              refine ⟨ok.1, by have := ok.2; have := g.2.1; dsimp only at *; omega, ?_⟩
              rw [← g.2.2, nxt, e]
              rw [show 1601 - (i + 1) = 1600 - i by omega]
              simp
            · rw [← g.2.2, nxt, e]
        · rw [if_neg (fun z => z.2 (tK_0.mpr q))]
          exact ⟨fun q => absurd (by trivial) q, fun _ => exit (fun s' e => by rw [← Sum.inl.inj e]; exact q)⟩
    · have g := g1 s e
      have := g.1.1
      have ts := (tS_sp B n s.1).1
      omega
  · rintro e4 h4 ⟨r, x, rfl, s4, F4, g1, g2⟩
    simp -implicitDefEqProofs only [↓dn_den, ↓dn_loc, ↓dn_k, ↓dn_add, ↓dn_sub, ↓dn_mul, ↓dn_div, ↓dn_rem, ↓dn_bop, ↓dn_ladd, ↓dn_lsub, ↓dn_lmul, ↓dn_ldiv, ↓dn_lrem, ↓dn_land, ↓dn_l2i, ↓dn_neg, ↓dn_get, ↓dn_fix, ↓dn_ald, ↓dn_gld, ↓dn_yld, ↓dn_len, ↓dn_gln, ↓dn_cc, ↓dn_cb, ↓dn_and, ↓dn_or, ↓dn_not, ↓dn_cite, ↓dn_ec, ↓dn_ei, ↓dn_skip, ↓dn_seq, ↓dn_set, ↓dn_inc, ↓dn_putf, ↓dn_putz, ↓dn_ast, ↓dn_exp, ↓dn_if, ↓dn_ret, ↓dn_retz, ↓dn_retv, ↓dn_brk, ↓dn_cont, ↓dn_cs, ↓dn_sw, ↓dn_pop32, ↓dn_pop64, ↓dn_aop, ↓dn_call, ↓dn_max, ↓dn_min, ↓dn_acp, ↓dn_i2l, ↓dn_args0, ↓dn_args1, og_pad, og_ent, og_rlt, og_rle, og_rgt, og_rge, og_req, og_rne, og_padd, og_psub, og_pmul, List.getD_cons_zero, List.getD_cons_succ, List.set_cons_zero, List.set_cons_succ, List.length_cons, List.length_nil, List.cons_append, List.nil_append, List.replicate, List.append_nil, Nat.reduceAdd, Nat.reduceSub, Nat.reduceEqDiff, if_true, if_false, reduceIte, Int.reduceAdd, Int.reduceSub, Int.reduceMul, Int.reduceNeg, Int.reduceLT, Int.reduceLE, Int.cast_ofNat_Int, true_or, or_true, true_and, and_true, false_and, List.mem_cons, List.not_mem_nil, or_false, false_or, ne_eq]
    have bd : 0 ≤ h4 (p + 2) 3 ∧ h4 (p + 2) 3 ≤ 1620 := by
      cases r with
      | inr z => exact s4.2
      | inl s => exact drC_size s4.2 (g1 s rfl).1 hn.2.1
    refine w_missing bd hp (fun h5 m5 f5 => ?_)
    have F5 : frH p h h5 := frH_tr F4 (fun i k p1 p2 p3 p4 => f5 i k (by omega))
    cases r with
    | inr z =>
      have e := g2 z rfl
      obtain ⟨⟨a1, a2, a3, a4⟩, -⟩ := s4
      have fin := hK h5 (fun z' e' => by
        rw [e] at e'
        have e' := Sum.inr.inj e'
        subst e'
        exact ⟨by rw [f5 _ _ (by omega)]; exact a1, by rw [f5 _ _ (by omega)]; exact a2, a3⟩) (fun q e' => by rw [e] at e'; cases e') F5
      rw [e] at fin
      refine ⟨fun q => absurd (by rw [← a1, ← f5 _ _ (by omega)]; exact q) a3, fun _ => fin⟩
    | inl s =>
      obtain ⟨ok, e⟩ := g1 s rfl
      have hsa := ok.1
      have k4 := s4.1
      obtain ⟨d1, d2, c, d3, d4, d5⟩ := s4.2
      have fin := hK h5 (fun z' e' => by rw [e] at e'; cases e') (fun q e' => by
        rw [e] at e'
        have e' := Sum.inl.inj e'
        subst e'
        obtain ⟨c', l', s', r'⟩ := m5 c s.2.2 d4 (by omega) d5
        exact ⟨⟨by rw [f5 _ _ (by omega)]; exact k4.2.1.1, by rw [f5 _ _ (by omega)]; exact k4.2.1.2⟩, isY_fr d1 (fun i k p q => f5 i k (by omega)), fun j hj => by rw [f5 _ _ (by omega)]; exact d2 j hj, hasR_of s' r' (fun r _ _ => fuP_ne) (by omega)⟩) F5
      rw [e] at fin
      refine ⟨fun _ => fin, fun q => absurd (by rw [f5 _ _ (by omega)]; exact k4.2.1.1) q⟩
end
end
