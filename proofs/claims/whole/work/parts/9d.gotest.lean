section
section
variable {h h0 h' : Hp} {B : Int → Int} {n a o o0 pu : Int} {c V W W0 : List Int} {K : Int → Hp → Prop} {R R' : PS} {s s' : MS} {k : Nat}
theorem sq_c (hb : hSq V = true) : V.dropWhile nSq = 25 :: (V.dropWhile nSq).tail := by
  obtain ⟨L, t1, t2, t3, t4, t5⟩ := tw_sp nSq V
  obtain ⟨j, h1, h2⟩ := hSq_ex.mp hb
  have hL : L < V.length := by
    by_cases q : L < V.length
    · exact q
    · have := t4 j (by omega)
      rw [h2] at this
      exact absurd this (by decide)
  have t6 := t5 hL
  unfold nSq isSq at t6
  have t6 : V.getD L 0 = 25 := by simpa using t6
  rw [t2, drop_c hL, t6]
  rfl
def tJ (h : Hp) (B : Int → Int) (n pu : Int) (R : PS) (m : Nat) (h2 : Hp) (a : Int) (c V : List Int) (o : Int) : Prop := frZ h h2 ∧ qN h2 B n a c V o ∧ nruns B n pu m (true, a, c, V, o) R
theorem r_qGoesOnTest (ht : txM h B n) (hq : qN h B n a c V o) (hr : nruns B n pu k (true, a, c, V, o) R)
    (hT : ∀ h' a' c' V' o' k', k' < k → qN h' B n a' c' V' o' → nruns B n pu k' (false, a', c', V', o') R → frZ h h' → K 1 h')
    (hF : ∀ h' z, R = .inr z → fltM h' z.1 z.2 → frZ h h' → K 0 h')
    (hE : ∀ h' a' c' V' o', qN h' B n a' c' V' o' → hSq V' = false → R = .inl (a', c' ++ dcl V') → frZ h h' → K 0 h') : m_Model_qGoesOnTest [1000] h K := by
  have hn := ht.2.2.1
  unfold m_Model_qGoesOnTest
  simp -implicitDefEqProofs only [↓dn_den, ↓dn_loc, ↓dn_k, ↓dn_add, ↓dn_sub, ↓dn_mul, ↓dn_div, ↓dn_rem, ↓dn_bop, ↓dn_ladd, ↓dn_lsub, ↓dn_lmul, ↓dn_ldiv, ↓dn_lrem, ↓dn_land, ↓dn_l2i, ↓dn_neg, ↓dn_get, ↓dn_fix, ↓dn_ald, ↓dn_gld, ↓dn_yld, ↓dn_len, ↓dn_gln, ↓dn_cc, ↓dn_cb, ↓dn_and, ↓dn_or, ↓dn_not, ↓dn_cite, ↓dn_ec, ↓dn_ei, ↓dn_skip, ↓dn_seq, ↓dn_set, ↓dn_inc, ↓dn_putf, ↓dn_putz, ↓dn_ast, ↓dn_exp, ↓dn_if, ↓dn_ret, ↓dn_retz, ↓dn_retv, ↓dn_brk, ↓dn_cont, ↓dn_cs, ↓dn_sw, ↓dn_pop32, ↓dn_pop64, ↓dn_aop, ↓dn_call, ↓dn_max, ↓dn_min, ↓dn_acp, ↓dn_i2l, ↓dn_args0, ↓dn_args1, og_pad, og_ent, og_rlt, og_rle, og_rgt, og_rge, og_req, og_rne, og_padd, og_psub, og_pmul, List.getD_cons_zero, List.getD_cons_succ, List.set_cons_zero, List.set_cons_succ, List.length_cons, List.length_nil, List.cons_append, List.nil_append, List.replicate, List.append_nil, Nat.reduceAdd, Nat.reduceSub, Nat.reduceEqDiff, if_true, if_false, reduceIte, Int.reduceAdd, Int.reduceSub, Int.reduceMul, Int.reduceNeg, Int.reduceLT, Int.reduceLE, Int.cast_ofNat_Int, true_or, or_true, true_and, and_true, false_and, List.mem_cons, List.not_mem_nil, or_false, false_or, ne_eq]
  refine ⟨fun e2 h2 => e2 = [1000] ∧ ∃ m a c V o, m ≤ k ∧ tJ h B n pu R m h2 a c V o ∧ ¬ (sgn B n a = 93 ∧ hSq V = true), ?_, ?_⟩
  · refine og_loop k (fun i e2 h2 => e2 = [1000] ∧ ∃ m a c V o, m + i = k ∧ tJ h B n pu R m h2 a c V o) ⟨rfl, k, a, c, V, o, by omega, frZ_rf, hq, hr⟩ ?_
    rintro i e2 h2 hi ⟨rfl, m, a, c, V, o, hm, fz, hq, hr⟩
    simp -implicitDefEqProofs only [↓dn_den, ↓dn_loc, ↓dn_k, ↓dn_add, ↓dn_sub, ↓dn_mul, ↓dn_div, ↓dn_rem, ↓dn_bop, ↓dn_ladd, ↓dn_lsub, ↓dn_lmul, ↓dn_ldiv, ↓dn_lrem, ↓dn_land, ↓dn_l2i, ↓dn_neg, ↓dn_get, ↓dn_fix, ↓dn_ald, ↓dn_gld, ↓dn_yld, ↓dn_len, ↓dn_gln, ↓dn_cc, ↓dn_cb, ↓dn_and, ↓dn_or, ↓dn_not, ↓dn_cite, ↓dn_ec, ↓dn_ei, ↓dn_skip, ↓dn_seq, ↓dn_set, ↓dn_inc, ↓dn_putf, ↓dn_putz, ↓dn_ast, ↓dn_exp, ↓dn_if, ↓dn_ret, ↓dn_retz, ↓dn_retv, ↓dn_brk, ↓dn_cont, ↓dn_cs, ↓dn_sw, ↓dn_pop32, ↓dn_pop64, ↓dn_aop, ↓dn_call, ↓dn_max, ↓dn_min, ↓dn_acp, ↓dn_i2l, ↓dn_args0, ↓dn_args1, og_pad, og_ent, og_rlt, og_rle, og_rgt, og_rge, og_req, og_rne, og_padd, og_psub, og_pmul, List.getD_cons_zero, List.getD_cons_succ, List.set_cons_zero, List.set_cons_succ, List.length_cons, List.length_nil, List.cons_append, List.nil_append, List.replicate, List.append_nil, Nat.reduceAdd, Nat.reduceSub, Nat.reduceEqDiff, if_true, if_false, reduceIte, Int.reduceAdd, Int.reduceSub, Int.reduceMul, Int.reduceNeg, Int.reduceLT, Int.reduceLE, Int.cast_ofNat_Int, true_or, or_true, true_and, and_true, false_and, List.mem_cons, List.not_mem_nil, or_false, false_or, ne_eq, og_i32]
    obtain ⟨⟨q1, q2, q3, q4, q5, q6, q7⟩, b0, qo, qv⟩ := hq
    have hq : qN h2 B n a c V o := ⟨⟨q1, q2, q3, q4, q5, q6, q7⟩, b0, qo, qv⟩
    refine ⟨fun _ => ?_, fun z => absurd q1.1.1 z⟩
    have ht2 := txM_Z ht fz
    have ha := q1.2.1
    have te := tE_le (B := B) ha.2
    have sp := tS_sp B n a
    have le : tS B n a ≤ n := rn_le ha.2
    have s93 := sgn_iff (B := B) (n := n) (a := a) (x := 93) ha.1 (by decide)
    refine r_look ht2 q1 (fun h3 hr3 v3 f3 => ?_)
    have hq3 := qN_at hq hr3 (Int.le_refl _) (fun i k hi => f3 i k (by omega))
    have fz3 := frZ_tr fz (fr2_Z f3)
    have out : ¬ (sgn B n a = 93 ∧ hSq V = true) → ∃ m a c V o, m ≤ k ∧ tJ h B n pu R m h3 a c V o ∧ ¬ (sgn B n a = 93 ∧ hSq V = true) := fun z => ⟨m, a, c, V, o, by omega, ⟨fz3, hq3, hr⟩, z⟩
    refine ⟨fun z => ?_, fun z => ?_⟩
    · have e93 := s93.mpr z
      refine r_qHasSquare hq3.1.2.2.1 (by omega) (fun hb => ?_) (fun hb => ?_)
      · clear out
        have bk := sq_c hb
        have tl := tw_len (V := V) (p := nSq)
        have sg := sgn_go (B := B) (n := n) (a := a) (by omega)
        have em : nst B n pu (true, a, c, V, o) = .inl (gE (tE B n a) (dN (V.dropWhile nSq).tail (c ++ dcl (V.takeWhile nSq)) (o - 1))) := by
          rw [nst_G]
          unfold nG
          rw [if_pos ⟨e93, hb⟩]
        have vm : ∀ v ∈ (V.dropWhile nSq).tail, v ∈ V := fun v hv => dw_mem v (List.mem_of_mem_tail hv)
        generalize (V.dropWhile nSq).tail = V' at bk em vm
        rw [bk] at tl
        simp only [List.length_cons] at tl
        rw [v3]
        refine ⟨by omega, ?_⟩
        generalize h4e : og_up h3 1000 2 (tS B n a + 1) = h4
        have f4 : ∀ i k, ¬ (i = 1000 ∧ k = 2) → h4 i k = h3 i k := fun i k p => by rw [← h4e]; unfold og_up; exact if_neg p
        have v4 : h4 1000 2 = tS B n a + 1 := by rw [← h4e, og_up_eq]
        obtain ⟨L, t1, t2, t3, t4, t5⟩ := tw_sp nSq V
        have hs4 : stM h4 (V ++ []) := by rw [List.append_nil]; exact stM_fr hq3.1.2.2.1 (fun i k hi => f4 i k (by omega))
        have hc4 : cdM h4 c := cdM_fr hq3.1.2.1 (fun i k hi => f4 i k (by omega))
        have hLV : L < V.length := by
          by_cases q : L < V.length
          · exact q
          · rw [t2, List.drop_eq_nil_of_le (by omega)] at bk; cases bk
        refine ⟨fun e5 h5 => e5 = [1000] ∧ drI h4 V [] c L h5, ?_, ?_⟩
        · refine og_loop L (fun i e5 h5 => e5 = [1000] ∧ drI h4 V [] c i h5) ⟨rfl, drI_0 hs4 hc4⟩ ?_
          rintro j e5 h5 hj ⟨rfl, hd⟩
          simp -implicitDefEqProofs only [↓dn_den, ↓dn_loc, ↓dn_k, ↓dn_add, ↓dn_sub, ↓dn_mul, ↓dn_div, ↓dn_rem, ↓dn_bop, ↓dn_ladd, ↓dn_lsub, ↓dn_lmul, ↓dn_ldiv, ↓dn_lrem, ↓dn_land, ↓dn_l2i, ↓dn_neg, ↓dn_get, ↓dn_fix, ↓dn_ald, ↓dn_gld, ↓dn_yld, ↓dn_len, ↓dn_gln, ↓dn_cc, ↓dn_cb, ↓dn_and, ↓dn_or, ↓dn_not, ↓dn_cite, ↓dn_ec, ↓dn_ei, ↓dn_skip, ↓dn_seq, ↓dn_set, ↓dn_inc, ↓dn_putf, ↓dn_putz, ↓dn_ast, ↓dn_exp, ↓dn_if, ↓dn_ret, ↓dn_retz, ↓dn_retv, ↓dn_brk, ↓dn_cont, ↓dn_cs, ↓dn_sw, ↓dn_pop32, ↓dn_pop64, ↓dn_aop, ↓dn_call, ↓dn_max, ↓dn_min, ↓dn_acp, ↓dn_i2l, ↓dn_args0, ↓dn_args1, og_pad, og_ent, og_rlt, og_rle, og_rgt, og_rge, og_req, og_rne, og_padd, og_psub, og_pmul, List.getD_cons_zero, List.getD_cons_succ, List.set_cons_zero, List.set_cons_succ, List.length_cons, List.length_nil, List.cons_append, List.nil_append, List.replicate, List.append_nil, Nat.reduceAdd, Nat.reduceSub, Nat.reduceEqDiff, if_true, if_false, reduceIte, Int.reduceAdd, Int.reduceSub, Int.reduceMul, Int.reduceNeg, Int.reduceLT, Int.reduceLE, Int.cast_ofNat_Int, true_or, or_true, true_and, and_true, false_and, List.mem_cons, List.not_mem_nil, or_false, false_or, ne_eq]
          have hjV : j < V.length := by omega
          refine r_qIsOnC (by decide) hd.1 (by rw [List.length_append, List.length_drop]; simp; omega) (fun z => ?_) (fun z => ?_)
          · rw [hd0_dr hjV] at z
            have e : j = L := by
              by_cases q : j < L
              · have := t4 j q
                rw [z] at this
                exact absurd this (by decide)
              · omega
            subst e
            first | exact ⟨rfl, hd⟩ | exact hd
          · rw [hd0_dr hjV] at z
            have q : j < L := by
              by_cases q : j < L
              · exact q
              · have e : j = L := by omega
                subst e
                have := t5 hjV
                unfold nSq isSq at this
                exact absurd (by simpa using this) z
            have ov := qv _ (mem_gd hjV)
            unfold okt at ov
            exact drI_step hd hjV (by unfold okc; omega) (by simp; omega) (fun h6 d6 => og_nx_mk q ⟨rfl, d6⟩)
        · rintro e5 h5 ⟨rfl, d1, d2, d3⟩
          simp -implicitDefEqProofs only [↓dn_den, ↓dn_loc, ↓dn_k, ↓dn_add, ↓dn_sub, ↓dn_mul, ↓dn_div, ↓dn_rem, ↓dn_bop, ↓dn_ladd, ↓dn_lsub, ↓dn_lmul, ↓dn_ldiv, ↓dn_lrem, ↓dn_land, ↓dn_l2i, ↓dn_neg, ↓dn_get, ↓dn_fix, ↓dn_ald, ↓dn_gld, ↓dn_yld, ↓dn_len, ↓dn_gln, ↓dn_cc, ↓dn_cb, ↓dn_and, ↓dn_or, ↓dn_not, ↓dn_cite, ↓dn_ec, ↓dn_ei, ↓dn_skip, ↓dn_seq, ↓dn_set, ↓dn_inc, ↓dn_putf, ↓dn_putz, ↓dn_ast, ↓dn_exp, ↓dn_if, ↓dn_ret, ↓dn_retz, ↓dn_retv, ↓dn_brk, ↓dn_cont, ↓dn_cs, ↓dn_sw, ↓dn_pop32, ↓dn_pop64, ↓dn_aop, ↓dn_call, ↓dn_max, ↓dn_min, ↓dn_acp, ↓dn_i2l, ↓dn_args0, ↓dn_args1, og_pad, og_ent, og_rlt, og_rle, og_rgt, og_rge, og_req, og_rne, og_padd, og_psub, og_pmul, List.getD_cons_zero, List.getD_cons_succ, List.set_cons_zero, List.set_cons_succ, List.length_cons, List.length_nil, List.cons_append, List.nil_append, List.replicate, List.append_nil, Nat.reduceAdd, Nat.reduceSub, Nat.reduceEqDiff, if_true, if_false, reduceIte, Int.reduceAdd, Int.reduceSub, Int.reduceMul, Int.reduceNeg, Int.reduceLT, Int.reduceLE, Int.cast_ofNat_Int, true_or, or_true, true_and, and_true, false_and, List.mem_cons, List.not_mem_nil, or_false, false_or, ne_eq, og_i32]
          rw [List.append_nil, ← t2, bk] at d1
          rw [← t1] at d2
          have t := st_top d1
          have e94 : ∀ x, og_up h5 1000 93 x 1000 94 = o := fun x => by rw [og_up_k (by decide), d3 _ _ (by decide) (by decide), f4 _ _ (by decide)]; exact hq3.1.2.2.2.1
          rw [t.1, e94]
          have e1 : (V'.length : Int) + 1 - 1 = V'.length := by omega
          rw [e1]
          refine ⟨by omega, by omega, ?_⟩
          generalize h6e : og_up (og_up h5 1000 93 (V'.length : Int)) 1000 94 (o - 1) = h6
          have f6 : ∀ i k, i ≠ 1070 → ¬ (i = 1000 ∧ (k = 91 ∨ k = 93 ∨ k = 94)) → h6 i k = h4 i k := fun i k p q => by
            rw [← h6e]
            unfold og_up
            rw [if_neg (by omega), if_neg (by omega)]
            exact d3 i k p (by omega)
          have lc : ((c ++ dcl (V.takeWhile nSq)).length : Int) = c.length + (V.takeWhile nSq).length := by rw [List.length_append]; unfold dcl; rw [List.length_map]; omega
          refine r_qDropsNots (V := V') (c := c ++ dcl (V.takeWhile nSq)) (o := o - 1) (stM_tl d1 (by rw [← h6e, og_up_k (by decide), og_up_eq]) (fun k => by rw [← h6e, og_up_i (by decide), og_up_i (by decide)])) (cdM_fr d2 (fun i k hi => by rw [← h6e]; unfold og_up; rw [if_neg (by omega), if_neg (by omega)])) (by rw [f6 _ _ (by decide) (by decide), f4 _ _ (by decide)]; exact hr3.1.1) (by rw [← h6e, og_up_eq]) (by omega) (by omega) (fun h7 c7 V7 o7 e7 s7 d7 q7 l7 f7 => ?_)
          rw [e7] at em
          obtain ⟨k', ek, hr'⟩ := nruns_go hr em
          have f37 : ∀ i k, i ≠ 1070 → ¬ (i = 1000 ∧ (k = 91 ∨ k = 93 ∨ k = 94)) → h7 i k = h4 i k := fun i k p q => by rw [f7 i k p q]; exact f6 i k p q
          refine og_nx_mk (by omega) ⟨rfl, k', tE B n a, c7, V7, o7, by omega, frZ_tr fz3 (fun i k p q r => ?_), ⟨⟨refS_sgn (by decide) e93 hr3 ⟨?_, ?_⟩ ?_ ?_, d7, s7, q7, by omega, by omega, by omega⟩, ?_, by omega, fun v hv => qv v (vm v (l7.2.2.1 v hv))⟩, hr'⟩
          · rw [f37 i k p (by omega)]; exact f4 i k (by omega)
          · rw [f37 _ _ (by decide) (by decide), f4 _ _ (by decide)]; exact hr3.1.1
          · rw [f37 _ _ (by decide) (by decide), f4 _ _ (by decide)]; exact hr3.1.2
          · rw [f37 _ _ (by decide) (by decide)]; exact v4
          · rw [f37 _ _ (by decide) (by decide), f4 _ _ (by decide)]
          · rw [f37 _ _ (by decide) (by decide), f4 _ _ (by decide)]; exact hq3.2.1
      · have := out (fun q => by rw [hb] at q; cases q.2)
        first | exact ⟨rfl, this⟩ | exact this
    · have := out (fun q => z (s93.mp q.1))
      first | exact ⟨rfl, this⟩ | exact this
  · rintro e2 h2 ⟨rfl, m, a, c, V, o, hm, ⟨fz, hq, hr⟩, hnb⟩
    simp -implicitDefEqProofs only [↓dn_den, ↓dn_loc, ↓dn_k, ↓dn_add, ↓dn_sub, ↓dn_mul, ↓dn_div, ↓dn_rem, ↓dn_bop, ↓dn_ladd, ↓dn_lsub, ↓dn_lmul, ↓dn_ldiv, ↓dn_lrem, ↓dn_land, ↓dn_l2i, ↓dn_neg, ↓dn_get, ↓dn_fix, ↓dn_ald, ↓dn_gld, ↓dn_yld, ↓dn_len, ↓dn_gln, ↓dn_cc, ↓dn_cb, ↓dn_and, ↓dn_or, ↓dn_not, ↓dn_cite, ↓dn_ec, ↓dn_ei, ↓dn_skip, ↓dn_seq, ↓dn_set, ↓dn_inc, ↓dn_putf, ↓dn_putz, ↓dn_ast, ↓dn_exp, ↓dn_if, ↓dn_ret, ↓dn_retz, ↓dn_retv, ↓dn_brk, ↓dn_cont, ↓dn_cs, ↓dn_sw, ↓dn_pop32, ↓dn_pop64, ↓dn_aop, ↓dn_call, ↓dn_max, ↓dn_min, ↓dn_acp, ↓dn_i2l, ↓dn_args0, ↓dn_args1, og_pad, og_ent, og_rlt, og_rle, og_rgt, og_rge, og_req, og_rne, og_padd, og_psub, og_pmul, List.getD_cons_zero, List.getD_cons_succ, List.set_cons_zero, List.set_cons_succ, List.length_cons, List.length_nil, List.cons_append, List.nil_append, List.replicate, List.append_nil, Nat.reduceAdd, Nat.reduceSub, Nat.reduceEqDiff, if_true, if_false, reduceIte, Int.reduceAdd, Int.reduceSub, Int.reduceMul, Int.reduceNeg, Int.reduceLT, Int.reduceLE, Int.cast_ofNat_Int, true_or, or_true, true_and, and_true, false_and, List.mem_cons, List.not_mem_nil, or_false, false_or, ne_eq, og_i32]
    have ht2 := txM_Z ht fz
    have ha := hq.1.1.2.1
    have hlen := hq.1.2.2.2.2.1
    have hol := hq.2.2.1
    have te := tE_le (B := B) ha.2
    have w55 : wnM 1055 = 20 := by decide
    have w56 : wnM 1056 = 19 := by decide
    refine r_takes (w := 1055) (by unfold idW; omega) ht2 hq.1.1 (fun w h3 r3 f3 => ⟨fun _ => ?_, fun z => absurd z (by decide)⟩) (fun w h3 r3 v3 f3 => ⟨fun z => absurd rfl z, fun _ => ?_⟩)
    · rw [w55] at w
      have wg := wrd_go (B := B) (n := n) (a := a) (by omega)
      have tl := tw_len (V := V) (p := isAn)
      have em : nst B n pu (true, a, c, V, o) = .inl (false, tE B n a, c ++ dcl (V.takeWhile isAn), 10 :: V.dropWhile isAn, o) := by
        rw [nst_G]
        unfold nG
        rw [if_neg hnb, if_pos w]
      obtain ⟨k', ek, hr'⟩ := nruns_go hr em
      have lc : ((c ++ dcl (V.takeWhile isAn)).length : Int) = c.length + (V.takeWhile isAn).length := by rw [List.length_append]; unfold dcl; rw [List.length_map]; omega
      refine r_blkA rfl (stM_fr hq.1.2.2.1 (fun i k hi => f3 i k (by omega))) (cdM_fr hq.1.2.1 (fun i k hi => f3 i k (by omega))) (by omega) (fun h4 s4 c4 f4 => ?_)
      refine hT h4 (tE B n a) (c ++ dcl (V.takeWhile isAn)) (10 :: V.dropWhile isAn) o k' (by omega) ⟨⟨refS_fr r3 (fun k hk => f4 _ _ (by decide) (by decide) (by omega)), c4, s4, ?_, ?_, hq.1.2.2.2.2.2⟩, ?_, ?_, fun x hx => ?_⟩ hr' (frZ_tr fz (frZ_tr (frX_Z f3) (fun i k p q r => f4 i k p q (by omega))))
      · rw [f4 _ _ (by decide) (by decide) (by decide), f3 _ _ (by decide)]; exact hq.1.2.2.2.1
      · simp only [List.length_cons]; omega
      · rw [f4 _ _ (by decide) (by decide) (by decide), f3 _ _ (by decide)]; exact hq.2.1
      · simp only [List.length_cons]; omega
      · rcases List.mem_cons.mp hx with e | e
        · rw [e]; unfold okt; omega
        · exact hq.2.2.2 x (dw_mem x e)
    rw [w55] at w
    have w20 := w
    have hq3 := qN_at hq r3 (Int.le_refl _) (fun i k hi => f3 i k (by omega))
    have fz3 := frZ_tr fz (frX_Z f3)
    have ht3 := txM_X ht2 f3
    replace hq := hq3
    replace fz := fz3
    replace ht2 := ht3
    clear v3
    refine r_takes (w := 1056) (by unfold idW; omega) ht2 hq.1.1 (fun w h3 r3 f3 => ⟨fun _ => ?_, fun z => absurd z (by decide)⟩) (fun w h3 r3 v3 f3 => ⟨fun z => absurd rfl z, fun _ => ?_⟩)
    · rw [w56] at w
      have wg := wrd_go (B := B) (n := n) (a := a) (by omega)
      have tl := tw_len (V := V) (p := isAO)
      have em : nst B n pu (true, a, c, V, o) = .inl (false, tE B n a, c ++ dcl (V.takeWhile isAO), 11 :: V.dropWhile isAO, o) := by
        rw [nst_G]
        unfold nG
        rw [if_neg hnb, if_neg w20, if_pos w]
      obtain ⟨k', ek, hr'⟩ := nruns_go hr em
      have lc : ((c ++ dcl (V.takeWhile isAO)).length : Int) = c.length + (V.takeWhile isAO).length := by rw [List.length_append]; unfold dcl; rw [List.length_map]; omega
      refine r_blkO rfl (stM_fr hq.1.2.2.1 (fun i k hi => f3 i k (by omega))) (cdM_fr hq.1.2.1 (fun i k hi => f3 i k (by omega))) (by omega) (fun h4 s4 c4 f4 => ?_)
      refine hT h4 (tE B n a) (c ++ dcl (V.takeWhile isAO)) (11 :: V.dropWhile isAO) o k' (by omega) ⟨⟨refS_fr r3 (fun k hk => f4 _ _ (by decide) (by decide) (by omega)), c4, s4, ?_, ?_, hq.1.2.2.2.2.2⟩, ?_, ?_, fun x hx => ?_⟩ hr' (frZ_tr fz (frZ_tr (frX_Z f3) (fun i k p q r => f4 i k p q (by omega))))
      · rw [f4 _ _ (by decide) (by decide) (by decide), f3 _ _ (by decide)]; exact hq.1.2.2.2.1
      · simp only [List.length_cons]; omega
      · rw [f4 _ _ (by decide) (by decide) (by decide), f3 _ _ (by decide)]; exact hq.2.1
      · simp only [List.length_cons]; omega
      · rcases List.mem_cons.mp hx with e | e
        · rw [e]; unfold okt; omega
        · exact hq.2.2.2 x (dw_mem x e)
    rw [w56] at w
    have hq4 := qN_at hq r3 (Int.le_refl _) (fun i k hi => f3 i k (by omega))
    have fz4 := frZ_tr fz (frX_Z f3)
    refine ⟨fun e5 h5 => (hSq V = false ∧ h5 = h3) ∨ (hSq V = true ∧ fltM h5 1 (tS B n a) ∧ (∀ i j, ¬ (i = 1000 ∧ (j = 5 ∨ j = 6)) → h5 i j = h3 i j)), ?_, ?_⟩
    · simp -implicitDefEqProofs only [↓dn_den, ↓dn_loc, ↓dn_k, ↓dn_add, ↓dn_sub, ↓dn_mul, ↓dn_div, ↓dn_rem, ↓dn_bop, ↓dn_ladd, ↓dn_lsub, ↓dn_lmul, ↓dn_ldiv, ↓dn_lrem, ↓dn_land, ↓dn_l2i, ↓dn_neg, ↓dn_get, ↓dn_fix, ↓dn_ald, ↓dn_gld, ↓dn_yld, ↓dn_len, ↓dn_gln, ↓dn_cc, ↓dn_cb, ↓dn_and, ↓dn_or, ↓dn_not, ↓dn_cite, ↓dn_ec, ↓dn_ei, ↓dn_skip, ↓dn_seq, ↓dn_set, ↓dn_inc, ↓dn_putf, ↓dn_putz, ↓dn_ast, ↓dn_exp, ↓dn_if, ↓dn_ret, ↓dn_retz, ↓dn_retv, ↓dn_brk, ↓dn_cont, ↓dn_cs, ↓dn_sw, ↓dn_pop32, ↓dn_pop64, ↓dn_aop, ↓dn_call, ↓dn_max, ↓dn_min, ↓dn_acp, ↓dn_i2l, ↓dn_args0, ↓dn_args1, og_pad, og_ent, og_rlt, og_rle, og_rgt, og_rge, og_req, og_rne, og_padd, og_psub, og_pmul, List.getD_cons_zero, List.getD_cons_succ, List.set_cons_zero, List.set_cons_succ, List.length_cons, List.length_nil, List.cons_append, List.nil_append, List.replicate, List.append_nil, Nat.reduceAdd, Nat.reduceSub, Nat.reduceEqDiff, if_true, if_false, reduceIte, Int.reduceAdd, Int.reduceSub, Int.reduceMul, Int.reduceNeg, Int.reduceLT, Int.reduceLE, Int.cast_ofNat_Int, true_or, or_true, true_and, and_true, false_and, List.mem_cons, List.not_mem_nil, or_false, false_or, ne_eq]
      refine ⟨fun _ => ?_, fun z => absurd r3.1.1 z⟩
      refine r_qHasSquare hq4.1.2.2.1 (by omega) (fun hb => ?_) (fun hb => ?_)
      · rw [v3]
        exact r_fail r3.1.1 (by decide) (fun h5 l5 f5 => Or.inr ⟨hb, l5, f5⟩)
      · first | exact Or.inl ⟨hb, rfl⟩ | exact Or.inl hb
    · rintro e5 h5 (⟨q, rfl⟩ | ⟨q, l5, f5⟩)
      · simp -implicitDefEqProofs only [↓dn_den, ↓dn_loc, ↓dn_k, ↓dn_add, ↓dn_sub, ↓dn_mul, ↓dn_div, ↓dn_rem, ↓dn_bop, ↓dn_ladd, ↓dn_lsub, ↓dn_lmul, ↓dn_ldiv, ↓dn_lrem, ↓dn_land, ↓dn_l2i, ↓dn_neg, ↓dn_get, ↓dn_fix, ↓dn_ald, ↓dn_gld, ↓dn_yld, ↓dn_len, ↓dn_gln, ↓dn_cc, ↓dn_cb, ↓dn_and, ↓dn_or, ↓dn_not, ↓dn_cite, ↓dn_ec, ↓dn_ei, ↓dn_skip, ↓dn_seq, ↓dn_set, ↓dn_inc, ↓dn_putf, ↓dn_putz, ↓dn_ast, ↓dn_exp, ↓dn_if, ↓dn_ret, ↓dn_retz, ↓dn_retv, ↓dn_brk, ↓dn_cont, ↓dn_cs, ↓dn_sw, ↓dn_pop32, ↓dn_pop64, ↓dn_aop, ↓dn_call, ↓dn_max, ↓dn_min, ↓dn_acp, ↓dn_i2l, ↓dn_args0, ↓dn_args1, og_pad, og_ent, og_rlt, og_rle, og_rgt, og_rge, og_req, og_rne, og_padd, og_psub, og_pmul, List.getD_cons_zero, List.getD_cons_succ, List.set_cons_zero, List.set_cons_succ, List.length_cons, List.length_nil, List.cons_append, List.nil_append, List.replicate, List.append_nil, Nat.reduceAdd, Nat.reduceSub, Nat.reduceEqDiff, if_true, if_false, reduceIte, Int.reduceAdd, Int.reduceSub, Int.reduceMul, Int.reduceNeg, Int.reduceLT, Int.reduceLE, Int.cast_ofNat_Int, true_or, or_true, true_and, and_true, false_and, List.mem_cons, List.not_mem_nil, or_false, false_or, ne_eq]
        have fin := hE h5 a c V o hq4 q (nruns_end hr (by rw [nst_G]; unfold nG; rw [if_neg hnb, if_neg w20, if_neg w, if_neg (by rw [q]; decide)])).1 fz4
        first | exact fin | exact ⟨by decide, fin⟩
      · simp -implicitDefEqProofs only [↓dn_den, ↓dn_loc, ↓dn_k, ↓dn_add, ↓dn_sub, ↓dn_mul, ↓dn_div, ↓dn_rem, ↓dn_bop, ↓dn_ladd, ↓dn_lsub, ↓dn_lmul, ↓dn_ldiv, ↓dn_lrem, ↓dn_land, ↓dn_l2i, ↓dn_neg, ↓dn_get, ↓dn_fix, ↓dn_ald, ↓dn_gld, ↓dn_yld, ↓dn_len, ↓dn_gln, ↓dn_cc, ↓dn_cb, ↓dn_and, ↓dn_or, ↓dn_not, ↓dn_cite, ↓dn_ec, ↓dn_ei, ↓dn_skip, ↓dn_seq, ↓dn_set, ↓dn_inc, ↓dn_putf, ↓dn_putz, ↓dn_ast, ↓dn_exp, ↓dn_if, ↓dn_ret, ↓dn_retz, ↓dn_retv, ↓dn_brk, ↓dn_cont, ↓dn_cs, ↓dn_sw, ↓dn_pop32, ↓dn_pop64, ↓dn_aop, ↓dn_call, ↓dn_max, ↓dn_min, ↓dn_acp, ↓dn_i2l, ↓dn_args0, ↓dn_args1, og_pad, og_ent, og_rlt, og_rle, og_rgt, og_rge, og_req, og_rne, og_padd, og_psub, og_pmul, List.getD_cons_zero, List.getD_cons_succ, List.set_cons_zero, List.set_cons_succ, List.length_cons, List.length_nil, List.cons_append, List.nil_append, List.replicate, List.append_nil, Nat.reduceAdd, Nat.reduceSub, Nat.reduceEqDiff, if_true, if_false, reduceIte, Int.reduceAdd, Int.reduceSub, Int.reduceMul, Int.reduceNeg, Int.reduceLT, Int.reduceLE, Int.cast_ofNat_Int, true_or, or_true, true_and, and_true, false_and, List.mem_cons, List.not_mem_nil, or_false, false_or, ne_eq]
        have fin := hF h5 (1, tS B n a) (nruns_end hr (by rw [nst_G]; unfold nG; rw [if_neg hnb, if_neg w20, if_neg w, if_pos q])).1 l5 (frZ_tr fz4 (fr5_Z f5))
        first | exact fin | exact ⟨by decide, fin⟩
end
end
