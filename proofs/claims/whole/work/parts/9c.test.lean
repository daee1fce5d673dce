section
-- the reference's going on within a test
def okt (v : Int) : Prop := v = 10 ∨ v = 11 ∨ v = 12 ∨ v = 25
/-- the reference stands where the machine of tests stands -/
def qN (h : Hp) (B : Int → Int) (n a : Int) (c V : List Int) (o : Int) : Prop := qB h B n a c V o ∧ h 1000 95 = 0 ∧ (V.length : Int) ≤ o + a ∧ ∀ v ∈ V, okt v
section
variable {h h0 h' : Hp} {B : Int → Int} {n a o o0 pu : Int} {c V W W0 : List Int} {K : Int → Hp → Prop} {R R' : PS} {s s' : MS} {k : Nat}
theorem nruns_go (h : nruns B n pu k s R) (e : nst B n pu s = .inl s') : ∃ k', k = k' + 1 ∧ nruns B n pu k' s' R := by
  cases k with
  | zero => exact absurd h (by unfold nruns; exact id)
  | succ k =>
    unfold nruns at h
    rw [e] at h
    exact ⟨k, rfl, h⟩
theorem nruns_end (h : nruns B n pu k s R) (e : nst B n pu s = .inr R') : R = R' ∧ 0 < k := by
  cases k with
  | zero => exact absurd h (by unfold nruns; exact id)
  | succ k =>
    unfold nruns at h
    rw [e] at h
    exact ⟨h.symm, by omega⟩
theorem qN_at {a' : Int} (hq : qN h B n a c V o) (hr : refS h' B n a') (ha : a ≤ a') (hf : ∀ i k, (i = 1070 ∨ i = 1071 ∨ (i = 1000 ∧ (k = 91 ∨ k = 93 ∨ k = 94 ∨ k = 95))) → h' i k = h i k) : qN h' B n a' c V o := ⟨qB_at hq.1 hr ha (fun i k hi => hf i k (by omega)), by rw [hf _ _ (by decide)]; exact hq.2.1, by have := hq.2.2.1; omega, hq.2.2.2⟩
theorem mem_gd {i : Nat} (hi : i < V.length) : V.getD i 0 ∈ V := by
  simp only [List.getD_eq_getElem?_getD, List.getElem?_eq_getElem hi, Option.getD_some]
  exact List.getElem_mem hi
theorem dw_mem {p : Int → Bool} : ∀ v ∈ V.dropWhile p, v ∈ V := fun _ hv => (List.dropWhile_sublist p).subset hv
theorem r_blkA {N Bk C : List Int → Hp → Prop} {env : List Int} (he : env = [1000]) (hs : stM h V) (hc : cdM h c) (hl : (c.length : Int) + V.length < 1600) (hK : ∀ h', stM h' (10 :: V.dropWhile isAn) → cdM h' (c ++ dcl (V.takeWhile isAn)) → (∀ i k, i ≠ 1070 → i ≠ 1071 → ¬ (i = 1000 ∧ (k = 91 ∨ k = 93)) → h' i k = h i k) → K 1 h') : og_cut (og_while (og_cb (og_call m_Model_qIsOn [og_loc 0, og_k 10])) (og_exp (og_call m_Model_qDrops [og_loc 0])) og_skip) (og_seq (og_ast 1700 (og_fix (fun _ => 1071) (og_loc 0)) (og_get 93 (og_loc 0)) (og_k 10)) (og_seq (og_pop32 og_padd 93 (og_loc 0) (og_k 1)) (og_retz (og_k 1)))) env h N K Bk C := by
  subst he
  obtain ⟨L, t1, t2, t3, t4, t5⟩ := tw_sp isAn V
  rw [t1, t2] at hK
  have hs0 : stM h (V ++ []) := by rw [List.append_nil]; exact hs
  refine ⟨fun e2 h2 => e2 = [1000] ∧ drI h V [] c L h2, ?_, ?_⟩
  · refine og_loop L (fun i e2 h2 => e2 = [1000] ∧ drI h V [] c i h2) ⟨rfl, drI_0 hs0 hc⟩ ?_
    rintro i e2 h2 hi ⟨rfl, hd⟩
    simp -implicitDefEqProofs only [↓dn_den, ↓dn_loc, ↓dn_k, ↓dn_add, ↓dn_sub, ↓dn_mul, ↓dn_div, ↓dn_rem, ↓dn_bop, ↓dn_ladd, ↓dn_lsub, ↓dn_lmul, ↓dn_ldiv, ↓dn_lrem, ↓dn_land, ↓dn_l2i, ↓dn_neg, ↓dn_get, ↓dn_fix, ↓dn_ald, ↓dn_gld, ↓dn_yld, ↓dn_len, ↓dn_gln, ↓dn_cc, ↓dn_cb, ↓dn_and, ↓dn_or, ↓dn_not, ↓dn_cite, ↓dn_ec, ↓dn_ei, ↓dn_skip, ↓dn_seq, ↓dn_set, ↓dn_inc, ↓dn_putf, ↓dn_putz, ↓dn_ast, ↓dn_exp, ↓dn_if, ↓dn_ret, ↓dn_retz, ↓dn_retv, ↓dn_brk, ↓dn_cont, ↓dn_cs, ↓dn_sw, ↓dn_pop32, ↓dn_pop64, ↓dn_aop, ↓dn_call, ↓dn_max, ↓dn_min, ↓dn_acp, ↓dn_i2l, ↓dn_args0, ↓dn_args1, og_pad, og_ent, og_rlt, og_rle, og_rgt, og_rge, og_req, og_rne, og_padd, og_psub, og_pmul, List.getD_cons_zero, List.getD_cons_succ, List.set_cons_zero, List.set_cons_succ, List.length_cons, List.length_nil, List.cons_append, List.nil_append, List.replicate, List.append_nil, Nat.reduceAdd, Nat.reduceSub, Nat.reduceEqDiff, if_true, if_false, reduceIte, Int.reduceAdd, Int.reduceSub, Int.reduceMul, Int.reduceNeg, Int.reduceLT, Int.reduceLE, Int.cast_ofNat_Int, true_or, or_true, true_and, and_true, false_and, List.mem_cons, List.not_mem_nil, or_false, false_or, ne_eq]
    refine r_qIsOnC (by decide) hd.1 (by rw [List.length_append, List.length_drop]; simp; omega) (fun z => ?_) (fun z => ?_)
    · have hiV : i < V.length := by
        by_cases q : i < V.length
        · exact q
        · rw [hd0_dr0 (by omega)] at z; exact absurd z (by decide)
      rw [hd0_dr hiV] at z
      have q : i < L := by
        by_cases q : i < L
        · exact q
        · have e : i = L := by omega
          subst e
          have := t5 hiV
          unfold isAn at this
          simp only [decide_eq_false_iff_not] at this
          omega
      exact drI_step hd hiV (by unfold okc; omega) (by simp; omega) (fun h3 d3 => og_nx_mk q ⟨rfl, d3⟩)
    · have e : i = L := by
        by_cases q : i < L
        · have hiV : i < V.length := by omega
          rw [hd0_dr hiV] at z
          have := t4 i q
          unfold isAn at this
          simp only [decide_eq_true_eq] at this
          omega
        · omega
      subst e
      first | exact ⟨rfl, hd⟩ | exact hd
  · rintro e2 h2 ⟨rfl, hd⟩
    simp -implicitDefEqProofs only [↓dn_den, ↓dn_loc, ↓dn_k, ↓dn_add, ↓dn_sub, ↓dn_mul, ↓dn_div, ↓dn_rem, ↓dn_bop, ↓dn_ladd, ↓dn_lsub, ↓dn_lmul, ↓dn_ldiv, ↓dn_lrem, ↓dn_land, ↓dn_l2i, ↓dn_neg, ↓dn_get, ↓dn_fix, ↓dn_ald, ↓dn_gld, ↓dn_yld, ↓dn_len, ↓dn_gln, ↓dn_cc, ↓dn_cb, ↓dn_and, ↓dn_or, ↓dn_not, ↓dn_cite, ↓dn_ec, ↓dn_ei, ↓dn_skip, ↓dn_seq, ↓dn_set, ↓dn_inc, ↓dn_putf, ↓dn_putz, ↓dn_ast, ↓dn_exp, ↓dn_if, ↓dn_ret, ↓dn_retz, ↓dn_retv, ↓dn_brk, ↓dn_cont, ↓dn_cs, ↓dn_sw, ↓dn_pop32, ↓dn_pop64, ↓dn_aop, ↓dn_call, ↓dn_max, ↓dn_min, ↓dn_acp, ↓dn_i2l, ↓dn_args0, ↓dn_args1, og_pad, og_ent, og_rlt, og_rle, og_rgt, og_rge, og_req, og_rne, og_padd, og_psub, og_pmul, List.getD_cons_zero, List.getD_cons_succ, List.set_cons_zero, List.set_cons_succ, List.length_cons, List.length_nil, List.cons_append, List.nil_append, List.replicate, List.append_nil, Nat.reduceAdd, Nat.reduceSub, Nat.reduceEqDiff, if_true, if_false, reduceIte, Int.reduceAdd, Int.reduceSub, Int.reduceMul, Int.reduceNeg, Int.reduceLT, Int.reduceLE, Int.cast_ofNat_Int, true_or, or_true, true_and, and_true, false_and, List.mem_cons, List.not_mem_nil, or_false, false_or, ne_eq, og_i32]
    have d1 := hd.1
    rw [List.append_nil] at d1
    have h93 := d1.1
    have hlen : (V.drop L).length ≤ V.length := by rw [List.length_drop]; omega
    rw [h93, og_up_i (by decide), h93]
    have fin := hK _ (stM_push (v := 10) d1) (cdM_fr hd.2.1 (fun i k hi => by unfold og_up; rw [if_neg (by omega), if_neg (by omega)])) (fun i k p q r => by
      unfold og_up
      rw [if_neg (by omega), if_neg (by omega)]
      exact hd.2.2 i k p (by omega))
    refine ⟨by omega, by omega, by omega, ?_⟩
    first | exact fin | exact ⟨by decide, fin⟩
theorem r_blkO {N Bk C : List Int → Hp → Prop} {env : List Int} (he : env = [1000]) (hs : stM h V) (hc : cdM h c) (hl : (c.length : Int) + V.length < 1600) (hK : ∀ h', stM h' (11 :: V.dropWhile isAO) → cdM h' (c ++ dcl (V.takeWhile isAO)) → (∀ i k, i ≠ 1070 → i ≠ 1071 → ¬ (i = 1000 ∧ (k = 91 ∨ k = 93)) → h' i k = h i k) → K 1 h') : og_cut (og_while (og_or (og_cb (og_call m_Model_qIsOn [og_loc 0, og_k 10])) (og_cb (og_call m_Model_qIsOn [og_loc 0, og_k 11]))) (og_exp (og_call m_Model_qDrops [og_loc 0])) og_skip) (og_seq (og_ast 1700 (og_fix (fun _ => 1071) (og_loc 0)) (og_get 93 (og_loc 0)) (og_k 11)) (og_seq (og_pop32 og_padd 93 (og_loc 0) (og_k 1)) (og_retz (og_k 1)))) env h N K Bk C := by
  subst he
  obtain ⟨L, t1, t2, t3, t4, t5⟩ := tw_sp isAO V
  rw [t1, t2] at hK
  have hs0 : stM h (V ++ []) := by rw [List.append_nil]; exact hs
  refine ⟨fun e2 h2 => e2 = [1000] ∧ drI h V [] c L h2, ?_, ?_⟩
  · refine og_loop L (fun i e2 h2 => e2 = [1000] ∧ drI h V [] c i h2) ⟨rfl, drI_0 hs0 hc⟩ ?_
    rintro i e2 h2 hi ⟨rfl, hd⟩
    simp -implicitDefEqProofs only [↓dn_den, ↓dn_loc, ↓dn_k, ↓dn_add, ↓dn_sub, ↓dn_mul, ↓dn_div, ↓dn_rem, ↓dn_bop, ↓dn_ladd, ↓dn_lsub, ↓dn_lmul, ↓dn_ldiv, ↓dn_lrem, ↓dn_land, ↓dn_l2i, ↓dn_neg, ↓dn_get, ↓dn_fix, ↓dn_ald, ↓dn_gld, ↓dn_yld, ↓dn_len, ↓dn_gln, ↓dn_cc, ↓dn_cb, ↓dn_and, ↓dn_or, ↓dn_not, ↓dn_cite, ↓dn_ec, ↓dn_ei, ↓dn_skip, ↓dn_seq, ↓dn_set, ↓dn_inc, ↓dn_putf, ↓dn_putz, ↓dn_ast, ↓dn_exp, ↓dn_if, ↓dn_ret, ↓dn_retz, ↓dn_retv, ↓dn_brk, ↓dn_cont, ↓dn_cs, ↓dn_sw, ↓dn_pop32, ↓dn_pop64, ↓dn_aop, ↓dn_call, ↓dn_max, ↓dn_min, ↓dn_acp, ↓dn_i2l, ↓dn_args0, ↓dn_args1, og_pad, og_ent, og_rlt, og_rle, og_rgt, og_rge, og_req, og_rne, og_padd, og_psub, og_pmul, List.getD_cons_zero, List.getD_cons_succ, List.set_cons_zero, List.set_cons_succ, List.length_cons, List.length_nil, List.cons_append, List.nil_append, List.replicate, List.append_nil, Nat.reduceAdd, Nat.reduceSub, Nat.reduceEqDiff, if_true, if_false, reduceIte, Int.reduceAdd, Int.reduceSub, Int.reduceMul, Int.reduceNeg, Int.reduceLT, Int.reduceLE, Int.cast_ofNat_Int, true_or, or_true, true_and, and_true, false_and, List.mem_cons, List.not_mem_nil, or_false, false_or, ne_eq]
    refine r_onC2 (v := 10) (w := 11) (by decide) hd.1 (by rw [List.length_append, List.length_drop]; simp; omega) (fun z => ?_) (fun z => ?_)
    · have hiV : i < V.length := by
        by_cases q : i < V.length
        · exact q
        · rw [hd0_dr0 (by omega)] at z; exact absurd z (by decide)
      rw [hd0_dr hiV] at z
      have q : i < L := by
        by_cases q : i < L
        · exact q
        · have e : i = L := by omega
          subst e
          have := t5 hiV
          unfold isAO at this
          simp only [Bool.or_eq_false_iff, decide_eq_false_iff_not] at this
          omega
      exact drI_step hd hiV (by unfold okc; omega) (by simp; omega) (fun h3 d3 => og_nx_mk q ⟨rfl, d3⟩)
    · have e : i = L := by
        by_cases q : i < L
        · have hiV : i < V.length := by omega
          rw [hd0_dr hiV] at z
          have := t4 i q
          unfold isAO at this
          simp only [Bool.or_eq_true, decide_eq_true_eq] at this
          omega
        · omega
      subst e
      first | exact ⟨rfl, hd⟩ | exact hd
  · rintro e2 h2 ⟨rfl, hd⟩
    simp -implicitDefEqProofs only [↓dn_den, ↓dn_loc, ↓dn_k, ↓dn_add, ↓dn_sub, ↓dn_mul, ↓dn_div, ↓dn_rem, ↓dn_bop, ↓dn_ladd, ↓dn_lsub, ↓dn_lmul, ↓dn_ldiv, ↓dn_lrem, ↓dn_land, ↓dn_l2i, ↓dn_neg, ↓dn_get, ↓dn_fix, ↓dn_ald, ↓dn_gld, ↓dn_yld, ↓dn_len, ↓dn_gln, ↓dn_cc, ↓dn_cb, ↓dn_and, ↓dn_or, ↓dn_not, ↓dn_cite, ↓dn_ec, ↓dn_ei, ↓dn_skip, ↓dn_seq, ↓dn_set, ↓dn_inc, ↓dn_putf, ↓dn_putz, ↓dn_ast, ↓dn_exp, ↓dn_if, ↓dn_ret, ↓dn_retz, ↓dn_retv, ↓dn_brk, ↓dn_cont, ↓dn_cs, ↓dn_sw, ↓dn_pop32, ↓dn_pop64, ↓dn_aop, ↓dn_call, ↓dn_max, ↓dn_min, ↓dn_acp, ↓dn_i2l, ↓dn_args0, ↓dn_args1, og_pad, og_ent, og_rlt, og_rle, og_rgt, og_rge, og_req, og_rne, og_padd, og_psub, og_pmul, List.getD_cons_zero, List.getD_cons_succ, List.set_cons_zero, List.set_cons_succ, List.length_cons, List.length_nil, List.cons_append, List.nil_append, List.replicate, List.append_nil, Nat.reduceAdd, Nat.reduceSub, Nat.reduceEqDiff, if_true, if_false, reduceIte, Int.reduceAdd, Int.reduceSub, Int.reduceMul, Int.reduceNeg, Int.reduceLT, Int.reduceLE, Int.cast_ofNat_Int, true_or, or_true, true_and, and_true, false_and, List.mem_cons, List.not_mem_nil, or_false, false_or, ne_eq, og_i32]
    have d1 := hd.1
    rw [List.append_nil] at d1
    have h93 := d1.1
    have hlen : (V.drop L).length ≤ V.length := by rw [List.length_drop]; omega
    rw [h93, og_up_i (by decide), h93]
    have fin := hK _ (stM_push (v := 11) d1) (cdM_fr hd.2.1 (fun i k hi => by unfold og_up; rw [if_neg (by omega), if_neg (by omega)])) (fun i k p q r => by
      unfold og_up
      rw [if_neg (by omega), if_neg (by omega)]
      exact hd.2.2 i k p (by omega))
    refine ⟨by omega, by omega, by omega, ?_⟩
    first | exact fin | exact ⟨by decide, fin⟩
end
end
