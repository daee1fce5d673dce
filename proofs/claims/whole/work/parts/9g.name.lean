section
section
variable {h h0 h' : Hp} {B : Int → Int} {n a : Int} {K : Int → Hp → Prop}
theorem r_nameF (h5 : h 1000 5 ≠ 0) (hK : K 0 h) : m_Model_name [1000] h K := by
  unfold m_Model_name
  simp -implicitDefEqProofs only [↓dn_den, ↓dn_loc, ↓dn_k, ↓dn_add, ↓dn_sub, ↓dn_mul, ↓dn_div, ↓dn_rem, ↓dn_bop, ↓dn_ladd, ↓dn_lsub, ↓dn_lmul, ↓dn_ldiv, ↓dn_lrem, ↓dn_land, ↓dn_l2i, ↓dn_neg, ↓dn_get, ↓dn_fix, ↓dn_ald, ↓dn_gld, ↓dn_yld, ↓dn_len, ↓dn_gln, ↓dn_cc, ↓dn_cb, ↓dn_and, ↓dn_or, ↓dn_not, ↓dn_cite, ↓dn_ec, ↓dn_ei, ↓dn_skip, ↓dn_seq, ↓dn_set, ↓dn_inc, ↓dn_putf, ↓dn_putz, ↓dn_ast, ↓dn_exp, ↓dn_if, ↓dn_ret, ↓dn_retz, ↓dn_retv, ↓dn_brk, ↓dn_cont, ↓dn_cs, ↓dn_sw, ↓dn_pop32, ↓dn_pop64, ↓dn_aop, ↓dn_call, ↓dn_max, ↓dn_min, ↓dn_acp, ↓dn_i2l, ↓dn_args0, ↓dn_args1, og_pad, og_ent, og_rlt, og_rle, og_rgt, og_rge, og_req, og_rne, og_padd, og_psub, og_pmul, List.getD_cons_zero, List.getD_cons_succ, List.set_cons_zero, List.set_cons_succ, List.length_cons, List.length_nil, List.cons_append, List.nil_append, List.replicate, List.append_nil, Nat.reduceAdd, Nat.reduceSub, Nat.reduceEqDiff, if_true, if_false, reduceIte, Int.reduceAdd, Int.reduceSub, Int.reduceMul, Int.reduceNeg, Int.reduceLT, Int.reduceLE, Int.cast_ofNat_Int, true_or, or_true, true_and, and_true, false_and, List.mem_cons, List.not_mem_nil, or_false, false_or, ne_eq]
  exact ⟨fun _ => hK, fun z => absurd h5 z⟩
def isNm (B : Int → Int) (n a : Int) : Prop := tK B n a = 1 ∧ ¬ (0 ≤ wrd B n a ∧ wrd B n a ≤ 24)
theorem r_name (ht : txM h B n) (hr : refS h B n a)
    (hT : isNm B n a → tE B n a - tS B n a ≤ 6 → ∀ h', refS h' B n (tE B n a) → h' 1000 36 = tS B n a → frX h h' → K (wV B (tS B n a) (tE B n a - tS B n a).toNat) h')
    (hF : ∀ p, ((¬ isNm B n a ∧ p = tS B n a) ∨ (isNm B n a ∧ 6 < tE B n a - tS B n a ∧ p = tS B n a + 6)) → ∀ h', fltM h' 1 p → frX h h' → K 0 h') : m_Model_name [1000] h K := by
  have hn := ht.2.2.1
  have s0 := tS_sp B n a
  have le : tS B n a ≤ n := rn_le hr.2.1.2
  have hr0 := hr.2.1
  unfold m_Model_name
  simp -implicitDefEqProofs only [↓dn_den, ↓dn_loc, ↓dn_k, ↓dn_add, ↓dn_sub, ↓dn_mul, ↓dn_div, ↓dn_rem, ↓dn_bop, ↓dn_ladd, ↓dn_lsub, ↓dn_lmul, ↓dn_ldiv, ↓dn_lrem, ↓dn_land, ↓dn_l2i, ↓dn_neg, ↓dn_get, ↓dn_fix, ↓dn_ald, ↓dn_gld, ↓dn_yld, ↓dn_len, ↓dn_gln, ↓dn_cc, ↓dn_cb, ↓dn_and, ↓dn_or, ↓dn_not, ↓dn_cite, ↓dn_ec, ↓dn_ei, ↓dn_skip, ↓dn_seq, ↓dn_set, ↓dn_inc, ↓dn_putf, ↓dn_putz, ↓dn_ast, ↓dn_exp, ↓dn_if, ↓dn_ret, ↓dn_retz, ↓dn_retv, ↓dn_brk, ↓dn_cont, ↓dn_cs, ↓dn_sw, ↓dn_pop32, ↓dn_pop64, ↓dn_aop, ↓dn_call, ↓dn_max, ↓dn_min, ↓dn_acp, ↓dn_i2l, ↓dn_args0, ↓dn_args1, og_pad, og_ent, og_rlt, og_rle, og_rgt, og_rge, og_req, og_rne, og_padd, og_psub, og_pmul, List.getD_cons_zero, List.getD_cons_succ, List.set_cons_zero, List.set_cons_succ, List.length_cons, List.length_nil, List.cons_append, List.nil_append, List.replicate, List.append_nil, Nat.reduceAdd, Nat.reduceSub, Nat.reduceEqDiff, if_true, if_false, reduceIte, Int.reduceAdd, Int.reduceSub, Int.reduceMul, Int.reduceNeg, Int.reduceLT, Int.reduceLE, Int.cast_ofNat_Int, true_or, or_true, true_and, and_true, false_and, List.mem_cons, List.not_mem_nil, or_false, false_or, ne_eq]
  rw [hr.1.1]
  refine ⟨fun z => absurd (by trivial) z, fun _ => ?_⟩
  refine r_look ht hr (fun h1 hr1 v1 f1 => ?_)
  have fx1 := frX_2 f1
  have ht1 := txM_X ht fx1
  have bad : ¬ isNm B n a → ∀ h2, refS h2 B n a → h2 1000 2 = tS B n a → (∀ i k, ¬ (i = 1000 ∧ k = 2) → h2 i k = h1 i k) → m_Model_fail [1000, 1, h2 1000 2] h2 (fun _ h' => K 0 h') := fun hk h2 r2 v2 f2 => by
    rw [v2]
    exact r_fail r2.1.1 (by decide) (fun h3 hf3 f3 => hF _ (Or.inl ⟨hk, rfl⟩) h3 hf3 (frX_tr fx1 (frX_tr (frX_2 f2) (fun i k hp => f3 i k (by omega)))))
  refine r_isLetter ⟨fun z => ?_, fun z => ?_⟩
  · have z := ite10 z
    have hlt : tS B n a < n := by
      by_cases q : tS B n a < n
      · exact q
      · rw [bt_no (by omega)] at z; cases z
    rw [bt_in (by omega) hlt] at z
    have k1 := tK_1 hr1 hlt z
    refine ⟨fun y => ?_, fun y => ?_⟩
    · exact bad (fun q => by have := q.1; rw [k1.1, if_pos (by rw [← v1]; exact y)] at this; exact absurd this (by decide)) h1 hr1 v1 (fun _ _ _ => rfl)
    have hk : tK B n a = 1 := by rw [k1.1, if_neg (by rw [← v1]; exact y)]
    refine r_isOwnHere ht1 hr1 v1 (fun h2 r2 v2 f2 => ⟨fun x => ?_, fun x => ?_⟩)
    · exact bad (fun q => q.2 (by
        by_cases p : 0 ≤ wrd B n a ∧ wrd B n a ≤ 24
        · exact p
        · rw [if_neg p] at x; exact absurd rfl x)) h2 r2 v2 f2
    have hnm : isNm B n a := ⟨hk, fun p => by rw [if_pos p] at x; exact absurd x (by decide)⟩
    trace_state
    sorry
  · have z := ite00 z
    exact bad (fun q => by
      have e := tE_1 q.1
      rw [bt_in (by omega) e.1, e.2.1] at z; cases z) h1 hr1 v1 (fun _ _ _ => rfl)
end
end
