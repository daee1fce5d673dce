section
section
variable {h h0 h' : Hp} {B : Int → Int} {n a : Int} {K : Int → Hp → Prop}
theorem r_nameF (h5 : h 1000 5 ≠ 0) (hK : K 0 h) : m_Model_name [1000] h K := by
  unfold m_Model_name
  simp -implicitDefEqProofs only [↓dn_den, ↓dn_loc, ↓dn_k, ↓dn_add, ↓dn_sub, ↓dn_mul, ↓dn_div, ↓dn_rem, ↓dn_bop, ↓dn_ladd, ↓dn_lsub, ↓dn_lmul, ↓dn_ldiv, ↓dn_lrem, ↓dn_land, ↓dn_l2i, ↓dn_neg, ↓dn_get, ↓dn_fix, ↓dn_ald, ↓dn_gld, ↓dn_yld, ↓dn_len, ↓dn_gln, ↓dn_cc, ↓dn_cb, ↓dn_and, ↓dn_or, ↓dn_not, ↓dn_cite, ↓dn_ec, ↓dn_ei, ↓dn_skip, ↓dn_seq, ↓dn_set, ↓dn_inc, ↓dn_putf, ↓dn_putz, ↓dn_ast, ↓dn_exp, ↓dn_if, ↓dn_ret, ↓dn_retz, ↓dn_retv, ↓dn_brk, ↓dn_cont, ↓dn_cs, ↓dn_sw, ↓dn_pop32, ↓dn_pop64, ↓dn_aop, ↓dn_call, ↓dn_max, ↓dn_min, ↓dn_acp, ↓dn_i2l, ↓dn_args0, ↓dn_args1, og_pad, og_ent, og_rlt, og_rle, og_rgt, og_rge, og_req, og_rne, og_padd, og_psub, og_pmul, List.getD_cons_zero, List.getD_cons_succ, List.set_cons_zero, List.set_cons_succ, List.length_cons, List.length_nil, List.cons_append, List.nil_append, List.replicate, List.append_nil, Nat.reduceAdd, Nat.reduceSub, Nat.reduceEqDiff, if_true, if_false, reduceIte, Int.reduceAdd, Int.reduceSub, Int.reduceMul, Int.reduceNeg, Int.reduceLT, Int.reduceLE, Int.cast_ofNat_Int, true_or, or_true, true_and, and_true, false_and, List.mem_cons, List.not_mem_nil, or_false, false_or, ne_eq]
  exact ⟨fun _ => hK, fun z => absurd h5 z⟩
def isNm (B : Int → Int) (n a : Int) : Prop := tK B n a = 1 ∧ ¬ (0 ≤ wrd B n a ∧ wrd B n a ≤ 24)
theorem r_name (ht : txM h B n) (hr : refS h B n a)
    (hT : isNm B n a → tE B n a - tS B n a ≤ 6 → ∀ h', refS h' B n (tE B n a) → h' 1000 36 = tS B n a → frX h h' → K (wV B (tS B n a) (tE B n a - tS B n a).toNat) h')
    (hF : ∀ p, ((¬ isNm B n a ∧ p = tS B n a) ∨ (isNm B n a ∧ 6 < tE B n a - tS B n a ∧ p = tS B n a + 6)) → ∀ h', fltM h' 1 p → frX h h' → K 0 h') : m_Model_name [1000] h K := by
  have hn := ht.2.2.1
  have s0 := tS_sp B n a
  have le : tS B n a ≤ n := rn_le hr.2.1.2
  have hr0 := hr.2.1
  unfold m_Model_name
  simp -implicitDefEqProofs only [↓dn_den, ↓dn_loc, ↓dn_k, ↓dn_add, ↓dn_sub, ↓dn_mul, ↓dn_div, ↓dn_rem, ↓dn_bop, ↓dn_ladd, ↓dn_lsub, ↓dn_lmul, ↓dn_ldiv, ↓dn_lrem, ↓dn_land, ↓dn_l2i, ↓dn_neg, ↓dn_get, ↓dn_fix, ↓dn_ald, ↓dn_gld, ↓dn_yld, ↓dn_len, ↓dn_gln, ↓dn_cc, ↓dn_cb, ↓dn_and, ↓dn_or, ↓dn_not, ↓dn_cite, ↓dn_ec, ↓dn_ei, ↓dn_skip, ↓dn_seq, ↓dn_set, ↓dn_inc, ↓dn_putf, ↓dn_putz, ↓dn_ast, ↓dn_exp, ↓dn_if, ↓dn_ret, ↓dn_retz, ↓dn_retv, ↓dn_brk, ↓dn_cont, ↓dn_cs, ↓dn_sw, ↓dn_pop32, ↓dn_pop64, ↓dn_aop, ↓dn_call, ↓dn_max, ↓dn_min, ↓dn_acp, ↓dn_i2l, ↓dn_args0, ↓dn_args1, og_pad, og_ent, og_rlt, og_rle, og_rgt, og_rge, og_req, og_rne, og_padd, og_psub, og_pmul, List.getD_cons_zero, List.getD_cons_succ, List.set_cons_zero, List.set_cons_succ, List.length_cons, List.length_nil, List.cons_append, List.nil_append, List.replicate, List.append_nil, Nat.reduceAdd, Nat.reduceSub, Nat.reduceEqDiff, if_true, if_false, reduceIte, Int.reduceAdd, Int.reduceSub, Int.reduceMul, Int.reduceNeg, Int.reduceLT, Int.reduceLE, Int.cast_ofNat_Int, true_or, or_true, true_and, and_true, false_and, List.mem_cons, List.not_mem_nil, or_false, false_or, ne_eq]
  rw [hr.1.1]
  refine ⟨fun z => absurd (by trivial) z, fun _ => ?_⟩
  refine r_look ht hr (fun h1 hr1 v1 f1 => ?_)
  have fx1 := frX_2 f1
  have ht1 := txM_X ht fx1
  have bad : ¬ isNm B n a → ∀ h2, refS h2 B n a → h2 1000 2 = tS B n a → (∀ i k, ¬ (i = 1000 ∧ k = 2) → h2 i k = h1 i k) → m_Model_fail [1000, 1, h2 1000 2] h2 (fun _ h' => K 0 h') := fun hk h2 r2 v2 f2 => by
    rw [v2]
    exact r_fail r2.1.1 (by decide) (fun h3 hf3 f3 => hF _ (Or.inl ⟨hk, rfl⟩) h3 hf3 (frX_tr fx1 (frX_tr (frX_2 f2) (fun i k hp => f3 i k (by omega)))))
  refine r_isLetter ⟨fun z => ?_, fun z => ?_⟩
  · have z := ite10 z
    have hlt : tS B n a < n := by
      by_cases q : tS B n a < n
      · exact q
      · rw [bt_no (by omega)] at z; cases z
    rw [bt_in (by omega) hlt] at z
    have k1 := tK_1 hr1 hlt z
    refine ⟨fun y => ?_, fun y => ?_⟩
    · exact bad (fun q => by have := q.1; rw [k1.1, if_pos (by rw [← v1]; exact y)] at this; exact absurd this (by decide)) h1 hr1 v1 (fun _ _ _ => rfl)
    have hk : tK B n a = 1 := by rw [k1.1, if_neg (by rw [← v1]; exact y)]
    refine r_isOwnHere ht1 hr1 v1 (fun h2 r2 v2 f2 => ⟨fun x => ?_, fun x => ?_⟩)
    · exact bad (fun q => q.2 (by
        by_cases p : 0 ≤ wrd B n a ∧ wrd B n a ≤ 24
        · exact p
        · rw [if_neg p] at x; exact absurd rfl x)) h2 r2 v2 f2
    have hnm : isNm B n a := ⟨hk, fun p => by rw [if_pos p] at x; exact absurd x (by decide)⟩
    rw [v2]
    have fx2 := frX_tr fx1 (frX_2 f2)
    have sp := rn_sp (fun k => isL (B k)) n (tS B n a)
    rw [show rn (fun k => isL (B k)) n (tS B n a) = tE B n a from k1.2.symm] at sp
    have te := tE_le (B := B) hr.2.1.2
    obtain ⟨L, hL⟩ : ∃ L : Nat, tE B n a = tS B n a + L := ⟨(tE B n a - tS B n a).toNat, by omega⟩
    have vr : ∀ k : Nat, k ≤ min L 6 → 0 ≤ wV B (tS B n a) k ∧ wV B (tS B n a) k < 387420490 := fun k hk => by
      have a1 := wV_rg (B := B) (s := tS B n a) k (fun j hj => (sp.2.1 (tS B n a + j) (by omega) (by omega)).2)
      have a2 := p27_bd k (by omega)
      omega
    have g0 : ∀ i k, ¬ (i = 1000 ∧ k = 36) → og_up h2 1000 36 (tS B n a) i k = h2 i k := fun i k p => by unfold og_up; exact if_neg p
    have e36 : og_up h2 1000 36 (tS B n a) 1000 36 = tS B n a := og_up_eq
    have fx3 : frX h (og_up h2 1000 36 (tS B n a)) := frX_tr fx2 (fun i k hp => g0 i k (by omega))
    have g5 : og_up h2 1000 36 (tS B n a) 1000 5 = 0 ∧ og_up h2 1000 36 (tS B n a) 1000 6 = -1 := ⟨by rw [g0 _ _ (by decide)]; exact r2.1.1, by rw [g0 _ _ (by decide)]; exact r2.1.2⟩
    have g2 : og_up h2 1000 36 (tS B n a) 1000 2 = tS B n a := by rw [g0 _ _ (by decide)]; exact v2
    generalize og_up h2 1000 36 (tS B n a) = h3 at e36 fx3 g5 g2
    clear g0
    refine ⟨fun e4 h4 => (∃ y, e4 = [1000, wV B (tS B n a) L, y]) ∧ h4 1000 2 = tE B n a ∧ L ≤ 6 ∧ (∀ i k, ¬ (i = 1000 ∧ k = 2) → h4 i k = h3 i k), ?_, ?_⟩
    · refine og_loop L (fun i e4 h4 => i ≤ 6 ∧ (∃ y, e4 = [1000, wV B (tS B n a) i, y]) ∧ h4 1000 2 = tS B n a + i ∧ (∀ i k, ¬ (i = 1000 ∧ k = 2) → h4 i k = h3 i k)) ⟨by omega, ⟨_, rfl⟩, by rw [g2]; simp, fun _ _ _ => rfl⟩ ?_
      rintro i e4 h4 hi ⟨hi4, ⟨y, rfl⟩, u1, hf⟩
      have ht4 : txM h4 B n := txM_X (txM_X ht fx3) (frX_2 hf)
      simp -implicitDefEqProofs only [↓dn_den, ↓dn_loc, ↓dn_k, ↓dn_add, ↓dn_sub, ↓dn_mul, ↓dn_div, ↓dn_rem, ↓dn_bop, ↓dn_ladd, ↓dn_lsub, ↓dn_lmul, ↓dn_ldiv, ↓dn_lrem, ↓dn_land, ↓dn_l2i, ↓dn_neg, ↓dn_get, ↓dn_fix, ↓dn_ald, ↓dn_gld, ↓dn_yld, ↓dn_len, ↓dn_gln, ↓dn_cc, ↓dn_cb, ↓dn_and, ↓dn_or, ↓dn_not, ↓dn_cite, ↓dn_ec, ↓dn_ei, ↓dn_skip, ↓dn_seq, ↓dn_set, ↓dn_inc, ↓dn_putf, ↓dn_putz, ↓dn_ast, ↓dn_exp, ↓dn_if, ↓dn_ret, ↓dn_retz, ↓dn_retv, ↓dn_brk, ↓dn_cont, ↓dn_cs, ↓dn_sw, ↓dn_pop32, ↓dn_pop64, ↓dn_aop, ↓dn_call, ↓dn_max, ↓dn_min, ↓dn_acp, ↓dn_i2l, ↓dn_args0, ↓dn_args1, og_pad, og_ent, og_rlt, og_rle, og_rgt, og_rge, og_req, og_rne, og_padd, og_psub, og_pmul, List.getD_cons_zero, List.getD_cons_succ, List.set_cons_zero, List.set_cons_succ, List.length_cons, List.length_nil, List.cons_append, List.nil_append, List.replicate, List.append_nil, Nat.reduceAdd, Nat.reduceSub, Nat.reduceEqDiff, if_true, if_false, reduceIte, Int.reduceAdd, Int.reduceSub, Int.reduceMul, Int.reduceNeg, Int.reduceLT, Int.reduceLE, Int.cast_ofNat_Int, true_or, or_true, true_and, and_true, false_and, List.mem_cons, List.not_mem_nil, or_false, false_or, ne_eq, og_i32, og_i64]
      rw [u1, ht4.1]
      by_cases hiL : i < L
      · have hb := sp.2.1 (tS B n a + i) (by omega) (by omega)
        rw [ht4.2.1 _ (by omega) hb.1]
        refine ⟨fun _ => ⟨by omega, by omega, r_isLetter ⟨fun _ => ?_, fun q => absurd hb.2 (by rw [ite00 q]; decide)⟩⟩, fun q => by omega⟩
        have h45 : h4 1000 5 = 0 := by rw [hf _ _ (by decide)]; exact g5.1
        rw [u1, hf 1000 36 (by decide), e36]
        refine ⟨by omega, fun q4 => ?_, fun q4 => ?_⟩
        · refine r_fail h45 (by decide) (fun h6 hf6 f6 => ?_)
          have q5 : (i : Int) = 6 := by omega
          rw [q5] at hf6
          exact hF _ (Or.inr ⟨hnm, by omega, rfl⟩) h6 hf6 (frX_tr fx3 (frX_tr (frX_2 hf) (fun i k hp => f6 i k (by omega))))
        · have hl := hb.2
          unfold isL at hl
          simp only [Bool.and_eq_true, decide_eq_true_eq] at hl
          have r1 := vr i (by omega)
          have r2 := vr (i + 1) (by omega)
          have ev : 27 * wV B (tS B n a) i + B (tS B n a + i) - 97 + 1 = wV B (tS B n a) (i + 1) := by rw [wV_s]; omega
          rw [ht4.2.1 _ (by omega) hb.1, ev]
          refine ⟨by omega, by omega, by omega, by omega, by omega, by omega, by omega, og_nx_mk hiL ⟨by omega, ⟨_, rfl⟩, by rw [og_up_eq]; omega, fun j k hjk => ?_⟩⟩
          have : og_up h4 1000 2 (tS B n a + (i : Int) + 1) j k = h4 j k := by unfold og_up; exact if_neg hjk
          rw [this]; exact hf j k hjk
      · have e : i = L := by omega
        subst e
        rw [← hL]
        refine ⟨fun hlt2 => ?_, fun _ => ?_⟩
        · rw [ht4.2.1 _ (by omega) hlt2]
          refine ⟨by omega, by omega, r_isLetter ⟨fun q => absurd ⟨hlt2, ite10 q⟩ sp.2.2, fun _ => ?_⟩⟩
          first | exact ⟨⟨_, rfl⟩, by omega, hi4, hf⟩ | exact ⟨⟨_, rfl⟩, hi4, hf⟩
        · first | exact ⟨⟨_, rfl⟩, by omega, hi4, hf⟩ | exact ⟨⟨_, rfl⟩, hi4, hf⟩
    · rintro e4 h4 ⟨⟨y, rfl⟩, u1, hL4, hf⟩
      simp -implicitDefEqProofs only [↓dn_den, ↓dn_loc, ↓dn_k, ↓dn_add, ↓dn_sub, ↓dn_mul, ↓dn_div, ↓dn_rem, ↓dn_bop, ↓dn_ladd, ↓dn_lsub, ↓dn_lmul, ↓dn_ldiv, ↓dn_lrem, ↓dn_land, ↓dn_l2i, ↓dn_neg, ↓dn_get, ↓dn_fix, ↓dn_ald, ↓dn_gld, ↓dn_yld, ↓dn_len, ↓dn_gln, ↓dn_cc, ↓dn_cb, ↓dn_and, ↓dn_or, ↓dn_not, ↓dn_cite, ↓dn_ec, ↓dn_ei, ↓dn_skip, ↓dn_seq, ↓dn_set, ↓dn_inc, ↓dn_putf, ↓dn_putz, ↓dn_ast, ↓dn_exp, ↓dn_if, ↓dn_ret, ↓dn_retz, ↓dn_retv, ↓dn_brk, ↓dn_cont, ↓dn_cs, ↓dn_sw, ↓dn_pop32, ↓dn_pop64, ↓dn_aop, ↓dn_call, ↓dn_max, ↓dn_min, ↓dn_acp, ↓dn_i2l, ↓dn_args0, ↓dn_args1, og_pad, og_ent, og_rlt, og_rle, og_rgt, og_rge, og_req, og_rne, og_padd, og_psub, og_pmul, List.getD_cons_zero, List.getD_cons_succ, List.set_cons_zero, List.set_cons_succ, List.length_cons, List.length_nil, List.cons_append, List.nil_append, List.replicate, List.append_nil, Nat.reduceAdd, Nat.reduceSub, Nat.reduceEqDiff, if_true, if_false, reduceIte, Int.reduceAdd, Int.reduceSub, Int.reduceMul, Int.reduceNeg, Int.reduceLT, Int.reduceLE, Int.cast_ofNat_Int, true_or, or_true, true_and, and_true, false_and, List.mem_cons, List.not_mem_nil, or_false, false_or, ne_eq]
      rw [u1]
      have fin := hT hnm (by omega) (og_up h4 1000 4 (tE B n a)) (refS_word hr.2.1 hk ⟨by rw [og_up_k (by decide), hf _ _ (by decide)]; exact g5.1, by rw [og_up_k (by decide), hf _ _ (by decide)]; exact g5.2⟩ (by rw [og_up_k (by decide)]; exact u1) og_up_eq) (by rw [og_up_k (by decide), hf _ _ (by decide)]; exact e36) (frX_tr fx3 (fun i k hp => by unfold og_up; rw [if_neg (by omega)]; exact hf i k (by omega)))
      rw [show (tE B n a - tS B n a).toNat = L by omega] at fin
      exact fin
  · have z := ite00 z
    exact bad (fun q => by
      have e := tE_1 q.1
      rw [bt_in (by omega) e.1, e.2.1] at z; cases z) h1 hr1 v1 (fun _ _ _ => rfl)
end
end
