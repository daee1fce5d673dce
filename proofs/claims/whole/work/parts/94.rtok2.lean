section
-- the reference's reading of words, signs, numbers: what is taken
section
variable {h h0 h' : Hp} {B : Int → Int} {n a : Int} {K : Int → Hp → Prop}
theorem tE_1 (hk : tK B n a = 1) : tS B n a < n ∧ isL (B (tS B n a)) = true ∧ tE B n a = tLe B n (tS B n a) := by
  have hlt : tS B n a < n := by
    by_cases q : tS B n a < n
    · exact q
    · unfold tK at hk; rw [if_neg q] at hk; omega
  have hl : isL (B (tS B n a)) = true := by
    by_cases q : isL (B (tS B n a)) = true
    · exact q
    · unfold tK at hk
      rw [if_pos hlt, if_neg q] at hk
      split at hk
      · split at hk <;> omega
      · omega
  exact ⟨hlt, hl, by unfold tE; rw [if_pos hlt, if_pos hl]⟩
theorem tE_2 (hk : tK B n a = 2) : tS B n a < n ∧ isD (B (tS B n a)) = true ∧ tE B n a = tDe B n (tS B n a) := by
  have hlt : tS B n a < n := by
    by_cases q : tS B n a < n
    · exact q
    · unfold tK at hk; rw [if_neg q] at hk; omega
  by_cases q : isL (B (tS B n a)) = true
  · unfold tK at hk
    rw [if_pos hlt, if_pos q] at hk
    split at hk <;> omega
  · have hd : isD (B (tS B n a)) = true := by
      by_cases p : isD (B (tS B n a)) = true
      · exact p
      · unfold tK at hk
        rw [if_pos hlt, if_neg q, if_neg p] at hk
        omega
    exact ⟨hlt, hd, by unfold tE; rw [if_pos hlt, if_neg q, if_pos hd]⟩
theorem LD {x : Int} (hl : isL x = true) : isD x = false := by
  unfold isL at hl
  unfold isD
  simp only [Bool.and_eq_true, decide_eq_true_eq] at hl
  simp only [Bool.and_eq_false_iff, decide_eq_false_iff_not]
  omega
theorem DL {x : Int} (hl : isD x = true) : isL x = false := by
  unfold isD at hl
  unfold isL
  simp only [Bool.and_eq_true, decide_eq_true_eq] at hl
  simp only [Bool.and_eq_false_iff, decide_eq_false_iff_not]
  omega
theorem bt_L {k : Int} (hk : 0 ≤ k) (hq : ¬ (k < n ∧ isL (B k) = true)) : isL (bt B n k) = false := by
  by_cases q : k < n
  · rw [bt_in hk q]
    have : ¬ isL (B k) = true := fun z => hq ⟨q, z⟩
    simpa using this
  · rw [bt_no (by omega)]; rfl
theorem bt_D {k : Int} (hk : 0 ≤ k) (hq : ¬ (k < n ∧ isD (B k) = true)) : isD (bt B n k) = false := by
  by_cases q : k < n
  · rw [bt_in hk q]
    have : ¬ isD (B k) = true := fun z => hq ⟨q, z⟩
    simpa using this
  · rw [bt_no (by omega)]; rfl
theorem refS_word (ha : 0 ≤ a ∧ a ≤ n) (hk : tK B n a = 1) (h5 : h' 1000 5 = 0 ∧ h' 1000 6 = -1) (h2 : h' 1000 2 = tE B n a) (h4 : h' 1000 4 = tE B n a) : refS h' B n (tE B n a) := by
  have e := tE_1 hk
  have s := tS_sp B n a
  have g := (tE_ge B n a).2 e.1
  have le := tE_le (B := B) ha.2
  have sp := rn_sp (fun k => isL (B k)) n (tS B n a)
  rw [show rn (fun k => isL (B k)) n (tS B n a) = tE B n a from e.2.2.symm] at sp
  have last := sp.2.1 (tE B n a - 1) (by omega) (by omega)
  have bl : bt B n (tE B n a - 1) = B (tE B n a - 1) := bt_in (by omega) last.1
  refine ⟨h5, ⟨by omega, le⟩, ⟨fun _ => bt_L (by omega) sp.2.2, fun z => ?_⟩, ⟨by omega, by have := (tS_sp B n (tE B n a)).1; omega⟩, by omega, fun _ => ?_, fun _ => h4⟩
  · rw [bl, LD last.2] at z; cases z
  · rw [bl]; unfold aln; rw [last.2]; rfl
theorem refS_num (ha : 0 ≤ a ∧ a ≤ n) (hk : tK B n a = 2) (h5 : h' 1000 5 = 0 ∧ h' 1000 6 = -1) (h2 : h' 1000 2 = tE B n a) (h4 : h' 1000 4 = tE B n a) : refS h' B n (tE B n a) := by
  have e := tE_2 hk
  have s := tS_sp B n a
  have g := (tE_ge B n a).2 e.1
  have le := tE_le (B := B) ha.2
  have sp := rn_sp (fun k => isD (B k)) n (tS B n a)
  rw [show rn (fun k => isD (B k)) n (tS B n a) = tE B n a from e.2.2.symm] at sp
  have last := sp.2.1 (tE B n a - 1) (by omega) (by omega)
  have bl : bt B n (tE B n a - 1) = B (tE B n a - 1) := bt_in (by omega) last.1
  refine ⟨h5, ⟨by omega, le⟩, ⟨fun z => ?_, fun _ => bt_D (by omega) sp.2.2⟩, ⟨by omega, by have := (tS_sp B n (tE B n a)).1; omega⟩, by omega, fun _ => ?_, fun _ => h4⟩
  · rw [bl, DL last.2] at z; cases z
  · rw [bl]; unfold aln; rw [last.2]; simp
theorem sgn_iff {x : Int} (ha : 0 ≤ a) (hx : 0 ≤ x ∧ aln x = false) : sgn B n a = x ↔ bt B n (tS B n a) = x := by
  have s := tS_sp B n a
  constructor
  · intro e
    have g := sgn_go (B := B) (n := n) (a := a) (by omega)
    unfold sgn at e
    rw [if_pos g.2.2] at e
    rw [bt_in (by omega) g.2.1]
    exact e
  · intro e
    have hlt : tS B n a < n := by
      by_cases q : tS B n a < n
      · exact q
      · rw [bt_no (by omega)] at e; omega
    rw [bt_in (by omega) hlt] at e
    have hx2 := hx.2
    unfold aln at hx2
    simp only [Bool.or_eq_false_iff] at hx2
    have hk : tK B n a = 3 := by
      unfold tK
      rw [if_pos hlt, e, if_neg (by rw [hx2.1]; decide), if_neg (by rw [hx2.2]; decide)]
    unfold sgn
    rw [if_pos hk]
    exact e
theorem refS_sgn {x : Int} (hx : 0 ≤ x ∧ aln x = false) (hs : sgn B n a = x) (hr : refS h B n a) (h5 : h' 1000 5 = 0 ∧ h' 1000 6 = -1) (h2 : h' 1000 2 = tS B n a + 1) (h4 : h' 1000 4 = h 1000 4) : refS h' B n (tE B n a) := by
  obtain ⟨r0, r1, r2, r3, r4⟩ := hr
  have s := tS_sp B n a
  have g := sgn_go (B := B) (n := n) (a := a) (by omega)
  have hb := (sgn_iff r1.1 hx).mp hs
  have hB : B (tS B n a) = x := by rw [bt_in (by omega) g.2.1] at hb; exact hb
  have hx2 := hx.2
  unfold aln at hx2
  simp only [Bool.or_eq_false_iff] at hx2
  have te : tE B n a = tS B n a + 1 := by
    unfold tE
    rw [if_pos g.2.1, hB, if_neg (by rw [hx2.1]; decide), if_neg (by rw [hx2.2]; decide)]
  rw [te]
  have e1 : tS B n a + 1 - 1 = tS B n a := by omega
  have s2 := (tS_sp B n (tS B n a + 1)).1
  refine ⟨h5, ⟨by omega, by omega⟩, ?_, ⟨by omega, by omega⟩, by omega, fun z => by omega, fun z => ?_⟩
  · unfold gpo
    rw [e1, hb, hx2.1, hx2.2]
    exact ⟨fun z => (by cases z), fun z => (by cases z)⟩
  · rw [e1, hb, hx.2] at z; cases z
theorem frX_2 (hf : ∀ i k, ¬ (i = 1000 ∧ k = 2) → h' i k = h i k) : frX h h' := fun i k hp => hf i k (by omega)
theorem r_takes {w : Int} (hw : idW w) (ht : txM h B n) (hr : refS h B n a) (hT : wrd B n a = wnM w → ∀ h', refS h' B n (tE B n a) → frX h h' → K 1 h') (hF : ¬ wrd B n a = wnM w → ∀ h', refS h' B n a → h' 1000 2 = tS B n a → frX h h' → K 0 h') : m_Model_takes [1000, w] h K := by
  have wi := wd_id hw
  have hn := ht.2.2.1
  unfold m_Model_takes
  simp -implicitDefEqProofs only [↓dn_den, ↓dn_loc, ↓dn_k, ↓dn_add, ↓dn_sub, ↓dn_mul, ↓dn_div, ↓dn_rem, ↓dn_bop, ↓dn_ladd, ↓dn_lsub, ↓dn_lmul, ↓dn_ldiv, ↓dn_lrem, ↓dn_land, ↓dn_l2i, ↓dn_neg, ↓dn_get, ↓dn_fix, ↓dn_ald, ↓dn_gld, ↓dn_yld, ↓dn_len, ↓dn_gln, ↓dn_cc, ↓dn_cb, ↓dn_and, ↓dn_or, ↓dn_not, ↓dn_cite, ↓dn_ec, ↓dn_ei, ↓dn_skip, ↓dn_seq, ↓dn_set, ↓dn_inc, ↓dn_putf, ↓dn_putz, ↓dn_ast, ↓dn_exp, ↓dn_if, ↓dn_ret, ↓dn_retz, ↓dn_retv, ↓dn_brk, ↓dn_cont, ↓dn_cs, ↓dn_sw, ↓dn_pop32, ↓dn_pop64, ↓dn_aop, ↓dn_call, ↓dn_max, ↓dn_min, ↓dn_acp, ↓dn_i2l, ↓dn_args0, ↓dn_args1, og_pad, og_ent, og_rlt, og_rle, og_rgt, og_rge, og_req, og_rne, og_padd, og_psub, og_pmul, List.getD_cons_zero, List.getD_cons_succ, List.set_cons_zero, List.set_cons_succ, List.length_cons, List.length_nil, List.cons_append, List.nil_append, List.replicate, List.append_nil, Nat.reduceAdd, Nat.reduceSub, Nat.reduceEqDiff, if_true, if_false, reduceIte, Int.reduceAdd, Int.reduceSub, Int.reduceMul, Int.reduceNeg, Int.reduceLT, Int.reduceLE, Int.cast_ofNat_Int, true_or, or_true, true_and, and_true, false_and, List.mem_cons, List.not_mem_nil, or_false, false_or, ne_eq, og_i32]
  refine r_isHere hw ht hr (fun h1 hr1 v1 f1 => ⟨fun z => ?_, fun z => ?_⟩)
  · have z := of_decide_eq_true (p := wrd B n a = wnM w) (by
      by_cases q : wrd B n a = wnM w
      · exact decide_eq_true q
      · rw [if_neg q] at z; exact absurd rfl z)
    have g := wrd_go (B := B) (n := n) (a := a) (by rw [z]; exact wi.2.1)
    have wf := (word_iff (B := B) (n := n) (a := a) (w := (wnM w).toNat) (by omega) g.2.2.1).mp (by rw [Int.toNat_of_nonneg wi.2.1]; exact z)
    rw [← wi.1] at wf
    have le := tE_le (B := B) hr.2.1.2
    rw [v1, wi.2.2.2]
    have e1 : tS B n a + ((wdM w).length : Int) = tE B n a := by omega
    rw [e1, og_up_eq]
    have := (tS_sp B n a).1
    have hr0 := hr.2.1
    refine ⟨by omega, ?_⟩
    have fin := hT z (og_up (og_up h1 1000 2 (tE B n a)) 1000 4 (tE B n a)) (refS_word hr.2.1 g.2.2.1 ⟨by rw [og_up_k (by decide), og_up_k (by decide)]; exact hr1.1.1, by rw [og_up_k (by decide), og_up_k (by decide)]; exact hr1.1.2⟩ (by rw [og_up_k (by decide), og_up_eq]) og_up_eq) (fun i k hp => by
      unfold og_up
      rw [if_neg (by omega), if_neg (by omega)]
      exact f1 i k (by omega))
    first | exact fin | exact ⟨by decide, fin⟩
  · have z : ¬ wrd B n a = wnM w := fun q => by rw [if_pos q] at z; exact absurd z (by decide)
    have fin := hF z h1 hr1 v1 (frX_2 f1)
    first | exact fin | exact ⟨by decide, fin⟩
theorem r_takesF {w : Int} (h5 : h 1000 5 ≠ 0) (hK : K 0 h) : m_Model_takes [1000, w] h K := by
  unfold m_Model_takes
  simp -implicitDefEqProofs only [↓dn_den, ↓dn_loc, ↓dn_k, ↓dn_add, ↓dn_sub, ↓dn_mul, ↓dn_div, ↓dn_rem, ↓dn_bop, ↓dn_ladd, ↓dn_lsub, ↓dn_lmul, ↓dn_ldiv, ↓dn_lrem, ↓dn_land, ↓dn_l2i, ↓dn_neg, ↓dn_get, ↓dn_fix, ↓dn_ald, ↓dn_gld, ↓dn_yld, ↓dn_len, ↓dn_gln, ↓dn_cc, ↓dn_cb, ↓dn_and, ↓dn_or, ↓dn_not, ↓dn_cite, ↓dn_ec, ↓dn_ei, ↓dn_skip, ↓dn_seq, ↓dn_set, ↓dn_inc, ↓dn_putf, ↓dn_putz, ↓dn_ast, ↓dn_exp, ↓dn_if, ↓dn_ret, ↓dn_retz, ↓dn_retv, ↓dn_brk, ↓dn_cont, ↓dn_cs, ↓dn_sw, ↓dn_pop32, ↓dn_pop64, ↓dn_aop, ↓dn_call, ↓dn_max, ↓dn_min, ↓dn_acp, ↓dn_i2l, ↓dn_args0, ↓dn_args1, og_pad, og_ent, og_rlt, og_rle, og_rgt, og_rge, og_req, og_rne, og_padd, og_psub, og_pmul, List.getD_cons_zero, List.getD_cons_succ, List.set_cons_zero, List.set_cons_succ, List.length_cons, List.length_nil, List.cons_append, List.nil_append, List.replicate, List.append_nil, Nat.reduceAdd, Nat.reduceSub, Nat.reduceEqDiff, if_true, if_false, reduceIte, Int.reduceAdd, Int.reduceSub, Int.reduceMul, Int.reduceNeg, Int.reduceLT, Int.reduceLE, Int.cast_ofNat_Int, true_or, or_true, true_and, and_true, false_and, List.mem_cons, List.not_mem_nil, or_false, false_or, ne_eq]
  refine r_isHereF h5 ⟨fun z => absurd rfl z, fun _ => ?_⟩
  first | exact hK | exact ⟨by decide, hK⟩
theorem r_asks {w : Int} (hw : idW w) (ht : txM h B n) (hr : refS h B n a) (hT : wrd B n a = wnM w → ∀ h', refS h' B n (tE B n a) → frX h h' → K 0 h') (hF : ¬ wrd B n a = wnM w → ∀ h', fltM h' 1 (tS B n a) → frX h h' → K 0 h') : m_Model_asks [1000, w] h K := by
  unfold m_Model_asks
  simp -implicitDefEqProofs only [↓dn_den, ↓dn_loc, ↓dn_k, ↓dn_add, ↓dn_sub, ↓dn_mul, ↓dn_div, ↓dn_rem, ↓dn_bop, ↓dn_ladd, ↓dn_lsub, ↓dn_lmul, ↓dn_ldiv, ↓dn_lrem, ↓dn_land, ↓dn_l2i, ↓dn_neg, ↓dn_get, ↓dn_fix, ↓dn_ald, ↓dn_gld, ↓dn_yld, ↓dn_len, ↓dn_gln, ↓dn_cc, ↓dn_cb, ↓dn_and, ↓dn_or, ↓dn_not, ↓dn_cite, ↓dn_ec, ↓dn_ei, ↓dn_skip, ↓dn_seq, ↓dn_set, ↓dn_inc, ↓dn_putf, ↓dn_putz, ↓dn_ast, ↓dn_exp, ↓dn_if, ↓dn_ret, ↓dn_retz, ↓dn_retv, ↓dn_brk, ↓dn_cont, ↓dn_cs, ↓dn_sw, ↓dn_pop32, ↓dn_pop64, ↓dn_aop, ↓dn_call, ↓dn_max, ↓dn_min, ↓dn_acp, ↓dn_i2l, ↓dn_args0, ↓dn_args1, og_pad, og_ent, og_rlt, og_rle, og_rgt, og_rge, og_req, og_rne, og_padd, og_psub, og_pmul, List.getD_cons_zero, List.getD_cons_succ, List.set_cons_zero, List.set_cons_succ, List.length_cons, List.length_nil, List.cons_append, List.nil_append, List.replicate, List.append_nil, Nat.reduceAdd, Nat.reduceSub, Nat.reduceEqDiff, if_true, if_false, reduceIte, Int.reduceAdd, Int.reduceSub, Int.reduceMul, Int.reduceNeg, Int.reduceLT, Int.reduceLE, Int.cast_ofNat_Int, true_or, or_true, true_and, and_true, false_and, List.mem_cons, List.not_mem_nil, or_false, false_or, ne_eq]
  refine ⟨fun _ => ?_, fun z => absurd hr.1.1 z⟩
  refine r_takes hw ht hr (fun z h1 hr1 f1 => ⟨fun _ => hT z h1 hr1 f1, fun y => absurd y (by decide)⟩) (fun z h1 hr1 v1 f1 => ⟨fun y => absurd rfl y, fun _ => ?_⟩)
  refine r_fail hr1.1.1 (by decide) (fun h2 hf2 f2 => hF z h2 (by rw [v1] at hf2; exact hf2) (frX_tr f1 (fun i k hp => f2 i k (by omega))))
theorem r_asksF {w : Int} (h5 : h 1000 5 ≠ 0) (hK : K 0 h) : m_Model_asks [1000, w] h K := by
  unfold m_Model_asks
  simp -implicitDefEqProofs only [↓dn_den, ↓dn_loc, ↓dn_k, ↓dn_add, ↓dn_sub, ↓dn_mul, ↓dn_div, ↓dn_rem, ↓dn_bop, ↓dn_ladd, ↓dn_lsub, ↓dn_lmul, ↓dn_ldiv, ↓dn_lrem, ↓dn_land, ↓dn_l2i, ↓dn_neg, ↓dn_get, ↓dn_fix, ↓dn_ald, ↓dn_gld, ↓dn_yld, ↓dn_len, ↓dn_gln, ↓dn_cc, ↓dn_cb, ↓dn_and, ↓dn_or, ↓dn_not, ↓dn_cite, ↓dn_ec, ↓dn_ei, ↓dn_skip, ↓dn_seq, ↓dn_set, ↓dn_inc, ↓dn_putf, ↓dn_putz, ↓dn_ast, ↓dn_exp, ↓dn_if, ↓dn_ret, ↓dn_retz, ↓dn_retv, ↓dn_brk, ↓dn_cont, ↓dn_cs, ↓dn_sw, ↓dn_pop32, ↓dn_pop64, ↓dn_aop, ↓dn_call, ↓dn_max, ↓dn_min, ↓dn_acp, ↓dn_i2l, ↓dn_args0, ↓dn_args1, og_pad, og_ent, og_rlt, og_rle, og_rgt, og_rge, og_req, og_rne, og_padd, og_psub, og_pmul, List.getD_cons_zero, List.getD_cons_succ, List.set_cons_zero, List.set_cons_succ, List.length_cons, List.length_nil, List.cons_append, List.nil_append, List.replicate, List.append_nil, Nat.reduceAdd, Nat.reduceSub, Nat.reduceEqDiff, if_true, if_false, reduceIte, Int.reduceAdd, Int.reduceSub, Int.reduceMul, Int.reduceNeg, Int.reduceLT, Int.reduceLE, Int.cast_ofNat_Int, true_or, or_true, true_and, and_true, false_and, List.mem_cons, List.not_mem_nil, or_false, false_or, ne_eq]
  exact ⟨fun z => absurd z h5, fun _ => hK⟩
theorem r_takesSign {x : Int} (hx : 0 ≤ x ∧ aln x = false) (ht : txM h B n) (hr : refS h B n a) (hT : sgn B n a = x → ∀ h', refS h' B n (tE B n a) → frX h h' → K 1 h') (hF : ¬ sgn B n a = x → ∀ h', refS h' B n a → h' 1000 2 = tS B n a → frX h h' → K 0 h') : m_Model_takesSign [1000, x] h K := by
  have hn := ht.2.2.1
  have sp := tS_sp B n a
  have le : tS B n a ≤ n := rn_le hr.2.1.2
  have si := sgn_iff (B := B) (n := n) hr.2.1.1 hx
  have hr0 := hr.2.1
  unfold m_Model_takesSign
  simp -implicitDefEqProofs only [↓dn_den, ↓dn_loc, ↓dn_k, ↓dn_add, ↓dn_sub, ↓dn_mul, ↓dn_div, ↓dn_rem, ↓dn_bop, ↓dn_ladd, ↓dn_lsub, ↓dn_lmul, ↓dn_ldiv, ↓dn_lrem, ↓dn_land, ↓dn_l2i, ↓dn_neg, ↓dn_get, ↓dn_fix, ↓dn_ald, ↓dn_gld, ↓dn_yld, ↓dn_len, ↓dn_gln, ↓dn_cc, ↓dn_cb, ↓dn_and, ↓dn_or, ↓dn_not, ↓dn_cite, ↓dn_ec, ↓dn_ei, ↓dn_skip, ↓dn_seq, ↓dn_set, ↓dn_inc, ↓dn_putf, ↓dn_putz, ↓dn_ast, ↓dn_exp, ↓dn_if, ↓dn_ret, ↓dn_retz, ↓dn_retv, ↓dn_brk, ↓dn_cont, ↓dn_cs, ↓dn_sw, ↓dn_pop32, ↓dn_pop64, ↓dn_aop, ↓dn_call, ↓dn_max, ↓dn_min, ↓dn_acp, ↓dn_i2l, ↓dn_args0, ↓dn_args1, og_pad, og_ent, og_rlt, og_rle, og_rgt, og_rge, og_req, og_rne, og_padd, og_psub, og_pmul, List.getD_cons_zero, List.getD_cons_succ, List.set_cons_zero, List.set_cons_succ, List.length_cons, List.length_nil, List.cons_append, List.nil_append, List.replicate, List.append_nil, Nat.reduceAdd, Nat.reduceSub, Nat.reduceEqDiff, if_true, if_false, reduceIte, Int.reduceAdd, Int.reduceSub, Int.reduceMul, Int.reduceNeg, Int.reduceLT, Int.reduceLE, Int.cast_ofNat_Int, true_or, or_true, true_and, and_true, false_and, List.mem_cons, List.not_mem_nil, or_false, false_or, ne_eq, og_i32]
  rw [hr.1.1]
  refine ⟨fun z => absurd (by trivial) z, fun _ => ?_⟩
  refine r_look ht hr (fun h1 hr1 v1 f1 => ⟨fun z => ?_, fun z => ?_⟩)
  · have fin := hF (fun q => z (si.mp q)) h1 hr1 v1 (frX_2 f1)
    first | exact fin | exact ⟨by decide, fin⟩
  · have z : bt B n (tS B n a) = x := by simpa using z
    rw [v1]
    refine ⟨by omega, ?_⟩
    have fin := hT (si.mpr z) (og_up h1 1000 2 (tS B n a + 1)) (refS_sgn hx (si.mpr z) hr1 ⟨by rw [og_up_k (by decide)]; exact hr1.1.1, by rw [og_up_k (by decide)]; exact hr1.1.2⟩ og_up_eq (og_up_k (by decide))) (fun i k hp => by
      unfold og_up
      rw [if_neg (by omega)]
      exact f1 i k (by omega))
    first | exact fin | exact ⟨by decide, fin⟩
theorem r_takesSignF {x : Int} (h5 : h 1000 5 ≠ 0) (hK : K 0 h) : m_Model_takesSign [1000, x] h K := by
  unfold m_Model_takesSign
  simp -implicitDefEqProofs only [↓dn_den, ↓dn_loc, ↓dn_k, ↓dn_add, ↓dn_sub, ↓dn_mul, ↓dn_div, ↓dn_rem, ↓dn_bop, ↓dn_ladd, ↓dn_lsub, ↓dn_lmul, ↓dn_ldiv, ↓dn_lrem, ↓dn_land, ↓dn_l2i, ↓dn_neg, ↓dn_get, ↓dn_fix, ↓dn_ald, ↓dn_gld, ↓dn_yld, ↓dn_len, ↓dn_gln, ↓dn_cc, ↓dn_cb, ↓dn_and, ↓dn_or, ↓dn_not, ↓dn_cite, ↓dn_ec, ↓dn_ei, ↓dn_skip, ↓dn_seq, ↓dn_set, ↓dn_inc, ↓dn_putf, ↓dn_putz, ↓dn_ast, ↓dn_exp, ↓dn_if, ↓dn_ret, ↓dn_retz, ↓dn_retv, ↓dn_brk, ↓dn_cont, ↓dn_cs, ↓dn_sw, ↓dn_pop32, ↓dn_pop64, ↓dn_aop, ↓dn_call, ↓dn_max, ↓dn_min, ↓dn_acp, ↓dn_i2l, ↓dn_args0, ↓dn_args1, og_pad, og_ent, og_rlt, og_rle, og_rgt, og_rge, og_req, og_rne, og_padd, og_psub, og_pmul, List.getD_cons_zero, List.getD_cons_succ, List.set_cons_zero, List.set_cons_succ, List.length_cons, List.length_nil, List.cons_append, List.nil_append, List.replicate, List.append_nil, Nat.reduceAdd, Nat.reduceSub, Nat.reduceEqDiff, if_true, if_false, reduceIte, Int.reduceAdd, Int.reduceSub, Int.reduceMul, Int.reduceNeg, Int.reduceLT, Int.reduceLE, Int.cast_ofNat_Int, true_or, or_true, true_and, and_true, false_and, List.mem_cons, List.not_mem_nil, or_false, false_or, ne_eq]
  refine ⟨fun _ => ?_, fun z => absurd h5 z⟩
  first | exact hK | exact ⟨by decide, hK⟩
theorem r_asksSign {x : Int} (hx : 0 ≤ x ∧ aln x = false) (ht : txM h B n) (hr : refS h B n a) (hT : sgn B n a = x → ∀ h', refS h' B n (tE B n a) → frX h h' → K 0 h') (hF : ¬ sgn B n a = x → ∀ h', fltM h' 1 (tS B n a) → frX h h' → K 0 h') : m_Model_asksSign [1000, x] h K := by
  unfold m_Model_asksSign
  simp -implicitDefEqProofs only [↓dn_den, ↓dn_loc, ↓dn_k, ↓dn_add, ↓dn_sub, ↓dn_mul, ↓dn_div, ↓dn_rem, ↓dn_bop, ↓dn_ladd, ↓dn_lsub, ↓dn_lmul, ↓dn_ldiv, ↓dn_lrem, ↓dn_land, ↓dn_l2i, ↓dn_neg, ↓dn_get, ↓dn_fix, ↓dn_ald, ↓dn_gld, ↓dn_yld, ↓dn_len, ↓dn_gln, ↓dn_cc, ↓dn_cb, ↓dn_and, ↓dn_or, ↓dn_not, ↓dn_cite, ↓dn_ec, ↓dn_ei, ↓dn_skip, ↓dn_seq, ↓dn_set, ↓dn_inc, ↓dn_putf, ↓dn_putz, ↓dn_ast, ↓dn_exp, ↓dn_if, ↓dn_ret, ↓dn_retz, ↓dn_retv, ↓dn_brk, ↓dn_cont, ↓dn_cs, ↓dn_sw, ↓dn_pop32, ↓dn_pop64, ↓dn_aop, ↓dn_call, ↓dn_max, ↓dn_min, ↓dn_acp, ↓dn_i2l, ↓dn_args0, ↓dn_args1, og_pad, og_ent, og_rlt, og_rle, og_rgt, og_rge, og_req, og_rne, og_padd, og_psub, og_pmul, List.getD_cons_zero, List.getD_cons_succ, List.set_cons_zero, List.set_cons_succ, List.length_cons, List.length_nil, List.cons_append, List.nil_append, List.replicate, List.append_nil, Nat.reduceAdd, Nat.reduceSub, Nat.reduceEqDiff, if_true, if_false, reduceIte, Int.reduceAdd, Int.reduceSub, Int.reduceMul, Int.reduceNeg, Int.reduceLT, Int.reduceLE, Int.cast_ofNat_Int, true_or, or_true, true_and, and_true, false_and, List.mem_cons, List.not_mem_nil, or_false, false_or, ne_eq]
  refine ⟨fun _ => ?_, fun z => absurd hr.1.1 z⟩
  refine r_takesSign hx ht hr (fun z h1 hr1 f1 => ⟨fun _ => hT z h1 hr1 f1, fun y => absurd y (by decide)⟩) (fun z h1 hr1 v1 f1 => ⟨fun y => absurd rfl y, fun _ => ?_⟩)
  refine r_fail hr1.1.1 (by decide) (fun h2 hf2 f2 => hF z h2 (by rw [v1] at hf2; exact hf2) (frX_tr f1 (fun i k hp => f2 i k (by omega))))
theorem r_asksSignF {x : Int} (h5 : h 1000 5 ≠ 0) (hK : K 0 h) : m_Model_asksSign [1000, x] h K := by
  unfold m_Model_asksSign
  simp -implicitDefEqProofs only [↓dn_den, ↓dn_loc, ↓dn_k, ↓dn_add, ↓dn_sub, ↓dn_mul, ↓dn_div, ↓dn_rem, ↓dn_bop, ↓dn_ladd, ↓dn_lsub, ↓dn_lmul, ↓dn_ldiv, ↓dn_lrem, ↓dn_land, ↓dn_l2i, ↓dn_neg, ↓dn_get, ↓dn_fix, ↓dn_ald, ↓dn_gld, ↓dn_yld, ↓dn_len, ↓dn_gln, ↓dn_cc, ↓dn_cb, ↓dn_and, ↓dn_or, ↓dn_not, ↓dn_cite, ↓dn_ec, ↓dn_ei, ↓dn_skip, ↓dn_seq, ↓dn_set, ↓dn_inc, ↓dn_putf, ↓dn_putz, ↓dn_ast, ↓dn_exp, ↓dn_if, ↓dn_ret, ↓dn_retz, ↓dn_retv, ↓dn_brk, ↓dn_cont, ↓dn_cs, ↓dn_sw, ↓dn_pop32, ↓dn_pop64, ↓dn_aop, ↓dn_call, ↓dn_max, ↓dn_min, ↓dn_acp, ↓dn_i2l, ↓dn_args0, ↓dn_args1, og_pad, og_ent, og_rlt, og_rle, og_rgt, og_rge, og_req, og_rne, og_padd, og_psub, og_pmul, List.getD_cons_zero, List.getD_cons_succ, List.set_cons_zero, List.set_cons_succ, List.length_cons, List.length_nil, List.cons_append, List.nil_append, List.replicate, List.append_nil, Nat.reduceAdd, Nat.reduceSub, Nat.reduceEqDiff, if_true, if_false, reduceIte, Int.reduceAdd, Int.reduceSub, Int.reduceMul, Int.reduceNeg, Int.reduceLT, Int.reduceLE, Int.cast_ofNat_Int, true_or, or_true, true_and, and_true, false_and, List.mem_cons, List.not_mem_nil, or_false, false_or, ne_eq]
  exact ⟨fun z => absurd z h5, fun _ => hK⟩
theorem r_numberF {l m : Int} (h5 : h 1000 5 ≠ 0) (hK : K 0 h) : m_Model_number [1000, l, m] h K := by
  unfold m_Model_number
  simp -implicitDefEqProofs only [↓dn_den, ↓dn_loc, ↓dn_k, ↓dn_add, ↓dn_sub, ↓dn_mul, ↓dn_div, ↓dn_rem, ↓dn_bop, ↓dn_ladd, ↓dn_lsub, ↓dn_lmul, ↓dn_ldiv, ↓dn_lrem, ↓dn_land, ↓dn_l2i, ↓dn_neg, ↓dn_get, ↓dn_fix, ↓dn_ald, ↓dn_gld, ↓dn_yld, ↓dn_len, ↓dn_gln, ↓dn_cc, ↓dn_cb, ↓dn_and, ↓dn_or, ↓dn_not, ↓dn_cite, ↓dn_ec, ↓dn_ei, ↓dn_skip, ↓dn_seq, ↓dn_set, ↓dn_inc, ↓dn_putf, ↓dn_putz, ↓dn_ast, ↓dn_exp, ↓dn_if, ↓dn_ret, ↓dn_retz, ↓dn_retv, ↓dn_brk, ↓dn_cont, ↓dn_cs, ↓dn_sw, ↓dn_pop32, ↓dn_pop64, ↓dn_aop, ↓dn_call, ↓dn_max, ↓dn_min, ↓dn_acp, ↓dn_i2l, ↓dn_args0, ↓dn_args1, og_pad, og_ent, og_rlt, og_rle, og_rgt, og_rge, og_req, og_rne, og_padd, og_psub, og_pmul, List.getD_cons_zero, List.getD_cons_succ, List.set_cons_zero, List.set_cons_succ, List.length_cons, List.length_nil, List.cons_append, List.nil_append, List.replicate, List.append_nil, Nat.reduceAdd, Nat.reduceSub, Nat.reduceEqDiff, if_true, if_false, reduceIte, Int.reduceAdd, Int.reduceSub, Int.reduceMul, Int.reduceNeg, Int.reduceLT, Int.reduceLE, Int.cast_ofNat_Int, true_or, or_true, true_and, and_true, false_and, List.mem_cons, List.not_mem_nil, or_false, false_or, ne_eq]
  exact ⟨fun _ => hK, fun z => absurd h5 z⟩
theorem r_number {l m : Int} (ht : txM h B n) (hr : refS h B n a)
    (hT : tK B n a = 2 → tE B n a - tS B n a ≤ 4 → l ≤ tN B n a ∧ tN B n a ≤ m → ∀ h', refS h' B n (tE B n a) → frX h h' → K (tN B n a) h')
    (hF : ∀ v k p, ((¬ tK B n a = 2 ∧ k = 1 ∧ p = tS B n a) ∨ (tK B n a = 2 ∧ 4 < tE B n a - tS B n a ∧ k = 1 ∧ p = tS B n a + 4) ∨ (tK B n a = 2 ∧ tE B n a - tS B n a ≤ 4 ∧ ¬ (l ≤ tN B n a ∧ tN B n a ≤ m) ∧ k = 2 ∧ p = tS B n a)) → (0 ≤ v ∧ v ≤ 9999) → ∀ h', fltM h' k p → frX h h' → K v h') : m_Model_number [1000, l, m] h K := by
  have hn := ht.2.2.1
  have s0 := tS_sp B n a
  have le : tS B n a ≤ n := rn_le hr.2.1.2
  have hr0 := hr.2.1
  unfold m_Model_number
  simp -implicitDefEqProofs only [↓dn_den, ↓dn_loc, ↓dn_k, ↓dn_add, ↓dn_sub, ↓dn_mul, ↓dn_div, ↓dn_rem, ↓dn_bop, ↓dn_ladd, ↓dn_lsub, ↓dn_lmul, ↓dn_ldiv, ↓dn_lrem, ↓dn_land, ↓dn_l2i, ↓dn_neg, ↓dn_get, ↓dn_fix, ↓dn_ald, ↓dn_gld, ↓dn_yld, ↓dn_len, ↓dn_gln, ↓dn_cc, ↓dn_cb, ↓dn_and, ↓dn_or, ↓dn_not, ↓dn_cite, ↓dn_ec, ↓dn_ei, ↓dn_skip, ↓dn_seq, ↓dn_set, ↓dn_inc, ↓dn_putf, ↓dn_putz, ↓dn_ast, ↓dn_exp, ↓dn_if, ↓dn_ret, ↓dn_retz, ↓dn_retv, ↓dn_brk, ↓dn_cont, ↓dn_cs, ↓dn_sw, ↓dn_pop32, ↓dn_pop64, ↓dn_aop, ↓dn_call, ↓dn_max, ↓dn_min, ↓dn_acp, ↓dn_i2l, ↓dn_args0, ↓dn_args1, og_pad, og_ent, og_rlt, og_rle, og_rgt, og_rge, og_req, og_rne, og_padd, og_psub, og_pmul, List.getD_cons_zero, List.getD_cons_succ, List.set_cons_zero, List.set_cons_succ, List.length_cons, List.length_nil, List.cons_append, List.nil_append, List.replicate, List.append_nil, Nat.reduceAdd, Nat.reduceSub, Nat.reduceEqDiff, if_true, if_false, reduceIte, Int.reduceAdd, Int.reduceSub, Int.reduceMul, Int.reduceNeg, Int.reduceLT, Int.reduceLE, Int.cast_ofNat_Int, true_or, or_true, true_and, and_true, false_and, List.mem_cons, List.not_mem_nil, or_false, false_or, ne_eq]
  rw [hr.1.1]
  refine ⟨fun z => absurd (by trivial) z, fun _ => ?_⟩
  refine r_look ht hr (fun h1 hr1 v1 f1 => ?_)
  have fx1 := frX_2 f1
  have ht1 := txM_X ht fx1
  have bad : ¬ tK B n a = 2 → m_Model_fail [1000, 1, tS B n a] h1 (fun _ h' => K 0 h') := fun hk => r_fail hr1.1.1 (by decide) (fun h2 hf2 f2 => hF 0 1 _ (Or.inl ⟨hk, rfl, rfl⟩) (by decide) h2 hf2 (frX_tr fx1 (fun i k hp => f2 i k (by omega))))
  refine r_isDigit ⟨fun z => ?_, fun z => ?_⟩
  · have z := ite10 z
    have hlt : tS B n a < n := by
      by_cases q : tS B n a < n
      · exact q
      · rw [bt_no (by omega)] at z; cases z
    rw [bt_in (by omega) hlt] at z
    have k2 := tK_2 hr1 hlt (DL z) z
    rw [v1]
    refine ⟨fun y => ?_, fun y => ?_⟩
    · exact bad (by rw [k2.1, if_pos y]; decide)
    have hk : tK B n a = 2 := by rw [k2.1, if_neg y]
    have sp := rn_sp (fun k => isD (B k)) n (tS B n a)
    rw [show rn (fun k => isD (B k)) n (tS B n a) = tE B n a from k2.2.symm] at sp
    have te := tE_le (B := B) hr.2.1.2
    obtain ⟨L, hL⟩ : ∃ L : Nat, tE B n a = tS B n a + L := ⟨(tE B n a - tS B n a).toNat, by omega⟩
    have vr : ∀ k : Nat, k ≤ min L 4 → 0 ≤ dV B (tS B n a) k ∧ dV B (tS B n a) k ≤ 9999 := fun k hk => dV_rg k (by omega) (fun j hj => (sp.2.1 (tS B n a + j) (by omega) (by omega)).2)
    refine ⟨fun e2 h2 => e2 = [1000, l, m, tS B n a, tN B n a] ∧ h2 1000 2 = tE B n a ∧ L ≤ 4 ∧ (∀ i k, ¬ (i = 1000 ∧ k = 2) → h2 i k = h1 i k), ?_, ?_⟩
    · refine og_loop L (fun i e2 h2 => i ≤ 4 ∧ e2 = [1000, l, m, tS B n a, dV B (tS B n a) i] ∧ h2 1000 2 = tS B n a + i ∧ (∀ i k, ¬ (i = 1000 ∧ k = 2) → h2 i k = h1 i k)) ⟨by omega, rfl, by rw [v1]; simp, fun _ _ _ => rfl⟩ ?_
      rintro i e2 h2 hi ⟨hi4, rfl, u1, hf⟩
      have ht2 : txM h2 B n := txM_fr ht1 (fun i k hi => hf i k (by unfold idW at hi; omega))
      simp -implicitDefEqProofs only [↓dn_den, ↓dn_loc, ↓dn_k, ↓dn_add, ↓dn_sub, ↓dn_mul, ↓dn_div, ↓dn_rem, ↓dn_bop, ↓dn_ladd, ↓dn_lsub, ↓dn_lmul, ↓dn_ldiv, ↓dn_lrem, ↓dn_land, ↓dn_l2i, ↓dn_neg, ↓dn_get, ↓dn_fix, ↓dn_ald, ↓dn_gld, ↓dn_yld, ↓dn_len, ↓dn_gln, ↓dn_cc, ↓dn_cb, ↓dn_and, ↓dn_or, ↓dn_not, ↓dn_cite, ↓dn_ec, ↓dn_ei, ↓dn_skip, ↓dn_seq, ↓dn_set, ↓dn_inc, ↓dn_putf, ↓dn_putz, ↓dn_ast, ↓dn_exp, ↓dn_if, ↓dn_ret, ↓dn_retz, ↓dn_retv, ↓dn_brk, ↓dn_cont, ↓dn_cs, ↓dn_sw, ↓dn_pop32, ↓dn_pop64, ↓dn_aop, ↓dn_call, ↓dn_max, ↓dn_min, ↓dn_acp, ↓dn_i2l, ↓dn_args0, ↓dn_args1, og_pad, og_ent, og_rlt, og_rle, og_rgt, og_rge, og_req, og_rne, og_padd, og_psub, og_pmul, List.getD_cons_zero, List.getD_cons_succ, List.set_cons_zero, List.set_cons_succ, List.length_cons, List.length_nil, List.cons_append, List.nil_append, List.replicate, List.append_nil, Nat.reduceAdd, Nat.reduceSub, Nat.reduceEqDiff, if_true, if_false, reduceIte, Int.reduceAdd, Int.reduceSub, Int.reduceMul, Int.reduceNeg, Int.reduceLT, Int.reduceLE, Int.cast_ofNat_Int, true_or, or_true, true_and, and_true, false_and, List.mem_cons, List.not_mem_nil, or_false, false_or, ne_eq, og_i32]
      rw [u1, ht2.1]
      by_cases hiL : i < L
      · have hb := sp.2.1 (tS B n a + i) (by omega) (by omega)
        rw [ht2.2.1 _ (by omega) hb.1]
        refine ⟨fun _ => ⟨by omega, by omega, r_isDigit ⟨fun _ => ?_, fun q => absurd hb.2 (by rw [ite00 q]; decide)⟩⟩, fun q => by omega⟩
        have h25 : h2 1000 5 = 0 := by rw [hf _ _ (by decide)]; exact hr1.1.1
        refine ⟨by omega, fun q4 => ?_, fun q4 => ?_⟩
        · refine r_fail h25 (by decide) (fun h3 hf3 f3 => ?_)
          have q4 : (i : Int) = 4 := by omega
          rw [u1, q4] at hf3
          exact hF 0 1 _ (Or.inr (Or.inl ⟨hk, by omega, rfl, rfl⟩)) (by decide) h3 hf3 (frX_tr fx1 (frX_tr (frX_2 hf) (fun i k hp => f3 i k (by omega))))
        · have hl := hb.2
          unfold isD at hl
          simp only [Bool.and_eq_true, decide_eq_true_eq] at hl
          have r1 := vr i (by omega)
          have r2 := vr (i + 1) (by omega)
          have ev : 10 * dV B (tS B n a) i + B (tS B n a + i) - 48 = dV B (tS B n a) (i + 1) := by rw [dV_s]; omega
          rw [u1, ht2.2.1 _ (by omega) hb.1, ev]
          refine ⟨by omega, by omega, by omega, by omega, by omega, by omega, og_nx_mk hiL ⟨by omega, by simp, by rw [og_up_eq]; omega, fun j k hjk => ?_⟩⟩
          have : og_up h2 1000 2 (tS B n a + (i : Int) + 1) j k = h2 j k := by unfold og_up; exact if_neg hjk
          rw [this]; exact hf j k hjk
      · have e : i = L := by omega
        subst e
        have eN : dV B (tS B n a) i = tN B n a := by
          unfold tN tL
          rw [show (tE B n a - tS B n a).toNat = i by omega, show min i 4 = i by omega]
        rw [← hL, eN]
        refine ⟨fun hlt2 => ?_, fun _ => ?_⟩
        · rw [ht2.2.1 _ (by omega) hlt2]
          refine ⟨by omega, by omega, r_isDigit ⟨fun q => absurd ⟨hlt2, ite10 q⟩ sp.2.2, fun _ => ?_⟩⟩
          first | exact ⟨by omega, hi4, hf⟩ | exact ⟨hi4, hf⟩ | exact ⟨rfl, by omega, hi4, hf⟩
        · first | exact ⟨by omega, hi4, hf⟩ | exact ⟨hi4, hf⟩ | exact ⟨rfl, by omega, hi4, hf⟩
    · rintro e2 h2 ⟨rfl, u1, hL4, hf⟩
      simp -implicitDefEqProofs only [↓dn_den, ↓dn_loc, ↓dn_k, ↓dn_add, ↓dn_sub, ↓dn_mul, ↓dn_div, ↓dn_rem, ↓dn_bop, ↓dn_ladd, ↓dn_lsub, ↓dn_lmul, ↓dn_ldiv, ↓dn_lrem, ↓dn_land, ↓dn_l2i, ↓dn_neg, ↓dn_get, ↓dn_fix, ↓dn_ald, ↓dn_gld, ↓dn_yld, ↓dn_len, ↓dn_gln, ↓dn_cc, ↓dn_cb, ↓dn_and, ↓dn_or, ↓dn_not, ↓dn_cite, ↓dn_ec, ↓dn_ei, ↓dn_skip, ↓dn_seq, ↓dn_set, ↓dn_inc, ↓dn_putf, ↓dn_putz, ↓dn_ast, ↓dn_exp, ↓dn_if, ↓dn_ret, ↓dn_retz, ↓dn_retv, ↓dn_brk, ↓dn_cont, ↓dn_cs, ↓dn_sw, ↓dn_pop32, ↓dn_pop64, ↓dn_aop, ↓dn_call, ↓dn_max, ↓dn_min, ↓dn_acp, ↓dn_i2l, ↓dn_args0, ↓dn_args1, og_pad, og_ent, og_rlt, og_rle, og_rgt, og_rge, og_req, og_rne, og_padd, og_psub, og_pmul, List.getD_cons_zero, List.getD_cons_succ, List.set_cons_zero, List.set_cons_succ, List.length_cons, List.length_nil, List.cons_append, List.nil_append, List.replicate, List.append_nil, Nat.reduceAdd, Nat.reduceSub, Nat.reduceEqDiff, if_true, if_false, reduceIte, Int.reduceAdd, Int.reduceSub, Int.reduceMul, Int.reduceNeg, Int.reduceLT, Int.reduceLE, Int.cast_ofNat_Int, true_or, or_true, true_and, and_true, false_and, List.mem_cons, List.not_mem_nil, or_false, false_or, ne_eq]
      have rN : 0 ≤ tN B n a ∧ tN B n a ≤ 9999 := by
        unfold tN tL
        rw [show (tE B n a - tS B n a).toNat = L by omega]
        exact vr _ (by omega)
      rw [u1]
      have h25 : og_up (og_up h2 1000 4 (tE B n a)) 1000 10 (tS B n a) 1000 5 = 0 := by rw [og_up_k (by decide), og_up_k (by decide), hf _ _ (by decide)]; exact hr1.1.1
      have f3 : frX h (og_up (og_up h2 1000 4 (tE B n a)) 1000 10 (tS B n a)) := frX_tr fx1 (fun i k hp => by
        unfold og_up
        rw [if_neg (by omega), if_neg (by omega)]
        exact hf i k (by omega))
      refine ⟨fun e3 h3 => e3 = [1000, l, m, tS B n a, tN B n a] ∧ ((l ≤ tN B n a ∧ tN B n a ≤ m → h3 = og_up (og_up h2 1000 4 (tE B n a)) 1000 10 (tS B n a)) ∧ (¬ (l ≤ tN B n a ∧ tN B n a ≤ m) → fltM h3 2 (tS B n a) ∧ frX h h3)), ?_, ?_⟩
      · simp -implicitDefEqProofs only [↓dn_den, ↓dn_loc, ↓dn_k, ↓dn_add, ↓dn_sub, ↓dn_mul, ↓dn_div, ↓dn_rem, ↓dn_bop, ↓dn_ladd, ↓dn_lsub, ↓dn_lmul, ↓dn_ldiv, ↓dn_lrem, ↓dn_land, ↓dn_l2i, ↓dn_neg, ↓dn_get, ↓dn_fix, ↓dn_ald, ↓dn_gld, ↓dn_yld, ↓dn_len, ↓dn_gln, ↓dn_cc, ↓dn_cb, ↓dn_and, ↓dn_or, ↓dn_not, ↓dn_cite, ↓dn_ec, ↓dn_ei, ↓dn_skip, ↓dn_seq, ↓dn_set, ↓dn_inc, ↓dn_putf, ↓dn_putz, ↓dn_ast, ↓dn_exp, ↓dn_if, ↓dn_ret, ↓dn_retz, ↓dn_retv, ↓dn_brk, ↓dn_cont, ↓dn_cs, ↓dn_sw, ↓dn_pop32, ↓dn_pop64, ↓dn_aop, ↓dn_call, ↓dn_max, ↓dn_min, ↓dn_acp, ↓dn_i2l, ↓dn_args0, ↓dn_args1, og_pad, og_ent, og_rlt, og_rle, og_rgt, og_rge, og_req, og_rne, og_padd, og_psub, og_pmul, List.getD_cons_zero, List.getD_cons_succ, List.set_cons_zero, List.set_cons_succ, List.length_cons, List.length_nil, List.cons_append, List.nil_append, List.replicate, List.append_nil, Nat.reduceAdd, Nat.reduceSub, Nat.reduceEqDiff, if_true, if_false, reduceIte, Int.reduceAdd, Int.reduceSub, Int.reduceMul, Int.reduceNeg, Int.reduceLT, Int.reduceLE, Int.cast_ofNat_Int, true_or, or_true, true_and, and_true, false_and, List.mem_cons, List.not_mem_nil, or_false, false_or, ne_eq]
        refine r_isIn ⟨fun z => ?_, fun z => ?_⟩
        · have z : l ≤ tN B n a ∧ tN B n a ≤ m := by
            by_cases q : l ≤ tN B n a ∧ tN B n a ≤ m
            · exact q
            · rw [if_neg q] at z; exact absurd rfl z
          first | exact ⟨rfl, fun _ => rfl, fun q => absurd z q⟩ | exact ⟨fun _ => rfl, fun q => absurd z q⟩ | exact fun q => absurd z q
        · have z : ¬ (l ≤ tN B n a ∧ tN B n a ≤ m) := fun q => by rw [if_pos q] at z; exact absurd z (by decide)
          have e10 : og_up (og_up h2 1000 4 (tE B n a)) 1000 10 (tS B n a) 1000 10 = tS B n a := og_up_eq
          rw [e10]
          refine r_fail h25 (by decide) (fun h4 hf4 f4 => ?_)
          have : fltM h4 2 (tS B n a) ∧ frX h h4 := ⟨hf4, frX_tr f3 (fun i k hp => f4 i k (by omega))⟩
          first | exact ⟨rfl, fun q => absurd q z, fun _ => this⟩ | exact ⟨fun q => absurd q z, fun _ => this⟩
      · rintro e3 h3 ⟨rfl, hy, hz⟩
        simp -implicitDefEqProofs only [↓dn_den, ↓dn_loc, ↓dn_k, ↓dn_add, ↓dn_sub, ↓dn_mul, ↓dn_div, ↓dn_rem, ↓dn_bop, ↓dn_ladd, ↓dn_lsub, ↓dn_lmul, ↓dn_ldiv, ↓dn_lrem, ↓dn_land, ↓dn_l2i, ↓dn_neg, ↓dn_get, ↓dn_fix, ↓dn_ald, ↓dn_gld, ↓dn_yld, ↓dn_len, ↓dn_gln, ↓dn_cc, ↓dn_cb, ↓dn_and, ↓dn_or, ↓dn_not, ↓dn_cite, ↓dn_ec, ↓dn_ei, ↓dn_skip, ↓dn_seq, ↓dn_set, ↓dn_inc, ↓dn_putf, ↓dn_putz, ↓dn_ast, ↓dn_exp, ↓dn_if, ↓dn_ret, ↓dn_retz, ↓dn_retv, ↓dn_brk, ↓dn_cont, ↓dn_cs, ↓dn_sw, ↓dn_pop32, ↓dn_pop64, ↓dn_aop, ↓dn_call, ↓dn_max, ↓dn_min, ↓dn_acp, ↓dn_i2l, ↓dn_args0, ↓dn_args1, og_pad, og_ent, og_rlt, og_rle, og_rgt, og_rge, og_req, og_rne, og_padd, og_psub, og_pmul, List.getD_cons_zero, List.getD_cons_succ, List.set_cons_zero, List.set_cons_succ, List.length_cons, List.length_nil, List.cons_append, List.nil_append, List.replicate, List.append_nil, Nat.reduceAdd, Nat.reduceSub, Nat.reduceEqDiff, if_true, if_false, reduceIte, Int.reduceAdd, Int.reduceSub, Int.reduceMul, Int.reduceNeg, Int.reduceLT, Int.reduceLE, Int.cast_ofNat_Int, true_or, or_true, true_and, and_true, false_and, List.mem_cons, List.not_mem_nil, or_false, false_or, ne_eq]
        by_cases q : l ≤ tN B n a ∧ tN B n a ≤ m
        · rw [hy q]
          exact hT hk (by omega) q _ (refS_num hr.2.1 hk ⟨h25, by rw [og_up_k (by decide), og_up_k (by decide), hf _ _ (by decide)]; exact hr1.1.2⟩ (by rw [og_up_k (by decide), og_up_k (by decide)]; exact u1) (by rw [og_up_k (by decide), og_up_eq])) f3
        · have hq := hz q
          exact hF _ 2 _ (Or.inr (Or.inr ⟨hk, by omega, q, rfl, rfl⟩)) rN h3 hq.1 hq.2
  · have z := ite00 z
    rw [v1]
    exact bad (fun hk => by
      have e := tE_2 hk
      rw [bt_in (by omega) e.1, e.2.1] at z; cases z)
end
end
